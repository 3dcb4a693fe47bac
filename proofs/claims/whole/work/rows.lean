section
-- ===== PART A: goes FIRST, ahead of the names: the tables' words, and 'selects' of the private methods out of them =====
/-- a private method of a class that the tables say can be made, by its rows of tables_1 -/
def lw_okq (q : MethodName × Nat) : Prop := (q.1.cls ≠ "java/lang/invoke/MethodHandle" ∧ q.1.cls ≠ "java/lang/invoke/VarHandle") ∧ Cond.instantiable q.1.cls q.2 ∈ tables_1 ∧ Cond.privateMethod q.1 ∈ tables_1 ∧ Cond.instanceMethod q.1 ∈ tables_1
theorem lw_p0 : lw_okq (⟨"WallTurns", "textOf", "(I)LWallTurns$Text;"⟩, 11) := ⟨⟨by decide +kernel, by decide +kernel⟩, List.mem_of_getElem? (i := 16) (by decide +kernel), List.mem_of_getElem? (i := 247) (by decide +kernel), List.mem_of_getElem? (i := 248) (by decide +kernel)⟩
theorem lw_p1 : lw_okq (⟨"WallTurns", "settle", "()V"⟩, 11) := ⟨⟨by decide +kernel, by decide +kernel⟩, List.mem_of_getElem? (i := 16) (by decide +kernel), List.mem_of_getElem? (i := 262) (by decide +kernel), List.mem_of_getElem? (i := 263) (by decide +kernel)⟩
theorem lw_p2 : lw_okq (⟨"WallTurns$Wall", "raze", "()V"⟩, 5) := ⟨⟨by decide +kernel, by decide +kernel⟩, List.mem_of_getElem? (i := 83) (by decide +kernel), List.mem_of_getElem? (i := 274) (by decide +kernel), List.mem_of_getElem? (i := 275) (by decide +kernel)⟩
theorem lw_p3 : lw_okq (⟨"WallTurns$Wall", "grow", "(I)Z"⟩, 5) := ⟨⟨by decide +kernel, by decide +kernel⟩, List.mem_of_getElem? (i := 83) (by decide +kernel), List.mem_of_getElem? (i := 286) (by decide +kernel), List.mem_of_getElem? (i := 287) (by decide +kernel)⟩
theorem lw_p4 : lw_okq (⟨"WallTurns$Script", "stateBehind", "(II)I"⟩, 5) := ⟨⟨by decide +kernel, by decide +kernel⟩, List.mem_of_getElem? (i := 54) (by decide +kernel), List.mem_of_getElem? (i := 313) (by decide +kernel), List.mem_of_getElem? (i := 314) (by decide +kernel)⟩
theorem lw_p5 : lw_okq (⟨"WallTurns$Script", "beginTurn", "()Z"⟩, 5) := ⟨⟨by decide +kernel, by decide +kernel⟩, List.mem_of_getElem? (i := 54) (by decide +kernel), List.mem_of_getElem? (i := 317) (by decide +kernel), List.mem_of_getElem? (i := 318) (by decide +kernel)⟩
theorem lw_p6 : lw_okq (⟨"WallTurns$Script", "tellLetter", "(II)I"⟩, 5) := ⟨⟨by decide +kernel, by decide +kernel⟩, List.mem_of_getElem? (i := 54) (by decide +kernel), List.mem_of_getElem? (i := 321) (by decide +kernel), List.mem_of_getElem? (i := 322) (by decide +kernel)⟩
theorem lw_p7 : lw_okq (⟨"WallTurns$Script", "nextPart", "(I)I"⟩, 5) := ⟨⟨by decide +kernel, by decide +kernel⟩, List.mem_of_getElem? (i := 54) (by decide +kernel), List.mem_of_getElem? (i := 326) (by decide +kernel), List.mem_of_getElem? (i := 327) (by decide +kernel)⟩
theorem lw_p8 : lw_okq (⟨"WallTurns$Script", "isTurn", "(I)Z"⟩, 5) := ⟨⟨by decide +kernel, by decide +kernel⟩, List.mem_of_getElem? (i := 54) (by decide +kernel), List.mem_of_getElem? (i := 330) (by decide +kernel), List.mem_of_getElem? (i := 331) (by decide +kernel)⟩
theorem lw_p9 : lw_okq (⟨"WallTurns$Script", "tellTake", "(II)I"⟩, 5) := ⟨⟨by decide +kernel, by decide +kernel⟩, List.mem_of_getElem? (i := 54) (by decide +kernel), List.mem_of_getElem? (i := 334) (by decide +kernel), List.mem_of_getElem? (i := 335) (by decide +kernel)⟩
theorem lw_p10 : lw_okq (⟨"WallTurns$Script", "tellPlace", "(II)I"⟩, 5) := ⟨⟨by decide +kernel, by decide +kernel⟩, List.mem_of_getElem? (i := 54) (by decide +kernel), List.mem_of_getElem? (i := 341) (by decide +kernel), List.mem_of_getElem? (i := 342) (by decide +kernel)⟩
theorem lw_p11 : lw_okq (⟨"WallTurns$Wall", "isWeak", "(III)Z"⟩, 5) := ⟨⟨by decide +kernel, by decide +kernel⟩, List.mem_of_getElem? (i := 83) (by decide +kernel), List.mem_of_getElem? (i := 477) (by decide +kernel), List.mem_of_getElem? (i := 478) (by decide +kernel)⟩
theorem lw_p12 : lw_okq (⟨"WallTurns$Sheets", "isItem", "(II)Z"⟩, 4) := ⟨⟨by decide +kernel, by decide +kernel⟩, List.mem_of_getElem? (i := 188) (by decide +kernel), List.mem_of_getElem? (i := 656) (by decide +kernel), List.mem_of_getElem? (i := 657) (by decide +kernel)⟩
theorem lw_p13 : lw_okq (⟨"WallTurns$Sights", "isSo", "(ILWallTurns$Wall;)Z"⟩, 4) := ⟨⟨by decide +kernel, by decide +kernel⟩, List.mem_of_getElem? (i := 169) (by decide +kernel), List.mem_of_getElem? (i := 677) (by decide +kernel), List.mem_of_getElem? (i := 678) (by decide +kernel)⟩
theorem lw_p14 : lw_okq (⟨"WallTurns$Fates", "shorten", "()V"⟩, 5) := ⟨⟨by decide +kernel, by decide +kernel⟩, List.mem_of_getElem? (i := 145) (by decide +kernel), List.mem_of_getElem? (i := 702) (by decide +kernel), List.mem_of_getElem? (i := 703) (by decide +kernel)⟩
theorem lw_p15 : lw_okq (⟨"WallTurns$Fates", "passYear", "(I)V"⟩, 5) := ⟨⟨by decide +kernel, by decide +kernel⟩, List.mem_of_getElem? (i := 145) (by decide +kernel), List.mem_of_getElem? (i := 724) (by decide +kernel), List.mem_of_getElem? (i := 725) (by decide +kernel)⟩
def lw_privs_1 : List (MethodName × Nat) := [(⟨"WallTurns", "textOf", "(I)LWallTurns$Text;"⟩, 11), (⟨"WallTurns", "settle", "()V"⟩, 11), (⟨"WallTurns$Wall", "raze", "()V"⟩, 5), (⟨"WallTurns$Wall", "grow", "(I)Z"⟩, 5), (⟨"WallTurns$Script", "stateBehind", "(II)I"⟩, 5), (⟨"WallTurns$Script", "beginTurn", "()Z"⟩, 5), (⟨"WallTurns$Script", "tellLetter", "(II)I"⟩, 5), (⟨"WallTurns$Script", "nextPart", "(I)I"⟩, 5), (⟨"WallTurns$Script", "isTurn", "(I)Z"⟩, 5), (⟨"WallTurns$Script", "tellTake", "(II)I"⟩, 5), (⟨"WallTurns$Script", "tellPlace", "(II)I"⟩, 5), (⟨"WallTurns$Wall", "isWeak", "(III)Z"⟩, 5), (⟨"WallTurns$Sheets", "isItem", "(II)Z"⟩, 4), (⟨"WallTurns$Sights", "isSo", "(ILWallTurns$Wall;)Z"⟩, 4), (⟨"WallTurns$Fates", "shorten", "()V"⟩, 5), (⟨"WallTurns$Fates", "passYear", "(I)V"⟩, 5)]
theorem lw_r1 : ∀ q ∈ lw_privs_1, lw_okq q := List.forall_mem_cons.mpr ⟨lw_p0, List.forall_mem_cons.mpr ⟨lw_p1, List.forall_mem_cons.mpr ⟨lw_p2, List.forall_mem_cons.mpr ⟨lw_p3, List.forall_mem_cons.mpr ⟨lw_p4, List.forall_mem_cons.mpr ⟨lw_p5, List.forall_mem_cons.mpr ⟨lw_p6, List.forall_mem_cons.mpr ⟨lw_p7, List.forall_mem_cons.mpr ⟨lw_p8, List.forall_mem_cons.mpr ⟨lw_p9, List.forall_mem_cons.mpr ⟨lw_p10, List.forall_mem_cons.mpr ⟨lw_p11, List.forall_mem_cons.mpr ⟨lw_p12, List.forall_mem_cons.mpr ⟨lw_p13, List.forall_mem_cons.mpr ⟨lw_p14, List.forall_mem_cons.mpr ⟨lw_p15, fun _ h => absurd h List.not_mem_nil⟩⟩⟩⟩⟩⟩⟩⟩⟩⟩⟩⟩⟩⟩⟩⟩
theorem lw_p16 : lw_okq (⟨"WallTurns$Fates", "lot", "(I)I"⟩, 5) := ⟨⟨by decide +kernel, by decide +kernel⟩, List.mem_of_getElem? (i := 145) (by decide +kernel), List.mem_of_getElem? (i := 728) (by decide +kernel), List.mem_of_getElem? (i := 729) (by decide +kernel)⟩
theorem lw_p17 : lw_okq (⟨"WallTurns", "mixColumn", "(JII)J"⟩, 11) := ⟨⟨by decide +kernel, by decide +kernel⟩, List.mem_of_getElem? (i := 16) (by decide +kernel), List.mem_of_getElem? (i := 836) (by decide +kernel), List.mem_of_getElem? (i := 837) (by decide +kernel)⟩
theorem lw_p18 : lw_okq (⟨"WallTurns", "mixBehind", "(JI)J"⟩, 11) := ⟨⟨by decide +kernel, by decide +kernel⟩, List.mem_of_getElem? (i := 16) (by decide +kernel), List.mem_of_getElem? (i := 844) (by decide +kernel), List.mem_of_getElem? (i := 845) (by decide +kernel)⟩
theorem lw_p19 : lw_okq (⟨"WallTurns", "mixPlans", "(J)J"⟩, 11) := ⟨⟨by decide +kernel, by decide +kernel⟩, List.mem_of_getElem? (i := 16) (by decide +kernel), List.mem_of_getElem? (i := 850) (by decide +kernel), List.mem_of_getElem? (i := 851) (by decide +kernel)⟩
theorem lw_p20 : lw_okq (⟨"WallTurnsModel", "finds", "(I)I"⟩, 24) := ⟨⟨by decide +kernel, by decide +kernel⟩, List.mem_of_getElem? (i := 861) (by decide +kernel), List.mem_of_getElem? (i := 952) (by decide +kernel), List.mem_of_getElem? (i := 953) (by decide +kernel)⟩
theorem lw_p21 : lw_okq (⟨"WallTurnsModel", "lacks", "(III)I"⟩, 24) := ⟨⟨by decide +kernel, by decide +kernel⟩, List.mem_of_getElem? (i := 861) (by decide +kernel), List.mem_of_getElem? (i := 964) (by decide +kernel), List.mem_of_getElem? (i := 965) (by decide +kernel)⟩
theorem lw_p22 : lw_okq (⟨"WallTurnsModel", "readsWall", "()I"⟩, 24) := ⟨⟨by decide +kernel, by decide +kernel⟩, List.mem_of_getElem? (i := 861) (by decide +kernel), List.mem_of_getElem? (i := 1000) (by decide +kernel), List.mem_of_getElem? (i := 1001) (by decide +kernel)⟩
theorem lw_p23 : lw_okq (⟨"WallTurnsModel", "readsTurns", "()I"⟩, 24) := ⟨⟨by decide +kernel, by decide +kernel⟩, List.mem_of_getElem? (i := 861) (by decide +kernel), List.mem_of_getElem? (i := 1007) (by decide +kernel), List.mem_of_getElem? (i := 1008) (by decide +kernel)⟩
theorem lw_p24 : lw_okq (⟨"WallTurnsModel", "readsTurn", "()Z"⟩, 24) := ⟨⟨by decide +kernel, by decide +kernel⟩, List.mem_of_getElem? (i := 861) (by decide +kernel), List.mem_of_getElem? (i := 1011) (by decide +kernel), List.mem_of_getElem? (i := 1012) (by decide +kernel)⟩
theorem lw_p25 : lw_okq (⟨"WallTurnsModel", "here", "()I"⟩, 24) := ⟨⟨by decide +kernel, by decide +kernel⟩, List.mem_of_getElem? (i := 861) (by decide +kernel), List.mem_of_getElem? (i := 1015) (by decide +kernel), List.mem_of_getElem? (i := 1016) (by decide +kernel)⟩
theorem lw_p26 : lw_okq (⟨"WallTurnsModel", "figure", "()I"⟩, 24) := ⟨⟨by decide +kernel, by decide +kernel⟩, List.mem_of_getElem? (i := 861) (by decide +kernel), List.mem_of_getElem? (i := 1019) (by decide +kernel), List.mem_of_getElem? (i := 1020) (by decide +kernel)⟩
theorem lw_p27 : lw_okq (⟨"WallTurnsModel", "reads", "()V"⟩, 24) := ⟨⟨by decide +kernel, by decide +kernel⟩, List.mem_of_getElem? (i := 861) (by decide +kernel), List.mem_of_getElem? (i := 1037) (by decide +kernel), List.mem_of_getElem? (i := 1038) (by decide +kernel)⟩
theorem lw_p28 : lw_okq (⟨"WallTurnsModel", "areTurns", "(I)Z"⟩, 24) := ⟨⟨by decide +kernel, by decide +kernel⟩, List.mem_of_getElem? (i := 861) (by decide +kernel), List.mem_of_getElem? (i := 1041) (by decide +kernel), List.mem_of_getElem? (i := 1042) (by decide +kernel)⟩
theorem lw_p29 : lw_okq (⟨"WallTurnsModel", "isColumn", "(I)Z"⟩, 24) := ⟨⟨by decide +kernel, by decide +kernel⟩, List.mem_of_getElem? (i := 861) (by decide +kernel), List.mem_of_getElem? (i := 1045) (by decide +kernel), List.mem_of_getElem? (i := 1046) (by decide +kernel)⟩
theorem lw_p30 : lw_okq (⟨"WallTurnsModel", "heightOf", "(II)I"⟩, 24) := ⟨⟨by decide +kernel, by decide +kernel⟩, List.mem_of_getElem? (i := 861) (by decide +kernel), List.mem_of_getElem? (i := 1049) (by decide +kernel), List.mem_of_getElem? (i := 1050) (by decide +kernel)⟩
theorem lw_p31 : lw_okq (⟨"WallTurnsModel", "lives", "(I)V"⟩, 24) := ⟨⟨by decide +kernel, by decide +kernel⟩, List.mem_of_getElem? (i := 861) (by decide +kernel), List.mem_of_getElem? (i := 1053) (by decide +kernel), List.mem_of_getElem? (i := 1054) (by decide +kernel)⟩
def lw_privs_2 : List (MethodName × Nat) := [(⟨"WallTurns$Fates", "lot", "(I)I"⟩, 5), (⟨"WallTurns", "mixColumn", "(JII)J"⟩, 11), (⟨"WallTurns", "mixBehind", "(JI)J"⟩, 11), (⟨"WallTurns", "mixPlans", "(J)J"⟩, 11), (⟨"WallTurnsModel", "finds", "(I)I"⟩, 24), (⟨"WallTurnsModel", "lacks", "(III)I"⟩, 24), (⟨"WallTurnsModel", "readsWall", "()I"⟩, 24), (⟨"WallTurnsModel", "readsTurns", "()I"⟩, 24), (⟨"WallTurnsModel", "readsTurn", "()Z"⟩, 24), (⟨"WallTurnsModel", "here", "()I"⟩, 24), (⟨"WallTurnsModel", "figure", "()I"⟩, 24), (⟨"WallTurnsModel", "reads", "()V"⟩, 24), (⟨"WallTurnsModel", "areTurns", "(I)Z"⟩, 24), (⟨"WallTurnsModel", "isColumn", "(I)Z"⟩, 24), (⟨"WallTurnsModel", "heightOf", "(II)I"⟩, 24), (⟨"WallTurnsModel", "lives", "(I)V"⟩, 24)]
theorem lw_r2 : ∀ q ∈ lw_privs_2, lw_okq q := List.forall_mem_cons.mpr ⟨lw_p16, List.forall_mem_cons.mpr ⟨lw_p17, List.forall_mem_cons.mpr ⟨lw_p18, List.forall_mem_cons.mpr ⟨lw_p19, List.forall_mem_cons.mpr ⟨lw_p20, List.forall_mem_cons.mpr ⟨lw_p21, List.forall_mem_cons.mpr ⟨lw_p22, List.forall_mem_cons.mpr ⟨lw_p23, List.forall_mem_cons.mpr ⟨lw_p24, List.forall_mem_cons.mpr ⟨lw_p25, List.forall_mem_cons.mpr ⟨lw_p26, List.forall_mem_cons.mpr ⟨lw_p27, List.forall_mem_cons.mpr ⟨lw_p28, List.forall_mem_cons.mpr ⟨lw_p29, List.forall_mem_cons.mpr ⟨lw_p30, List.forall_mem_cons.mpr ⟨lw_p31, fun _ h => absurd h List.not_mem_nil⟩⟩⟩⟩⟩⟩⟩⟩⟩⟩⟩⟩⟩⟩⟩⟩
theorem lw_p32 : lw_okq (⟨"WallTurnsModel", "begins", "()V"⟩, 24) := ⟨⟨by decide +kernel, by decide +kernel⟩, List.mem_of_getElem? (i := 861) (by decide +kernel), List.mem_of_getElem? (i := 1057) (by decide +kernel), List.mem_of_getElem? (i := 1058) (by decide +kernel)⟩
theorem lw_p33 : lw_okq (⟨"WallTurnsModel", "goes", "(I)V"⟩, 24) := ⟨⟨by decide +kernel, by decide +kernel⟩, List.mem_of_getElem? (i := 861) (by decide +kernel), List.mem_of_getElem? (i := 1061) (by decide +kernel), List.mem_of_getElem? (i := 1062) (by decide +kernel)⟩
theorem lw_p34 : lw_okq (⟨"WallTurnsModel", "whoseTurn", "(I)I"⟩, 24) := ⟨⟨by decide +kernel, by decide +kernel⟩, List.mem_of_getElem? (i := 861) (by decide +kernel), List.mem_of_getElem? (i := 1065) (by decide +kernel), List.mem_of_getElem? (i := 1066) (by decide +kernel)⟩
theorem lw_p35 : lw_okq (⟨"WallTurnsModel", "takes", "(II)Z"⟩, 24) := ⟨⟨by decide +kernel, by decide +kernel⟩, List.mem_of_getElem? (i := 861) (by decide +kernel), List.mem_of_getElem? (i := 1069) (by decide +kernel), List.mem_of_getElem? (i := 1070) (by decide +kernel)⟩
theorem lw_p36 : lw_okq (⟨"WallTurnsModel", "lays", "(III)Z"⟩, 24) := ⟨⟨by decide +kernel, by decide +kernel⟩, List.mem_of_getElem? (i := 861) (by decide +kernel), List.mem_of_getElem? (i := 1073) (by decide +kernel), List.mem_of_getElem? (i := 1074) (by decide +kernel)⟩
theorem lw_p37 : lw_okq (⟨"WallTurnsModel", "highOf", "(I)I"⟩, 24) := ⟨⟨by decide +kernel, by decide +kernel⟩, List.mem_of_getElem? (i := 861) (by decide +kernel), List.mem_of_getElem? (i := 1077) (by decide +kernel), List.mem_of_getElem? (i := 1078) (by decide +kernel)⟩
theorem lw_p38 : lw_okq (⟨"WallTurnsModel", "leanBehind", "(II)I"⟩, 24) := ⟨⟨by decide +kernel, by decide +kernel⟩, List.mem_of_getElem? (i := 861) (by decide +kernel), List.mem_of_getElem? (i := 1088) (by decide +kernel), List.mem_of_getElem? (i := 1089) (by decide +kernel)⟩
theorem lw_p39 : lw_okq (⟨"WallTurnsModel", "leanOf", "(I)I"⟩, 24) := ⟨⟨by decide +kernel, by decide +kernel⟩, List.mem_of_getElem? (i := 861) (by decide +kernel), List.mem_of_getElem? (i := 1092) (by decide +kernel), List.mem_of_getElem? (i := 1093) (by decide +kernel)⟩
theorem lw_p40 : lw_okq (⟨"WallTurnsModel", "stoneBehind", "(III)I"⟩, 24) := ⟨⟨by decide +kernel, by decide +kernel⟩, List.mem_of_getElem? (i := 861) (by decide +kernel), List.mem_of_getElem? (i := 1102) (by decide +kernel), List.mem_of_getElem? (i := 1103) (by decide +kernel)⟩
theorem lw_p41 : lw_okq (⟨"WallTurnsModel", "behindOf", "(II)I"⟩, 24) := ⟨⟨by decide +kernel, by decide +kernel⟩, List.mem_of_getElem? (i := 861) (by decide +kernel), List.mem_of_getElem? (i := 1110) (by decide +kernel), List.mem_of_getElem? (i := 1111) (by decide +kernel)⟩
theorem lw_p42 : lw_okq (⟨"WallTurnsModel", "weakNow", "()I"⟩, 24) := ⟨⟨by decide +kernel, by decide +kernel⟩, List.mem_of_getElem? (i := 861) (by decide +kernel), List.mem_of_getElem? (i := 1114) (by decide +kernel), List.mem_of_getElem? (i := 1115) (by decide +kernel)⟩
theorem lw_p43 : lw_okq (⟨"WallTurnsModel", "beside", "(I)I"⟩, 24) := ⟨⟨by decide +kernel, by decide +kernel⟩, List.mem_of_getElem? (i := 861) (by decide +kernel), List.mem_of_getElem? (i := 1118) (by decide +kernel), List.mem_of_getElem? (i := 1119) (by decide +kernel)⟩
theorem lw_p44 : lw_okq (⟨"WallTurnsModel", "pearsNow", "()I"⟩, 24) := ⟨⟨by decide +kernel, by decide +kernel⟩, List.mem_of_getElem? (i := 861) (by decide +kernel), List.mem_of_getElem? (i := 1125) (by decide +kernel), List.mem_of_getElem? (i := 1126) (by decide +kernel)⟩
theorem lw_p45 : lw_okq (⟨"WallTurnsModel", "weighs", "(I)I"⟩, 24) := ⟨⟨by decide +kernel, by decide +kernel⟩, List.mem_of_getElem? (i := 861) (by decide +kernel), List.mem_of_getElem? (i := 1132) (by decide +kernel), List.mem_of_getElem? (i := 1133) (by decide +kernel)⟩
theorem lw_p46 : lw_okq (⟨"WallTurnsModel", "turnOf", "(II)I"⟩, 24) := ⟨⟨by decide +kernel, by decide +kernel⟩, List.mem_of_getElem? (i := 861) (by decide +kernel), List.mem_of_getElem? (i := 1140) (by decide +kernel), List.mem_of_getElem? (i := 1141) (by decide +kernel)⟩
theorem lw_p47 : lw_okq (⟨"WallTurnsModel", "firstOf", "(I)I"⟩, 24) := ⟨⟨by decide +kernel, by decide +kernel⟩, List.mem_of_getElem? (i := 861) (by decide +kernel), List.mem_of_getElem? (i := 1148) (by decide +kernel), List.mem_of_getElem? (i := 1149) (by decide +kernel)⟩
def lw_privs_3 : List (MethodName × Nat) := [(⟨"WallTurnsModel", "begins", "()V"⟩, 24), (⟨"WallTurnsModel", "goes", "(I)V"⟩, 24), (⟨"WallTurnsModel", "whoseTurn", "(I)I"⟩, 24), (⟨"WallTurnsModel", "takes", "(II)Z"⟩, 24), (⟨"WallTurnsModel", "lays", "(III)Z"⟩, 24), (⟨"WallTurnsModel", "highOf", "(I)I"⟩, 24), (⟨"WallTurnsModel", "leanBehind", "(II)I"⟩, 24), (⟨"WallTurnsModel", "leanOf", "(I)I"⟩, 24), (⟨"WallTurnsModel", "stoneBehind", "(III)I"⟩, 24), (⟨"WallTurnsModel", "behindOf", "(II)I"⟩, 24), (⟨"WallTurnsModel", "weakNow", "()I"⟩, 24), (⟨"WallTurnsModel", "beside", "(I)I"⟩, 24), (⟨"WallTurnsModel", "pearsNow", "()I"⟩, 24), (⟨"WallTurnsModel", "weighs", "(I)I"⟩, 24), (⟨"WallTurnsModel", "turnOf", "(II)I"⟩, 24), (⟨"WallTurnsModel", "firstOf", "(I)I"⟩, 24)]
theorem lw_r3 : ∀ q ∈ lw_privs_3, lw_okq q := List.forall_mem_cons.mpr ⟨lw_p32, List.forall_mem_cons.mpr ⟨lw_p33, List.forall_mem_cons.mpr ⟨lw_p34, List.forall_mem_cons.mpr ⟨lw_p35, List.forall_mem_cons.mpr ⟨lw_p36, List.forall_mem_cons.mpr ⟨lw_p37, List.forall_mem_cons.mpr ⟨lw_p38, List.forall_mem_cons.mpr ⟨lw_p39, List.forall_mem_cons.mpr ⟨lw_p40, List.forall_mem_cons.mpr ⟨lw_p41, List.forall_mem_cons.mpr ⟨lw_p42, List.forall_mem_cons.mpr ⟨lw_p43, List.forall_mem_cons.mpr ⟨lw_p44, List.forall_mem_cons.mpr ⟨lw_p45, List.forall_mem_cons.mpr ⟨lw_p46, List.forall_mem_cons.mpr ⟨lw_p47, fun _ h => absurd h List.not_mem_nil⟩⟩⟩⟩⟩⟩⟩⟩⟩⟩⟩⟩⟩⟩⟩⟩
theorem lw_p48 : lw_okq (⟨"WallTurnsModel", "highestNow", "()I"⟩, 24) := ⟨⟨by decide +kernel, by decide +kernel⟩, List.mem_of_getElem? (i := 861) (by decide +kernel), List.mem_of_getElem? (i := 1156) (by decide +kernel), List.mem_of_getElem? (i := 1157) (by decide +kernel)⟩
theorem lw_p49 : lw_okq (⟨"WallTurnsModel", "planOf", "(II)I"⟩, 24) := ⟨⟨by decide +kernel, by decide +kernel⟩, List.mem_of_getElem? (i := 861) (by decide +kernel), List.mem_of_getElem? (i := 1164) (by decide +kernel), List.mem_of_getElem? (i := 1165) (by decide +kernel)⟩
theorem lw_p50 : lw_okq (⟨"WallTurnsModel", "mends", "(I)Z"⟩, 24) := ⟨⟨by decide +kernel, by decide +kernel⟩, List.mem_of_getElem? (i := 861) (by decide +kernel), List.mem_of_getElem? (i := 1168) (by decide +kernel), List.mem_of_getElem? (i := 1169) (by decide +kernel)⟩
theorem lw_p51 : lw_okq (⟨"WallTurnsModel", "opens", "(II)Z"⟩, 24) := ⟨⟨by decide +kernel, by decide +kernel⟩, List.mem_of_getElem? (i := 861) (by decide +kernel), List.mem_of_getElem? (i := 1172) (by decide +kernel), List.mem_of_getElem? (i := 1173) (by decide +kernel)⟩
theorem lw_p52 : lw_okq (⟨"WallTurnsModel", "goesOn", "(II)Z"⟩, 24) := ⟨⟨by decide +kernel, by decide +kernel⟩, List.mem_of_getElem? (i := 861) (by decide +kernel), List.mem_of_getElem? (i := 1176) (by decide +kernel), List.mem_of_getElem? (i := 1177) (by decide +kernel)⟩
theorem lw_p53 : lw_okq (⟨"WallTurnsModel", "sidesOf", "(II)I"⟩, 24) := ⟨⟨by decide +kernel, by decide +kernel⟩, List.mem_of_getElem? (i := 861) (by decide +kernel), List.mem_of_getElem? (i := 1189) (by decide +kernel), List.mem_of_getElem? (i := 1190) (by decide +kernel)⟩
theorem lw_p54 : lw_okq (⟨"WallTurnsModel", "endOf", "(II)I"⟩, 24) := ⟨⟨by decide +kernel, by decide +kernel⟩, List.mem_of_getElem? (i := 861) (by decide +kernel), List.mem_of_getElem? (i := 1193) (by decide +kernel), List.mem_of_getElem? (i := 1194) (by decide +kernel)⟩
theorem lw_p55 : lw_okq (⟨"WallTurnsModel", "whoBy", "(I)I"⟩, 24) := ⟨⟨by decide +kernel, by decide +kernel⟩, List.mem_of_getElem? (i := 861) (by decide +kernel), List.mem_of_getElem? (i := 1219) (by decide +kernel), List.mem_of_getElem? (i := 1220) (by decide +kernel)⟩
theorem lw_p56 : lw_okq (⟨"WallTurnsModel", "isSeen", "()Z"⟩, 24) := ⟨⟨by decide +kernel, by decide +kernel⟩, List.mem_of_getElem? (i := 861) (by decide +kernel), List.mem_of_getElem? (i := 1223) (by decide +kernel), List.mem_of_getElem? (i := 1224) (by decide +kernel)⟩
theorem lw_p57 : lw_okq (⟨"WallTurnsModel", "frostOf", "(II)J"⟩, 24) := ⟨⟨by decide +kernel, by decide +kernel⟩, List.mem_of_getElem? (i := 861) (by decide +kernel), List.mem_of_getElem? (i := 1231) (by decide +kernel), List.mem_of_getElem? (i := 1232) (by decide +kernel)⟩
theorem lw_p58 : lw_okq (⟨"WallTurnsModel", "yearsOf", "(III)I"⟩, 24) := ⟨⟨by decide +kernel, by decide +kernel⟩, List.mem_of_getElem? (i := 861) (by decide +kernel), List.mem_of_getElem? (i := 1247) (by decide +kernel), List.mem_of_getElem? (i := 1248) (by decide +kernel)⟩
theorem lw_p59 : lw_okq (⟨"WallTurnsModel", "lot", "(I)I"⟩, 24) := ⟨⟨by decide +kernel, by decide +kernel⟩, List.mem_of_getElem? (i := 861) (by decide +kernel), List.mem_of_getElem? (i := 1251) (by decide +kernel), List.mem_of_getElem? (i := 1252) (by decide +kernel)⟩
theorem lw_p60 : lw_okq (⟨"WallTurnsModel", "working", "()I"⟩, 24) := ⟨⟨by decide +kernel, by decide +kernel⟩, List.mem_of_getElem? (i := 861) (by decide +kernel), List.mem_of_getElem? (i := 1267) (by decide +kernel), List.mem_of_getElem? (i := 1268) (by decide +kernel)⟩
theorem lw_p61 : lw_okq (⟨"WallTurnsModel", "tellsColumn", "(JII)J"⟩, 24) := ⟨⟨by decide +kernel, by decide +kernel⟩, List.mem_of_getElem? (i := 861) (by decide +kernel), List.mem_of_getElem? (i := 1278) (by decide +kernel), List.mem_of_getElem? (i := 1279) (by decide +kernel)⟩
def lw_privs_4 : List (MethodName × Nat) := [(⟨"WallTurnsModel", "highestNow", "()I"⟩, 24), (⟨"WallTurnsModel", "planOf", "(II)I"⟩, 24), (⟨"WallTurnsModel", "mends", "(I)Z"⟩, 24), (⟨"WallTurnsModel", "opens", "(II)Z"⟩, 24), (⟨"WallTurnsModel", "goesOn", "(II)Z"⟩, 24), (⟨"WallTurnsModel", "sidesOf", "(II)I"⟩, 24), (⟨"WallTurnsModel", "endOf", "(II)I"⟩, 24), (⟨"WallTurnsModel", "whoBy", "(I)I"⟩, 24), (⟨"WallTurnsModel", "isSeen", "()Z"⟩, 24), (⟨"WallTurnsModel", "frostOf", "(II)J"⟩, 24), (⟨"WallTurnsModel", "yearsOf", "(III)I"⟩, 24), (⟨"WallTurnsModel", "lot", "(I)I"⟩, 24), (⟨"WallTurnsModel", "working", "()I"⟩, 24), (⟨"WallTurnsModel", "tellsColumn", "(JII)J"⟩, 24)]
theorem lw_r4 : ∀ q ∈ lw_privs_4, lw_okq q := List.forall_mem_cons.mpr ⟨lw_p48, List.forall_mem_cons.mpr ⟨lw_p49, List.forall_mem_cons.mpr ⟨lw_p50, List.forall_mem_cons.mpr ⟨lw_p51, List.forall_mem_cons.mpr ⟨lw_p52, List.forall_mem_cons.mpr ⟨lw_p53, List.forall_mem_cons.mpr ⟨lw_p54, List.forall_mem_cons.mpr ⟨lw_p55, List.forall_mem_cons.mpr ⟨lw_p56, List.forall_mem_cons.mpr ⟨lw_p57, List.forall_mem_cons.mpr ⟨lw_p58, List.forall_mem_cons.mpr ⟨lw_p59, List.forall_mem_cons.mpr ⟨lw_p60, List.forall_mem_cons.mpr ⟨lw_p61, fun _ h => absurd h List.not_mem_nil⟩⟩⟩⟩⟩⟩⟩⟩⟩⟩⟩⟩⟩⟩
def lw_privs : List (MethodName × Nat) := lw_privs_1 ++ (lw_privs_2 ++ (lw_privs_3 ++ (lw_privs_4)))
def lw_tbl : List Cond := k2_sels lw_privs ++ tables_1
theorem lw_privs_ok : ∀ q ∈ lw_privs, lw_okq q := by
  show ∀ q ∈ lw_privs_1 ++ (lw_privs_2 ++ (lw_privs_3 ++ (lw_privs_4))), lw_okq q
  exact List.forall_mem_append.mpr ⟨lw_r1, List.forall_mem_append.mpr ⟨lw_r2, List.forall_mem_append.mpr ⟨lw_r3, lw_r4⟩⟩⟩
-- ===== end of PART A; then your names; then what follows =====

def RX0 : String := "WallTurns$Fates"
def TX0 : u_T := fun k => match k with
  | 0 => ("WallTurns$Fates", "wall", "LWallTurns$Wall;", true)
  | 1 => ("WallTurns$Fates", "above", "J", false)
  | 2 => ("WallTurns$Fates", "below", "J", false)
  | 3 => ("WallTurns$Fates", "seed", "I", false)
  | _ => ("WallTurns$Fates", "fallen", "I", false)
def tyX0 : Nat → FieldType := fun k => match k with
  | 0 => .object "WallTurns$Wall"
  | 1 => .long
  | 2 => .long
  | 3 => .int
  | _ => .int
abbrev wsX00 : List Cond := u_ws RX0 TX0 5
theorem nmX0 : ∀ a, a < 5 → ∀ b, b < 5 → a ≠ b → (TX0 a).2.1 ≠ (TX0 b).2.1 := by decide +kernel
theorem tyX0_ok : ∀ k, k < 5 → parseFieldDescriptor (TX0 k).2.2.1 = some (tyX0 k) := by decide +kernel
abbrev cX0_init : ByteArray := prog_2_method_1_code
def yX0_init : MethodName := ⟨RX0, "<init>", "()V"⟩
abbrev cX0_above : ByteArray := prog_2_method_2_code
def yX0_above : MethodName := ⟨RX0, "above", "()J"⟩
abbrev cX0_below : ByteArray := prog_2_method_3_code
def yX0_below : MethodName := ⟨RX0, "below", "()J"⟩
abbrev cX0_freeze : ByteArray := prog_2_method_4_code
def yX0_freeze : MethodName := ⟨RX0, "freeze", "(LWallTurns$Wall;LWallTurns$Rules;I)V"⟩
abbrev cX0_standing : ByteArray := prog_2_method_5_code
def yX0_standing : MethodName := ⟨RX0, "standing", "(LWallTurns$Wall;LWallTurns$Rules;II)J"⟩
abbrev cX0_shorten : ByteArray := prog_2_method_6_code
def yX0_shorten : MethodName := ⟨RX0, "shorten", "()V"⟩
abbrev cX0_fallenYears : ByteArray := prog_2_method_7_code
def yX0_fallenYears : MethodName := ⟨RX0, "fallenYears", "()I"⟩
abbrev cX0_heightOf : ByteArray := prog_2_method_8_code
def yX0_heightOf : MethodName := ⟨RX0, "heightOf", "(I)I"⟩
abbrev cX0_live : ByteArray := prog_2_method_9_code
def yX0_live : MethodName := ⟨RX0, "live", "(LWallTurns$Wall;LWallTurns$Rules;III)V"⟩
abbrev cX0_passYear : ByteArray := prog_2_method_10_code
def yX0_passYear : MethodName := ⟨RX0, "passYear", "(I)V"⟩
abbrev cX0_lot : ByteArray := prog_2_method_11_code
def yX0_lot : MethodName := ⟨RX0, "lot", "(I)I"⟩
def RX1 : String := "WallTurns$Past"
def TX1 : u_T := fun k => match k with
  | 0 => ("WallTurns$Past", "walls", "[LWallTurns$Wall;", true)
  | 1 => ("WallTurns$Past", "took", "[I", true)
  | 2 => ("WallTurns$Past", "laid", "[I", true)
  | 3 => ("WallTurns$Past", "other", "LWallTurns$Wall;", true)
  | _ => ("WallTurns$Past", "turns", "I", false)
def tyX1 : Nat → FieldType := fun k => match k with
  | 0 => .array (.object "WallTurns$Wall")
  | 1 => .array .int
  | 2 => .array .int
  | 3 => .object "WallTurns$Wall"
  | _ => .int
abbrev wsX10 : List Cond := u_ws RX1 TX1 5
theorem nmX1 : ∀ a, a < 5 → ∀ b, b < 5 → a ≠ b → (TX1 a).2.1 ≠ (TX1 b).2.1 := by decide +kernel
theorem tyX1_ok : ∀ k, k < 5 → parseFieldDescriptor (TX1 k).2.2.1 = some (tyX1 k) := by decide +kernel
abbrev cX1_init : ByteArray := prog_3_method_1_code
def yX1_init : MethodName := ⟨RX1, "<init>", "()V"⟩
abbrev cX1_start : ByteArray := prog_3_method_2_code
def yX1_start : MethodName := ⟨RX1, "start", "()LWallTurns$Wall;"⟩
abbrev cX1_last : ByteArray := prog_3_method_3_code
def yX1_last : MethodName := ⟨RX1, "last", "()LWallTurns$Wall;"⟩
abbrev cX1_turnCount : ByteArray := prog_3_method_4_code
def yX1_turnCount : MethodName := ⟨RX1, "turnCount", "()I"⟩
abbrev cX1_hasTurn : ByteArray := prog_3_method_5_code
def yX1_hasTurn : MethodName := ⟨RX1, "hasTurn", "(I)Z"⟩
abbrev cX1_wallBehind : ByteArray := prog_3_method_6_code
def yX1_wallBehind : MethodName := ⟨RX1, "wallBehind", "(I)LWallTurns$Wall;"⟩
abbrev cX1_tookIn : ByteArray := prog_3_method_7_code
def yX1_tookIn : MethodName := ⟨RX1, "tookIn", "(I)I"⟩
abbrev cX1_laidIn : ByteArray := prog_3_method_8_code
def yX1_laidIn : MethodName := ⟨RX1, "laidIn", "(I)I"⟩
abbrev cX1_busyTurns : ByteArray := prog_3_method_9_code
def yX1_busyTurns : MethodName := ⟨RX1, "busyTurns", "()I"⟩
abbrev cX1_replay : ByteArray := prog_3_method_10_code
def yX1_replay : MethodName := ⟨RX1, "replay", "(LWallTurns$Script;LWallTurns$Rules;)V"⟩
abbrev cX1_wouldFit : ByteArray := prog_3_method_11_code
def yX1_wouldFit : MethodName := ⟨RX1, "wouldFit", "(LWallTurns$Sights;LWallTurns$Script;LWallTurns$Rules;II)Z"⟩
def RX2 : String := "WallTurns$Plans"
def TX2 : u_T := fun k => match k with
  | 0 => ("WallTurns$Plans", "wall", "LWallTurns$Wall;", true)
  | 1 => ("WallTurns$Plans", "row", "[I", true)
  | 2 => ("WallTurns$Plans", "moves", "[I", true)
  | 3 => ("WallTurns$Plans", "needed", "I", false)
  | _ => ("WallTurns$Plans", "firstMove", "I", false)
def tyX2 : Nat → FieldType := fun k => match k with
  | 0 => .object "WallTurns$Wall"
  | 1 => .array .int
  | 2 => .array .int
  | 3 => .int
  | _ => .int
abbrev wsX20 : List Cond := u_ws RX2 TX2 5
theorem nmX2 : ∀ a, a < 5 → ∀ b, b < 5 → a ≠ b → (TX2 a).2.1 ≠ (TX2 b).2.1 := by decide +kernel
theorem tyX2_ok : ∀ k, k < 5 → parseFieldDescriptor (TX2 k).2.2.1 = some (tyX2 k) := by decide +kernel
abbrev cX2_init : ByteArray := prog_4_method_1_code
def yX2_init : MethodName := ⟨RX2, "<init>", "()V"⟩
abbrev cX2_told : ByteArray := prog_4_method_2_code
def yX2_told : MethodName := ⟨RX2, "told", "(I)I"⟩
abbrev cX2_searchMend : ByteArray := prog_4_method_3_code
def yX2_searchMend : MethodName := ⟨RX2, "searchMend", "(LWallTurns$Wall;LWallTurns$Rules;)V"⟩
abbrev cX2_canMend : ByteArray := prog_4_method_4_code
def yX2_canMend : MethodName := ⟨RX2, "canMend", "(LWallTurns$Wall;LWallTurns$Rules;[III)Z"⟩
abbrev cX2_searchOpen : ByteArray := prog_4_method_5_code
def yX2_searchOpen : MethodName := ⟨RX2, "searchOpen", "(LWallTurns$Wall;LWallTurns$Rules;I)V"⟩
abbrev cX2_canOpen : ByteArray := prog_4_method_6_code
def yX2_canOpen : MethodName := ⟨RX2, "canOpen", "(LWallTurns$Wall;LWallTurns$Rules;I[III)Z"⟩
abbrev cX2_leastAt : ByteArray := prog_4_method_7_code
def yX2_leastAt : MethodName := ⟨RX2, "leastAt", "([II)I"⟩
abbrev cX2_playOn : ByteArray := prog_4_method_8_code
def yX2_playOn : MethodName := ⟨RX2, "playOn", "(LWallTurns$Wall;LWallTurns$Rules;II)I"⟩
abbrev cX2_firstMove : ByteArray := prog_4_method_9_code
def yX2_firstMove : MethodName := ⟨RX2, "firstMove", "()I"⟩
abbrev cX2_bestWorth : ByteArray := prog_4_method_10_code
def yX2_bestWorth : MethodName := ⟨RX2, "bestWorth", "(LWallTurns$Wall;LWallTurns$Rules;[III)I"⟩
abbrev cX2_isBetter : ByteArray := prog_4_method_11_code
def yX2_isBetter : MethodName := ⟨RX2, "isBetter", "(III)Z"⟩
def RX3 : String := "WallTurns$Rules"
def TX3 : u_T := fun k => match k with
  | _ => ("WallTurns$Rules", "values", "[I", true)
def tyX3 : Nat → FieldType := fun k => match k with
  | _ => .array .int
abbrev wsX30 : List Cond := u_ws RX3 TX3 1
theorem nmX3 : ∀ a, a < 1 → ∀ b, b < 1 → a ≠ b → (TX3 a).2.1 ≠ (TX3 b).2.1 := by decide +kernel
theorem tyX3_ok : ∀ k, k < 1 → parseFieldDescriptor (TX3 k).2.2.1 = some (tyX3 k) := by decide +kernel
abbrev cX3_init : ByteArray := prog_5_method_1_code
def yX3_init : MethodName := ⟨RX3, "<init>", "()V"⟩
abbrev cX3_allows : ByteArray := prog_5_method_2_code
def yX3_allows : MethodName := ⟨RX3, "allows", "(II)Z"⟩
abbrev cX3_value : ByteArray := prog_5_method_3_code
def yX3_value : MethodName := ⟨RX3, "value", "(I)I"⟩
abbrev cX3_become : ByteArray := prog_5_method_4_code
def yX3_become : MethodName := ⟨RX3, "become", "(II)V"⟩
abbrev cX3_brotherOf : ByteArray := prog_5_method_5_code
def yX3_brotherOf : MethodName := ⟨RX3, "brotherOf", "(I)I"⟩
abbrev cX3_mostAbove : ByteArray := prog_5_method_6_code
def yX3_mostAbove : MethodName := ⟨RX3, "mostAbove", "()I"⟩
abbrev cX3_wantsSun : ByteArray := prog_5_method_7_code
def yX3_wantsSun : MethodName := ⟨RX3, "wantsSun", "(I)Z"⟩
def RX4 : String := "WallTurns$Script"
def TX4 : u_T := fun k => match k with
  | 0 => ("WallTurns$Script", "takes", "[I", true)
  | 1 => ("WallTurns$Script", "lays", "[I", true)
  | 2 => ("WallTurns$Script", "stones", "[I", true)
  | 3 => ("WallTurns$Script", "places", "[I", true)
  | _ => ("WallTurns$Script", "turns", "I", false)
def tyX4 : Nat → FieldType := fun k => match k with
  | 0 => .array .int
  | 1 => .array .int
  | 2 => .array .int
  | 3 => .array .int
  | _ => .int
abbrev wsX40 : List Cond := u_ws RX4 TX4 5
theorem nmX4 : ∀ a, a < 5 → ∀ b, b < 5 → a ≠ b → (TX4 a).2.1 ≠ (TX4 b).2.1 := by decide +kernel
theorem tyX4_ok : ∀ k, k < 5 → parseFieldDescriptor (TX4 k).2.2.1 = some (tyX4 k) := by decide +kernel
abbrev cX4_init : ByteArray := prog_6_method_1_code
def yX4_init : MethodName := ⟨RX4, "<init>", "()V"⟩
abbrev cX4_turnCount : ByteArray := prog_6_method_2_code
def yX4_turnCount : MethodName := ⟨RX4, "turnCount", "()I"⟩
abbrev cX4_parse : ByteArray := prog_6_method_3_code
def yX4_parse : MethodName := ⟨RX4, "parse", "(LWallTurns$Text;)I"⟩
abbrev cX4_stateBehind : ByteArray := prog_6_method_4_code
def yX4_stateBehind : MethodName := ⟨RX4, "stateBehind", "(II)I"⟩
abbrev cX4_beginTurn : ByteArray := prog_6_method_5_code
def yX4_beginTurn : MethodName := ⟨RX4, "beginTurn", "()Z"⟩
abbrev cX4_tellTake : ByteArray := prog_6_method_6_code
def yX4_tellTake : MethodName := ⟨RX4, "tellTake", "(II)I"⟩
abbrev cX4_tellLetter : ByteArray := prog_6_method_7_code
def yX4_tellLetter : MethodName := ⟨RX4, "tellLetter", "(II)I"⟩
abbrev cX4_tellPlace : ByteArray := prog_6_method_8_code
def yX4_tellPlace : MethodName := ⟨RX4, "tellPlace", "(II)I"⟩
abbrev cX4_isTurn : ByteArray := prog_6_method_9_code
def yX4_isTurn : MethodName := ⟨RX4, "isTurn", "(I)Z"⟩
abbrev cX4_nextPart : ByteArray := prog_6_method_10_code
def yX4_nextPart : MethodName := ⟨RX4, "nextPart", "(I)I"⟩
abbrev cX4_doTake : ByteArray := prog_6_method_11_code
def yX4_doTake : MethodName := ⟨RX4, "doTake", "(IILWallTurns$Wall;)I"⟩
abbrev cX4_doLays : ByteArray := prog_6_method_12_code
def yX4_doLays : MethodName := ⟨RX4, "doLays", "(IILWallTurns$Wall;)I"⟩
def RX5 : String := "WallTurns$Sheets"
def TX5 : u_T := fun k => match k with
  | 0 => ("WallTurns$Sheets", "items", "[[I", true)
  | 1 => ("WallTurns$Sheets", "forms", "[I", true)
  | 2 => ("WallTurns$Sheets", "sizes", "[I", true)
  | _ => ("WallTurns$Sheets", "finding", "I", false)
def tyX5 : Nat → FieldType := fun k => match k with
  | 0 => .array (.array .int)
  | 1 => .array .int
  | 2 => .array .int
  | _ => .int
abbrev wsX50 : List Cond := u_ws RX5 TX5 4
theorem nmX5 : ∀ a, a < 4 → ∀ b, b < 4 → a ≠ b → (TX5 a).2.1 ≠ (TX5 b).2.1 := by decide +kernel
theorem tyX5_ok : ∀ k, k < 4 → parseFieldDescriptor (TX5 k).2.2.1 = some (tyX5 k) := by decide +kernel
abbrev cX5_init : ByteArray := prog_7_method_1_code
def yX5_init : MethodName := ⟨RX5, "<init>", "()V"⟩
abbrev cX5_isSheet : ByteArray := prog_7_method_2_code
def yX5_isSheet : MethodName := ⟨RX5, "isSheet", "(I)Z"⟩
abbrev cX5_isForm : ByteArray := prog_7_method_3_code
def yX5_isForm : MethodName := ⟨RX5, "isForm", "(I)Z"⟩
abbrev cX5_find : ByteArray := prog_7_method_4_code
def yX5_find : MethodName := ⟨RX5, "find", "(I)I"⟩
abbrev cX5_latestFinding : ByteArray := prog_7_method_5_code
def yX5_latestFinding : MethodName := ⟨RX5, "latestFinding", "()I"⟩
abbrev cX5_isLost : ByteArray := prog_7_method_6_code
def yX5_isLost : MethodName := ⟨RX5, "isLost", "(I)Z"⟩
abbrev cX5_sizeOf : ByteArray := prog_7_method_7_code
def yX5_sizeOf : MethodName := ⟨RX5, "sizeOf", "(I)I"⟩
abbrev cX5_formOf : ByteArray := prog_7_method_8_code
def yX5_formOf : MethodName := ⟨RX5, "formOf", "(I)I"⟩
abbrev cX5_make : ByteArray := prog_7_method_9_code
def yX5_make : MethodName := ⟨RX5, "make", "(III)V"⟩
abbrev cX5_drop : ByteArray := prog_7_method_10_code
def yX5_drop : MethodName := ⟨RX5, "drop", "(I)V"⟩
abbrev cX5_refusalOf : ByteArray := prog_7_method_11_code
def yX5_refusalOf : MethodName := ⟨RX5, "refusalOf", "(III)I"⟩
abbrev cX5_isItem : ByteArray := prog_7_method_12_code
def yX5_isItem : MethodName := ⟨RX5, "isItem", "(II)Z"⟩
abbrev cX5_itemAt : ByteArray := prog_7_method_13_code
def yX5_itemAt : MethodName := ⟨RX5, "itemAt", "(II)I"⟩
abbrev cX5_put : ByteArray := prog_7_method_14_code
def yX5_put : MethodName := ⟨RX5, "put", "(III)V"⟩
abbrev cX5_asForm : ByteArray := prog_7_method_15_code
def yX5_asForm : MethodName := ⟨RX5, "asForm", "(II)I"⟩
abbrev cX5_holds : ByteArray := prog_7_method_16_code
def yX5_holds : MethodName := ⟨RX5, "holds", "(III)Z"⟩
abbrev cX5_move : ByteArray := prog_7_method_17_code
def yX5_move : MethodName := ⟨RX5, "move", "(IIIII)V"⟩
def RX6 : String := "WallTurns$Sights"
def TX6 : u_T := fun k => match k with
  | 0 => ("WallTurns$Sights", "turnsBehind", "[I", true)
  | 1 => ("WallTurns$Sights", "columns", "[I", true)
  | 2 => ("WallTurns$Sights", "heights", "[I", true)
  | _ => ("WallTurns$Sights", "many", "I", false)
def tyX6 : Nat → FieldType := fun k => match k with
  | 0 => .array .int
  | 1 => .array .int
  | 2 => .array .int
  | _ => .int
abbrev wsX60 : List Cond := u_ws RX6 TX6 4
theorem nmX6 : ∀ a, a < 4 → ∀ b, b < 4 → a ≠ b → (TX6 a).2.1 ≠ (TX6 b).2.1 := by decide +kernel
theorem tyX6_ok : ∀ k, k < 4 → parseFieldDescriptor (TX6 k).2.2.1 = some (tyX6 k) := by decide +kernel
abbrev cX6_init : ByteArray := prog_8_method_1_code
def yX6_init : MethodName := ⟨RX6, "<init>", "()V"⟩
abbrev cX6_allows : ByteArray := prog_8_method_2_code
def yX6_allows : MethodName := ⟨RX6, "allows", "(III)Z"⟩
abbrev cX6_size : ByteArray := prog_8_method_3_code
def yX6_size : MethodName := ⟨RX6, "size", "()I"⟩
abbrev cX6_isFull : ByteArray := prog_8_method_4_code
def yX6_isFull : MethodName := ⟨RX6, "isFull", "()Z"⟩
abbrev cX6_add : ByteArray := prog_8_method_5_code
def yX6_add : MethodName := ⟨RX6, "add", "(III)V"⟩
abbrev cX6_clear : ByteArray := prog_8_method_6_code
def yX6_clear : MethodName := ⟨RX6, "clear", "()V"⟩
abbrev cX6_looksBeyond : ByteArray := prog_8_method_7_code
def yX6_looksBeyond : MethodName := ⟨RX6, "looksBeyond", "(I)Z"⟩
abbrev cX6_fit : ByteArray := prog_8_method_8_code
def yX6_fit : MethodName := ⟨RX6, "fit", "(ILWallTurns$Wall;)Z"⟩
abbrev cX6_isSo : ByteArray := prog_8_method_9_code
def yX6_isSo : MethodName := ⟨RX6, "isSo", "(ILWallTurns$Wall;)Z"⟩
def RX7 : String := "WallTurns$Stones"
def TX7 : u_T := fun k => match k with
  | _ => ("", "", "", false)
def tyX7 : Nat → FieldType := fun k => match k with
  | _ => .int
abbrev wsX70 : List Cond := u_ws RX7 TX7 0
theorem nmX7 : ∀ a, a < 0 → ∀ b, b < 0 → a ≠ b → (TX7 a).2.1 ≠ (TX7 b).2.1 := by decide +kernel
theorem tyX7_ok : ∀ k, k < 0 → parseFieldDescriptor (TX7 k).2.2.1 = some (tyX7 k) := by decide +kernel
abbrev cX7_ofLetter : ByteArray := prog_9_method_2_code
def yX7_ofLetter : MethodName := ⟨RX7, "ofLetter", "(I)I"⟩
abbrev cX7_columnOf : ByteArray := prog_9_method_3_code
def yX7_columnOf : MethodName := ⟨RX7, "columnOf", "(I)I"⟩
abbrev cX7_ownerOf : ByteArray := prog_9_method_4_code
def yX7_ownerOf : MethodName := ⟨RX7, "ownerOf", "(I)I"⟩
abbrev cX7_weightOf : ByteArray := prog_9_method_5_code
def yX7_weightOf : MethodName := ⟨RX7, "weightOf", "(I)I"⟩
abbrev cX7_pullOf : ByteArray := prog_9_method_6_code
def yX7_pullOf : MethodName := ⟨RX7, "pullOf", "(I)I"⟩
def RX8 : String := "WallTurns$Text"
def TX8 : u_T := fun k => match k with
  | 0 => ("WallTurns$Text", "bytes", "[I", true)
  | 1 => ("WallTurns$Text", "limit", "I", true)
  | _ => ("WallTurns$Text", "length", "I", false)
def tyX8 : Nat → FieldType := fun k => match k with
  | 0 => .array .int
  | 1 => .int
  | _ => .int
abbrev wsX80 : List Cond := u_ws RX8 TX8 3
theorem nmX8 : ∀ a, a < 3 → ∀ b, b < 3 → a ≠ b → (TX8 a).2.1 ≠ (TX8 b).2.1 := by decide +kernel
theorem tyX8_ok : ∀ k, k < 3 → parseFieldDescriptor (TX8 k).2.2.1 = some (tyX8 k) := by decide +kernel
abbrev cX8_init : ByteArray := prog_10_method_1_code
def yX8_init : MethodName := ⟨RX8, "<init>", "(I)V"⟩
abbrev cX8_size : ByteArray := prog_10_method_2_code
def yX8_size : MethodName := ⟨RX8, "size", "()I"⟩
abbrev cX8_isFull : ByteArray := prog_10_method_3_code
def yX8_isFull : MethodName := ⟨RX8, "isFull", "()Z"⟩
abbrev cX8_add : ByteArray := prog_10_method_4_code
def yX8_add : MethodName := ⟨RX8, "add", "(I)V"⟩
abbrev cX8_cut : ByteArray := prog_10_method_5_code
def yX8_cut : MethodName := ⟨RX8, "cut", "()V"⟩
abbrev cX8_clear : ByteArray := prog_10_method_6_code
def yX8_clear : MethodName := ⟨RX8, "clear", "()V"⟩
abbrev cX8_byteAt : ByteArray := prog_10_method_7_code
def yX8_byteAt : MethodName := ⟨RX8, "byteAt", "(I)I"⟩
def RX9 : String := "WallTurns$Wall"
def TX9 : u_T := fun k => match k with
  | 0 => ("WallTurns$Wall", "stones", "[I", true)
  | 1 => ("WallTurns$Wall", "sizes", "[I", true)
  | 2 => ("WallTurns$Wall", "heights", "[I", true)
  | 3 => ("WallTurns$Wall", "leans", "[I", true)
  | _ => ("WallTurns$Wall", "columns", "I", false)
def tyX9 : Nat → FieldType := fun k => match k with
  | 0 => .array .int
  | 1 => .array .int
  | 2 => .array .int
  | 3 => .array .int
  | _ => .int
abbrev wsX90 : List Cond := u_ws RX9 TX9 5
theorem nmX9 : ∀ a, a < 5 → ∀ b, b < 5 → a ≠ b → (TX9 a).2.1 ≠ (TX9 b).2.1 := by decide +kernel
theorem tyX9_ok : ∀ k, k < 5 → parseFieldDescriptor (TX9 k).2.2.1 = some (tyX9 k) := by decide +kernel
abbrev cX9_init : ByteArray := prog_11_method_1_code
def yX9_init : MethodName := ⟨RX9, "<init>", "()V"⟩
abbrev cX9_parse : ByteArray := prog_11_method_2_code
def yX9_parse : MethodName := ⟨RX9, "parse", "(LWallTurns$Text;)I"⟩
abbrev cX9_grow : ByteArray := prog_11_method_3_code
def yX9_grow : MethodName := ⟨RX9, "grow", "(I)Z"⟩
abbrev cX9_raze : ByteArray := prog_11_method_4_code
def yX9_raze : MethodName := ⟨RX9, "raze", "()V"⟩
abbrev cX9_become : ByteArray := prog_11_method_5_code
def yX9_become : MethodName := ⟨RX9, "become", "(LWallTurns$Wall;)V"⟩
abbrev cX9_has : ByteArray := prog_11_method_6_code
def yX9_has : MethodName := ⟨RX9, "has", "(I)Z"⟩
abbrev cX9_columnCount : ByteArray := prog_11_method_7_code
def yX9_columnCount : MethodName := ⟨RX9, "columnCount", "()I"⟩
abbrev cX9_sizeOf : ByteArray := prog_11_method_8_code
def yX9_sizeOf : MethodName := ⟨RX9, "sizeOf", "(I)I"⟩
abbrev cX9_heightOf : ByteArray := prog_11_method_9_code
def yX9_heightOf : MethodName := ⟨RX9, "heightOf", "(I)I"⟩
abbrev cX9_leanOf : ByteArray := prog_11_method_10_code
def yX9_leanOf : MethodName := ⟨RX9, "leanOf", "(I)I"⟩
abbrev cX9_stoneAt : ByteArray := prog_11_method_11_code
def yX9_stoneAt : MethodName := ⟨RX9, "stoneAt", "(II)I"⟩
abbrev cX9_uppermost : ByteArray := prog_11_method_12_code
def yX9_uppermost : MethodName := ⟨RX9, "uppermost", "(I)I"⟩
abbrev cX9_put : ByteArray := prog_11_method_13_code
def yX9_put : MethodName := ⟨RX9, "put", "(II)Z"⟩
abbrev cX9_take : ByteArray := prog_11_method_14_code
def yX9_take : MethodName := ⟨RX9, "take", "(I)I"⟩
abbrev cX9_takeFromOther : ByteArray := prog_11_method_15_code
def yX9_takeFromOther : MethodName := ⟨RX9, "takeFromOther", "(II)Z"⟩
abbrev cX9_isWeak : ByteArray := prog_11_method_16_code
def yX9_isWeak : MethodName := ⟨RX9, "isWeak", "(III)Z"⟩
abbrev cX9_stands : ByteArray := prog_11_method_17_code
def yX9_stands : MethodName := ⟨RX9, "stands", "(LWallTurns$Rules;)Z"⟩
abbrev cX9_weakBits : ByteArray := prog_11_method_18_code
def yX9_weakBits : MethodName := ⟨RX9, "weakBits", "(LWallTurns$Rules;)I"⟩
abbrev cX9_sunny : ByteArray := prog_11_method_19_code
def yX9_sunny : MethodName := ⟨RX9, "sunny", "(LWallTurns$Rules;)I"⟩
abbrev cX9_weightOf : ByteArray := prog_11_method_20_code
def yX9_weightOf : MethodName := ⟨RX9, "weightOf", "(I)I"⟩
abbrev cX9_stoneCount : ByteArray := prog_11_method_21_code
def yX9_stoneCount : MethodName := ⟨RX9, "stoneCount", "()I"⟩
abbrev cX9_highestColumn : ByteArray := prog_11_method_22_code
def yX9_highestColumn : MethodName := ⟨RX9, "highestColumn", "()I"⟩
def RX10 : String := "WallTurns"
def TX10 : u_T := fun k => match k with
  | 0 => ("WallTurns", "wallText", "LWallTurns$Text;", true)
  | 1 => ("WallTurns", "turnText", "LWallTurns$Text;", true)
  | 2 => ("WallTurns", "rules", "LWallTurns$Rules;", true)
  | 3 => ("WallTurns", "script", "LWallTurns$Script;", true)
  | 4 => ("WallTurns", "past", "LWallTurns$Past;", true)
  | 5 => ("WallTurns", "plans", "LWallTurns$Plans;", true)
  | 6 => ("WallTurns", "fates", "LWallTurns$Fates;", true)
  | 7 => ("WallTurns", "sights", "LWallTurns$Sights;", true)
  | 8 => ("WallTurns", "sheets", "LWallTurns$Sheets;", true)
  | 9 => ("WallTurns", "wallFault", "I", false)
  | _ => ("WallTurns", "turnFault", "I", false)
def tyX10 : Nat → FieldType := fun k => match k with
  | 0 => .object "WallTurns$Text"
  | 1 => .object "WallTurns$Text"
  | 2 => .object "WallTurns$Rules"
  | 3 => .object "WallTurns$Script"
  | 4 => .object "WallTurns$Past"
  | 5 => .object "WallTurns$Plans"
  | 6 => .object "WallTurns$Fates"
  | 7 => .object "WallTurns$Sights"
  | 8 => .object "WallTurns$Sheets"
  | 9 => .int
  | _ => .int
abbrev wsX100 : List Cond := u_ws RX10 TX10 11
theorem nmX10 : ∀ a, a < 11 → ∀ b, b < 11 → a ≠ b → (TX10 a).2.1 ≠ (TX10 b).2.1 := by decide +kernel
theorem tyX10_ok : ∀ k, k < 11 → parseFieldDescriptor (TX10 k).2.2.1 = some (tyX10 k) := by decide +kernel
abbrev cX10_init : ByteArray := prog_1_method_1_code
def yX10_init : MethodName := ⟨RX10, "<init>", "()V"⟩
abbrev cX10_type : ByteArray := prog_1_method_2_code
def yX10_type : MethodName := ⟨RX10, "type", "(II)I"⟩
abbrev cX10_wipe : ByteArray := prog_1_method_3_code
def yX10_wipe : MethodName := ⟨RX10, "wipe", "(I)I"⟩
abbrev cX10_undo : ByteArray := prog_1_method_4_code
def yX10_undo : MethodName := ⟨RX10, "undo", "(I)I"⟩
abbrev cX10_fault : ByteArray := prog_1_method_5_code
def yX10_fault : MethodName := ⟨RX10, "fault", "(I)I"⟩
abbrev cX10_set : ByteArray := prog_1_method_6_code
def yX10_set : MethodName := ⟨RX10, "set", "(II)I"⟩
abbrev cX10_height : ByteArray := prog_1_method_7_code
def yX10_height : MethodName := ⟨RX10, "height", "(II)I"⟩
abbrev cX10_lean : ByteArray := prog_1_method_8_code
def yX10_lean : MethodName := ⟨RX10, "lean", "(II)I"⟩
abbrev cX10_stone : ByteArray := prog_1_method_9_code
def yX10_stone : MethodName := ⟨RX10, "stone", "(III)I"⟩
abbrev cX10_behind : ByteArray := prog_1_method_10_code
def yX10_behind : MethodName := ⟨RX10, "behind", "(II)I"⟩
abbrev cX10_turn : ByteArray := prog_1_method_11_code
def yX10_turn : MethodName := ⟨RX10, "turn", "(II)I"⟩
abbrev cX10_first : ByteArray := prog_1_method_12_code
def yX10_first : MethodName := ⟨RX10, "first", "(I)I"⟩
abbrev cX10_highest : ByteArray := prog_1_method_13_code
def yX10_highest : MethodName := ⟨RX10, "highest", "()I"⟩
abbrev cX10_mend : ByteArray := prog_1_method_14_code
def yX10_mend : MethodName := ⟨RX10, "mend", "(I)I"⟩
abbrev cX10_open : ByteArray := prog_1_method_15_code
def yX10_open : MethodName := ⟨RX10, "open", "(II)I"⟩
abbrev cX10_sides : ByteArray := prog_1_method_16_code
def yX10_sides : MethodName := ⟨RX10, "sides", "(II)I"⟩
abbrev cX10_seen : ByteArray := prog_1_method_17_code
def yX10_seen : MethodName := ⟨RX10, "seen", "(III)I"⟩
abbrev cX10_forget : ByteArray := prog_1_method_18_code
def yX10_forget : MethodName := ⟨RX10, "forget", "()I"⟩
abbrev cX10_read : ByteArray := prog_1_method_19_code
def yX10_read : MethodName := ⟨RX10, "read", "(I)I"⟩
abbrev cX10_who : ByteArray := prog_1_method_20_code
def yX10_who : MethodName := ⟨RX10, "who", "(I)I"⟩
abbrev cX10_frost : ByteArray := prog_1_method_21_code
def yX10_frost : MethodName := ⟨RX10, "frost", "(II)J"⟩
abbrev cX10_years : ByteArray := prog_1_method_22_code
def yX10_years : MethodName := ⟨RX10, "years", "(III)I"⟩
abbrev cX10_sheet : ByteArray := prog_1_method_23_code
def yX10_sheet : MethodName := ⟨RX10, "sheet", "(III)I"⟩
abbrev cX10_lose : ByteArray := prog_1_method_24_code
def yX10_lose : MethodName := ⟨RX10, "lose", "(I)I"⟩
abbrev cX10_lay : ByteArray := prog_1_method_25_code
def yX10_lay : MethodName := ⟨RX10, "lay", "(IIII)I"⟩
abbrev cX10_get : ByteArray := prog_1_method_26_code
def yX10_get : MethodName := ⟨RX10, "get", "(III)I"⟩
abbrev cX10_copy : ByteArray := prog_1_method_27_code
def yX10_copy : MethodName := ⟨RX10, "copy", "(IIIII)I"⟩
abbrev cX10_write : ByteArray := prog_1_method_28_code
def yX10_write : MethodName := ⟨RX10, "write", "(II)I"⟩
abbrev cX10_count : ByteArray := prog_1_method_29_code
def yX10_count : MethodName := ⟨RX10, "count", "(I)I"⟩
abbrev cX10_digest : ByteArray := prog_1_method_30_code
def yX10_digest : MethodName := ⟨RX10, "digest", "()J"⟩
abbrev cX10_within : ByteArray := prog_1_method_31_code
def yX10_within : MethodName := ⟨RX10, "within", "(III)Z"⟩
abbrev cX10_leastBit : ByteArray := prog_1_method_32_code
def yX10_leastBit : MethodName := ⟨RX10, "leastBit", "(I)I"⟩
abbrev cX10_textOf : ByteArray := prog_1_method_33_code
def yX10_textOf : MethodName := ⟨RX10, "textOf", "(I)LWallTurns$Text;"⟩
abbrev cX10_settle : ByteArray := prog_1_method_34_code
def yX10_settle : MethodName := ⟨RX10, "settle", "()V"⟩
abbrev cX10_mix : ByteArray := prog_1_method_35_code
def yX10_mix : MethodName := ⟨RX10, "mix", "(JJ)J"⟩
abbrev cX10_mixColumn : ByteArray := prog_1_method_36_code
def yX10_mixColumn : MethodName := ⟨RX10, "mixColumn", "(JII)J"⟩
abbrev cX10_mixBehind : ByteArray := prog_1_method_37_code
def yX10_mixBehind : MethodName := ⟨RX10, "mixBehind", "(JI)J"⟩
abbrev cX10_mixPlans : ByteArray := prog_1_method_38_code
def yX10_mixPlans : MethodName := ⟨RX10, "mixPlans", "(J)J"⟩
def RX11 : String := "WallTurnsModel"
def TX11 : u_T := fun k => match k with
  | 0 => ("WallTurnsModel", "forms", "[I", true)
  | 1 => ("WallTurnsModel", "sizes", "[I", true)
  | 2 => ("WallTurnsModel", "items", "[I", true)
  | 3 => ("WallTurnsModel", "moved", "[I", true)
  | 4 => ("WallTurnsModel", "latest", "I", false)
  | 5 => ("WallTurnsModel", "bytes", "[I", true)
  | 6 => ("WallTurnsModel", "typed", "[I", true)
  | 7 => ("WallTurnsModel", "at", "I", false)
  | 8 => ("WallTurnsModel", "columns", "I", false)
  | 9 => ("WallTurnsModel", "wall", "[I", true)
  | 10 => ("WallTurnsModel", "tall", "[I", true)
  | 11 => ("WallTurnsModel", "turns", "I", false)
  | 12 => ("WallTurnsModel", "turn", "[I", true)
  | 13 => ("WallTurnsModel", "settings", "[I", true)
  | 14 => ("WallTurnsModel", "stones", "[I", true)
  | 15 => ("WallTurnsModel", "many", "[I", true)
  | 16 => ("WallTurnsModel", "took", "I", false)
  | 17 => ("WallTurnsModel", "laid", "I", false)
  | 18 => ("WallTurnsModel", "other", "I", false)
  | 19 => ("WallTurnsModel", "otherHow", "I", false)
  | 20 => ("WallTurnsModel", "row", "[I", true)
  | 21 => ("WallTurnsModel", "sights", "I", false)
  | 22 => ("WallTurnsModel", "sight", "[I", true)
  | _ => ("WallTurnsModel", "drawn", "I", false)
def tyX11 : Nat → FieldType := fun k => match k with
  | 0 => .array .int
  | 1 => .array .int
  | 2 => .array .int
  | 3 => .array .int
  | 4 => .int
  | 5 => .array .int
  | 6 => .array .int
  | 7 => .int
  | 8 => .int
  | 9 => .array .int
  | 10 => .array .int
  | 11 => .int
  | 12 => .array .int
  | 13 => .array .int
  | 14 => .array .int
  | 15 => .array .int
  | 16 => .int
  | 17 => .int
  | 18 => .int
  | 19 => .int
  | 20 => .array .int
  | 21 => .int
  | 22 => .array .int
  | _ => .int
abbrev wsX110 : List Cond := u_ws RX11 TX11 24
theorem nmX11 : ∀ a, a < 24 → ∀ b, b < 24 → a ≠ b → (TX11 a).2.1 ≠ (TX11 b).2.1 := by decide +kernel
theorem tyX11_ok : ∀ k, k < 24 → parseFieldDescriptor (TX11 k).2.2.1 = some (tyX11 k) := by decide +kernel
abbrev cX11_init : ByteArray := prog_13_method_1_code
def yX11_init : MethodName := ⟨RX11, "<init>", "()V"⟩
abbrev cX11_in : ByteArray := prog_13_method_3_code
def yX11_in : MethodName := ⟨RX11, "in", "(JJJ)Z"⟩
abbrev cX11_no : ByteArray := prog_13_method_4_code
def yX11_no : MethodName := ⟨RX11, "no", "(I)J"⟩
abbrev cX11_isTwo : ByteArray := prog_13_method_5_code
def yX11_isTwo : MethodName := ⟨RX11, "isTwo", "(I)Z"⟩
abbrev cX11_isIn : ByteArray := prog_13_method_6_code
def yX11_isIn : MethodName := ⟨RX11, "isIn", "(II)Z"⟩
abbrev cX11_lesser : ByteArray := prog_13_method_7_code
def yX11_lesser : MethodName := ⟨RX11, "lesser", "(II)I"⟩
abbrev cX11_amount : ByteArray := prog_13_method_8_code
def yX11_amount : MethodName := ⟨RX11, "amount", "(I)I"⟩
abbrev cX11_part : ByteArray := prog_13_method_9_code
def yX11_part : MethodName := ⟨RX11, "part", "(JJI)J"⟩
abbrev cX11_finds : ByteArray := prog_13_method_10_code
def yX11_finds : MethodName := ⟨RX11, "finds", "(I)I"⟩
abbrev cX11_isSheet : ByteArray := prog_13_method_11_code
def yX11_isSheet : MethodName := ⟨RX11, "isSheet", "(I)Z"⟩
abbrev cX11_sheet : ByteArray := prog_13_method_12_code
def yX11_sheet : MethodName := ⟨RX11, "sheet", "(III)I"⟩
abbrev cX11_lose : ByteArray := prog_13_method_13_code
def yX11_lose : MethodName := ⟨RX11, "lose", "(I)I"⟩
abbrev cX11_lacks : ByteArray := prog_13_method_14_code
def yX11_lacks : MethodName := ⟨RX11, "lacks", "(III)I"⟩
abbrev cX11_cut : ByteArray := prog_13_method_15_code
def yX11_cut : MethodName := ⟨RX11, "cut", "(II)I"⟩
abbrev cX11_lay : ByteArray := prog_13_method_16_code
def yX11_lay : MethodName := ⟨RX11, "lay", "(IIII)I"⟩
abbrev cX11_get : ByteArray := prog_13_method_17_code
def yX11_get : MethodName := ⟨RX11, "get", "(III)I"⟩
abbrev cX11_copy : ByteArray := prog_13_method_18_code
def yX11_copy : MethodName := ⟨RX11, "copy", "(IIIII)I"⟩
abbrev cX11_type : ByteArray := prog_13_method_19_code
def yX11_type : MethodName := ⟨RX11, "type", "(II)I"⟩
abbrev cX11_wipe : ByteArray := prog_13_method_20_code
def yX11_wipe : MethodName := ⟨RX11, "wipe", "(I)I"⟩
abbrev cX11_undo : ByteArray := prog_13_method_21_code
def yX11_undo : MethodName := ⟨RX11, "undo", "(I)I"⟩
abbrev cX11_stoneOf : ByteArray := prog_13_method_22_code
def yX11_stoneOf : MethodName := ⟨RX11, "stoneOf", "(I)I"⟩
abbrev cX11_readsWall : ByteArray := prog_13_method_23_code
def yX11_readsWall : MethodName := ⟨RX11, "readsWall", "()I"⟩
abbrev cX11_here : ByteArray := prog_13_method_24_code
def yX11_here : MethodName := ⟨RX11, "here", "()I"⟩
abbrev cX11_figure : ByteArray := prog_13_method_25_code
def yX11_figure : MethodName := ⟨RX11, "figure", "()I"⟩
abbrev cX11_readsTurn : ByteArray := prog_13_method_26_code
def yX11_readsTurn : MethodName := ⟨RX11, "readsTurn", "()Z"⟩
abbrev cX11_readsTurns : ByteArray := prog_13_method_27_code
def yX11_readsTurns : MethodName := ⟨RX11, "readsTurns", "()I"⟩
abbrev cX11_reads : ByteArray := prog_13_method_28_code
def yX11_reads : MethodName := ⟨RX11, "reads", "()V"⟩
abbrev cX11_fault : ByteArray := prog_13_method_29_code
def yX11_fault : MethodName := ⟨RX11, "fault", "(I)I"⟩
abbrev cX11_mostOf : ByteArray := prog_13_method_30_code
def yX11_mostOf : MethodName := ⟨RX11, "mostOf", "(I)I"⟩
abbrev cX11_set : ByteArray := prog_13_method_31_code
def yX11_set : MethodName := ⟨RX11, "set", "(II)I"⟩
abbrev cX11_begins : ByteArray := prog_13_method_32_code
def yX11_begins : MethodName := ⟨RX11, "begins", "()V"⟩
abbrev cX11_takes : ByteArray := prog_13_method_33_code
def yX11_takes : MethodName := ⟨RX11, "takes", "(II)Z"⟩
abbrev cX11_lays : ByteArray := prog_13_method_34_code
def yX11_lays : MethodName := ⟨RX11, "lays", "(III)Z"⟩
abbrev cX11_whoseTurn : ByteArray := prog_13_method_35_code
def yX11_whoseTurn : MethodName := ⟨RX11, "whoseTurn", "(I)I"⟩
abbrev cX11_goes : ByteArray := prog_13_method_36_code
def yX11_goes : MethodName := ⟨RX11, "goes", "(I)V"⟩
abbrev cX11_lives : ByteArray := prog_13_method_37_code
def yX11_lives : MethodName := ⟨RX11, "lives", "(I)V"⟩
abbrev cX11_weight : ByteArray := prog_13_method_38_code
def yX11_weight : MethodName := ⟨RX11, "weight", "(I)I"⟩
abbrev cX11_highOf : ByteArray := prog_13_method_39_code
def yX11_highOf : MethodName := ⟨RX11, "highOf", "(I)I"⟩
abbrev cX11_leanOf : ByteArray := prog_13_method_40_code
def yX11_leanOf : MethodName := ⟨RX11, "leanOf", "(I)I"⟩
abbrev cX11_beside : ByteArray := prog_13_method_41_code
def yX11_beside : MethodName := ⟨RX11, "beside", "(I)I"⟩
abbrev cX11_weakNow : ByteArray := prog_13_method_42_code
def yX11_weakNow : MethodName := ⟨RX11, "weakNow", "()I"⟩
abbrev cX11_pearsNow : ByteArray := prog_13_method_43_code
def yX11_pearsNow : MethodName := ⟨RX11, "pearsNow", "()I"⟩
abbrev cX11_weighs : ByteArray := prog_13_method_44_code
def yX11_weighs : MethodName := ⟨RX11, "weighs", "(I)I"⟩
abbrev cX11_areTurns : ByteArray := prog_13_method_45_code
def yX11_areTurns : MethodName := ⟨RX11, "areTurns", "(I)Z"⟩
abbrev cX11_isColumn : ByteArray := prog_13_method_46_code
def yX11_isColumn : MethodName := ⟨RX11, "isColumn", "(I)Z"⟩
abbrev cX11_heightOf : ByteArray := prog_13_method_47_code
def yX11_heightOf : MethodName := ⟨RX11, "heightOf", "(II)I"⟩
abbrev cX11_height : ByteArray := prog_13_method_48_code
def yX11_height : MethodName := ⟨RX11, "height", "(II)I"⟩
abbrev cX11_leanBehind : ByteArray := prog_13_method_49_code
def yX11_leanBehind : MethodName := ⟨RX11, "leanBehind", "(II)I"⟩
abbrev cX11_lean : ByteArray := prog_13_method_50_code
def yX11_lean : MethodName := ⟨RX11, "lean", "(II)I"⟩
abbrev cX11_stoneBehind : ByteArray := prog_13_method_51_code
def yX11_stoneBehind : MethodName := ⟨RX11, "stoneBehind", "(III)I"⟩
abbrev cX11_stone : ByteArray := prog_13_method_52_code
def yX11_stone : MethodName := ⟨RX11, "stone", "(III)I"⟩
abbrev cX11_behindOf : ByteArray := prog_13_method_53_code
def yX11_behindOf : MethodName := ⟨RX11, "behindOf", "(II)I"⟩
abbrev cX11_behind : ByteArray := prog_13_method_54_code
def yX11_behind : MethodName := ⟨RX11, "behind", "(II)I"⟩
abbrev cX11_turnOf : ByteArray := prog_13_method_55_code
def yX11_turnOf : MethodName := ⟨RX11, "turnOf", "(II)I"⟩
abbrev cX11_turn : ByteArray := prog_13_method_56_code
def yX11_turn : MethodName := ⟨RX11, "turn", "(II)I"⟩
abbrev cX11_firstOf : ByteArray := prog_13_method_57_code
def yX11_firstOf : MethodName := ⟨RX11, "firstOf", "(I)I"⟩
abbrev cX11_first : ByteArray := prog_13_method_58_code
def yX11_first : MethodName := ⟨RX11, "first", "(I)I"⟩
abbrev cX11_highestNow : ByteArray := prog_13_method_59_code
def yX11_highestNow : MethodName := ⟨RX11, "highestNow", "()I"⟩
abbrev cX11_highest : ByteArray := prog_13_method_60_code
def yX11_highest : MethodName := ⟨RX11, "highest", "()I"⟩
abbrev cX11_goesOn : ByteArray := prog_13_method_61_code
def yX11_goesOn : MethodName := ⟨RX11, "goesOn", "(II)Z"⟩
abbrev cX11_mends : ByteArray := prog_13_method_62_code
def yX11_mends : MethodName := ⟨RX11, "mends", "(I)Z"⟩
abbrev cX11_opens : ByteArray := prog_13_method_63_code
def yX11_opens : MethodName := ⟨RX11, "opens", "(II)Z"⟩
abbrev cX11_planOf : ByteArray := prog_13_method_64_code
def yX11_planOf : MethodName := ⟨RX11, "planOf", "(II)I"⟩
abbrev cX11_mend : ByteArray := prog_13_method_65_code
def yX11_mend : MethodName := ⟨RX11, "mend", "(I)I"⟩
abbrev cX11_open : ByteArray := prog_13_method_66_code
def yX11_open : MethodName := ⟨RX11, "open", "(II)I"⟩
abbrev cX11_endOf : ByteArray := prog_13_method_67_code
def yX11_endOf : MethodName := ⟨RX11, "endOf", "(II)I"⟩
abbrev cX11_better : ByteArray := prog_13_method_68_code
def yX11_better : MethodName := ⟨RX11, "better", "(III)Z"⟩
abbrev cX11_sidesOf : ByteArray := prog_13_method_69_code
def yX11_sidesOf : MethodName := ⟨RX11, "sidesOf", "(II)I"⟩
abbrev cX11_sides : ByteArray := prog_13_method_70_code
def yX11_sides : MethodName := ⟨RX11, "sides", "(II)I"⟩
abbrev cX11_seen : ByteArray := prog_13_method_71_code
def yX11_seen : MethodName := ⟨RX11, "seen", "(III)I"⟩
abbrev cX11_forget : ByteArray := prog_13_method_72_code
def yX11_forget : MethodName := ⟨RX11, "forget", "()I"⟩
abbrev cX11_read : ByteArray := prog_13_method_73_code
def yX11_read : MethodName := ⟨RX11, "read", "(I)I"⟩
abbrev cX11_isSeen : ByteArray := prog_13_method_74_code
def yX11_isSeen : MethodName := ⟨RX11, "isSeen", "()Z"⟩
abbrev cX11_whoBy : ByteArray := prog_13_method_75_code
def yX11_whoBy : MethodName := ⟨RX11, "whoBy", "(I)I"⟩
abbrev cX11_who : ByteArray := prog_13_method_76_code
def yX11_who : MethodName := ⟨RX11, "who", "(I)I"⟩
abbrev cX11_frostOf : ByteArray := prog_13_method_77_code
def yX11_frostOf : MethodName := ⟨RX11, "frostOf", "(II)J"⟩
abbrev cX11_frost : ByteArray := prog_13_method_78_code
def yX11_frost : MethodName := ⟨RX11, "frost", "(II)J"⟩
abbrev cX11_lot : ByteArray := prog_13_method_79_code
def yX11_lot : MethodName := ⟨RX11, "lot", "(I)I"⟩
abbrev cX11_yearsOf : ByteArray := prog_13_method_80_code
def yX11_yearsOf : MethodName := ⟨RX11, "yearsOf", "(III)I"⟩
abbrev cX11_years : ByteArray := prog_13_method_81_code
def yX11_years : MethodName := ⟨RX11, "years", "(III)I"⟩
abbrev cX11_write : ByteArray := prog_13_method_82_code
def yX11_write : MethodName := ⟨RX11, "write", "(II)I"⟩
abbrev cX11_working : ByteArray := prog_13_method_83_code
def yX11_working : MethodName := ⟨RX11, "working", "()I"⟩
abbrev cX11_count : ByteArray := prog_13_method_84_code
def yX11_count : MethodName := ⟨RX11, "count", "(I)I"⟩
abbrev cX11_tellsColumn : ByteArray := prog_13_method_85_code
def yX11_tellsColumn : MethodName := ⟨RX11, "tellsColumn", "(JII)J"⟩
abbrev cX11_digest : ByteArray := prog_13_method_86_code
def yX11_digest : MethodName := ⟨RX11, "digest", "()J"⟩
def RJ9 : String := "java/lang/Math"
def TJ9 : u_T := fun k => match k with
  | _ => ("", "", "", false)
def tyJ9 : Nat → FieldType := fun k => match k with
  | _ => .int
abbrev wsJ90 : List Cond := u_ws RJ9 TJ9 0
theorem nmJ9 : ∀ a, a < 0 → ∀ b, b < 0 → a ≠ b → (TJ9 a).2.1 ≠ (TJ9 b).2.1 := by decide +kernel
theorem tyJ9_ok : ∀ k, k < 0 → parseFieldDescriptor (TJ9 k).2.2.1 = some (tyJ9 k) := by decide +kernel
abbrev cJ9_abs_0f7a4 : ByteArray := prog_14_method_59_code
def yJ9_abs_0f7a4 : MethodName := ⟨RJ9, "abs", "(I)I"⟩
abbrev cJ9_max_7cf53 : ByteArray := prog_14_method_65_code
def yJ9_max_7cf53 : MethodName := ⟨RJ9, "max", "(II)I"⟩
abbrev cJ9_min_7cf53 : ByteArray := prog_14_method_69_code
def yJ9_min_7cf53 : MethodName := ⟨RJ9, "min", "(II)I"⟩
def RJ10 : String := "java/lang/System"
def TJ10 : u_T := fun k => match k with
  | _ => ("", "", "", false)
def tyJ10 : Nat → FieldType := fun k => match k with
  | _ => .int
abbrev wsJ100 : List Cond := u_ws RJ10 TJ10 0
theorem nmJ10 : ∀ a, a < 0 → ∀ b, b < 0 → a ≠ b → (TJ10 a).2.1 ≠ (TJ10 b).2.1 := by decide +kernel
theorem tyJ10_ok : ∀ k, k < 0 → parseFieldDescriptor (TJ10 k).2.2.1 = some (tyJ10 k) := by decide +kernel
def RL : String := "WallTurnsLaw"
abbrev cL_law : ByteArray := code
def yL_law : MethodName := ⟨RL, "law", "([I)Z"⟩
abbrev vwCl : List vw_C := [(RX0, TX0, 5), (RX1, TX1, 5), (RX2, TX2, 5), (RX3, TX3, 1), (RX4, TX4, 5), (RX5, TX5, 4), (RX6, TX6, 4), (RX8, TX8, 3), (RX9, TX9, 5), (RX10, TX10, 11), (RX11, TX11, 24)]
/-- the words that every contract asks for -/
def WL : List Cond := lw_tbl.filter goodWord
theorem WL_of {w : Cond} (h : w ∈ lw_tbl) (hg : goodWord w = true) : w ∈ WL := List.mem_filter.mpr ⟨h, hg⟩
theorem WL_hts {args : Array Value} {s : State} (h : ∀ w ∈ lw_tbl, w.before args s = true) : ∀ w ∈ WL, w.before args s = true := fun w hw => h w (List.mem_filter.mp hw).1
theorem gdL : GoodIn WL WL := fun w h => ⟨h, good_of_word (List.mem_filter.mp h).2⟩
theorem in_s {w : Cond} {j : Nat} (h : (k2_sels lw_privs)[j]? = some w) (hg : goodWord w = true) : w ∈ WL := WL_of (List.mem_append_left _ (List.mem_of_getElem? h)) hg
theorem in_1 {w : Cond} {j : Nat} (h : tables_1_1[j]? = some w) (hg : goodWord w = true) : w ∈ WL := WL_of (List.mem_append_right _ (List.mem_append_left _ (List.mem_of_getElem? h))) hg
theorem in_2 {w : Cond} {j : Nat} (h : tables_1_2[j]? = some w) (hg : goodWord w = true) : w ∈ WL := WL_of (List.mem_append_right _ (List.mem_append_right _ (List.mem_append_left _ (List.mem_of_getElem? h)))) hg
theorem in_3 {w : Cond} {j : Nat} (h : tables_1_3[j]? = some w) (hg : goodWord w = true) : w ∈ WL := WL_of (List.mem_append_right _ (List.mem_append_right _ (List.mem_append_right _ (List.mem_append_left _ (List.mem_of_getElem? h))))) hg
theorem in_4 {w : Cond} {j : Nat} (h : tables_1_4[j]? = some w) (hg : goodWord w = true) : w ∈ WL := WL_of (List.mem_append_right _ (List.mem_append_right _ (List.mem_append_right _ (List.mem_append_right _ (List.mem_append_left _ (List.mem_of_getElem? h)))))) hg
theorem in_5 {w : Cond} {j : Nat} (h : tables_1_5[j]? = some w) (hg : goodWord w = true) : w ∈ WL := WL_of (List.mem_append_right _ (List.mem_append_right _ (List.mem_append_right _ (List.mem_append_right _ (List.mem_append_right _ (List.mem_append_left _ (List.mem_of_getElem? h))))))) hg
theorem in_6 {w : Cond} {j : Nat} (h : tables_1_6[j]? = some w) (hg : goodWord w = true) : w ∈ WL := WL_of (List.mem_append_right _ (List.mem_append_right _ (List.mem_append_right _ (List.mem_append_right _ (List.mem_append_right _ (List.mem_append_right _ (List.mem_of_getElem? h))))))) hg
theorem inla_X0 : ∀ w ∈ wsX00, w ∈ tables_1_1 := by decide +kernel
theorem inlX0 : ∀ w ∈ wsX00, w ∈ WL := by
  intro w h
  obtain ⟨j, hj⟩ := List.getElem?_of_mem (inla_X0 w h)
  refine in_1 hj ?_
  exact (show wsX00.all goodWord = true by decide +kernel) |> fun h2 => List.all_eq_true.mp h2 w h
theorem inla_X1 : ∀ w ∈ wsX10, w ∈ tables_1_1 := by decide +kernel
theorem inlX1 : ∀ w ∈ wsX10, w ∈ WL := by
  intro w h
  obtain ⟨j, hj⟩ := List.getElem?_of_mem (inla_X1 w h)
  refine in_1 hj ?_
  exact (show wsX10.all goodWord = true by decide +kernel) |> fun h2 => List.all_eq_true.mp h2 w h
theorem inla_X2 : ∀ w ∈ wsX20, w ∈ tables_1_1 := by decide +kernel
theorem inlX2 : ∀ w ∈ wsX20, w ∈ WL := by
  intro w h
  obtain ⟨j, hj⟩ := List.getElem?_of_mem (inla_X2 w h)
  refine in_1 hj ?_
  exact (show wsX20.all goodWord = true by decide +kernel) |> fun h2 => List.all_eq_true.mp h2 w h
theorem inla_X3 : ∀ w ∈ wsX30, w ∈ tables_1_1 := by decide +kernel
theorem inlX3 : ∀ w ∈ wsX30, w ∈ WL := by
  intro w h
  obtain ⟨j, hj⟩ := List.getElem?_of_mem (inla_X3 w h)
  refine in_1 hj ?_
  exact (show wsX30.all goodWord = true by decide +kernel) |> fun h2 => List.all_eq_true.mp h2 w h
theorem inla_X4 : ∀ w ∈ wsX40, w ∈ tables_1_1 := by decide +kernel
theorem inlX4 : ∀ w ∈ wsX40, w ∈ WL := by
  intro w h
  obtain ⟨j, hj⟩ := List.getElem?_of_mem (inla_X4 w h)
  refine in_1 hj ?_
  exact (show wsX40.all goodWord = true by decide +kernel) |> fun h2 => List.all_eq_true.mp h2 w h
theorem inla_X5 : ∀ w ∈ wsX50, w ∈ tables_1_1 := by decide +kernel
theorem inlX5 : ∀ w ∈ wsX50, w ∈ WL := by
  intro w h
  obtain ⟨j, hj⟩ := List.getElem?_of_mem (inla_X5 w h)
  refine in_1 hj ?_
  exact (show wsX50.all goodWord = true by decide +kernel) |> fun h2 => List.all_eq_true.mp h2 w h
theorem inla_X6 : ∀ w ∈ wsX60, w ∈ tables_1_1 := by decide +kernel
theorem inlX6 : ∀ w ∈ wsX60, w ∈ WL := by
  intro w h
  obtain ⟨j, hj⟩ := List.getElem?_of_mem (inla_X6 w h)
  refine in_1 hj ?_
  exact (show wsX60.all goodWord = true by decide +kernel) |> fun h2 => List.all_eq_true.mp h2 w h
theorem inla_X8 : ∀ w ∈ wsX80, w ∈ tables_1_1 := by decide +kernel
theorem inlX8 : ∀ w ∈ wsX80, w ∈ WL := by
  intro w h
  obtain ⟨j, hj⟩ := List.getElem?_of_mem (inla_X8 w h)
  refine in_1 hj ?_
  exact (show wsX80.all goodWord = true by decide +kernel) |> fun h2 => List.all_eq_true.mp h2 w h
theorem inla_X9 : ∀ w ∈ wsX90, w ∈ tables_1_1 := by decide +kernel
theorem inlX9 : ∀ w ∈ wsX90, w ∈ WL := by
  intro w h
  obtain ⟨j, hj⟩ := List.getElem?_of_mem (inla_X9 w h)
  refine in_1 hj ?_
  exact (show wsX90.all goodWord = true by decide +kernel) |> fun h2 => List.all_eq_true.mp h2 w h
theorem inla_X10 : ∀ w ∈ wsX100, w ∈ tables_1_1 := by decide +kernel
theorem inlX10 : ∀ w ∈ wsX100, w ∈ WL := by
  intro w h
  obtain ⟨j, hj⟩ := List.getElem?_of_mem (inla_X10 w h)
  refine in_1 hj ?_
  exact (show wsX100.all goodWord = true by decide +kernel) |> fun h2 => List.all_eq_true.mp h2 w h
theorem inla_X11 : ∀ w ∈ wsX110, w ∈ tables_1_4 := by decide +kernel
theorem inlX11 : ∀ w ∈ wsX110, w ∈ WL := by
  intro w h
  obtain ⟨j, hj⟩ := List.getElem?_of_mem (inla_X11 w h)
  refine in_4 hj ?_
  exact (show wsX110.all goodWord = true by decide +kernel) |> fun h2 => List.all_eq_true.mp h2 w h
theorem q0 : (Cond.classLink RL 7 RX10 : Cond) ∈ WL := in_1 (j := 15) rfl rfl
theorem q1 : (Cond.instantiable RX10 11 : Cond) ∈ WL := in_1 (j := 16) rfl rfl
theorem q2 : (Cond.initialized RX10 : Cond) ∈ WL := in_1 (j := 1) rfl rfl
theorem q3 : (Cond.classLink RL 10 RX11 : Cond) ∈ WL := in_4 (j := 140) rfl rfl
theorem q4 : (Cond.instantiable RX11 24 : Cond) ∈ WL := in_4 (j := 141) rfl rfl
theorem q5 : (Cond.initialized RX11 : Cond) ∈ WL := in_1 (j := 12) rfl rfl
theorem q6 : (Cond.methodLink RL 9 yX10_init : Cond) ∈ WL := in_1 (j := 17) rfl rfl
theorem q7 : (Cond.instanceMethod yX10_init : Cond) ∈ WL := in_1 (j := 18) rfl rfl
theorem q8 : (Cond.code yX10_init cX10_init 1 none : Cond) ∈ WL := in_1 (j := 19) rfl rfl
theorem q9 : (Cond.methodLink RX10 1 objectInit : Cond) ∈ WL := in_1 (j := 20) rfl rfl
theorem q10 : (Cond.instanceMethod objectInit : Cond) ∈ WL := in_1 (j := 21) rfl rfl
theorem q11 : (Cond.code objectInit ⟨#[0xb1]⟩ 1 none : Cond) ∈ WL := in_1 (j := 22) rfl rfl
theorem q12 : (Cond.classLink RX10 7 RX8 : Cond) ∈ WL := in_1 (j := 23) rfl rfl
theorem q13 : (Cond.instantiable RX8 3 : Cond) ∈ WL := in_1 (j := 24) rfl rfl
theorem q14 : (Cond.initialized RX8 : Cond) ∈ WL := in_1 (j := 2) rfl rfl
theorem q15 : (Cond.fieldLink RX10 14 "WallTurns" "wallText" "LWallTurns$Text;" : Cond) ∈ WL := in_1 (j := 208) rfl rfl
theorem q16 : (Cond.fieldLink RX10 18 "WallTurns" "turnText" "LWallTurns$Text;" : Cond) ∈ WL := in_1 (j := 209) rfl rfl
theorem q17 : (Cond.classLink RX10 21 RX3 : Cond) ∈ WL := in_1 (j := 43) rfl rfl
theorem q18 : (Cond.instantiable RX3 1 : Cond) ∈ WL := in_1 (j := 44) rfl rfl
theorem q19 : (Cond.initialized RX3 : Cond) ∈ WL := in_1 (j := 4) rfl rfl
theorem q20 : (Cond.fieldLink RX10 24 "WallTurns" "rules" "LWallTurns$Rules;" : Cond) ∈ WL := in_1 (j := 210) rfl rfl
theorem q21 : (Cond.classLink RX10 28 RX4 : Cond) ∈ WL := in_1 (j := 53) rfl rfl
theorem q22 : (Cond.instantiable RX4 5 : Cond) ∈ WL := in_1 (j := 54) rfl rfl
theorem q23 : (Cond.initialized RX4 : Cond) ∈ WL := in_1 (j := 5) rfl rfl
theorem q24 : (Cond.fieldLink RX10 31 "WallTurns" "script" "LWallTurns$Script;" : Cond) ∈ WL := in_1 (j := 211) rfl rfl
theorem q25 : (Cond.classLink RX10 35 RX1 : Cond) ∈ WL := in_1 (j := 75) rfl rfl
theorem q26 : (Cond.instantiable RX1 5 : Cond) ∈ WL := in_1 (j := 76) rfl rfl
theorem q27 : (Cond.initialized RX1 : Cond) ∈ WL := in_1 (j := 6) rfl rfl
theorem q28 : (Cond.fieldLink RX10 38 "WallTurns" "past" "LWallTurns$Past;" : Cond) ∈ WL := in_1 (j := 212) rfl rfl
theorem q29 : (Cond.classLink RX10 42 RX2 : Cond) ∈ WL := in_1 (j := 120) rfl rfl
theorem q30 : (Cond.instantiable RX2 5 : Cond) ∈ WL := in_1 (j := 121) rfl rfl
theorem q31 : (Cond.initialized RX2 : Cond) ∈ WL := in_1 (j := 8) rfl rfl
theorem q32 : (Cond.fieldLink RX10 45 "WallTurns" "plans" "LWallTurns$Plans;" : Cond) ∈ WL := in_1 (j := 213) rfl rfl
theorem q33 : (Cond.classLink RX10 49 RX0 : Cond) ∈ WL := in_1 (j := 144) rfl rfl
theorem q34 : (Cond.instantiable RX0 5 : Cond) ∈ WL := in_1 (j := 145) rfl rfl
theorem q35 : (Cond.initialized RX0 : Cond) ∈ WL := in_1 (j := 9) rfl rfl
theorem q36 : (Cond.fieldLink RX10 52 "WallTurns" "fates" "LWallTurns$Fates;" : Cond) ∈ WL := in_1 (j := 214) rfl rfl
theorem q37 : (Cond.classLink RX10 56 RX6 : Cond) ∈ WL := in_1 (j := 168) rfl rfl
theorem q38 : (Cond.instantiable RX6 4 : Cond) ∈ WL := in_1 (j := 169) rfl rfl
theorem q39 : (Cond.initialized RX6 : Cond) ∈ WL := in_1 (j := 10) rfl rfl
theorem q40 : (Cond.fieldLink RX10 59 "WallTurns" "sights" "LWallTurns$Sights;" : Cond) ∈ WL := in_1 (j := 215) rfl rfl
theorem q41 : (Cond.classLink RX10 63 RX5 : Cond) ∈ WL := in_1 (j := 187) rfl rfl
theorem q42 : (Cond.instantiable RX5 4 : Cond) ∈ WL := in_1 (j := 188) rfl rfl
theorem q43 : (Cond.initialized RX5 : Cond) ∈ WL := in_1 (j := 11) rfl rfl
theorem q44 : (Cond.fieldLink RX10 66 "WallTurns" "sheets" "LWallTurns$Sheets;" : Cond) ∈ WL := in_1 (j := 216) rfl rfl
theorem q45 : (Cond.fieldLink RX10 70 "WallTurns" "wallFault" "I" : Cond) ∈ WL := in_1 (j := 217) rfl rfl
theorem q46 : (Cond.fieldLink RX10 74 "WallTurns" "turnFault" "I" : Cond) ∈ WL := in_1 (j := 218) rfl rfl
theorem q47 : (Cond.methodLink RX10 11 yX8_init : Cond) ∈ WL := in_1 (j := 25) rfl rfl
theorem q48 : (Cond.instanceMethod yX8_init : Cond) ∈ WL := in_1 (j := 26) rfl rfl
theorem q49 : (Cond.code yX8_init cX8_init 2 none : Cond) ∈ WL := in_1 (j := 27) rfl rfl
theorem q50 : (Cond.methodLink RX8 3 objectInit : Cond) ∈ WL := in_1 (j := 28) rfl rfl
theorem q51 : (Cond.arrayClass .int : Cond) ∈ WL := in_1 (j := 42) rfl rfl
theorem q52 : (Cond.fieldLink RX8 9 "WallTurns$Text" "bytes" "[I" : Cond) ∈ WL := in_1 (j := 32) rfl rfl
theorem q53 : (Cond.fieldLink RX8 15 "WallTurns$Text" "length" "I" : Cond) ∈ WL := in_1 (j := 34) rfl rfl
theorem q54 : (Cond.methodLink RX8 19 Lib.Math.min.name : Cond) ∈ WL := in_1 (j := 29) rfl rfl
theorem q55 : (Cond.static Lib.Math.min.name : Cond) ∈ WL := in_1 (j := 30) rfl rfl
theorem q56 : (Cond.initialized "java/lang/Math" : Cond) ∈ WL := in_1 (j := 3) rfl rfl
theorem q57 : (Cond.code Lib.Math.min.name Lib.Math.min.code 2 (some .int) : Cond) ∈ WL := in_1 (j := 31) rfl rfl
theorem q58 : (Cond.fieldLink RX8 25 "WallTurns$Text" "limit" "I" : Cond) ∈ WL := in_1 (j := 33) rfl rfl
theorem q59 : (Cond.instanceMethod yX3_init : Cond) ∈ WL := in_1 (j := 46) rfl rfl
theorem q60 : (Cond.code yX3_init cX3_init 1 none : Cond) ∈ WL := in_1 (j := 47) rfl rfl
theorem q61 : (Cond.methodLink RX3 1 objectInit : Cond) ∈ WL := in_1 (j := 48) rfl rfl
theorem q62 : (Cond.fieldLink RX3 7 "WallTurns$Rules" "values" "[I" : Cond) ∈ WL := in_1 (j := 49) rfl rfl
theorem q63 : (Cond.instanceMethod yX4_init : Cond) ∈ WL := in_1 (j := 56) rfl rfl
theorem q64 : (Cond.code yX4_init cX4_init 1 none : Cond) ∈ WL := in_1 (j := 57) rfl rfl
theorem q65 : (Cond.methodLink RX4 3 objectInit : Cond) ∈ WL := in_1 (j := 58) rfl rfl
theorem q66 : (Cond.fieldLink RX4 9 "WallTurns$Script" "takes" "[I" : Cond) ∈ WL := in_1 (j := 59) rfl rfl
theorem q67 : (Cond.fieldLink RX4 15 "WallTurns$Script" "lays" "[I" : Cond) ∈ WL := in_1 (j := 60) rfl rfl
theorem q68 : (Cond.fieldLink RX4 18 "WallTurns$Script" "stones" "[I" : Cond) ∈ WL := in_1 (j := 61) rfl rfl
theorem q69 : (Cond.fieldLink RX4 21 "WallTurns$Script" "places" "[I" : Cond) ∈ WL := in_1 (j := 62) rfl rfl
theorem q70 : (Cond.fieldLink RX4 24 "WallTurns$Script" "turns" "I" : Cond) ∈ WL := in_1 (j := 63) rfl rfl
theorem q71 : (Cond.methodLink RX10 37 yX1_init : Cond) ∈ WL := in_1 (j := 77) rfl rfl
theorem q72 : (Cond.instanceMethod yX1_init : Cond) ∈ WL := in_1 (j := 78) rfl rfl
theorem q73 : (Cond.code yX1_init cX1_init 2 none : Cond) ∈ WL := in_1 (j := 79) rfl rfl
theorem q74 : (Cond.methodLink RX1 3 objectInit : Cond) ∈ WL := in_1 (j := 80) rfl rfl
theorem q75 : (Cond.classLink RX1 9 RX9 : Cond) ∈ WL := in_1 (j := 81) rfl rfl
theorem q76 : (Cond.fieldLink RX1 11 "WallTurns$Past" "walls" "[LWallTurns$Wall;" : Cond) ∈ WL := in_1 (j := 104) rfl rfl
theorem q77 : (Cond.fieldLink RX1 17 "WallTurns$Past" "took" "[I" : Cond) ∈ WL := in_1 (j := 105) rfl rfl
theorem q78 : (Cond.fieldLink RX1 21 "WallTurns$Past" "laid" "[I" : Cond) ∈ WL := in_1 (j := 106) rfl rfl
theorem q79 : (Cond.instantiable RX9 5 : Cond) ∈ WL := in_1 (j := 83) rfl rfl
theorem q80 : (Cond.initialized RX9 : Cond) ∈ WL := in_1 (j := 7) rfl rfl
theorem q81 : (Cond.fieldLink RX1 25 "WallTurns$Past" "other" "LWallTurns$Wall;" : Cond) ∈ WL := in_1 (j := 107) rfl rfl
theorem q82 : (Cond.fieldLink RX1 29 "WallTurns$Past" "turns" "I" : Cond) ∈ WL := in_1 (j := 108) rfl rfl
theorem q83 : (Cond.instanceMethod yX9_init : Cond) ∈ WL := in_1 (j := 85) rfl rfl
theorem q84 : (Cond.code yX9_init cX9_init 1 none : Cond) ∈ WL := in_1 (j := 86) rfl rfl
theorem q85 : (Cond.methodLink RX9 3 objectInit : Cond) ∈ WL := in_1 (j := 87) rfl rfl
theorem q86 : (Cond.fieldLink RX9 9 "WallTurns$Wall" "stones" "[I" : Cond) ∈ WL := in_1 (j := 88) rfl rfl
theorem q87 : (Cond.fieldLink RX9 15 "WallTurns$Wall" "sizes" "[I" : Cond) ∈ WL := in_1 (j := 89) rfl rfl
theorem q88 : (Cond.fieldLink RX9 18 "WallTurns$Wall" "heights" "[I" : Cond) ∈ WL := in_1 (j := 90) rfl rfl
theorem q89 : (Cond.fieldLink RX9 21 "WallTurns$Wall" "leans" "[I" : Cond) ∈ WL := in_1 (j := 91) rfl rfl
theorem q90 : (Cond.fieldLink RX9 24 "WallTurns$Wall" "columns" "I" : Cond) ∈ WL := in_1 (j := 92) rfl rfl
theorem q91 : (Cond.instanceMethod yX2_init : Cond) ∈ WL := in_1 (j := 123) rfl rfl
theorem q92 : (Cond.code yX2_init cX2_init 1 none : Cond) ∈ WL := in_1 (j := 124) rfl rfl
theorem q93 : (Cond.methodLink RX2 3 objectInit : Cond) ∈ WL := in_1 (j := 125) rfl rfl
theorem q94 : (Cond.classLink RX2 9 RX9 : Cond) ∈ WL := in_1 (j := 126) rfl rfl
theorem q95 : (Cond.fieldLink RX2 12 "WallTurns$Plans" "wall" "LWallTurns$Wall;" : Cond) ∈ WL := in_1 (j := 128) rfl rfl
theorem q96 : (Cond.fieldLink RX2 18 "WallTurns$Plans" "row" "[I" : Cond) ∈ WL := in_1 (j := 129) rfl rfl
theorem q97 : (Cond.fieldLink RX2 22 "WallTurns$Plans" "moves" "[I" : Cond) ∈ WL := in_1 (j := 130) rfl rfl
theorem q98 : (Cond.fieldLink RX2 25 "WallTurns$Plans" "needed" "I" : Cond) ∈ WL := in_1 (j := 131) rfl rfl
theorem q99 : (Cond.fieldLink RX2 29 "WallTurns$Plans" "firstMove" "I" : Cond) ∈ WL := in_1 (j := 132) rfl rfl
theorem q100 : (Cond.instanceMethod yX0_init : Cond) ∈ WL := in_1 (j := 147) rfl rfl
theorem q101 : (Cond.code yX0_init cX0_init 1 none : Cond) ∈ WL := in_1 (j := 148) rfl rfl
theorem q102 : (Cond.methodLink RX0 3 objectInit : Cond) ∈ WL := in_1 (j := 149) rfl rfl
theorem q103 : (Cond.classLink RX0 9 RX9 : Cond) ∈ WL := in_1 (j := 150) rfl rfl
theorem q104 : (Cond.fieldLink RX0 12 "WallTurns$Fates" "wall" "LWallTurns$Wall;" : Cond) ∈ WL := in_1 (j := 152) rfl rfl
theorem q105 : (Cond.fieldLink RX0 18 "WallTurns$Fates" "above" "J" : Cond) ∈ WL := in_1 (j := 153) rfl rfl
theorem q106 : (Cond.fieldLink RX0 22 "WallTurns$Fates" "below" "J" : Cond) ∈ WL := in_1 (j := 154) rfl rfl
theorem q107 : (Cond.fieldLink RX0 25 "WallTurns$Fates" "seed" "I" : Cond) ∈ WL := in_1 (j := 155) rfl rfl
theorem q108 : (Cond.fieldLink RX0 29 "WallTurns$Fates" "fallen" "I" : Cond) ∈ WL := in_1 (j := 156) rfl rfl
theorem q109 : (Cond.instanceMethod yX6_init : Cond) ∈ WL := in_1 (j := 171) rfl rfl
theorem q110 : (Cond.code yX6_init cX6_init 1 none : Cond) ∈ WL := in_1 (j := 172) rfl rfl
theorem q111 : (Cond.methodLink RX6 3 objectInit : Cond) ∈ WL := in_1 (j := 173) rfl rfl
theorem q112 : (Cond.fieldLink RX6 9 "WallTurns$Sights" "turnsBehind" "[I" : Cond) ∈ WL := in_1 (j := 174) rfl rfl
theorem q113 : (Cond.fieldLink RX6 15 "WallTurns$Sights" "columns" "[I" : Cond) ∈ WL := in_1 (j := 175) rfl rfl
theorem q114 : (Cond.fieldLink RX6 18 "WallTurns$Sights" "heights" "[I" : Cond) ∈ WL := in_1 (j := 176) rfl rfl
theorem q115 : (Cond.fieldLink RX6 21 "WallTurns$Sights" "many" "I" : Cond) ∈ WL := in_1 (j := 177) rfl rfl
theorem q116 : (Cond.instanceMethod yX5_init : Cond) ∈ WL := in_1 (j := 190) rfl rfl
theorem q117 : (Cond.code yX5_init cX5_init 1 none : Cond) ∈ WL := in_1 (j := 191) rfl rfl
theorem q118 : (Cond.methodLink RX5 3 objectInit : Cond) ∈ WL := in_1 (j := 192) rfl rfl
theorem q119 : (Cond.classLink RX5 11 "[[I" : Cond) ∈ WL := in_1 (j := 193) rfl rfl
theorem q120 : (Cond.fieldLink RX5 13 "WallTurns$Sheets" "items" "[[I" : Cond) ∈ WL := in_1 (j := 195) rfl rfl
theorem q121 : (Cond.fieldLink RX5 16 "WallTurns$Sheets" "forms" "[I" : Cond) ∈ WL := in_1 (j := 196) rfl rfl
theorem q122 : (Cond.fieldLink RX5 20 "WallTurns$Sheets" "sizes" "[I" : Cond) ∈ WL := in_1 (j := 197) rfl rfl
theorem q123 : (Cond.fieldLink RX5 23 "WallTurns$Sheets" "finding" "I" : Cond) ∈ WL := in_1 (j := 198) rfl rfl
theorem q124 : (Cond.methodLink RL 12 yX11_init : Cond) ∈ WL := in_4 (j := 142) rfl rfl
theorem q125 : (Cond.instanceMethod yX11_init : Cond) ∈ WL := in_4 (j := 143) rfl rfl
theorem q126 : (Cond.code yX11_init cX11_init 2 none : Cond) ∈ WL := in_4 (j := 144) rfl rfl
theorem q127 : (Cond.methodLink RX11 1 objectInit : Cond) ∈ WL := in_4 (j := 145) rfl rfl
theorem q128 : (Cond.fieldLink RX11 7 "WallTurnsModel" "forms" "[I" : Cond) ∈ WL := in_4 (j := 146) rfl rfl
theorem q129 : (Cond.fieldLink RX11 13 "WallTurnsModel" "sizes" "[I" : Cond) ∈ WL := in_4 (j := 147) rfl rfl
theorem q130 : (Cond.fieldLink RX11 16 "WallTurnsModel" "items" "[I" : Cond) ∈ WL := in_4 (j := 148) rfl rfl
theorem q131 : (Cond.fieldLink RX11 19 "WallTurnsModel" "moved" "[I" : Cond) ∈ WL := in_4 (j := 149) rfl rfl
theorem q132 : (Cond.fieldLink RX11 22 "WallTurnsModel" "bytes" "[I" : Cond) ∈ WL := in_4 (j := 151) rfl rfl
theorem q133 : (Cond.fieldLink RX11 25 "WallTurnsModel" "typed" "[I" : Cond) ∈ WL := in_4 (j := 152) rfl rfl
theorem q134 : (Cond.fieldLink RX11 28 "WallTurnsModel" "wall" "[I" : Cond) ∈ WL := in_4 (j := 155) rfl rfl
theorem q135 : (Cond.fieldLink RX11 31 "WallTurnsModel" "tall" "[I" : Cond) ∈ WL := in_4 (j := 156) rfl rfl
theorem q136 : (Cond.fieldLink RX11 34 "WallTurnsModel" "turn" "[I" : Cond) ∈ WL := in_4 (j := 158) rfl rfl
theorem q137 : (Cond.fieldLink RX11 37 "WallTurnsModel" "settings" "[I" : Cond) ∈ WL := in_4 (j := 159) rfl rfl
theorem q138 : (Cond.fieldLink RX11 40 "WallTurnsModel" "stones" "[I" : Cond) ∈ WL := in_4 (j := 160) rfl rfl
theorem q139 : (Cond.fieldLink RX11 43 "WallTurnsModel" "many" "[I" : Cond) ∈ WL := in_4 (j := 161) rfl rfl
theorem q140 : (Cond.fieldLink RX11 46 "WallTurnsModel" "row" "[I" : Cond) ∈ WL := in_4 (j := 166) rfl rfl
theorem q141 : (Cond.fieldLink RX11 49 "WallTurnsModel" "sight" "[I" : Cond) ∈ WL := in_4 (j := 168) rfl rfl
theorem q142 : (Cond.fieldLink RX11 52 "WallTurnsModel" "other" "I" : Cond) ∈ WL := in_4 (j := 164) rfl rfl
theorem q143 : (Cond.methodLink RL 13 yX10_type : Cond) ∈ WL := in_2 (j := 2) rfl rfl
theorem q144 : (Cond.instanceMethod yX10_type : Cond) ∈ WL := in_2 (j := 3) rfl rfl
theorem q145 : (Cond.selects RX10 yX10_type yX10_type : Cond) ∈ WL := in_2 (j := 4) rfl rfl
theorem q146 : (Cond.code yX10_type cX10_type 4 (some .int) : Cond) ∈ WL := in_2 (j := 5) rfl rfl
theorem q147 : (Cond.methodLink RX10 77 yX10_textOf : Cond) ∈ WL := in_2 (j := 6) rfl rfl
theorem q148 : (Cond.instanceMethod yX10_textOf : Cond) ∈ WL := in_2 (j := 8) rfl rfl
theorem q149 : (Cond.selects RX10 yX10_textOf yX10_textOf : Cond) ∈ WL := in_s (j := 0) rfl rfl
theorem q150 : (Cond.code yX10_textOf cX10_textOf 2 (some (.object "WallTurns$Text")) : Cond) ∈ WL := in_2 (j := 9) rfl rfl
theorem q151 : (Cond.methodLink RX10 81 yX10_within : Cond) ∈ WL := in_2 (j := 10) rfl rfl
theorem q152 : (Cond.static yX10_within : Cond) ∈ WL := in_2 (j := 11) rfl rfl
theorem q153 : (Cond.code yX10_within cX10_within 3 (some .boolean) : Cond) ∈ WL := in_2 (j := 12) rfl rfl
theorem q154 : (Cond.methodLink RX10 85 yX8_isFull : Cond) ∈ WL := in_2 (j := 13) rfl rfl
theorem q155 : (Cond.instanceMethod yX8_isFull : Cond) ∈ WL := in_2 (j := 14) rfl rfl
theorem q156 : (Cond.selects RX8 yX8_isFull yX8_isFull : Cond) ∈ WL := in_2 (j := 15) rfl rfl
theorem q157 : (Cond.code yX8_isFull cX8_isFull 1 (some .boolean) : Cond) ∈ WL := in_2 (j := 16) rfl rfl
theorem q158 : (Cond.methodLink RX10 89 yX8_add : Cond) ∈ WL := in_2 (j := 17) rfl rfl
theorem q159 : (Cond.instanceMethod yX8_add : Cond) ∈ WL := in_2 (j := 18) rfl rfl
theorem q160 : (Cond.selects RX8 yX8_add yX8_add : Cond) ∈ WL := in_2 (j := 19) rfl rfl
theorem q161 : (Cond.code yX8_add cX8_add 2 none : Cond) ∈ WL := in_2 (j := 20) rfl rfl
theorem q162 : (Cond.methodLink RX10 92 yX10_settle : Cond) ∈ WL := in_2 (j := 21) rfl rfl
theorem q163 : (Cond.instanceMethod yX10_settle : Cond) ∈ WL := in_2 (j := 23) rfl rfl
theorem q164 : (Cond.selects RX10 yX10_settle yX10_settle : Cond) ∈ WL := in_s (j := 1) rfl rfl
theorem q165 : (Cond.code yX10_settle cX10_settle 1 none : Cond) ∈ WL := in_2 (j := 24) rfl rfl
theorem q166 : (Cond.methodLink RX10 316 yX1_start : Cond) ∈ WL := in_2 (j := 25) rfl rfl
theorem q167 : (Cond.instanceMethod yX1_start : Cond) ∈ WL := in_2 (j := 26) rfl rfl
theorem q168 : (Cond.selects RX1 yX1_start yX1_start : Cond) ∈ WL := in_2 (j := 27) rfl rfl
theorem q169 : (Cond.code yX1_start cX1_start 1 (some (.object "WallTurns$Wall")) : Cond) ∈ WL := in_2 (j := 28) rfl rfl
theorem q170 : (Cond.methodLink RX10 319 yX9_parse : Cond) ∈ WL := in_2 (j := 29) rfl rfl
theorem q171 : (Cond.instanceMethod yX9_parse : Cond) ∈ WL := in_2 (j := 30) rfl rfl
theorem q172 : (Cond.selects RX9 yX9_parse yX9_parse : Cond) ∈ WL := in_2 (j := 31) rfl rfl
theorem q173 : (Cond.code yX9_parse cX9_parse 3 (some .int) : Cond) ∈ WL := in_2 (j := 32) rfl rfl
theorem q174 : (Cond.methodLink RX9 28 yX9_raze : Cond) ∈ WL := in_2 (j := 33) rfl rfl
theorem q175 : (Cond.instanceMethod yX9_raze : Cond) ∈ WL := in_2 (j := 35) rfl rfl
theorem q176 : (Cond.selects RX9 yX9_raze yX9_raze : Cond) ∈ WL := in_s (j := 2) rfl rfl
theorem q177 : (Cond.code yX9_raze cX9_raze 2 none : Cond) ∈ WL := in_2 (j := 36) rfl rfl
theorem q178 : (Cond.methodLink RX9 31 yX8_size : Cond) ∈ WL := in_2 (j := 37) rfl rfl
theorem q179 : (Cond.instanceMethod yX8_size : Cond) ∈ WL := in_2 (j := 38) rfl rfl
theorem q180 : (Cond.selects RX8 yX8_size yX8_size : Cond) ∈ WL := in_2 (j := 39) rfl rfl
theorem q181 : (Cond.code yX8_size cX8_size 1 (some .int) : Cond) ∈ WL := in_2 (j := 40) rfl rfl
theorem q182 : (Cond.methodLink RX9 37 yX8_byteAt : Cond) ∈ WL := in_2 (j := 41) rfl rfl
theorem q183 : (Cond.instanceMethod yX8_byteAt : Cond) ∈ WL := in_2 (j := 42) rfl rfl
theorem q184 : (Cond.selects RX8 yX8_byteAt yX8_byteAt : Cond) ∈ WL := in_2 (j := 43) rfl rfl
theorem q185 : (Cond.code yX8_byteAt cX8_byteAt 2 (some .int) : Cond) ∈ WL := in_2 (j := 44) rfl rfl
theorem q186 : (Cond.methodLink RX9 41 yX9_grow : Cond) ∈ WL := in_2 (j := 45) rfl rfl
theorem q187 : (Cond.instanceMethod yX9_grow : Cond) ∈ WL := in_2 (j := 47) rfl rfl
theorem q188 : (Cond.selects RX9 yX9_grow yX9_grow : Cond) ∈ WL := in_s (j := 3) rfl rfl
theorem q189 : (Cond.code yX9_grow cX9_grow 3 (some .boolean) : Cond) ∈ WL := in_2 (j := 48) rfl rfl
theorem q190 : (Cond.methodLink RX9 45 yX7_ofLetter : Cond) ∈ WL := in_2 (j := 49) rfl rfl
theorem q191 : (Cond.static yX7_ofLetter : Cond) ∈ WL := in_2 (j := 50) rfl rfl
theorem q192 : (Cond.initialized RX7 : Cond) ∈ WL := in_1 (j := 13) rfl rfl
theorem q193 : (Cond.code yX7_ofLetter cX7_ofLetter 1 (some .int) : Cond) ∈ WL := in_2 (j := 51) rfl rfl
theorem q194 : (Cond.methodLink RX9 50 yX9_put : Cond) ∈ WL := in_2 (j := 52) rfl rfl
theorem q195 : (Cond.instanceMethod yX9_put : Cond) ∈ WL := in_2 (j := 53) rfl rfl
theorem q196 : (Cond.selects RX9 yX9_put yX9_put : Cond) ∈ WL := in_2 (j := 54) rfl rfl
theorem q197 : (Cond.code yX9_put cX9_put 3 (some .boolean) : Cond) ∈ WL := in_2 (j := 55) rfl rfl
theorem q198 : (Cond.methodLink RX9 60 yX9_has : Cond) ∈ WL := in_2 (j := 56) rfl rfl
theorem q199 : (Cond.instanceMethod yX9_has : Cond) ∈ WL := in_2 (j := 57) rfl rfl
theorem q200 : (Cond.selects RX9 yX9_has yX9_has : Cond) ∈ WL := in_2 (j := 58) rfl rfl
theorem q201 : (Cond.code yX9_has cX9_has 2 (some .boolean) : Cond) ∈ WL := in_2 (j := 59) rfl rfl
theorem q202 : (Cond.methodLink RX9 66 yX7_weightOf : Cond) ∈ WL := in_2 (j := 60) rfl rfl
theorem q203 : (Cond.static yX7_weightOf : Cond) ∈ WL := in_2 (j := 61) rfl rfl
theorem q204 : (Cond.code yX7_weightOf cX7_weightOf 1 (some .int) : Cond) ∈ WL := in_2 (j := 62) rfl rfl
theorem q205 : (Cond.methodLink RX9 69 yX7_pullOf : Cond) ∈ WL := in_2 (j := 63) rfl rfl
theorem q206 : (Cond.static yX7_pullOf : Cond) ∈ WL := in_2 (j := 64) rfl rfl
theorem q207 : (Cond.code yX7_pullOf cX7_pullOf 2 (some .int) : Cond) ∈ WL := in_2 (j := 65) rfl rfl
theorem q208 : (Cond.methodLink RX10 323 yX4_parse : Cond) ∈ WL := in_2 (j := 66) rfl rfl
theorem q209 : (Cond.instanceMethod yX4_parse : Cond) ∈ WL := in_2 (j := 67) rfl rfl
theorem q210 : (Cond.selects RX4 yX4_parse yX4_parse : Cond) ∈ WL := in_2 (j := 68) rfl rfl
theorem q211 : (Cond.code yX4_parse cX4_parse 4 (some .int) : Cond) ∈ WL := in_2 (j := 69) rfl rfl
theorem q212 : (Cond.methodLink RX4 28 yX8_size : Cond) ∈ WL := in_2 (j := 70) rfl rfl
theorem q213 : (Cond.methodLink RX4 34 yX8_byteAt : Cond) ∈ WL := in_2 (j := 71) rfl rfl
theorem q214 : (Cond.methodLink RX4 38 yX4_stateBehind : Cond) ∈ WL := in_2 (j := 72) rfl rfl
theorem q215 : (Cond.instanceMethod yX4_stateBehind : Cond) ∈ WL := in_2 (j := 74) rfl rfl
theorem q216 : (Cond.selects RX4 yX4_stateBehind yX4_stateBehind : Cond) ∈ WL := in_s (j := 4) rfl rfl
theorem q217 : (Cond.code yX4_stateBehind cX4_stateBehind 3 (some .int) : Cond) ∈ WL := in_2 (j := 75) rfl rfl
theorem q218 : (Cond.methodLink RX4 42 yX4_beginTurn : Cond) ∈ WL := in_2 (j := 76) rfl rfl
theorem q219 : (Cond.instanceMethod yX4_beginTurn : Cond) ∈ WL := in_2 (j := 78) rfl rfl
theorem q220 : (Cond.selects RX4 yX4_beginTurn yX4_beginTurn : Cond) ∈ WL := in_s (j := 5) rfl rfl
theorem q221 : (Cond.code yX4_beginTurn cX4_beginTurn 1 (some .boolean) : Cond) ∈ WL := in_2 (j := 79) rfl rfl
theorem q222 : (Cond.methodLink RX4 46 yX4_tellLetter : Cond) ∈ WL := in_2 (j := 80) rfl rfl
theorem q223 : (Cond.instanceMethod yX4_tellLetter : Cond) ∈ WL := in_2 (j := 82) rfl rfl
theorem q224 : (Cond.selects RX4 yX4_tellLetter yX4_tellLetter : Cond) ∈ WL := in_s (j := 6) rfl rfl
theorem q225 : (Cond.code yX4_tellLetter cX4_tellLetter 5 (some .int) : Cond) ∈ WL := in_2 (j := 83) rfl rfl
theorem q226 : (Cond.methodLink RX4 64 yX7_ofLetter : Cond) ∈ WL := in_2 (j := 84) rfl rfl
theorem q227 : (Cond.methodLink RX4 67 yX4_nextPart : Cond) ∈ WL := in_2 (j := 85) rfl rfl
theorem q228 : (Cond.instanceMethod yX4_nextPart : Cond) ∈ WL := in_2 (j := 87) rfl rfl
theorem q229 : (Cond.selects RX4 yX4_nextPart yX4_nextPart : Cond) ∈ WL := in_s (j := 7) rfl rfl
theorem q230 : (Cond.code yX4_nextPart cX4_nextPart 2 (some .int) : Cond) ∈ WL := in_2 (j := 88) rfl rfl
theorem q231 : (Cond.methodLink RX4 60 yX4_isTurn : Cond) ∈ WL := in_2 (j := 89) rfl rfl
theorem q232 : (Cond.instanceMethod yX4_isTurn : Cond) ∈ WL := in_2 (j := 91) rfl rfl
theorem q233 : (Cond.selects RX4 yX4_isTurn yX4_isTurn : Cond) ∈ WL := in_s (j := 8) rfl rfl
theorem q234 : (Cond.code yX4_isTurn cX4_isTurn 2 (some .boolean) : Cond) ∈ WL := in_2 (j := 92) rfl rfl
theorem q235 : (Cond.methodLink RX4 49 yX4_tellTake : Cond) ∈ WL := in_2 (j := 93) rfl rfl
theorem q236 : (Cond.instanceMethod yX4_tellTake : Cond) ∈ WL := in_2 (j := 95) rfl rfl
theorem q237 : (Cond.selects RX4 yX4_tellTake yX4_tellTake : Cond) ∈ WL := in_s (j := 9) rfl rfl
theorem q238 : (Cond.code yX4_tellTake cX4_tellTake 4 (some .int) : Cond) ∈ WL := in_2 (j := 96) rfl rfl
theorem q239 : (Cond.methodLink RX4 55 yX7_columnOf : Cond) ∈ WL := in_2 (j := 97) rfl rfl
theorem q240 : (Cond.static yX7_columnOf : Cond) ∈ WL := in_2 (j := 98) rfl rfl
theorem q241 : (Cond.code yX7_columnOf cX7_columnOf 1 (some .int) : Cond) ∈ WL := in_2 (j := 99) rfl rfl
theorem q242 : (Cond.methodLink RX4 52 yX4_tellPlace : Cond) ∈ WL := in_2 (j := 100) rfl rfl
theorem q243 : (Cond.instanceMethod yX4_tellPlace : Cond) ∈ WL := in_2 (j := 102) rfl rfl
theorem q244 : (Cond.selects RX4 yX4_tellPlace yX4_tellPlace : Cond) ∈ WL := in_s (j := 10) rfl rfl
theorem q245 : (Cond.code yX4_tellPlace cX4_tellPlace 5 (some .int) : Cond) ∈ WL := in_2 (j := 103) rfl rfl
theorem q246 : (Cond.methodLink RX10 117 yX1_replay : Cond) ∈ WL := in_2 (j := 104) rfl rfl
theorem q247 : (Cond.instanceMethod yX1_replay : Cond) ∈ WL := in_2 (j := 105) rfl rfl
theorem q248 : (Cond.selects RX1 yX1_replay yX1_replay : Cond) ∈ WL := in_2 (j := 106) rfl rfl
theorem q249 : (Cond.code yX1_replay cX1_replay 6 none : Cond) ∈ WL := in_2 (j := 107) rfl rfl
theorem q250 : (Cond.methodLink RX1 33 Lib.Math.min.name : Cond) ∈ WL := in_2 (j := 112) rfl rfl
theorem q251 : (Cond.methodLink RX1 53 yX4_turnCount : Cond) ∈ WL := in_2 (j := 108) rfl rfl
theorem q252 : (Cond.instanceMethod yX4_turnCount : Cond) ∈ WL := in_2 (j := 109) rfl rfl
theorem q253 : (Cond.selects RX4 yX4_turnCount yX4_turnCount : Cond) ∈ WL := in_2 (j := 110) rfl rfl
theorem q254 : (Cond.code yX4_turnCount cX4_turnCount 1 (some .int) : Cond) ∈ WL := in_2 (j := 111) rfl rfl
theorem q255 : (Cond.methodLink RX1 59 yX9_become : Cond) ∈ WL := in_2 (j := 113) rfl rfl
theorem q256 : (Cond.instanceMethod yX9_become : Cond) ∈ WL := in_2 (j := 114) rfl rfl
theorem q257 : (Cond.selects RX9 yX9_become yX9_become : Cond) ∈ WL := in_2 (j := 115) rfl rfl
theorem q258 : (Cond.code yX9_become cX9_become 2 none : Cond) ∈ WL := in_2 (j := 116) rfl rfl
theorem q259 : (Cond.methodLink RX9 54 arraycopyName : Cond) ∈ WL := in_2 (j := 117) rfl rfl
theorem q260 : (Cond.native arraycopyName : Cond) ∈ WL := in_2 (j := 119) rfl rfl
theorem q261 : (Cond.static arraycopyName : Cond) ∈ WL := in_2 (j := 118) rfl rfl
theorem q262 : (Cond.initialized "java/lang/System" : Cond) ∈ WL := in_1 (j := 14) rfl rfl
theorem q263 : (Cond.methodLink RX1 63 yX3_brotherOf : Cond) ∈ WL := in_2 (j := 120) rfl rfl
theorem q264 : (Cond.instanceMethod yX3_brotherOf : Cond) ∈ WL := in_2 (j := 121) rfl rfl
theorem q265 : (Cond.selects RX3 yX3_brotherOf yX3_brotherOf : Cond) ∈ WL := in_2 (j := 122) rfl rfl
theorem q266 : (Cond.code yX3_brotherOf cX3_brotherOf 2 (some .int) : Cond) ∈ WL := in_2 (j := 123) rfl rfl
theorem q267 : (Cond.methodLink RX3 20 yX3_value : Cond) ∈ WL := in_2 (j := 124) rfl rfl
theorem q268 : (Cond.instanceMethod yX3_value : Cond) ∈ WL := in_2 (j := 125) rfl rfl
theorem q269 : (Cond.selects RX3 yX3_value yX3_value : Cond) ∈ WL := in_2 (j := 126) rfl rfl
theorem q270 : (Cond.code yX3_value cX3_value 2 (some .int) : Cond) ∈ WL := in_2 (j := 127) rfl rfl
theorem q271 : (Cond.methodLink RX1 68 yX4_doTake : Cond) ∈ WL := in_2 (j := 128) rfl rfl
theorem q272 : (Cond.instanceMethod yX4_doTake : Cond) ∈ WL := in_2 (j := 129) rfl rfl
theorem q273 : (Cond.selects RX4 yX4_doTake yX4_doTake : Cond) ∈ WL := in_2 (j := 130) rfl rfl
theorem q274 : (Cond.code yX4_doTake cX4_doTake 4 (some .int) : Cond) ∈ WL := in_2 (j := 131) rfl rfl
theorem q275 : (Cond.methodLink RX4 70 yX9_takeFromOther : Cond) ∈ WL := in_2 (j := 132) rfl rfl
theorem q276 : (Cond.instanceMethod yX9_takeFromOther : Cond) ∈ WL := in_2 (j := 133) rfl rfl
theorem q277 : (Cond.selects RX9 yX9_takeFromOther yX9_takeFromOther : Cond) ∈ WL := in_2 (j := 134) rfl rfl
theorem q278 : (Cond.code yX9_takeFromOther cX9_takeFromOther 4 (some .boolean) : Cond) ∈ WL := in_2 (j := 135) rfl rfl
theorem q279 : (Cond.methodLink RX9 72 yX9_uppermost : Cond) ∈ WL := in_2 (j := 136) rfl rfl
theorem q280 : (Cond.instanceMethod yX9_uppermost : Cond) ∈ WL := in_2 (j := 137) rfl rfl
theorem q281 : (Cond.selects RX9 yX9_uppermost yX9_uppermost : Cond) ∈ WL := in_2 (j := 138) rfl rfl
theorem q282 : (Cond.code yX9_uppermost cX9_uppermost 3 (some .int) : Cond) ∈ WL := in_2 (j := 139) rfl rfl
theorem q283 : (Cond.methodLink RX9 75 yX7_ownerOf : Cond) ∈ WL := in_2 (j := 140) rfl rfl
theorem q284 : (Cond.static yX7_ownerOf : Cond) ∈ WL := in_2 (j := 141) rfl rfl
theorem q285 : (Cond.code yX7_ownerOf cX7_ownerOf 1 (some .int) : Cond) ∈ WL := in_2 (j := 142) rfl rfl
theorem q286 : (Cond.methodLink RX9 78 yX9_take : Cond) ∈ WL := in_2 (j := 143) rfl rfl
theorem q287 : (Cond.instanceMethod yX9_take : Cond) ∈ WL := in_2 (j := 144) rfl rfl
theorem q288 : (Cond.selects RX9 yX9_take yX9_take : Cond) ∈ WL := in_2 (j := 145) rfl rfl
theorem q289 : (Cond.code yX9_take cX9_take 3 (some .int) : Cond) ∈ WL := in_2 (j := 146) rfl rfl
theorem q290 : (Cond.methodLink RX1 72 yX4_doLays : Cond) ∈ WL := in_2 (j := 147) rfl rfl
theorem q291 : (Cond.instanceMethod yX4_doLays : Cond) ∈ WL := in_2 (j := 148) rfl rfl
theorem q292 : (Cond.selects RX4 yX4_doLays yX4_doLays : Cond) ∈ WL := in_2 (j := 149) rfl rfl
theorem q293 : (Cond.code yX4_doLays cX4_doLays 7 (some .int) : Cond) ∈ WL := in_2 (j := 150) rfl rfl
theorem q294 : (Cond.methodLink RX4 76 yX7_ownerOf : Cond) ∈ WL := in_2 (j := 151) rfl rfl
theorem q295 : (Cond.methodLink RX4 79 yX9_put : Cond) ∈ WL := in_2 (j := 152) rfl rfl
theorem q296 : (Cond.methodLink RX10 95 yX8_size : Cond) ∈ WL := in_2 (j := 153) rfl rfl
theorem q297 : (Cond.methodLink RL 17 yX11_type : Cond) ∈ WL := in_5 (j := 19) rfl rfl
theorem q298 : (Cond.instanceMethod yX11_type : Cond) ∈ WL := in_5 (j := 20) rfl rfl
theorem q299 : (Cond.selects RX11 yX11_type yX11_type : Cond) ∈ WL := in_5 (j := 21) rfl rfl
theorem q300 : (Cond.code yX11_type cX11_type 3 (some .int) : Cond) ∈ WL := in_5 (j := 22) rfl rfl
theorem q301 : (Cond.constantLong RX11 89 (255) : Cond) ∈ WL := in_5 (j := 26) rfl rfl
theorem q302 : (Cond.methodLink RX11 86 yX11_isTwo : Cond) ∈ WL := in_5 (j := 23) rfl rfl
theorem q303 : (Cond.static yX11_isTwo : Cond) ∈ WL := in_5 (j := 24) rfl rfl
theorem q304 : (Cond.code yX11_isTwo cX11_isTwo 1 (some .boolean) : Cond) ∈ WL := in_5 (j := 25) rfl rfl
theorem q305 : (Cond.methodLink RX11 58 yX11_in : Cond) ∈ WL := in_4 (j := 227) rfl rfl
theorem q306 : (Cond.static yX11_in : Cond) ∈ WL := in_4 (j := 228) rfl rfl
theorem q307 : (Cond.code yX11_in cX11_in 6 (some .boolean) : Cond) ∈ WL := in_4 (j := 229) rfl rfl
theorem q308 : (Cond.methodLink RL 18 yX10_wipe : Cond) ∈ WL := in_2 (j := 154) rfl rfl
theorem q309 : (Cond.instanceMethod yX10_wipe : Cond) ∈ WL := in_2 (j := 155) rfl rfl
theorem q310 : (Cond.selects RX10 yX10_wipe yX10_wipe : Cond) ∈ WL := in_2 (j := 156) rfl rfl
theorem q311 : (Cond.code yX10_wipe cX10_wipe 4 (some .int) : Cond) ∈ WL := in_2 (j := 157) rfl rfl
theorem q312 : (Cond.methodLink RX10 99 yX8_clear : Cond) ∈ WL := in_2 (j := 158) rfl rfl
theorem q313 : (Cond.instanceMethod yX8_clear : Cond) ∈ WL := in_2 (j := 159) rfl rfl
theorem q314 : (Cond.selects RX8 yX8_clear yX8_clear : Cond) ∈ WL := in_2 (j := 160) rfl rfl
theorem q315 : (Cond.code yX8_clear cX8_clear 1 none : Cond) ∈ WL := in_2 (j := 161) rfl rfl
theorem q316 : (Cond.methodLink RL 22 yX11_wipe : Cond) ∈ WL := in_5 (j := 27) rfl rfl
theorem q317 : (Cond.instanceMethod yX11_wipe : Cond) ∈ WL := in_5 (j := 28) rfl rfl
theorem q318 : (Cond.selects RX11 yX11_wipe yX11_wipe : Cond) ∈ WL := in_5 (j := 29) rfl rfl
theorem q319 : (Cond.code yX11_wipe cX11_wipe 3 (some .int) : Cond) ∈ WL := in_5 (j := 30) rfl rfl
theorem q320 : (Cond.methodLink RL 23 yX10_undo : Cond) ∈ WL := in_2 (j := 162) rfl rfl
theorem q321 : (Cond.instanceMethod yX10_undo : Cond) ∈ WL := in_2 (j := 163) rfl rfl
theorem q322 : (Cond.selects RX10 yX10_undo yX10_undo : Cond) ∈ WL := in_2 (j := 164) rfl rfl
theorem q323 : (Cond.code yX10_undo cX10_undo 3 (some .int) : Cond) ∈ WL := in_2 (j := 165) rfl rfl
theorem q324 : (Cond.methodLink RX10 102 yX8_cut : Cond) ∈ WL := in_2 (j := 166) rfl rfl
theorem q325 : (Cond.instanceMethod yX8_cut : Cond) ∈ WL := in_2 (j := 167) rfl rfl
theorem q326 : (Cond.selects RX8 yX8_cut yX8_cut : Cond) ∈ WL := in_2 (j := 168) rfl rfl
theorem q327 : (Cond.code yX8_cut cX8_cut 1 none : Cond) ∈ WL := in_2 (j := 169) rfl rfl
theorem q328 : (Cond.methodLink RL 26 yX11_undo : Cond) ∈ WL := in_5 (j := 31) rfl rfl
theorem q329 : (Cond.instanceMethod yX11_undo : Cond) ∈ WL := in_5 (j := 32) rfl rfl
theorem q330 : (Cond.selects RX11 yX11_undo yX11_undo : Cond) ∈ WL := in_5 (j := 33) rfl rfl
theorem q331 : (Cond.code yX11_undo cX11_undo 2 (some .int) : Cond) ∈ WL := in_5 (j := 34) rfl rfl
theorem q332 : (Cond.methodLink RL 27 yX10_fault : Cond) ∈ WL := in_2 (j := 170) rfl rfl
theorem q333 : (Cond.instanceMethod yX10_fault : Cond) ∈ WL := in_2 (j := 171) rfl rfl
theorem q334 : (Cond.selects RX10 yX10_fault yX10_fault : Cond) ∈ WL := in_2 (j := 172) rfl rfl
theorem q335 : (Cond.code yX10_fault cX10_fault 2 (some .int) : Cond) ∈ WL := in_2 (j := 173) rfl rfl
theorem q336 : (Cond.methodLink RL 30 yX11_fault : Cond) ∈ WL := in_5 (j := 35) rfl rfl
theorem q337 : (Cond.instanceMethod yX11_fault : Cond) ∈ WL := in_5 (j := 36) rfl rfl
theorem q338 : (Cond.selects RX11 yX11_fault yX11_fault : Cond) ∈ WL := in_5 (j := 37) rfl rfl
theorem q339 : (Cond.code yX11_fault cX11_fault 2 (some .int) : Cond) ∈ WL := in_5 (j := 38) rfl rfl
theorem q340 : (Cond.methodLink RX11 118 yX11_readsWall : Cond) ∈ WL := in_5 (j := 39) rfl rfl
theorem q341 : (Cond.instanceMethod yX11_readsWall : Cond) ∈ WL := in_5 (j := 41) rfl rfl
theorem q342 : (Cond.selects RX11 yX11_readsWall yX11_readsWall : Cond) ∈ WL := in_s (j := 22) rfl rfl
theorem q343 : (Cond.code yX11_readsWall cX11_readsWall 5 (some .int) : Cond) ∈ WL := in_5 (j := 42) rfl rfl
theorem q344 : (Cond.fieldLink RX11 91 "WallTurnsModel" "columns" "I" : Cond) ∈ WL := in_4 (j := 154) rfl rfl
theorem q345 : (Cond.methodLink RX11 94 yX11_stoneOf : Cond) ∈ WL := in_5 (j := 43) rfl rfl
theorem q346 : (Cond.static yX11_stoneOf : Cond) ∈ WL := in_5 (j := 44) rfl rfl
theorem q347 : (Cond.code yX11_stoneOf cX11_stoneOf 1 (some .int) : Cond) ∈ WL := in_5 (j := 45) rfl rfl
theorem q348 : (Cond.methodLink RX11 121 yX11_readsTurns : Cond) ∈ WL := in_5 (j := 46) rfl rfl
theorem q349 : (Cond.instanceMethod yX11_readsTurns : Cond) ∈ WL := in_5 (j := 48) rfl rfl
theorem q350 : (Cond.selects RX11 yX11_readsTurns yX11_readsTurns : Cond) ∈ WL := in_s (j := 23) rfl rfl
theorem q351 : (Cond.code yX11_readsTurns cX11_readsTurns 3 (some .int) : Cond) ∈ WL := in_5 (j := 49) rfl rfl
theorem q352 : (Cond.fieldLink RX11 97 "WallTurnsModel" "at" "I" : Cond) ∈ WL := in_4 (j := 153) rfl rfl
theorem q353 : (Cond.fieldLink RX11 108 "WallTurnsModel" "turns" "I" : Cond) ∈ WL := in_4 (j := 157) rfl rfl
theorem q354 : (Cond.methodLink RX11 114 yX11_readsTurn : Cond) ∈ WL := in_5 (j := 50) rfl rfl
theorem q355 : (Cond.instanceMethod yX11_readsTurn : Cond) ∈ WL := in_5 (j := 52) rfl rfl
theorem q356 : (Cond.selects RX11 yX11_readsTurn yX11_readsTurn : Cond) ∈ WL := in_s (j := 24) rfl rfl
theorem q357 : (Cond.code yX11_readsTurn cX11_readsTurn 3 (some .boolean) : Cond) ∈ WL := in_5 (j := 53) rfl rfl
theorem q358 : (Cond.methodLink RX11 100 yX11_here : Cond) ∈ WL := in_5 (j := 54) rfl rfl
theorem q359 : (Cond.instanceMethod yX11_here : Cond) ∈ WL := in_5 (j := 56) rfl rfl
theorem q360 : (Cond.selects RX11 yX11_here yX11_here : Cond) ∈ WL := in_s (j := 25) rfl rfl
theorem q361 : (Cond.code yX11_here cX11_here 1 (some .int) : Cond) ∈ WL := in_5 (j := 57) rfl rfl
theorem q362 : (Cond.methodLink RX11 111 yX11_figure : Cond) ∈ WL := in_5 (j := 58) rfl rfl
theorem q363 : (Cond.instanceMethod yX11_figure : Cond) ∈ WL := in_5 (j := 60) rfl rfl
theorem q364 : (Cond.selects RX11 yX11_figure yX11_figure : Cond) ∈ WL := in_s (j := 26) rfl rfl
theorem q365 : (Cond.code yX11_figure cX11_figure 2 (some .int) : Cond) ∈ WL := in_5 (j := 61) rfl rfl
theorem q366 : (Cond.constantLong RX11 104 (48) : Cond) ∈ WL := in_5 (j := 62) rfl rfl
theorem q367 : (Cond.constantLong RX11 106 (55) : Cond) ∈ WL := in_5 (j := 63) rfl rfl
theorem q368 : (Cond.methodLink RL 31 yX10_set : Cond) ∈ WL := in_2 (j := 174) rfl rfl
theorem q369 : (Cond.instanceMethod yX10_set : Cond) ∈ WL := in_2 (j := 175) rfl rfl
theorem q370 : (Cond.selects RX10 yX10_set yX10_set : Cond) ∈ WL := in_2 (j := 176) rfl rfl
theorem q371 : (Cond.code yX10_set cX10_set 4 (some .int) : Cond) ∈ WL := in_2 (j := 177) rfl rfl
theorem q372 : (Cond.methodLink RX10 105 yX3_allows : Cond) ∈ WL := in_2 (j := 178) rfl rfl
theorem q373 : (Cond.static yX3_allows : Cond) ∈ WL := in_2 (j := 179) rfl rfl
theorem q374 : (Cond.code yX3_allows cX3_allows 2 (some .boolean) : Cond) ∈ WL := in_2 (j := 180) rfl rfl
theorem q375 : (Cond.fieldLink RX3 13 "WallTurns$Rules" "MOST" "[I" : Cond) ∈ WL := in_2 (j := 181) rfl rfl
theorem q376 : (Cond.methodLink RX10 109 yX3_value : Cond) ∈ WL := in_2 (j := 183) rfl rfl
theorem q377 : (Cond.methodLink RX10 113 yX3_become : Cond) ∈ WL := in_2 (j := 184) rfl rfl
theorem q378 : (Cond.instanceMethod yX3_become : Cond) ∈ WL := in_2 (j := 185) rfl rfl
theorem q379 : (Cond.selects RX3 yX3_become yX3_become : Cond) ∈ WL := in_2 (j := 186) rfl rfl
theorem q380 : (Cond.code yX3_become cX3_become 3 none : Cond) ∈ WL := in_2 (j := 187) rfl rfl
theorem q381 : (Cond.methodLink RX3 16 yX3_allows : Cond) ∈ WL := in_2 (j := 188) rfl rfl
theorem q382 : (Cond.methodLink RL 34 yX11_set : Cond) ∈ WL := in_5 (j := 64) rfl rfl
theorem q383 : (Cond.instanceMethod yX11_set : Cond) ∈ WL := in_5 (j := 65) rfl rfl
theorem q384 : (Cond.selects RX11 yX11_set yX11_set : Cond) ∈ WL := in_5 (j := 66) rfl rfl
theorem q385 : (Cond.code yX11_set cX11_set 4 (some .int) : Cond) ∈ WL := in_5 (j := 67) rfl rfl
theorem q386 : (Cond.constantLong RX11 124 (5) : Cond) ∈ WL := in_5 (j := 68) rfl rfl
theorem q387 : (Cond.methodLink RX11 126 yX11_mostOf : Cond) ∈ WL := in_5 (j := 69) rfl rfl
theorem q388 : (Cond.static yX11_mostOf : Cond) ∈ WL := in_5 (j := 70) rfl rfl
theorem q389 : (Cond.code yX11_mostOf cX11_mostOf 1 (some .int) : Cond) ∈ WL := in_5 (j := 71) rfl rfl
theorem q390 : (Cond.methodLink RL 35 yX10_height : Cond) ∈ WL := in_2 (j := 189) rfl rfl
theorem q391 : (Cond.instanceMethod yX10_height : Cond) ∈ WL := in_2 (j := 190) rfl rfl
theorem q392 : (Cond.selects RX10 yX10_height yX10_height : Cond) ∈ WL := in_2 (j := 191) rfl rfl
theorem q393 : (Cond.code yX10_height cX10_height 4 (some .int) : Cond) ∈ WL := in_2 (j := 192) rfl rfl
theorem q394 : (Cond.methodLink RX10 121 yX1_wallBehind : Cond) ∈ WL := in_2 (j := 193) rfl rfl
theorem q395 : (Cond.instanceMethod yX1_wallBehind : Cond) ∈ WL := in_2 (j := 194) rfl rfl
theorem q396 : (Cond.selects RX1 yX1_wallBehind yX1_wallBehind : Cond) ∈ WL := in_2 (j := 195) rfl rfl
theorem q397 : (Cond.code yX1_wallBehind cX1_wallBehind 2 (some (.object "WallTurns$Wall")) : Cond) ∈ WL := in_2 (j := 196) rfl rfl
theorem q398 : (Cond.methodLink RX10 125 yX9_has : Cond) ∈ WL := in_2 (j := 197) rfl rfl
theorem q399 : (Cond.methodLink RX10 131 yX9_heightOf : Cond) ∈ WL := in_2 (j := 198) rfl rfl
theorem q400 : (Cond.instanceMethod yX9_heightOf : Cond) ∈ WL := in_2 (j := 199) rfl rfl
theorem q401 : (Cond.selects RX9 yX9_heightOf yX9_heightOf : Cond) ∈ WL := in_2 (j := 200) rfl rfl
theorem q402 : (Cond.code yX9_heightOf cX9_heightOf 2 (some .int) : Cond) ∈ WL := in_2 (j := 201) rfl rfl
theorem q403 : (Cond.methodLink RL 38 yX11_height : Cond) ∈ WL := in_5 (j := 72) rfl rfl
theorem q404 : (Cond.instanceMethod yX11_height : Cond) ∈ WL := in_5 (j := 73) rfl rfl
theorem q405 : (Cond.selects RX11 yX11_height yX11_height : Cond) ∈ WL := in_5 (j := 74) rfl rfl
theorem q406 : (Cond.code yX11_height cX11_height 3 (some .int) : Cond) ∈ WL := in_5 (j := 75) rfl rfl
theorem q407 : (Cond.methodLink RX11 177 yX11_reads : Cond) ∈ WL := in_5 (j := 76) rfl rfl
theorem q408 : (Cond.instanceMethod yX11_reads : Cond) ∈ WL := in_5 (j := 78) rfl rfl
theorem q409 : (Cond.selects RX11 yX11_reads yX11_reads : Cond) ∈ WL := in_s (j := 27) rfl rfl
theorem q410 : (Cond.code yX11_reads cX11_reads 1 none : Cond) ∈ WL := in_5 (j := 79) rfl rfl
theorem q411 : (Cond.methodLink RX11 180 yX11_areTurns : Cond) ∈ WL := in_5 (j := 80) rfl rfl
theorem q412 : (Cond.instanceMethod yX11_areTurns : Cond) ∈ WL := in_5 (j := 82) rfl rfl
theorem q413 : (Cond.selects RX11 yX11_areTurns yX11_areTurns : Cond) ∈ WL := in_s (j := 28) rfl rfl
theorem q414 : (Cond.code yX11_areTurns cX11_areTurns 2 (some .boolean) : Cond) ∈ WL := in_5 (j := 83) rfl rfl
theorem q415 : (Cond.methodLink RX11 183 yX11_isColumn : Cond) ∈ WL := in_5 (j := 84) rfl rfl
theorem q416 : (Cond.instanceMethod yX11_isColumn : Cond) ∈ WL := in_5 (j := 86) rfl rfl
theorem q417 : (Cond.selects RX11 yX11_isColumn yX11_isColumn : Cond) ∈ WL := in_s (j := 29) rfl rfl
theorem q418 : (Cond.code yX11_isColumn cX11_isColumn 2 (some .boolean) : Cond) ∈ WL := in_5 (j := 87) rfl rfl
theorem q419 : (Cond.methodLink RX11 186 yX11_heightOf : Cond) ∈ WL := in_5 (j := 88) rfl rfl
theorem q420 : (Cond.instanceMethod yX11_heightOf : Cond) ∈ WL := in_5 (j := 90) rfl rfl
theorem q421 : (Cond.selects RX11 yX11_heightOf yX11_heightOf : Cond) ∈ WL := in_s (j := 30) rfl rfl
theorem q422 : (Cond.code yX11_heightOf cX11_heightOf 3 (some .int) : Cond) ∈ WL := in_5 (j := 91) rfl rfl
theorem q423 : (Cond.methodLink RX11 174 yX11_lives : Cond) ∈ WL := in_5 (j := 92) rfl rfl
theorem q424 : (Cond.instanceMethod yX11_lives : Cond) ∈ WL := in_5 (j := 94) rfl rfl
theorem q425 : (Cond.selects RX11 yX11_lives yX11_lives : Cond) ∈ WL := in_s (j := 31) rfl rfl
theorem q426 : (Cond.code yX11_lives cX11_lives 3 none : Cond) ∈ WL := in_5 (j := 95) rfl rfl
theorem q427 : (Cond.methodLink RX11 149 yX11_begins : Cond) ∈ WL := in_5 (j := 96) rfl rfl
theorem q428 : (Cond.instanceMethod yX11_begins : Cond) ∈ WL := in_5 (j := 98) rfl rfl
theorem q429 : (Cond.selects RX11 yX11_begins yX11_begins : Cond) ∈ WL := in_s (j := 32) rfl rfl
theorem q430 : (Cond.code yX11_begins cX11_begins 2 none : Cond) ∈ WL := in_5 (j := 99) rfl rfl
theorem q431 : (Cond.methodLink RX11 152 yX11_goes : Cond) ∈ WL := in_5 (j := 100) rfl rfl
theorem q432 : (Cond.instanceMethod yX11_goes : Cond) ∈ WL := in_5 (j := 102) rfl rfl
theorem q433 : (Cond.selects RX11 yX11_goes yX11_goes : Cond) ∈ WL := in_s (j := 33) rfl rfl
theorem q434 : (Cond.code yX11_goes cX11_goes 5 none : Cond) ∈ WL := in_5 (j := 103) rfl rfl
theorem q435 : (Cond.fieldLink RX11 129 "WallTurnsModel" "otherHow" "I" : Cond) ∈ WL := in_4 (j := 165) rfl rfl
theorem q436 : (Cond.fieldLink RX11 139 "WallTurnsModel" "took" "I" : Cond) ∈ WL := in_4 (j := 162) rfl rfl
theorem q437 : (Cond.fieldLink RX11 142 "WallTurnsModel" "laid" "I" : Cond) ∈ WL := in_4 (j := 163) rfl rfl
theorem q438 : (Cond.methodLink RX11 132 yX11_whoseTurn : Cond) ∈ WL := in_5 (j := 104) rfl rfl
theorem q439 : (Cond.instanceMethod yX11_whoseTurn : Cond) ∈ WL := in_5 (j := 106) rfl rfl
theorem q440 : (Cond.selects RX11 yX11_whoseTurn yX11_whoseTurn : Cond) ∈ WL := in_s (j := 34) rfl rfl
theorem q441 : (Cond.code yX11_whoseTurn cX11_whoseTurn 3 (some .int) : Cond) ∈ WL := in_5 (j := 107) rfl rfl
theorem q442 : (Cond.methodLink RX11 135 yX11_takes : Cond) ∈ WL := in_5 (j := 108) rfl rfl
theorem q443 : (Cond.instanceMethod yX11_takes : Cond) ∈ WL := in_5 (j := 110) rfl rfl
theorem q444 : (Cond.selects RX11 yX11_takes yX11_takes : Cond) ∈ WL := in_s (j := 35) rfl rfl
theorem q445 : (Cond.code yX11_takes cX11_takes 4 (some .boolean) : Cond) ∈ WL := in_5 (j := 111) rfl rfl
theorem q446 : (Cond.methodLink RX11 145 yX11_lays : Cond) ∈ WL := in_5 (j := 112) rfl rfl
theorem q447 : (Cond.instanceMethod yX11_lays : Cond) ∈ WL := in_5 (j := 114) rfl rfl
theorem q448 : (Cond.selects RX11 yX11_lays yX11_lays : Cond) ∈ WL := in_s (j := 36) rfl rfl
theorem q449 : (Cond.code yX11_lays cX11_lays 5 (some .boolean) : Cond) ∈ WL := in_5 (j := 115) rfl rfl
theorem q450 : (Cond.methodLink RX11 159 yX11_highOf : Cond) ∈ WL := in_5 (j := 116) rfl rfl
theorem q451 : (Cond.instanceMethod yX11_highOf : Cond) ∈ WL := in_5 (j := 118) rfl rfl
theorem q452 : (Cond.selects RX11 yX11_highOf yX11_highOf : Cond) ∈ WL := in_s (j := 37) rfl rfl
theorem q453 : (Cond.code yX11_highOf cX11_highOf 4 (some .int) : Cond) ∈ WL := in_5 (j := 119) rfl rfl
theorem q454 : (Cond.methodLink RX11 156 yX11_weight : Cond) ∈ WL := in_5 (j := 120) rfl rfl
theorem q455 : (Cond.static yX11_weight : Cond) ∈ WL := in_5 (j := 121) rfl rfl
theorem q456 : (Cond.code yX11_weight cX11_weight 1 (some .int) : Cond) ∈ WL := in_5 (j := 122) rfl rfl
theorem q457 : (Cond.methodLink RL 39 yX10_lean : Cond) ∈ WL := in_2 (j := 202) rfl rfl
theorem q458 : (Cond.instanceMethod yX10_lean : Cond) ∈ WL := in_2 (j := 203) rfl rfl
theorem q459 : (Cond.selects RX10 yX10_lean yX10_lean : Cond) ∈ WL := in_2 (j := 204) rfl rfl
theorem q460 : (Cond.code yX10_lean cX10_lean 4 (some .int) : Cond) ∈ WL := in_2 (j := 205) rfl rfl
theorem q461 : (Cond.methodLink RX10 134 yX9_leanOf : Cond) ∈ WL := in_2 (j := 206) rfl rfl
theorem q462 : (Cond.instanceMethod yX9_leanOf : Cond) ∈ WL := in_2 (j := 207) rfl rfl
theorem q463 : (Cond.selects RX9 yX9_leanOf yX9_leanOf : Cond) ∈ WL := in_2 (j := 208) rfl rfl
theorem q464 : (Cond.code yX9_leanOf cX9_leanOf 2 (some .int) : Cond) ∈ WL := in_2 (j := 209) rfl rfl
theorem q465 : (Cond.methodLink RL 42 yX11_lean : Cond) ∈ WL := in_5 (j := 123) rfl rfl
theorem q466 : (Cond.instanceMethod yX11_lean : Cond) ∈ WL := in_5 (j := 124) rfl rfl
theorem q467 : (Cond.selects RX11 yX11_lean yX11_lean : Cond) ∈ WL := in_5 (j := 125) rfl rfl
theorem q468 : (Cond.code yX11_lean cX11_lean 3 (some .int) : Cond) ∈ WL := in_5 (j := 126) rfl rfl
theorem q469 : (Cond.methodLink RX11 189 yX11_leanBehind : Cond) ∈ WL := in_5 (j := 127) rfl rfl
theorem q470 : (Cond.instanceMethod yX11_leanBehind : Cond) ∈ WL := in_5 (j := 129) rfl rfl
theorem q471 : (Cond.selects RX11 yX11_leanBehind yX11_leanBehind : Cond) ∈ WL := in_s (j := 38) rfl rfl
theorem q472 : (Cond.code yX11_leanBehind cX11_leanBehind 3 (some .int) : Cond) ∈ WL := in_5 (j := 130) rfl rfl
theorem q473 : (Cond.methodLink RX11 165 yX11_leanOf : Cond) ∈ WL := in_5 (j := 131) rfl rfl
theorem q474 : (Cond.instanceMethod yX11_leanOf : Cond) ∈ WL := in_5 (j := 133) rfl rfl
theorem q475 : (Cond.selects RX11 yX11_leanOf yX11_leanOf : Cond) ∈ WL := in_s (j := 39) rfl rfl
theorem q476 : (Cond.code yX11_leanOf cX11_leanOf 5 (some .int) : Cond) ∈ WL := in_5 (j := 134) rfl rfl
theorem q477 : (Cond.methodLink RL 43 yX10_stone : Cond) ∈ WL := in_2 (j := 210) rfl rfl
theorem q478 : (Cond.instanceMethod yX10_stone : Cond) ∈ WL := in_2 (j := 211) rfl rfl
theorem q479 : (Cond.selects RX10 yX10_stone yX10_stone : Cond) ∈ WL := in_2 (j := 212) rfl rfl
theorem q480 : (Cond.code yX10_stone cX10_stone 5 (some .int) : Cond) ∈ WL := in_2 (j := 213) rfl rfl
theorem q481 : (Cond.methodLink RX10 137 yX9_sizeOf : Cond) ∈ WL := in_2 (j := 214) rfl rfl
theorem q482 : (Cond.instanceMethod yX9_sizeOf : Cond) ∈ WL := in_2 (j := 215) rfl rfl
theorem q483 : (Cond.selects RX9 yX9_sizeOf yX9_sizeOf : Cond) ∈ WL := in_2 (j := 216) rfl rfl
theorem q484 : (Cond.code yX9_sizeOf cX9_sizeOf 2 (some .int) : Cond) ∈ WL := in_2 (j := 217) rfl rfl
theorem q485 : (Cond.methodLink RX10 140 yX9_stoneAt : Cond) ∈ WL := in_2 (j := 218) rfl rfl
theorem q486 : (Cond.instanceMethod yX9_stoneAt : Cond) ∈ WL := in_2 (j := 219) rfl rfl
theorem q487 : (Cond.selects RX9 yX9_stoneAt yX9_stoneAt : Cond) ∈ WL := in_2 (j := 220) rfl rfl
theorem q488 : (Cond.code yX9_stoneAt cX9_stoneAt 3 (some .int) : Cond) ∈ WL := in_2 (j := 221) rfl rfl
theorem q489 : (Cond.methodLink RX9 63 yX9_sizeOf : Cond) ∈ WL := in_2 (j := 222) rfl rfl
theorem q490 : (Cond.methodLink RL 47 yX11_stone : Cond) ∈ WL := in_5 (j := 135) rfl rfl
theorem q491 : (Cond.instanceMethod yX11_stone : Cond) ∈ WL := in_5 (j := 136) rfl rfl
theorem q492 : (Cond.selects RX11 yX11_stone yX11_stone : Cond) ∈ WL := in_5 (j := 137) rfl rfl
theorem q493 : (Cond.code yX11_stone cX11_stone 4 (some .int) : Cond) ∈ WL := in_5 (j := 138) rfl rfl
theorem q494 : (Cond.constantLong RX11 192 (-1) : Cond) ∈ WL := in_5 (j := 139) rfl rfl
theorem q495 : (Cond.constantLong RX11 194 (7) : Cond) ∈ WL := in_5 (j := 140) rfl rfl
theorem q496 : (Cond.methodLink RX11 196 yX11_stoneBehind : Cond) ∈ WL := in_5 (j := 141) rfl rfl
theorem q497 : (Cond.instanceMethod yX11_stoneBehind : Cond) ∈ WL := in_5 (j := 143) rfl rfl
theorem q498 : (Cond.selects RX11 yX11_stoneBehind yX11_stoneBehind : Cond) ∈ WL := in_s (j := 40) rfl rfl
theorem q499 : (Cond.code yX11_stoneBehind cX11_stoneBehind 4 (some .int) : Cond) ∈ WL := in_5 (j := 144) rfl rfl
theorem q500 : (Cond.methodLink RL 48 yX10_behind : Cond) ∈ WL := in_2 (j := 223) rfl rfl
theorem q501 : (Cond.instanceMethod yX10_behind : Cond) ∈ WL := in_2 (j := 224) rfl rfl
theorem q502 : (Cond.selects RX10 yX10_behind yX10_behind : Cond) ∈ WL := in_2 (j := 225) rfl rfl
theorem q503 : (Cond.code yX10_behind cX10_behind 4 (some .int) : Cond) ∈ WL := in_2 (j := 226) rfl rfl
theorem q504 : (Cond.methodLink RX10 144 yX9_weakBits : Cond) ∈ WL := in_2 (j := 227) rfl rfl
theorem q505 : (Cond.instanceMethod yX9_weakBits : Cond) ∈ WL := in_2 (j := 228) rfl rfl
theorem q506 : (Cond.selects RX9 yX9_weakBits yX9_weakBits : Cond) ∈ WL := in_2 (j := 229) rfl rfl
theorem q507 : (Cond.code yX9_weakBits cX9_weakBits 6 (some .int) : Cond) ∈ WL := in_2 (j := 230) rfl rfl
theorem q508 : (Cond.methodLink RX9 96 yX3_mostAbove : Cond) ∈ WL := in_2 (j := 231) rfl rfl
theorem q509 : (Cond.instanceMethod yX3_mostAbove : Cond) ∈ WL := in_2 (j := 232) rfl rfl
theorem q510 : (Cond.selects RX3 yX3_mostAbove yX3_mostAbove : Cond) ∈ WL := in_2 (j := 233) rfl rfl
theorem q511 : (Cond.code yX3_mostAbove cX3_mostAbove 1 (some .int) : Cond) ∈ WL := in_2 (j := 234) rfl rfl
theorem q512 : (Cond.methodLink RX9 101 yX3_value : Cond) ∈ WL := in_2 (j := 235) rfl rfl
theorem q513 : (Cond.methodLink RX9 104 yX9_isWeak : Cond) ∈ WL := in_2 (j := 236) rfl rfl
theorem q514 : (Cond.instanceMethod yX9_isWeak : Cond) ∈ WL := in_2 (j := 238) rfl rfl
theorem q515 : (Cond.selects RX9 yX9_isWeak yX9_isWeak : Cond) ∈ WL := in_s (j := 11) rfl rfl
theorem q516 : (Cond.code yX9_isWeak cX9_isWeak 5 (some .boolean) : Cond) ∈ WL := in_2 (j := 239) rfl rfl
theorem q517 : (Cond.methodLink RX9 84 Lib.Math.max.name : Cond) ∈ WL := in_3 (j := 1) rfl rfl
theorem q518 : (Cond.static Lib.Math.max.name : Cond) ∈ WL := in_3 (j := 2) rfl rfl
theorem q519 : (Cond.code Lib.Math.max.name Lib.Math.max.code 2 (some .int) : Cond) ∈ WL := in_3 (j := 3) rfl rfl
theorem q520 : (Cond.methodLink RX9 93 Lib.Math.abs.name : Cond) ∈ WL := in_3 (j := 5) rfl rfl
theorem q521 : (Cond.static Lib.Math.abs.name : Cond) ∈ WL := in_3 (j := 6) rfl rfl
theorem q522 : (Cond.code Lib.Math.abs.name Lib.Math.abs.code 1 (some .int) : Cond) ∈ WL := in_3 (j := 7) rfl rfl
theorem q523 : (Cond.methodLink RX9 81 yX9_heightOf : Cond) ∈ WL := in_3 (j := 0) rfl rfl
theorem q524 : (Cond.methodLink RX9 90 yX9_leanOf : Cond) ∈ WL := in_3 (j := 4) rfl rfl
theorem q525 : (Cond.methodLink RX10 148 yX9_sunny : Cond) ∈ WL := in_3 (j := 8) rfl rfl
theorem q526 : (Cond.instanceMethod yX9_sunny : Cond) ∈ WL := in_3 (j := 9) rfl rfl
theorem q527 : (Cond.selects RX9 yX9_sunny yX9_sunny : Cond) ∈ WL := in_3 (j := 10) rfl rfl
theorem q528 : (Cond.code yX9_sunny cX9_sunny 5 (some .int) : Cond) ∈ WL := in_3 (j := 11) rfl rfl
theorem q529 : (Cond.methodLink RX9 108 yX3_wantsSun : Cond) ∈ WL := in_3 (j := 12) rfl rfl
theorem q530 : (Cond.instanceMethod yX3_wantsSun : Cond) ∈ WL := in_3 (j := 13) rfl rfl
theorem q531 : (Cond.selects RX3 yX3_wantsSun yX3_wantsSun : Cond) ∈ WL := in_3 (j := 14) rfl rfl
theorem q532 : (Cond.code yX3_wantsSun cX3_wantsSun 2 (some .boolean) : Cond) ∈ WL := in_3 (j := 15) rfl rfl
theorem q533 : (Cond.methodLink RX10 151 yX9_weightOf : Cond) ∈ WL := in_3 (j := 16) rfl rfl
theorem q534 : (Cond.instanceMethod yX9_weightOf : Cond) ∈ WL := in_3 (j := 17) rfl rfl
theorem q535 : (Cond.selects RX9 yX9_weightOf yX9_weightOf : Cond) ∈ WL := in_3 (j := 18) rfl rfl
theorem q536 : (Cond.code yX9_weightOf cX9_weightOf 5 (some .int) : Cond) ∈ WL := in_3 (j := 19) rfl rfl
theorem q537 : (Cond.methodLink RL 51 yX11_behind : Cond) ∈ WL := in_5 (j := 145) rfl rfl
theorem q538 : (Cond.instanceMethod yX11_behind : Cond) ∈ WL := in_5 (j := 146) rfl rfl
theorem q539 : (Cond.selects RX11 yX11_behind yX11_behind : Cond) ∈ WL := in_5 (j := 147) rfl rfl
theorem q540 : (Cond.code yX11_behind cX11_behind 3 (some .int) : Cond) ∈ WL := in_5 (j := 148) rfl rfl
theorem q541 : (Cond.constantLong RX11 65 (3) : Cond) ∈ WL := in_4 (j := 226) rfl rfl
theorem q542 : (Cond.methodLink RX11 208 yX11_behindOf : Cond) ∈ WL := in_5 (j := 149) rfl rfl
theorem q543 : (Cond.instanceMethod yX11_behindOf : Cond) ∈ WL := in_5 (j := 151) rfl rfl
theorem q544 : (Cond.selects RX11 yX11_behindOf yX11_behindOf : Cond) ∈ WL := in_s (j := 41) rfl rfl
theorem q545 : (Cond.code yX11_behindOf cX11_behindOf 3 (some .int) : Cond) ∈ WL := in_5 (j := 152) rfl rfl
theorem q546 : (Cond.methodLink RX11 199 yX11_weakNow : Cond) ∈ WL := in_5 (j := 153) rfl rfl
theorem q547 : (Cond.instanceMethod yX11_weakNow : Cond) ∈ WL := in_5 (j := 155) rfl rfl
theorem q548 : (Cond.selects RX11 yX11_weakNow yX11_weakNow : Cond) ∈ WL := in_s (j := 42) rfl rfl
theorem q549 : (Cond.code yX11_weakNow cX11_weakNow 4 (some .int) : Cond) ∈ WL := in_5 (j := 156) rfl rfl
theorem q550 : (Cond.methodLink RX11 162 yX11_beside : Cond) ∈ WL := in_5 (j := 157) rfl rfl
theorem q551 : (Cond.instanceMethod yX11_beside : Cond) ∈ WL := in_5 (j := 159) rfl rfl
theorem q552 : (Cond.selects RX11 yX11_beside yX11_beside : Cond) ∈ WL := in_s (j := 43) rfl rfl
theorem q553 : (Cond.code yX11_beside cX11_beside 4 (some .int) : Cond) ∈ WL := in_5 (j := 160) rfl rfl
theorem q554 : (Cond.methodLink RX11 168 yX11_amount : Cond) ∈ WL := in_5 (j := 161) rfl rfl
theorem q555 : (Cond.static yX11_amount : Cond) ∈ WL := in_5 (j := 162) rfl rfl
theorem q556 : (Cond.code yX11_amount cX11_amount 1 (some .int) : Cond) ∈ WL := in_5 (j := 163) rfl rfl
theorem q557 : (Cond.methodLink RX11 202 yX11_pearsNow : Cond) ∈ WL := in_5 (j := 164) rfl rfl
theorem q558 : (Cond.instanceMethod yX11_pearsNow : Cond) ∈ WL := in_5 (j := 166) rfl rfl
theorem q559 : (Cond.selects RX11 yX11_pearsNow yX11_pearsNow : Cond) ∈ WL := in_s (j := 44) rfl rfl
theorem q560 : (Cond.code yX11_pearsNow cX11_pearsNow 3 (some .int) : Cond) ∈ WL := in_5 (j := 167) rfl rfl
theorem q561 : (Cond.methodLink RX11 171 yX11_isIn : Cond) ∈ WL := in_5 (j := 168) rfl rfl
theorem q562 : (Cond.static yX11_isIn : Cond) ∈ WL := in_5 (j := 169) rfl rfl
theorem q563 : (Cond.code yX11_isIn cX11_isIn 2 (some .boolean) : Cond) ∈ WL := in_5 (j := 170) rfl rfl
theorem q564 : (Cond.methodLink RX11 205 yX11_weighs : Cond) ∈ WL := in_5 (j := 171) rfl rfl
theorem q565 : (Cond.instanceMethod yX11_weighs : Cond) ∈ WL := in_5 (j := 173) rfl rfl
theorem q566 : (Cond.selects RX11 yX11_weighs yX11_weighs : Cond) ∈ WL := in_s (j := 45) rfl rfl
theorem q567 : (Cond.code yX11_weighs cX11_weighs 6 (some .int) : Cond) ∈ WL := in_5 (j := 174) rfl rfl
theorem q568 : (Cond.methodLink RL 52 yX10_turn : Cond) ∈ WL := in_3 (j := 20) rfl rfl
theorem q569 : (Cond.instanceMethod yX10_turn : Cond) ∈ WL := in_3 (j := 21) rfl rfl
theorem q570 : (Cond.selects RX10 yX10_turn yX10_turn : Cond) ∈ WL := in_3 (j := 22) rfl rfl
theorem q571 : (Cond.code yX10_turn cX10_turn 3 (some .int) : Cond) ∈ WL := in_3 (j := 23) rfl rfl
theorem q572 : (Cond.methodLink RX10 154 yX1_hasTurn : Cond) ∈ WL := in_3 (j := 24) rfl rfl
theorem q573 : (Cond.instanceMethod yX1_hasTurn : Cond) ∈ WL := in_3 (j := 25) rfl rfl
theorem q574 : (Cond.selects RX1 yX1_hasTurn yX1_hasTurn : Cond) ∈ WL := in_3 (j := 26) rfl rfl
theorem q575 : (Cond.code yX1_hasTurn cX1_hasTurn 2 (some .boolean) : Cond) ∈ WL := in_3 (j := 27) rfl rfl
theorem q576 : (Cond.methodLink RX10 157 yX3_brotherOf : Cond) ∈ WL := in_3 (j := 28) rfl rfl
theorem q577 : (Cond.methodLink RX10 160 yX1_tookIn : Cond) ∈ WL := in_3 (j := 29) rfl rfl
theorem q578 : (Cond.instanceMethod yX1_tookIn : Cond) ∈ WL := in_3 (j := 30) rfl rfl
theorem q579 : (Cond.selects RX1 yX1_tookIn yX1_tookIn : Cond) ∈ WL := in_3 (j := 31) rfl rfl
theorem q580 : (Cond.code yX1_tookIn cX1_tookIn 2 (some .int) : Cond) ∈ WL := in_3 (j := 32) rfl rfl
theorem q581 : (Cond.methodLink RX1 42 yX1_hasTurn : Cond) ∈ WL := in_3 (j := 33) rfl rfl
theorem q582 : (Cond.methodLink RX10 163 yX1_laidIn : Cond) ∈ WL := in_3 (j := 34) rfl rfl
theorem q583 : (Cond.instanceMethod yX1_laidIn : Cond) ∈ WL := in_3 (j := 35) rfl rfl
theorem q584 : (Cond.selects RX1 yX1_laidIn yX1_laidIn : Cond) ∈ WL := in_3 (j := 36) rfl rfl
theorem q585 : (Cond.code yX1_laidIn cX1_laidIn 2 (some .int) : Cond) ∈ WL := in_3 (j := 37) rfl rfl
theorem q586 : (Cond.methodLink RL 55 yX11_turn : Cond) ∈ WL := in_5 (j := 175) rfl rfl
theorem q587 : (Cond.instanceMethod yX11_turn : Cond) ∈ WL := in_5 (j := 176) rfl rfl
theorem q588 : (Cond.selects RX11 yX11_turn yX11_turn : Cond) ∈ WL := in_5 (j := 177) rfl rfl
theorem q589 : (Cond.code yX11_turn cX11_turn 3 (some .int) : Cond) ∈ WL := in_5 (j := 178) rfl rfl
theorem q590 : (Cond.constantLong RX11 71 (2) : Cond) ∈ WL := in_4 (j := 230) rfl rfl
theorem q591 : (Cond.methodLink RX11 211 yX11_turnOf : Cond) ∈ WL := in_5 (j := 179) rfl rfl
theorem q592 : (Cond.instanceMethod yX11_turnOf : Cond) ∈ WL := in_5 (j := 181) rfl rfl
theorem q593 : (Cond.selects RX11 yX11_turnOf yX11_turnOf : Cond) ∈ WL := in_s (j := 46) rfl rfl
theorem q594 : (Cond.code yX11_turnOf cX11_turnOf 3 (some .int) : Cond) ∈ WL := in_5 (j := 182) rfl rfl
theorem q595 : (Cond.methodLink RL 56 yX10_first : Cond) ∈ WL := in_3 (j := 38) rfl rfl
theorem q596 : (Cond.instanceMethod yX10_first : Cond) ∈ WL := in_3 (j := 39) rfl rfl
theorem q597 : (Cond.selects RX10 yX10_first yX10_first : Cond) ∈ WL := in_3 (j := 40) rfl rfl
theorem q598 : (Cond.code yX10_first cX10_first 5 (some .int) : Cond) ∈ WL := in_3 (j := 41) rfl rfl
theorem q599 : (Cond.methodLink RX10 166 yX1_turnCount : Cond) ∈ WL := in_3 (j := 42) rfl rfl
theorem q600 : (Cond.instanceMethod yX1_turnCount : Cond) ∈ WL := in_3 (j := 43) rfl rfl
theorem q601 : (Cond.selects RX1 yX1_turnCount yX1_turnCount : Cond) ∈ WL := in_3 (j := 44) rfl rfl
theorem q602 : (Cond.code yX1_turnCount cX1_turnCount 1 (some .int) : Cond) ∈ WL := in_3 (j := 45) rfl rfl
theorem q603 : (Cond.methodLink RX10 169 yX10_leastBit : Cond) ∈ WL := in_3 (j := 46) rfl rfl
theorem q604 : (Cond.static yX10_leastBit : Cond) ∈ WL := in_3 (j := 47) rfl rfl
theorem q605 : (Cond.code yX10_leastBit cX10_leastBit 2 (some .int) : Cond) ∈ WL := in_3 (j := 48) rfl rfl
theorem q606 : (Cond.methodLink RL 59 yX11_first : Cond) ∈ WL := in_5 (j := 183) rfl rfl
theorem q607 : (Cond.instanceMethod yX11_first : Cond) ∈ WL := in_5 (j := 184) rfl rfl
theorem q608 : (Cond.selects RX11 yX11_first yX11_first : Cond) ∈ WL := in_5 (j := 185) rfl rfl
theorem q609 : (Cond.code yX11_first cX11_first 2 (some .int) : Cond) ∈ WL := in_5 (j := 186) rfl rfl
theorem q610 : (Cond.methodLink RX11 214 yX11_firstOf : Cond) ∈ WL := in_5 (j := 187) rfl rfl
theorem q611 : (Cond.instanceMethod yX11_firstOf : Cond) ∈ WL := in_5 (j := 189) rfl rfl
theorem q612 : (Cond.selects RX11 yX11_firstOf yX11_firstOf : Cond) ∈ WL := in_s (j := 47) rfl rfl
theorem q613 : (Cond.code yX11_firstOf cX11_firstOf 5 (some .int) : Cond) ∈ WL := in_5 (j := 190) rfl rfl
theorem q614 : (Cond.methodLink RL 60 yX10_highest : Cond) ∈ WL := in_3 (j := 49) rfl rfl
theorem q615 : (Cond.instanceMethod yX10_highest : Cond) ∈ WL := in_3 (j := 50) rfl rfl
theorem q616 : (Cond.selects RX10 yX10_highest yX10_highest : Cond) ∈ WL := in_3 (j := 51) rfl rfl
theorem q617 : (Cond.code yX10_highest cX10_highest 1 (some .int) : Cond) ∈ WL := in_3 (j := 52) rfl rfl
theorem q618 : (Cond.methodLink RX10 172 yX1_last : Cond) ∈ WL := in_3 (j := 53) rfl rfl
theorem q619 : (Cond.instanceMethod yX1_last : Cond) ∈ WL := in_3 (j := 54) rfl rfl
theorem q620 : (Cond.selects RX1 yX1_last yX1_last : Cond) ∈ WL := in_3 (j := 55) rfl rfl
theorem q621 : (Cond.code yX1_last cX1_last 1 (some (.object "WallTurns$Wall")) : Cond) ∈ WL := in_3 (j := 56) rfl rfl
theorem q622 : (Cond.methodLink RX1 39 Lib.Math.max.name : Cond) ∈ WL := in_3 (j := 57) rfl rfl
theorem q623 : (Cond.methodLink RX10 176 yX9_highestColumn : Cond) ∈ WL := in_3 (j := 58) rfl rfl
theorem q624 : (Cond.instanceMethod yX9_highestColumn : Cond) ∈ WL := in_3 (j := 59) rfl rfl
theorem q625 : (Cond.selects RX9 yX9_highestColumn yX9_highestColumn : Cond) ∈ WL := in_3 (j := 60) rfl rfl
theorem q626 : (Cond.code yX9_highestColumn cX9_highestColumn 3 (some .int) : Cond) ∈ WL := in_3 (j := 61) rfl rfl
theorem q627 : (Cond.methodLink RL 64 yX11_highest : Cond) ∈ WL := in_5 (j := 191) rfl rfl
theorem q628 : (Cond.instanceMethod yX11_highest : Cond) ∈ WL := in_5 (j := 192) rfl rfl
theorem q629 : (Cond.selects RX11 yX11_highest yX11_highest : Cond) ∈ WL := in_5 (j := 193) rfl rfl
theorem q630 : (Cond.code yX11_highest cX11_highest 1 (some .int) : Cond) ∈ WL := in_5 (j := 194) rfl rfl
theorem q631 : (Cond.methodLink RX11 217 yX11_highestNow : Cond) ∈ WL := in_5 (j := 195) rfl rfl
theorem q632 : (Cond.instanceMethod yX11_highestNow : Cond) ∈ WL := in_5 (j := 197) rfl rfl
theorem q633 : (Cond.selects RX11 yX11_highestNow yX11_highestNow : Cond) ∈ WL := in_s (j := 48) rfl rfl
theorem q634 : (Cond.code yX11_highestNow cX11_highestNow 3 (some .int) : Cond) ∈ WL := in_5 (j := 198) rfl rfl
theorem q635 : (Cond.methodLink RL 65 yX10_mend : Cond) ∈ WL := in_3 (j := 62) rfl rfl
theorem q636 : (Cond.instanceMethod yX10_mend : Cond) ∈ WL := in_3 (j := 63) rfl rfl
theorem q637 : (Cond.selects RX10 yX10_mend yX10_mend : Cond) ∈ WL := in_3 (j := 64) rfl rfl
theorem q638 : (Cond.code yX10_mend cX10_mend 2 (some .int) : Cond) ∈ WL := in_3 (j := 65) rfl rfl
theorem q639 : (Cond.methodLink RX10 179 yX2_searchMend : Cond) ∈ WL := in_3 (j := 66) rfl rfl
theorem q640 : (Cond.instanceMethod yX2_searchMend : Cond) ∈ WL := in_3 (j := 67) rfl rfl
theorem q641 : (Cond.selects RX2 yX2_searchMend yX2_searchMend : Cond) ∈ WL := in_3 (j := 68) rfl rfl
theorem q642 : (Cond.code yX2_searchMend cX2_searchMend 4 none : Cond) ∈ WL := in_3 (j := 69) rfl rfl
theorem q643 : (Cond.methodLink RX2 32 yX9_become : Cond) ∈ WL := in_3 (j := 70) rfl rfl
theorem q644 : (Cond.methodLink RX2 36 yX2_canMend : Cond) ∈ WL := in_3 (j := 71) rfl rfl
theorem q645 : (Cond.static yX2_canMend : Cond) ∈ WL := in_3 (j := 72) rfl rfl
theorem q646 : (Cond.code yX2_canMend cX2_canMend 8 (some .boolean) : Cond) ∈ WL := in_3 (j := 73) rfl rfl
theorem q647 : (Cond.methodLink RX2 40 yX9_stands : Cond) ∈ WL := in_3 (j := 74) rfl rfl
theorem q648 : (Cond.instanceMethod yX9_stands : Cond) ∈ WL := in_3 (j := 75) rfl rfl
theorem q649 : (Cond.selects RX9 yX9_stands yX9_stands : Cond) ∈ WL := in_3 (j := 76) rfl rfl
theorem q650 : (Cond.code yX9_stands cX9_stands 5 (some .boolean) : Cond) ∈ WL := in_3 (j := 77) rfl rfl
theorem q651 : (Cond.methodLink RX2 44 yX2_leastAt : Cond) ∈ WL := in_3 (j := 78) rfl rfl
theorem q652 : (Cond.static yX2_leastAt : Cond) ∈ WL := in_3 (j := 79) rfl rfl
theorem q653 : (Cond.code yX2_leastAt cX2_leastAt 2 (some .int) : Cond) ∈ WL := in_3 (j := 80) rfl rfl
theorem q654 : (Cond.methodLink RX2 48 yX9_put : Cond) ∈ WL := in_3 (j := 81) rfl rfl
theorem q655 : (Cond.methodLink RX2 52 yX9_take : Cond) ∈ WL := in_3 (j := 82) rfl rfl
theorem q656 : (Cond.methodLink RX10 183 yX2_told : Cond) ∈ WL := in_3 (j := 83) rfl rfl
theorem q657 : (Cond.instanceMethod yX2_told : Cond) ∈ WL := in_3 (j := 84) rfl rfl
theorem q658 : (Cond.selects RX2 yX2_told yX2_told : Cond) ∈ WL := in_3 (j := 85) rfl rfl
theorem q659 : (Cond.code yX2_told cX2_told 2 (some .int) : Cond) ∈ WL := in_3 (j := 86) rfl rfl
theorem q660 : (Cond.methodLink RL 68 yX11_mend : Cond) ∈ WL := in_5 (j := 199) rfl rfl
theorem q661 : (Cond.instanceMethod yX11_mend : Cond) ∈ WL := in_5 (j := 200) rfl rfl
theorem q662 : (Cond.selects RX11 yX11_mend yX11_mend : Cond) ∈ WL := in_5 (j := 201) rfl rfl
theorem q663 : (Cond.code yX11_mend cX11_mend 2 (some .int) : Cond) ∈ WL := in_5 (j := 202) rfl rfl
theorem q664 : (Cond.methodLink RX11 229 yX11_planOf : Cond) ∈ WL := in_5 (j := 203) rfl rfl
theorem q665 : (Cond.instanceMethod yX11_planOf : Cond) ∈ WL := in_5 (j := 205) rfl rfl
theorem q666 : (Cond.selects RX11 yX11_planOf yX11_planOf : Cond) ∈ WL := in_s (j := 49) rfl rfl
theorem q667 : (Cond.code yX11_planOf cX11_planOf 6 (some .int) : Cond) ∈ WL := in_5 (j := 206) rfl rfl
theorem q668 : (Cond.methodLink RX11 220 yX11_mends : Cond) ∈ WL := in_5 (j := 207) rfl rfl
theorem q669 : (Cond.instanceMethod yX11_mends : Cond) ∈ WL := in_5 (j := 209) rfl rfl
theorem q670 : (Cond.selects RX11 yX11_mends yX11_mends : Cond) ∈ WL := in_s (j := 50) rfl rfl
theorem q671 : (Cond.code yX11_mends cX11_mends 4 (some .boolean) : Cond) ∈ WL := in_5 (j := 210) rfl rfl
theorem q672 : (Cond.methodLink RX11 223 yX11_opens : Cond) ∈ WL := in_5 (j := 211) rfl rfl
theorem q673 : (Cond.instanceMethod yX11_opens : Cond) ∈ WL := in_5 (j := 213) rfl rfl
theorem q674 : (Cond.selects RX11 yX11_opens yX11_opens : Cond) ∈ WL := in_s (j := 51) rfl rfl
theorem q675 : (Cond.code yX11_opens cX11_opens 5 (some .boolean) : Cond) ∈ WL := in_5 (j := 214) rfl rfl
theorem q676 : (Cond.methodLink RX11 226 yX11_goesOn : Cond) ∈ WL := in_5 (j := 215) rfl rfl
theorem q677 : (Cond.instanceMethod yX11_goesOn : Cond) ∈ WL := in_5 (j := 217) rfl rfl
theorem q678 : (Cond.selects RX11 yX11_goesOn yX11_goesOn : Cond) ∈ WL := in_s (j := 52) rfl rfl
theorem q679 : (Cond.code yX11_goesOn cX11_goesOn 5 (some .boolean) : Cond) ∈ WL := in_5 (j := 218) rfl rfl
theorem q680 : (Cond.methodLink RL 69 yX10_open : Cond) ∈ WL := in_3 (j := 87) rfl rfl
theorem q681 : (Cond.instanceMethod yX10_open : Cond) ∈ WL := in_3 (j := 88) rfl rfl
theorem q682 : (Cond.selects RX10 yX10_open yX10_open : Cond) ∈ WL := in_3 (j := 89) rfl rfl
theorem q683 : (Cond.code yX10_open cX10_open 3 (some .int) : Cond) ∈ WL := in_3 (j := 90) rfl rfl
theorem q684 : (Cond.methodLink RX10 186 yX2_searchOpen : Cond) ∈ WL := in_3 (j := 91) rfl rfl
theorem q685 : (Cond.instanceMethod yX2_searchOpen : Cond) ∈ WL := in_3 (j := 92) rfl rfl
theorem q686 : (Cond.selects RX2 yX2_searchOpen yX2_searchOpen : Cond) ∈ WL := in_3 (j := 93) rfl rfl
theorem q687 : (Cond.code yX2_searchOpen cX2_searchOpen 5 none : Cond) ∈ WL := in_3 (j := 94) rfl rfl
theorem q688 : (Cond.methodLink RX2 56 yX2_canOpen : Cond) ∈ WL := in_3 (j := 95) rfl rfl
theorem q689 : (Cond.static yX2_canOpen : Cond) ∈ WL := in_3 (j := 96) rfl rfl
theorem q690 : (Cond.code yX2_canOpen cX2_canOpen 9 (some .boolean) : Cond) ∈ WL := in_3 (j := 97) rfl rfl
theorem q691 : (Cond.methodLink RX2 60 yX9_sunny : Cond) ∈ WL := in_3 (j := 98) rfl rfl
theorem q692 : (Cond.methodLink RX2 64 yX9_columnCount : Cond) ∈ WL := in_3 (j := 99) rfl rfl
theorem q693 : (Cond.instanceMethod yX9_columnCount : Cond) ∈ WL := in_3 (j := 100) rfl rfl
theorem q694 : (Cond.selects RX9 yX9_columnCount yX9_columnCount : Cond) ∈ WL := in_3 (j := 101) rfl rfl
theorem q695 : (Cond.code yX9_columnCount cX9_columnCount 1 (some .int) : Cond) ∈ WL := in_3 (j := 102) rfl rfl
theorem q696 : (Cond.methodLink RL 72 yX11_open : Cond) ∈ WL := in_5 (j := 219) rfl rfl
theorem q697 : (Cond.instanceMethod yX11_open : Cond) ∈ WL := in_5 (j := 220) rfl rfl
theorem q698 : (Cond.selects RX11 yX11_open yX11_open : Cond) ∈ WL := in_5 (j := 221) rfl rfl
theorem q699 : (Cond.code yX11_open cX11_open 3 (some .int) : Cond) ∈ WL := in_5 (j := 222) rfl rfl
theorem q700 : (Cond.constantLong RX11 232 (8) : Cond) ∈ WL := in_5 (j := 223) rfl rfl
theorem q701 : (Cond.methodLink RL 73 yX10_sides : Cond) ∈ WL := in_3 (j := 103) rfl rfl
theorem q702 : (Cond.instanceMethod yX10_sides : Cond) ∈ WL := in_3 (j := 104) rfl rfl
theorem q703 : (Cond.selects RX10 yX10_sides yX10_sides : Cond) ∈ WL := in_3 (j := 105) rfl rfl
theorem q704 : (Cond.code yX10_sides cX10_sides 4 (some .int) : Cond) ∈ WL := in_3 (j := 106) rfl rfl
theorem q705 : (Cond.methodLink RX10 190 yX2_playOn : Cond) ∈ WL := in_3 (j := 107) rfl rfl
theorem q706 : (Cond.instanceMethod yX2_playOn : Cond) ∈ WL := in_3 (j := 108) rfl rfl
theorem q707 : (Cond.selects RX2 yX2_playOn yX2_playOn : Cond) ∈ WL := in_3 (j := 109) rfl rfl
theorem q708 : (Cond.code yX2_playOn cX2_playOn 7 (some .int) : Cond) ∈ WL := in_3 (j := 110) rfl rfl
theorem q709 : (Cond.methodLink RX2 68 Lib.Math.min.name : Cond) ∈ WL := in_3 (j := 111) rfl rfl
theorem q710 : (Cond.methodLink RX2 74 yX2_bestWorth : Cond) ∈ WL := in_3 (j := 112) rfl rfl
theorem q711 : (Cond.static yX2_bestWorth : Cond) ∈ WL := in_3 (j := 113) rfl rfl
theorem q712 : (Cond.code yX2_bestWorth cX2_bestWorth 9 (some .int) : Cond) ∈ WL := in_3 (j := 114) rfl rfl
theorem q713 : (Cond.methodLink RX2 78 yX2_isBetter : Cond) ∈ WL := in_3 (j := 115) rfl rfl
theorem q714 : (Cond.static yX2_isBetter : Cond) ∈ WL := in_3 (j := 116) rfl rfl
theorem q715 : (Cond.code yX2_isBetter cX2_isBetter 3 (some .boolean) : Cond) ∈ WL := in_3 (j := 117) rfl rfl
theorem q716 : (Cond.methodLink RX10 194 yX2_firstMove : Cond) ∈ WL := in_3 (j := 118) rfl rfl
theorem q717 : (Cond.instanceMethod yX2_firstMove : Cond) ∈ WL := in_3 (j := 119) rfl rfl
theorem q718 : (Cond.selects RX2 yX2_firstMove yX2_firstMove : Cond) ∈ WL := in_3 (j := 120) rfl rfl
theorem q719 : (Cond.code yX2_firstMove cX2_firstMove 1 (some .int) : Cond) ∈ WL := in_3 (j := 121) rfl rfl
theorem q720 : (Cond.methodLink RL 76 yX11_sides : Cond) ∈ WL := in_5 (j := 224) rfl rfl
theorem q721 : (Cond.instanceMethod yX11_sides : Cond) ∈ WL := in_5 (j := 225) rfl rfl
theorem q722 : (Cond.selects RX11 yX11_sides yX11_sides : Cond) ∈ WL := in_5 (j := 226) rfl rfl
theorem q723 : (Cond.code yX11_sides cX11_sides 3 (some .int) : Cond) ∈ WL := in_5 (j := 227) rfl rfl
theorem q724 : (Cond.methodLink RX11 240 yX11_sidesOf : Cond) ∈ WL := in_5 (j := 228) rfl rfl
theorem q725 : (Cond.instanceMethod yX11_sidesOf : Cond) ∈ WL := in_5 (j := 230) rfl rfl
theorem q726 : (Cond.selects RX11 yX11_sidesOf yX11_sidesOf : Cond) ∈ WL := in_s (j := 53) rfl rfl
theorem q727 : (Cond.code yX11_sidesOf cX11_sidesOf 13 (some .int) : Cond) ∈ WL := in_5 (j := 231) rfl rfl
theorem q728 : (Cond.methodLink RX11 234 yX11_endOf : Cond) ∈ WL := in_5 (j := 232) rfl rfl
theorem q729 : (Cond.instanceMethod yX11_endOf : Cond) ∈ WL := in_5 (j := 234) rfl rfl
theorem q730 : (Cond.selects RX11 yX11_endOf yX11_endOf : Cond) ∈ WL := in_s (j := 54) rfl rfl
theorem q731 : (Cond.code yX11_endOf cX11_endOf 9 (some .int) : Cond) ∈ WL := in_5 (j := 235) rfl rfl
theorem q732 : (Cond.methodLink RX11 237 yX11_better : Cond) ∈ WL := in_5 (j := 236) rfl rfl
theorem q733 : (Cond.static yX11_better : Cond) ∈ WL := in_5 (j := 237) rfl rfl
theorem q734 : (Cond.code yX11_better cX11_better 3 (some .boolean) : Cond) ∈ WL := in_5 (j := 238) rfl rfl
theorem q735 : (Cond.methodLink RL 77 yX10_seen : Cond) ∈ WL := in_3 (j := 122) rfl rfl
theorem q736 : (Cond.instanceMethod yX10_seen : Cond) ∈ WL := in_3 (j := 123) rfl rfl
theorem q737 : (Cond.selects RX10 yX10_seen yX10_seen : Cond) ∈ WL := in_3 (j := 124) rfl rfl
theorem q738 : (Cond.code yX10_seen cX10_seen 4 (some .int) : Cond) ∈ WL := in_3 (j := 125) rfl rfl
theorem q739 : (Cond.methodLink RX10 197 yX6_allows : Cond) ∈ WL := in_3 (j := 126) rfl rfl
theorem q740 : (Cond.static yX6_allows : Cond) ∈ WL := in_3 (j := 127) rfl rfl
theorem q741 : (Cond.code yX6_allows cX6_allows 3 (some .boolean) : Cond) ∈ WL := in_3 (j := 128) rfl rfl
theorem q742 : (Cond.methodLink RX10 199 yX6_isFull : Cond) ∈ WL := in_3 (j := 130) rfl rfl
theorem q743 : (Cond.instanceMethod yX6_isFull : Cond) ∈ WL := in_3 (j := 131) rfl rfl
theorem q744 : (Cond.selects RX6 yX6_isFull yX6_isFull : Cond) ∈ WL := in_3 (j := 132) rfl rfl
theorem q745 : (Cond.code yX6_isFull cX6_isFull 1 (some .boolean) : Cond) ∈ WL := in_3 (j := 133) rfl rfl
theorem q746 : (Cond.methodLink RX10 200 yX6_add : Cond) ∈ WL := in_3 (j := 134) rfl rfl
theorem q747 : (Cond.instanceMethod yX6_add : Cond) ∈ WL := in_3 (j := 135) rfl rfl
theorem q748 : (Cond.selects RX6 yX6_add yX6_add : Cond) ∈ WL := in_3 (j := 136) rfl rfl
theorem q749 : (Cond.code yX6_add cX6_add 4 none : Cond) ∈ WL := in_3 (j := 137) rfl rfl
theorem q750 : (Cond.methodLink RX10 203 yX6_size : Cond) ∈ WL := in_3 (j := 138) rfl rfl
theorem q751 : (Cond.instanceMethod yX6_size : Cond) ∈ WL := in_3 (j := 139) rfl rfl
theorem q752 : (Cond.selects RX6 yX6_size yX6_size : Cond) ∈ WL := in_3 (j := 140) rfl rfl
theorem q753 : (Cond.code yX6_size cX6_size 1 (some .int) : Cond) ∈ WL := in_3 (j := 141) rfl rfl
theorem q754 : (Cond.methodLink RL 80 yX11_seen : Cond) ∈ WL := in_5 (j := 239) rfl rfl
theorem q755 : (Cond.instanceMethod yX11_seen : Cond) ∈ WL := in_6 (j := 0) rfl rfl
theorem q756 : (Cond.selects RX11 yX11_seen yX11_seen : Cond) ∈ WL := in_6 (j := 1) rfl rfl
theorem q757 : (Cond.code yX11_seen cX11_seen 4 (some .int) : Cond) ∈ WL := in_6 (j := 2) rfl rfl
theorem q758 : (Cond.constantLong RX11 243 (12) : Cond) ∈ WL := in_6 (j := 3) rfl rfl
theorem q759 : (Cond.constantLong RX11 245 (16) : Cond) ∈ WL := in_6 (j := 4) rfl rfl
theorem q760 : (Cond.fieldLink RX11 247 "WallTurnsModel" "sights" "I" : Cond) ∈ WL := in_4 (j := 167) rfl rfl
theorem q761 : (Cond.methodLink RL 81 yX10_forget : Cond) ∈ WL := in_3 (j := 142) rfl rfl
theorem q762 : (Cond.instanceMethod yX10_forget : Cond) ∈ WL := in_3 (j := 143) rfl rfl
theorem q763 : (Cond.selects RX10 yX10_forget yX10_forget : Cond) ∈ WL := in_3 (j := 144) rfl rfl
theorem q764 : (Cond.code yX10_forget cX10_forget 2 (some .int) : Cond) ∈ WL := in_3 (j := 145) rfl rfl
theorem q765 : (Cond.methodLink RX10 204 yX6_clear : Cond) ∈ WL := in_3 (j := 146) rfl rfl
theorem q766 : (Cond.instanceMethod yX6_clear : Cond) ∈ WL := in_3 (j := 147) rfl rfl
theorem q767 : (Cond.selects RX6 yX6_clear yX6_clear : Cond) ∈ WL := in_3 (j := 148) rfl rfl
theorem q768 : (Cond.code yX6_clear cX6_clear 1 none : Cond) ∈ WL := in_3 (j := 149) rfl rfl
theorem q769 : (Cond.methodLink RL 84 yX11_forget : Cond) ∈ WL := in_6 (j := 5) rfl rfl
theorem q770 : (Cond.instanceMethod yX11_forget : Cond) ∈ WL := in_6 (j := 6) rfl rfl
theorem q771 : (Cond.selects RX11 yX11_forget yX11_forget : Cond) ∈ WL := in_6 (j := 7) rfl rfl
theorem q772 : (Cond.code yX11_forget cX11_forget 2 (some .int) : Cond) ∈ WL := in_6 (j := 8) rfl rfl
theorem q773 : (Cond.methodLink RL 85 yX10_read : Cond) ∈ WL := in_3 (j := 150) rfl rfl
theorem q774 : (Cond.instanceMethod yX10_read : Cond) ∈ WL := in_3 (j := 151) rfl rfl
theorem q775 : (Cond.selects RX10 yX10_read yX10_read : Cond) ∈ WL := in_3 (j := 152) rfl rfl
theorem q776 : (Cond.code yX10_read cX10_read 7 (some .int) : Cond) ∈ WL := in_3 (j := 153) rfl rfl
theorem q777 : (Cond.methodLink RX10 205 yX5_isSheet : Cond) ∈ WL := in_3 (j := 154) rfl rfl
theorem q778 : (Cond.static yX5_isSheet : Cond) ∈ WL := in_3 (j := 155) rfl rfl
theorem q779 : (Cond.code yX5_isSheet cX5_isSheet 1 (some .boolean) : Cond) ∈ WL := in_3 (j := 156) rfl rfl
theorem q780 : (Cond.methodLink RX10 208 yX5_isLost : Cond) ∈ WL := in_3 (j := 157) rfl rfl
theorem q781 : (Cond.instanceMethod yX5_isLost : Cond) ∈ WL := in_3 (j := 158) rfl rfl
theorem q782 : (Cond.selects RX5 yX5_isLost yX5_isLost : Cond) ∈ WL := in_3 (j := 159) rfl rfl
theorem q783 : (Cond.code yX5_isLost cX5_isLost 2 (some .boolean) : Cond) ∈ WL := in_3 (j := 160) rfl rfl
theorem q784 : (Cond.methodLink RX5 27 yX5_isSheet : Cond) ∈ WL := in_3 (j := 161) rfl rfl
theorem q785 : (Cond.methodLink RX10 211 yX5_find : Cond) ∈ WL := in_3 (j := 162) rfl rfl
theorem q786 : (Cond.instanceMethod yX5_find : Cond) ∈ WL := in_3 (j := 163) rfl rfl
theorem q787 : (Cond.selects RX5 yX5_find yX5_find : Cond) ∈ WL := in_3 (j := 164) rfl rfl
theorem q788 : (Cond.code yX5_find cX5_find 2 (some .int) : Cond) ∈ WL := in_3 (j := 165) rfl rfl
theorem q789 : (Cond.methodLink RX10 214 yX5_sizeOf : Cond) ∈ WL := in_3 (j := 166) rfl rfl
theorem q790 : (Cond.instanceMethod yX5_sizeOf : Cond) ∈ WL := in_3 (j := 167) rfl rfl
theorem q791 : (Cond.selects RX5 yX5_sizeOf yX5_sizeOf : Cond) ∈ WL := in_3 (j := 168) rfl rfl
theorem q792 : (Cond.code yX5_sizeOf cX5_sizeOf 2 (some .int) : Cond) ∈ WL := in_3 (j := 169) rfl rfl
theorem q793 : (Cond.methodLink RX5 31 yX5_isLost : Cond) ∈ WL := in_3 (j := 170) rfl rfl
theorem q794 : (Cond.methodLink RX10 215 yX5_itemAt : Cond) ∈ WL := in_3 (j := 171) rfl rfl
theorem q795 : (Cond.instanceMethod yX5_itemAt : Cond) ∈ WL := in_3 (j := 172) rfl rfl
theorem q796 : (Cond.selects RX5 yX5_itemAt yX5_itemAt : Cond) ∈ WL := in_3 (j := 173) rfl rfl
theorem q797 : (Cond.code yX5_itemAt cX5_itemAt 3 (some .int) : Cond) ∈ WL := in_3 (j := 174) rfl rfl
theorem q798 : (Cond.methodLink RX5 41 yX5_isItem : Cond) ∈ WL := in_3 (j := 175) rfl rfl
theorem q799 : (Cond.instanceMethod yX5_isItem : Cond) ∈ WL := in_3 (j := 177) rfl rfl
theorem q800 : (Cond.selects RX5 yX5_isItem yX5_isItem : Cond) ∈ WL := in_s (j := 12) rfl rfl
theorem q801 : (Cond.code yX5_isItem cX5_isItem 3 (some .boolean) : Cond) ∈ WL := in_3 (j := 178) rfl rfl
theorem q802 : (Cond.methodLink RX5 45 yX5_sizeOf : Cond) ∈ WL := in_3 (j := 179) rfl rfl
theorem q803 : (Cond.methodLink RL 88 yX11_read : Cond) ∈ WL := in_6 (j := 9) rfl rfl
theorem q804 : (Cond.instanceMethod yX11_read : Cond) ∈ WL := in_6 (j := 10) rfl rfl
theorem q805 : (Cond.selects RX11 yX11_read yX11_read : Cond) ∈ WL := in_6 (j := 11) rfl rfl
theorem q806 : (Cond.code yX11_read cX11_read 5 (some .int) : Cond) ∈ WL := in_6 (j := 12) rfl rfl
theorem q807 : (Cond.methodLink RX11 67 yX11_isSheet : Cond) ∈ WL := in_4 (j := 223) rfl rfl
theorem q808 : (Cond.static yX11_isSheet : Cond) ∈ WL := in_4 (j := 224) rfl rfl
theorem q809 : (Cond.code yX11_isSheet cX11_isSheet 1 (some .boolean) : Cond) ∈ WL := in_4 (j := 225) rfl rfl
theorem q810 : (Cond.methodLink RX11 73 yX11_finds : Cond) ∈ WL := in_4 (j := 231) rfl rfl
theorem q811 : (Cond.instanceMethod yX11_finds : Cond) ∈ WL := in_4 (j := 233) rfl rfl
theorem q812 : (Cond.selects RX11 yX11_finds yX11_finds : Cond) ∈ WL := in_s (j := 20) rfl rfl
theorem q813 : (Cond.code yX11_finds cX11_finds 2 (some .int) : Cond) ∈ WL := in_4 (j := 234) rfl rfl
theorem q814 : (Cond.fieldLink RX11 62 "WallTurnsModel" "latest" "I" : Cond) ∈ WL := in_4 (j := 150) rfl rfl
theorem q815 : (Cond.methodLink RX11 250 yX11_seen : Cond) ∈ WL := in_6 (j := 13) rfl rfl
theorem q816 : (Cond.methodLink RL 89 yX10_who : Cond) ∈ WL := in_3 (j := 180) rfl rfl
theorem q817 : (Cond.instanceMethod yX10_who : Cond) ∈ WL := in_3 (j := 181) rfl rfl
theorem q818 : (Cond.selects RX10 yX10_who yX10_who : Cond) ∈ WL := in_3 (j := 182) rfl rfl
theorem q819 : (Cond.code yX10_who cX10_who 4 (some .int) : Cond) ∈ WL := in_3 (j := 183) rfl rfl
theorem q820 : (Cond.methodLink RX10 218 yX1_wouldFit : Cond) ∈ WL := in_3 (j := 184) rfl rfl
theorem q821 : (Cond.instanceMethod yX1_wouldFit : Cond) ∈ WL := in_3 (j := 185) rfl rfl
theorem q822 : (Cond.selects RX1 yX1_wouldFit yX1_wouldFit : Cond) ∈ WL := in_3 (j := 186) rfl rfl
theorem q823 : (Cond.code yX1_wouldFit cX1_wouldFit 10 (some .boolean) : Cond) ∈ WL := in_3 (j := 187) rfl rfl
theorem q824 : (Cond.methodLink RX1 75 yX6_looksBeyond : Cond) ∈ WL := in_3 (j := 188) rfl rfl
theorem q825 : (Cond.instanceMethod yX6_looksBeyond : Cond) ∈ WL := in_3 (j := 189) rfl rfl
theorem q826 : (Cond.selects RX6 yX6_looksBeyond yX6_looksBeyond : Cond) ∈ WL := in_3 (j := 190) rfl rfl
theorem q827 : (Cond.code yX6_looksBeyond cX6_looksBeyond 3 (some .boolean) : Cond) ∈ WL := in_3 (j := 191) rfl rfl
theorem q828 : (Cond.methodLink RX1 80 yX6_fit : Cond) ∈ WL := in_3 (j := 192) rfl rfl
theorem q829 : (Cond.instanceMethod yX6_fit : Cond) ∈ WL := in_3 (j := 193) rfl rfl
theorem q830 : (Cond.selects RX6 yX6_fit yX6_fit : Cond) ∈ WL := in_3 (j := 194) rfl rfl
theorem q831 : (Cond.code yX6_fit cX6_fit 4 (some .boolean) : Cond) ∈ WL := in_3 (j := 195) rfl rfl
theorem q832 : (Cond.methodLink RX6 29 yX6_isSo : Cond) ∈ WL := in_3 (j := 196) rfl rfl
theorem q833 : (Cond.instanceMethod yX6_isSo : Cond) ∈ WL := in_3 (j := 198) rfl rfl
theorem q834 : (Cond.selects RX6 yX6_isSo yX6_isSo : Cond) ∈ WL := in_s (j := 13) rfl rfl
theorem q835 : (Cond.code yX6_isSo cX6_isSo 3 (some .boolean) : Cond) ∈ WL := in_3 (j := 199) rfl rfl
theorem q836 : (Cond.methodLink RX6 33 yX9_has : Cond) ∈ WL := in_3 (j := 200) rfl rfl
theorem q837 : (Cond.methodLink RX6 39 yX9_heightOf : Cond) ∈ WL := in_3 (j := 201) rfl rfl
theorem q838 : (Cond.methodLink RL 92 yX11_who : Cond) ∈ WL := in_6 (j := 14) rfl rfl
theorem q839 : (Cond.instanceMethod yX11_who : Cond) ∈ WL := in_6 (j := 15) rfl rfl
theorem q840 : (Cond.selects RX11 yX11_who yX11_who : Cond) ∈ WL := in_6 (j := 16) rfl rfl
theorem q841 : (Cond.code yX11_who cX11_who 2 (some .int) : Cond) ∈ WL := in_6 (j := 17) rfl rfl
theorem q842 : (Cond.methodLink RX11 256 yX11_whoBy : Cond) ∈ WL := in_6 (j := 18) rfl rfl
theorem q843 : (Cond.instanceMethod yX11_whoBy : Cond) ∈ WL := in_6 (j := 20) rfl rfl
theorem q844 : (Cond.selects RX11 yX11_whoBy yX11_whoBy : Cond) ∈ WL := in_s (j := 55) rfl rfl
theorem q845 : (Cond.code yX11_whoBy cX11_whoBy 4 (some .int) : Cond) ∈ WL := in_6 (j := 21) rfl rfl
theorem q846 : (Cond.methodLink RX11 253 yX11_isSeen : Cond) ∈ WL := in_6 (j := 22) rfl rfl
theorem q847 : (Cond.instanceMethod yX11_isSeen : Cond) ∈ WL := in_6 (j := 24) rfl rfl
theorem q848 : (Cond.selects RX11 yX11_isSeen yX11_isSeen : Cond) ∈ WL := in_s (j := 56) rfl rfl
theorem q849 : (Cond.code yX11_isSeen cX11_isSeen 3 (some .boolean) : Cond) ∈ WL := in_6 (j := 25) rfl rfl
theorem q850 : (Cond.methodLink RL 93 yX10_frost : Cond) ∈ WL := in_3 (j := 202) rfl rfl
theorem q851 : (Cond.instanceMethod yX10_frost : Cond) ∈ WL := in_3 (j := 203) rfl rfl
theorem q852 : (Cond.selects RX10 yX10_frost yX10_frost : Cond) ∈ WL := in_3 (j := 204) rfl rfl
theorem q853 : (Cond.code yX10_frost cX10_frost 3 (some .long) : Cond) ∈ WL := in_3 (j := 205) rfl rfl
theorem q854 : (Cond.constantLong RX10 222 (-9223372036854775806) : Cond) ∈ WL := in_3 (j := 206) rfl rfl
theorem q855 : (Cond.methodLink RX10 224 yX0_freeze : Cond) ∈ WL := in_3 (j := 207) rfl rfl
theorem q856 : (Cond.instanceMethod yX0_freeze : Cond) ∈ WL := in_3 (j := 208) rfl rfl
theorem q857 : (Cond.selects RX0 yX0_freeze yX0_freeze : Cond) ∈ WL := in_3 (j := 209) rfl rfl
theorem q858 : (Cond.code yX0_freeze cX0_freeze 5 none : Cond) ∈ WL := in_3 (j := 210) rfl rfl
theorem q859 : (Cond.constantLong RX0 48 (16) : Cond) ∈ WL := in_3 (j := 220) rfl rfl
theorem q860 : (Cond.methodLink RX0 32 yX9_become : Cond) ∈ WL := in_3 (j := 211) rfl rfl
theorem q861 : (Cond.methodLink RX0 36 yX0_standing : Cond) ∈ WL := in_3 (j := 212) rfl rfl
theorem q862 : (Cond.static yX0_standing : Cond) ∈ WL := in_3 (j := 213) rfl rfl
theorem q863 : (Cond.code yX0_standing cX0_standing 7 (some .long) : Cond) ∈ WL := in_3 (j := 214) rfl rfl
theorem q864 : (Cond.methodLink RX0 40 yX9_columnCount : Cond) ∈ WL := in_3 (j := 215) rfl rfl
theorem q865 : (Cond.methodLink RX0 53 yX9_stands : Cond) ∈ WL := in_3 (j := 216) rfl rfl
theorem q866 : (Cond.methodLink RX0 44 yX9_sizeOf : Cond) ∈ WL := in_3 (j := 217) rfl rfl
theorem q867 : (Cond.methodLink RX0 57 yX9_take : Cond) ∈ WL := in_3 (j := 218) rfl rfl
theorem q868 : (Cond.methodLink RX0 60 yX9_put : Cond) ∈ WL := in_3 (j := 219) rfl rfl
theorem q869 : (Cond.methodLink RX0 50 yX0_shorten : Cond) ∈ WL := in_3 (j := 221) rfl rfl
theorem q870 : (Cond.instanceMethod yX0_shorten : Cond) ∈ WL := in_3 (j := 223) rfl rfl
theorem q871 : (Cond.selects RX0 yX0_shorten yX0_shorten : Cond) ∈ WL := in_s (j := 14) rfl rfl
theorem q872 : (Cond.code yX0_shorten cX0_shorten 2 none : Cond) ∈ WL := in_3 (j := 224) rfl rfl
theorem q873 : (Cond.methodLink RX10 227 yX0_above : Cond) ∈ WL := in_3 (j := 225) rfl rfl
theorem q874 : (Cond.instanceMethod yX0_above : Cond) ∈ WL := in_3 (j := 226) rfl rfl
theorem q875 : (Cond.selects RX0 yX0_above yX0_above : Cond) ∈ WL := in_3 (j := 227) rfl rfl
theorem q876 : (Cond.code yX0_above cX0_above 1 (some .long) : Cond) ∈ WL := in_3 (j := 228) rfl rfl
theorem q877 : (Cond.methodLink RX10 231 yX0_below : Cond) ∈ WL := in_3 (j := 229) rfl rfl
theorem q878 : (Cond.instanceMethod yX0_below : Cond) ∈ WL := in_3 (j := 230) rfl rfl
theorem q879 : (Cond.selects RX0 yX0_below yX0_below : Cond) ∈ WL := in_3 (j := 231) rfl rfl
theorem q880 : (Cond.code yX0_below cX0_below 1 (some .long) : Cond) ∈ WL := in_3 (j := 232) rfl rfl
theorem q881 : (Cond.methodLink RL 97 yX11_frost : Cond) ∈ WL := in_6 (j := 26) rfl rfl
theorem q882 : (Cond.instanceMethod yX11_frost : Cond) ∈ WL := in_6 (j := 27) rfl rfl
theorem q883 : (Cond.selects RX11 yX11_frost yX11_frost : Cond) ∈ WL := in_6 (j := 28) rfl rfl
theorem q884 : (Cond.code yX11_frost cX11_frost 3 (some .long) : Cond) ∈ WL := in_6 (j := 29) rfl rfl
theorem q885 : (Cond.methodLink RX11 263 yX11_frostOf : Cond) ∈ WL := in_6 (j := 30) rfl rfl
theorem q886 : (Cond.instanceMethod yX11_frostOf : Cond) ∈ WL := in_6 (j := 32) rfl rfl
theorem q887 : (Cond.selects RX11 yX11_frostOf yX11_frostOf : Cond) ∈ WL := in_s (j := 57) rfl rfl
theorem q888 : (Cond.code yX11_frostOf cX11_frostOf 12 (some .long) : Cond) ∈ WL := in_6 (j := 33) rfl rfl
theorem q889 : (Cond.methodLink RX11 259 yX11_part : Cond) ∈ WL := in_6 (j := 34) rfl rfl
theorem q890 : (Cond.static yX11_part : Cond) ∈ WL := in_6 (j := 35) rfl rfl
theorem q891 : (Cond.code yX11_part cX11_part 11 (some .long) : Cond) ∈ WL := in_6 (j := 36) rfl rfl
theorem q892 : (Cond.methodLink RX11 267 yX11_no : Cond) ∈ WL := in_6 (j := 37) rfl rfl
theorem q893 : (Cond.static yX11_no : Cond) ∈ WL := in_6 (j := 38) rfl rfl
theorem q894 : (Cond.code yX11_no cX11_no 1 (some .long) : Cond) ∈ WL := in_6 (j := 39) rfl rfl
theorem q895 : (Cond.constantLong RX11 56 (-9223372036854775808) : Cond) ∈ WL := in_6 (j := 40) rfl rfl
theorem q896 : (Cond.methodLink RL 98 yX10_years : Cond) ∈ WL := in_3 (j := 233) rfl rfl
theorem q897 : (Cond.instanceMethod yX10_years : Cond) ∈ WL := in_3 (j := 234) rfl rfl
theorem q898 : (Cond.selects RX10 yX10_years yX10_years : Cond) ∈ WL := in_3 (j := 235) rfl rfl
theorem q899 : (Cond.code yX10_years cX10_years 5 (some .int) : Cond) ∈ WL := in_3 (j := 236) rfl rfl
theorem q900 : (Cond.methodLink RX10 234 yX9_columnCount : Cond) ∈ WL := in_3 (j := 237) rfl rfl
theorem q901 : (Cond.methodLink RX10 237 yX0_live : Cond) ∈ WL := in_3 (j := 238) rfl rfl
theorem q902 : (Cond.instanceMethod yX0_live : Cond) ∈ WL := in_3 (j := 239) rfl rfl
theorem q903 : (Cond.selects RX0 yX0_live yX0_live : Cond) ∈ WL := in_4 (j := 0) rfl rfl
theorem q904 : (Cond.code yX0_live cX0_live 7 none : Cond) ∈ WL := in_4 (j := 1) rfl rfl
theorem q905 : (Cond.methodLink RX0 67 yX3_brotherOf : Cond) ∈ WL := in_4 (j := 2) rfl rfl
theorem q906 : (Cond.methodLink RX0 72 yX0_passYear : Cond) ∈ WL := in_4 (j := 3) rfl rfl
theorem q907 : (Cond.instanceMethod yX0_passYear : Cond) ∈ WL := in_4 (j := 5) rfl rfl
theorem q908 : (Cond.selects RX0 yX0_passYear yX0_passYear : Cond) ∈ WL := in_s (j := 15) rfl rfl
theorem q909 : (Cond.code yX0_passYear cX0_passYear 3 none : Cond) ∈ WL := in_4 (j := 6) rfl rfl
theorem q910 : (Cond.methodLink RX0 76 yX0_lot : Cond) ∈ WL := in_4 (j := 7) rfl rfl
theorem q911 : (Cond.instanceMethod yX0_lot : Cond) ∈ WL := in_4 (j := 9) rfl rfl
theorem q912 : (Cond.selects RX0 yX0_lot yX0_lot : Cond) ∈ WL := in_s (j := 16) rfl rfl
theorem q913 : (Cond.code yX0_lot cX0_lot 2 (some .int) : Cond) ∈ WL := in_4 (j := 10) rfl rfl
theorem q914 : (Cond.constant RX0 82 (1103515245) : Cond) ∈ WL := in_4 (j := 11) rfl rfl
theorem q915 : (Cond.methodLink RX0 79 yX9_takeFromOther : Cond) ∈ WL := in_4 (j := 12) rfl rfl
theorem q916 : (Cond.methodLink RX10 241 yX0_fallenYears : Cond) ∈ WL := in_4 (j := 13) rfl rfl
theorem q917 : (Cond.instanceMethod yX0_fallenYears : Cond) ∈ WL := in_4 (j := 14) rfl rfl
theorem q918 : (Cond.selects RX0 yX0_fallenYears yX0_fallenYears : Cond) ∈ WL := in_4 (j := 15) rfl rfl
theorem q919 : (Cond.code yX0_fallenYears cX0_fallenYears 1 (some .int) : Cond) ∈ WL := in_4 (j := 16) rfl rfl
theorem q920 : (Cond.methodLink RX10 244 yX0_heightOf : Cond) ∈ WL := in_4 (j := 17) rfl rfl
theorem q921 : (Cond.instanceMethod yX0_heightOf : Cond) ∈ WL := in_4 (j := 18) rfl rfl
theorem q922 : (Cond.selects RX0 yX0_heightOf yX0_heightOf : Cond) ∈ WL := in_4 (j := 19) rfl rfl
theorem q923 : (Cond.code yX0_heightOf cX0_heightOf 2 (some .int) : Cond) ∈ WL := in_4 (j := 20) rfl rfl
theorem q924 : (Cond.methodLink RX0 64 yX9_heightOf : Cond) ∈ WL := in_4 (j := 21) rfl rfl
theorem q925 : (Cond.methodLink RL 101 yX11_years : Cond) ∈ WL := in_6 (j := 41) rfl rfl
theorem q926 : (Cond.instanceMethod yX11_years : Cond) ∈ WL := in_6 (j := 42) rfl rfl
theorem q927 : (Cond.selects RX11 yX11_years yX11_years : Cond) ∈ WL := in_6 (j := 43) rfl rfl
theorem q928 : (Cond.code yX11_years cX11_years 4 (some .int) : Cond) ∈ WL := in_6 (j := 44) rfl rfl
theorem q929 : (Cond.constantLong RX11 278 (40) : Cond) ∈ WL := in_6 (j := 45) rfl rfl
theorem q930 : (Cond.methodLink RX11 280 yX11_yearsOf : Cond) ∈ WL := in_6 (j := 46) rfl rfl
theorem q931 : (Cond.instanceMethod yX11_yearsOf : Cond) ∈ WL := in_6 (j := 48) rfl rfl
theorem q932 : (Cond.selects RX11 yX11_yearsOf yX11_yearsOf : Cond) ∈ WL := in_s (j := 58) rfl rfl
theorem q933 : (Cond.code yX11_yearsOf cX11_yearsOf 8 (some .int) : Cond) ∈ WL := in_6 (j := 49) rfl rfl
theorem q934 : (Cond.fieldLink RX11 272 "WallTurnsModel" "drawn" "I" : Cond) ∈ WL := in_4 (j := 169) rfl rfl
theorem q935 : (Cond.methodLink RX11 275 yX11_lot : Cond) ∈ WL := in_6 (j := 50) rfl rfl
theorem q936 : (Cond.instanceMethod yX11_lot : Cond) ∈ WL := in_6 (j := 52) rfl rfl
theorem q937 : (Cond.selects RX11 yX11_lot yX11_lot : Cond) ∈ WL := in_s (j := 59) rfl rfl
theorem q938 : (Cond.code yX11_lot cX11_lot 2 (some .int) : Cond) ∈ WL := in_6 (j := 53) rfl rfl
theorem q939 : (Cond.constant RX11 271 (1103515245) : Cond) ∈ WL := in_6 (j := 54) rfl rfl
theorem q940 : (Cond.methodLink RL 102 yX10_sheet : Cond) ∈ WL := in_4 (j := 22) rfl rfl
theorem q941 : (Cond.instanceMethod yX10_sheet : Cond) ∈ WL := in_4 (j := 23) rfl rfl
theorem q942 : (Cond.selects RX10 yX10_sheet yX10_sheet : Cond) ∈ WL := in_4 (j := 24) rfl rfl
theorem q943 : (Cond.code yX10_sheet cX10_sheet 4 (some .int) : Cond) ∈ WL := in_4 (j := 25) rfl rfl
theorem q944 : (Cond.methodLink RX10 245 yX5_isForm : Cond) ∈ WL := in_4 (j := 26) rfl rfl
theorem q945 : (Cond.static yX5_isForm : Cond) ∈ WL := in_4 (j := 27) rfl rfl
theorem q946 : (Cond.code yX5_isForm cX5_isForm 1 (some .boolean) : Cond) ∈ WL := in_4 (j := 28) rfl rfl
theorem q947 : (Cond.methodLink RX10 248 yX5_make : Cond) ∈ WL := in_4 (j := 29) rfl rfl
theorem q948 : (Cond.instanceMethod yX5_make : Cond) ∈ WL := in_4 (j := 30) rfl rfl
theorem q949 : (Cond.selects RX5 yX5_make yX5_make : Cond) ∈ WL := in_4 (j := 31) rfl rfl
theorem q950 : (Cond.code yX5_make cX5_make 5 none : Cond) ∈ WL := in_4 (j := 32) rfl rfl
theorem q951 : (Cond.methodLink RX5 34 yX5_isForm : Cond) ∈ WL := in_4 (j := 33) rfl rfl
theorem q952 : (Cond.methodLink RL 105 yX11_sheet : Cond) ∈ WL := in_4 (j := 219) rfl rfl
theorem q953 : (Cond.instanceMethod yX11_sheet : Cond) ∈ WL := in_4 (j := 220) rfl rfl
theorem q954 : (Cond.selects RX11 yX11_sheet yX11_sheet : Cond) ∈ WL := in_4 (j := 221) rfl rfl
theorem q955 : (Cond.code yX11_sheet cX11_sheet 5 (some .int) : Cond) ∈ WL := in_4 (j := 222) rfl rfl
theorem q956 : (Cond.methodLink RL 106 yX10_lose : Cond) ∈ WL := in_4 (j := 34) rfl rfl
theorem q957 : (Cond.instanceMethod yX10_lose : Cond) ∈ WL := in_4 (j := 35) rfl rfl
theorem q958 : (Cond.selects RX10 yX10_lose yX10_lose : Cond) ∈ WL := in_4 (j := 36) rfl rfl
theorem q959 : (Cond.code yX10_lose cX10_lose 3 (some .int) : Cond) ∈ WL := in_4 (j := 37) rfl rfl
theorem q960 : (Cond.methodLink RX10 251 yX5_drop : Cond) ∈ WL := in_4 (j := 38) rfl rfl
theorem q961 : (Cond.instanceMethod yX5_drop : Cond) ∈ WL := in_4 (j := 39) rfl rfl
theorem q962 : (Cond.selects RX5 yX5_drop yX5_drop : Cond) ∈ WL := in_4 (j := 40) rfl rfl
theorem q963 : (Cond.code yX5_drop cX5_drop 2 none : Cond) ∈ WL := in_4 (j := 41) rfl rfl
theorem q964 : (Cond.methodLink RL 109 yX11_lose : Cond) ∈ WL := in_4 (j := 235) rfl rfl
theorem q965 : (Cond.instanceMethod yX11_lose : Cond) ∈ WL := in_4 (j := 236) rfl rfl
theorem q966 : (Cond.selects RX11 yX11_lose yX11_lose : Cond) ∈ WL := in_4 (j := 237) rfl rfl
theorem q967 : (Cond.code yX11_lose cX11_lose 2 (some .int) : Cond) ∈ WL := in_4 (j := 238) rfl rfl
theorem q968 : (Cond.methodLink RL 110 yX10_lay : Cond) ∈ WL := in_4 (j := 42) rfl rfl
theorem q969 : (Cond.instanceMethod yX10_lay : Cond) ∈ WL := in_4 (j := 43) rfl rfl
theorem q970 : (Cond.selects RX10 yX10_lay yX10_lay : Cond) ∈ WL := in_4 (j := 44) rfl rfl
theorem q971 : (Cond.code yX10_lay cX10_lay 6 (some .int) : Cond) ∈ WL := in_4 (j := 45) rfl rfl
theorem q972 : (Cond.methodLink RX10 254 yX5_refusalOf : Cond) ∈ WL := in_4 (j := 46) rfl rfl
theorem q973 : (Cond.instanceMethod yX5_refusalOf : Cond) ∈ WL := in_4 (j := 47) rfl rfl
theorem q974 : (Cond.selects RX5 yX5_refusalOf yX5_refusalOf : Cond) ∈ WL := in_4 (j := 48) rfl rfl
theorem q975 : (Cond.code yX5_refusalOf cX5_refusalOf 4 (some .int) : Cond) ∈ WL := in_4 (j := 49) rfl rfl
theorem q976 : (Cond.methodLink RX5 37 yX5_find : Cond) ∈ WL := in_4 (j := 50) rfl rfl
theorem q977 : (Cond.methodLink RX10 258 yX5_put : Cond) ∈ WL := in_4 (j := 51) rfl rfl
theorem q978 : (Cond.instanceMethod yX5_put : Cond) ∈ WL := in_4 (j := 52) rfl rfl
theorem q979 : (Cond.selects RX5 yX5_put yX5_put : Cond) ∈ WL := in_4 (j := 53) rfl rfl
theorem q980 : (Cond.code yX5_put cX5_put 4 none : Cond) ∈ WL := in_4 (j := 54) rfl rfl
theorem q981 : (Cond.methodLink RX5 48 yX5_asForm : Cond) ∈ WL := in_4 (j := 55) rfl rfl
theorem q982 : (Cond.static yX5_asForm : Cond) ∈ WL := in_4 (j := 56) rfl rfl
theorem q983 : (Cond.code yX5_asForm cX5_asForm 2 (some .int) : Cond) ∈ WL := in_4 (j := 57) rfl rfl
theorem q984 : (Cond.methodLink RL 114 yX11_lay : Cond) ∈ WL := in_4 (j := 239) rfl rfl
theorem q985 : (Cond.instanceMethod yX11_lay : Cond) ∈ WL := in_5 (j := 0) rfl rfl
theorem q986 : (Cond.selects RX11 yX11_lay yX11_lay : Cond) ∈ WL := in_5 (j := 1) rfl rfl
theorem q987 : (Cond.code yX11_lay cX11_lay 6 (some .int) : Cond) ∈ WL := in_5 (j := 2) rfl rfl
theorem q988 : (Cond.methodLink RX11 77 yX11_lacks : Cond) ∈ WL := in_5 (j := 3) rfl rfl
theorem q989 : (Cond.instanceMethod yX11_lacks : Cond) ∈ WL := in_5 (j := 5) rfl rfl
theorem q990 : (Cond.selects RX11 yX11_lacks yX11_lacks : Cond) ∈ WL := in_s (j := 21) rfl rfl
theorem q991 : (Cond.code yX11_lacks cX11_lacks 4 (some .int) : Cond) ∈ WL := in_5 (j := 6) rfl rfl
theorem q992 : (Cond.methodLink RX11 81 yX11_cut : Cond) ∈ WL := in_5 (j := 7) rfl rfl
theorem q993 : (Cond.static yX11_cut : Cond) ∈ WL := in_5 (j := 8) rfl rfl
theorem q994 : (Cond.code yX11_cut cX11_cut 2 (some .int) : Cond) ∈ WL := in_5 (j := 9) rfl rfl
theorem q995 : (Cond.methodLink RL 115 yX10_get : Cond) ∈ WL := in_4 (j := 58) rfl rfl
theorem q996 : (Cond.instanceMethod yX10_get : Cond) ∈ WL := in_4 (j := 59) rfl rfl
theorem q997 : (Cond.selects RX10 yX10_get yX10_get : Cond) ∈ WL := in_4 (j := 60) rfl rfl
theorem q998 : (Cond.code yX10_get cX10_get 5 (some .int) : Cond) ∈ WL := in_4 (j := 61) rfl rfl
theorem q999 : (Cond.constant RX10 261 (-2147483648) : Cond) ∈ WL := in_4 (j := 62) rfl rfl
theorem q1000 : (Cond.methodLink RL 118 yX11_get : Cond) ∈ WL := in_5 (j := 10) rfl rfl
theorem q1001 : (Cond.instanceMethod yX11_get : Cond) ∈ WL := in_5 (j := 11) rfl rfl
theorem q1002 : (Cond.selects RX11 yX11_get yX11_get : Cond) ∈ WL := in_5 (j := 12) rfl rfl
theorem q1003 : (Cond.code yX11_get cX11_get 4 (some .int) : Cond) ∈ WL := in_5 (j := 13) rfl rfl
theorem q1004 : (Cond.constant RX11 85 (-2147483648) : Cond) ∈ WL := in_5 (j := 14) rfl rfl
theorem q1005 : (Cond.methodLink RL 119 yX10_copy : Cond) ∈ WL := in_4 (j := 63) rfl rfl
theorem q1006 : (Cond.instanceMethod yX10_copy : Cond) ∈ WL := in_4 (j := 64) rfl rfl
theorem q1007 : (Cond.selects RX10 yX10_copy yX10_copy : Cond) ∈ WL := in_4 (j := 65) rfl rfl
theorem q1008 : (Cond.code yX10_copy cX10_copy 6 (some .int) : Cond) ∈ WL := in_4 (j := 66) rfl rfl
theorem q1009 : (Cond.methodLink RX10 262 yX5_formOf : Cond) ∈ WL := in_4 (j := 67) rfl rfl
theorem q1010 : (Cond.instanceMethod yX5_formOf : Cond) ∈ WL := in_4 (j := 68) rfl rfl
theorem q1011 : (Cond.selects RX5 yX5_formOf yX5_formOf : Cond) ∈ WL := in_4 (j := 69) rfl rfl
theorem q1012 : (Cond.code yX5_formOf cX5_formOf 2 (some .int) : Cond) ∈ WL := in_4 (j := 70) rfl rfl
theorem q1013 : (Cond.methodLink RX10 265 yX5_holds : Cond) ∈ WL := in_4 (j := 71) rfl rfl
theorem q1014 : (Cond.instanceMethod yX5_holds : Cond) ∈ WL := in_4 (j := 72) rfl rfl
theorem q1015 : (Cond.selects RX5 yX5_holds yX5_holds : Cond) ∈ WL := in_4 (j := 73) rfl rfl
theorem q1016 : (Cond.code yX5_holds cX5_holds 4 (some .boolean) : Cond) ∈ WL := in_4 (j := 74) rfl rfl
theorem q1017 : (Cond.methodLink RX10 268 yX5_move : Cond) ∈ WL := in_4 (j := 75) rfl rfl
theorem q1018 : (Cond.instanceMethod yX5_move : Cond) ∈ WL := in_4 (j := 76) rfl rfl
theorem q1019 : (Cond.selects RX5 yX5_move yX5_move : Cond) ∈ WL := in_4 (j := 77) rfl rfl
theorem q1020 : (Cond.code yX5_move cX5_move 6 none : Cond) ∈ WL := in_4 (j := 78) rfl rfl
theorem q1021 : (Cond.methodLink RX5 56 arraycopyName : Cond) ∈ WL := in_4 (j := 80) rfl rfl
theorem q1022 : (Cond.methodLink RX5 52 yX5_holds : Cond) ∈ WL := in_4 (j := 79) rfl rfl
theorem q1023 : (Cond.methodLink RL 123 yX11_copy : Cond) ∈ WL := in_5 (j := 15) rfl rfl
theorem q1024 : (Cond.instanceMethod yX11_copy : Cond) ∈ WL := in_5 (j := 16) rfl rfl
theorem q1025 : (Cond.selects RX11 yX11_copy yX11_copy : Cond) ∈ WL := in_5 (j := 17) rfl rfl
theorem q1026 : (Cond.code yX11_copy cX11_copy 7 (some .int) : Cond) ∈ WL := in_5 (j := 18) rfl rfl
theorem q1027 : (Cond.methodLink RL 124 yX10_write : Cond) ∈ WL := in_4 (j := 81) rfl rfl
theorem q1028 : (Cond.instanceMethod yX10_write : Cond) ∈ WL := in_4 (j := 82) rfl rfl
theorem q1029 : (Cond.selects RX10 yX10_write yX10_write : Cond) ∈ WL := in_4 (j := 83) rfl rfl
theorem q1030 : (Cond.code yX10_write cX10_write 6 (some .int) : Cond) ∈ WL := in_4 (j := 84) rfl rfl
theorem q1031 : (Cond.methodLink RX10 272 Lib.Math.min.name : Cond) ∈ WL := in_4 (j := 85) rfl rfl
theorem q1032 : (Cond.methodLink RL 127 yX11_write : Cond) ∈ WL := in_6 (j := 55) rfl rfl
theorem q1033 : (Cond.instanceMethod yX11_write : Cond) ∈ WL := in_6 (j := 56) rfl rfl
theorem q1034 : (Cond.selects RX11 yX11_write yX11_write : Cond) ∈ WL := in_6 (j := 57) rfl rfl
theorem q1035 : (Cond.code yX11_write cX11_write 5 (some .int) : Cond) ∈ WL := in_6 (j := 58) rfl rfl
theorem q1036 : (Cond.methodLink RX11 283 yX11_lesser : Cond) ∈ WL := in_6 (j := 59) rfl rfl
theorem q1037 : (Cond.static yX11_lesser : Cond) ∈ WL := in_6 (j := 60) rfl rfl
theorem q1038 : (Cond.code yX11_lesser cX11_lesser 2 (some .int) : Cond) ∈ WL := in_6 (j := 61) rfl rfl
theorem q1039 : (Cond.methodLink RL 128 yX10_count : Cond) ∈ WL := in_4 (j := 86) rfl rfl
theorem q1040 : (Cond.instanceMethod yX10_count : Cond) ∈ WL := in_4 (j := 87) rfl rfl
theorem q1041 : (Cond.selects RX10 yX10_count yX10_count : Cond) ∈ WL := in_4 (j := 88) rfl rfl
theorem q1042 : (Cond.code yX10_count cX10_count 2 (some .int) : Cond) ∈ WL := in_4 (j := 89) rfl rfl
theorem q1043 : (Cond.methodLink RX10 277 yX9_stoneCount : Cond) ∈ WL := in_4 (j := 90) rfl rfl
theorem q1044 : (Cond.instanceMethod yX9_stoneCount : Cond) ∈ WL := in_4 (j := 91) rfl rfl
theorem q1045 : (Cond.selects RX9 yX9_stoneCount yX9_stoneCount : Cond) ∈ WL := in_4 (j := 92) rfl rfl
theorem q1046 : (Cond.code yX9_stoneCount cX9_stoneCount 3 (some .int) : Cond) ∈ WL := in_4 (j := 93) rfl rfl
theorem q1047 : (Cond.methodLink RX10 280 yX1_busyTurns : Cond) ∈ WL := in_4 (j := 94) rfl rfl
theorem q1048 : (Cond.instanceMethod yX1_busyTurns : Cond) ∈ WL := in_4 (j := 95) rfl rfl
theorem q1049 : (Cond.selects RX1 yX1_busyTurns yX1_busyTurns : Cond) ∈ WL := in_4 (j := 96) rfl rfl
theorem q1050 : (Cond.code yX1_busyTurns cX1_busyTurns 3 (some .int) : Cond) ∈ WL := in_4 (j := 97) rfl rfl
theorem q1051 : (Cond.methodLink RX1 46 yX1_tookIn : Cond) ∈ WL := in_4 (j := 98) rfl rfl
theorem q1052 : (Cond.methodLink RX1 50 yX1_laidIn : Cond) ∈ WL := in_4 (j := 99) rfl rfl
theorem q1053 : (Cond.methodLink RX10 283 yX5_latestFinding : Cond) ∈ WL := in_4 (j := 100) rfl rfl
theorem q1054 : (Cond.instanceMethod yX5_latestFinding : Cond) ∈ WL := in_4 (j := 101) rfl rfl
theorem q1055 : (Cond.selects RX5 yX5_latestFinding yX5_latestFinding : Cond) ∈ WL := in_4 (j := 102) rfl rfl
theorem q1056 : (Cond.code yX5_latestFinding cX5_latestFinding 1 (some .int) : Cond) ∈ WL := in_4 (j := 103) rfl rfl
theorem q1057 : (Cond.methodLink RL 131 yX11_count : Cond) ∈ WL := in_6 (j := 62) rfl rfl
theorem q1058 : (Cond.instanceMethod yX11_count : Cond) ∈ WL := in_6 (j := 63) rfl rfl
theorem q1059 : (Cond.selects RX11 yX11_count yX11_count : Cond) ∈ WL := in_6 (j := 64) rfl rfl
theorem q1060 : (Cond.code yX11_count cX11_count 4 (some .int) : Cond) ∈ WL := in_6 (j := 65) rfl rfl
theorem q1061 : (Cond.methodLink RX11 286 yX11_working : Cond) ∈ WL := in_6 (j := 66) rfl rfl
theorem q1062 : (Cond.instanceMethod yX11_working : Cond) ∈ WL := in_6 (j := 68) rfl rfl
theorem q1063 : (Cond.selects RX11 yX11_working yX11_working : Cond) ∈ WL := in_s (j := 60) rfl rfl
theorem q1064 : (Cond.code yX11_working cX11_working 3 (some .int) : Cond) ∈ WL := in_6 (j := 69) rfl rfl
theorem q1065 : (Cond.methodLink RL 132 yX10_digest : Cond) ∈ WL := in_4 (j := 104) rfl rfl
theorem q1066 : (Cond.instanceMethod yX10_digest : Cond) ∈ WL := in_4 (j := 105) rfl rfl
theorem q1067 : (Cond.selects RX10 yX10_digest yX10_digest : Cond) ∈ WL := in_4 (j := 106) rfl rfl
theorem q1068 : (Cond.code yX10_digest cX10_digest 5 (some .long) : Cond) ∈ WL := in_4 (j := 107) rfl rfl
theorem q1069 : (Cond.constantLong RX10 286 (17) : Cond) ∈ WL := in_4 (j := 108) rfl rfl
theorem q1070 : (Cond.methodLink RX10 288 yX10_count : Cond) ∈ WL := in_4 (j := 109) rfl rfl
theorem q1071 : (Cond.methodLink RX10 291 yX10_mix : Cond) ∈ WL := in_4 (j := 110) rfl rfl
theorem q1072 : (Cond.static yX10_mix : Cond) ∈ WL := in_4 (j := 111) rfl rfl
theorem q1073 : (Cond.code yX10_mix cX10_mix 4 (some .long) : Cond) ∈ WL := in_4 (j := 112) rfl rfl
theorem q1074 : (Cond.constantLong RX10 324 (31) : Cond) ∈ WL := in_4 (j := 113) rfl rfl
theorem q1075 : (Cond.methodLink RX10 295 yX10_fault : Cond) ∈ WL := in_4 (j := 114) rfl rfl
theorem q1076 : (Cond.methodLink RX10 298 yX10_mixColumn : Cond) ∈ WL := in_4 (j := 115) rfl rfl
theorem q1077 : (Cond.instanceMethod yX10_mixColumn : Cond) ∈ WL := in_4 (j := 117) rfl rfl
theorem q1078 : (Cond.selects RX10 yX10_mixColumn yX10_mixColumn : Cond) ∈ WL := in_s (j := 17) rfl rfl
theorem q1079 : (Cond.code yX10_mixColumn cX10_mixColumn 7 (some .long) : Cond) ∈ WL := in_4 (j := 118) rfl rfl
theorem q1080 : (Cond.methodLink RX10 326 yX10_height : Cond) ∈ WL := in_4 (j := 119) rfl rfl
theorem q1081 : (Cond.methodLink RX10 329 yX10_lean : Cond) ∈ WL := in_4 (j := 120) rfl rfl
theorem q1082 : (Cond.methodLink RX10 332 yX10_stone : Cond) ∈ WL := in_4 (j := 121) rfl rfl
theorem q1083 : (Cond.methodLink RX10 302 yX10_turn : Cond) ∈ WL := in_4 (j := 122) rfl rfl
theorem q1084 : (Cond.methodLink RX10 305 yX10_mixBehind : Cond) ∈ WL := in_4 (j := 123) rfl rfl
theorem q1085 : (Cond.instanceMethod yX10_mixBehind : Cond) ∈ WL := in_4 (j := 125) rfl rfl
theorem q1086 : (Cond.selects RX10 yX10_mixBehind yX10_mixBehind : Cond) ∈ WL := in_s (j := 18) rfl rfl
theorem q1087 : (Cond.code yX10_mixBehind cX10_mixBehind 7 (some .long) : Cond) ∈ WL := in_4 (j := 126) rfl rfl
theorem q1088 : (Cond.methodLink RX10 335 yX10_behind : Cond) ∈ WL := in_4 (j := 127) rfl rfl
theorem q1089 : (Cond.methodLink RX10 309 yX10_years : Cond) ∈ WL := in_4 (j := 128) rfl rfl
theorem q1090 : (Cond.methodLink RX10 312 yX10_mixPlans : Cond) ∈ WL := in_4 (j := 129) rfl rfl
theorem q1091 : (Cond.instanceMethod yX10_mixPlans : Cond) ∈ WL := in_4 (j := 131) rfl rfl
theorem q1092 : (Cond.selects RX10 yX10_mixPlans yX10_mixPlans : Cond) ∈ WL := in_s (j := 19) rfl rfl
theorem q1093 : (Cond.code yX10_mixPlans cX10_mixPlans 6 (some .long) : Cond) ∈ WL := in_4 (j := 132) rfl rfl
theorem q1094 : (Cond.methodLink RX10 338 yX10_first : Cond) ∈ WL := in_4 (j := 133) rfl rfl
theorem q1095 : (Cond.methodLink RX10 341 yX10_highest : Cond) ∈ WL := in_4 (j := 134) rfl rfl
theorem q1096 : (Cond.methodLink RX10 344 yX10_mend : Cond) ∈ WL := in_4 (j := 135) rfl rfl
theorem q1097 : (Cond.methodLink RX10 347 yX10_open : Cond) ∈ WL := in_4 (j := 136) rfl rfl
theorem q1098 : (Cond.methodLink RX10 350 yX10_sides : Cond) ∈ WL := in_4 (j := 137) rfl rfl
theorem q1099 : (Cond.methodLink RX10 353 yX10_who : Cond) ∈ WL := in_4 (j := 138) rfl rfl
theorem q1100 : (Cond.methodLink RX10 356 yX10_frost : Cond) ∈ WL := in_4 (j := 139) rfl rfl
theorem q1101 : (Cond.methodLink RL 136 yX11_digest : Cond) ∈ WL := in_6 (j := 70) rfl rfl
theorem q1102 : (Cond.instanceMethod yX11_digest : Cond) ∈ WL := in_6 (j := 71) rfl rfl
theorem q1103 : (Cond.selects RX11 yX11_digest yX11_digest : Cond) ∈ WL := in_6 (j := 72) rfl rfl
theorem q1104 : (Cond.code yX11_digest cX11_digest 5 (some .long) : Cond) ∈ WL := in_6 (j := 73) rfl rfl
theorem q1105 : (Cond.constantLong RX11 291 (17) : Cond) ∈ WL := in_6 (j := 74) rfl rfl
theorem q1106 : (Cond.constantLong RX11 289 (31) : Cond) ∈ WL := in_6 (j := 75) rfl rfl
theorem q1107 : (Cond.methodLink RX11 293 yX11_count : Cond) ∈ WL := in_6 (j := 76) rfl rfl
theorem q1108 : (Cond.methodLink RX11 296 yX11_tellsColumn : Cond) ∈ WL := in_6 (j := 77) rfl rfl
theorem q1109 : (Cond.instanceMethod yX11_tellsColumn : Cond) ∈ WL := in_6 (j := 79) rfl rfl
theorem q1110 : (Cond.selects RX11 yX11_tellsColumn yX11_tellsColumn : Cond) ∈ WL := in_s (j := 61) rfl rfl
theorem q1111 : (Cond.code yX11_tellsColumn cX11_tellsColumn 7 (some .long) : Cond) ∈ WL := in_6 (j := 80) rfl rfl
theorem q1112 : (Cond.methodLink RX11 300 yX11_years : Cond) ∈ WL := in_6 (j := 81) rfl rfl
end
section
theorem dX0_init_0 : decode cX0_init 0 = .ok (.aload_n 0, 1) := by decide +kernel
theorem dX0_init_1 : decode cX0_init 1 = .ok (.invokespecial 3, 3) := by decide +kernel
theorem dX0_init_4 : decode cX0_init 4 = .ok (.aload_n 0, 1) := by decide +kernel
theorem dX0_init_5 : decode cX0_init 5 = .ok (.new 9, 3) := by decide +kernel
theorem dX0_init_8 : decode cX0_init 8 = .ok (.dup, 1) := by decide +kernel
theorem dX0_init_9 : decode cX0_init 9 = .ok (.invokespecial 11, 3) := by decide +kernel
theorem dX0_init_12 : decode cX0_init 12 = .ok (.putfield 12, 3) := by decide +kernel
theorem dX0_init_15 : decode cX0_init 15 = .ok (.aload_n 0, 1) := by decide +kernel
theorem dX0_init_16 : decode cX0_init 16 = .ok (.lconst 0, 1) := by decide +kernel
theorem dX0_init_17 : decode cX0_init 17 = .ok (.putfield 18, 3) := by decide +kernel
theorem dX0_init_20 : decode cX0_init 20 = .ok (.aload_n 0, 1) := by decide +kernel
theorem dX0_init_21 : decode cX0_init 21 = .ok (.lconst 1, 1) := by decide +kernel
theorem dX0_init_22 : decode cX0_init 22 = .ok (.putfield 22, 3) := by decide +kernel
theorem dX0_init_25 : decode cX0_init 25 = .ok (.aload_n 0, 1) := by decide +kernel
theorem dX0_init_26 : decode cX0_init 26 = .ok (.iconst 0, 1) := by decide +kernel
theorem dX0_init_27 : decode cX0_init 27 = .ok (.putfield 25, 3) := by decide +kernel
theorem dX0_init_30 : decode cX0_init 30 = .ok (.aload_n 0, 1) := by decide +kernel
theorem dX0_init_31 : decode cX0_init 31 = .ok (.iconst 0, 1) := by decide +kernel
theorem dX0_init_32 : decode cX0_init 32 = .ok (.putfield 29, 3) := by decide +kernel
theorem dX0_init_35 : decode cX0_init 35 = .ok (.return_, 1) := by decide +kernel
theorem dX0_above_0 : decode cX0_above 0 = .ok (.aload_n 0, 1) := by decide +kernel
theorem dX0_above_1 : decode cX0_above 1 = .ok (.getfield 18, 3) := by decide +kernel
theorem dX0_above_4 : decode cX0_above 4 = .ok (.lreturn, 1) := by decide +kernel
theorem dX0_below_0 : decode cX0_below 0 = .ok (.aload_n 0, 1) := by decide +kernel
theorem dX0_below_1 : decode cX0_below 1 = .ok (.getfield 22, 3) := by decide +kernel
theorem dX0_below_4 : decode cX0_below 4 = .ok (.lreturn, 1) := by decide +kernel
theorem dX0_freeze_0 : decode cX0_freeze 0 = .ok (.aload_n 0, 1) := by decide +kernel
theorem dX0_freeze_1 : decode cX0_freeze 1 = .ok (.getfield 12, 3) := by decide +kernel
theorem dX0_freeze_4 : decode cX0_freeze 4 = .ok (.aload_n 1, 1) := by decide +kernel
theorem dX0_freeze_5 : decode cX0_freeze 5 = .ok (.invokevirtual 32, 3) := by decide +kernel
theorem dX0_freeze_8 : decode cX0_freeze 8 = .ok (.aload_n 0, 1) := by decide +kernel
theorem dX0_freeze_9 : decode cX0_freeze 9 = .ok (.aload_n 0, 1) := by decide +kernel
theorem dX0_freeze_10 : decode cX0_freeze 10 = .ok (.getfield 12, 3) := by decide +kernel
theorem dX0_freeze_13 : decode cX0_freeze 13 = .ok (.aload_n 2, 1) := by decide +kernel
theorem dX0_freeze_14 : decode cX0_freeze 14 = .ok (.iload_n 3, 1) := by decide +kernel
theorem dX0_freeze_15 : decode cX0_freeze 15 = .ok (.iconst 0, 1) := by decide +kernel
theorem dX0_freeze_16 : decode cX0_freeze 16 = .ok (.invokestatic 36, 3) := by decide +kernel
theorem dX0_freeze_19 : decode cX0_freeze 19 = .ok (.putfield 18, 3) := by decide +kernel
theorem dX0_freeze_22 : decode cX0_freeze 22 = .ok (.aload_n 0, 1) := by decide +kernel
theorem dX0_freeze_23 : decode cX0_freeze 23 = .ok (.lconst 1, 1) := by decide +kernel
theorem dX0_freeze_24 : decode cX0_freeze 24 = .ok (.putfield 22, 3) := by decide +kernel
theorem dX0_freeze_27 : decode cX0_freeze 27 = .ok (.iconst 0, 1) := by decide +kernel
theorem dX0_freeze_28 : decode cX0_freeze 28 = .ok (.istore 4, 2) := by decide +kernel
theorem dX0_freeze_30 : decode cX0_freeze 30 = .ok (.iload 4, 2) := by decide +kernel
theorem dX0_freeze_32 : decode cX0_freeze 32 = .ok (.aload_n 0, 1) := by decide +kernel
theorem dX0_freeze_33 : decode cX0_freeze 33 = .ok (.getfield 12, 3) := by decide +kernel
theorem dX0_freeze_36 : decode cX0_freeze 36 = .ok (.invokevirtual 40, 3) := by decide +kernel
theorem dX0_freeze_39 : decode cX0_freeze 39 = .ok (.if_icmp .ge 33, 3) := by decide +kernel
theorem dX0_freeze_42 : decode cX0_freeze 42 = .ok (.aload_n 0, 1) := by decide +kernel
theorem dX0_freeze_43 : decode cX0_freeze 43 = .ok (.getfield 12, 3) := by decide +kernel
theorem dX0_freeze_46 : decode cX0_freeze 46 = .ok (.iload 4, 2) := by decide +kernel
theorem dX0_freeze_48 : decode cX0_freeze 48 = .ok (.invokevirtual 44, 3) := by decide +kernel
theorem dX0_freeze_51 : decode cX0_freeze 51 = .ok (.ifCond .le 15, 3) := by decide +kernel
theorem dX0_freeze_54 : decode cX0_freeze 54 = .ok (.aload_n 0, 1) := by decide +kernel
theorem dX0_freeze_55 : decode cX0_freeze 55 = .ok (.dup, 1) := by decide +kernel
theorem dX0_freeze_56 : decode cX0_freeze 56 = .ok (.getfield 22, 3) := by decide +kernel
theorem dX0_freeze_59 : decode cX0_freeze 59 = .ok (.ldc2_w 48, 3) := by decide +kernel
theorem dX0_freeze_62 : decode cX0_freeze 62 = .ok (.lmul, 1) := by decide +kernel
theorem dX0_freeze_63 : decode cX0_freeze 63 = .ok (.putfield 22, 3) := by decide +kernel
theorem dX0_freeze_66 : decode cX0_freeze 66 = .ok (.iinc 4 1, 3) := by decide +kernel
theorem dX0_freeze_69 : decode cX0_freeze 69 = .ok (.goto (-39), 3) := by decide +kernel
theorem dX0_freeze_72 : decode cX0_freeze 72 = .ok (.aload_n 0, 1) := by decide +kernel
theorem dX0_freeze_73 : decode cX0_freeze 73 = .ok (.invokevirtual 50, 3) := by decide +kernel
theorem dX0_freeze_76 : decode cX0_freeze 76 = .ok (.return_, 1) := by decide +kernel
theorem dX0_standing_0 : decode cX0_standing 0 = .ok (.iload_n 3, 1) := by decide +kernel
theorem dX0_standing_1 : decode cX0_standing 1 = .ok (.aload_n 0, 1) := by decide +kernel
theorem dX0_standing_2 : decode cX0_standing 2 = .ok (.invokevirtual 40, 3) := by decide +kernel
theorem dX0_standing_5 : decode cX0_standing 5 = .ok (.if_icmp .ge 9, 3) := by decide +kernel
theorem dX0_standing_8 : decode cX0_standing 8 = .ok (.iload_n 3, 1) := by decide +kernel
theorem dX0_standing_9 : decode cX0_standing 9 = .ok (.bipush 8, 2) := by decide +kernel
theorem dX0_standing_11 : decode cX0_standing 11 = .ok (.if_icmp .lt 17, 3) := by decide +kernel
theorem dX0_standing_14 : decode cX0_standing 14 = .ok (.aload_n 0, 1) := by decide +kernel
theorem dX0_standing_15 : decode cX0_standing 15 = .ok (.aload_n 1, 1) := by decide +kernel
theorem dX0_standing_16 : decode cX0_standing 16 = .ok (.invokevirtual 53, 3) := by decide +kernel
theorem dX0_standing_19 : decode cX0_standing 19 = .ok (.ifCond .eq 7, 3) := by decide +kernel
theorem dX0_standing_22 : decode cX0_standing 22 = .ok (.lconst 1, 1) := by decide +kernel
theorem dX0_standing_23 : decode cX0_standing 23 = .ok (.goto 4, 3) := by decide +kernel
theorem dX0_standing_26 : decode cX0_standing 26 = .ok (.lconst 0, 1) := by decide +kernel
theorem dX0_standing_27 : decode cX0_standing 27 = .ok (.lreturn, 1) := by decide +kernel
theorem dX0_standing_28 : decode cX0_standing 28 = .ok (.aload_n 0, 1) := by decide +kernel
theorem dX0_standing_29 : decode cX0_standing 29 = .ok (.iload_n 3, 1) := by decide +kernel
theorem dX0_standing_30 : decode cX0_standing 30 = .ok (.invokevirtual 44, 3) := by decide +kernel
theorem dX0_standing_33 : decode cX0_standing 33 = .ok (.ifCond .ne 13, 3) := by decide +kernel
theorem dX0_standing_36 : decode cX0_standing 36 = .ok (.aload_n 0, 1) := by decide +kernel
theorem dX0_standing_37 : decode cX0_standing 37 = .ok (.aload_n 1, 1) := by decide +kernel
theorem dX0_standing_38 : decode cX0_standing 38 = .ok (.iload_n 2, 1) := by decide +kernel
theorem dX0_standing_39 : decode cX0_standing 39 = .ok (.iload_n 3, 1) := by decide +kernel
theorem dX0_standing_40 : decode cX0_standing 40 = .ok (.iconst 1, 1) := by decide +kernel
theorem dX0_standing_41 : decode cX0_standing 41 = .ok (.iadd, 1) := by decide +kernel
theorem dX0_standing_42 : decode cX0_standing 42 = .ok (.invokestatic 36, 3) := by decide +kernel
theorem dX0_standing_45 : decode cX0_standing 45 = .ok (.lreturn, 1) := by decide +kernel
theorem dX0_standing_46 : decode cX0_standing 46 = .ok (.iload_n 2, 1) := by decide +kernel
theorem dX0_standing_47 : decode cX0_standing 47 = .ok (.bipush 16, 2) := by decide +kernel
theorem dX0_standing_49 : decode cX0_standing 49 = .ok (.if_icmp .ge 21, 3) := by decide +kernel
theorem dX0_standing_52 : decode cX0_standing 52 = .ok (.bipush 16, 2) := by decide +kernel
theorem dX0_standing_54 : decode cX0_standing 54 = .ok (.iload_n 2, 1) := by decide +kernel
theorem dX0_standing_55 : decode cX0_standing 55 = .ok (.isub, 1) := by decide +kernel
theorem dX0_standing_56 : decode cX0_standing 56 = .ok (.i2l, 1) := by decide +kernel
theorem dX0_standing_57 : decode cX0_standing 57 = .ok (.aload_n 0, 1) := by decide +kernel
theorem dX0_standing_58 : decode cX0_standing 58 = .ok (.aload_n 1, 1) := by decide +kernel
theorem dX0_standing_59 : decode cX0_standing 59 = .ok (.iload_n 2, 1) := by decide +kernel
theorem dX0_standing_60 : decode cX0_standing 60 = .ok (.iload_n 3, 1) := by decide +kernel
theorem dX0_standing_61 : decode cX0_standing 61 = .ok (.iconst 1, 1) := by decide +kernel
theorem dX0_standing_62 : decode cX0_standing 62 = .ok (.iadd, 1) := by decide +kernel
theorem dX0_standing_63 : decode cX0_standing 63 = .ok (.invokestatic 36, 3) := by decide +kernel
theorem dX0_standing_66 : decode cX0_standing 66 = .ok (.lmul, 1) := by decide +kernel
theorem dX0_standing_67 : decode cX0_standing 67 = .ok (.goto 4, 3) := by decide +kernel
theorem dX0_standing_70 : decode cX0_standing 70 = .ok (.lconst 0, 1) := by decide +kernel
theorem dX0_standing_71 : decode cX0_standing 71 = .ok (.lstore 4, 2) := by decide +kernel
theorem dX0_standing_73 : decode cX0_standing 73 = .ok (.iload_n 2, 1) := by decide +kernel
theorem dX0_standing_74 : decode cX0_standing 74 = .ok (.ifCond .le 35, 3) := by decide +kernel
theorem dX0_standing_77 : decode cX0_standing 77 = .ok (.aload_n 0, 1) := by decide +kernel
theorem dX0_standing_78 : decode cX0_standing 78 = .ok (.iload_n 3, 1) := by decide +kernel
theorem dX0_standing_79 : decode cX0_standing 79 = .ok (.invokevirtual 57, 3) := by decide +kernel
theorem dX0_standing_82 : decode cX0_standing 82 = .ok (.istore 6, 2) := by decide +kernel
theorem dX0_standing_84 : decode cX0_standing 84 = .ok (.lload 4, 2) := by decide +kernel
theorem dX0_standing_86 : decode cX0_standing 86 = .ok (.iload_n 2, 1) := by decide +kernel
theorem dX0_standing_87 : decode cX0_standing 87 = .ok (.i2l, 1) := by decide +kernel
theorem dX0_standing_88 : decode cX0_standing 88 = .ok (.aload_n 0, 1) := by decide +kernel
theorem dX0_standing_89 : decode cX0_standing 89 = .ok (.aload_n 1, 1) := by decide +kernel
theorem dX0_standing_90 : decode cX0_standing 90 = .ok (.iload_n 2, 1) := by decide +kernel
theorem dX0_standing_91 : decode cX0_standing 91 = .ok (.iload_n 3, 1) := by decide +kernel
theorem dX0_standing_92 : decode cX0_standing 92 = .ok (.iconst 1, 1) := by decide +kernel
theorem dX0_standing_93 : decode cX0_standing 93 = .ok (.iadd, 1) := by decide +kernel
theorem dX0_standing_94 : decode cX0_standing 94 = .ok (.invokestatic 36, 3) := by decide +kernel
theorem dX0_standing_97 : decode cX0_standing 97 = .ok (.lmul, 1) := by decide +kernel
theorem dX0_standing_98 : decode cX0_standing 98 = .ok (.ladd, 1) := by decide +kernel
theorem dX0_standing_99 : decode cX0_standing 99 = .ok (.lstore 4, 2) := by decide +kernel
theorem dX0_standing_101 : decode cX0_standing 101 = .ok (.aload_n 0, 1) := by decide +kernel
theorem dX0_standing_102 : decode cX0_standing 102 = .ok (.iload_n 3, 1) := by decide +kernel
theorem dX0_standing_103 : decode cX0_standing 103 = .ok (.iload 6, 2) := by decide +kernel
theorem dX0_standing_105 : decode cX0_standing 105 = .ok (.invokevirtual 60, 3) := by decide +kernel
theorem dX0_standing_108 : decode cX0_standing 108 = .ok (.pop, 1) := by decide +kernel
theorem dX0_standing_109 : decode cX0_standing 109 = .ok (.lload 4, 2) := by decide +kernel
theorem dX0_standing_111 : decode cX0_standing 111 = .ok (.lreturn, 1) := by decide +kernel
theorem dX0_shorten_0 : decode cX0_shorten 0 = .ok (.iconst 0, 1) := by decide +kernel
theorem dX0_shorten_1 : decode cX0_shorten 1 = .ok (.istore_n 1, 1) := by decide +kernel
theorem dX0_shorten_2 : decode cX0_shorten 2 = .ok (.iload_n 1, 1) := by decide +kernel
theorem dX0_shorten_3 : decode cX0_shorten 3 = .ok (.bipush 32, 2) := by decide +kernel
theorem dX0_shorten_5 : decode cX0_shorten 5 = .ok (.if_icmp .ge 49, 3) := by decide +kernel
theorem dX0_shorten_8 : decode cX0_shorten 8 = .ok (.aload_n 0, 1) := by decide +kernel
theorem dX0_shorten_9 : decode cX0_shorten 9 = .ok (.getfield 22, 3) := by decide +kernel
theorem dX0_shorten_12 : decode cX0_shorten 12 = .ok (.lconst 1, 1) := by decide +kernel
theorem dX0_shorten_13 : decode cX0_shorten 13 = .ok (.lcmp, 1) := by decide +kernel
theorem dX0_shorten_14 : decode cX0_shorten 14 = .ok (.ifCond .le 40, 3) := by decide +kernel
theorem dX0_shorten_17 : decode cX0_shorten 17 = .ok (.aload_n 0, 1) := by decide +kernel
theorem dX0_shorten_18 : decode cX0_shorten 18 = .ok (.getfield 18, 3) := by decide +kernel
theorem dX0_shorten_21 : decode cX0_shorten 21 = .ok (.lconst 1, 1) := by decide +kernel
theorem dX0_shorten_22 : decode cX0_shorten 22 = .ok (.land, 1) := by decide +kernel
theorem dX0_shorten_23 : decode cX0_shorten 23 = .ok (.lconst 0, 1) := by decide +kernel
theorem dX0_shorten_24 : decode cX0_shorten 24 = .ok (.lcmp, 1) := by decide +kernel
theorem dX0_shorten_25 : decode cX0_shorten 25 = .ok (.ifCond .ne 29, 3) := by decide +kernel
theorem dX0_shorten_28 : decode cX0_shorten 28 = .ok (.aload_n 0, 1) := by decide +kernel
theorem dX0_shorten_29 : decode cX0_shorten 29 = .ok (.dup, 1) := by decide +kernel
theorem dX0_shorten_30 : decode cX0_shorten 30 = .ok (.getfield 18, 3) := by decide +kernel
theorem dX0_shorten_33 : decode cX0_shorten 33 = .ok (.iconst 1, 1) := by decide +kernel
theorem dX0_shorten_34 : decode cX0_shorten 34 = .ok (.lshr, 1) := by decide +kernel
theorem dX0_shorten_35 : decode cX0_shorten 35 = .ok (.putfield 18, 3) := by decide +kernel
theorem dX0_shorten_38 : decode cX0_shorten 38 = .ok (.aload_n 0, 1) := by decide +kernel
theorem dX0_shorten_39 : decode cX0_shorten 39 = .ok (.dup, 1) := by decide +kernel
theorem dX0_shorten_40 : decode cX0_shorten 40 = .ok (.getfield 22, 3) := by decide +kernel
theorem dX0_shorten_43 : decode cX0_shorten 43 = .ok (.iconst 1, 1) := by decide +kernel
theorem dX0_shorten_44 : decode cX0_shorten 44 = .ok (.lshr, 1) := by decide +kernel
theorem dX0_shorten_45 : decode cX0_shorten 45 = .ok (.putfield 22, 3) := by decide +kernel
theorem dX0_shorten_48 : decode cX0_shorten 48 = .ok (.iinc 1 1, 3) := by decide +kernel
theorem dX0_shorten_51 : decode cX0_shorten 51 = .ok (.goto (-49), 3) := by decide +kernel
theorem dX0_shorten_54 : decode cX0_shorten 54 = .ok (.return_, 1) := by decide +kernel
theorem dX0_fallenYears_0 : decode cX0_fallenYears 0 = .ok (.aload_n 0, 1) := by decide +kernel
theorem dX0_fallenYears_1 : decode cX0_fallenYears 1 = .ok (.getfield 29, 3) := by decide +kernel
theorem dX0_fallenYears_4 : decode cX0_fallenYears 4 = .ok (.ireturn, 1) := by decide +kernel
theorem dX0_heightOf_0 : decode cX0_heightOf 0 = .ok (.aload_n 0, 1) := by decide +kernel
theorem dX0_heightOf_1 : decode cX0_heightOf 1 = .ok (.getfield 12, 3) := by decide +kernel
theorem dX0_heightOf_4 : decode cX0_heightOf 4 = .ok (.iload_n 1, 1) := by decide +kernel
theorem dX0_heightOf_5 : decode cX0_heightOf 5 = .ok (.invokevirtual 64, 3) := by decide +kernel
theorem dX0_heightOf_8 : decode cX0_heightOf 8 = .ok (.ireturn, 1) := by decide +kernel
theorem dX0_live_0 : decode cX0_live 0 = .ok (.aload_n 0, 1) := by decide +kernel
theorem dX0_live_1 : decode cX0_live 1 = .ok (.getfield 12, 3) := by decide +kernel
theorem dX0_live_4 : decode cX0_live 4 = .ok (.aload_n 1, 1) := by decide +kernel
theorem dX0_live_5 : decode cX0_live 5 = .ok (.invokevirtual 32, 3) := by decide +kernel
theorem dX0_live_8 : decode cX0_live 8 = .ok (.aload_n 0, 1) := by decide +kernel
theorem dX0_live_9 : decode cX0_live 9 = .ok (.iload 4, 2) := by decide +kernel
theorem dX0_live_11 : decode cX0_live 11 = .ok (.putfield 25, 3) := by decide +kernel
theorem dX0_live_14 : decode cX0_live 14 = .ok (.aload_n 0, 1) := by decide +kernel
theorem dX0_live_15 : decode cX0_live 15 = .ok (.iconst 0, 1) := by decide +kernel
theorem dX0_live_16 : decode cX0_live 16 = .ok (.putfield 29, 3) := by decide +kernel
theorem dX0_live_19 : decode cX0_live 19 = .ok (.iconst 0, 1) := by decide +kernel
theorem dX0_live_20 : decode cX0_live 20 = .ok (.istore 6, 2) := by decide +kernel
theorem dX0_live_22 : decode cX0_live 22 = .ok (.iload 6, 2) := by decide +kernel
theorem dX0_live_24 : decode cX0_live 24 = .ok (.iload 5, 2) := by decide +kernel
theorem dX0_live_26 : decode cX0_live 26 = .ok (.if_icmp .ge 49, 3) := by decide +kernel
theorem dX0_live_29 : decode cX0_live 29 = .ok (.iload 6, 2) := by decide +kernel
theorem dX0_live_31 : decode cX0_live 31 = .ok (.bipush 40, 2) := by decide +kernel
theorem dX0_live_33 : decode cX0_live 33 = .ok (.if_icmp .ge 42, 3) := by decide +kernel
theorem dX0_live_36 : decode cX0_live 36 = .ok (.aload_n 0, 1) := by decide +kernel
theorem dX0_live_37 : decode cX0_live 37 = .ok (.aload_n 2, 1) := by decide +kernel
theorem dX0_live_38 : decode cX0_live 38 = .ok (.iload_n 3, 1) := by decide +kernel
theorem dX0_live_39 : decode cX0_live 39 = .ok (.iload 6, 2) := by decide +kernel
theorem dX0_live_41 : decode cX0_live 41 = .ok (.iadd, 1) := by decide +kernel
theorem dX0_live_42 : decode cX0_live 42 = .ok (.invokevirtual 67, 3) := by decide +kernel
theorem dX0_live_45 : decode cX0_live 45 = .ok (.invokevirtual 72, 3) := by decide +kernel
theorem dX0_live_48 : decode cX0_live 48 = .ok (.aload_n 0, 1) := by decide +kernel
theorem dX0_live_49 : decode cX0_live 49 = .ok (.getfield 12, 3) := by decide +kernel
theorem dX0_live_52 : decode cX0_live 52 = .ok (.aload_n 2, 1) := by decide +kernel
theorem dX0_live_53 : decode cX0_live 53 = .ok (.invokevirtual 53, 3) := by decide +kernel
theorem dX0_live_56 : decode cX0_live 56 = .ok (.ifCond .ne 13, 3) := by decide +kernel
theorem dX0_live_59 : decode cX0_live 59 = .ok (.aload_n 0, 1) := by decide +kernel
theorem dX0_live_60 : decode cX0_live 60 = .ok (.dup, 1) := by decide +kernel
theorem dX0_live_61 : decode cX0_live 61 = .ok (.getfield 29, 3) := by decide +kernel
theorem dX0_live_64 : decode cX0_live 64 = .ok (.iconst 1, 1) := by decide +kernel
theorem dX0_live_65 : decode cX0_live 65 = .ok (.iadd, 1) := by decide +kernel
theorem dX0_live_66 : decode cX0_live 66 = .ok (.putfield 29, 3) := by decide +kernel
theorem dX0_live_69 : decode cX0_live 69 = .ok (.iinc 6 1, 3) := by decide +kernel
theorem dX0_live_72 : decode cX0_live 72 = .ok (.goto (-50), 3) := by decide +kernel
theorem dX0_live_75 : decode cX0_live 75 = .ok (.return_, 1) := by decide +kernel
theorem dX0_passYear_0 : decode cX0_passYear 0 = .ok (.aload_n 0, 1) := by decide +kernel
theorem dX0_passYear_1 : decode cX0_passYear 1 = .ok (.aload_n 0, 1) := by decide +kernel
theorem dX0_passYear_2 : decode cX0_passYear 2 = .ok (.getfield 12, 3) := by decide +kernel
theorem dX0_passYear_5 : decode cX0_passYear 5 = .ok (.invokevirtual 40, 3) := by decide +kernel
theorem dX0_passYear_8 : decode cX0_passYear 8 = .ok (.invokevirtual 76, 3) := by decide +kernel
theorem dX0_passYear_11 : decode cX0_passYear 11 = .ok (.istore_n 2, 1) := by decide +kernel
theorem dX0_passYear_12 : decode cX0_passYear 12 = .ok (.aload_n 0, 1) := by decide +kernel
theorem dX0_passYear_13 : decode cX0_passYear 13 = .ok (.iconst 4, 1) := by decide +kernel
theorem dX0_passYear_14 : decode cX0_passYear 14 = .ok (.invokevirtual 76, 3) := by decide +kernel
theorem dX0_passYear_17 : decode cX0_passYear 17 = .ok (.ifCond .ne 16, 3) := by decide +kernel
theorem dX0_passYear_20 : decode cX0_passYear 20 = .ok (.aload_n 0, 1) := by decide +kernel
theorem dX0_passYear_21 : decode cX0_passYear 21 = .ok (.getfield 12, 3) := by decide +kernel
theorem dX0_passYear_24 : decode cX0_passYear 24 = .ok (.iload_n 2, 1) := by decide +kernel
theorem dX0_passYear_25 : decode cX0_passYear 25 = .ok (.iload_n 1, 1) := by decide +kernel
theorem dX0_passYear_26 : decode cX0_passYear 26 = .ok (.invokevirtual 79, 3) := by decide +kernel
theorem dX0_passYear_29 : decode cX0_passYear 29 = .ok (.pop, 1) := by decide +kernel
theorem dX0_passYear_30 : decode cX0_passYear 30 = .ok (.goto 13, 3) := by decide +kernel
theorem dX0_passYear_33 : decode cX0_passYear 33 = .ok (.aload_n 0, 1) := by decide +kernel
theorem dX0_passYear_34 : decode cX0_passYear 34 = .ok (.getfield 12, 3) := by decide +kernel
theorem dX0_passYear_37 : decode cX0_passYear 37 = .ok (.iload_n 2, 1) := by decide +kernel
theorem dX0_passYear_38 : decode cX0_passYear 38 = .ok (.iload_n 1, 1) := by decide +kernel
theorem dX0_passYear_39 : decode cX0_passYear 39 = .ok (.invokevirtual 60, 3) := by decide +kernel
theorem dX0_passYear_42 : decode cX0_passYear 42 = .ok (.pop, 1) := by decide +kernel
theorem dX0_passYear_43 : decode cX0_passYear 43 = .ok (.return_, 1) := by decide +kernel
theorem dX0_lot_0 : decode cX0_lot 0 = .ok (.aload_n 0, 1) := by decide +kernel
theorem dX0_lot_1 : decode cX0_lot 1 = .ok (.ldc 82, 2) := by decide +kernel
theorem dX0_lot_3 : decode cX0_lot 3 = .ok (.aload_n 0, 1) := by decide +kernel
theorem dX0_lot_4 : decode cX0_lot 4 = .ok (.getfield 25, 3) := by decide +kernel
theorem dX0_lot_7 : decode cX0_lot 7 = .ok (.imul, 1) := by decide +kernel
theorem dX0_lot_8 : decode cX0_lot 8 = .ok (.sipush 12345, 3) := by decide +kernel
theorem dX0_lot_11 : decode cX0_lot 11 = .ok (.iadd, 1) := by decide +kernel
theorem dX0_lot_12 : decode cX0_lot 12 = .ok (.putfield 25, 3) := by decide +kernel
theorem dX0_lot_15 : decode cX0_lot 15 = .ok (.iload_n 1, 1) := by decide +kernel
theorem dX0_lot_16 : decode cX0_lot 16 = .ok (.ifCond .le 15, 3) := by decide +kernel
theorem dX0_lot_19 : decode cX0_lot 19 = .ok (.aload_n 0, 1) := by decide +kernel
theorem dX0_lot_20 : decode cX0_lot 20 = .ok (.getfield 25, 3) := by decide +kernel
theorem dX0_lot_23 : decode cX0_lot 23 = .ok (.bipush 16, 2) := by decide +kernel
theorem dX0_lot_25 : decode cX0_lot 25 = .ok (.iushr, 1) := by decide +kernel
theorem dX0_lot_26 : decode cX0_lot 26 = .ok (.iload_n 1, 1) := by decide +kernel
theorem dX0_lot_27 : decode cX0_lot 27 = .ok (.irem, 1) := by decide +kernel
theorem dX0_lot_28 : decode cX0_lot 28 = .ok (.goto 4, 3) := by decide +kernel
theorem dX0_lot_31 : decode cX0_lot 31 = .ok (.iconst 0, 1) := by decide +kernel
theorem dX0_lot_32 : decode cX0_lot 32 = .ok (.ireturn, 1) := by decide +kernel
theorem dX1_init_0 : decode cX1_init 0 = .ok (.aload_n 0, 1) := by decide +kernel
theorem dX1_init_1 : decode cX1_init 1 = .ok (.invokespecial 3, 3) := by decide +kernel
theorem dX1_init_4 : decode cX1_init 4 = .ok (.aload_n 0, 1) := by decide +kernel
theorem dX1_init_5 : decode cX1_init 5 = .ok (.bipush 13, 2) := by decide +kernel
theorem dX1_init_7 : decode cX1_init 7 = .ok (.anewarray 9, 3) := by decide +kernel
theorem dX1_init_10 : decode cX1_init 10 = .ok (.putfield 11, 3) := by decide +kernel
theorem dX1_init_13 : decode cX1_init 13 = .ok (.aload_n 0, 1) := by decide +kernel
theorem dX1_init_14 : decode cX1_init 14 = .ok (.bipush 12, 2) := by decide +kernel
theorem dX1_init_16 : decode cX1_init 16 = .ok (.newarray .int, 2) := by decide +kernel
theorem dX1_init_18 : decode cX1_init 18 = .ok (.putfield 17, 3) := by decide +kernel
theorem dX1_init_21 : decode cX1_init 21 = .ok (.aload_n 0, 1) := by decide +kernel
theorem dX1_init_22 : decode cX1_init 22 = .ok (.bipush 12, 2) := by decide +kernel
theorem dX1_init_24 : decode cX1_init 24 = .ok (.newarray .int, 2) := by decide +kernel
theorem dX1_init_26 : decode cX1_init 26 = .ok (.putfield 21, 3) := by decide +kernel
theorem dX1_init_29 : decode cX1_init 29 = .ok (.aload_n 0, 1) := by decide +kernel
theorem dX1_init_30 : decode cX1_init 30 = .ok (.new 9, 3) := by decide +kernel
theorem dX1_init_33 : decode cX1_init 33 = .ok (.dup, 1) := by decide +kernel
theorem dX1_init_34 : decode cX1_init 34 = .ok (.invokespecial 24, 3) := by decide +kernel
theorem dX1_init_37 : decode cX1_init 37 = .ok (.putfield 25, 3) := by decide +kernel
theorem dX1_init_40 : decode cX1_init 40 = .ok (.aload_n 0, 1) := by decide +kernel
theorem dX1_init_41 : decode cX1_init 41 = .ok (.iconst 0, 1) := by decide +kernel
theorem dX1_init_42 : decode cX1_init 42 = .ok (.putfield 29, 3) := by decide +kernel
theorem dX1_init_45 : decode cX1_init 45 = .ok (.iconst 0, 1) := by decide +kernel
theorem dX1_init_46 : decode cX1_init 46 = .ok (.istore_n 1, 1) := by decide +kernel
theorem dX1_init_47 : decode cX1_init 47 = .ok (.iload_n 1, 1) := by decide +kernel
theorem dX1_init_48 : decode cX1_init 48 = .ok (.bipush 12, 2) := by decide +kernel
theorem dX1_init_50 : decode cX1_init 50 = .ok (.if_icmp .gt 22, 3) := by decide +kernel
theorem dX1_init_53 : decode cX1_init 53 = .ok (.aload_n 0, 1) := by decide +kernel
theorem dX1_init_54 : decode cX1_init 54 = .ok (.getfield 11, 3) := by decide +kernel
theorem dX1_init_57 : decode cX1_init 57 = .ok (.iload_n 1, 1) := by decide +kernel
theorem dX1_init_58 : decode cX1_init 58 = .ok (.new 9, 3) := by decide +kernel
theorem dX1_init_61 : decode cX1_init 61 = .ok (.dup, 1) := by decide +kernel
theorem dX1_init_62 : decode cX1_init 62 = .ok (.invokespecial 24, 3) := by decide +kernel
theorem dX1_init_65 : decode cX1_init 65 = .ok (.aastore, 1) := by decide +kernel
theorem dX1_init_66 : decode cX1_init 66 = .ok (.iinc 1 1, 3) := by decide +kernel
theorem dX1_init_69 : decode cX1_init 69 = .ok (.goto (-22), 3) := by decide +kernel
theorem dX1_init_72 : decode cX1_init 72 = .ok (.return_, 1) := by decide +kernel
theorem dX1_start_0 : decode cX1_start 0 = .ok (.aload_n 0, 1) := by decide +kernel
theorem dX1_start_1 : decode cX1_start 1 = .ok (.getfield 11, 3) := by decide +kernel
theorem dX1_start_4 : decode cX1_start 4 = .ok (.iconst 0, 1) := by decide +kernel
theorem dX1_start_5 : decode cX1_start 5 = .ok (.aaload, 1) := by decide +kernel
theorem dX1_start_6 : decode cX1_start 6 = .ok (.areturn, 1) := by decide +kernel
theorem dX1_last_0 : decode cX1_last 0 = .ok (.aload_n 0, 1) := by decide +kernel
theorem dX1_last_1 : decode cX1_last 1 = .ok (.getfield 11, 3) := by decide +kernel
theorem dX1_last_4 : decode cX1_last 4 = .ok (.iconst 0, 1) := by decide +kernel
theorem dX1_last_5 : decode cX1_last 5 = .ok (.aload_n 0, 1) := by decide +kernel
theorem dX1_last_6 : decode cX1_last 6 = .ok (.getfield 29, 3) := by decide +kernel
theorem dX1_last_9 : decode cX1_last 9 = .ok (.bipush 12, 2) := by decide +kernel
theorem dX1_last_11 : decode cX1_last 11 = .ok (.invokestatic 33, 3) := by decide +kernel
theorem dX1_last_14 : decode cX1_last 14 = .ok (.invokestatic 39, 3) := by decide +kernel
theorem dX1_last_17 : decode cX1_last 17 = .ok (.aaload, 1) := by decide +kernel
theorem dX1_last_18 : decode cX1_last 18 = .ok (.areturn, 1) := by decide +kernel
theorem dX1_turnCount_0 : decode cX1_turnCount 0 = .ok (.aload_n 0, 1) := by decide +kernel
theorem dX1_turnCount_1 : decode cX1_turnCount 1 = .ok (.getfield 29, 3) := by decide +kernel
theorem dX1_turnCount_4 : decode cX1_turnCount 4 = .ok (.ireturn, 1) := by decide +kernel
theorem dX1_hasTurn_0 : decode cX1_hasTurn 0 = .ok (.iload_n 1, 1) := by decide +kernel
theorem dX1_hasTurn_1 : decode cX1_hasTurn 1 = .ok (.ifCond .lt 21, 3) := by decide +kernel
theorem dX1_hasTurn_4 : decode cX1_hasTurn 4 = .ok (.iload_n 1, 1) := by decide +kernel
theorem dX1_hasTurn_5 : decode cX1_hasTurn 5 = .ok (.aload_n 0, 1) := by decide +kernel
theorem dX1_hasTurn_6 : decode cX1_hasTurn 6 = .ok (.getfield 29, 3) := by decide +kernel
theorem dX1_hasTurn_9 : decode cX1_hasTurn 9 = .ok (.if_icmp .ge 13, 3) := by decide +kernel
theorem dX1_hasTurn_12 : decode cX1_hasTurn 12 = .ok (.iload_n 1, 1) := by decide +kernel
theorem dX1_hasTurn_13 : decode cX1_hasTurn 13 = .ok (.bipush 12, 2) := by decide +kernel
theorem dX1_hasTurn_15 : decode cX1_hasTurn 15 = .ok (.if_icmp .ge 7, 3) := by decide +kernel
theorem dX1_hasTurn_18 : decode cX1_hasTurn 18 = .ok (.iconst 1, 1) := by decide +kernel
theorem dX1_hasTurn_19 : decode cX1_hasTurn 19 = .ok (.goto 4, 3) := by decide +kernel
theorem dX1_hasTurn_22 : decode cX1_hasTurn 22 = .ok (.iconst 0, 1) := by decide +kernel
theorem dX1_hasTurn_23 : decode cX1_hasTurn 23 = .ok (.ireturn, 1) := by decide +kernel
theorem dX1_wallBehind_0 : decode cX1_wallBehind 0 = .ok (.iload_n 1, 1) := by decide +kernel
theorem dX1_wallBehind_1 : decode cX1_wallBehind 1 = .ok (.ifCond .lt 26, 3) := by decide +kernel
theorem dX1_wallBehind_4 : decode cX1_wallBehind 4 = .ok (.iload_n 1, 1) := by decide +kernel
theorem dX1_wallBehind_5 : decode cX1_wallBehind 5 = .ok (.aload_n 0, 1) := by decide +kernel
theorem dX1_wallBehind_6 : decode cX1_wallBehind 6 = .ok (.getfield 29, 3) := by decide +kernel
theorem dX1_wallBehind_9 : decode cX1_wallBehind 9 = .ok (.if_icmp .gt 18, 3) := by decide +kernel
theorem dX1_wallBehind_12 : decode cX1_wallBehind 12 = .ok (.iload_n 1, 1) := by decide +kernel
theorem dX1_wallBehind_13 : decode cX1_wallBehind 13 = .ok (.bipush 12, 2) := by decide +kernel
theorem dX1_wallBehind_15 : decode cX1_wallBehind 15 = .ok (.if_icmp .gt 12, 3) := by decide +kernel
theorem dX1_wallBehind_18 : decode cX1_wallBehind 18 = .ok (.aload_n 0, 1) := by decide +kernel
theorem dX1_wallBehind_19 : decode cX1_wallBehind 19 = .ok (.getfield 11, 3) := by decide +kernel
theorem dX1_wallBehind_22 : decode cX1_wallBehind 22 = .ok (.iload_n 1, 1) := by decide +kernel
theorem dX1_wallBehind_23 : decode cX1_wallBehind 23 = .ok (.aaload, 1) := by decide +kernel
theorem dX1_wallBehind_24 : decode cX1_wallBehind 24 = .ok (.goto 4, 3) := by decide +kernel
theorem dX1_wallBehind_27 : decode cX1_wallBehind 27 = .ok (.aconst_null, 1) := by decide +kernel
theorem dX1_wallBehind_28 : decode cX1_wallBehind 28 = .ok (.areturn, 1) := by decide +kernel
theorem dX1_tookIn_0 : decode cX1_tookIn 0 = .ok (.aload_n 0, 1) := by decide +kernel
theorem dX1_tookIn_1 : decode cX1_tookIn 1 = .ok (.iload_n 1, 1) := by decide +kernel
theorem dX1_tookIn_2 : decode cX1_tookIn 2 = .ok (.invokevirtual 42, 3) := by decide +kernel
theorem dX1_tookIn_5 : decode cX1_tookIn 5 = .ok (.ifCond .eq 12, 3) := by decide +kernel
theorem dX1_tookIn_8 : decode cX1_tookIn 8 = .ok (.aload_n 0, 1) := by decide +kernel
theorem dX1_tookIn_9 : decode cX1_tookIn 9 = .ok (.getfield 17, 3) := by decide +kernel
theorem dX1_tookIn_12 : decode cX1_tookIn 12 = .ok (.iload_n 1, 1) := by decide +kernel
theorem dX1_tookIn_13 : decode cX1_tookIn 13 = .ok (.iaload, 1) := by decide +kernel
theorem dX1_tookIn_14 : decode cX1_tookIn 14 = .ok (.goto 4, 3) := by decide +kernel
theorem dX1_tookIn_17 : decode cX1_tookIn 17 = .ok (.iconst 0, 1) := by decide +kernel
theorem dX1_tookIn_18 : decode cX1_tookIn 18 = .ok (.ireturn, 1) := by decide +kernel
theorem dX1_laidIn_0 : decode cX1_laidIn 0 = .ok (.aload_n 0, 1) := by decide +kernel
theorem dX1_laidIn_1 : decode cX1_laidIn 1 = .ok (.iload_n 1, 1) := by decide +kernel
theorem dX1_laidIn_2 : decode cX1_laidIn 2 = .ok (.invokevirtual 42, 3) := by decide +kernel
theorem dX1_laidIn_5 : decode cX1_laidIn 5 = .ok (.ifCond .eq 12, 3) := by decide +kernel
theorem dX1_laidIn_8 : decode cX1_laidIn 8 = .ok (.aload_n 0, 1) := by decide +kernel
theorem dX1_laidIn_9 : decode cX1_laidIn 9 = .ok (.getfield 21, 3) := by decide +kernel
theorem dX1_laidIn_12 : decode cX1_laidIn 12 = .ok (.iload_n 1, 1) := by decide +kernel
theorem dX1_laidIn_13 : decode cX1_laidIn 13 = .ok (.iaload, 1) := by decide +kernel
theorem dX1_laidIn_14 : decode cX1_laidIn 14 = .ok (.goto 4, 3) := by decide +kernel
theorem dX1_laidIn_17 : decode cX1_laidIn 17 = .ok (.iconst 0, 1) := by decide +kernel
theorem dX1_laidIn_18 : decode cX1_laidIn 18 = .ok (.ireturn, 1) := by decide +kernel
theorem dX1_busyTurns_0 : decode cX1_busyTurns 0 = .ok (.iconst 0, 1) := by decide +kernel
theorem dX1_busyTurns_1 : decode cX1_busyTurns 1 = .ok (.istore_n 1, 1) := by decide +kernel
theorem dX1_busyTurns_2 : decode cX1_busyTurns 2 = .ok (.iconst 0, 1) := by decide +kernel
theorem dX1_busyTurns_3 : decode cX1_busyTurns 3 = .ok (.istore_n 2, 1) := by decide +kernel
theorem dX1_busyTurns_4 : decode cX1_busyTurns 4 = .ok (.iload_n 2, 1) := by decide +kernel
theorem dX1_busyTurns_5 : decode cX1_busyTurns 5 = .ok (.aload_n 0, 1) := by decide +kernel
theorem dX1_busyTurns_6 : decode cX1_busyTurns 6 = .ok (.getfield 29, 3) := by decide +kernel
theorem dX1_busyTurns_9 : decode cX1_busyTurns 9 = .ok (.if_icmp .ge 26, 3) := by decide +kernel
theorem dX1_busyTurns_12 : decode cX1_busyTurns 12 = .ok (.aload_n 0, 1) := by decide +kernel
theorem dX1_busyTurns_13 : decode cX1_busyTurns 13 = .ok (.iload_n 2, 1) := by decide +kernel
theorem dX1_busyTurns_14 : decode cX1_busyTurns 14 = .ok (.invokevirtual 46, 3) := by decide +kernel
theorem dX1_busyTurns_17 : decode cX1_busyTurns 17 = .ok (.aload_n 0, 1) := by decide +kernel
theorem dX1_busyTurns_18 : decode cX1_busyTurns 18 = .ok (.iload_n 2, 1) := by decide +kernel
theorem dX1_busyTurns_19 : decode cX1_busyTurns 19 = .ok (.invokevirtual 50, 3) := by decide +kernel
theorem dX1_busyTurns_22 : decode cX1_busyTurns 22 = .ok (.iadd, 1) := by decide +kernel
theorem dX1_busyTurns_23 : decode cX1_busyTurns 23 = .ok (.ifCond .le 6, 3) := by decide +kernel
theorem dX1_busyTurns_26 : decode cX1_busyTurns 26 = .ok (.iinc 1 1, 3) := by decide +kernel
theorem dX1_busyTurns_29 : decode cX1_busyTurns 29 = .ok (.iinc 2 1, 3) := by decide +kernel
theorem dX1_busyTurns_32 : decode cX1_busyTurns 32 = .ok (.goto (-28), 3) := by decide +kernel
theorem dX1_busyTurns_35 : decode cX1_busyTurns 35 = .ok (.iload_n 1, 1) := by decide +kernel
theorem dX1_busyTurns_36 : decode cX1_busyTurns 36 = .ok (.ireturn, 1) := by decide +kernel
theorem dX1_replay_0 : decode cX1_replay 0 = .ok (.aload_n 0, 1) := by decide +kernel
theorem dX1_replay_1 : decode cX1_replay 1 = .ok (.aload_n 1, 1) := by decide +kernel
theorem dX1_replay_2 : decode cX1_replay 2 = .ok (.invokevirtual 53, 3) := by decide +kernel
theorem dX1_replay_5 : decode cX1_replay 5 = .ok (.bipush 12, 2) := by decide +kernel
theorem dX1_replay_7 : decode cX1_replay 7 = .ok (.invokestatic 33, 3) := by decide +kernel
theorem dX1_replay_10 : decode cX1_replay 10 = .ok (.putfield 29, 3) := by decide +kernel
theorem dX1_replay_13 : decode cX1_replay 13 = .ok (.iconst 0, 1) := by decide +kernel
theorem dX1_replay_14 : decode cX1_replay 14 = .ok (.istore_n 3, 1) := by decide +kernel
theorem dX1_replay_15 : decode cX1_replay 15 = .ok (.iload_n 3, 1) := by decide +kernel
theorem dX1_replay_16 : decode cX1_replay 16 = .ok (.aload_n 0, 1) := by decide +kernel
theorem dX1_replay_17 : decode cX1_replay 17 = .ok (.getfield 29, 3) := by decide +kernel
theorem dX1_replay_20 : decode cX1_replay 20 = .ok (.if_icmp .ge 73, 3) := by decide +kernel
theorem dX1_replay_23 : decode cX1_replay 23 = .ok (.iload_n 3, 1) := by decide +kernel
theorem dX1_replay_24 : decode cX1_replay 24 = .ok (.bipush 12, 2) := by decide +kernel
theorem dX1_replay_26 : decode cX1_replay 26 = .ok (.if_icmp .ge 67, 3) := by decide +kernel
theorem dX1_replay_29 : decode cX1_replay 29 = .ok (.aload_n 0, 1) := by decide +kernel
theorem dX1_replay_30 : decode cX1_replay 30 = .ok (.getfield 11, 3) := by decide +kernel
theorem dX1_replay_33 : decode cX1_replay 33 = .ok (.iload_n 3, 1) := by decide +kernel
theorem dX1_replay_34 : decode cX1_replay 34 = .ok (.iconst 1, 1) := by decide +kernel
theorem dX1_replay_35 : decode cX1_replay 35 = .ok (.iadd, 1) := by decide +kernel
theorem dX1_replay_36 : decode cX1_replay 36 = .ok (.aaload, 1) := by decide +kernel
theorem dX1_replay_37 : decode cX1_replay 37 = .ok (.astore 4, 2) := by decide +kernel
theorem dX1_replay_39 : decode cX1_replay 39 = .ok (.aload 4, 2) := by decide +kernel
theorem dX1_replay_41 : decode cX1_replay 41 = .ok (.aload_n 0, 1) := by decide +kernel
theorem dX1_replay_42 : decode cX1_replay 42 = .ok (.getfield 11, 3) := by decide +kernel
theorem dX1_replay_45 : decode cX1_replay 45 = .ok (.iload_n 3, 1) := by decide +kernel
theorem dX1_replay_46 : decode cX1_replay 46 = .ok (.aaload, 1) := by decide +kernel
theorem dX1_replay_47 : decode cX1_replay 47 = .ok (.invokevirtual 59, 3) := by decide +kernel
theorem dX1_replay_50 : decode cX1_replay 50 = .ok (.aload_n 2, 1) := by decide +kernel
theorem dX1_replay_51 : decode cX1_replay 51 = .ok (.iload_n 3, 1) := by decide +kernel
theorem dX1_replay_52 : decode cX1_replay 52 = .ok (.invokevirtual 63, 3) := by decide +kernel
theorem dX1_replay_55 : decode cX1_replay 55 = .ok (.istore 5, 2) := by decide +kernel
theorem dX1_replay_57 : decode cX1_replay 57 = .ok (.aload_n 0, 1) := by decide +kernel
theorem dX1_replay_58 : decode cX1_replay 58 = .ok (.getfield 17, 3) := by decide +kernel
theorem dX1_replay_61 : decode cX1_replay 61 = .ok (.iload_n 3, 1) := by decide +kernel
theorem dX1_replay_62 : decode cX1_replay 62 = .ok (.aload_n 1, 1) := by decide +kernel
theorem dX1_replay_63 : decode cX1_replay 63 = .ok (.iload_n 3, 1) := by decide +kernel
theorem dX1_replay_64 : decode cX1_replay 64 = .ok (.iload 5, 2) := by decide +kernel
theorem dX1_replay_66 : decode cX1_replay 66 = .ok (.aload 4, 2) := by decide +kernel
theorem dX1_replay_68 : decode cX1_replay 68 = .ok (.invokevirtual 68, 3) := by decide +kernel
theorem dX1_replay_71 : decode cX1_replay 71 = .ok (.iastore, 1) := by decide +kernel
theorem dX1_replay_72 : decode cX1_replay 72 = .ok (.aload_n 0, 1) := by decide +kernel
theorem dX1_replay_73 : decode cX1_replay 73 = .ok (.getfield 21, 3) := by decide +kernel
theorem dX1_replay_76 : decode cX1_replay 76 = .ok (.iload_n 3, 1) := by decide +kernel
theorem dX1_replay_77 : decode cX1_replay 77 = .ok (.aload_n 1, 1) := by decide +kernel
theorem dX1_replay_78 : decode cX1_replay 78 = .ok (.iload_n 3, 1) := by decide +kernel
theorem dX1_replay_79 : decode cX1_replay 79 = .ok (.iload 5, 2) := by decide +kernel
theorem dX1_replay_81 : decode cX1_replay 81 = .ok (.aload 4, 2) := by decide +kernel
theorem dX1_replay_83 : decode cX1_replay 83 = .ok (.invokevirtual 72, 3) := by decide +kernel
theorem dX1_replay_86 : decode cX1_replay 86 = .ok (.iastore, 1) := by decide +kernel
theorem dX1_replay_87 : decode cX1_replay 87 = .ok (.iinc 3 1, 3) := by decide +kernel
theorem dX1_replay_90 : decode cX1_replay 90 = .ok (.goto (-75), 3) := by decide +kernel
theorem dX1_replay_93 : decode cX1_replay 93 = .ok (.return_, 1) := by decide +kernel
theorem dX1_wouldFit_0 : decode cX1_wouldFit 0 = .ok (.aload_n 1, 1) := by decide +kernel
theorem dX1_wouldFit_1 : decode cX1_wouldFit 1 = .ok (.aload_n 0, 1) := by decide +kernel
theorem dX1_wouldFit_2 : decode cX1_wouldFit 2 = .ok (.getfield 29, 3) := by decide +kernel
theorem dX1_wouldFit_5 : decode cX1_wouldFit 5 = .ok (.invokevirtual 75, 3) := by decide +kernel
theorem dX1_wouldFit_8 : decode cX1_wouldFit 8 = .ok (.ifCond .eq 5, 3) := by decide +kernel
theorem dX1_wouldFit_11 : decode cX1_wouldFit 11 = .ok (.iconst 0, 1) := by decide +kernel
theorem dX1_wouldFit_12 : decode cX1_wouldFit 12 = .ok (.ireturn, 1) := by decide +kernel
theorem dX1_wouldFit_13 : decode cX1_wouldFit 13 = .ok (.aload_n 0, 1) := by decide +kernel
theorem dX1_wouldFit_14 : decode cX1_wouldFit 14 = .ok (.getfield 25, 3) := by decide +kernel
theorem dX1_wouldFit_17 : decode cX1_wouldFit 17 = .ok (.aload_n 0, 1) := by decide +kernel
theorem dX1_wouldFit_18 : decode cX1_wouldFit 18 = .ok (.getfield 11, 3) := by decide +kernel
theorem dX1_wouldFit_21 : decode cX1_wouldFit 21 = .ok (.iconst 0, 1) := by decide +kernel
theorem dX1_wouldFit_22 : decode cX1_wouldFit 22 = .ok (.aaload, 1) := by decide +kernel
theorem dX1_wouldFit_23 : decode cX1_wouldFit 23 = .ok (.invokevirtual 59, 3) := by decide +kernel
theorem dX1_wouldFit_26 : decode cX1_wouldFit 26 = .ok (.aload_n 1, 1) := by decide +kernel
theorem dX1_wouldFit_27 : decode cX1_wouldFit 27 = .ok (.iconst 0, 1) := by decide +kernel
theorem dX1_wouldFit_28 : decode cX1_wouldFit 28 = .ok (.aload_n 0, 1) := by decide +kernel
theorem dX1_wouldFit_29 : decode cX1_wouldFit 29 = .ok (.getfield 25, 3) := by decide +kernel
theorem dX1_wouldFit_32 : decode cX1_wouldFit 32 = .ok (.invokevirtual 80, 3) := by decide +kernel
theorem dX1_wouldFit_35 : decode cX1_wouldFit 35 = .ok (.istore 6, 2) := by decide +kernel
theorem dX1_wouldFit_37 : decode cX1_wouldFit 37 = .ok (.iconst 0, 1) := by decide +kernel
theorem dX1_wouldFit_38 : decode cX1_wouldFit 38 = .ok (.istore 7, 2) := by decide +kernel
theorem dX1_wouldFit_40 : decode cX1_wouldFit 40 = .ok (.iload 7, 2) := by decide +kernel
theorem dX1_wouldFit_42 : decode cX1_wouldFit 42 = .ok (.aload_n 0, 1) := by decide +kernel
theorem dX1_wouldFit_43 : decode cX1_wouldFit 43 = .ok (.getfield 29, 3) := by decide +kernel
theorem dX1_wouldFit_46 : decode cX1_wouldFit 46 = .ok (.if_icmp .ge 101, 3) := by decide +kernel
theorem dX1_wouldFit_49 : decode cX1_wouldFit 49 = .ok (.iload 6, 2) := by decide +kernel
theorem dX1_wouldFit_51 : decode cX1_wouldFit 51 = .ok (.ifCond .eq 96, 3) := by decide +kernel
theorem dX1_wouldFit_54 : decode cX1_wouldFit 54 = .ok (.iload 7, 2) := by decide +kernel
theorem dX1_wouldFit_56 : decode cX1_wouldFit 56 = .ok (.iload 4, 2) := by decide +kernel
theorem dX1_wouldFit_58 : decode cX1_wouldFit 58 = .ok (.if_icmp .ne 8, 3) := by decide +kernel
theorem dX1_wouldFit_61 : decode cX1_wouldFit 61 = .ok (.iload 5, 2) := by decide +kernel
theorem dX1_wouldFit_63 : decode cX1_wouldFit 63 = .ok (.goto 4, 3) := by decide +kernel
theorem dX1_wouldFit_66 : decode cX1_wouldFit 66 = .ok (.iconst (-1), 1) := by decide +kernel
theorem dX1_wouldFit_67 : decode cX1_wouldFit 67 = .ok (.istore 8, 2) := by decide +kernel
theorem dX1_wouldFit_69 : decode cX1_wouldFit 69 = .ok (.aload_n 3, 1) := by decide +kernel
theorem dX1_wouldFit_70 : decode cX1_wouldFit 70 = .ok (.iload 8, 2) := by decide +kernel
theorem dX1_wouldFit_72 : decode cX1_wouldFit 72 = .ok (.iconst 2, 1) := by decide +kernel
theorem dX1_wouldFit_73 : decode cX1_wouldFit 73 = .ok (.if_icmp .ne 10, 3) := by decide +kernel
theorem dX1_wouldFit_76 : decode cX1_wouldFit 76 = .ok (.iload 7, 2) := by decide +kernel
theorem dX1_wouldFit_78 : decode cX1_wouldFit 78 = .ok (.iconst 1, 1) := by decide +kernel
theorem dX1_wouldFit_79 : decode cX1_wouldFit 79 = .ok (.iadd, 1) := by decide +kernel
theorem dX1_wouldFit_80 : decode cX1_wouldFit 80 = .ok (.goto 5, 3) := by decide +kernel
theorem dX1_wouldFit_83 : decode cX1_wouldFit 83 = .ok (.iload 7, 2) := by decide +kernel
theorem dX1_wouldFit_85 : decode cX1_wouldFit 85 = .ok (.invokevirtual 63, 3) := by decide +kernel
theorem dX1_wouldFit_88 : decode cX1_wouldFit 88 = .ok (.istore 9, 2) := by decide +kernel
theorem dX1_wouldFit_90 : decode cX1_wouldFit 90 = .ok (.iload 8, 2) := by decide +kernel
theorem dX1_wouldFit_92 : decode cX1_wouldFit 92 = .ok (.ifCond .eq 16, 3) := by decide +kernel
theorem dX1_wouldFit_95 : decode cX1_wouldFit 95 = .ok (.aload_n 2, 1) := by decide +kernel
theorem dX1_wouldFit_96 : decode cX1_wouldFit 96 = .ok (.iload 7, 2) := by decide +kernel
theorem dX1_wouldFit_98 : decode cX1_wouldFit 98 = .ok (.iload 9, 2) := by decide +kernel
theorem dX1_wouldFit_100 : decode cX1_wouldFit 100 = .ok (.aload_n 0, 1) := by decide +kernel
theorem dX1_wouldFit_101 : decode cX1_wouldFit 101 = .ok (.getfield 25, 3) := by decide +kernel
theorem dX1_wouldFit_104 : decode cX1_wouldFit 104 = .ok (.invokevirtual 68, 3) := by decide +kernel
theorem dX1_wouldFit_107 : decode cX1_wouldFit 107 = .ok (.pop, 1) := by decide +kernel
theorem dX1_wouldFit_108 : decode cX1_wouldFit 108 = .ok (.iload 8, 2) := by decide +kernel
theorem dX1_wouldFit_110 : decode cX1_wouldFit 110 = .ok (.iconst 1, 1) := by decide +kernel
theorem dX1_wouldFit_111 : decode cX1_wouldFit 111 = .ok (.if_icmp .eq 16, 3) := by decide +kernel
theorem dX1_wouldFit_114 : decode cX1_wouldFit 114 = .ok (.aload_n 2, 1) := by decide +kernel
theorem dX1_wouldFit_115 : decode cX1_wouldFit 115 = .ok (.iload 7, 2) := by decide +kernel
theorem dX1_wouldFit_117 : decode cX1_wouldFit 117 = .ok (.iload 9, 2) := by decide +kernel
theorem dX1_wouldFit_119 : decode cX1_wouldFit 119 = .ok (.aload_n 0, 1) := by decide +kernel
theorem dX1_wouldFit_120 : decode cX1_wouldFit 120 = .ok (.getfield 25, 3) := by decide +kernel
theorem dX1_wouldFit_123 : decode cX1_wouldFit 123 = .ok (.invokevirtual 72, 3) := by decide +kernel
theorem dX1_wouldFit_126 : decode cX1_wouldFit 126 = .ok (.pop, 1) := by decide +kernel
theorem dX1_wouldFit_127 : decode cX1_wouldFit 127 = .ok (.aload_n 1, 1) := by decide +kernel
theorem dX1_wouldFit_128 : decode cX1_wouldFit 128 = .ok (.iload 7, 2) := by decide +kernel
theorem dX1_wouldFit_130 : decode cX1_wouldFit 130 = .ok (.iconst 1, 1) := by decide +kernel
theorem dX1_wouldFit_131 : decode cX1_wouldFit 131 = .ok (.iadd, 1) := by decide +kernel
theorem dX1_wouldFit_132 : decode cX1_wouldFit 132 = .ok (.aload_n 0, 1) := by decide +kernel
theorem dX1_wouldFit_133 : decode cX1_wouldFit 133 = .ok (.getfield 25, 3) := by decide +kernel
theorem dX1_wouldFit_136 : decode cX1_wouldFit 136 = .ok (.invokevirtual 80, 3) := by decide +kernel
theorem dX1_wouldFit_139 : decode cX1_wouldFit 139 = .ok (.istore 6, 2) := by decide +kernel
theorem dX1_wouldFit_141 : decode cX1_wouldFit 141 = .ok (.iinc 7 1, 3) := by decide +kernel
theorem dX1_wouldFit_144 : decode cX1_wouldFit 144 = .ok (.goto (-104), 3) := by decide +kernel
theorem dX1_wouldFit_147 : decode cX1_wouldFit 147 = .ok (.iload 6, 2) := by decide +kernel
theorem dX1_wouldFit_149 : decode cX1_wouldFit 149 = .ok (.ireturn, 1) := by decide +kernel
theorem dX2_init_0 : decode cX2_init 0 = .ok (.aload_n 0, 1) := by decide +kernel
theorem dX2_init_1 : decode cX2_init 1 = .ok (.invokespecial 3, 3) := by decide +kernel
theorem dX2_init_4 : decode cX2_init 4 = .ok (.aload_n 0, 1) := by decide +kernel
theorem dX2_init_5 : decode cX2_init 5 = .ok (.new 9, 3) := by decide +kernel
theorem dX2_init_8 : decode cX2_init 8 = .ok (.dup, 1) := by decide +kernel
theorem dX2_init_9 : decode cX2_init 9 = .ok (.invokespecial 11, 3) := by decide +kernel
theorem dX2_init_12 : decode cX2_init 12 = .ok (.putfield 12, 3) := by decide +kernel
theorem dX2_init_15 : decode cX2_init 15 = .ok (.aload_n 0, 1) := by decide +kernel
theorem dX2_init_16 : decode cX2_init 16 = .ok (.iconst 3, 1) := by decide +kernel
theorem dX2_init_17 : decode cX2_init 17 = .ok (.newarray .int, 2) := by decide +kernel
theorem dX2_init_19 : decode cX2_init 19 = .ok (.putfield 18, 3) := by decide +kernel
theorem dX2_init_22 : decode cX2_init 22 = .ok (.aload_n 0, 1) := by decide +kernel
theorem dX2_init_23 : decode cX2_init 23 = .ok (.iconst 4, 1) := by decide +kernel
theorem dX2_init_24 : decode cX2_init 24 = .ok (.newarray .int, 2) := by decide +kernel
theorem dX2_init_26 : decode cX2_init 26 = .ok (.putfield 22, 3) := by decide +kernel
theorem dX2_init_29 : decode cX2_init 29 = .ok (.aload_n 0, 1) := by decide +kernel
theorem dX2_init_30 : decode cX2_init 30 = .ok (.iconst (-1), 1) := by decide +kernel
theorem dX2_init_31 : decode cX2_init 31 = .ok (.putfield 25, 3) := by decide +kernel
theorem dX2_init_34 : decode cX2_init 34 = .ok (.aload_n 0, 1) := by decide +kernel
theorem dX2_init_35 : decode cX2_init 35 = .ok (.iconst (-1), 1) := by decide +kernel
theorem dX2_init_36 : decode cX2_init 36 = .ok (.putfield 29, 3) := by decide +kernel
theorem dX2_init_39 : decode cX2_init 39 = .ok (.return_, 1) := by decide +kernel
theorem dX2_told_0 : decode cX2_told 0 = .ok (.iload_n 1, 1) := by decide +kernel
theorem dX2_told_1 : decode cX2_told 1 = .ok (.iconst (-1), 1) := by decide +kernel
theorem dX2_told_2 : decode cX2_told 2 = .ok (.if_icmp .ne 8, 3) := by decide +kernel
theorem dX2_told_5 : decode cX2_told 5 = .ok (.aload_n 0, 1) := by decide +kernel
theorem dX2_told_6 : decode cX2_told 6 = .ok (.getfield 25, 3) := by decide +kernel
theorem dX2_told_9 : decode cX2_told 9 = .ok (.ireturn, 1) := by decide +kernel
theorem dX2_told_10 : decode cX2_told 10 = .ok (.iload_n 1, 1) := by decide +kernel
theorem dX2_told_11 : decode cX2_told 11 = .ok (.ifCond .lt 25, 3) := by decide +kernel
theorem dX2_told_14 : decode cX2_told 14 = .ok (.iload_n 1, 1) := by decide +kernel
theorem dX2_told_15 : decode cX2_told 15 = .ok (.aload_n 0, 1) := by decide +kernel
theorem dX2_told_16 : decode cX2_told 16 = .ok (.getfield 25, 3) := by decide +kernel
theorem dX2_told_19 : decode cX2_told 19 = .ok (.if_icmp .ge 17, 3) := by decide +kernel
theorem dX2_told_22 : decode cX2_told 22 = .ok (.iload_n 1, 1) := by decide +kernel
theorem dX2_told_23 : decode cX2_told 23 = .ok (.iconst 3, 1) := by decide +kernel
theorem dX2_told_24 : decode cX2_told 24 = .ok (.if_icmp .ge 12, 3) := by decide +kernel
theorem dX2_told_27 : decode cX2_told 27 = .ok (.aload_n 0, 1) := by decide +kernel
theorem dX2_told_28 : decode cX2_told 28 = .ok (.getfield 18, 3) := by decide +kernel
theorem dX2_told_31 : decode cX2_told 31 = .ok (.iload_n 1, 1) := by decide +kernel
theorem dX2_told_32 : decode cX2_told 32 = .ok (.iaload, 1) := by decide +kernel
theorem dX2_told_33 : decode cX2_told 33 = .ok (.goto 4, 3) := by decide +kernel
theorem dX2_told_36 : decode cX2_told 36 = .ok (.iconst (-1), 1) := by decide +kernel
theorem dX2_told_37 : decode cX2_told 37 = .ok (.ireturn, 1) := by decide +kernel
theorem dX2_searchMend_0 : decode cX2_searchMend 0 = .ok (.aload_n 0, 1) := by decide +kernel
theorem dX2_searchMend_1 : decode cX2_searchMend 1 = .ok (.getfield 12, 3) := by decide +kernel
theorem dX2_searchMend_4 : decode cX2_searchMend 4 = .ok (.aload_n 1, 1) := by decide +kernel
theorem dX2_searchMend_5 : decode cX2_searchMend 5 = .ok (.invokevirtual 32, 3) := by decide +kernel
theorem dX2_searchMend_8 : decode cX2_searchMend 8 = .ok (.aload_n 0, 1) := by decide +kernel
theorem dX2_searchMend_9 : decode cX2_searchMend 9 = .ok (.iconst (-1), 1) := by decide +kernel
theorem dX2_searchMend_10 : decode cX2_searchMend 10 = .ok (.putfield 25, 3) := by decide +kernel
theorem dX2_searchMend_13 : decode cX2_searchMend 13 = .ok (.iconst 0, 1) := by decide +kernel
theorem dX2_searchMend_14 : decode cX2_searchMend 14 = .ok (.istore_n 3, 1) := by decide +kernel
theorem dX2_searchMend_15 : decode cX2_searchMend 15 = .ok (.iload_n 3, 1) := by decide +kernel
theorem dX2_searchMend_16 : decode cX2_searchMend 16 = .ok (.iconst 3, 1) := by decide +kernel
theorem dX2_searchMend_17 : decode cX2_searchMend 17 = .ok (.if_icmp .gt 39, 3) := by decide +kernel
theorem dX2_searchMend_20 : decode cX2_searchMend 20 = .ok (.aload_n 0, 1) := by decide +kernel
theorem dX2_searchMend_21 : decode cX2_searchMend 21 = .ok (.getfield 25, 3) := by decide +kernel
theorem dX2_searchMend_24 : decode cX2_searchMend 24 = .ok (.iconst (-1), 1) := by decide +kernel
theorem dX2_searchMend_25 : decode cX2_searchMend 25 = .ok (.if_icmp .ne 31, 3) := by decide +kernel
theorem dX2_searchMend_28 : decode cX2_searchMend 28 = .ok (.aload_n 0, 1) := by decide +kernel
theorem dX2_searchMend_29 : decode cX2_searchMend 29 = .ok (.getfield 12, 3) := by decide +kernel
theorem dX2_searchMend_32 : decode cX2_searchMend 32 = .ok (.aload_n 2, 1) := by decide +kernel
theorem dX2_searchMend_33 : decode cX2_searchMend 33 = .ok (.aload_n 0, 1) := by decide +kernel
theorem dX2_searchMend_34 : decode cX2_searchMend 34 = .ok (.getfield 18, 3) := by decide +kernel
theorem dX2_searchMend_37 : decode cX2_searchMend 37 = .ok (.iconst 0, 1) := by decide +kernel
theorem dX2_searchMend_38 : decode cX2_searchMend 38 = .ok (.iload_n 3, 1) := by decide +kernel
theorem dX2_searchMend_39 : decode cX2_searchMend 39 = .ok (.invokestatic 36, 3) := by decide +kernel
theorem dX2_searchMend_42 : decode cX2_searchMend 42 = .ok (.ifCond .eq 8, 3) := by decide +kernel
theorem dX2_searchMend_45 : decode cX2_searchMend 45 = .ok (.aload_n 0, 1) := by decide +kernel
theorem dX2_searchMend_46 : decode cX2_searchMend 46 = .ok (.iload_n 3, 1) := by decide +kernel
theorem dX2_searchMend_47 : decode cX2_searchMend 47 = .ok (.putfield 25, 3) := by decide +kernel
theorem dX2_searchMend_50 : decode cX2_searchMend 50 = .ok (.iinc 3 1, 3) := by decide +kernel
theorem dX2_searchMend_53 : decode cX2_searchMend 53 = .ok (.goto (-38), 3) := by decide +kernel
theorem dX2_searchMend_56 : decode cX2_searchMend 56 = .ok (.return_, 1) := by decide +kernel
theorem dX2_canMend_0 : decode cX2_canMend 0 = .ok (.iload_n 3, 1) := by decide +kernel
theorem dX2_canMend_1 : decode cX2_canMend 1 = .ok (.ifCond .lt 15, 3) := by decide +kernel
theorem dX2_canMend_4 : decode cX2_canMend 4 = .ok (.iload_n 3, 1) := by decide +kernel
theorem dX2_canMend_5 : decode cX2_canMend 5 = .ok (.iload 4, 2) := by decide +kernel
theorem dX2_canMend_7 : decode cX2_canMend 7 = .ok (.if_icmp .ge 9, 3) := by decide +kernel
theorem dX2_canMend_10 : decode cX2_canMend 10 = .ok (.iload_n 3, 1) := by decide +kernel
theorem dX2_canMend_11 : decode cX2_canMend 11 = .ok (.aload_n 2, 1) := by decide +kernel
theorem dX2_canMend_12 : decode cX2_canMend 12 = .ok (.arraylength, 1) := by decide +kernel
theorem dX2_canMend_13 : decode cX2_canMend 13 = .ok (.if_icmp .lt 9, 3) := by decide +kernel
theorem dX2_canMend_16 : decode cX2_canMend 16 = .ok (.aload_n 0, 1) := by decide +kernel
theorem dX2_canMend_17 : decode cX2_canMend 17 = .ok (.aload_n 1, 1) := by decide +kernel
theorem dX2_canMend_18 : decode cX2_canMend 18 = .ok (.invokevirtual 40, 3) := by decide +kernel
theorem dX2_canMend_21 : decode cX2_canMend 21 = .ok (.ireturn, 1) := by decide +kernel
theorem dX2_canMend_22 : decode cX2_canMend 22 = .ok (.aload_n 2, 1) := by decide +kernel
theorem dX2_canMend_23 : decode cX2_canMend 23 = .ok (.iload_n 3, 1) := by decide +kernel
theorem dX2_canMend_24 : decode cX2_canMend 24 = .ok (.invokestatic 44, 3) := by decide +kernel
theorem dX2_canMend_27 : decode cX2_canMend 27 = .ok (.istore 5, 2) := by decide +kernel
theorem dX2_canMend_29 : decode cX2_canMend 29 = .ok (.iload 5, 2) := by decide +kernel
theorem dX2_canMend_31 : decode cX2_canMend 31 = .ok (.bipush 16, 2) := by decide +kernel
theorem dX2_canMend_33 : decode cX2_canMend 33 = .ok (.if_icmp .ge 62, 3) := by decide +kernel
theorem dX2_canMend_36 : decode cX2_canMend 36 = .ok (.iload 5, 2) := by decide +kernel
theorem dX2_canMend_38 : decode cX2_canMend 38 = .ok (.bipush 8, 2) := by decide +kernel
theorem dX2_canMend_40 : decode cX2_canMend 40 = .ok (.irem, 1) := by decide +kernel
theorem dX2_canMend_41 : decode cX2_canMend 41 = .ok (.istore 6, 2) := by decide +kernel
theorem dX2_canMend_43 : decode cX2_canMend 43 = .ok (.aload_n 0, 1) := by decide +kernel
theorem dX2_canMend_44 : decode cX2_canMend 44 = .ok (.iload 6, 2) := by decide +kernel
theorem dX2_canMend_46 : decode cX2_canMend 46 = .ok (.iload 5, 2) := by decide +kernel
theorem dX2_canMend_48 : decode cX2_canMend 48 = .ok (.bipush 8, 2) := by decide +kernel
theorem dX2_canMend_50 : decode cX2_canMend 50 = .ok (.idiv, 1) := by decide +kernel
theorem dX2_canMend_51 : decode cX2_canMend 51 = .ok (.invokevirtual 48, 3) := by decide +kernel
theorem dX2_canMend_54 : decode cX2_canMend 54 = .ok (.ifCond .eq 35, 3) := by decide +kernel
theorem dX2_canMend_57 : decode cX2_canMend 57 = .ok (.aload_n 2, 1) := by decide +kernel
theorem dX2_canMend_58 : decode cX2_canMend 58 = .ok (.iload_n 3, 1) := by decide +kernel
theorem dX2_canMend_59 : decode cX2_canMend 59 = .ok (.iload 5, 2) := by decide +kernel
theorem dX2_canMend_61 : decode cX2_canMend 61 = .ok (.iastore, 1) := by decide +kernel
theorem dX2_canMend_62 : decode cX2_canMend 62 = .ok (.aload_n 0, 1) := by decide +kernel
theorem dX2_canMend_63 : decode cX2_canMend 63 = .ok (.aload_n 1, 1) := by decide +kernel
theorem dX2_canMend_64 : decode cX2_canMend 64 = .ok (.aload_n 2, 1) := by decide +kernel
theorem dX2_canMend_65 : decode cX2_canMend 65 = .ok (.iload_n 3, 1) := by decide +kernel
theorem dX2_canMend_66 : decode cX2_canMend 66 = .ok (.iconst 1, 1) := by decide +kernel
theorem dX2_canMend_67 : decode cX2_canMend 67 = .ok (.iadd, 1) := by decide +kernel
theorem dX2_canMend_68 : decode cX2_canMend 68 = .ok (.iload 4, 2) := by decide +kernel
theorem dX2_canMend_70 : decode cX2_canMend 70 = .ok (.invokestatic 36, 3) := by decide +kernel
theorem dX2_canMend_73 : decode cX2_canMend 73 = .ok (.istore 7, 2) := by decide +kernel
theorem dX2_canMend_75 : decode cX2_canMend 75 = .ok (.aload_n 0, 1) := by decide +kernel
theorem dX2_canMend_76 : decode cX2_canMend 76 = .ok (.iload 6, 2) := by decide +kernel
theorem dX2_canMend_78 : decode cX2_canMend 78 = .ok (.invokevirtual 52, 3) := by decide +kernel
theorem dX2_canMend_81 : decode cX2_canMend 81 = .ok (.pop, 1) := by decide +kernel
theorem dX2_canMend_82 : decode cX2_canMend 82 = .ok (.iload 7, 2) := by decide +kernel
theorem dX2_canMend_84 : decode cX2_canMend 84 = .ok (.ifCond .eq 5, 3) := by decide +kernel
theorem dX2_canMend_87 : decode cX2_canMend 87 = .ok (.iconst 1, 1) := by decide +kernel
theorem dX2_canMend_88 : decode cX2_canMend 88 = .ok (.ireturn, 1) := by decide +kernel
theorem dX2_canMend_89 : decode cX2_canMend 89 = .ok (.iinc 5 1, 3) := by decide +kernel
theorem dX2_canMend_92 : decode cX2_canMend 92 = .ok (.goto (-63), 3) := by decide +kernel
theorem dX2_canMend_95 : decode cX2_canMend 95 = .ok (.iconst 0, 1) := by decide +kernel
theorem dX2_canMend_96 : decode cX2_canMend 96 = .ok (.ireturn, 1) := by decide +kernel
theorem dX2_searchOpen_0 : decode cX2_searchOpen 0 = .ok (.aload_n 0, 1) := by decide +kernel
theorem dX2_searchOpen_1 : decode cX2_searchOpen 1 = .ok (.getfield 12, 3) := by decide +kernel
theorem dX2_searchOpen_4 : decode cX2_searchOpen 4 = .ok (.aload_n 1, 1) := by decide +kernel
theorem dX2_searchOpen_5 : decode cX2_searchOpen 5 = .ok (.invokevirtual 32, 3) := by decide +kernel
theorem dX2_searchOpen_8 : decode cX2_searchOpen 8 = .ok (.aload_n 0, 1) := by decide +kernel
theorem dX2_searchOpen_9 : decode cX2_searchOpen 9 = .ok (.iconst (-1), 1) := by decide +kernel
theorem dX2_searchOpen_10 : decode cX2_searchOpen 10 = .ok (.putfield 25, 3) := by decide +kernel
theorem dX2_searchOpen_13 : decode cX2_searchOpen 13 = .ok (.iconst 0, 1) := by decide +kernel
theorem dX2_searchOpen_14 : decode cX2_searchOpen 14 = .ok (.istore 4, 2) := by decide +kernel
theorem dX2_searchOpen_16 : decode cX2_searchOpen 16 = .ok (.iload 4, 2) := by decide +kernel
theorem dX2_searchOpen_18 : decode cX2_searchOpen 18 = .ok (.iconst 3, 1) := by decide +kernel
theorem dX2_searchOpen_19 : decode cX2_searchOpen 19 = .ok (.if_icmp .gt 42, 3) := by decide +kernel
theorem dX2_searchOpen_22 : decode cX2_searchOpen 22 = .ok (.aload_n 0, 1) := by decide +kernel
theorem dX2_searchOpen_23 : decode cX2_searchOpen 23 = .ok (.getfield 25, 3) := by decide +kernel
theorem dX2_searchOpen_26 : decode cX2_searchOpen 26 = .ok (.iconst (-1), 1) := by decide +kernel
theorem dX2_searchOpen_27 : decode cX2_searchOpen 27 = .ok (.if_icmp .ne 34, 3) := by decide +kernel
theorem dX2_searchOpen_30 : decode cX2_searchOpen 30 = .ok (.aload_n 0, 1) := by decide +kernel
theorem dX2_searchOpen_31 : decode cX2_searchOpen 31 = .ok (.getfield 12, 3) := by decide +kernel
theorem dX2_searchOpen_34 : decode cX2_searchOpen 34 = .ok (.aload_n 2, 1) := by decide +kernel
theorem dX2_searchOpen_35 : decode cX2_searchOpen 35 = .ok (.iload_n 3, 1) := by decide +kernel
theorem dX2_searchOpen_36 : decode cX2_searchOpen 36 = .ok (.aload_n 0, 1) := by decide +kernel
theorem dX2_searchOpen_37 : decode cX2_searchOpen 37 = .ok (.getfield 18, 3) := by decide +kernel
theorem dX2_searchOpen_40 : decode cX2_searchOpen 40 = .ok (.iconst 0, 1) := by decide +kernel
theorem dX2_searchOpen_41 : decode cX2_searchOpen 41 = .ok (.iload 4, 2) := by decide +kernel
theorem dX2_searchOpen_43 : decode cX2_searchOpen 43 = .ok (.invokestatic 56, 3) := by decide +kernel
theorem dX2_searchOpen_46 : decode cX2_searchOpen 46 = .ok (.ifCond .eq 9, 3) := by decide +kernel
theorem dX2_searchOpen_49 : decode cX2_searchOpen 49 = .ok (.aload_n 0, 1) := by decide +kernel
theorem dX2_searchOpen_50 : decode cX2_searchOpen 50 = .ok (.iload 4, 2) := by decide +kernel
theorem dX2_searchOpen_52 : decode cX2_searchOpen 52 = .ok (.putfield 25, 3) := by decide +kernel
theorem dX2_searchOpen_55 : decode cX2_searchOpen 55 = .ok (.iinc 4 1, 3) := by decide +kernel
theorem dX2_searchOpen_58 : decode cX2_searchOpen 58 = .ok (.goto (-42), 3) := by decide +kernel
theorem dX2_searchOpen_61 : decode cX2_searchOpen 61 = .ok (.return_, 1) := by decide +kernel
theorem dX2_canOpen_0 : decode cX2_canOpen 0 = .ok (.iload 4, 2) := by decide +kernel
theorem dX2_canOpen_2 : decode cX2_canOpen 2 = .ok (.ifCond .lt 17, 3) := by decide +kernel
theorem dX2_canOpen_5 : decode cX2_canOpen 5 = .ok (.iload 4, 2) := by decide +kernel
theorem dX2_canOpen_7 : decode cX2_canOpen 7 = .ok (.iload 5, 2) := by decide +kernel
theorem dX2_canOpen_9 : decode cX2_canOpen 9 = .ok (.if_icmp .ge 10, 3) := by decide +kernel
theorem dX2_canOpen_12 : decode cX2_canOpen 12 = .ok (.iload 4, 2) := by decide +kernel
theorem dX2_canOpen_14 : decode cX2_canOpen 14 = .ok (.aload_n 3, 1) := by decide +kernel
theorem dX2_canOpen_15 : decode cX2_canOpen 15 = .ok (.arraylength, 1) := by decide +kernel
theorem dX2_canOpen_16 : decode cX2_canOpen 16 = .ok (.if_icmp .lt 26, 3) := by decide +kernel
theorem dX2_canOpen_19 : decode cX2_canOpen 19 = .ok (.aload_n 0, 1) := by decide +kernel
theorem dX2_canOpen_20 : decode cX2_canOpen 20 = .ok (.aload_n 1, 1) := by decide +kernel
theorem dX2_canOpen_21 : decode cX2_canOpen 21 = .ok (.invokevirtual 60, 3) := by decide +kernel
theorem dX2_canOpen_24 : decode cX2_canOpen 24 = .ok (.iload_n 2, 1) := by decide +kernel
theorem dX2_canOpen_25 : decode cX2_canOpen 25 = .ok (.if_icmp .lt 15, 3) := by decide +kernel
theorem dX2_canOpen_28 : decode cX2_canOpen 28 = .ok (.aload_n 0, 1) := by decide +kernel
theorem dX2_canOpen_29 : decode cX2_canOpen 29 = .ok (.aload_n 1, 1) := by decide +kernel
theorem dX2_canOpen_30 : decode cX2_canOpen 30 = .ok (.invokevirtual 40, 3) := by decide +kernel
theorem dX2_canOpen_33 : decode cX2_canOpen 33 = .ok (.ifCond .eq 7, 3) := by decide +kernel
theorem dX2_canOpen_36 : decode cX2_canOpen 36 = .ok (.iconst 1, 1) := by decide +kernel
theorem dX2_canOpen_37 : decode cX2_canOpen 37 = .ok (.goto 4, 3) := by decide +kernel
theorem dX2_canOpen_40 : decode cX2_canOpen 40 = .ok (.iconst 0, 1) := by decide +kernel
theorem dX2_canOpen_41 : decode cX2_canOpen 41 = .ok (.ireturn, 1) := by decide +kernel
theorem dX2_canOpen_42 : decode cX2_canOpen 42 = .ok (.aload_n 3, 1) := by decide +kernel
theorem dX2_canOpen_43 : decode cX2_canOpen 43 = .ok (.iload 4, 2) := by decide +kernel
theorem dX2_canOpen_45 : decode cX2_canOpen 45 = .ok (.invokestatic 44, 3) := by decide +kernel
theorem dX2_canOpen_48 : decode cX2_canOpen 48 = .ok (.istore 6, 2) := by decide +kernel
theorem dX2_canOpen_50 : decode cX2_canOpen 50 = .ok (.iload 6, 2) := by decide +kernel
theorem dX2_canOpen_52 : decode cX2_canOpen 52 = .ok (.aload_n 0, 1) := by decide +kernel
theorem dX2_canOpen_53 : decode cX2_canOpen 53 = .ok (.invokevirtual 64, 3) := by decide +kernel
theorem dX2_canOpen_56 : decode cX2_canOpen 56 = .ok (.if_icmp .ge 60, 3) := by decide +kernel
theorem dX2_canOpen_59 : decode cX2_canOpen 59 = .ok (.aload_n 0, 1) := by decide +kernel
theorem dX2_canOpen_60 : decode cX2_canOpen 60 = .ok (.iload 6, 2) := by decide +kernel
theorem dX2_canOpen_62 : decode cX2_canOpen 62 = .ok (.invokevirtual 52, 3) := by decide +kernel
theorem dX2_canOpen_65 : decode cX2_canOpen 65 = .ok (.istore 7, 2) := by decide +kernel
theorem dX2_canOpen_67 : decode cX2_canOpen 67 = .ok (.iload 7, 2) := by decide +kernel
theorem dX2_canOpen_69 : decode cX2_canOpen 69 = .ok (.iconst (-1), 1) := by decide +kernel
theorem dX2_canOpen_70 : decode cX2_canOpen 70 = .ok (.if_icmp .eq 40, 3) := by decide +kernel
theorem dX2_canOpen_73 : decode cX2_canOpen 73 = .ok (.aload_n 3, 1) := by decide +kernel
theorem dX2_canOpen_74 : decode cX2_canOpen 74 = .ok (.iload 4, 2) := by decide +kernel
theorem dX2_canOpen_76 : decode cX2_canOpen 76 = .ok (.iload 6, 2) := by decide +kernel
theorem dX2_canOpen_78 : decode cX2_canOpen 78 = .ok (.iastore, 1) := by decide +kernel
theorem dX2_canOpen_79 : decode cX2_canOpen 79 = .ok (.aload_n 0, 1) := by decide +kernel
theorem dX2_canOpen_80 : decode cX2_canOpen 80 = .ok (.aload_n 1, 1) := by decide +kernel
theorem dX2_canOpen_81 : decode cX2_canOpen 81 = .ok (.iload_n 2, 1) := by decide +kernel
theorem dX2_canOpen_82 : decode cX2_canOpen 82 = .ok (.aload_n 3, 1) := by decide +kernel
theorem dX2_canOpen_83 : decode cX2_canOpen 83 = .ok (.iload 4, 2) := by decide +kernel
theorem dX2_canOpen_85 : decode cX2_canOpen 85 = .ok (.iconst 1, 1) := by decide +kernel
theorem dX2_canOpen_86 : decode cX2_canOpen 86 = .ok (.iadd, 1) := by decide +kernel
theorem dX2_canOpen_87 : decode cX2_canOpen 87 = .ok (.iload 5, 2) := by decide +kernel
theorem dX2_canOpen_89 : decode cX2_canOpen 89 = .ok (.invokestatic 56, 3) := by decide +kernel
theorem dX2_canOpen_92 : decode cX2_canOpen 92 = .ok (.istore 8, 2) := by decide +kernel
theorem dX2_canOpen_94 : decode cX2_canOpen 94 = .ok (.aload_n 0, 1) := by decide +kernel
theorem dX2_canOpen_95 : decode cX2_canOpen 95 = .ok (.iload 6, 2) := by decide +kernel
theorem dX2_canOpen_97 : decode cX2_canOpen 97 = .ok (.iload 7, 2) := by decide +kernel
theorem dX2_canOpen_99 : decode cX2_canOpen 99 = .ok (.invokevirtual 48, 3) := by decide +kernel
theorem dX2_canOpen_102 : decode cX2_canOpen 102 = .ok (.pop, 1) := by decide +kernel
theorem dX2_canOpen_103 : decode cX2_canOpen 103 = .ok (.iload 8, 2) := by decide +kernel
theorem dX2_canOpen_105 : decode cX2_canOpen 105 = .ok (.ifCond .eq 5, 3) := by decide +kernel
theorem dX2_canOpen_108 : decode cX2_canOpen 108 = .ok (.iconst 1, 1) := by decide +kernel
theorem dX2_canOpen_109 : decode cX2_canOpen 109 = .ok (.ireturn, 1) := by decide +kernel
theorem dX2_canOpen_110 : decode cX2_canOpen 110 = .ok (.iinc 6 1, 3) := by decide +kernel
theorem dX2_canOpen_113 : decode cX2_canOpen 113 = .ok (.goto (-63), 3) := by decide +kernel
theorem dX2_canOpen_116 : decode cX2_canOpen 116 = .ok (.iconst 0, 1) := by decide +kernel
theorem dX2_canOpen_117 : decode cX2_canOpen 117 = .ok (.ireturn, 1) := by decide +kernel
theorem dX2_leastAt_0 : decode cX2_leastAt 0 = .ok (.iload_n 1, 1) := by decide +kernel
theorem dX2_leastAt_1 : decode cX2_leastAt 1 = .ok (.iconst 1, 1) := by decide +kernel
theorem dX2_leastAt_2 : decode cX2_leastAt 2 = .ok (.if_icmp .lt 17, 3) := by decide +kernel
theorem dX2_leastAt_5 : decode cX2_leastAt 5 = .ok (.iload_n 1, 1) := by decide +kernel
theorem dX2_leastAt_6 : decode cX2_leastAt 6 = .ok (.aload_n 0, 1) := by decide +kernel
theorem dX2_leastAt_7 : decode cX2_leastAt 7 = .ok (.arraylength, 1) := by decide +kernel
theorem dX2_leastAt_8 : decode cX2_leastAt 8 = .ok (.if_icmp .gt 11, 3) := by decide +kernel
theorem dX2_leastAt_11 : decode cX2_leastAt 11 = .ok (.aload_n 0, 1) := by decide +kernel
theorem dX2_leastAt_12 : decode cX2_leastAt 12 = .ok (.iload_n 1, 1) := by decide +kernel
theorem dX2_leastAt_13 : decode cX2_leastAt 13 = .ok (.iconst 1, 1) := by decide +kernel
theorem dX2_leastAt_14 : decode cX2_leastAt 14 = .ok (.isub, 1) := by decide +kernel
theorem dX2_leastAt_15 : decode cX2_leastAt 15 = .ok (.iaload, 1) := by decide +kernel
theorem dX2_leastAt_16 : decode cX2_leastAt 16 = .ok (.goto 4, 3) := by decide +kernel
theorem dX2_leastAt_19 : decode cX2_leastAt 19 = .ok (.iconst 0, 1) := by decide +kernel
theorem dX2_leastAt_20 : decode cX2_leastAt 20 = .ok (.ireturn, 1) := by decide +kernel
theorem dX2_playOn_0 : decode cX2_playOn 0 = .ok (.aload_n 0, 1) := by decide +kernel
theorem dX2_playOn_1 : decode cX2_playOn 1 = .ok (.getfield 12, 3) := by decide +kernel
theorem dX2_playOn_4 : decode cX2_playOn 4 = .ok (.aload_n 1, 1) := by decide +kernel
theorem dX2_playOn_5 : decode cX2_playOn 5 = .ok (.invokevirtual 32, 3) := by decide +kernel
theorem dX2_playOn_8 : decode cX2_playOn 8 = .ok (.iload_n 3, 1) := by decide +kernel
theorem dX2_playOn_9 : decode cX2_playOn 9 = .ok (.iconst 3, 1) := by decide +kernel
theorem dX2_playOn_10 : decode cX2_playOn 10 = .ok (.invokestatic 68, 3) := by decide +kernel
theorem dX2_playOn_13 : decode cX2_playOn 13 = .ok (.istore 5, 2) := by decide +kernel
theorem dX2_playOn_15 : decode cX2_playOn 15 = .ok (.aload_n 0, 1) := by decide +kernel
theorem dX2_playOn_16 : decode cX2_playOn 16 = .ok (.getfield 12, 3) := by decide +kernel
theorem dX2_playOn_19 : decode cX2_playOn 19 = .ok (.aload_n 2, 1) := by decide +kernel
theorem dX2_playOn_20 : decode cX2_playOn 20 = .ok (.aload_n 0, 1) := by decide +kernel
theorem dX2_playOn_21 : decode cX2_playOn 21 = .ok (.getfield 22, 3) := by decide +kernel
theorem dX2_playOn_24 : decode cX2_playOn 24 = .ok (.iload 5, 2) := by decide +kernel
theorem dX2_playOn_26 : decode cX2_playOn 26 = .ok (.iload 4, 2) := by decide +kernel
theorem dX2_playOn_28 : decode cX2_playOn 28 = .ok (.invokestatic 74, 3) := by decide +kernel
theorem dX2_playOn_31 : decode cX2_playOn 31 = .ok (.istore 6, 2) := by decide +kernel
theorem dX2_playOn_33 : decode cX2_playOn 33 = .ok (.aload_n 0, 1) := by decide +kernel
theorem dX2_playOn_34 : decode cX2_playOn 34 = .ok (.iload 5, 2) := by decide +kernel
theorem dX2_playOn_36 : decode cX2_playOn 36 = .ok (.ifCond .lt 23, 3) := by decide +kernel
theorem dX2_playOn_39 : decode cX2_playOn 39 = .ok (.iload 5, 2) := by decide +kernel
theorem dX2_playOn_41 : decode cX2_playOn 41 = .ok (.aload_n 0, 1) := by decide +kernel
theorem dX2_playOn_42 : decode cX2_playOn 42 = .ok (.getfield 22, 3) := by decide +kernel
theorem dX2_playOn_45 : decode cX2_playOn 45 = .ok (.arraylength, 1) := by decide +kernel
theorem dX2_playOn_46 : decode cX2_playOn 46 = .ok (.if_icmp .ge 13, 3) := by decide +kernel
theorem dX2_playOn_49 : decode cX2_playOn 49 = .ok (.aload_n 0, 1) := by decide +kernel
theorem dX2_playOn_50 : decode cX2_playOn 50 = .ok (.getfield 22, 3) := by decide +kernel
theorem dX2_playOn_53 : decode cX2_playOn 53 = .ok (.iload 5, 2) := by decide +kernel
theorem dX2_playOn_55 : decode cX2_playOn 55 = .ok (.iaload, 1) := by decide +kernel
theorem dX2_playOn_56 : decode cX2_playOn 56 = .ok (.goto 4, 3) := by decide +kernel
theorem dX2_playOn_59 : decode cX2_playOn 59 = .ok (.iconst (-1), 1) := by decide +kernel
theorem dX2_playOn_60 : decode cX2_playOn 60 = .ok (.putfield 29, 3) := by decide +kernel
theorem dX2_playOn_63 : decode cX2_playOn 63 = .ok (.iload 6, 2) := by decide +kernel
theorem dX2_playOn_65 : decode cX2_playOn 65 = .ok (.ireturn, 1) := by decide +kernel
theorem dX2_firstMove_0 : decode cX2_firstMove 0 = .ok (.aload_n 0, 1) := by decide +kernel
theorem dX2_firstMove_1 : decode cX2_firstMove 1 = .ok (.getfield 29, 3) := by decide +kernel
theorem dX2_firstMove_4 : decode cX2_firstMove 4 = .ok (.ireturn, 1) := by decide +kernel
theorem dX2_bestWorth_0 : decode cX2_bestWorth 0 = .ok (.iload_n 3, 1) := by decide +kernel
theorem dX2_bestWorth_1 : decode cX2_bestWorth 1 = .ok (.ifCond .le 9, 3) := by decide +kernel
theorem dX2_bestWorth_4 : decode cX2_bestWorth 4 = .ok (.iload_n 3, 1) := by decide +kernel
theorem dX2_bestWorth_5 : decode cX2_bestWorth 5 = .ok (.aload_n 2, 1) := by decide +kernel
theorem dX2_bestWorth_6 : decode cX2_bestWorth 6 = .ok (.arraylength, 1) := by decide +kernel
theorem dX2_bestWorth_7 : decode cX2_bestWorth 7 = .ok (.if_icmp .lt 21, 3) := by decide +kernel
theorem dX2_bestWorth_10 : decode cX2_bestWorth 10 = .ok (.aload_n 0, 1) := by decide +kernel
theorem dX2_bestWorth_11 : decode cX2_bestWorth 11 = .ok (.aload_n 1, 1) := by decide +kernel
theorem dX2_bestWorth_12 : decode cX2_bestWorth 12 = .ok (.invokevirtual 40, 3) := by decide +kernel
theorem dX2_bestWorth_15 : decode cX2_bestWorth 15 = .ok (.ifCond .eq 11, 3) := by decide +kernel
theorem dX2_bestWorth_18 : decode cX2_bestWorth 18 = .ok (.aload_n 0, 1) := by decide +kernel
theorem dX2_bestWorth_19 : decode cX2_bestWorth 19 = .ok (.aload_n 1, 1) := by decide +kernel
theorem dX2_bestWorth_20 : decode cX2_bestWorth 20 = .ok (.invokevirtual 60, 3) := by decide +kernel
theorem dX2_bestWorth_23 : decode cX2_bestWorth 23 = .ok (.goto 4, 3) := by decide +kernel
theorem dX2_bestWorth_26 : decode cX2_bestWorth 26 = .ok (.iconst (-1), 1) := by decide +kernel
theorem dX2_bestWorth_27 : decode cX2_bestWorth 27 = .ok (.ireturn, 1) := by decide +kernel
theorem dX2_bestWorth_28 : decode cX2_bestWorth 28 = .ok (.iconst 0, 1) := by decide +kernel
theorem dX2_bestWorth_29 : decode cX2_bestWorth 29 = .ok (.istore 5, 2) := by decide +kernel
theorem dX2_bestWorth_31 : decode cX2_bestWorth 31 = .ok (.iconst (-1), 1) := by decide +kernel
theorem dX2_bestWorth_32 : decode cX2_bestWorth 32 = .ok (.istore 6, 2) := by decide +kernel
theorem dX2_bestWorth_34 : decode cX2_bestWorth 34 = .ok (.iconst 0, 1) := by decide +kernel
theorem dX2_bestWorth_35 : decode cX2_bestWorth 35 = .ok (.istore 7, 2) := by decide +kernel
theorem dX2_bestWorth_37 : decode cX2_bestWorth 37 = .ok (.iload 7, 2) := by decide +kernel
theorem dX2_bestWorth_39 : decode cX2_bestWorth 39 = .ok (.bipush 8, 2) := by decide +kernel
theorem dX2_bestWorth_41 : decode cX2_bestWorth 41 = .ok (.if_icmp .gt 82, 3) := by decide +kernel
theorem dX2_bestWorth_44 : decode cX2_bestWorth 44 = .ok (.iload 7, 2) := by decide +kernel
theorem dX2_bestWorth_46 : decode cX2_bestWorth 46 = .ok (.bipush 8, 2) := by decide +kernel
theorem dX2_bestWorth_48 : decode cX2_bestWorth 48 = .ok (.if_icmp .eq 14, 3) := by decide +kernel
theorem dX2_bestWorth_51 : decode cX2_bestWorth 51 = .ok (.aload_n 0, 1) := by decide +kernel
theorem dX2_bestWorth_52 : decode cX2_bestWorth 52 = .ok (.iload 7, 2) := by decide +kernel
theorem dX2_bestWorth_54 : decode cX2_bestWorth 54 = .ok (.iload 4, 2) := by decide +kernel
theorem dX2_bestWorth_56 : decode cX2_bestWorth 56 = .ok (.invokevirtual 48, 3) := by decide +kernel
theorem dX2_bestWorth_59 : decode cX2_bestWorth 59 = .ok (.ifCond .eq 58, 3) := by decide +kernel
theorem dX2_bestWorth_62 : decode cX2_bestWorth 62 = .ok (.aload_n 0, 1) := by decide +kernel
theorem dX2_bestWorth_63 : decode cX2_bestWorth 63 = .ok (.aload_n 1, 1) := by decide +kernel
theorem dX2_bestWorth_64 : decode cX2_bestWorth 64 = .ok (.aload_n 2, 1) := by decide +kernel
theorem dX2_bestWorth_65 : decode cX2_bestWorth 65 = .ok (.iload_n 3, 1) := by decide +kernel
theorem dX2_bestWorth_66 : decode cX2_bestWorth 66 = .ok (.iconst 1, 1) := by decide +kernel
theorem dX2_bestWorth_67 : decode cX2_bestWorth 67 = .ok (.isub, 1) := by decide +kernel
theorem dX2_bestWorth_68 : decode cX2_bestWorth 68 = .ok (.iconst 1, 1) := by decide +kernel
theorem dX2_bestWorth_69 : decode cX2_bestWorth 69 = .ok (.iload 4, 2) := by decide +kernel
theorem dX2_bestWorth_71 : decode cX2_bestWorth 71 = .ok (.isub, 1) := by decide +kernel
theorem dX2_bestWorth_72 : decode cX2_bestWorth 72 = .ok (.invokestatic 74, 3) := by decide +kernel
theorem dX2_bestWorth_75 : decode cX2_bestWorth 75 = .ok (.istore 8, 2) := by decide +kernel
theorem dX2_bestWorth_77 : decode cX2_bestWorth 77 = .ok (.iload 7, 2) := by decide +kernel
theorem dX2_bestWorth_79 : decode cX2_bestWorth 79 = .ok (.bipush 8, 2) := by decide +kernel
theorem dX2_bestWorth_81 : decode cX2_bestWorth 81 = .ok (.if_icmp .eq 10, 3) := by decide +kernel
theorem dX2_bestWorth_84 : decode cX2_bestWorth 84 = .ok (.aload_n 0, 1) := by decide +kernel
theorem dX2_bestWorth_85 : decode cX2_bestWorth 85 = .ok (.iload 7, 2) := by decide +kernel
theorem dX2_bestWorth_87 : decode cX2_bestWorth 87 = .ok (.invokevirtual 52, 3) := by decide +kernel
theorem dX2_bestWorth_90 : decode cX2_bestWorth 90 = .ok (.pop, 1) := by decide +kernel
theorem dX2_bestWorth_91 : decode cX2_bestWorth 91 = .ok (.iload 6, 2) := by decide +kernel
theorem dX2_bestWorth_93 : decode cX2_bestWorth 93 = .ok (.iconst (-1), 1) := by decide +kernel
theorem dX2_bestWorth_94 : decode cX2_bestWorth 94 = .ok (.if_icmp .eq 15, 3) := by decide +kernel
theorem dX2_bestWorth_97 : decode cX2_bestWorth 97 = .ok (.iload 8, 2) := by decide +kernel
theorem dX2_bestWorth_99 : decode cX2_bestWorth 99 = .ok (.iload 5, 2) := by decide +kernel
theorem dX2_bestWorth_101 : decode cX2_bestWorth 101 = .ok (.iload 4, 2) := by decide +kernel
theorem dX2_bestWorth_103 : decode cX2_bestWorth 103 = .ok (.invokestatic 78, 3) := by decide +kernel
theorem dX2_bestWorth_106 : decode cX2_bestWorth 106 = .ok (.ifCond .eq 11, 3) := by decide +kernel
theorem dX2_bestWorth_109 : decode cX2_bestWorth 109 = .ok (.iload 8, 2) := by decide +kernel
theorem dX2_bestWorth_111 : decode cX2_bestWorth 111 = .ok (.istore 5, 2) := by decide +kernel
theorem dX2_bestWorth_113 : decode cX2_bestWorth 113 = .ok (.iload 7, 2) := by decide +kernel
theorem dX2_bestWorth_115 : decode cX2_bestWorth 115 = .ok (.istore 6, 2) := by decide +kernel
theorem dX2_bestWorth_117 : decode cX2_bestWorth 117 = .ok (.iinc 7 1, 3) := by decide +kernel
theorem dX2_bestWorth_120 : decode cX2_bestWorth 120 = .ok (.goto (-83), 3) := by decide +kernel
theorem dX2_bestWorth_123 : decode cX2_bestWorth 123 = .ok (.aload_n 2, 1) := by decide +kernel
theorem dX2_bestWorth_124 : decode cX2_bestWorth 124 = .ok (.iload_n 3, 1) := by decide +kernel
theorem dX2_bestWorth_125 : decode cX2_bestWorth 125 = .ok (.iload 6, 2) := by decide +kernel
theorem dX2_bestWorth_127 : decode cX2_bestWorth 127 = .ok (.iastore, 1) := by decide +kernel
theorem dX2_bestWorth_128 : decode cX2_bestWorth 128 = .ok (.iload 5, 2) := by decide +kernel
theorem dX2_bestWorth_130 : decode cX2_bestWorth 130 = .ok (.ireturn, 1) := by decide +kernel
theorem dX2_isBetter_0 : decode cX2_isBetter 0 = .ok (.iload_n 2, 1) := by decide +kernel
theorem dX2_isBetter_1 : decode cX2_isBetter 1 = .ok (.ifCond .ne 16, 3) := by decide +kernel
theorem dX2_isBetter_4 : decode cX2_isBetter 4 = .ok (.iload_n 0, 1) := by decide +kernel
theorem dX2_isBetter_5 : decode cX2_isBetter 5 = .ok (.iload_n 1, 1) := by decide +kernel
theorem dX2_isBetter_6 : decode cX2_isBetter 6 = .ok (.if_icmp .le 7, 3) := by decide +kernel
theorem dX2_isBetter_9 : decode cX2_isBetter 9 = .ok (.iconst 1, 1) := by decide +kernel
theorem dX2_isBetter_10 : decode cX2_isBetter 10 = .ok (.goto 17, 3) := by decide +kernel
theorem dX2_isBetter_13 : decode cX2_isBetter 13 = .ok (.iconst 0, 1) := by decide +kernel
theorem dX2_isBetter_14 : decode cX2_isBetter 14 = .ok (.goto 13, 3) := by decide +kernel
theorem dX2_isBetter_17 : decode cX2_isBetter 17 = .ok (.iload_n 0, 1) := by decide +kernel
theorem dX2_isBetter_18 : decode cX2_isBetter 18 = .ok (.iload_n 1, 1) := by decide +kernel
theorem dX2_isBetter_19 : decode cX2_isBetter 19 = .ok (.if_icmp .ge 7, 3) := by decide +kernel
theorem dX2_isBetter_22 : decode cX2_isBetter 22 = .ok (.iconst 1, 1) := by decide +kernel
theorem dX2_isBetter_23 : decode cX2_isBetter 23 = .ok (.goto 4, 3) := by decide +kernel
theorem dX2_isBetter_26 : decode cX2_isBetter 26 = .ok (.iconst 0, 1) := by decide +kernel
theorem dX2_isBetter_27 : decode cX2_isBetter 27 = .ok (.ireturn, 1) := by decide +kernel
theorem dX3_init_0 : decode cX3_init 0 = .ok (.aload_n 0, 1) := by decide +kernel
theorem dX3_init_1 : decode cX3_init 1 = .ok (.invokespecial 1, 3) := by decide +kernel
theorem dX3_init_4 : decode cX3_init 4 = .ok (.aload_n 0, 1) := by decide +kernel
theorem dX3_init_5 : decode cX3_init 5 = .ok (.bipush 6, 2) := by decide +kernel
theorem dX3_init_7 : decode cX3_init 7 = .ok (.newarray .int, 2) := by decide +kernel
theorem dX3_init_9 : decode cX3_init 9 = .ok (.dup, 1) := by decide +kernel
theorem dX3_init_10 : decode cX3_init 10 = .ok (.iconst 0, 1) := by decide +kernel
theorem dX3_init_11 : decode cX3_init 11 = .ok (.iconst 0, 1) := by decide +kernel
theorem dX3_init_12 : decode cX3_init 12 = .ok (.iastore, 1) := by decide +kernel
theorem dX3_init_13 : decode cX3_init 13 = .ok (.dup, 1) := by decide +kernel
theorem dX3_init_14 : decode cX3_init 14 = .ok (.iconst 1, 1) := by decide +kernel
theorem dX3_init_15 : decode cX3_init 15 = .ok (.iconst 3, 1) := by decide +kernel
theorem dX3_init_16 : decode cX3_init 16 = .ok (.iastore, 1) := by decide +kernel
theorem dX3_init_17 : decode cX3_init 17 = .ok (.dup, 1) := by decide +kernel
theorem dX3_init_18 : decode cX3_init 18 = .ok (.iconst 2, 1) := by decide +kernel
theorem dX3_init_19 : decode cX3_init 19 = .ok (.iconst 0, 1) := by decide +kernel
theorem dX3_init_20 : decode cX3_init 20 = .ok (.iastore, 1) := by decide +kernel
theorem dX3_init_21 : decode cX3_init 21 = .ok (.dup, 1) := by decide +kernel
theorem dX3_init_22 : decode cX3_init 22 = .ok (.iconst 3, 1) := by decide +kernel
theorem dX3_init_23 : decode cX3_init 23 = .ok (.bipush 6, 2) := by decide +kernel
theorem dX3_init_25 : decode cX3_init 25 = .ok (.iastore, 1) := by decide +kernel
theorem dX3_init_26 : decode cX3_init 26 = .ok (.dup, 1) := by decide +kernel
theorem dX3_init_27 : decode cX3_init 27 = .ok (.iconst 4, 1) := by decide +kernel
theorem dX3_init_28 : decode cX3_init 28 = .ok (.iconst 4, 1) := by decide +kernel
theorem dX3_init_29 : decode cX3_init 29 = .ok (.iastore, 1) := by decide +kernel
theorem dX3_init_30 : decode cX3_init 30 = .ok (.dup, 1) := by decide +kernel
theorem dX3_init_31 : decode cX3_init 31 = .ok (.iconst 5, 1) := by decide +kernel
theorem dX3_init_32 : decode cX3_init 32 = .ok (.sipush 255, 3) := by decide +kernel
theorem dX3_init_35 : decode cX3_init 35 = .ok (.iastore, 1) := by decide +kernel
theorem dX3_init_36 : decode cX3_init 36 = .ok (.putfield 7, 3) := by decide +kernel
theorem dX3_init_39 : decode cX3_init 39 = .ok (.return_, 1) := by decide +kernel
theorem dX3_allows_0 : decode cX3_allows 0 = .ok (.iload_n 0, 1) := by decide +kernel
theorem dX3_allows_1 : decode cX3_allows 1 = .ok (.ifCond .lt 28, 3) := by decide +kernel
theorem dX3_allows_4 : decode cX3_allows 4 = .ok (.iload_n 0, 1) := by decide +kernel
theorem dX3_allows_5 : decode cX3_allows 5 = .ok (.getstatic 13, 3) := by decide +kernel
theorem dX3_allows_8 : decode cX3_allows 8 = .ok (.arraylength, 1) := by decide +kernel
theorem dX3_allows_9 : decode cX3_allows 9 = .ok (.if_icmp .ge 20, 3) := by decide +kernel
theorem dX3_allows_12 : decode cX3_allows 12 = .ok (.iload_n 1, 1) := by decide +kernel
theorem dX3_allows_13 : decode cX3_allows 13 = .ok (.ifCond .lt 16, 3) := by decide +kernel
theorem dX3_allows_16 : decode cX3_allows 16 = .ok (.iload_n 1, 1) := by decide +kernel
theorem dX3_allows_17 : decode cX3_allows 17 = .ok (.getstatic 13, 3) := by decide +kernel
theorem dX3_allows_20 : decode cX3_allows 20 = .ok (.iload_n 0, 1) := by decide +kernel
theorem dX3_allows_21 : decode cX3_allows 21 = .ok (.iaload, 1) := by decide +kernel
theorem dX3_allows_22 : decode cX3_allows 22 = .ok (.if_icmp .gt 7, 3) := by decide +kernel
theorem dX3_allows_25 : decode cX3_allows 25 = .ok (.iconst 1, 1) := by decide +kernel
theorem dX3_allows_26 : decode cX3_allows 26 = .ok (.goto 4, 3) := by decide +kernel
theorem dX3_allows_29 : decode cX3_allows 29 = .ok (.iconst 0, 1) := by decide +kernel
theorem dX3_allows_30 : decode cX3_allows 30 = .ok (.ireturn, 1) := by decide +kernel
theorem dX3_value_0 : decode cX3_value 0 = .ok (.iload_n 1, 1) := by decide +kernel
theorem dX3_value_1 : decode cX3_value 1 = .ok (.ifCond .lt 21, 3) := by decide +kernel
theorem dX3_value_4 : decode cX3_value 4 = .ok (.iload_n 1, 1) := by decide +kernel
theorem dX3_value_5 : decode cX3_value 5 = .ok (.aload_n 0, 1) := by decide +kernel
theorem dX3_value_6 : decode cX3_value 6 = .ok (.getfield 7, 3) := by decide +kernel
theorem dX3_value_9 : decode cX3_value 9 = .ok (.arraylength, 1) := by decide +kernel
theorem dX3_value_10 : decode cX3_value 10 = .ok (.if_icmp .ge 12, 3) := by decide +kernel
theorem dX3_value_13 : decode cX3_value 13 = .ok (.aload_n 0, 1) := by decide +kernel
theorem dX3_value_14 : decode cX3_value 14 = .ok (.getfield 7, 3) := by decide +kernel
theorem dX3_value_17 : decode cX3_value 17 = .ok (.iload_n 1, 1) := by decide +kernel
theorem dX3_value_18 : decode cX3_value 18 = .ok (.iaload, 1) := by decide +kernel
theorem dX3_value_19 : decode cX3_value 19 = .ok (.goto 4, 3) := by decide +kernel
theorem dX3_value_22 : decode cX3_value 22 = .ok (.iconst 0, 1) := by decide +kernel
theorem dX3_value_23 : decode cX3_value 23 = .ok (.ireturn, 1) := by decide +kernel
theorem dX3_become_0 : decode cX3_become 0 = .ok (.iload_n 1, 1) := by decide +kernel
theorem dX3_become_1 : decode cX3_become 1 = .ok (.iload_n 2, 1) := by decide +kernel
theorem dX3_become_2 : decode cX3_become 2 = .ok (.invokestatic 16, 3) := by decide +kernel
theorem dX3_become_5 : decode cX3_become 5 = .ok (.ifCond .eq 19, 3) := by decide +kernel
theorem dX3_become_8 : decode cX3_become 8 = .ok (.iload_n 1, 1) := by decide +kernel
theorem dX3_become_9 : decode cX3_become 9 = .ok (.aload_n 0, 1) := by decide +kernel
theorem dX3_become_10 : decode cX3_become 10 = .ok (.getfield 7, 3) := by decide +kernel
theorem dX3_become_13 : decode cX3_become 13 = .ok (.arraylength, 1) := by decide +kernel
theorem dX3_become_14 : decode cX3_become 14 = .ok (.if_icmp .ge 10, 3) := by decide +kernel
theorem dX3_become_17 : decode cX3_become 17 = .ok (.aload_n 0, 1) := by decide +kernel
theorem dX3_become_18 : decode cX3_become 18 = .ok (.getfield 7, 3) := by decide +kernel
theorem dX3_become_21 : decode cX3_become 21 = .ok (.iload_n 1, 1) := by decide +kernel
theorem dX3_become_22 : decode cX3_become 22 = .ok (.iload_n 2, 1) := by decide +kernel
theorem dX3_become_23 : decode cX3_become 23 = .ok (.iastore, 1) := by decide +kernel
theorem dX3_become_24 : decode cX3_become 24 = .ok (.return_, 1) := by decide +kernel
theorem dX3_brotherOf_0 : decode cX3_brotherOf 0 = .ok (.aload_n 0, 1) := by decide +kernel
theorem dX3_brotherOf_1 : decode cX3_brotherOf 1 = .ok (.iconst 0, 1) := by decide +kernel
theorem dX3_brotherOf_2 : decode cX3_brotherOf 2 = .ok (.invokevirtual 20, 3) := by decide +kernel
theorem dX3_brotherOf_5 : decode cX3_brotherOf 5 = .ok (.iload_n 1, 1) := by decide +kernel
theorem dX3_brotherOf_6 : decode cX3_brotherOf 6 = .ok (.iadd, 1) := by decide +kernel
theorem dX3_brotherOf_7 : decode cX3_brotherOf 7 = .ok (.iconst 1, 1) := by decide +kernel
theorem dX3_brotherOf_8 : decode cX3_brotherOf 8 = .ok (.iand, 1) := by decide +kernel
theorem dX3_brotherOf_9 : decode cX3_brotherOf 9 = .ok (.ireturn, 1) := by decide +kernel
theorem dX3_mostAbove_0 : decode cX3_mostAbove 0 = .ok (.aload_n 0, 1) := by decide +kernel
theorem dX3_mostAbove_1 : decode cX3_mostAbove 1 = .ok (.getfield 7, 3) := by decide +kernel
theorem dX3_mostAbove_4 : decode cX3_mostAbove 4 = .ok (.iconst 1, 1) := by decide +kernel
theorem dX3_mostAbove_5 : decode cX3_mostAbove 5 = .ok (.iaload, 1) := by decide +kernel
theorem dX3_mostAbove_6 : decode cX3_mostAbove 6 = .ok (.aload_n 0, 1) := by decide +kernel
theorem dX3_mostAbove_7 : decode cX3_mostAbove 7 = .ok (.getfield 7, 3) := by decide +kernel
theorem dX3_mostAbove_10 : decode cX3_mostAbove 10 = .ok (.iconst 2, 1) := by decide +kernel
theorem dX3_mostAbove_11 : decode cX3_mostAbove 11 = .ok (.iaload, 1) := by decide +kernel
theorem dX3_mostAbove_12 : decode cX3_mostAbove 12 = .ok (.isub, 1) := by decide +kernel
theorem dX3_mostAbove_13 : decode cX3_mostAbove 13 = .ok (.ireturn, 1) := by decide +kernel
theorem dX3_wantsSun_0 : decode cX3_wantsSun 0 = .ok (.aload_n 0, 1) := by decide +kernel
theorem dX3_wantsSun_1 : decode cX3_wantsSun 1 = .ok (.iconst 5, 1) := by decide +kernel
theorem dX3_wantsSun_2 : decode cX3_wantsSun 2 = .ok (.invokevirtual 20, 3) := by decide +kernel
theorem dX3_wantsSun_5 : decode cX3_wantsSun 5 = .ok (.iload_n 1, 1) := by decide +kernel
theorem dX3_wantsSun_6 : decode cX3_wantsSun 6 = .ok (.ishr, 1) := by decide +kernel
theorem dX3_wantsSun_7 : decode cX3_wantsSun 7 = .ok (.iconst 1, 1) := by decide +kernel
theorem dX3_wantsSun_8 : decode cX3_wantsSun 8 = .ok (.iand, 1) := by decide +kernel
theorem dX3_wantsSun_9 : decode cX3_wantsSun 9 = .ok (.iconst 1, 1) := by decide +kernel
theorem dX3_wantsSun_10 : decode cX3_wantsSun 10 = .ok (.if_icmp .ne 7, 3) := by decide +kernel
theorem dX3_wantsSun_13 : decode cX3_wantsSun 13 = .ok (.iconst 1, 1) := by decide +kernel
theorem dX3_wantsSun_14 : decode cX3_wantsSun 14 = .ok (.goto 4, 3) := by decide +kernel
theorem dX3_wantsSun_17 : decode cX3_wantsSun 17 = .ok (.iconst 0, 1) := by decide +kernel
theorem dX3_wantsSun_18 : decode cX3_wantsSun 18 = .ok (.ireturn, 1) := by decide +kernel
theorem dX4_init_0 : decode cX4_init 0 = .ok (.aload_n 0, 1) := by decide +kernel
theorem dX4_init_1 : decode cX4_init 1 = .ok (.invokespecial 3, 3) := by decide +kernel
theorem dX4_init_4 : decode cX4_init 4 = .ok (.aload_n 0, 1) := by decide +kernel
theorem dX4_init_5 : decode cX4_init 5 = .ok (.bipush 12, 2) := by decide +kernel
theorem dX4_init_7 : decode cX4_init 7 = .ok (.newarray .int, 2) := by decide +kernel
theorem dX4_init_9 : decode cX4_init 9 = .ok (.putfield 9, 3) := by decide +kernel
theorem dX4_init_12 : decode cX4_init 12 = .ok (.aload_n 0, 1) := by decide +kernel
theorem dX4_init_13 : decode cX4_init 13 = .ok (.bipush 12, 2) := by decide +kernel
theorem dX4_init_15 : decode cX4_init 15 = .ok (.newarray .int, 2) := by decide +kernel
theorem dX4_init_17 : decode cX4_init 17 = .ok (.putfield 15, 3) := by decide +kernel
theorem dX4_init_20 : decode cX4_init 20 = .ok (.aload_n 0, 1) := by decide +kernel
theorem dX4_init_21 : decode cX4_init 21 = .ok (.bipush 36, 2) := by decide +kernel
theorem dX4_init_23 : decode cX4_init 23 = .ok (.newarray .int, 2) := by decide +kernel
theorem dX4_init_25 : decode cX4_init 25 = .ok (.putfield 18, 3) := by decide +kernel
theorem dX4_init_28 : decode cX4_init 28 = .ok (.aload_n 0, 1) := by decide +kernel
theorem dX4_init_29 : decode cX4_init 29 = .ok (.bipush 36, 2) := by decide +kernel
theorem dX4_init_31 : decode cX4_init 31 = .ok (.newarray .int, 2) := by decide +kernel
theorem dX4_init_33 : decode cX4_init 33 = .ok (.putfield 21, 3) := by decide +kernel
theorem dX4_init_36 : decode cX4_init 36 = .ok (.aload_n 0, 1) := by decide +kernel
theorem dX4_init_37 : decode cX4_init 37 = .ok (.iconst 0, 1) := by decide +kernel
theorem dX4_init_38 : decode cX4_init 38 = .ok (.putfield 24, 3) := by decide +kernel
theorem dX4_init_41 : decode cX4_init 41 = .ok (.return_, 1) := by decide +kernel
theorem dX4_turnCount_0 : decode cX4_turnCount 0 = .ok (.aload_n 0, 1) := by decide +kernel
theorem dX4_turnCount_1 : decode cX4_turnCount 1 = .ok (.getfield 24, 3) := by decide +kernel
theorem dX4_turnCount_4 : decode cX4_turnCount 4 = .ok (.ireturn, 1) := by decide +kernel
theorem dX4_parse_0 : decode cX4_parse 0 = .ok (.aload_n 0, 1) := by decide +kernel
theorem dX4_parse_1 : decode cX4_parse 1 = .ok (.iconst 0, 1) := by decide +kernel
theorem dX4_parse_2 : decode cX4_parse 2 = .ok (.putfield 24, 3) := by decide +kernel
theorem dX4_parse_5 : decode cX4_parse 5 = .ok (.iconst 1, 1) := by decide +kernel
theorem dX4_parse_6 : decode cX4_parse 6 = .ok (.istore_n 2, 1) := by decide +kernel
theorem dX4_parse_7 : decode cX4_parse 7 = .ok (.iconst 0, 1) := by decide +kernel
theorem dX4_parse_8 : decode cX4_parse 8 = .ok (.istore_n 3, 1) := by decide +kernel
theorem dX4_parse_9 : decode cX4_parse 9 = .ok (.iload_n 3, 1) := by decide +kernel
theorem dX4_parse_10 : decode cX4_parse 10 = .ok (.aload_n 1, 1) := by decide +kernel
theorem dX4_parse_11 : decode cX4_parse 11 = .ok (.invokevirtual 28, 3) := by decide +kernel
theorem dX4_parse_14 : decode cX4_parse 14 = .ok (.if_icmp .ge 31, 3) := by decide +kernel
theorem dX4_parse_17 : decode cX4_parse 17 = .ok (.aload_n 0, 1) := by decide +kernel
theorem dX4_parse_18 : decode cX4_parse 18 = .ok (.iload_n 2, 1) := by decide +kernel
theorem dX4_parse_19 : decode cX4_parse 19 = .ok (.aload_n 1, 1) := by decide +kernel
theorem dX4_parse_20 : decode cX4_parse 20 = .ok (.iload_n 3, 1) := by decide +kernel
theorem dX4_parse_21 : decode cX4_parse 21 = .ok (.invokevirtual 34, 3) := by decide +kernel
theorem dX4_parse_24 : decode cX4_parse 24 = .ok (.invokevirtual 38, 3) := by decide +kernel
theorem dX4_parse_27 : decode cX4_parse 27 = .ok (.istore_n 2, 1) := by decide +kernel
theorem dX4_parse_28 : decode cX4_parse 28 = .ok (.iload_n 2, 1) := by decide +kernel
theorem dX4_parse_29 : decode cX4_parse 29 = .ok (.ifCond .ne 10, 3) := by decide +kernel
theorem dX4_parse_32 : decode cX4_parse 32 = .ok (.aload_n 0, 1) := by decide +kernel
theorem dX4_parse_33 : decode cX4_parse 33 = .ok (.iconst 0, 1) := by decide +kernel
theorem dX4_parse_34 : decode cX4_parse 34 = .ok (.putfield 24, 3) := by decide +kernel
theorem dX4_parse_37 : decode cX4_parse 37 = .ok (.iload_n 3, 1) := by decide +kernel
theorem dX4_parse_38 : decode cX4_parse 38 = .ok (.ireturn, 1) := by decide +kernel
theorem dX4_parse_39 : decode cX4_parse 39 = .ok (.iinc 3 1, 3) := by decide +kernel
theorem dX4_parse_42 : decode cX4_parse 42 = .ok (.goto (-33), 3) := by decide +kernel
theorem dX4_parse_45 : decode cX4_parse 45 = .ok (.aload_n 1, 1) := by decide +kernel
theorem dX4_parse_46 : decode cX4_parse 46 = .ok (.invokevirtual 28, 3) := by decide +kernel
theorem dX4_parse_49 : decode cX4_parse 49 = .ok (.ifCond .le 18, 3) := by decide +kernel
theorem dX4_parse_52 : decode cX4_parse 52 = .ok (.iload_n 2, 1) := by decide +kernel
theorem dX4_parse_53 : decode cX4_parse 53 = .ok (.iconst 5, 1) := by decide +kernel
theorem dX4_parse_54 : decode cX4_parse 54 = .ok (.if_icmp .eq 13, 3) := by decide +kernel
theorem dX4_parse_57 : decode cX4_parse 57 = .ok (.aload_n 0, 1) := by decide +kernel
theorem dX4_parse_58 : decode cX4_parse 58 = .ok (.iconst 0, 1) := by decide +kernel
theorem dX4_parse_59 : decode cX4_parse 59 = .ok (.putfield 24, 3) := by decide +kernel
theorem dX4_parse_62 : decode cX4_parse 62 = .ok (.aload_n 1, 1) := by decide +kernel
theorem dX4_parse_63 : decode cX4_parse 63 = .ok (.invokevirtual 28, 3) := by decide +kernel
theorem dX4_parse_66 : decode cX4_parse 66 = .ok (.ireturn, 1) := by decide +kernel
theorem dX4_parse_67 : decode cX4_parse 67 = .ok (.iconst (-1), 1) := by decide +kernel
theorem dX4_parse_68 : decode cX4_parse 68 = .ok (.ireturn, 1) := by decide +kernel
theorem dX4_stateBehind_0 : decode cX4_stateBehind 0 = .ok (.iload_n 1, 1) := by decide +kernel
theorem dX4_stateBehind_1 : decode cX4_stateBehind 1 = .ok (.tableswitch 124 1 5 #[35, 66, 78, 90, 102], 35) := by decide +kernel
theorem dX4_stateBehind_36 : decode cX4_stateBehind 36 = .ok (.aload_n 0, 1) := by decide +kernel
theorem dX4_stateBehind_37 : decode cX4_stateBehind 37 = .ok (.invokevirtual 42, 3) := by decide +kernel
theorem dX4_stateBehind_40 : decode cX4_stateBehind 40 = .ok (.ifCond .ne 5, 3) := by decide +kernel
theorem dX4_stateBehind_43 : decode cX4_stateBehind 43 = .ok (.iconst 0, 1) := by decide +kernel
theorem dX4_stateBehind_44 : decode cX4_stateBehind 44 = .ok (.ireturn, 1) := by decide +kernel
theorem dX4_stateBehind_45 : decode cX4_stateBehind 45 = .ok (.iload_n 2, 1) := by decide +kernel
theorem dX4_stateBehind_46 : decode cX4_stateBehind 46 = .ok (.bipush 45, 2) := by decide +kernel
theorem dX4_stateBehind_48 : decode cX4_stateBehind 48 = .ok (.if_icmp .ne 7, 3) := by decide +kernel
theorem dX4_stateBehind_51 : decode cX4_stateBehind 51 = .ok (.iconst 2, 1) := by decide +kernel
theorem dX4_stateBehind_52 : decode cX4_stateBehind 52 = .ok (.goto 14, 3) := by decide +kernel
theorem dX4_stateBehind_55 : decode cX4_stateBehind 55 = .ok (.aload_n 0, 1) := by decide +kernel
theorem dX4_stateBehind_56 : decode cX4_stateBehind 56 = .ok (.aload_n 0, 1) := by decide +kernel
theorem dX4_stateBehind_57 : decode cX4_stateBehind 57 = .ok (.getfield 24, 3) := by decide +kernel
theorem dX4_stateBehind_60 : decode cX4_stateBehind 60 = .ok (.iconst 1, 1) := by decide +kernel
theorem dX4_stateBehind_61 : decode cX4_stateBehind 61 = .ok (.isub, 1) := by decide +kernel
theorem dX4_stateBehind_62 : decode cX4_stateBehind 62 = .ok (.iload_n 2, 1) := by decide +kernel
theorem dX4_stateBehind_63 : decode cX4_stateBehind 63 = .ok (.invokevirtual 46, 3) := by decide +kernel
theorem dX4_stateBehind_66 : decode cX4_stateBehind 66 = .ok (.ireturn, 1) := by decide +kernel
theorem dX4_stateBehind_67 : decode cX4_stateBehind 67 = .ok (.aload_n 0, 1) := by decide +kernel
theorem dX4_stateBehind_68 : decode cX4_stateBehind 68 = .ok (.aload_n 0, 1) := by decide +kernel
theorem dX4_stateBehind_69 : decode cX4_stateBehind 69 = .ok (.getfield 24, 3) := by decide +kernel
theorem dX4_stateBehind_72 : decode cX4_stateBehind 72 = .ok (.iconst 1, 1) := by decide +kernel
theorem dX4_stateBehind_73 : decode cX4_stateBehind 73 = .ok (.isub, 1) := by decide +kernel
theorem dX4_stateBehind_74 : decode cX4_stateBehind 74 = .ok (.iload_n 2, 1) := by decide +kernel
theorem dX4_stateBehind_75 : decode cX4_stateBehind 75 = .ok (.invokevirtual 49, 3) := by decide +kernel
theorem dX4_stateBehind_78 : decode cX4_stateBehind 78 = .ok (.ireturn, 1) := by decide +kernel
theorem dX4_stateBehind_79 : decode cX4_stateBehind 79 = .ok (.aload_n 0, 1) := by decide +kernel
theorem dX4_stateBehind_80 : decode cX4_stateBehind 80 = .ok (.aload_n 0, 1) := by decide +kernel
theorem dX4_stateBehind_81 : decode cX4_stateBehind 81 = .ok (.getfield 24, 3) := by decide +kernel
theorem dX4_stateBehind_84 : decode cX4_stateBehind 84 = .ok (.iconst 1, 1) := by decide +kernel
theorem dX4_stateBehind_85 : decode cX4_stateBehind 85 = .ok (.isub, 1) := by decide +kernel
theorem dX4_stateBehind_86 : decode cX4_stateBehind 86 = .ok (.iload_n 2, 1) := by decide +kernel
theorem dX4_stateBehind_87 : decode cX4_stateBehind 87 = .ok (.invokevirtual 46, 3) := by decide +kernel
theorem dX4_stateBehind_90 : decode cX4_stateBehind 90 = .ok (.ireturn, 1) := by decide +kernel
theorem dX4_stateBehind_91 : decode cX4_stateBehind 91 = .ok (.aload_n 0, 1) := by decide +kernel
theorem dX4_stateBehind_92 : decode cX4_stateBehind 92 = .ok (.aload_n 0, 1) := by decide +kernel
theorem dX4_stateBehind_93 : decode cX4_stateBehind 93 = .ok (.getfield 24, 3) := by decide +kernel
theorem dX4_stateBehind_96 : decode cX4_stateBehind 96 = .ok (.iconst 1, 1) := by decide +kernel
theorem dX4_stateBehind_97 : decode cX4_stateBehind 97 = .ok (.isub, 1) := by decide +kernel
theorem dX4_stateBehind_98 : decode cX4_stateBehind 98 = .ok (.iload_n 2, 1) := by decide +kernel
theorem dX4_stateBehind_99 : decode cX4_stateBehind 99 = .ok (.invokevirtual 52, 3) := by decide +kernel
theorem dX4_stateBehind_102 : decode cX4_stateBehind 102 = .ok (.ireturn, 1) := by decide +kernel
theorem dX4_stateBehind_103 : decode cX4_stateBehind 103 = .ok (.iload_n 2, 1) := by decide +kernel
theorem dX4_stateBehind_104 : decode cX4_stateBehind 104 = .ok (.bipush 59, 2) := by decide +kernel
theorem dX4_stateBehind_106 : decode cX4_stateBehind 106 = .ok (.if_icmp .ne 7, 3) := by decide +kernel
theorem dX4_stateBehind_109 : decode cX4_stateBehind 109 = .ok (.iconst 1, 1) := by decide +kernel
theorem dX4_stateBehind_110 : decode cX4_stateBehind 110 = .ok (.goto 14, 3) := by decide +kernel
theorem dX4_stateBehind_113 : decode cX4_stateBehind 113 = .ok (.aload_n 0, 1) := by decide +kernel
theorem dX4_stateBehind_114 : decode cX4_stateBehind 114 = .ok (.aload_n 0, 1) := by decide +kernel
theorem dX4_stateBehind_115 : decode cX4_stateBehind 115 = .ok (.getfield 24, 3) := by decide +kernel
theorem dX4_stateBehind_118 : decode cX4_stateBehind 118 = .ok (.iconst 1, 1) := by decide +kernel
theorem dX4_stateBehind_119 : decode cX4_stateBehind 119 = .ok (.isub, 1) := by decide +kernel
theorem dX4_stateBehind_120 : decode cX4_stateBehind 120 = .ok (.iload_n 2, 1) := by decide +kernel
theorem dX4_stateBehind_121 : decode cX4_stateBehind 121 = .ok (.invokevirtual 46, 3) := by decide +kernel
theorem dX4_stateBehind_124 : decode cX4_stateBehind 124 = .ok (.ireturn, 1) := by decide +kernel
theorem dX4_stateBehind_125 : decode cX4_stateBehind 125 = .ok (.iconst 0, 1) := by decide +kernel
theorem dX4_stateBehind_126 : decode cX4_stateBehind 126 = .ok (.ireturn, 1) := by decide +kernel
theorem dX4_beginTurn_0 : decode cX4_beginTurn 0 = .ok (.aload_n 0, 1) := by decide +kernel
theorem dX4_beginTurn_1 : decode cX4_beginTurn 1 = .ok (.getfield 24, 3) := by decide +kernel
theorem dX4_beginTurn_4 : decode cX4_beginTurn 4 = .ok (.ifCond .lt 12, 3) := by decide +kernel
theorem dX4_beginTurn_7 : decode cX4_beginTurn 7 = .ok (.aload_n 0, 1) := by decide +kernel
theorem dX4_beginTurn_8 : decode cX4_beginTurn 8 = .ok (.getfield 24, 3) := by decide +kernel
theorem dX4_beginTurn_11 : decode cX4_beginTurn 11 = .ok (.bipush 12, 2) := by decide +kernel
theorem dX4_beginTurn_13 : decode cX4_beginTurn 13 = .ok (.if_icmp .lt 5, 3) := by decide +kernel
theorem dX4_beginTurn_16 : decode cX4_beginTurn 16 = .ok (.iconst 0, 1) := by decide +kernel
theorem dX4_beginTurn_17 : decode cX4_beginTurn 17 = .ok (.ireturn, 1) := by decide +kernel
theorem dX4_beginTurn_18 : decode cX4_beginTurn 18 = .ok (.aload_n 0, 1) := by decide +kernel
theorem dX4_beginTurn_19 : decode cX4_beginTurn 19 = .ok (.getfield 9, 3) := by decide +kernel
theorem dX4_beginTurn_22 : decode cX4_beginTurn 22 = .ok (.aload_n 0, 1) := by decide +kernel
theorem dX4_beginTurn_23 : decode cX4_beginTurn 23 = .ok (.getfield 24, 3) := by decide +kernel
theorem dX4_beginTurn_26 : decode cX4_beginTurn 26 = .ok (.iconst (-1), 1) := by decide +kernel
theorem dX4_beginTurn_27 : decode cX4_beginTurn 27 = .ok (.iastore, 1) := by decide +kernel
theorem dX4_beginTurn_28 : decode cX4_beginTurn 28 = .ok (.aload_n 0, 1) := by decide +kernel
theorem dX4_beginTurn_29 : decode cX4_beginTurn 29 = .ok (.getfield 15, 3) := by decide +kernel
theorem dX4_beginTurn_32 : decode cX4_beginTurn 32 = .ok (.aload_n 0, 1) := by decide +kernel
theorem dX4_beginTurn_33 : decode cX4_beginTurn 33 = .ok (.getfield 24, 3) := by decide +kernel
theorem dX4_beginTurn_36 : decode cX4_beginTurn 36 = .ok (.iconst 0, 1) := by decide +kernel
theorem dX4_beginTurn_37 : decode cX4_beginTurn 37 = .ok (.iastore, 1) := by decide +kernel
theorem dX4_beginTurn_38 : decode cX4_beginTurn 38 = .ok (.aload_n 0, 1) := by decide +kernel
theorem dX4_beginTurn_39 : decode cX4_beginTurn 39 = .ok (.dup, 1) := by decide +kernel
theorem dX4_beginTurn_40 : decode cX4_beginTurn 40 = .ok (.getfield 24, 3) := by decide +kernel
theorem dX4_beginTurn_43 : decode cX4_beginTurn 43 = .ok (.iconst 1, 1) := by decide +kernel
theorem dX4_beginTurn_44 : decode cX4_beginTurn 44 = .ok (.iadd, 1) := by decide +kernel
theorem dX4_beginTurn_45 : decode cX4_beginTurn 45 = .ok (.putfield 24, 3) := by decide +kernel
theorem dX4_beginTurn_48 : decode cX4_beginTurn 48 = .ok (.iconst 1, 1) := by decide +kernel
theorem dX4_beginTurn_49 : decode cX4_beginTurn 49 = .ok (.ireturn, 1) := by decide +kernel
theorem dX4_tellTake_0 : decode cX4_tellTake 0 = .ok (.iload_n 2, 1) := by decide +kernel
theorem dX4_tellTake_1 : decode cX4_tellTake 1 = .ok (.invokestatic 55, 3) := by decide +kernel
theorem dX4_tellTake_4 : decode cX4_tellTake 4 = .ok (.istore_n 3, 1) := by decide +kernel
theorem dX4_tellTake_5 : decode cX4_tellTake 5 = .ok (.aload_n 0, 1) := by decide +kernel
theorem dX4_tellTake_6 : decode cX4_tellTake 6 = .ok (.iload_n 1, 1) := by decide +kernel
theorem dX4_tellTake_7 : decode cX4_tellTake 7 = .ok (.invokevirtual 60, 3) := by decide +kernel
theorem dX4_tellTake_10 : decode cX4_tellTake 10 = .ok (.ifCond .eq 8, 3) := by decide +kernel
theorem dX4_tellTake_13 : decode cX4_tellTake 13 = .ok (.iload_n 3, 1) := by decide +kernel
theorem dX4_tellTake_14 : decode cX4_tellTake 14 = .ok (.iconst (-1), 1) := by decide +kernel
theorem dX4_tellTake_15 : decode cX4_tellTake 15 = .ok (.if_icmp .ne 5, 3) := by decide +kernel
theorem dX4_tellTake_18 : decode cX4_tellTake 18 = .ok (.iconst 0, 1) := by decide +kernel
theorem dX4_tellTake_19 : decode cX4_tellTake 19 = .ok (.ireturn, 1) := by decide +kernel
theorem dX4_tellTake_20 : decode cX4_tellTake 20 = .ok (.aload_n 0, 1) := by decide +kernel
theorem dX4_tellTake_21 : decode cX4_tellTake 21 = .ok (.getfield 9, 3) := by decide +kernel
theorem dX4_tellTake_24 : decode cX4_tellTake 24 = .ok (.iload_n 1, 1) := by decide +kernel
theorem dX4_tellTake_25 : decode cX4_tellTake 25 = .ok (.iload_n 3, 1) := by decide +kernel
theorem dX4_tellTake_26 : decode cX4_tellTake 26 = .ok (.iastore, 1) := by decide +kernel
theorem dX4_tellTake_27 : decode cX4_tellTake 27 = .ok (.iconst 3, 1) := by decide +kernel
theorem dX4_tellTake_28 : decode cX4_tellTake 28 = .ok (.ireturn, 1) := by decide +kernel
theorem dX4_tellLetter_0 : decode cX4_tellLetter 0 = .ok (.iload_n 2, 1) := by decide +kernel
theorem dX4_tellLetter_1 : decode cX4_tellLetter 1 = .ok (.invokestatic 64, 3) := by decide +kernel
theorem dX4_tellLetter_4 : decode cX4_tellLetter 4 = .ok (.istore_n 3, 1) := by decide +kernel
theorem dX4_tellLetter_5 : decode cX4_tellLetter 5 = .ok (.aload_n 0, 1) := by decide +kernel
theorem dX4_tellLetter_6 : decode cX4_tellLetter 6 = .ok (.iload_n 1, 1) := by decide +kernel
theorem dX4_tellLetter_7 : decode cX4_tellLetter 7 = .ok (.invokevirtual 67, 3) := by decide +kernel
theorem dX4_tellLetter_10 : decode cX4_tellLetter 10 = .ok (.istore 4, 2) := by decide +kernel
theorem dX4_tellLetter_12 : decode cX4_tellLetter 12 = .ok (.iload_n 3, 1) := by decide +kernel
theorem dX4_tellLetter_13 : decode cX4_tellLetter 13 = .ok (.iconst (-1), 1) := by decide +kernel
theorem dX4_tellLetter_14 : decode cX4_tellLetter 14 = .ok (.if_icmp .eq 9, 3) := by decide +kernel
theorem dX4_tellLetter_17 : decode cX4_tellLetter 17 = .ok (.iload 4, 2) := by decide +kernel
theorem dX4_tellLetter_19 : decode cX4_tellLetter 19 = .ok (.iconst (-1), 1) := by decide +kernel
theorem dX4_tellLetter_20 : decode cX4_tellLetter 20 = .ok (.if_icmp .ne 5, 3) := by decide +kernel
theorem dX4_tellLetter_23 : decode cX4_tellLetter 23 = .ok (.iconst 0, 1) := by decide +kernel
theorem dX4_tellLetter_24 : decode cX4_tellLetter 24 = .ok (.ireturn, 1) := by decide +kernel
theorem dX4_tellLetter_25 : decode cX4_tellLetter 25 = .ok (.aload_n 0, 1) := by decide +kernel
theorem dX4_tellLetter_26 : decode cX4_tellLetter 26 = .ok (.getfield 18, 3) := by decide +kernel
theorem dX4_tellLetter_29 : decode cX4_tellLetter 29 = .ok (.iload 4, 2) := by decide +kernel
theorem dX4_tellLetter_31 : decode cX4_tellLetter 31 = .ok (.iload_n 3, 1) := by decide +kernel
theorem dX4_tellLetter_32 : decode cX4_tellLetter 32 = .ok (.iastore, 1) := by decide +kernel
theorem dX4_tellLetter_33 : decode cX4_tellLetter 33 = .ok (.iconst 4, 1) := by decide +kernel
theorem dX4_tellLetter_34 : decode cX4_tellLetter 34 = .ok (.ireturn, 1) := by decide +kernel
theorem dX4_tellPlace_0 : decode cX4_tellPlace 0 = .ok (.iload_n 2, 1) := by decide +kernel
theorem dX4_tellPlace_1 : decode cX4_tellPlace 1 = .ok (.invokestatic 55, 3) := by decide +kernel
theorem dX4_tellPlace_4 : decode cX4_tellPlace 4 = .ok (.istore_n 3, 1) := by decide +kernel
theorem dX4_tellPlace_5 : decode cX4_tellPlace 5 = .ok (.aload_n 0, 1) := by decide +kernel
theorem dX4_tellPlace_6 : decode cX4_tellPlace 6 = .ok (.iload_n 1, 1) := by decide +kernel
theorem dX4_tellPlace_7 : decode cX4_tellPlace 7 = .ok (.invokevirtual 67, 3) := by decide +kernel
theorem dX4_tellPlace_10 : decode cX4_tellPlace 10 = .ok (.istore 4, 2) := by decide +kernel
theorem dX4_tellPlace_12 : decode cX4_tellPlace 12 = .ok (.iload_n 3, 1) := by decide +kernel
theorem dX4_tellPlace_13 : decode cX4_tellPlace 13 = .ok (.iconst (-1), 1) := by decide +kernel
theorem dX4_tellPlace_14 : decode cX4_tellPlace 14 = .ok (.if_icmp .eq 9, 3) := by decide +kernel
theorem dX4_tellPlace_17 : decode cX4_tellPlace 17 = .ok (.iload 4, 2) := by decide +kernel
theorem dX4_tellPlace_19 : decode cX4_tellPlace 19 = .ok (.iconst (-1), 1) := by decide +kernel
theorem dX4_tellPlace_20 : decode cX4_tellPlace 20 = .ok (.if_icmp .ne 5, 3) := by decide +kernel
theorem dX4_tellPlace_23 : decode cX4_tellPlace 23 = .ok (.iconst 0, 1) := by decide +kernel
theorem dX4_tellPlace_24 : decode cX4_tellPlace 24 = .ok (.ireturn, 1) := by decide +kernel
theorem dX4_tellPlace_25 : decode cX4_tellPlace 25 = .ok (.aload_n 0, 1) := by decide +kernel
theorem dX4_tellPlace_26 : decode cX4_tellPlace 26 = .ok (.getfield 21, 3) := by decide +kernel
theorem dX4_tellPlace_29 : decode cX4_tellPlace 29 = .ok (.iload 4, 2) := by decide +kernel
theorem dX4_tellPlace_31 : decode cX4_tellPlace 31 = .ok (.iload_n 3, 1) := by decide +kernel
theorem dX4_tellPlace_32 : decode cX4_tellPlace 32 = .ok (.iastore, 1) := by decide +kernel
theorem dX4_tellPlace_33 : decode cX4_tellPlace 33 = .ok (.aload_n 0, 1) := by decide +kernel
theorem dX4_tellPlace_34 : decode cX4_tellPlace 34 = .ok (.getfield 15, 3) := by decide +kernel
theorem dX4_tellPlace_37 : decode cX4_tellPlace 37 = .ok (.iload_n 1, 1) := by decide +kernel
theorem dX4_tellPlace_38 : decode cX4_tellPlace 38 = .ok (.dup2, 1) := by decide +kernel
theorem dX4_tellPlace_39 : decode cX4_tellPlace 39 = .ok (.iaload, 1) := by decide +kernel
theorem dX4_tellPlace_40 : decode cX4_tellPlace 40 = .ok (.iconst 1, 1) := by decide +kernel
theorem dX4_tellPlace_41 : decode cX4_tellPlace 41 = .ok (.iadd, 1) := by decide +kernel
theorem dX4_tellPlace_42 : decode cX4_tellPlace 42 = .ok (.iastore, 1) := by decide +kernel
theorem dX4_tellPlace_43 : decode cX4_tellPlace 43 = .ok (.iconst 5, 1) := by decide +kernel
theorem dX4_tellPlace_44 : decode cX4_tellPlace 44 = .ok (.ireturn, 1) := by decide +kernel
theorem dX4_isTurn_0 : decode cX4_isTurn 0 = .ok (.iload_n 1, 1) := by decide +kernel
theorem dX4_isTurn_1 : decode cX4_isTurn 1 = .ok (.ifCond .lt 21, 3) := by decide +kernel
theorem dX4_isTurn_4 : decode cX4_isTurn 4 = .ok (.iload_n 1, 1) := by decide +kernel
theorem dX4_isTurn_5 : decode cX4_isTurn 5 = .ok (.aload_n 0, 1) := by decide +kernel
theorem dX4_isTurn_6 : decode cX4_isTurn 6 = .ok (.getfield 24, 3) := by decide +kernel
theorem dX4_isTurn_9 : decode cX4_isTurn 9 = .ok (.if_icmp .ge 13, 3) := by decide +kernel
theorem dX4_isTurn_12 : decode cX4_isTurn 12 = .ok (.iload_n 1, 1) := by decide +kernel
theorem dX4_isTurn_13 : decode cX4_isTurn 13 = .ok (.bipush 12, 2) := by decide +kernel
theorem dX4_isTurn_15 : decode cX4_isTurn 15 = .ok (.if_icmp .ge 7, 3) := by decide +kernel
theorem dX4_isTurn_18 : decode cX4_isTurn 18 = .ok (.iconst 1, 1) := by decide +kernel
theorem dX4_isTurn_19 : decode cX4_isTurn 19 = .ok (.goto 4, 3) := by decide +kernel
theorem dX4_isTurn_22 : decode cX4_isTurn 22 = .ok (.iconst 0, 1) := by decide +kernel
theorem dX4_isTurn_23 : decode cX4_isTurn 23 = .ok (.ireturn, 1) := by decide +kernel
theorem dX4_nextPart_0 : decode cX4_nextPart 0 = .ok (.aload_n 0, 1) := by decide +kernel
theorem dX4_nextPart_1 : decode cX4_nextPart 1 = .ok (.iload_n 1, 1) := by decide +kernel
theorem dX4_nextPart_2 : decode cX4_nextPart 2 = .ok (.invokevirtual 60, 3) := by decide +kernel
theorem dX4_nextPart_5 : decode cX4_nextPart 5 = .ok (.ifCond .eq 22, 3) := by decide +kernel
theorem dX4_nextPart_8 : decode cX4_nextPart 8 = .ok (.aload_n 0, 1) := by decide +kernel
theorem dX4_nextPart_9 : decode cX4_nextPart 9 = .ok (.getfield 15, 3) := by decide +kernel
theorem dX4_nextPart_12 : decode cX4_nextPart 12 = .ok (.iload_n 1, 1) := by decide +kernel
theorem dX4_nextPart_13 : decode cX4_nextPart 13 = .ok (.iaload, 1) := by decide +kernel
theorem dX4_nextPart_14 : decode cX4_nextPart 14 = .ok (.ifCond .lt 13, 3) := by decide +kernel
theorem dX4_nextPart_17 : decode cX4_nextPart 17 = .ok (.aload_n 0, 1) := by decide +kernel
theorem dX4_nextPart_18 : decode cX4_nextPart 18 = .ok (.getfield 15, 3) := by decide +kernel
theorem dX4_nextPart_21 : decode cX4_nextPart 21 = .ok (.iload_n 1, 1) := by decide +kernel
theorem dX4_nextPart_22 : decode cX4_nextPart 22 = .ok (.iaload, 1) := by decide +kernel
theorem dX4_nextPart_23 : decode cX4_nextPart 23 = .ok (.iconst 3, 1) := by decide +kernel
theorem dX4_nextPart_24 : decode cX4_nextPart 24 = .ok (.if_icmp .lt 5, 3) := by decide +kernel
theorem dX4_nextPart_27 : decode cX4_nextPart 27 = .ok (.iconst (-1), 1) := by decide +kernel
theorem dX4_nextPart_28 : decode cX4_nextPart 28 = .ok (.ireturn, 1) := by decide +kernel
theorem dX4_nextPart_29 : decode cX4_nextPart 29 = .ok (.iload_n 1, 1) := by decide +kernel
theorem dX4_nextPart_30 : decode cX4_nextPart 30 = .ok (.iconst 3, 1) := by decide +kernel
theorem dX4_nextPart_31 : decode cX4_nextPart 31 = .ok (.imul, 1) := by decide +kernel
theorem dX4_nextPart_32 : decode cX4_nextPart 32 = .ok (.aload_n 0, 1) := by decide +kernel
theorem dX4_nextPart_33 : decode cX4_nextPart 33 = .ok (.getfield 15, 3) := by decide +kernel
theorem dX4_nextPart_36 : decode cX4_nextPart 36 = .ok (.iload_n 1, 1) := by decide +kernel
theorem dX4_nextPart_37 : decode cX4_nextPart 37 = .ok (.iaload, 1) := by decide +kernel
theorem dX4_nextPart_38 : decode cX4_nextPart 38 = .ok (.iadd, 1) := by decide +kernel
theorem dX4_nextPart_39 : decode cX4_nextPart 39 = .ok (.ireturn, 1) := by decide +kernel
theorem dX4_doTake_0 : decode cX4_doTake 0 = .ok (.aload_n 0, 1) := by decide +kernel
theorem dX4_doTake_1 : decode cX4_doTake 1 = .ok (.iload_n 1, 1) := by decide +kernel
theorem dX4_doTake_2 : decode cX4_doTake 2 = .ok (.invokevirtual 60, 3) := by decide +kernel
theorem dX4_doTake_5 : decode cX4_doTake 5 = .ok (.ifCond .eq 21, 3) := by decide +kernel
theorem dX4_doTake_8 : decode cX4_doTake 8 = .ok (.aload_n 3, 1) := by decide +kernel
theorem dX4_doTake_9 : decode cX4_doTake 9 = .ok (.aload_n 0, 1) := by decide +kernel
theorem dX4_doTake_10 : decode cX4_doTake 10 = .ok (.getfield 9, 3) := by decide +kernel
theorem dX4_doTake_13 : decode cX4_doTake 13 = .ok (.iload_n 1, 1) := by decide +kernel
theorem dX4_doTake_14 : decode cX4_doTake 14 = .ok (.iaload, 1) := by decide +kernel
theorem dX4_doTake_15 : decode cX4_doTake 15 = .ok (.iload_n 2, 1) := by decide +kernel
theorem dX4_doTake_16 : decode cX4_doTake 16 = .ok (.invokevirtual 70, 3) := by decide +kernel
theorem dX4_doTake_19 : decode cX4_doTake 19 = .ok (.ifCond .eq 7, 3) := by decide +kernel
theorem dX4_doTake_22 : decode cX4_doTake 22 = .ok (.iconst 1, 1) := by decide +kernel
theorem dX4_doTake_23 : decode cX4_doTake 23 = .ok (.goto 4, 3) := by decide +kernel
theorem dX4_doTake_26 : decode cX4_doTake 26 = .ok (.iconst 0, 1) := by decide +kernel
theorem dX4_doTake_27 : decode cX4_doTake 27 = .ok (.ireturn, 1) := by decide +kernel
theorem dX4_doLays_0 : decode cX4_doLays 0 = .ok (.aload_n 0, 1) := by decide +kernel
theorem dX4_doLays_1 : decode cX4_doLays 1 = .ok (.iload_n 1, 1) := by decide +kernel
theorem dX4_doLays_2 : decode cX4_doLays 2 = .ok (.invokevirtual 60, 3) := by decide +kernel
theorem dX4_doLays_5 : decode cX4_doLays 5 = .ok (.ifCond .ne 5, 3) := by decide +kernel
theorem dX4_doLays_8 : decode cX4_doLays 8 = .ok (.iconst 0, 1) := by decide +kernel
theorem dX4_doLays_9 : decode cX4_doLays 9 = .ok (.ireturn, 1) := by decide +kernel
theorem dX4_doLays_10 : decode cX4_doLays 10 = .ok (.iconst 0, 1) := by decide +kernel
theorem dX4_doLays_11 : decode cX4_doLays 11 = .ok (.istore 4, 2) := by decide +kernel
theorem dX4_doLays_13 : decode cX4_doLays 13 = .ok (.iconst 0, 1) := by decide +kernel
theorem dX4_doLays_14 : decode cX4_doLays 14 = .ok (.istore 5, 2) := by decide +kernel
theorem dX4_doLays_16 : decode cX4_doLays 16 = .ok (.iload 5, 2) := by decide +kernel
theorem dX4_doLays_18 : decode cX4_doLays 18 = .ok (.aload_n 0, 1) := by decide +kernel
theorem dX4_doLays_19 : decode cX4_doLays 19 = .ok (.getfield 15, 3) := by decide +kernel
theorem dX4_doLays_22 : decode cX4_doLays 22 = .ok (.iload_n 1, 1) := by decide +kernel
theorem dX4_doLays_23 : decode cX4_doLays 23 = .ok (.iaload, 1) := by decide +kernel
theorem dX4_doLays_24 : decode cX4_doLays 24 = .ok (.if_icmp .ge 60, 3) := by decide +kernel
theorem dX4_doLays_27 : decode cX4_doLays 27 = .ok (.iload 5, 2) := by decide +kernel
theorem dX4_doLays_29 : decode cX4_doLays 29 = .ok (.iconst 3, 1) := by decide +kernel
theorem dX4_doLays_30 : decode cX4_doLays 30 = .ok (.if_icmp .ge 54, 3) := by decide +kernel
theorem dX4_doLays_33 : decode cX4_doLays 33 = .ok (.aload_n 0, 1) := by decide +kernel
theorem dX4_doLays_34 : decode cX4_doLays 34 = .ok (.getfield 18, 3) := by decide +kernel
theorem dX4_doLays_37 : decode cX4_doLays 37 = .ok (.iload_n 1, 1) := by decide +kernel
theorem dX4_doLays_38 : decode cX4_doLays 38 = .ok (.iconst 3, 1) := by decide +kernel
theorem dX4_doLays_39 : decode cX4_doLays 39 = .ok (.imul, 1) := by decide +kernel
theorem dX4_doLays_40 : decode cX4_doLays 40 = .ok (.iload 5, 2) := by decide +kernel
theorem dX4_doLays_42 : decode cX4_doLays 42 = .ok (.iadd, 1) := by decide +kernel
theorem dX4_doLays_43 : decode cX4_doLays 43 = .ok (.iaload, 1) := by decide +kernel
theorem dX4_doLays_44 : decode cX4_doLays 44 = .ok (.istore 6, 2) := by decide +kernel
theorem dX4_doLays_46 : decode cX4_doLays 46 = .ok (.iload 6, 2) := by decide +kernel
theorem dX4_doLays_48 : decode cX4_doLays 48 = .ok (.invokestatic 76, 3) := by decide +kernel
theorem dX4_doLays_51 : decode cX4_doLays 51 = .ok (.iload_n 2, 1) := by decide +kernel
theorem dX4_doLays_52 : decode cX4_doLays 52 = .ok (.if_icmp .ne 26, 3) := by decide +kernel
theorem dX4_doLays_55 : decode cX4_doLays 55 = .ok (.aload_n 3, 1) := by decide +kernel
theorem dX4_doLays_56 : decode cX4_doLays 56 = .ok (.aload_n 0, 1) := by decide +kernel
theorem dX4_doLays_57 : decode cX4_doLays 57 = .ok (.getfield 21, 3) := by decide +kernel
theorem dX4_doLays_60 : decode cX4_doLays 60 = .ok (.iload_n 1, 1) := by decide +kernel
theorem dX4_doLays_61 : decode cX4_doLays 61 = .ok (.iconst 3, 1) := by decide +kernel
theorem dX4_doLays_62 : decode cX4_doLays 62 = .ok (.imul, 1) := by decide +kernel
theorem dX4_doLays_63 : decode cX4_doLays 63 = .ok (.iload 5, 2) := by decide +kernel
theorem dX4_doLays_65 : decode cX4_doLays 65 = .ok (.iadd, 1) := by decide +kernel
theorem dX4_doLays_66 : decode cX4_doLays 66 = .ok (.iaload, 1) := by decide +kernel
theorem dX4_doLays_67 : decode cX4_doLays 67 = .ok (.iload 6, 2) := by decide +kernel
theorem dX4_doLays_69 : decode cX4_doLays 69 = .ok (.invokevirtual 79, 3) := by decide +kernel
theorem dX4_doLays_72 : decode cX4_doLays 72 = .ok (.ifCond .eq 6, 3) := by decide +kernel
theorem dX4_doLays_75 : decode cX4_doLays 75 = .ok (.iinc 4 1, 3) := by decide +kernel
theorem dX4_doLays_78 : decode cX4_doLays 78 = .ok (.iinc 5 1, 3) := by decide +kernel
theorem dX4_doLays_81 : decode cX4_doLays 81 = .ok (.goto (-65), 3) := by decide +kernel
theorem dX4_doLays_84 : decode cX4_doLays 84 = .ok (.iload 4, 2) := by decide +kernel
theorem dX4_doLays_86 : decode cX4_doLays 86 = .ok (.ireturn, 1) := by decide +kernel
theorem dX5_init_0 : decode cX5_init 0 = .ok (.aload_n 0, 1) := by decide +kernel
theorem dX5_init_1 : decode cX5_init 1 = .ok (.invokespecial 3, 3) := by decide +kernel
theorem dX5_init_4 : decode cX5_init 4 = .ok (.aload_n 0, 1) := by decide +kernel
theorem dX5_init_5 : decode cX5_init 5 = .ok (.iconst 4, 1) := by decide +kernel
theorem dX5_init_6 : decode cX5_init 6 = .ok (.bipush 60, 2) := by decide +kernel
theorem dX5_init_8 : decode cX5_init 8 = .ok (.multianewarray 11 2, 4) := by decide +kernel
theorem dX5_init_12 : decode cX5_init 12 = .ok (.putfield 13, 3) := by decide +kernel
theorem dX5_init_15 : decode cX5_init 15 = .ok (.aload_n 0, 1) := by decide +kernel
theorem dX5_init_16 : decode cX5_init 16 = .ok (.iconst 4, 1) := by decide +kernel
theorem dX5_init_17 : decode cX5_init 17 = .ok (.newarray .int, 2) := by decide +kernel
theorem dX5_init_19 : decode cX5_init 19 = .ok (.putfield 16, 3) := by decide +kernel
theorem dX5_init_22 : decode cX5_init 22 = .ok (.aload_n 0, 1) := by decide +kernel
theorem dX5_init_23 : decode cX5_init 23 = .ok (.iconst 4, 1) := by decide +kernel
theorem dX5_init_24 : decode cX5_init 24 = .ok (.newarray .int, 2) := by decide +kernel
theorem dX5_init_26 : decode cX5_init 26 = .ok (.dup, 1) := by decide +kernel
theorem dX5_init_27 : decode cX5_init 27 = .ok (.iconst 0, 1) := by decide +kernel
theorem dX5_init_28 : decode cX5_init 28 = .ok (.iconst (-1), 1) := by decide +kernel
theorem dX5_init_29 : decode cX5_init 29 = .ok (.iastore, 1) := by decide +kernel
theorem dX5_init_30 : decode cX5_init 30 = .ok (.dup, 1) := by decide +kernel
theorem dX5_init_31 : decode cX5_init 31 = .ok (.iconst 1, 1) := by decide +kernel
theorem dX5_init_32 : decode cX5_init 32 = .ok (.iconst (-1), 1) := by decide +kernel
theorem dX5_init_33 : decode cX5_init 33 = .ok (.iastore, 1) := by decide +kernel
theorem dX5_init_34 : decode cX5_init 34 = .ok (.dup, 1) := by decide +kernel
theorem dX5_init_35 : decode cX5_init 35 = .ok (.iconst 2, 1) := by decide +kernel
theorem dX5_init_36 : decode cX5_init 36 = .ok (.iconst (-1), 1) := by decide +kernel
theorem dX5_init_37 : decode cX5_init 37 = .ok (.iastore, 1) := by decide +kernel
theorem dX5_init_38 : decode cX5_init 38 = .ok (.dup, 1) := by decide +kernel
theorem dX5_init_39 : decode cX5_init 39 = .ok (.iconst 3, 1) := by decide +kernel
theorem dX5_init_40 : decode cX5_init 40 = .ok (.iconst (-1), 1) := by decide +kernel
theorem dX5_init_41 : decode cX5_init 41 = .ok (.iastore, 1) := by decide +kernel
theorem dX5_init_42 : decode cX5_init 42 = .ok (.putfield 20, 3) := by decide +kernel
theorem dX5_init_45 : decode cX5_init 45 = .ok (.aload_n 0, 1) := by decide +kernel
theorem dX5_init_46 : decode cX5_init 46 = .ok (.iconst 0, 1) := by decide +kernel
theorem dX5_init_47 : decode cX5_init 47 = .ok (.putfield 23, 3) := by decide +kernel
theorem dX5_init_50 : decode cX5_init 50 = .ok (.return_, 1) := by decide +kernel
theorem dX5_isSheet_0 : decode cX5_isSheet 0 = .ok (.iload_n 0, 1) := by decide +kernel
theorem dX5_isSheet_1 : decode cX5_isSheet 1 = .ok (.ifCond .lt 12, 3) := by decide +kernel
theorem dX5_isSheet_4 : decode cX5_isSheet 4 = .ok (.iload_n 0, 1) := by decide +kernel
theorem dX5_isSheet_5 : decode cX5_isSheet 5 = .ok (.iconst 4, 1) := by decide +kernel
theorem dX5_isSheet_6 : decode cX5_isSheet 6 = .ok (.if_icmp .ge 7, 3) := by decide +kernel
theorem dX5_isSheet_9 : decode cX5_isSheet 9 = .ok (.iconst 1, 1) := by decide +kernel
theorem dX5_isSheet_10 : decode cX5_isSheet 10 = .ok (.goto 4, 3) := by decide +kernel
theorem dX5_isSheet_13 : decode cX5_isSheet 13 = .ok (.iconst 0, 1) := by decide +kernel
theorem dX5_isSheet_14 : decode cX5_isSheet 14 = .ok (.ireturn, 1) := by decide +kernel
theorem dX5_isForm_0 : decode cX5_isForm 0 = .ok (.iload_n 0, 1) := by decide +kernel
theorem dX5_isForm_1 : decode cX5_isForm 1 = .ok (.ifCond .lt 12, 3) := by decide +kernel
theorem dX5_isForm_4 : decode cX5_isForm 4 = .ok (.iload_n 0, 1) := by decide +kernel
theorem dX5_isForm_5 : decode cX5_isForm 5 = .ok (.iconst 2, 1) := by decide +kernel
theorem dX5_isForm_6 : decode cX5_isForm 6 = .ok (.if_icmp .gt 7, 3) := by decide +kernel
theorem dX5_isForm_9 : decode cX5_isForm 9 = .ok (.iconst 1, 1) := by decide +kernel
theorem dX5_isForm_10 : decode cX5_isForm 10 = .ok (.goto 4, 3) := by decide +kernel
theorem dX5_isForm_13 : decode cX5_isForm 13 = .ok (.iconst 0, 1) := by decide +kernel
theorem dX5_isForm_14 : decode cX5_isForm 14 = .ok (.ireturn, 1) := by decide +kernel
theorem dX5_find_0 : decode cX5_find 0 = .ok (.aload_n 0, 1) := by decide +kernel
theorem dX5_find_1 : decode cX5_find 1 = .ok (.iload_n 1, 1) := by decide +kernel
theorem dX5_find_2 : decode cX5_find 2 = .ok (.putfield 23, 3) := by decide +kernel
theorem dX5_find_5 : decode cX5_find 5 = .ok (.bipush (-10), 2) := by decide +kernel
theorem dX5_find_7 : decode cX5_find 7 = .ok (.iload_n 1, 1) := by decide +kernel
theorem dX5_find_8 : decode cX5_find 8 = .ok (.isub, 1) := by decide +kernel
theorem dX5_find_9 : decode cX5_find 9 = .ok (.ireturn, 1) := by decide +kernel
theorem dX5_latestFinding_0 : decode cX5_latestFinding 0 = .ok (.aload_n 0, 1) := by decide +kernel
theorem dX5_latestFinding_1 : decode cX5_latestFinding 1 = .ok (.getfield 23, 3) := by decide +kernel
theorem dX5_latestFinding_4 : decode cX5_latestFinding 4 = .ok (.ireturn, 1) := by decide +kernel
theorem dX5_isLost_0 : decode cX5_isLost 0 = .ok (.iload_n 1, 1) := by decide +kernel
theorem dX5_isLost_1 : decode cX5_isLost 1 = .ok (.invokestatic 27, 3) := by decide +kernel
theorem dX5_isLost_4 : decode cX5_isLost 4 = .ok (.ifCond .eq 13, 3) := by decide +kernel
theorem dX5_isLost_7 : decode cX5_isLost 7 = .ok (.aload_n 0, 1) := by decide +kernel
theorem dX5_isLost_8 : decode cX5_isLost 8 = .ok (.getfield 20, 3) := by decide +kernel
theorem dX5_isLost_11 : decode cX5_isLost 11 = .ok (.iload_n 1, 1) := by decide +kernel
theorem dX5_isLost_12 : decode cX5_isLost 12 = .ok (.iaload, 1) := by decide +kernel
theorem dX5_isLost_13 : decode cX5_isLost 13 = .ok (.iconst (-1), 1) := by decide +kernel
theorem dX5_isLost_14 : decode cX5_isLost 14 = .ok (.if_icmp .ne 7, 3) := by decide +kernel
theorem dX5_isLost_17 : decode cX5_isLost 17 = .ok (.iconst 1, 1) := by decide +kernel
theorem dX5_isLost_18 : decode cX5_isLost 18 = .ok (.goto 4, 3) := by decide +kernel
theorem dX5_isLost_21 : decode cX5_isLost 21 = .ok (.iconst 0, 1) := by decide +kernel
theorem dX5_isLost_22 : decode cX5_isLost 22 = .ok (.ireturn, 1) := by decide +kernel
theorem dX5_sizeOf_0 : decode cX5_sizeOf 0 = .ok (.aload_n 0, 1) := by decide +kernel
theorem dX5_sizeOf_1 : decode cX5_sizeOf 1 = .ok (.iload_n 1, 1) := by decide +kernel
theorem dX5_sizeOf_2 : decode cX5_sizeOf 2 = .ok (.invokevirtual 31, 3) := by decide +kernel
theorem dX5_sizeOf_5 : decode cX5_sizeOf 5 = .ok (.ifCond .eq 7, 3) := by decide +kernel
theorem dX5_sizeOf_8 : decode cX5_sizeOf 8 = .ok (.iconst 0, 1) := by decide +kernel
theorem dX5_sizeOf_9 : decode cX5_sizeOf 9 = .ok (.goto 9, 3) := by decide +kernel
theorem dX5_sizeOf_12 : decode cX5_sizeOf 12 = .ok (.aload_n 0, 1) := by decide +kernel
theorem dX5_sizeOf_13 : decode cX5_sizeOf 13 = .ok (.getfield 20, 3) := by decide +kernel
theorem dX5_sizeOf_16 : decode cX5_sizeOf 16 = .ok (.iload_n 1, 1) := by decide +kernel
theorem dX5_sizeOf_17 : decode cX5_sizeOf 17 = .ok (.iaload, 1) := by decide +kernel
theorem dX5_sizeOf_18 : decode cX5_sizeOf 18 = .ok (.ireturn, 1) := by decide +kernel
theorem dX5_formOf_0 : decode cX5_formOf 0 = .ok (.iload_n 1, 1) := by decide +kernel
theorem dX5_formOf_1 : decode cX5_formOf 1 = .ok (.invokestatic 27, 3) := by decide +kernel
theorem dX5_formOf_4 : decode cX5_formOf 4 = .ok (.ifCond .eq 12, 3) := by decide +kernel
theorem dX5_formOf_7 : decode cX5_formOf 7 = .ok (.aload_n 0, 1) := by decide +kernel
theorem dX5_formOf_8 : decode cX5_formOf 8 = .ok (.getfield 16, 3) := by decide +kernel
theorem dX5_formOf_11 : decode cX5_formOf 11 = .ok (.iload_n 1, 1) := by decide +kernel
theorem dX5_formOf_12 : decode cX5_formOf 12 = .ok (.iaload, 1) := by decide +kernel
theorem dX5_formOf_13 : decode cX5_formOf 13 = .ok (.goto 4, 3) := by decide +kernel
theorem dX5_formOf_16 : decode cX5_formOf 16 = .ok (.iconst (-1), 1) := by decide +kernel
theorem dX5_formOf_17 : decode cX5_formOf 17 = .ok (.ireturn, 1) := by decide +kernel
theorem dX5_make_0 : decode cX5_make 0 = .ok (.iload_n 1, 1) := by decide +kernel
theorem dX5_make_1 : decode cX5_make 1 = .ok (.invokestatic 27, 3) := by decide +kernel
theorem dX5_make_4 : decode cX5_make 4 = .ok (.ifCond .eq 20, 3) := by decide +kernel
theorem dX5_make_7 : decode cX5_make 7 = .ok (.iload_n 2, 1) := by decide +kernel
theorem dX5_make_8 : decode cX5_make 8 = .ok (.invokestatic 34, 3) := by decide +kernel
theorem dX5_make_11 : decode cX5_make 11 = .ok (.ifCond .eq 13, 3) := by decide +kernel
theorem dX5_make_14 : decode cX5_make 14 = .ok (.iload_n 3, 1) := by decide +kernel
theorem dX5_make_15 : decode cX5_make 15 = .ok (.ifCond .lt 9, 3) := by decide +kernel
theorem dX5_make_18 : decode cX5_make 18 = .ok (.iload_n 3, 1) := by decide +kernel
theorem dX5_make_19 : decode cX5_make 19 = .ok (.bipush 60, 2) := by decide +kernel
theorem dX5_make_21 : decode cX5_make 21 = .ok (.if_icmp .le 4, 3) := by decide +kernel
theorem dX5_make_24 : decode cX5_make 24 = .ok (.return_, 1) := by decide +kernel
theorem dX5_make_25 : decode cX5_make 25 = .ok (.aload_n 0, 1) := by decide +kernel
theorem dX5_make_26 : decode cX5_make 26 = .ok (.getfield 16, 3) := by decide +kernel
theorem dX5_make_29 : decode cX5_make 29 = .ok (.iload_n 1, 1) := by decide +kernel
theorem dX5_make_30 : decode cX5_make 30 = .ok (.iload_n 2, 1) := by decide +kernel
theorem dX5_make_31 : decode cX5_make 31 = .ok (.iastore, 1) := by decide +kernel
theorem dX5_make_32 : decode cX5_make 32 = .ok (.aload_n 0, 1) := by decide +kernel
theorem dX5_make_33 : decode cX5_make 33 = .ok (.getfield 20, 3) := by decide +kernel
theorem dX5_make_36 : decode cX5_make 36 = .ok (.iload_n 1, 1) := by decide +kernel
theorem dX5_make_37 : decode cX5_make 37 = .ok (.iload_n 3, 1) := by decide +kernel
theorem dX5_make_38 : decode cX5_make 38 = .ok (.iastore, 1) := by decide +kernel
theorem dX5_make_39 : decode cX5_make 39 = .ok (.iconst 0, 1) := by decide +kernel
theorem dX5_make_40 : decode cX5_make 40 = .ok (.istore 4, 2) := by decide +kernel
theorem dX5_make_42 : decode cX5_make 42 = .ok (.iload 4, 2) := by decide +kernel
theorem dX5_make_44 : decode cX5_make 44 = .ok (.bipush 60, 2) := by decide +kernel
theorem dX5_make_46 : decode cX5_make 46 = .ok (.if_icmp .ge 19, 3) := by decide +kernel
theorem dX5_make_49 : decode cX5_make 49 = .ok (.aload_n 0, 1) := by decide +kernel
theorem dX5_make_50 : decode cX5_make 50 = .ok (.getfield 13, 3) := by decide +kernel
theorem dX5_make_53 : decode cX5_make 53 = .ok (.iload_n 1, 1) := by decide +kernel
theorem dX5_make_54 : decode cX5_make 54 = .ok (.aaload, 1) := by decide +kernel
theorem dX5_make_55 : decode cX5_make 55 = .ok (.iload 4, 2) := by decide +kernel
theorem dX5_make_57 : decode cX5_make 57 = .ok (.iconst 0, 1) := by decide +kernel
theorem dX5_make_58 : decode cX5_make 58 = .ok (.iastore, 1) := by decide +kernel
theorem dX5_make_59 : decode cX5_make 59 = .ok (.iinc 4 1, 3) := by decide +kernel
theorem dX5_make_62 : decode cX5_make 62 = .ok (.goto (-20), 3) := by decide +kernel
theorem dX5_make_65 : decode cX5_make 65 = .ok (.return_, 1) := by decide +kernel
theorem dX5_drop_0 : decode cX5_drop 0 = .ok (.iload_n 1, 1) := by decide +kernel
theorem dX5_drop_1 : decode cX5_drop 1 = .ok (.invokestatic 27, 3) := by decide +kernel
theorem dX5_drop_4 : decode cX5_drop 4 = .ok (.ifCond .eq 10, 3) := by decide +kernel
theorem dX5_drop_7 : decode cX5_drop 7 = .ok (.aload_n 0, 1) := by decide +kernel
theorem dX5_drop_8 : decode cX5_drop 8 = .ok (.getfield 20, 3) := by decide +kernel
theorem dX5_drop_11 : decode cX5_drop 11 = .ok (.iload_n 1, 1) := by decide +kernel
theorem dX5_drop_12 : decode cX5_drop 12 = .ok (.iconst (-1), 1) := by decide +kernel
theorem dX5_drop_13 : decode cX5_drop 13 = .ok (.iastore, 1) := by decide +kernel
theorem dX5_drop_14 : decode cX5_drop 14 = .ok (.return_, 1) := by decide +kernel
theorem dX5_refusalOf_0 : decode cX5_refusalOf 0 = .ok (.iload_n 1, 1) := by decide +kernel
theorem dX5_refusalOf_1 : decode cX5_refusalOf 1 = .ok (.invokestatic 27, 3) := by decide +kernel
theorem dX5_refusalOf_4 : decode cX5_refusalOf 4 = .ok (.ifCond .eq 10, 3) := by decide +kernel
theorem dX5_refusalOf_7 : decode cX5_refusalOf 7 = .ok (.iload_n 2, 1) := by decide +kernel
theorem dX5_refusalOf_8 : decode cX5_refusalOf 8 = .ok (.invokestatic 34, 3) := by decide +kernel
theorem dX5_refusalOf_11 : decode cX5_refusalOf 11 = .ok (.ifCond .ne 6, 3) := by decide +kernel
theorem dX5_refusalOf_14 : decode cX5_refusalOf 14 = .ok (.bipush (-2), 2) := by decide +kernel
theorem dX5_refusalOf_16 : decode cX5_refusalOf 16 = .ok (.ireturn, 1) := by decide +kernel
theorem dX5_refusalOf_17 : decode cX5_refusalOf 17 = .ok (.aload_n 0, 1) := by decide +kernel
theorem dX5_refusalOf_18 : decode cX5_refusalOf 18 = .ok (.iload_n 1, 1) := by decide +kernel
theorem dX5_refusalOf_19 : decode cX5_refusalOf 19 = .ok (.invokevirtual 31, 3) := by decide +kernel
theorem dX5_refusalOf_22 : decode cX5_refusalOf 22 = .ok (.ifCond .eq 9, 3) := by decide +kernel
theorem dX5_refusalOf_25 : decode cX5_refusalOf 25 = .ok (.aload_n 0, 1) := by decide +kernel
theorem dX5_refusalOf_26 : decode cX5_refusalOf 26 = .ok (.iconst 1, 1) := by decide +kernel
theorem dX5_refusalOf_27 : decode cX5_refusalOf 27 = .ok (.invokevirtual 37, 3) := by decide +kernel
theorem dX5_refusalOf_30 : decode cX5_refusalOf 30 = .ok (.ireturn, 1) := by decide +kernel
theorem dX5_refusalOf_31 : decode cX5_refusalOf 31 = .ok (.aload_n 0, 1) := by decide +kernel
theorem dX5_refusalOf_32 : decode cX5_refusalOf 32 = .ok (.getfield 16, 3) := by decide +kernel
theorem dX5_refusalOf_35 : decode cX5_refusalOf 35 = .ok (.iload_n 1, 1) := by decide +kernel
theorem dX5_refusalOf_36 : decode cX5_refusalOf 36 = .ok (.iaload, 1) := by decide +kernel
theorem dX5_refusalOf_37 : decode cX5_refusalOf 37 = .ok (.iload_n 2, 1) := by decide +kernel
theorem dX5_refusalOf_38 : decode cX5_refusalOf 38 = .ok (.if_icmp .eq 9, 3) := by decide +kernel
theorem dX5_refusalOf_41 : decode cX5_refusalOf 41 = .ok (.aload_n 0, 1) := by decide +kernel
theorem dX5_refusalOf_42 : decode cX5_refusalOf 42 = .ok (.iconst 3, 1) := by decide +kernel
theorem dX5_refusalOf_43 : decode cX5_refusalOf 43 = .ok (.invokevirtual 37, 3) := by decide +kernel
theorem dX5_refusalOf_46 : decode cX5_refusalOf 46 = .ok (.ireturn, 1) := by decide +kernel
theorem dX5_refusalOf_47 : decode cX5_refusalOf 47 = .ok (.aload_n 0, 1) := by decide +kernel
theorem dX5_refusalOf_48 : decode cX5_refusalOf 48 = .ok (.iload_n 1, 1) := by decide +kernel
theorem dX5_refusalOf_49 : decode cX5_refusalOf 49 = .ok (.iload_n 3, 1) := by decide +kernel
theorem dX5_refusalOf_50 : decode cX5_refusalOf 50 = .ok (.invokevirtual 41, 3) := by decide +kernel
theorem dX5_refusalOf_53 : decode cX5_refusalOf 53 = .ok (.ifCond .eq 7, 3) := by decide +kernel
theorem dX5_refusalOf_56 : decode cX5_refusalOf 56 = .ok (.iconst 0, 1) := by decide +kernel
theorem dX5_refusalOf_57 : decode cX5_refusalOf 57 = .ok (.goto 8, 3) := by decide +kernel
theorem dX5_refusalOf_60 : decode cX5_refusalOf 60 = .ok (.aload_n 0, 1) := by decide +kernel
theorem dX5_refusalOf_61 : decode cX5_refusalOf 61 = .ok (.iconst 2, 1) := by decide +kernel
theorem dX5_refusalOf_62 : decode cX5_refusalOf 62 = .ok (.invokevirtual 37, 3) := by decide +kernel
theorem dX5_refusalOf_65 : decode cX5_refusalOf 65 = .ok (.ireturn, 1) := by decide +kernel
theorem dX5_isItem_0 : decode cX5_isItem 0 = .ok (.iload_n 2, 1) := by decide +kernel
theorem dX5_isItem_1 : decode cX5_isItem 1 = .ok (.ifCond .lt 22, 3) := by decide +kernel
theorem dX5_isItem_4 : decode cX5_isItem 4 = .ok (.iload_n 2, 1) := by decide +kernel
theorem dX5_isItem_5 : decode cX5_isItem 5 = .ok (.aload_n 0, 1) := by decide +kernel
theorem dX5_isItem_6 : decode cX5_isItem 6 = .ok (.iload_n 1, 1) := by decide +kernel
theorem dX5_isItem_7 : decode cX5_isItem 7 = .ok (.invokevirtual 45, 3) := by decide +kernel
theorem dX5_isItem_10 : decode cX5_isItem 10 = .ok (.if_icmp .ge 13, 3) := by decide +kernel
theorem dX5_isItem_13 : decode cX5_isItem 13 = .ok (.iload_n 2, 1) := by decide +kernel
theorem dX5_isItem_14 : decode cX5_isItem 14 = .ok (.bipush 60, 2) := by decide +kernel
theorem dX5_isItem_16 : decode cX5_isItem 16 = .ok (.if_icmp .ge 7, 3) := by decide +kernel
theorem dX5_isItem_19 : decode cX5_isItem 19 = .ok (.iconst 1, 1) := by decide +kernel
theorem dX5_isItem_20 : decode cX5_isItem 20 = .ok (.goto 4, 3) := by decide +kernel
theorem dX5_isItem_23 : decode cX5_isItem 23 = .ok (.iconst 0, 1) := by decide +kernel
theorem dX5_isItem_24 : decode cX5_isItem 24 = .ok (.ireturn, 1) := by decide +kernel
theorem dX5_itemAt_0 : decode cX5_itemAt 0 = .ok (.aload_n 0, 1) := by decide +kernel
theorem dX5_itemAt_1 : decode cX5_itemAt 1 = .ok (.iload_n 1, 1) := by decide +kernel
theorem dX5_itemAt_2 : decode cX5_itemAt 2 = .ok (.iload_n 2, 1) := by decide +kernel
theorem dX5_itemAt_3 : decode cX5_itemAt 3 = .ok (.invokevirtual 41, 3) := by decide +kernel
theorem dX5_itemAt_6 : decode cX5_itemAt 6 = .ok (.ifCond .eq 14, 3) := by decide +kernel
theorem dX5_itemAt_9 : decode cX5_itemAt 9 = .ok (.aload_n 0, 1) := by decide +kernel
theorem dX5_itemAt_10 : decode cX5_itemAt 10 = .ok (.getfield 13, 3) := by decide +kernel
theorem dX5_itemAt_13 : decode cX5_itemAt 13 = .ok (.iload_n 1, 1) := by decide +kernel
theorem dX5_itemAt_14 : decode cX5_itemAt 14 = .ok (.aaload, 1) := by decide +kernel
theorem dX5_itemAt_15 : decode cX5_itemAt 15 = .ok (.iload_n 2, 1) := by decide +kernel
theorem dX5_itemAt_16 : decode cX5_itemAt 16 = .ok (.iaload, 1) := by decide +kernel
theorem dX5_itemAt_17 : decode cX5_itemAt 17 = .ok (.goto 4, 3) := by decide +kernel
theorem dX5_itemAt_20 : decode cX5_itemAt 20 = .ok (.iconst 0, 1) := by decide +kernel
theorem dX5_itemAt_21 : decode cX5_itemAt 21 = .ok (.ireturn, 1) := by decide +kernel
theorem dX5_put_0 : decode cX5_put 0 = .ok (.aload_n 0, 1) := by decide +kernel
theorem dX5_put_1 : decode cX5_put 1 = .ok (.iload_n 1, 1) := by decide +kernel
theorem dX5_put_2 : decode cX5_put 2 = .ok (.iload_n 2, 1) := by decide +kernel
theorem dX5_put_3 : decode cX5_put 3 = .ok (.invokevirtual 41, 3) := by decide +kernel
theorem dX5_put_6 : decode cX5_put 6 = .ok (.ifCond .eq 21, 3) := by decide +kernel
theorem dX5_put_9 : decode cX5_put 9 = .ok (.aload_n 0, 1) := by decide +kernel
theorem dX5_put_10 : decode cX5_put 10 = .ok (.getfield 13, 3) := by decide +kernel
theorem dX5_put_13 : decode cX5_put 13 = .ok (.iload_n 1, 1) := by decide +kernel
theorem dX5_put_14 : decode cX5_put 14 = .ok (.aaload, 1) := by decide +kernel
theorem dX5_put_15 : decode cX5_put 15 = .ok (.iload_n 2, 1) := by decide +kernel
theorem dX5_put_16 : decode cX5_put 16 = .ok (.aload_n 0, 1) := by decide +kernel
theorem dX5_put_17 : decode cX5_put 17 = .ok (.getfield 16, 3) := by decide +kernel
theorem dX5_put_20 : decode cX5_put 20 = .ok (.iload_n 1, 1) := by decide +kernel
theorem dX5_put_21 : decode cX5_put 21 = .ok (.iaload, 1) := by decide +kernel
theorem dX5_put_22 : decode cX5_put 22 = .ok (.iload_n 3, 1) := by decide +kernel
theorem dX5_put_23 : decode cX5_put 23 = .ok (.invokestatic 48, 3) := by decide +kernel
theorem dX5_put_26 : decode cX5_put 26 = .ok (.iastore, 1) := by decide +kernel
theorem dX5_put_27 : decode cX5_put 27 = .ok (.return_, 1) := by decide +kernel
theorem dX5_asForm_0 : decode cX5_asForm 0 = .ok (.iload_n 0, 1) := by decide +kernel
theorem dX5_asForm_1 : decode cX5_asForm 1 = .ok (.ifCond .ne 8, 3) := by decide +kernel
theorem dX5_asForm_4 : decode cX5_asForm 4 = .ok (.iload_n 1, 1) := by decide +kernel
theorem dX5_asForm_5 : decode cX5_asForm 5 = .ok (.i2b, 1) := by decide +kernel
theorem dX5_asForm_6 : decode cX5_asForm 6 = .ok (.goto 14, 3) := by decide +kernel
theorem dX5_asForm_9 : decode cX5_asForm 9 = .ok (.iload_n 0, 1) := by decide +kernel
theorem dX5_asForm_10 : decode cX5_asForm 10 = .ok (.iconst 1, 1) := by decide +kernel
theorem dX5_asForm_11 : decode cX5_asForm 11 = .ok (.if_icmp .ne 8, 3) := by decide +kernel
theorem dX5_asForm_14 : decode cX5_asForm 14 = .ok (.iload_n 1, 1) := by decide +kernel
theorem dX5_asForm_15 : decode cX5_asForm 15 = .ok (.i2s, 1) := by decide +kernel
theorem dX5_asForm_16 : decode cX5_asForm 16 = .ok (.goto 4, 3) := by decide +kernel
theorem dX5_asForm_19 : decode cX5_asForm 19 = .ok (.iload_n 1, 1) := by decide +kernel
theorem dX5_asForm_20 : decode cX5_asForm 20 = .ok (.ireturn, 1) := by decide +kernel
theorem dX5_holds_0 : decode cX5_holds 0 = .ok (.iload_n 2, 1) := by decide +kernel
theorem dX5_holds_1 : decode cX5_holds 1 = .ok (.ifCond .lt 28, 3) := by decide +kernel
theorem dX5_holds_4 : decode cX5_holds 4 = .ok (.iload_n 3, 1) := by decide +kernel
theorem dX5_holds_5 : decode cX5_holds 5 = .ok (.ifCond .lt 24, 3) := by decide +kernel
theorem dX5_holds_8 : decode cX5_holds 8 = .ok (.iload_n 3, 1) := by decide +kernel
theorem dX5_holds_9 : decode cX5_holds 9 = .ok (.bipush 60, 2) := by decide +kernel
theorem dX5_holds_11 : decode cX5_holds 11 = .ok (.if_icmp .gt 18, 3) := by decide +kernel
theorem dX5_holds_14 : decode cX5_holds 14 = .ok (.iload_n 2, 1) := by decide +kernel
theorem dX5_holds_15 : decode cX5_holds 15 = .ok (.aload_n 0, 1) := by decide +kernel
theorem dX5_holds_16 : decode cX5_holds 16 = .ok (.iload_n 1, 1) := by decide +kernel
theorem dX5_holds_17 : decode cX5_holds 17 = .ok (.invokevirtual 45, 3) := by decide +kernel
theorem dX5_holds_20 : decode cX5_holds 20 = .ok (.iload_n 3, 1) := by decide +kernel
theorem dX5_holds_21 : decode cX5_holds 21 = .ok (.isub, 1) := by decide +kernel
theorem dX5_holds_22 : decode cX5_holds 22 = .ok (.if_icmp .gt 7, 3) := by decide +kernel
theorem dX5_holds_25 : decode cX5_holds 25 = .ok (.iconst 1, 1) := by decide +kernel
theorem dX5_holds_26 : decode cX5_holds 26 = .ok (.goto 4, 3) := by decide +kernel
theorem dX5_holds_29 : decode cX5_holds 29 = .ok (.iconst 0, 1) := by decide +kernel
theorem dX5_holds_30 : decode cX5_holds 30 = .ok (.ireturn, 1) := by decide +kernel
theorem dX5_move_0 : decode cX5_move 0 = .ok (.iload_n 1, 1) := by decide +kernel
theorem dX5_move_1 : decode cX5_move 1 = .ok (.invokestatic 27, 3) := by decide +kernel
theorem dX5_move_4 : decode cX5_move 4 = .ok (.ifCond .eq 53, 3) := by decide +kernel
theorem dX5_move_7 : decode cX5_move 7 = .ok (.iload_n 3, 1) := by decide +kernel
theorem dX5_move_8 : decode cX5_move 8 = .ok (.invokestatic 27, 3) := by decide +kernel
theorem dX5_move_11 : decode cX5_move 11 = .ok (.ifCond .eq 46, 3) := by decide +kernel
theorem dX5_move_14 : decode cX5_move 14 = .ok (.aload_n 0, 1) := by decide +kernel
theorem dX5_move_15 : decode cX5_move 15 = .ok (.iload_n 1, 1) := by decide +kernel
theorem dX5_move_16 : decode cX5_move 16 = .ok (.iload_n 2, 1) := by decide +kernel
theorem dX5_move_17 : decode cX5_move 17 = .ok (.iload 5, 2) := by decide +kernel
theorem dX5_move_19 : decode cX5_move 19 = .ok (.invokevirtual 52, 3) := by decide +kernel
theorem dX5_move_22 : decode cX5_move 22 = .ok (.ifCond .eq 35, 3) := by decide +kernel
theorem dX5_move_25 : decode cX5_move 25 = .ok (.aload_n 0, 1) := by decide +kernel
theorem dX5_move_26 : decode cX5_move 26 = .ok (.iload_n 3, 1) := by decide +kernel
theorem dX5_move_27 : decode cX5_move 27 = .ok (.iload 4, 2) := by decide +kernel
theorem dX5_move_29 : decode cX5_move 29 = .ok (.iload 5, 2) := by decide +kernel
theorem dX5_move_31 : decode cX5_move 31 = .ok (.invokevirtual 52, 3) := by decide +kernel
theorem dX5_move_34 : decode cX5_move 34 = .ok (.ifCond .eq 23, 3) := by decide +kernel
theorem dX5_move_37 : decode cX5_move 37 = .ok (.aload_n 0, 1) := by decide +kernel
theorem dX5_move_38 : decode cX5_move 38 = .ok (.getfield 13, 3) := by decide +kernel
theorem dX5_move_41 : decode cX5_move 41 = .ok (.iload_n 1, 1) := by decide +kernel
theorem dX5_move_42 : decode cX5_move 42 = .ok (.aaload, 1) := by decide +kernel
theorem dX5_move_43 : decode cX5_move 43 = .ok (.iload_n 2, 1) := by decide +kernel
theorem dX5_move_44 : decode cX5_move 44 = .ok (.aload_n 0, 1) := by decide +kernel
theorem dX5_move_45 : decode cX5_move 45 = .ok (.getfield 13, 3) := by decide +kernel
theorem dX5_move_48 : decode cX5_move 48 = .ok (.iload_n 3, 1) := by decide +kernel
theorem dX5_move_49 : decode cX5_move 49 = .ok (.aaload, 1) := by decide +kernel
theorem dX5_move_50 : decode cX5_move 50 = .ok (.iload 4, 2) := by decide +kernel
theorem dX5_move_52 : decode cX5_move 52 = .ok (.iload 5, 2) := by decide +kernel
theorem dX5_move_54 : decode cX5_move 54 = .ok (.invokestatic 56, 3) := by decide +kernel
theorem dX5_move_57 : decode cX5_move 57 = .ok (.return_, 1) := by decide +kernel
theorem dX6_init_0 : decode cX6_init 0 = .ok (.aload_n 0, 1) := by decide +kernel
theorem dX6_init_1 : decode cX6_init 1 = .ok (.invokespecial 3, 3) := by decide +kernel
theorem dX6_init_4 : decode cX6_init 4 = .ok (.aload_n 0, 1) := by decide +kernel
theorem dX6_init_5 : decode cX6_init 5 = .ok (.bipush 8, 2) := by decide +kernel
theorem dX6_init_7 : decode cX6_init 7 = .ok (.newarray .int, 2) := by decide +kernel
theorem dX6_init_9 : decode cX6_init 9 = .ok (.putfield 9, 3) := by decide +kernel
theorem dX6_init_12 : decode cX6_init 12 = .ok (.aload_n 0, 1) := by decide +kernel
theorem dX6_init_13 : decode cX6_init 13 = .ok (.bipush 8, 2) := by decide +kernel
theorem dX6_init_15 : decode cX6_init 15 = .ok (.newarray .int, 2) := by decide +kernel
theorem dX6_init_17 : decode cX6_init 17 = .ok (.putfield 15, 3) := by decide +kernel
theorem dX6_init_20 : decode cX6_init 20 = .ok (.aload_n 0, 1) := by decide +kernel
theorem dX6_init_21 : decode cX6_init 21 = .ok (.bipush 8, 2) := by decide +kernel
theorem dX6_init_23 : decode cX6_init 23 = .ok (.newarray .int, 2) := by decide +kernel
theorem dX6_init_25 : decode cX6_init 25 = .ok (.putfield 18, 3) := by decide +kernel
theorem dX6_init_28 : decode cX6_init 28 = .ok (.aload_n 0, 1) := by decide +kernel
theorem dX6_init_29 : decode cX6_init 29 = .ok (.iconst 0, 1) := by decide +kernel
theorem dX6_init_30 : decode cX6_init 30 = .ok (.putfield 21, 3) := by decide +kernel
theorem dX6_init_33 : decode cX6_init 33 = .ok (.return_, 1) := by decide +kernel
theorem dX6_allows_0 : decode cX6_allows 0 = .ok (.iload_n 0, 1) := by decide +kernel
theorem dX6_allows_1 : decode cX6_allows 1 = .ok (.iconst 0, 1) := by decide +kernel
theorem dX6_allows_2 : decode cX6_allows 2 = .ok (.bipush 12, 2) := by decide +kernel
theorem dX6_allows_4 : decode cX6_allows 4 = .ok (.invokestatic 25, 3) := by decide +kernel
theorem dX6_allows_7 : decode cX6_allows 7 = .ok (.ifCond .eq 27, 3) := by decide +kernel
theorem dX6_allows_10 : decode cX6_allows 10 = .ok (.iload_n 1, 1) := by decide +kernel
theorem dX6_allows_11 : decode cX6_allows 11 = .ok (.iconst 0, 1) := by decide +kernel
theorem dX6_allows_12 : decode cX6_allows 12 = .ok (.bipush 7, 2) := by decide +kernel
theorem dX6_allows_14 : decode cX6_allows 14 = .ok (.invokestatic 25, 3) := by decide +kernel
theorem dX6_allows_17 : decode cX6_allows 17 = .ok (.ifCond .eq 17, 3) := by decide +kernel
theorem dX6_allows_20 : decode cX6_allows 20 = .ok (.iload_n 2, 1) := by decide +kernel
theorem dX6_allows_21 : decode cX6_allows 21 = .ok (.iconst 0, 1) := by decide +kernel
theorem dX6_allows_22 : decode cX6_allows 22 = .ok (.bipush 16, 2) := by decide +kernel
theorem dX6_allows_24 : decode cX6_allows 24 = .ok (.invokestatic 25, 3) := by decide +kernel
theorem dX6_allows_27 : decode cX6_allows 27 = .ok (.ifCond .eq 7, 3) := by decide +kernel
theorem dX6_allows_30 : decode cX6_allows 30 = .ok (.iconst 1, 1) := by decide +kernel
theorem dX6_allows_31 : decode cX6_allows 31 = .ok (.goto 4, 3) := by decide +kernel
theorem dX6_allows_34 : decode cX6_allows 34 = .ok (.iconst 0, 1) := by decide +kernel
theorem dX6_allows_35 : decode cX6_allows 35 = .ok (.ireturn, 1) := by decide +kernel
theorem dX6_size_0 : decode cX6_size 0 = .ok (.aload_n 0, 1) := by decide +kernel
theorem dX6_size_1 : decode cX6_size 1 = .ok (.getfield 21, 3) := by decide +kernel
theorem dX6_size_4 : decode cX6_size 4 = .ok (.ireturn, 1) := by decide +kernel
theorem dX6_isFull_0 : decode cX6_isFull 0 = .ok (.aload_n 0, 1) := by decide +kernel
theorem dX6_isFull_1 : decode cX6_isFull 1 = .ok (.getfield 21, 3) := by decide +kernel
theorem dX6_isFull_4 : decode cX6_isFull 4 = .ok (.bipush 8, 2) := by decide +kernel
theorem dX6_isFull_6 : decode cX6_isFull 6 = .ok (.if_icmp .lt 7, 3) := by decide +kernel
theorem dX6_isFull_9 : decode cX6_isFull 9 = .ok (.iconst 1, 1) := by decide +kernel
theorem dX6_isFull_10 : decode cX6_isFull 10 = .ok (.goto 4, 3) := by decide +kernel
theorem dX6_isFull_13 : decode cX6_isFull 13 = .ok (.iconst 0, 1) := by decide +kernel
theorem dX6_isFull_14 : decode cX6_isFull 14 = .ok (.ireturn, 1) := by decide +kernel
theorem dX6_add_0 : decode cX6_add 0 = .ok (.aload_n 0, 1) := by decide +kernel
theorem dX6_add_1 : decode cX6_add 1 = .ok (.getfield 21, 3) := by decide +kernel
theorem dX6_add_4 : decode cX6_add 4 = .ok (.ifCond .lt 52, 3) := by decide +kernel
theorem dX6_add_7 : decode cX6_add 7 = .ok (.aload_n 0, 1) := by decide +kernel
theorem dX6_add_8 : decode cX6_add 8 = .ok (.getfield 21, 3) := by decide +kernel
theorem dX6_add_11 : decode cX6_add 11 = .ok (.bipush 8, 2) := by decide +kernel
theorem dX6_add_13 : decode cX6_add 13 = .ok (.if_icmp .ge 43, 3) := by decide +kernel
theorem dX6_add_16 : decode cX6_add 16 = .ok (.aload_n 0, 1) := by decide +kernel
theorem dX6_add_17 : decode cX6_add 17 = .ok (.getfield 9, 3) := by decide +kernel
theorem dX6_add_20 : decode cX6_add 20 = .ok (.aload_n 0, 1) := by decide +kernel
theorem dX6_add_21 : decode cX6_add 21 = .ok (.getfield 21, 3) := by decide +kernel
theorem dX6_add_24 : decode cX6_add 24 = .ok (.iload_n 1, 1) := by decide +kernel
theorem dX6_add_25 : decode cX6_add 25 = .ok (.iastore, 1) := by decide +kernel
theorem dX6_add_26 : decode cX6_add 26 = .ok (.aload_n 0, 1) := by decide +kernel
theorem dX6_add_27 : decode cX6_add 27 = .ok (.getfield 15, 3) := by decide +kernel
theorem dX6_add_30 : decode cX6_add 30 = .ok (.aload_n 0, 1) := by decide +kernel
theorem dX6_add_31 : decode cX6_add 31 = .ok (.getfield 21, 3) := by decide +kernel
theorem dX6_add_34 : decode cX6_add 34 = .ok (.iload_n 2, 1) := by decide +kernel
theorem dX6_add_35 : decode cX6_add 35 = .ok (.iastore, 1) := by decide +kernel
theorem dX6_add_36 : decode cX6_add 36 = .ok (.aload_n 0, 1) := by decide +kernel
theorem dX6_add_37 : decode cX6_add 37 = .ok (.getfield 18, 3) := by decide +kernel
theorem dX6_add_40 : decode cX6_add 40 = .ok (.aload_n 0, 1) := by decide +kernel
theorem dX6_add_41 : decode cX6_add 41 = .ok (.getfield 21, 3) := by decide +kernel
theorem dX6_add_44 : decode cX6_add 44 = .ok (.iload_n 3, 1) := by decide +kernel
theorem dX6_add_45 : decode cX6_add 45 = .ok (.iastore, 1) := by decide +kernel
theorem dX6_add_46 : decode cX6_add 46 = .ok (.aload_n 0, 1) := by decide +kernel
theorem dX6_add_47 : decode cX6_add 47 = .ok (.dup, 1) := by decide +kernel
theorem dX6_add_48 : decode cX6_add 48 = .ok (.getfield 21, 3) := by decide +kernel
theorem dX6_add_51 : decode cX6_add 51 = .ok (.iconst 1, 1) := by decide +kernel
theorem dX6_add_52 : decode cX6_add 52 = .ok (.iadd, 1) := by decide +kernel
theorem dX6_add_53 : decode cX6_add 53 = .ok (.putfield 21, 3) := by decide +kernel
theorem dX6_add_56 : decode cX6_add 56 = .ok (.return_, 1) := by decide +kernel
theorem dX6_clear_0 : decode cX6_clear 0 = .ok (.aload_n 0, 1) := by decide +kernel
theorem dX6_clear_1 : decode cX6_clear 1 = .ok (.iconst 0, 1) := by decide +kernel
theorem dX6_clear_2 : decode cX6_clear 2 = .ok (.putfield 21, 3) := by decide +kernel
theorem dX6_clear_5 : decode cX6_clear 5 = .ok (.return_, 1) := by decide +kernel
theorem dX6_looksBeyond_0 : decode cX6_looksBeyond 0 = .ok (.iconst 0, 1) := by decide +kernel
theorem dX6_looksBeyond_1 : decode cX6_looksBeyond 1 = .ok (.istore_n 2, 1) := by decide +kernel
theorem dX6_looksBeyond_2 : decode cX6_looksBeyond 2 = .ok (.iload_n 2, 1) := by decide +kernel
theorem dX6_looksBeyond_3 : decode cX6_looksBeyond 3 = .ok (.aload_n 0, 1) := by decide +kernel
theorem dX6_looksBeyond_4 : decode cX6_looksBeyond 4 = .ok (.getfield 21, 3) := by decide +kernel
theorem dX6_looksBeyond_7 : decode cX6_looksBeyond 7 = .ok (.if_icmp .ge 27, 3) := by decide +kernel
theorem dX6_looksBeyond_10 : decode cX6_looksBeyond 10 = .ok (.iload_n 2, 1) := by decide +kernel
theorem dX6_looksBeyond_11 : decode cX6_looksBeyond 11 = .ok (.bipush 8, 2) := by decide +kernel
theorem dX6_looksBeyond_13 : decode cX6_looksBeyond 13 = .ok (.if_icmp .ge 21, 3) := by decide +kernel
theorem dX6_looksBeyond_16 : decode cX6_looksBeyond 16 = .ok (.aload_n 0, 1) := by decide +kernel
theorem dX6_looksBeyond_17 : decode cX6_looksBeyond 17 = .ok (.getfield 9, 3) := by decide +kernel
theorem dX6_looksBeyond_20 : decode cX6_looksBeyond 20 = .ok (.iload_n 2, 1) := by decide +kernel
theorem dX6_looksBeyond_21 : decode cX6_looksBeyond 21 = .ok (.iaload, 1) := by decide +kernel
theorem dX6_looksBeyond_22 : decode cX6_looksBeyond 22 = .ok (.iload_n 1, 1) := by decide +kernel
theorem dX6_looksBeyond_23 : decode cX6_looksBeyond 23 = .ok (.if_icmp .le 5, 3) := by decide +kernel
theorem dX6_looksBeyond_26 : decode cX6_looksBeyond 26 = .ok (.iconst 1, 1) := by decide +kernel
theorem dX6_looksBeyond_27 : decode cX6_looksBeyond 27 = .ok (.ireturn, 1) := by decide +kernel
theorem dX6_looksBeyond_28 : decode cX6_looksBeyond 28 = .ok (.iinc 2 1, 3) := by decide +kernel
theorem dX6_looksBeyond_31 : decode cX6_looksBeyond 31 = .ok (.goto (-29), 3) := by decide +kernel
theorem dX6_looksBeyond_34 : decode cX6_looksBeyond 34 = .ok (.iconst 0, 1) := by decide +kernel
theorem dX6_looksBeyond_35 : decode cX6_looksBeyond 35 = .ok (.ireturn, 1) := by decide +kernel
theorem dX6_fit_0 : decode cX6_fit 0 = .ok (.iconst 0, 1) := by decide +kernel
theorem dX6_fit_1 : decode cX6_fit 1 = .ok (.istore_n 3, 1) := by decide +kernel
theorem dX6_fit_2 : decode cX6_fit 2 = .ok (.iload_n 3, 1) := by decide +kernel
theorem dX6_fit_3 : decode cX6_fit 3 = .ok (.aload_n 0, 1) := by decide +kernel
theorem dX6_fit_4 : decode cX6_fit 4 = .ok (.getfield 21, 3) := by decide +kernel
theorem dX6_fit_7 : decode cX6_fit 7 = .ok (.if_icmp .ge 36, 3) := by decide +kernel
theorem dX6_fit_10 : decode cX6_fit 10 = .ok (.iload_n 3, 1) := by decide +kernel
theorem dX6_fit_11 : decode cX6_fit 11 = .ok (.bipush 8, 2) := by decide +kernel
theorem dX6_fit_13 : decode cX6_fit 13 = .ok (.if_icmp .ge 30, 3) := by decide +kernel
theorem dX6_fit_16 : decode cX6_fit 16 = .ok (.aload_n 0, 1) := by decide +kernel
theorem dX6_fit_17 : decode cX6_fit 17 = .ok (.getfield 9, 3) := by decide +kernel
theorem dX6_fit_20 : decode cX6_fit 20 = .ok (.iload_n 3, 1) := by decide +kernel
theorem dX6_fit_21 : decode cX6_fit 21 = .ok (.iaload, 1) := by decide +kernel
theorem dX6_fit_22 : decode cX6_fit 22 = .ok (.iload_n 1, 1) := by decide +kernel
theorem dX6_fit_23 : decode cX6_fit 23 = .ok (.if_icmp .ne 14, 3) := by decide +kernel
theorem dX6_fit_26 : decode cX6_fit 26 = .ok (.aload_n 0, 1) := by decide +kernel
theorem dX6_fit_27 : decode cX6_fit 27 = .ok (.iload_n 3, 1) := by decide +kernel
theorem dX6_fit_28 : decode cX6_fit 28 = .ok (.aload_n 2, 1) := by decide +kernel
theorem dX6_fit_29 : decode cX6_fit 29 = .ok (.invokevirtual 29, 3) := by decide +kernel
theorem dX6_fit_32 : decode cX6_fit 32 = .ok (.ifCond .ne 5, 3) := by decide +kernel
theorem dX6_fit_35 : decode cX6_fit 35 = .ok (.iconst 0, 1) := by decide +kernel
theorem dX6_fit_36 : decode cX6_fit 36 = .ok (.ireturn, 1) := by decide +kernel
theorem dX6_fit_37 : decode cX6_fit 37 = .ok (.iinc 3 1, 3) := by decide +kernel
theorem dX6_fit_40 : decode cX6_fit 40 = .ok (.goto (-38), 3) := by decide +kernel
theorem dX6_fit_43 : decode cX6_fit 43 = .ok (.iconst 1, 1) := by decide +kernel
theorem dX6_fit_44 : decode cX6_fit 44 = .ok (.ireturn, 1) := by decide +kernel
theorem dX6_isSo_0 : decode cX6_isSo 0 = .ok (.aload_n 2, 1) := by decide +kernel
theorem dX6_isSo_1 : decode cX6_isSo 1 = .ok (.aload_n 0, 1) := by decide +kernel
theorem dX6_isSo_2 : decode cX6_isSo 2 = .ok (.getfield 15, 3) := by decide +kernel
theorem dX6_isSo_5 : decode cX6_isSo 5 = .ok (.iload_n 1, 1) := by decide +kernel
theorem dX6_isSo_6 : decode cX6_isSo 6 = .ok (.iaload, 1) := by decide +kernel
theorem dX6_isSo_7 : decode cX6_isSo 7 = .ok (.invokevirtual 33, 3) := by decide +kernel
theorem dX6_isSo_10 : decode cX6_isSo 10 = .ok (.ifCond .eq 26, 3) := by decide +kernel
theorem dX6_isSo_13 : decode cX6_isSo 13 = .ok (.aload_n 2, 1) := by decide +kernel
theorem dX6_isSo_14 : decode cX6_isSo 14 = .ok (.aload_n 0, 1) := by decide +kernel
theorem dX6_isSo_15 : decode cX6_isSo 15 = .ok (.getfield 15, 3) := by decide +kernel
theorem dX6_isSo_18 : decode cX6_isSo 18 = .ok (.iload_n 1, 1) := by decide +kernel
theorem dX6_isSo_19 : decode cX6_isSo 19 = .ok (.iaload, 1) := by decide +kernel
theorem dX6_isSo_20 : decode cX6_isSo 20 = .ok (.invokevirtual 39, 3) := by decide +kernel
theorem dX6_isSo_23 : decode cX6_isSo 23 = .ok (.aload_n 0, 1) := by decide +kernel
theorem dX6_isSo_24 : decode cX6_isSo 24 = .ok (.getfield 18, 3) := by decide +kernel
theorem dX6_isSo_27 : decode cX6_isSo 27 = .ok (.iload_n 1, 1) := by decide +kernel
theorem dX6_isSo_28 : decode cX6_isSo 28 = .ok (.iaload, 1) := by decide +kernel
theorem dX6_isSo_29 : decode cX6_isSo 29 = .ok (.if_icmp .ne 7, 3) := by decide +kernel
theorem dX6_isSo_32 : decode cX6_isSo 32 = .ok (.iconst 1, 1) := by decide +kernel
theorem dX6_isSo_33 : decode cX6_isSo 33 = .ok (.goto 4, 3) := by decide +kernel
theorem dX6_isSo_36 : decode cX6_isSo 36 = .ok (.iconst 0, 1) := by decide +kernel
theorem dX6_isSo_37 : decode cX6_isSo 37 = .ok (.ireturn, 1) := by decide +kernel
theorem dX7_ofLetter_0 : decode cX7_ofLetter 0 = .ok (.iload_n 0, 1) := by decide +kernel
theorem dX7_ofLetter_1 : decode cX7_ofLetter 1 = .ok (.lookupswitch 51 #[(78, 47), (83, 49), (110, 43), (115, 45)], 43) := by decide +kernel
theorem dX7_ofLetter_44 : decode cX7_ofLetter 44 = .ok (.iconst 0, 1) := by decide +kernel
theorem dX7_ofLetter_45 : decode cX7_ofLetter 45 = .ok (.ireturn, 1) := by decide +kernel
theorem dX7_ofLetter_46 : decode cX7_ofLetter 46 = .ok (.iconst 1, 1) := by decide +kernel
theorem dX7_ofLetter_47 : decode cX7_ofLetter 47 = .ok (.ireturn, 1) := by decide +kernel
theorem dX7_ofLetter_48 : decode cX7_ofLetter 48 = .ok (.iconst 2, 1) := by decide +kernel
theorem dX7_ofLetter_49 : decode cX7_ofLetter 49 = .ok (.ireturn, 1) := by decide +kernel
theorem dX7_ofLetter_50 : decode cX7_ofLetter 50 = .ok (.iconst 3, 1) := by decide +kernel
theorem dX7_ofLetter_51 : decode cX7_ofLetter 51 = .ok (.ireturn, 1) := by decide +kernel
theorem dX7_ofLetter_52 : decode cX7_ofLetter 52 = .ok (.iconst (-1), 1) := by decide +kernel
theorem dX7_ofLetter_53 : decode cX7_ofLetter 53 = .ok (.ireturn, 1) := by decide +kernel
theorem dX7_columnOf_0 : decode cX7_columnOf 0 = .ok (.iload_n 0, 1) := by decide +kernel
theorem dX7_columnOf_1 : decode cX7_columnOf 1 = .ok (.bipush 48, 2) := by decide +kernel
theorem dX7_columnOf_3 : decode cX7_columnOf 3 = .ok (.if_icmp .lt 16, 3) := by decide +kernel
theorem dX7_columnOf_6 : decode cX7_columnOf 6 = .ok (.iload_n 0, 1) := by decide +kernel
theorem dX7_columnOf_7 : decode cX7_columnOf 7 = .ok (.bipush 55, 2) := by decide +kernel
theorem dX7_columnOf_9 : decode cX7_columnOf 9 = .ok (.if_icmp .gt 10, 3) := by decide +kernel
theorem dX7_columnOf_12 : decode cX7_columnOf 12 = .ok (.iload_n 0, 1) := by decide +kernel
theorem dX7_columnOf_13 : decode cX7_columnOf 13 = .ok (.bipush 48, 2) := by decide +kernel
theorem dX7_columnOf_15 : decode cX7_columnOf 15 = .ok (.isub, 1) := by decide +kernel
theorem dX7_columnOf_16 : decode cX7_columnOf 16 = .ok (.goto 4, 3) := by decide +kernel
theorem dX7_columnOf_19 : decode cX7_columnOf 19 = .ok (.iconst (-1), 1) := by decide +kernel
theorem dX7_columnOf_20 : decode cX7_columnOf 20 = .ok (.ireturn, 1) := by decide +kernel
theorem dX7_ownerOf_0 : decode cX7_ownerOf 0 = .ok (.iload_n 0, 1) := by decide +kernel
theorem dX7_ownerOf_1 : decode cX7_ownerOf 1 = .ok (.iconst 1, 1) := by decide +kernel
theorem dX7_ownerOf_2 : decode cX7_ownerOf 2 = .ok (.iand, 1) := by decide +kernel
theorem dX7_ownerOf_3 : decode cX7_ownerOf 3 = .ok (.ireturn, 1) := by decide +kernel
theorem dX7_weightOf_0 : decode cX7_weightOf 0 = .ok (.iload_n 0, 1) := by decide +kernel
theorem dX7_weightOf_1 : decode cX7_weightOf 1 = .ok (.iconst 2, 1) := by decide +kernel
theorem dX7_weightOf_2 : decode cX7_weightOf 2 = .ok (.if_icmp .lt 7, 3) := by decide +kernel
theorem dX7_weightOf_5 : decode cX7_weightOf 5 = .ok (.iconst 2, 1) := by decide +kernel
theorem dX7_weightOf_6 : decode cX7_weightOf 6 = .ok (.goto 4, 3) := by decide +kernel
theorem dX7_weightOf_9 : decode cX7_weightOf 9 = .ok (.iconst 1, 1) := by decide +kernel
theorem dX7_weightOf_10 : decode cX7_weightOf 10 = .ok (.ireturn, 1) := by decide +kernel
theorem dX7_pullOf_0 : decode cX7_pullOf 0 = .ok (.iload_n 0, 1) := by decide +kernel
theorem dX7_pullOf_1 : decode cX7_pullOf 1 = .ok (.iconst 2, 1) := by decide +kernel
theorem dX7_pullOf_2 : decode cX7_pullOf 2 = .ok (.if_icmp .lt 7, 3) := by decide +kernel
theorem dX7_pullOf_5 : decode cX7_pullOf 5 = .ok (.iconst 2, 1) := by decide +kernel
theorem dX7_pullOf_6 : decode cX7_pullOf 6 = .ok (.goto 4, 3) := by decide +kernel
theorem dX7_pullOf_9 : decode cX7_pullOf 9 = .ok (.iconst 1, 1) := by decide +kernel
theorem dX7_pullOf_10 : decode cX7_pullOf 10 = .ok (.istore_n 1, 1) := by decide +kernel
theorem dX7_pullOf_11 : decode cX7_pullOf 11 = .ok (.iload_n 0, 1) := by decide +kernel
theorem dX7_pullOf_12 : decode cX7_pullOf 12 = .ok (.iconst 1, 1) := by decide +kernel
theorem dX7_pullOf_13 : decode cX7_pullOf 13 = .ok (.iand, 1) := by decide +kernel
theorem dX7_pullOf_14 : decode cX7_pullOf 14 = .ok (.ifCond .ne 7, 3) := by decide +kernel
theorem dX7_pullOf_17 : decode cX7_pullOf 17 = .ok (.iload_n 1, 1) := by decide +kernel
theorem dX7_pullOf_18 : decode cX7_pullOf 18 = .ok (.goto 5, 3) := by decide +kernel
theorem dX7_pullOf_21 : decode cX7_pullOf 21 = .ok (.iload_n 1, 1) := by decide +kernel
theorem dX7_pullOf_22 : decode cX7_pullOf 22 = .ok (.ineg, 1) := by decide +kernel
theorem dX7_pullOf_23 : decode cX7_pullOf 23 = .ok (.ireturn, 1) := by decide +kernel
theorem dX8_init_0 : decode cX8_init 0 = .ok (.aload_n 0, 1) := by decide +kernel
theorem dX8_init_1 : decode cX8_init 1 = .ok (.invokespecial 3, 3) := by decide +kernel
theorem dX8_init_4 : decode cX8_init 4 = .ok (.aload_n 0, 1) := by decide +kernel
theorem dX8_init_5 : decode cX8_init 5 = .ok (.bipush 63, 2) := by decide +kernel
theorem dX8_init_7 : decode cX8_init 7 = .ok (.newarray .int, 2) := by decide +kernel
theorem dX8_init_9 : decode cX8_init 9 = .ok (.putfield 9, 3) := by decide +kernel
theorem dX8_init_12 : decode cX8_init 12 = .ok (.aload_n 0, 1) := by decide +kernel
theorem dX8_init_13 : decode cX8_init 13 = .ok (.iconst 0, 1) := by decide +kernel
theorem dX8_init_14 : decode cX8_init 14 = .ok (.putfield 15, 3) := by decide +kernel
theorem dX8_init_17 : decode cX8_init 17 = .ok (.aload_n 0, 1) := by decide +kernel
theorem dX8_init_18 : decode cX8_init 18 = .ok (.iload_n 1, 1) := by decide +kernel
theorem dX8_init_19 : decode cX8_init 19 = .ok (.bipush 63, 2) := by decide +kernel
theorem dX8_init_21 : decode cX8_init 21 = .ok (.invokestatic 19, 3) := by decide +kernel
theorem dX8_init_24 : decode cX8_init 24 = .ok (.putfield 25, 3) := by decide +kernel
theorem dX8_init_27 : decode cX8_init 27 = .ok (.return_, 1) := by decide +kernel
theorem dX8_size_0 : decode cX8_size 0 = .ok (.aload_n 0, 1) := by decide +kernel
theorem dX8_size_1 : decode cX8_size 1 = .ok (.getfield 15, 3) := by decide +kernel
theorem dX8_size_4 : decode cX8_size 4 = .ok (.ireturn, 1) := by decide +kernel
theorem dX8_isFull_0 : decode cX8_isFull 0 = .ok (.aload_n 0, 1) := by decide +kernel
theorem dX8_isFull_1 : decode cX8_isFull 1 = .ok (.getfield 15, 3) := by decide +kernel
theorem dX8_isFull_4 : decode cX8_isFull 4 = .ok (.aload_n 0, 1) := by decide +kernel
theorem dX8_isFull_5 : decode cX8_isFull 5 = .ok (.getfield 25, 3) := by decide +kernel
theorem dX8_isFull_8 : decode cX8_isFull 8 = .ok (.if_icmp .lt 7, 3) := by decide +kernel
theorem dX8_isFull_11 : decode cX8_isFull 11 = .ok (.iconst 1, 1) := by decide +kernel
theorem dX8_isFull_12 : decode cX8_isFull 12 = .ok (.goto 4, 3) := by decide +kernel
theorem dX8_isFull_15 : decode cX8_isFull 15 = .ok (.iconst 0, 1) := by decide +kernel
theorem dX8_isFull_16 : decode cX8_isFull 16 = .ok (.ireturn, 1) := by decide +kernel
theorem dX8_add_0 : decode cX8_add 0 = .ok (.aload_n 0, 1) := by decide +kernel
theorem dX8_add_1 : decode cX8_add 1 = .ok (.getfield 15, 3) := by decide +kernel
theorem dX8_add_4 : decode cX8_add 4 = .ok (.ifCond .lt 34, 3) := by decide +kernel
theorem dX8_add_7 : decode cX8_add 7 = .ok (.aload_n 0, 1) := by decide +kernel
theorem dX8_add_8 : decode cX8_add 8 = .ok (.getfield 15, 3) := by decide +kernel
theorem dX8_add_11 : decode cX8_add 11 = .ok (.aload_n 0, 1) := by decide +kernel
theorem dX8_add_12 : decode cX8_add 12 = .ok (.getfield 25, 3) := by decide +kernel
theorem dX8_add_15 : decode cX8_add 15 = .ok (.if_icmp .ge 23, 3) := by decide +kernel
theorem dX8_add_18 : decode cX8_add 18 = .ok (.aload_n 0, 1) := by decide +kernel
theorem dX8_add_19 : decode cX8_add 19 = .ok (.getfield 9, 3) := by decide +kernel
theorem dX8_add_22 : decode cX8_add 22 = .ok (.aload_n 0, 1) := by decide +kernel
theorem dX8_add_23 : decode cX8_add 23 = .ok (.getfield 15, 3) := by decide +kernel
theorem dX8_add_26 : decode cX8_add 26 = .ok (.iload_n 1, 1) := by decide +kernel
theorem dX8_add_27 : decode cX8_add 27 = .ok (.iastore, 1) := by decide +kernel
theorem dX8_add_28 : decode cX8_add 28 = .ok (.aload_n 0, 1) := by decide +kernel
theorem dX8_add_29 : decode cX8_add 29 = .ok (.dup, 1) := by decide +kernel
theorem dX8_add_30 : decode cX8_add 30 = .ok (.getfield 15, 3) := by decide +kernel
theorem dX8_add_33 : decode cX8_add 33 = .ok (.iconst 1, 1) := by decide +kernel
theorem dX8_add_34 : decode cX8_add 34 = .ok (.iadd, 1) := by decide +kernel
theorem dX8_add_35 : decode cX8_add 35 = .ok (.putfield 15, 3) := by decide +kernel
theorem dX8_add_38 : decode cX8_add 38 = .ok (.return_, 1) := by decide +kernel
theorem dX8_cut_0 : decode cX8_cut 0 = .ok (.aload_n 0, 1) := by decide +kernel
theorem dX8_cut_1 : decode cX8_cut 1 = .ok (.getfield 15, 3) := by decide +kernel
theorem dX8_cut_4 : decode cX8_cut 4 = .ok (.ifCond .le 13, 3) := by decide +kernel
theorem dX8_cut_7 : decode cX8_cut 7 = .ok (.aload_n 0, 1) := by decide +kernel
theorem dX8_cut_8 : decode cX8_cut 8 = .ok (.dup, 1) := by decide +kernel
theorem dX8_cut_9 : decode cX8_cut 9 = .ok (.getfield 15, 3) := by decide +kernel
theorem dX8_cut_12 : decode cX8_cut 12 = .ok (.iconst 1, 1) := by decide +kernel
theorem dX8_cut_13 : decode cX8_cut 13 = .ok (.isub, 1) := by decide +kernel
theorem dX8_cut_14 : decode cX8_cut 14 = .ok (.putfield 15, 3) := by decide +kernel
theorem dX8_cut_17 : decode cX8_cut 17 = .ok (.return_, 1) := by decide +kernel
theorem dX8_clear_0 : decode cX8_clear 0 = .ok (.aload_n 0, 1) := by decide +kernel
theorem dX8_clear_1 : decode cX8_clear 1 = .ok (.iconst 0, 1) := by decide +kernel
theorem dX8_clear_2 : decode cX8_clear 2 = .ok (.putfield 15, 3) := by decide +kernel
theorem dX8_clear_5 : decode cX8_clear 5 = .ok (.return_, 1) := by decide +kernel
theorem dX8_byteAt_0 : decode cX8_byteAt 0 = .ok (.iload_n 1, 1) := by decide +kernel
theorem dX8_byteAt_1 : decode cX8_byteAt 1 = .ok (.ifCond .lt 20, 3) := by decide +kernel
theorem dX8_byteAt_4 : decode cX8_byteAt 4 = .ok (.iload_n 1, 1) := by decide +kernel
theorem dX8_byteAt_5 : decode cX8_byteAt 5 = .ok (.aload_n 0, 1) := by decide +kernel
theorem dX8_byteAt_6 : decode cX8_byteAt 6 = .ok (.getfield 15, 3) := by decide +kernel
theorem dX8_byteAt_9 : decode cX8_byteAt 9 = .ok (.if_icmp .ge 12, 3) := by decide +kernel
theorem dX8_byteAt_12 : decode cX8_byteAt 12 = .ok (.aload_n 0, 1) := by decide +kernel
theorem dX8_byteAt_13 : decode cX8_byteAt 13 = .ok (.getfield 9, 3) := by decide +kernel
theorem dX8_byteAt_16 : decode cX8_byteAt 16 = .ok (.iload_n 1, 1) := by decide +kernel
theorem dX8_byteAt_17 : decode cX8_byteAt 17 = .ok (.iaload, 1) := by decide +kernel
theorem dX8_byteAt_18 : decode cX8_byteAt 18 = .ok (.goto 4, 3) := by decide +kernel
theorem dX8_byteAt_21 : decode cX8_byteAt 21 = .ok (.iconst (-1), 1) := by decide +kernel
theorem dX8_byteAt_22 : decode cX8_byteAt 22 = .ok (.ireturn, 1) := by decide +kernel
theorem dX9_init_0 : decode cX9_init 0 = .ok (.aload_n 0, 1) := by decide +kernel
theorem dX9_init_1 : decode cX9_init 1 = .ok (.invokespecial 3, 3) := by decide +kernel
theorem dX9_init_4 : decode cX9_init 4 = .ok (.aload_n 0, 1) := by decide +kernel
theorem dX9_init_5 : decode cX9_init 5 = .ok (.bipush 64, 2) := by decide +kernel
theorem dX9_init_7 : decode cX9_init 7 = .ok (.newarray .int, 2) := by decide +kernel
theorem dX9_init_9 : decode cX9_init 9 = .ok (.putfield 9, 3) := by decide +kernel
theorem dX9_init_12 : decode cX9_init 12 = .ok (.aload_n 0, 1) := by decide +kernel
theorem dX9_init_13 : decode cX9_init 13 = .ok (.bipush 8, 2) := by decide +kernel
theorem dX9_init_15 : decode cX9_init 15 = .ok (.newarray .int, 2) := by decide +kernel
theorem dX9_init_17 : decode cX9_init 17 = .ok (.putfield 15, 3) := by decide +kernel
theorem dX9_init_20 : decode cX9_init 20 = .ok (.aload_n 0, 1) := by decide +kernel
theorem dX9_init_21 : decode cX9_init 21 = .ok (.bipush 8, 2) := by decide +kernel
theorem dX9_init_23 : decode cX9_init 23 = .ok (.newarray .int, 2) := by decide +kernel
theorem dX9_init_25 : decode cX9_init 25 = .ok (.putfield 18, 3) := by decide +kernel
theorem dX9_init_28 : decode cX9_init 28 = .ok (.aload_n 0, 1) := by decide +kernel
theorem dX9_init_29 : decode cX9_init 29 = .ok (.bipush 8, 2) := by decide +kernel
theorem dX9_init_31 : decode cX9_init 31 = .ok (.newarray .int, 2) := by decide +kernel
theorem dX9_init_33 : decode cX9_init 33 = .ok (.putfield 21, 3) := by decide +kernel
theorem dX9_init_36 : decode cX9_init 36 = .ok (.aload_n 0, 1) := by decide +kernel
theorem dX9_init_37 : decode cX9_init 37 = .ok (.iconst 0, 1) := by decide +kernel
theorem dX9_init_38 : decode cX9_init 38 = .ok (.putfield 24, 3) := by decide +kernel
theorem dX9_init_41 : decode cX9_init 41 = .ok (.return_, 1) := by decide +kernel
theorem dX9_parse_0 : decode cX9_parse 0 = .ok (.aload_n 0, 1) := by decide +kernel
theorem dX9_parse_1 : decode cX9_parse 1 = .ok (.invokevirtual 28, 3) := by decide +kernel
theorem dX9_parse_4 : decode cX9_parse 4 = .ok (.aload_n 1, 1) := by decide +kernel
theorem dX9_parse_5 : decode cX9_parse 5 = .ok (.invokevirtual 31, 3) := by decide +kernel
theorem dX9_parse_8 : decode cX9_parse 8 = .ok (.ifCond .le 8, 3) := by decide +kernel
theorem dX9_parse_11 : decode cX9_parse 11 = .ok (.aload_n 0, 1) := by decide +kernel
theorem dX9_parse_12 : decode cX9_parse 12 = .ok (.iconst 1, 1) := by decide +kernel
theorem dX9_parse_13 : decode cX9_parse 13 = .ok (.putfield 24, 3) := by decide +kernel
theorem dX9_parse_16 : decode cX9_parse 16 = .ok (.iconst 0, 1) := by decide +kernel
theorem dX9_parse_17 : decode cX9_parse 17 = .ok (.istore_n 2, 1) := by decide +kernel
theorem dX9_parse_18 : decode cX9_parse 18 = .ok (.iload_n 2, 1) := by decide +kernel
theorem dX9_parse_19 : decode cX9_parse 19 = .ok (.aload_n 1, 1) := by decide +kernel
theorem dX9_parse_20 : decode cX9_parse 20 = .ok (.invokevirtual 31, 3) := by decide +kernel
theorem dX9_parse_23 : decode cX9_parse 23 = .ok (.if_icmp .ge 27, 3) := by decide +kernel
theorem dX9_parse_26 : decode cX9_parse 26 = .ok (.aload_n 0, 1) := by decide +kernel
theorem dX9_parse_27 : decode cX9_parse 27 = .ok (.aload_n 1, 1) := by decide +kernel
theorem dX9_parse_28 : decode cX9_parse 28 = .ok (.iload_n 2, 1) := by decide +kernel
theorem dX9_parse_29 : decode cX9_parse 29 = .ok (.invokevirtual 37, 3) := by decide +kernel
theorem dX9_parse_32 : decode cX9_parse 32 = .ok (.invokevirtual 41, 3) := by decide +kernel
theorem dX9_parse_35 : decode cX9_parse 35 = .ok (.ifCond .ne 9, 3) := by decide +kernel
theorem dX9_parse_38 : decode cX9_parse 38 = .ok (.aload_n 0, 1) := by decide +kernel
theorem dX9_parse_39 : decode cX9_parse 39 = .ok (.invokevirtual 28, 3) := by decide +kernel
theorem dX9_parse_42 : decode cX9_parse 42 = .ok (.iload_n 2, 1) := by decide +kernel
theorem dX9_parse_43 : decode cX9_parse 43 = .ok (.ireturn, 1) := by decide +kernel
theorem dX9_parse_44 : decode cX9_parse 44 = .ok (.iinc 2 1, 3) := by decide +kernel
theorem dX9_parse_47 : decode cX9_parse 47 = .ok (.goto (-29), 3) := by decide +kernel
theorem dX9_parse_50 : decode cX9_parse 50 = .ok (.iconst (-1), 1) := by decide +kernel
theorem dX9_parse_51 : decode cX9_parse 51 = .ok (.ireturn, 1) := by decide +kernel
theorem dX9_grow_0 : decode cX9_grow 0 = .ok (.iload_n 1, 1) := by decide +kernel
theorem dX9_grow_1 : decode cX9_grow 1 = .ok (.bipush 59, 2) := by decide +kernel
theorem dX9_grow_3 : decode cX9_grow 3 = .ok (.if_icmp .ne 26, 3) := by decide +kernel
theorem dX9_grow_6 : decode cX9_grow 6 = .ok (.aload_n 0, 1) := by decide +kernel
theorem dX9_grow_7 : decode cX9_grow 7 = .ok (.getfield 24, 3) := by decide +kernel
theorem dX9_grow_10 : decode cX9_grow 10 = .ok (.bipush 8, 2) := by decide +kernel
theorem dX9_grow_12 : decode cX9_grow 12 = .ok (.if_icmp .lt 5, 3) := by decide +kernel
theorem dX9_grow_15 : decode cX9_grow 15 = .ok (.iconst 0, 1) := by decide +kernel
theorem dX9_grow_16 : decode cX9_grow 16 = .ok (.ireturn, 1) := by decide +kernel
theorem dX9_grow_17 : decode cX9_grow 17 = .ok (.aload_n 0, 1) := by decide +kernel
theorem dX9_grow_18 : decode cX9_grow 18 = .ok (.dup, 1) := by decide +kernel
theorem dX9_grow_19 : decode cX9_grow 19 = .ok (.getfield 24, 3) := by decide +kernel
theorem dX9_grow_22 : decode cX9_grow 22 = .ok (.iconst 1, 1) := by decide +kernel
theorem dX9_grow_23 : decode cX9_grow 23 = .ok (.iadd, 1) := by decide +kernel
theorem dX9_grow_24 : decode cX9_grow 24 = .ok (.putfield 24, 3) := by decide +kernel
theorem dX9_grow_27 : decode cX9_grow 27 = .ok (.iconst 1, 1) := by decide +kernel
theorem dX9_grow_28 : decode cX9_grow 28 = .ok (.ireturn, 1) := by decide +kernel
theorem dX9_grow_29 : decode cX9_grow 29 = .ok (.iload_n 1, 1) := by decide +kernel
theorem dX9_grow_30 : decode cX9_grow 30 = .ok (.invokestatic 45, 3) := by decide +kernel
theorem dX9_grow_33 : decode cX9_grow 33 = .ok (.istore_n 2, 1) := by decide +kernel
theorem dX9_grow_34 : decode cX9_grow 34 = .ok (.iload_n 2, 1) := by decide +kernel
theorem dX9_grow_35 : decode cX9_grow 35 = .ok (.iconst (-1), 1) := by decide +kernel
theorem dX9_grow_36 : decode cX9_grow 36 = .ok (.if_icmp .eq 21, 3) := by decide +kernel
theorem dX9_grow_39 : decode cX9_grow 39 = .ok (.aload_n 0, 1) := by decide +kernel
theorem dX9_grow_40 : decode cX9_grow 40 = .ok (.aload_n 0, 1) := by decide +kernel
theorem dX9_grow_41 : decode cX9_grow 41 = .ok (.getfield 24, 3) := by decide +kernel
theorem dX9_grow_44 : decode cX9_grow 44 = .ok (.iconst 1, 1) := by decide +kernel
theorem dX9_grow_45 : decode cX9_grow 45 = .ok (.isub, 1) := by decide +kernel
theorem dX9_grow_46 : decode cX9_grow 46 = .ok (.iload_n 2, 1) := by decide +kernel
theorem dX9_grow_47 : decode cX9_grow 47 = .ok (.invokevirtual 50, 3) := by decide +kernel
theorem dX9_grow_50 : decode cX9_grow 50 = .ok (.ifCond .eq 7, 3) := by decide +kernel
theorem dX9_grow_53 : decode cX9_grow 53 = .ok (.iconst 1, 1) := by decide +kernel
theorem dX9_grow_54 : decode cX9_grow 54 = .ok (.goto 4, 3) := by decide +kernel
theorem dX9_grow_57 : decode cX9_grow 57 = .ok (.iconst 0, 1) := by decide +kernel
theorem dX9_grow_58 : decode cX9_grow 58 = .ok (.ireturn, 1) := by decide +kernel
theorem dX9_raze_0 : decode cX9_raze 0 = .ok (.aload_n 0, 1) := by decide +kernel
theorem dX9_raze_1 : decode cX9_raze 1 = .ok (.iconst 0, 1) := by decide +kernel
theorem dX9_raze_2 : decode cX9_raze 2 = .ok (.putfield 24, 3) := by decide +kernel
theorem dX9_raze_5 : decode cX9_raze 5 = .ok (.iconst 0, 1) := by decide +kernel
theorem dX9_raze_6 : decode cX9_raze 6 = .ok (.istore_n 1, 1) := by decide +kernel
theorem dX9_raze_7 : decode cX9_raze 7 = .ok (.iload_n 1, 1) := by decide +kernel
theorem dX9_raze_8 : decode cX9_raze 8 = .ok (.bipush 8, 2) := by decide +kernel
theorem dX9_raze_10 : decode cX9_raze 10 = .ok (.if_icmp .ge 30, 3) := by decide +kernel
theorem dX9_raze_13 : decode cX9_raze 13 = .ok (.aload_n 0, 1) := by decide +kernel
theorem dX9_raze_14 : decode cX9_raze 14 = .ok (.getfield 15, 3) := by decide +kernel
theorem dX9_raze_17 : decode cX9_raze 17 = .ok (.iload_n 1, 1) := by decide +kernel
theorem dX9_raze_18 : decode cX9_raze 18 = .ok (.iconst 0, 1) := by decide +kernel
theorem dX9_raze_19 : decode cX9_raze 19 = .ok (.iastore, 1) := by decide +kernel
theorem dX9_raze_20 : decode cX9_raze 20 = .ok (.aload_n 0, 1) := by decide +kernel
theorem dX9_raze_21 : decode cX9_raze 21 = .ok (.getfield 18, 3) := by decide +kernel
theorem dX9_raze_24 : decode cX9_raze 24 = .ok (.iload_n 1, 1) := by decide +kernel
theorem dX9_raze_25 : decode cX9_raze 25 = .ok (.iconst 0, 1) := by decide +kernel
theorem dX9_raze_26 : decode cX9_raze 26 = .ok (.iastore, 1) := by decide +kernel
theorem dX9_raze_27 : decode cX9_raze 27 = .ok (.aload_n 0, 1) := by decide +kernel
theorem dX9_raze_28 : decode cX9_raze 28 = .ok (.getfield 21, 3) := by decide +kernel
theorem dX9_raze_31 : decode cX9_raze 31 = .ok (.iload_n 1, 1) := by decide +kernel
theorem dX9_raze_32 : decode cX9_raze 32 = .ok (.iconst 0, 1) := by decide +kernel
theorem dX9_raze_33 : decode cX9_raze 33 = .ok (.iastore, 1) := by decide +kernel
theorem dX9_raze_34 : decode cX9_raze 34 = .ok (.iinc 1 1, 3) := by decide +kernel
theorem dX9_raze_37 : decode cX9_raze 37 = .ok (.goto (-30), 3) := by decide +kernel
theorem dX9_raze_40 : decode cX9_raze 40 = .ok (.return_, 1) := by decide +kernel
theorem dX9_become_0 : decode cX9_become 0 = .ok (.aload_n 0, 1) := by decide +kernel
theorem dX9_become_1 : decode cX9_become 1 = .ok (.aload_n 1, 1) := by decide +kernel
theorem dX9_become_2 : decode cX9_become 2 = .ok (.getfield 24, 3) := by decide +kernel
theorem dX9_become_5 : decode cX9_become 5 = .ok (.putfield 24, 3) := by decide +kernel
theorem dX9_become_8 : decode cX9_become 8 = .ok (.aload_n 1, 1) := by decide +kernel
theorem dX9_become_9 : decode cX9_become 9 = .ok (.getfield 9, 3) := by decide +kernel
theorem dX9_become_12 : decode cX9_become 12 = .ok (.iconst 0, 1) := by decide +kernel
theorem dX9_become_13 : decode cX9_become 13 = .ok (.aload_n 0, 1) := by decide +kernel
theorem dX9_become_14 : decode cX9_become 14 = .ok (.getfield 9, 3) := by decide +kernel
theorem dX9_become_17 : decode cX9_become 17 = .ok (.iconst 0, 1) := by decide +kernel
theorem dX9_become_18 : decode cX9_become 18 = .ok (.bipush 64, 2) := by decide +kernel
theorem dX9_become_20 : decode cX9_become 20 = .ok (.invokestatic 54, 3) := by decide +kernel
theorem dX9_become_23 : decode cX9_become 23 = .ok (.aload_n 1, 1) := by decide +kernel
theorem dX9_become_24 : decode cX9_become 24 = .ok (.getfield 15, 3) := by decide +kernel
theorem dX9_become_27 : decode cX9_become 27 = .ok (.iconst 0, 1) := by decide +kernel
theorem dX9_become_28 : decode cX9_become 28 = .ok (.aload_n 0, 1) := by decide +kernel
theorem dX9_become_29 : decode cX9_become 29 = .ok (.getfield 15, 3) := by decide +kernel
theorem dX9_become_32 : decode cX9_become 32 = .ok (.iconst 0, 1) := by decide +kernel
theorem dX9_become_33 : decode cX9_become 33 = .ok (.bipush 8, 2) := by decide +kernel
theorem dX9_become_35 : decode cX9_become 35 = .ok (.invokestatic 54, 3) := by decide +kernel
theorem dX9_become_38 : decode cX9_become 38 = .ok (.aload_n 1, 1) := by decide +kernel
theorem dX9_become_39 : decode cX9_become 39 = .ok (.getfield 18, 3) := by decide +kernel
theorem dX9_become_42 : decode cX9_become 42 = .ok (.iconst 0, 1) := by decide +kernel
theorem dX9_become_43 : decode cX9_become 43 = .ok (.aload_n 0, 1) := by decide +kernel
theorem dX9_become_44 : decode cX9_become 44 = .ok (.getfield 18, 3) := by decide +kernel
theorem dX9_become_47 : decode cX9_become 47 = .ok (.iconst 0, 1) := by decide +kernel
theorem dX9_become_48 : decode cX9_become 48 = .ok (.bipush 8, 2) := by decide +kernel
theorem dX9_become_50 : decode cX9_become 50 = .ok (.invokestatic 54, 3) := by decide +kernel
theorem dX9_become_53 : decode cX9_become 53 = .ok (.aload_n 1, 1) := by decide +kernel
theorem dX9_become_54 : decode cX9_become 54 = .ok (.getfield 21, 3) := by decide +kernel
theorem dX9_become_57 : decode cX9_become 57 = .ok (.iconst 0, 1) := by decide +kernel
theorem dX9_become_58 : decode cX9_become 58 = .ok (.aload_n 0, 1) := by decide +kernel
theorem dX9_become_59 : decode cX9_become 59 = .ok (.getfield 21, 3) := by decide +kernel
theorem dX9_become_62 : decode cX9_become 62 = .ok (.iconst 0, 1) := by decide +kernel
theorem dX9_become_63 : decode cX9_become 63 = .ok (.bipush 8, 2) := by decide +kernel
theorem dX9_become_65 : decode cX9_become 65 = .ok (.invokestatic 54, 3) := by decide +kernel
theorem dX9_become_68 : decode cX9_become 68 = .ok (.return_, 1) := by decide +kernel
theorem dX9_has_0 : decode cX9_has 0 = .ok (.iload_n 1, 1) := by decide +kernel
theorem dX9_has_1 : decode cX9_has 1 = .ok (.ifCond .lt 21, 3) := by decide +kernel
theorem dX9_has_4 : decode cX9_has 4 = .ok (.iload_n 1, 1) := by decide +kernel
theorem dX9_has_5 : decode cX9_has 5 = .ok (.aload_n 0, 1) := by decide +kernel
theorem dX9_has_6 : decode cX9_has 6 = .ok (.getfield 24, 3) := by decide +kernel
theorem dX9_has_9 : decode cX9_has 9 = .ok (.if_icmp .ge 13, 3) := by decide +kernel
theorem dX9_has_12 : decode cX9_has 12 = .ok (.iload_n 1, 1) := by decide +kernel
theorem dX9_has_13 : decode cX9_has 13 = .ok (.bipush 8, 2) := by decide +kernel
theorem dX9_has_15 : decode cX9_has 15 = .ok (.if_icmp .ge 7, 3) := by decide +kernel
theorem dX9_has_18 : decode cX9_has 18 = .ok (.iconst 1, 1) := by decide +kernel
theorem dX9_has_19 : decode cX9_has 19 = .ok (.goto 4, 3) := by decide +kernel
theorem dX9_has_22 : decode cX9_has 22 = .ok (.iconst 0, 1) := by decide +kernel
theorem dX9_has_23 : decode cX9_has 23 = .ok (.ireturn, 1) := by decide +kernel
theorem dX9_columnCount_0 : decode cX9_columnCount 0 = .ok (.aload_n 0, 1) := by decide +kernel
theorem dX9_columnCount_1 : decode cX9_columnCount 1 = .ok (.getfield 24, 3) := by decide +kernel
theorem dX9_columnCount_4 : decode cX9_columnCount 4 = .ok (.ireturn, 1) := by decide +kernel
theorem dX9_sizeOf_0 : decode cX9_sizeOf 0 = .ok (.aload_n 0, 1) := by decide +kernel
theorem dX9_sizeOf_1 : decode cX9_sizeOf 1 = .ok (.iload_n 1, 1) := by decide +kernel
theorem dX9_sizeOf_2 : decode cX9_sizeOf 2 = .ok (.invokevirtual 60, 3) := by decide +kernel
theorem dX9_sizeOf_5 : decode cX9_sizeOf 5 = .ok (.ifCond .eq 12, 3) := by decide +kernel
theorem dX9_sizeOf_8 : decode cX9_sizeOf 8 = .ok (.aload_n 0, 1) := by decide +kernel
theorem dX9_sizeOf_9 : decode cX9_sizeOf 9 = .ok (.getfield 15, 3) := by decide +kernel
theorem dX9_sizeOf_12 : decode cX9_sizeOf 12 = .ok (.iload_n 1, 1) := by decide +kernel
theorem dX9_sizeOf_13 : decode cX9_sizeOf 13 = .ok (.iaload, 1) := by decide +kernel
theorem dX9_sizeOf_14 : decode cX9_sizeOf 14 = .ok (.goto 4, 3) := by decide +kernel
theorem dX9_sizeOf_17 : decode cX9_sizeOf 17 = .ok (.iconst 0, 1) := by decide +kernel
theorem dX9_sizeOf_18 : decode cX9_sizeOf 18 = .ok (.ireturn, 1) := by decide +kernel
theorem dX9_heightOf_0 : decode cX9_heightOf 0 = .ok (.iload_n 1, 1) := by decide +kernel
theorem dX9_heightOf_1 : decode cX9_heightOf 1 = .ok (.ifCond .lt 26, 3) := by decide +kernel
theorem dX9_heightOf_4 : decode cX9_heightOf 4 = .ok (.iload_n 1, 1) := by decide +kernel
theorem dX9_heightOf_5 : decode cX9_heightOf 5 = .ok (.aload_n 0, 1) := by decide +kernel
theorem dX9_heightOf_6 : decode cX9_heightOf 6 = .ok (.getfield 24, 3) := by decide +kernel
theorem dX9_heightOf_9 : decode cX9_heightOf 9 = .ok (.if_icmp .ge 18, 3) := by decide +kernel
theorem dX9_heightOf_12 : decode cX9_heightOf 12 = .ok (.iload_n 1, 1) := by decide +kernel
theorem dX9_heightOf_13 : decode cX9_heightOf 13 = .ok (.bipush 8, 2) := by decide +kernel
theorem dX9_heightOf_15 : decode cX9_heightOf 15 = .ok (.if_icmp .ge 12, 3) := by decide +kernel
theorem dX9_heightOf_18 : decode cX9_heightOf 18 = .ok (.aload_n 0, 1) := by decide +kernel
theorem dX9_heightOf_19 : decode cX9_heightOf 19 = .ok (.getfield 18, 3) := by decide +kernel
theorem dX9_heightOf_22 : decode cX9_heightOf 22 = .ok (.iload_n 1, 1) := by decide +kernel
theorem dX9_heightOf_23 : decode cX9_heightOf 23 = .ok (.iaload, 1) := by decide +kernel
theorem dX9_heightOf_24 : decode cX9_heightOf 24 = .ok (.goto 4, 3) := by decide +kernel
theorem dX9_heightOf_27 : decode cX9_heightOf 27 = .ok (.iconst 0, 1) := by decide +kernel
theorem dX9_heightOf_28 : decode cX9_heightOf 28 = .ok (.ireturn, 1) := by decide +kernel
theorem dX9_leanOf_0 : decode cX9_leanOf 0 = .ok (.iload_n 1, 1) := by decide +kernel
theorem dX9_leanOf_1 : decode cX9_leanOf 1 = .ok (.ifCond .lt 26, 3) := by decide +kernel
theorem dX9_leanOf_4 : decode cX9_leanOf 4 = .ok (.iload_n 1, 1) := by decide +kernel
theorem dX9_leanOf_5 : decode cX9_leanOf 5 = .ok (.aload_n 0, 1) := by decide +kernel
theorem dX9_leanOf_6 : decode cX9_leanOf 6 = .ok (.getfield 24, 3) := by decide +kernel
theorem dX9_leanOf_9 : decode cX9_leanOf 9 = .ok (.if_icmp .ge 18, 3) := by decide +kernel
theorem dX9_leanOf_12 : decode cX9_leanOf 12 = .ok (.iload_n 1, 1) := by decide +kernel
theorem dX9_leanOf_13 : decode cX9_leanOf 13 = .ok (.bipush 8, 2) := by decide +kernel
theorem dX9_leanOf_15 : decode cX9_leanOf 15 = .ok (.if_icmp .ge 12, 3) := by decide +kernel
theorem dX9_leanOf_18 : decode cX9_leanOf 18 = .ok (.aload_n 0, 1) := by decide +kernel
theorem dX9_leanOf_19 : decode cX9_leanOf 19 = .ok (.getfield 21, 3) := by decide +kernel
theorem dX9_leanOf_22 : decode cX9_leanOf 22 = .ok (.iload_n 1, 1) := by decide +kernel
theorem dX9_leanOf_23 : decode cX9_leanOf 23 = .ok (.iaload, 1) := by decide +kernel
theorem dX9_leanOf_24 : decode cX9_leanOf 24 = .ok (.goto 4, 3) := by decide +kernel
theorem dX9_leanOf_27 : decode cX9_leanOf 27 = .ok (.iconst 0, 1) := by decide +kernel
theorem dX9_leanOf_28 : decode cX9_leanOf 28 = .ok (.ireturn, 1) := by decide +kernel
theorem dX9_stoneAt_0 : decode cX9_stoneAt 0 = .ok (.iload_n 2, 1) := by decide +kernel
theorem dX9_stoneAt_1 : decode cX9_stoneAt 1 = .ok (.ifCond .lt 32, 3) := by decide +kernel
theorem dX9_stoneAt_4 : decode cX9_stoneAt 4 = .ok (.iload_n 2, 1) := by decide +kernel
theorem dX9_stoneAt_5 : decode cX9_stoneAt 5 = .ok (.aload_n 0, 1) := by decide +kernel
theorem dX9_stoneAt_6 : decode cX9_stoneAt 6 = .ok (.iload_n 1, 1) := by decide +kernel
theorem dX9_stoneAt_7 : decode cX9_stoneAt 7 = .ok (.invokevirtual 63, 3) := by decide +kernel
theorem dX9_stoneAt_10 : decode cX9_stoneAt 10 = .ok (.if_icmp .ge 23, 3) := by decide +kernel
theorem dX9_stoneAt_13 : decode cX9_stoneAt 13 = .ok (.iload_n 2, 1) := by decide +kernel
theorem dX9_stoneAt_14 : decode cX9_stoneAt 14 = .ok (.bipush 8, 2) := by decide +kernel
theorem dX9_stoneAt_16 : decode cX9_stoneAt 16 = .ok (.if_icmp .ge 17, 3) := by decide +kernel
theorem dX9_stoneAt_19 : decode cX9_stoneAt 19 = .ok (.aload_n 0, 1) := by decide +kernel
theorem dX9_stoneAt_20 : decode cX9_stoneAt 20 = .ok (.getfield 9, 3) := by decide +kernel
theorem dX9_stoneAt_23 : decode cX9_stoneAt 23 = .ok (.iload_n 1, 1) := by decide +kernel
theorem dX9_stoneAt_24 : decode cX9_stoneAt 24 = .ok (.bipush 8, 2) := by decide +kernel
theorem dX9_stoneAt_26 : decode cX9_stoneAt 26 = .ok (.imul, 1) := by decide +kernel
theorem dX9_stoneAt_27 : decode cX9_stoneAt 27 = .ok (.iload_n 2, 1) := by decide +kernel
theorem dX9_stoneAt_28 : decode cX9_stoneAt 28 = .ok (.iadd, 1) := by decide +kernel
theorem dX9_stoneAt_29 : decode cX9_stoneAt 29 = .ok (.iaload, 1) := by decide +kernel
theorem dX9_stoneAt_30 : decode cX9_stoneAt 30 = .ok (.goto 4, 3) := by decide +kernel
theorem dX9_stoneAt_33 : decode cX9_stoneAt 33 = .ok (.iconst (-1), 1) := by decide +kernel
theorem dX9_stoneAt_34 : decode cX9_stoneAt 34 = .ok (.ireturn, 1) := by decide +kernel
theorem dX9_uppermost_0 : decode cX9_uppermost 0 = .ok (.iload_n 1, 1) := by decide +kernel
theorem dX9_uppermost_1 : decode cX9_uppermost 1 = .ok (.ifCond .lt 17, 3) := by decide +kernel
theorem dX9_uppermost_4 : decode cX9_uppermost 4 = .ok (.iload_n 1, 1) := by decide +kernel
theorem dX9_uppermost_5 : decode cX9_uppermost 5 = .ok (.aload_n 0, 1) := by decide +kernel
theorem dX9_uppermost_6 : decode cX9_uppermost 6 = .ok (.getfield 24, 3) := by decide +kernel
theorem dX9_uppermost_9 : decode cX9_uppermost 9 = .ok (.if_icmp .ge 9, 3) := by decide +kernel
theorem dX9_uppermost_12 : decode cX9_uppermost 12 = .ok (.iload_n 1, 1) := by decide +kernel
theorem dX9_uppermost_13 : decode cX9_uppermost 13 = .ok (.bipush 8, 2) := by decide +kernel
theorem dX9_uppermost_15 : decode cX9_uppermost 15 = .ok (.if_icmp .lt 5, 3) := by decide +kernel
theorem dX9_uppermost_18 : decode cX9_uppermost 18 = .ok (.iconst (-1), 1) := by decide +kernel
theorem dX9_uppermost_19 : decode cX9_uppermost 19 = .ok (.ireturn, 1) := by decide +kernel
theorem dX9_uppermost_20 : decode cX9_uppermost 20 = .ok (.aload_n 0, 1) := by decide +kernel
theorem dX9_uppermost_21 : decode cX9_uppermost 21 = .ok (.getfield 15, 3) := by decide +kernel
theorem dX9_uppermost_24 : decode cX9_uppermost 24 = .ok (.iload_n 1, 1) := by decide +kernel
theorem dX9_uppermost_25 : decode cX9_uppermost 25 = .ok (.iaload, 1) := by decide +kernel
theorem dX9_uppermost_26 : decode cX9_uppermost 26 = .ok (.iconst 1, 1) := by decide +kernel
theorem dX9_uppermost_27 : decode cX9_uppermost 27 = .ok (.isub, 1) := by decide +kernel
theorem dX9_uppermost_28 : decode cX9_uppermost 28 = .ok (.istore_n 2, 1) := by decide +kernel
theorem dX9_uppermost_29 : decode cX9_uppermost 29 = .ok (.iload_n 2, 1) := by decide +kernel
theorem dX9_uppermost_30 : decode cX9_uppermost 30 = .ok (.ifCond .lt 23, 3) := by decide +kernel
theorem dX9_uppermost_33 : decode cX9_uppermost 33 = .ok (.iload_n 2, 1) := by decide +kernel
theorem dX9_uppermost_34 : decode cX9_uppermost 34 = .ok (.bipush 8, 2) := by decide +kernel
theorem dX9_uppermost_36 : decode cX9_uppermost 36 = .ok (.if_icmp .ge 17, 3) := by decide +kernel
theorem dX9_uppermost_39 : decode cX9_uppermost 39 = .ok (.aload_n 0, 1) := by decide +kernel
theorem dX9_uppermost_40 : decode cX9_uppermost 40 = .ok (.getfield 9, 3) := by decide +kernel
theorem dX9_uppermost_43 : decode cX9_uppermost 43 = .ok (.iload_n 1, 1) := by decide +kernel
theorem dX9_uppermost_44 : decode cX9_uppermost 44 = .ok (.bipush 8, 2) := by decide +kernel
theorem dX9_uppermost_46 : decode cX9_uppermost 46 = .ok (.imul, 1) := by decide +kernel
theorem dX9_uppermost_47 : decode cX9_uppermost 47 = .ok (.iload_n 2, 1) := by decide +kernel
theorem dX9_uppermost_48 : decode cX9_uppermost 48 = .ok (.iadd, 1) := by decide +kernel
theorem dX9_uppermost_49 : decode cX9_uppermost 49 = .ok (.iaload, 1) := by decide +kernel
theorem dX9_uppermost_50 : decode cX9_uppermost 50 = .ok (.goto 4, 3) := by decide +kernel
theorem dX9_uppermost_53 : decode cX9_uppermost 53 = .ok (.iconst (-1), 1) := by decide +kernel
theorem dX9_uppermost_54 : decode cX9_uppermost 54 = .ok (.ireturn, 1) := by decide +kernel
theorem dX9_put_0 : decode cX9_put 0 = .ok (.aload_n 0, 1) := by decide +kernel
theorem dX9_put_1 : decode cX9_put 1 = .ok (.iload_n 1, 1) := by decide +kernel
theorem dX9_put_2 : decode cX9_put 2 = .ok (.invokevirtual 60, 3) := by decide +kernel
theorem dX9_put_5 : decode cX9_put 5 = .ok (.ifCond .eq 23, 3) := by decide +kernel
theorem dX9_put_8 : decode cX9_put 8 = .ok (.aload_n 0, 1) := by decide +kernel
theorem dX9_put_9 : decode cX9_put 9 = .ok (.getfield 15, 3) := by decide +kernel
theorem dX9_put_12 : decode cX9_put 12 = .ok (.iload_n 1, 1) := by decide +kernel
theorem dX9_put_13 : decode cX9_put 13 = .ok (.iaload, 1) := by decide +kernel
theorem dX9_put_14 : decode cX9_put 14 = .ok (.bipush 8, 2) := by decide +kernel
theorem dX9_put_16 : decode cX9_put 16 = .ok (.if_icmp .ge 12, 3) := by decide +kernel
theorem dX9_put_19 : decode cX9_put 19 = .ok (.aload_n 0, 1) := by decide +kernel
theorem dX9_put_20 : decode cX9_put 20 = .ok (.getfield 15, 3) := by decide +kernel
theorem dX9_put_23 : decode cX9_put 23 = .ok (.iload_n 1, 1) := by decide +kernel
theorem dX9_put_24 : decode cX9_put 24 = .ok (.iaload, 1) := by decide +kernel
theorem dX9_put_25 : decode cX9_put 25 = .ok (.ifCond .ge 5, 3) := by decide +kernel
theorem dX9_put_28 : decode cX9_put 28 = .ok (.iconst 0, 1) := by decide +kernel
theorem dX9_put_29 : decode cX9_put 29 = .ok (.ireturn, 1) := by decide +kernel
theorem dX9_put_30 : decode cX9_put 30 = .ok (.aload_n 0, 1) := by decide +kernel
theorem dX9_put_31 : decode cX9_put 31 = .ok (.getfield 9, 3) := by decide +kernel
theorem dX9_put_34 : decode cX9_put 34 = .ok (.iload_n 1, 1) := by decide +kernel
theorem dX9_put_35 : decode cX9_put 35 = .ok (.bipush 8, 2) := by decide +kernel
theorem dX9_put_37 : decode cX9_put 37 = .ok (.imul, 1) := by decide +kernel
theorem dX9_put_38 : decode cX9_put 38 = .ok (.aload_n 0, 1) := by decide +kernel
theorem dX9_put_39 : decode cX9_put 39 = .ok (.getfield 15, 3) := by decide +kernel
theorem dX9_put_42 : decode cX9_put 42 = .ok (.iload_n 1, 1) := by decide +kernel
theorem dX9_put_43 : decode cX9_put 43 = .ok (.iaload, 1) := by decide +kernel
theorem dX9_put_44 : decode cX9_put 44 = .ok (.iadd, 1) := by decide +kernel
theorem dX9_put_45 : decode cX9_put 45 = .ok (.iload_n 2, 1) := by decide +kernel
theorem dX9_put_46 : decode cX9_put 46 = .ok (.iastore, 1) := by decide +kernel
theorem dX9_put_47 : decode cX9_put 47 = .ok (.aload_n 0, 1) := by decide +kernel
theorem dX9_put_48 : decode cX9_put 48 = .ok (.getfield 15, 3) := by decide +kernel
theorem dX9_put_51 : decode cX9_put 51 = .ok (.iload_n 1, 1) := by decide +kernel
theorem dX9_put_52 : decode cX9_put 52 = .ok (.dup2, 1) := by decide +kernel
theorem dX9_put_53 : decode cX9_put 53 = .ok (.iaload, 1) := by decide +kernel
theorem dX9_put_54 : decode cX9_put 54 = .ok (.iconst 1, 1) := by decide +kernel
theorem dX9_put_55 : decode cX9_put 55 = .ok (.iadd, 1) := by decide +kernel
theorem dX9_put_56 : decode cX9_put 56 = .ok (.iastore, 1) := by decide +kernel
theorem dX9_put_57 : decode cX9_put 57 = .ok (.aload_n 0, 1) := by decide +kernel
theorem dX9_put_58 : decode cX9_put 58 = .ok (.getfield 18, 3) := by decide +kernel
theorem dX9_put_61 : decode cX9_put 61 = .ok (.iload_n 1, 1) := by decide +kernel
theorem dX9_put_62 : decode cX9_put 62 = .ok (.dup2, 1) := by decide +kernel
theorem dX9_put_63 : decode cX9_put 63 = .ok (.iaload, 1) := by decide +kernel
theorem dX9_put_64 : decode cX9_put 64 = .ok (.iload_n 2, 1) := by decide +kernel
theorem dX9_put_65 : decode cX9_put 65 = .ok (.invokestatic 66, 3) := by decide +kernel
theorem dX9_put_68 : decode cX9_put 68 = .ok (.iadd, 1) := by decide +kernel
theorem dX9_put_69 : decode cX9_put 69 = .ok (.iastore, 1) := by decide +kernel
theorem dX9_put_70 : decode cX9_put 70 = .ok (.aload_n 0, 1) := by decide +kernel
theorem dX9_put_71 : decode cX9_put 71 = .ok (.getfield 21, 3) := by decide +kernel
theorem dX9_put_74 : decode cX9_put 74 = .ok (.iload_n 1, 1) := by decide +kernel
theorem dX9_put_75 : decode cX9_put 75 = .ok (.dup2, 1) := by decide +kernel
theorem dX9_put_76 : decode cX9_put 76 = .ok (.iaload, 1) := by decide +kernel
theorem dX9_put_77 : decode cX9_put 77 = .ok (.iload_n 2, 1) := by decide +kernel
theorem dX9_put_78 : decode cX9_put 78 = .ok (.invokestatic 69, 3) := by decide +kernel
theorem dX9_put_81 : decode cX9_put 81 = .ok (.iadd, 1) := by decide +kernel
theorem dX9_put_82 : decode cX9_put 82 = .ok (.iastore, 1) := by decide +kernel
theorem dX9_put_83 : decode cX9_put 83 = .ok (.iconst 1, 1) := by decide +kernel
theorem dX9_put_84 : decode cX9_put 84 = .ok (.ireturn, 1) := by decide +kernel
theorem dX9_take_0 : decode cX9_take 0 = .ok (.aload_n 0, 1) := by decide +kernel
theorem dX9_take_1 : decode cX9_take 1 = .ok (.iload_n 1, 1) := by decide +kernel
theorem dX9_take_2 : decode cX9_take 2 = .ok (.invokevirtual 72, 3) := by decide +kernel
theorem dX9_take_5 : decode cX9_take 5 = .ok (.istore_n 2, 1) := by decide +kernel
theorem dX9_take_6 : decode cX9_take 6 = .ok (.iload_n 2, 1) := by decide +kernel
theorem dX9_take_7 : decode cX9_take 7 = .ok (.iconst (-1), 1) := by decide +kernel
theorem dX9_take_8 : decode cX9_take 8 = .ok (.if_icmp .eq 39, 3) := by decide +kernel
theorem dX9_take_11 : decode cX9_take 11 = .ok (.aload_n 0, 1) := by decide +kernel
theorem dX9_take_12 : decode cX9_take 12 = .ok (.getfield 15, 3) := by decide +kernel
theorem dX9_take_15 : decode cX9_take 15 = .ok (.iload_n 1, 1) := by decide +kernel
theorem dX9_take_16 : decode cX9_take 16 = .ok (.dup2, 1) := by decide +kernel
theorem dX9_take_17 : decode cX9_take 17 = .ok (.iaload, 1) := by decide +kernel
theorem dX9_take_18 : decode cX9_take 18 = .ok (.iconst 1, 1) := by decide +kernel
theorem dX9_take_19 : decode cX9_take 19 = .ok (.isub, 1) := by decide +kernel
theorem dX9_take_20 : decode cX9_take 20 = .ok (.iastore, 1) := by decide +kernel
theorem dX9_take_21 : decode cX9_take 21 = .ok (.aload_n 0, 1) := by decide +kernel
theorem dX9_take_22 : decode cX9_take 22 = .ok (.getfield 18, 3) := by decide +kernel
theorem dX9_take_25 : decode cX9_take 25 = .ok (.iload_n 1, 1) := by decide +kernel
theorem dX9_take_26 : decode cX9_take 26 = .ok (.dup2, 1) := by decide +kernel
theorem dX9_take_27 : decode cX9_take 27 = .ok (.iaload, 1) := by decide +kernel
theorem dX9_take_28 : decode cX9_take 28 = .ok (.iload_n 2, 1) := by decide +kernel
theorem dX9_take_29 : decode cX9_take 29 = .ok (.invokestatic 66, 3) := by decide +kernel
theorem dX9_take_32 : decode cX9_take 32 = .ok (.isub, 1) := by decide +kernel
theorem dX9_take_33 : decode cX9_take 33 = .ok (.iastore, 1) := by decide +kernel
theorem dX9_take_34 : decode cX9_take 34 = .ok (.aload_n 0, 1) := by decide +kernel
theorem dX9_take_35 : decode cX9_take 35 = .ok (.getfield 21, 3) := by decide +kernel
theorem dX9_take_38 : decode cX9_take 38 = .ok (.iload_n 1, 1) := by decide +kernel
theorem dX9_take_39 : decode cX9_take 39 = .ok (.dup2, 1) := by decide +kernel
theorem dX9_take_40 : decode cX9_take 40 = .ok (.iaload, 1) := by decide +kernel
theorem dX9_take_41 : decode cX9_take 41 = .ok (.iload_n 2, 1) := by decide +kernel
theorem dX9_take_42 : decode cX9_take 42 = .ok (.invokestatic 69, 3) := by decide +kernel
theorem dX9_take_45 : decode cX9_take 45 = .ok (.isub, 1) := by decide +kernel
theorem dX9_take_46 : decode cX9_take 46 = .ok (.iastore, 1) := by decide +kernel
theorem dX9_take_47 : decode cX9_take 47 = .ok (.iload_n 2, 1) := by decide +kernel
theorem dX9_take_48 : decode cX9_take 48 = .ok (.ireturn, 1) := by decide +kernel
theorem dX9_takeFromOther_0 : decode cX9_takeFromOther 0 = .ok (.aload_n 0, 1) := by decide +kernel
theorem dX9_takeFromOther_1 : decode cX9_takeFromOther 1 = .ok (.iload_n 1, 1) := by decide +kernel
theorem dX9_takeFromOther_2 : decode cX9_takeFromOther 2 = .ok (.invokevirtual 72, 3) := by decide +kernel
theorem dX9_takeFromOther_5 : decode cX9_takeFromOther 5 = .ok (.istore_n 3, 1) := by decide +kernel
theorem dX9_takeFromOther_6 : decode cX9_takeFromOther 6 = .ok (.iload_n 3, 1) := by decide +kernel
theorem dX9_takeFromOther_7 : decode cX9_takeFromOther 7 = .ok (.iconst (-1), 1) := by decide +kernel
theorem dX9_takeFromOther_8 : decode cX9_takeFromOther 8 = .ok (.if_icmp .eq 11, 3) := by decide +kernel
theorem dX9_takeFromOther_11 : decode cX9_takeFromOther 11 = .ok (.iload_n 3, 1) := by decide +kernel
theorem dX9_takeFromOther_12 : decode cX9_takeFromOther 12 = .ok (.invokestatic 75, 3) := by decide +kernel
theorem dX9_takeFromOther_15 : decode cX9_takeFromOther 15 = .ok (.iload_n 2, 1) := by decide +kernel
theorem dX9_takeFromOther_16 : decode cX9_takeFromOther 16 = .ok (.if_icmp .ne 5, 3) := by decide +kernel
theorem dX9_takeFromOther_19 : decode cX9_takeFromOther 19 = .ok (.iconst 0, 1) := by decide +kernel
theorem dX9_takeFromOther_20 : decode cX9_takeFromOther 20 = .ok (.ireturn, 1) := by decide +kernel
theorem dX9_takeFromOther_21 : decode cX9_takeFromOther 21 = .ok (.aload_n 0, 1) := by decide +kernel
theorem dX9_takeFromOther_22 : decode cX9_takeFromOther 22 = .ok (.iload_n 1, 1) := by decide +kernel
theorem dX9_takeFromOther_23 : decode cX9_takeFromOther 23 = .ok (.invokevirtual 78, 3) := by decide +kernel
theorem dX9_takeFromOther_26 : decode cX9_takeFromOther 26 = .ok (.pop, 1) := by decide +kernel
theorem dX9_takeFromOther_27 : decode cX9_takeFromOther 27 = .ok (.iconst 1, 1) := by decide +kernel
theorem dX9_takeFromOther_28 : decode cX9_takeFromOther 28 = .ok (.ireturn, 1) := by decide +kernel
theorem dX9_isWeak_0 : decode cX9_isWeak 0 = .ok (.aload_n 0, 1) := by decide +kernel
theorem dX9_isWeak_1 : decode cX9_isWeak 1 = .ok (.iload_n 1, 1) := by decide +kernel
theorem dX9_isWeak_2 : decode cX9_isWeak 2 = .ok (.iconst 1, 1) := by decide +kernel
theorem dX9_isWeak_3 : decode cX9_isWeak 3 = .ok (.isub, 1) := by decide +kernel
theorem dX9_isWeak_4 : decode cX9_isWeak 4 = .ok (.invokevirtual 81, 3) := by decide +kernel
theorem dX9_isWeak_7 : decode cX9_isWeak 7 = .ok (.aload_n 0, 1) := by decide +kernel
theorem dX9_isWeak_8 : decode cX9_isWeak 8 = .ok (.iload_n 1, 1) := by decide +kernel
theorem dX9_isWeak_9 : decode cX9_isWeak 9 = .ok (.iconst 1, 1) := by decide +kernel
theorem dX9_isWeak_10 : decode cX9_isWeak 10 = .ok (.iadd, 1) := by decide +kernel
theorem dX9_isWeak_11 : decode cX9_isWeak 11 = .ok (.invokevirtual 81, 3) := by decide +kernel
theorem dX9_isWeak_14 : decode cX9_isWeak 14 = .ok (.invokestatic 84, 3) := by decide +kernel
theorem dX9_isWeak_17 : decode cX9_isWeak 17 = .ok (.istore 4, 2) := by decide +kernel
theorem dX9_isWeak_19 : decode cX9_isWeak 19 = .ok (.aload_n 0, 1) := by decide +kernel
theorem dX9_isWeak_20 : decode cX9_isWeak 20 = .ok (.iload_n 1, 1) := by decide +kernel
theorem dX9_isWeak_21 : decode cX9_isWeak 21 = .ok (.invokevirtual 81, 3) := by decide +kernel
theorem dX9_isWeak_24 : decode cX9_isWeak 24 = .ok (.iload 4, 2) := by decide +kernel
theorem dX9_isWeak_26 : decode cX9_isWeak 26 = .ok (.isub, 1) := by decide +kernel
theorem dX9_isWeak_27 : decode cX9_isWeak 27 = .ok (.iload_n 2, 1) := by decide +kernel
theorem dX9_isWeak_28 : decode cX9_isWeak 28 = .ok (.if_icmp .gt 15, 3) := by decide +kernel
theorem dX9_isWeak_31 : decode cX9_isWeak 31 = .ok (.aload_n 0, 1) := by decide +kernel
theorem dX9_isWeak_32 : decode cX9_isWeak 32 = .ok (.iload_n 1, 1) := by decide +kernel
theorem dX9_isWeak_33 : decode cX9_isWeak 33 = .ok (.invokevirtual 90, 3) := by decide +kernel
theorem dX9_isWeak_36 : decode cX9_isWeak 36 = .ok (.invokestatic 93, 3) := by decide +kernel
theorem dX9_isWeak_39 : decode cX9_isWeak 39 = .ok (.iload_n 3, 1) := by decide +kernel
theorem dX9_isWeak_40 : decode cX9_isWeak 40 = .ok (.if_icmp .le 7, 3) := by decide +kernel
theorem dX9_isWeak_43 : decode cX9_isWeak 43 = .ok (.iconst 1, 1) := by decide +kernel
theorem dX9_isWeak_44 : decode cX9_isWeak 44 = .ok (.goto 4, 3) := by decide +kernel
theorem dX9_isWeak_47 : decode cX9_isWeak 47 = .ok (.iconst 0, 1) := by decide +kernel
theorem dX9_isWeak_48 : decode cX9_isWeak 48 = .ok (.ireturn, 1) := by decide +kernel
theorem dX9_stands_0 : decode cX9_stands 0 = .ok (.aload_n 1, 1) := by decide +kernel
theorem dX9_stands_1 : decode cX9_stands 1 = .ok (.invokevirtual 96, 3) := by decide +kernel
theorem dX9_stands_4 : decode cX9_stands 4 = .ok (.istore_n 2, 1) := by decide +kernel
theorem dX9_stands_5 : decode cX9_stands 5 = .ok (.aload_n 1, 1) := by decide +kernel
theorem dX9_stands_6 : decode cX9_stands 6 = .ok (.iconst 3, 1) := by decide +kernel
theorem dX9_stands_7 : decode cX9_stands 7 = .ok (.invokevirtual 101, 3) := by decide +kernel
theorem dX9_stands_10 : decode cX9_stands 10 = .ok (.istore_n 3, 1) := by decide +kernel
theorem dX9_stands_11 : decode cX9_stands 11 = .ok (.iconst 0, 1) := by decide +kernel
theorem dX9_stands_12 : decode cX9_stands 12 = .ok (.istore 4, 2) := by decide +kernel
theorem dX9_stands_14 : decode cX9_stands 14 = .ok (.iload 4, 2) := by decide +kernel
theorem dX9_stands_16 : decode cX9_stands 16 = .ok (.aload_n 0, 1) := by decide +kernel
theorem dX9_stands_17 : decode cX9_stands 17 = .ok (.getfield 24, 3) := by decide +kernel
theorem dX9_stands_20 : decode cX9_stands 20 = .ok (.if_icmp .ge 22, 3) := by decide +kernel
theorem dX9_stands_23 : decode cX9_stands 23 = .ok (.aload_n 0, 1) := by decide +kernel
theorem dX9_stands_24 : decode cX9_stands 24 = .ok (.iload 4, 2) := by decide +kernel
theorem dX9_stands_26 : decode cX9_stands 26 = .ok (.iload_n 2, 1) := by decide +kernel
theorem dX9_stands_27 : decode cX9_stands 27 = .ok (.iload_n 3, 1) := by decide +kernel
theorem dX9_stands_28 : decode cX9_stands 28 = .ok (.invokevirtual 104, 3) := by decide +kernel
theorem dX9_stands_31 : decode cX9_stands 31 = .ok (.ifCond .eq 5, 3) := by decide +kernel
theorem dX9_stands_34 : decode cX9_stands 34 = .ok (.iconst 0, 1) := by decide +kernel
theorem dX9_stands_35 : decode cX9_stands 35 = .ok (.ireturn, 1) := by decide +kernel
theorem dX9_stands_36 : decode cX9_stands 36 = .ok (.iinc 4 1, 3) := by decide +kernel
theorem dX9_stands_39 : decode cX9_stands 39 = .ok (.goto (-25), 3) := by decide +kernel
theorem dX9_stands_42 : decode cX9_stands 42 = .ok (.iconst 1, 1) := by decide +kernel
theorem dX9_stands_43 : decode cX9_stands 43 = .ok (.ireturn, 1) := by decide +kernel
theorem dX9_weakBits_0 : decode cX9_weakBits 0 = .ok (.aload_n 1, 1) := by decide +kernel
theorem dX9_weakBits_1 : decode cX9_weakBits 1 = .ok (.invokevirtual 96, 3) := by decide +kernel
theorem dX9_weakBits_4 : decode cX9_weakBits 4 = .ok (.istore_n 2, 1) := by decide +kernel
theorem dX9_weakBits_5 : decode cX9_weakBits 5 = .ok (.aload_n 1, 1) := by decide +kernel
theorem dX9_weakBits_6 : decode cX9_weakBits 6 = .ok (.iconst 3, 1) := by decide +kernel
theorem dX9_weakBits_7 : decode cX9_weakBits 7 = .ok (.invokevirtual 101, 3) := by decide +kernel
theorem dX9_weakBits_10 : decode cX9_weakBits 10 = .ok (.istore_n 3, 1) := by decide +kernel
theorem dX9_weakBits_11 : decode cX9_weakBits 11 = .ok (.iconst 0, 1) := by decide +kernel
theorem dX9_weakBits_12 : decode cX9_weakBits 12 = .ok (.istore 4, 2) := by decide +kernel
theorem dX9_weakBits_14 : decode cX9_weakBits 14 = .ok (.iconst 0, 1) := by decide +kernel
theorem dX9_weakBits_15 : decode cX9_weakBits 15 = .ok (.istore 5, 2) := by decide +kernel
theorem dX9_weakBits_17 : decode cX9_weakBits 17 = .ok (.iload 5, 2) := by decide +kernel
theorem dX9_weakBits_19 : decode cX9_weakBits 19 = .ok (.aload_n 0, 1) := by decide +kernel
theorem dX9_weakBits_20 : decode cX9_weakBits 20 = .ok (.getfield 24, 3) := by decide +kernel
theorem dX9_weakBits_23 : decode cX9_weakBits 23 = .ok (.if_icmp .ge 29, 3) := by decide +kernel
theorem dX9_weakBits_26 : decode cX9_weakBits 26 = .ok (.aload_n 0, 1) := by decide +kernel
theorem dX9_weakBits_27 : decode cX9_weakBits 27 = .ok (.iload 5, 2) := by decide +kernel
theorem dX9_weakBits_29 : decode cX9_weakBits 29 = .ok (.iload_n 2, 1) := by decide +kernel
theorem dX9_weakBits_30 : decode cX9_weakBits 30 = .ok (.iload_n 3, 1) := by decide +kernel
theorem dX9_weakBits_31 : decode cX9_weakBits 31 = .ok (.invokevirtual 104, 3) := by decide +kernel
theorem dX9_weakBits_34 : decode cX9_weakBits 34 = .ok (.ifCond .eq 12, 3) := by decide +kernel
theorem dX9_weakBits_37 : decode cX9_weakBits 37 = .ok (.iload 4, 2) := by decide +kernel
theorem dX9_weakBits_39 : decode cX9_weakBits 39 = .ok (.iconst 1, 1) := by decide +kernel
theorem dX9_weakBits_40 : decode cX9_weakBits 40 = .ok (.iload 5, 2) := by decide +kernel
theorem dX9_weakBits_42 : decode cX9_weakBits 42 = .ok (.ishl, 1) := by decide +kernel
theorem dX9_weakBits_43 : decode cX9_weakBits 43 = .ok (.ior, 1) := by decide +kernel
theorem dX9_weakBits_44 : decode cX9_weakBits 44 = .ok (.istore 4, 2) := by decide +kernel
theorem dX9_weakBits_46 : decode cX9_weakBits 46 = .ok (.iinc 5 1, 3) := by decide +kernel
theorem dX9_weakBits_49 : decode cX9_weakBits 49 = .ok (.goto (-32), 3) := by decide +kernel
theorem dX9_weakBits_52 : decode cX9_weakBits 52 = .ok (.iload 4, 2) := by decide +kernel
theorem dX9_weakBits_54 : decode cX9_weakBits 54 = .ok (.ireturn, 1) := by decide +kernel
theorem dX9_sunny_0 : decode cX9_sunny 0 = .ok (.aload_n 1, 1) := by decide +kernel
theorem dX9_sunny_1 : decode cX9_sunny 1 = .ok (.iconst 4, 1) := by decide +kernel
theorem dX9_sunny_2 : decode cX9_sunny 2 = .ok (.invokevirtual 101, 3) := by decide +kernel
theorem dX9_sunny_5 : decode cX9_sunny 5 = .ok (.istore_n 2, 1) := by decide +kernel
theorem dX9_sunny_6 : decode cX9_sunny 6 = .ok (.iconst 0, 1) := by decide +kernel
theorem dX9_sunny_7 : decode cX9_sunny 7 = .ok (.istore_n 3, 1) := by decide +kernel
theorem dX9_sunny_8 : decode cX9_sunny 8 = .ok (.iconst 0, 1) := by decide +kernel
theorem dX9_sunny_9 : decode cX9_sunny 9 = .ok (.istore 4, 2) := by decide +kernel
theorem dX9_sunny_11 : decode cX9_sunny 11 = .ok (.iload 4, 2) := by decide +kernel
theorem dX9_sunny_13 : decode cX9_sunny 13 = .ok (.aload_n 0, 1) := by decide +kernel
theorem dX9_sunny_14 : decode cX9_sunny 14 = .ok (.getfield 24, 3) := by decide +kernel
theorem dX9_sunny_17 : decode cX9_sunny 17 = .ok (.if_icmp .ge 31, 3) := by decide +kernel
theorem dX9_sunny_20 : decode cX9_sunny 20 = .ok (.aload_n 1, 1) := by decide +kernel
theorem dX9_sunny_21 : decode cX9_sunny 21 = .ok (.iload 4, 2) := by decide +kernel
theorem dX9_sunny_23 : decode cX9_sunny 23 = .ok (.invokevirtual 108, 3) := by decide +kernel
theorem dX9_sunny_26 : decode cX9_sunny 26 = .ok (.ifCond .eq 16, 3) := by decide +kernel
theorem dX9_sunny_29 : decode cX9_sunny 29 = .ok (.aload_n 0, 1) := by decide +kernel
theorem dX9_sunny_30 : decode cX9_sunny 30 = .ok (.iload 4, 2) := by decide +kernel
theorem dX9_sunny_32 : decode cX9_sunny 32 = .ok (.invokevirtual 81, 3) := by decide +kernel
theorem dX9_sunny_35 : decode cX9_sunny 35 = .ok (.iload_n 2, 1) := by decide +kernel
theorem dX9_sunny_36 : decode cX9_sunny 36 = .ok (.if_icmp .gt 6, 3) := by decide +kernel
theorem dX9_sunny_39 : decode cX9_sunny 39 = .ok (.iinc 3 1, 3) := by decide +kernel
theorem dX9_sunny_42 : decode cX9_sunny 42 = .ok (.iinc 4 1, 3) := by decide +kernel
theorem dX9_sunny_45 : decode cX9_sunny 45 = .ok (.goto (-34), 3) := by decide +kernel
theorem dX9_sunny_48 : decode cX9_sunny 48 = .ok (.iload_n 3, 1) := by decide +kernel
theorem dX9_sunny_49 : decode cX9_sunny 49 = .ok (.ireturn, 1) := by decide +kernel
theorem dX9_weightOf_0 : decode cX9_weightOf 0 = .ok (.iconst 0, 1) := by decide +kernel
theorem dX9_weightOf_1 : decode cX9_weightOf 1 = .ok (.istore_n 2, 1) := by decide +kernel
theorem dX9_weightOf_2 : decode cX9_weightOf 2 = .ok (.iconst 0, 1) := by decide +kernel
theorem dX9_weightOf_3 : decode cX9_weightOf 3 = .ok (.istore_n 3, 1) := by decide +kernel
theorem dX9_weightOf_4 : decode cX9_weightOf 4 = .ok (.iload_n 3, 1) := by decide +kernel
theorem dX9_weightOf_5 : decode cX9_weightOf 5 = .ok (.aload_n 0, 1) := by decide +kernel
theorem dX9_weightOf_6 : decode cX9_weightOf 6 = .ok (.getfield 24, 3) := by decide +kernel
theorem dX9_weightOf_9 : decode cX9_weightOf 9 = .ok (.if_icmp .ge 47, 3) := by decide +kernel
theorem dX9_weightOf_12 : decode cX9_weightOf 12 = .ok (.iload_n 1, 1) := by decide +kernel
theorem dX9_weightOf_13 : decode cX9_weightOf 13 = .ok (.ifCond .ne 17, 3) := by decide +kernel
theorem dX9_weightOf_16 : decode cX9_weightOf 16 = .ok (.aload_n 0, 1) := by decide +kernel
theorem dX9_weightOf_17 : decode cX9_weightOf 17 = .ok (.iload_n 3, 1) := by decide +kernel
theorem dX9_weightOf_18 : decode cX9_weightOf 18 = .ok (.invokevirtual 81, 3) := by decide +kernel
theorem dX9_weightOf_21 : decode cX9_weightOf 21 = .ok (.aload_n 0, 1) := by decide +kernel
theorem dX9_weightOf_22 : decode cX9_weightOf 22 = .ok (.iload_n 3, 1) := by decide +kernel
theorem dX9_weightOf_23 : decode cX9_weightOf 23 = .ok (.invokevirtual 90, 3) := by decide +kernel
theorem dX9_weightOf_26 : decode cX9_weightOf 26 = .ok (.iadd, 1) := by decide +kernel
theorem dX9_weightOf_27 : decode cX9_weightOf 27 = .ok (.goto 14, 3) := by decide +kernel
theorem dX9_weightOf_30 : decode cX9_weightOf 30 = .ok (.aload_n 0, 1) := by decide +kernel
theorem dX9_weightOf_31 : decode cX9_weightOf 31 = .ok (.iload_n 3, 1) := by decide +kernel
theorem dX9_weightOf_32 : decode cX9_weightOf 32 = .ok (.invokevirtual 81, 3) := by decide +kernel
theorem dX9_weightOf_35 : decode cX9_weightOf 35 = .ok (.aload_n 0, 1) := by decide +kernel
theorem dX9_weightOf_36 : decode cX9_weightOf 36 = .ok (.iload_n 3, 1) := by decide +kernel
theorem dX9_weightOf_37 : decode cX9_weightOf 37 = .ok (.invokevirtual 90, 3) := by decide +kernel
theorem dX9_weightOf_40 : decode cX9_weightOf 40 = .ok (.isub, 1) := by decide +kernel
theorem dX9_weightOf_41 : decode cX9_weightOf 41 = .ok (.istore 4, 2) := by decide +kernel
theorem dX9_weightOf_43 : decode cX9_weightOf 43 = .ok (.iload_n 2, 1) := by decide +kernel
theorem dX9_weightOf_44 : decode cX9_weightOf 44 = .ok (.iload 4, 2) := by decide +kernel
theorem dX9_weightOf_46 : decode cX9_weightOf 46 = .ok (.iconst 2, 1) := by decide +kernel
theorem dX9_weightOf_47 : decode cX9_weightOf 47 = .ok (.idiv, 1) := by decide +kernel
theorem dX9_weightOf_48 : decode cX9_weightOf 48 = .ok (.iadd, 1) := by decide +kernel
theorem dX9_weightOf_49 : decode cX9_weightOf 49 = .ok (.istore_n 2, 1) := by decide +kernel
theorem dX9_weightOf_50 : decode cX9_weightOf 50 = .ok (.iinc 3 1, 3) := by decide +kernel
theorem dX9_weightOf_53 : decode cX9_weightOf 53 = .ok (.goto (-49), 3) := by decide +kernel
theorem dX9_weightOf_56 : decode cX9_weightOf 56 = .ok (.iload_n 2, 1) := by decide +kernel
theorem dX9_weightOf_57 : decode cX9_weightOf 57 = .ok (.ireturn, 1) := by decide +kernel
theorem dX9_stoneCount_0 : decode cX9_stoneCount 0 = .ok (.iconst 0, 1) := by decide +kernel
theorem dX9_stoneCount_1 : decode cX9_stoneCount 1 = .ok (.istore_n 1, 1) := by decide +kernel
theorem dX9_stoneCount_2 : decode cX9_stoneCount 2 = .ok (.iconst 0, 1) := by decide +kernel
theorem dX9_stoneCount_3 : decode cX9_stoneCount 3 = .ok (.istore_n 2, 1) := by decide +kernel
theorem dX9_stoneCount_4 : decode cX9_stoneCount 4 = .ok (.iload_n 2, 1) := by decide +kernel
theorem dX9_stoneCount_5 : decode cX9_stoneCount 5 = .ok (.aload_n 0, 1) := by decide +kernel
theorem dX9_stoneCount_6 : decode cX9_stoneCount 6 = .ok (.getfield 24, 3) := by decide +kernel
theorem dX9_stoneCount_9 : decode cX9_stoneCount 9 = .ok (.if_icmp .ge 17, 3) := by decide +kernel
theorem dX9_stoneCount_12 : decode cX9_stoneCount 12 = .ok (.iload_n 1, 1) := by decide +kernel
theorem dX9_stoneCount_13 : decode cX9_stoneCount 13 = .ok (.aload_n 0, 1) := by decide +kernel
theorem dX9_stoneCount_14 : decode cX9_stoneCount 14 = .ok (.iload_n 2, 1) := by decide +kernel
theorem dX9_stoneCount_15 : decode cX9_stoneCount 15 = .ok (.invokevirtual 63, 3) := by decide +kernel
theorem dX9_stoneCount_18 : decode cX9_stoneCount 18 = .ok (.iadd, 1) := by decide +kernel
theorem dX9_stoneCount_19 : decode cX9_stoneCount 19 = .ok (.istore_n 1, 1) := by decide +kernel
theorem dX9_stoneCount_20 : decode cX9_stoneCount 20 = .ok (.iinc 2 1, 3) := by decide +kernel
theorem dX9_stoneCount_23 : decode cX9_stoneCount 23 = .ok (.goto (-19), 3) := by decide +kernel
theorem dX9_stoneCount_26 : decode cX9_stoneCount 26 = .ok (.iload_n 1, 1) := by decide +kernel
theorem dX9_stoneCount_27 : decode cX9_stoneCount 27 = .ok (.ireturn, 1) := by decide +kernel
theorem dX9_highestColumn_0 : decode cX9_highestColumn 0 = .ok (.aload_n 0, 1) := by decide +kernel
theorem dX9_highestColumn_1 : decode cX9_highestColumn 1 = .ok (.getfield 24, 3) := by decide +kernel
theorem dX9_highestColumn_4 : decode cX9_highestColumn 4 = .ok (.ifCond .le 7, 3) := by decide +kernel
theorem dX9_highestColumn_7 : decode cX9_highestColumn 7 = .ok (.iconst 0, 1) := by decide +kernel
theorem dX9_highestColumn_8 : decode cX9_highestColumn 8 = .ok (.goto 4, 3) := by decide +kernel
theorem dX9_highestColumn_11 : decode cX9_highestColumn 11 = .ok (.iconst (-1), 1) := by decide +kernel
theorem dX9_highestColumn_12 : decode cX9_highestColumn 12 = .ok (.istore_n 1, 1) := by decide +kernel
theorem dX9_highestColumn_13 : decode cX9_highestColumn 13 = .ok (.iconst 1, 1) := by decide +kernel
theorem dX9_highestColumn_14 : decode cX9_highestColumn 14 = .ok (.istore_n 2, 1) := by decide +kernel
theorem dX9_highestColumn_15 : decode cX9_highestColumn 15 = .ok (.iload_n 2, 1) := by decide +kernel
theorem dX9_highestColumn_16 : decode cX9_highestColumn 16 = .ok (.aload_n 0, 1) := by decide +kernel
theorem dX9_highestColumn_17 : decode cX9_highestColumn 17 = .ok (.getfield 24, 3) := by decide +kernel
theorem dX9_highestColumn_20 : decode cX9_highestColumn 20 = .ok (.if_icmp .ge 24, 3) := by decide +kernel
theorem dX9_highestColumn_23 : decode cX9_highestColumn 23 = .ok (.aload_n 0, 1) := by decide +kernel
theorem dX9_highestColumn_24 : decode cX9_highestColumn 24 = .ok (.iload_n 2, 1) := by decide +kernel
theorem dX9_highestColumn_25 : decode cX9_highestColumn 25 = .ok (.invokevirtual 81, 3) := by decide +kernel
theorem dX9_highestColumn_28 : decode cX9_highestColumn 28 = .ok (.aload_n 0, 1) := by decide +kernel
theorem dX9_highestColumn_29 : decode cX9_highestColumn 29 = .ok (.iload_n 1, 1) := by decide +kernel
theorem dX9_highestColumn_30 : decode cX9_highestColumn 30 = .ok (.invokevirtual 81, 3) := by decide +kernel
theorem dX9_highestColumn_33 : decode cX9_highestColumn 33 = .ok (.if_icmp .le 5, 3) := by decide +kernel
theorem dX9_highestColumn_36 : decode cX9_highestColumn 36 = .ok (.iload_n 2, 1) := by decide +kernel
theorem dX9_highestColumn_37 : decode cX9_highestColumn 37 = .ok (.istore_n 1, 1) := by decide +kernel
theorem dX9_highestColumn_38 : decode cX9_highestColumn 38 = .ok (.iinc 2 1, 3) := by decide +kernel
theorem dX9_highestColumn_41 : decode cX9_highestColumn 41 = .ok (.goto (-26), 3) := by decide +kernel
theorem dX9_highestColumn_44 : decode cX9_highestColumn 44 = .ok (.iload_n 1, 1) := by decide +kernel
theorem dX9_highestColumn_45 : decode cX9_highestColumn 45 = .ok (.ireturn, 1) := by decide +kernel
end
section
theorem dX10_init_0 : decode cX10_init 0 = .ok (.aload_n 0, 1) := by decide +kernel
theorem dX10_init_1 : decode cX10_init 1 = .ok (.invokespecial 1, 3) := by decide +kernel
theorem dX10_init_4 : decode cX10_init 4 = .ok (.aload_n 0, 1) := by decide +kernel
theorem dX10_init_5 : decode cX10_init 5 = .ok (.new 7, 3) := by decide +kernel
theorem dX10_init_8 : decode cX10_init 8 = .ok (.dup, 1) := by decide +kernel
theorem dX10_init_9 : decode cX10_init 9 = .ok (.bipush 63, 2) := by decide +kernel
theorem dX10_init_11 : decode cX10_init 11 = .ok (.invokespecial 11, 3) := by decide +kernel
theorem dX10_init_14 : decode cX10_init 14 = .ok (.putfield 14, 3) := by decide +kernel
theorem dX10_init_17 : decode cX10_init 17 = .ok (.aload_n 0, 1) := by decide +kernel
theorem dX10_init_18 : decode cX10_init 18 = .ok (.new 7, 3) := by decide +kernel
theorem dX10_init_21 : decode cX10_init 21 = .ok (.dup, 1) := by decide +kernel
theorem dX10_init_22 : decode cX10_init 22 = .ok (.bipush 59, 2) := by decide +kernel
theorem dX10_init_24 : decode cX10_init 24 = .ok (.invokespecial 11, 3) := by decide +kernel
theorem dX10_init_27 : decode cX10_init 27 = .ok (.putfield 18, 3) := by decide +kernel
theorem dX10_init_30 : decode cX10_init 30 = .ok (.aload_n 0, 1) := by decide +kernel
theorem dX10_init_31 : decode cX10_init 31 = .ok (.new 21, 3) := by decide +kernel
theorem dX10_init_34 : decode cX10_init 34 = .ok (.dup, 1) := by decide +kernel
theorem dX10_init_35 : decode cX10_init 35 = .ok (.invokespecial 23, 3) := by decide +kernel
theorem dX10_init_38 : decode cX10_init 38 = .ok (.putfield 24, 3) := by decide +kernel
theorem dX10_init_41 : decode cX10_init 41 = .ok (.aload_n 0, 1) := by decide +kernel
theorem dX10_init_42 : decode cX10_init 42 = .ok (.new 28, 3) := by decide +kernel
theorem dX10_init_45 : decode cX10_init 45 = .ok (.dup, 1) := by decide +kernel
theorem dX10_init_46 : decode cX10_init 46 = .ok (.invokespecial 30, 3) := by decide +kernel
theorem dX10_init_49 : decode cX10_init 49 = .ok (.putfield 31, 3) := by decide +kernel
theorem dX10_init_52 : decode cX10_init 52 = .ok (.aload_n 0, 1) := by decide +kernel
theorem dX10_init_53 : decode cX10_init 53 = .ok (.new 35, 3) := by decide +kernel
theorem dX10_init_56 : decode cX10_init 56 = .ok (.dup, 1) := by decide +kernel
theorem dX10_init_57 : decode cX10_init 57 = .ok (.invokespecial 37, 3) := by decide +kernel
theorem dX10_init_60 : decode cX10_init 60 = .ok (.putfield 38, 3) := by decide +kernel
theorem dX10_init_63 : decode cX10_init 63 = .ok (.aload_n 0, 1) := by decide +kernel
theorem dX10_init_64 : decode cX10_init 64 = .ok (.new 42, 3) := by decide +kernel
theorem dX10_init_67 : decode cX10_init 67 = .ok (.dup, 1) := by decide +kernel
theorem dX10_init_68 : decode cX10_init 68 = .ok (.invokespecial 44, 3) := by decide +kernel
theorem dX10_init_71 : decode cX10_init 71 = .ok (.putfield 45, 3) := by decide +kernel
theorem dX10_init_74 : decode cX10_init 74 = .ok (.aload_n 0, 1) := by decide +kernel
theorem dX10_init_75 : decode cX10_init 75 = .ok (.new 49, 3) := by decide +kernel
theorem dX10_init_78 : decode cX10_init 78 = .ok (.dup, 1) := by decide +kernel
theorem dX10_init_79 : decode cX10_init 79 = .ok (.invokespecial 51, 3) := by decide +kernel
theorem dX10_init_82 : decode cX10_init 82 = .ok (.putfield 52, 3) := by decide +kernel
theorem dX10_init_85 : decode cX10_init 85 = .ok (.aload_n 0, 1) := by decide +kernel
theorem dX10_init_86 : decode cX10_init 86 = .ok (.new 56, 3) := by decide +kernel
theorem dX10_init_89 : decode cX10_init 89 = .ok (.dup, 1) := by decide +kernel
theorem dX10_init_90 : decode cX10_init 90 = .ok (.invokespecial 58, 3) := by decide +kernel
theorem dX10_init_93 : decode cX10_init 93 = .ok (.putfield 59, 3) := by decide +kernel
theorem dX10_init_96 : decode cX10_init 96 = .ok (.aload_n 0, 1) := by decide +kernel
theorem dX10_init_97 : decode cX10_init 97 = .ok (.new 63, 3) := by decide +kernel
theorem dX10_init_100 : decode cX10_init 100 = .ok (.dup, 1) := by decide +kernel
theorem dX10_init_101 : decode cX10_init 101 = .ok (.invokespecial 65, 3) := by decide +kernel
theorem dX10_init_104 : decode cX10_init 104 = .ok (.putfield 66, 3) := by decide +kernel
theorem dX10_init_107 : decode cX10_init 107 = .ok (.aload_n 0, 1) := by decide +kernel
theorem dX10_init_108 : decode cX10_init 108 = .ok (.iconst (-1), 1) := by decide +kernel
theorem dX10_init_109 : decode cX10_init 109 = .ok (.putfield 70, 3) := by decide +kernel
theorem dX10_init_112 : decode cX10_init 112 = .ok (.aload_n 0, 1) := by decide +kernel
theorem dX10_init_113 : decode cX10_init 113 = .ok (.iconst (-1), 1) := by decide +kernel
theorem dX10_init_114 : decode cX10_init 114 = .ok (.putfield 74, 3) := by decide +kernel
theorem dX10_init_117 : decode cX10_init 117 = .ok (.return_, 1) := by decide +kernel
theorem dX10_type_0 : decode cX10_type 0 = .ok (.aload_n 0, 1) := by decide +kernel
theorem dX10_type_1 : decode cX10_type 1 = .ok (.iload_n 1, 1) := by decide +kernel
theorem dX10_type_2 : decode cX10_type 2 = .ok (.invokevirtual 77, 3) := by decide +kernel
theorem dX10_type_5 : decode cX10_type 5 = .ok (.astore_n 3, 1) := by decide +kernel
theorem dX10_type_6 : decode cX10_type 6 = .ok (.aload_n 3, 1) := by decide +kernel
theorem dX10_type_7 : decode cX10_type 7 = .ok (.ifnull 14, 3) := by decide +kernel
theorem dX10_type_10 : decode cX10_type 10 = .ok (.iload_n 2, 1) := by decide +kernel
theorem dX10_type_11 : decode cX10_type 11 = .ok (.iconst 0, 1) := by decide +kernel
theorem dX10_type_12 : decode cX10_type 12 = .ok (.sipush 255, 3) := by decide +kernel
theorem dX10_type_15 : decode cX10_type 15 = .ok (.invokestatic 81, 3) := by decide +kernel
theorem dX10_type_18 : decode cX10_type 18 = .ok (.ifCond .ne 6, 3) := by decide +kernel
theorem dX10_type_21 : decode cX10_type 21 = .ok (.bipush (-2), 2) := by decide +kernel
theorem dX10_type_23 : decode cX10_type 23 = .ok (.ireturn, 1) := by decide +kernel
theorem dX10_type_24 : decode cX10_type 24 = .ok (.aload_n 3, 1) := by decide +kernel
theorem dX10_type_25 : decode cX10_type 25 = .ok (.invokevirtual 85, 3) := by decide +kernel
theorem dX10_type_28 : decode cX10_type 28 = .ok (.ifCond .eq 6, 3) := by decide +kernel
theorem dX10_type_31 : decode cX10_type 31 = .ok (.bipush (-4), 2) := by decide +kernel
theorem dX10_type_33 : decode cX10_type 33 = .ok (.ireturn, 1) := by decide +kernel
theorem dX10_type_34 : decode cX10_type 34 = .ok (.aload_n 3, 1) := by decide +kernel
theorem dX10_type_35 : decode cX10_type 35 = .ok (.iload_n 2, 1) := by decide +kernel
theorem dX10_type_36 : decode cX10_type 36 = .ok (.invokevirtual 89, 3) := by decide +kernel
theorem dX10_type_39 : decode cX10_type 39 = .ok (.aload_n 0, 1) := by decide +kernel
theorem dX10_type_40 : decode cX10_type 40 = .ok (.invokevirtual 92, 3) := by decide +kernel
theorem dX10_type_43 : decode cX10_type 43 = .ok (.aload_n 3, 1) := by decide +kernel
theorem dX10_type_44 : decode cX10_type 44 = .ok (.invokevirtual 95, 3) := by decide +kernel
theorem dX10_type_47 : decode cX10_type 47 = .ok (.ireturn, 1) := by decide +kernel
theorem dX10_wipe_0 : decode cX10_wipe 0 = .ok (.aload_n 0, 1) := by decide +kernel
theorem dX10_wipe_1 : decode cX10_wipe 1 = .ok (.iload_n 1, 1) := by decide +kernel
theorem dX10_wipe_2 : decode cX10_wipe 2 = .ok (.invokevirtual 77, 3) := by decide +kernel
theorem dX10_wipe_5 : decode cX10_wipe 5 = .ok (.astore_n 2, 1) := by decide +kernel
theorem dX10_wipe_6 : decode cX10_wipe 6 = .ok (.aload_n 2, 1) := by decide +kernel
theorem dX10_wipe_7 : decode cX10_wipe 7 = .ok (.ifnonnull 6, 3) := by decide +kernel
theorem dX10_wipe_10 : decode cX10_wipe 10 = .ok (.bipush (-2), 2) := by decide +kernel
theorem dX10_wipe_12 : decode cX10_wipe 12 = .ok (.ireturn, 1) := by decide +kernel
theorem dX10_wipe_13 : decode cX10_wipe 13 = .ok (.aload_n 2, 1) := by decide +kernel
theorem dX10_wipe_14 : decode cX10_wipe 14 = .ok (.invokevirtual 95, 3) := by decide +kernel
theorem dX10_wipe_17 : decode cX10_wipe 17 = .ok (.istore_n 3, 1) := by decide +kernel
theorem dX10_wipe_18 : decode cX10_wipe 18 = .ok (.aload_n 2, 1) := by decide +kernel
theorem dX10_wipe_19 : decode cX10_wipe 19 = .ok (.invokevirtual 99, 3) := by decide +kernel
theorem dX10_wipe_22 : decode cX10_wipe 22 = .ok (.aload_n 0, 1) := by decide +kernel
theorem dX10_wipe_23 : decode cX10_wipe 23 = .ok (.invokevirtual 92, 3) := by decide +kernel
theorem dX10_wipe_26 : decode cX10_wipe 26 = .ok (.iload_n 3, 1) := by decide +kernel
theorem dX10_wipe_27 : decode cX10_wipe 27 = .ok (.ireturn, 1) := by decide +kernel
theorem dX10_undo_0 : decode cX10_undo 0 = .ok (.aload_n 0, 1) := by decide +kernel
theorem dX10_undo_1 : decode cX10_undo 1 = .ok (.iload_n 1, 1) := by decide +kernel
theorem dX10_undo_2 : decode cX10_undo 2 = .ok (.invokevirtual 77, 3) := by decide +kernel
theorem dX10_undo_5 : decode cX10_undo 5 = .ok (.astore_n 2, 1) := by decide +kernel
theorem dX10_undo_6 : decode cX10_undo 6 = .ok (.aload_n 2, 1) := by decide +kernel
theorem dX10_undo_7 : decode cX10_undo 7 = .ok (.ifnonnull 6, 3) := by decide +kernel
theorem dX10_undo_10 : decode cX10_undo 10 = .ok (.bipush (-2), 2) := by decide +kernel
theorem dX10_undo_12 : decode cX10_undo 12 = .ok (.ireturn, 1) := by decide +kernel
theorem dX10_undo_13 : decode cX10_undo 13 = .ok (.aload_n 2, 1) := by decide +kernel
theorem dX10_undo_14 : decode cX10_undo 14 = .ok (.invokevirtual 95, 3) := by decide +kernel
theorem dX10_undo_17 : decode cX10_undo 17 = .ok (.ifCond .ne 6, 3) := by decide +kernel
theorem dX10_undo_20 : decode cX10_undo 20 = .ok (.bipush (-3), 2) := by decide +kernel
theorem dX10_undo_22 : decode cX10_undo 22 = .ok (.ireturn, 1) := by decide +kernel
theorem dX10_undo_23 : decode cX10_undo 23 = .ok (.aload_n 2, 1) := by decide +kernel
theorem dX10_undo_24 : decode cX10_undo 24 = .ok (.invokevirtual 102, 3) := by decide +kernel
theorem dX10_undo_27 : decode cX10_undo 27 = .ok (.aload_n 0, 1) := by decide +kernel
theorem dX10_undo_28 : decode cX10_undo 28 = .ok (.invokevirtual 92, 3) := by decide +kernel
theorem dX10_undo_31 : decode cX10_undo 31 = .ok (.aload_n 2, 1) := by decide +kernel
theorem dX10_undo_32 : decode cX10_undo 32 = .ok (.invokevirtual 95, 3) := by decide +kernel
theorem dX10_undo_35 : decode cX10_undo 35 = .ok (.ireturn, 1) := by decide +kernel
theorem dX10_fault_0 : decode cX10_fault 0 = .ok (.iload_n 1, 1) := by decide +kernel
theorem dX10_fault_1 : decode cX10_fault 1 = .ok (.ifCond .ne 10, 3) := by decide +kernel
theorem dX10_fault_4 : decode cX10_fault 4 = .ok (.aload_n 0, 1) := by decide +kernel
theorem dX10_fault_5 : decode cX10_fault 5 = .ok (.getfield 70, 3) := by decide +kernel
theorem dX10_fault_8 : decode cX10_fault 8 = .ok (.goto 17, 3) := by decide +kernel
theorem dX10_fault_11 : decode cX10_fault 11 = .ok (.iload_n 1, 1) := by decide +kernel
theorem dX10_fault_12 : decode cX10_fault 12 = .ok (.iconst 1, 1) := by decide +kernel
theorem dX10_fault_13 : decode cX10_fault 13 = .ok (.if_icmp .ne 10, 3) := by decide +kernel
theorem dX10_fault_16 : decode cX10_fault 16 = .ok (.aload_n 0, 1) := by decide +kernel
theorem dX10_fault_17 : decode cX10_fault 17 = .ok (.getfield 74, 3) := by decide +kernel
theorem dX10_fault_20 : decode cX10_fault 20 = .ok (.goto 5, 3) := by decide +kernel
theorem dX10_fault_23 : decode cX10_fault 23 = .ok (.bipush (-2), 2) := by decide +kernel
theorem dX10_fault_25 : decode cX10_fault 25 = .ok (.ireturn, 1) := by decide +kernel
theorem dX10_set_0 : decode cX10_set 0 = .ok (.iload_n 1, 1) := by decide +kernel
theorem dX10_set_1 : decode cX10_set 1 = .ok (.iload_n 2, 1) := by decide +kernel
theorem dX10_set_2 : decode cX10_set 2 = .ok (.invokestatic 105, 3) := by decide +kernel
theorem dX10_set_5 : decode cX10_set 5 = .ok (.ifCond .ne 6, 3) := by decide +kernel
theorem dX10_set_8 : decode cX10_set 8 = .ok (.bipush (-2), 2) := by decide +kernel
theorem dX10_set_10 : decode cX10_set 10 = .ok (.ireturn, 1) := by decide +kernel
theorem dX10_set_11 : decode cX10_set 11 = .ok (.aload_n 0, 1) := by decide +kernel
theorem dX10_set_12 : decode cX10_set 12 = .ok (.getfield 24, 3) := by decide +kernel
theorem dX10_set_15 : decode cX10_set 15 = .ok (.iload_n 1, 1) := by decide +kernel
theorem dX10_set_16 : decode cX10_set 16 = .ok (.invokevirtual 109, 3) := by decide +kernel
theorem dX10_set_19 : decode cX10_set 19 = .ok (.istore_n 3, 1) := by decide +kernel
theorem dX10_set_20 : decode cX10_set 20 = .ok (.aload_n 0, 1) := by decide +kernel
theorem dX10_set_21 : decode cX10_set 21 = .ok (.getfield 24, 3) := by decide +kernel
theorem dX10_set_24 : decode cX10_set 24 = .ok (.iload_n 1, 1) := by decide +kernel
theorem dX10_set_25 : decode cX10_set 25 = .ok (.iload_n 2, 1) := by decide +kernel
theorem dX10_set_26 : decode cX10_set 26 = .ok (.invokevirtual 113, 3) := by decide +kernel
theorem dX10_set_29 : decode cX10_set 29 = .ok (.iload_n 1, 1) := by decide +kernel
theorem dX10_set_30 : decode cX10_set 30 = .ok (.ifCond .ne 18, 3) := by decide +kernel
theorem dX10_set_33 : decode cX10_set 33 = .ok (.aload_n 0, 1) := by decide +kernel
theorem dX10_set_34 : decode cX10_set 34 = .ok (.getfield 38, 3) := by decide +kernel
theorem dX10_set_37 : decode cX10_set 37 = .ok (.aload_n 0, 1) := by decide +kernel
theorem dX10_set_38 : decode cX10_set 38 = .ok (.getfield 31, 3) := by decide +kernel
theorem dX10_set_41 : decode cX10_set 41 = .ok (.aload_n 0, 1) := by decide +kernel
theorem dX10_set_42 : decode cX10_set 42 = .ok (.getfield 24, 3) := by decide +kernel
theorem dX10_set_45 : decode cX10_set 45 = .ok (.invokevirtual 117, 3) := by decide +kernel
theorem dX10_set_48 : decode cX10_set 48 = .ok (.iload_n 3, 1) := by decide +kernel
theorem dX10_set_49 : decode cX10_set 49 = .ok (.ireturn, 1) := by decide +kernel
theorem dX10_height_0 : decode cX10_height 0 = .ok (.aload_n 0, 1) := by decide +kernel
theorem dX10_height_1 : decode cX10_height 1 = .ok (.getfield 38, 3) := by decide +kernel
theorem dX10_height_4 : decode cX10_height 4 = .ok (.iload_n 1, 1) := by decide +kernel
theorem dX10_height_5 : decode cX10_height 5 = .ok (.invokevirtual 121, 3) := by decide +kernel
theorem dX10_height_8 : decode cX10_height 8 = .ok (.astore_n 3, 1) := by decide +kernel
theorem dX10_height_9 : decode cX10_height 9 = .ok (.aload_n 3, 1) := by decide +kernel
theorem dX10_height_10 : decode cX10_height 10 = .ok (.ifnull 11, 3) := by decide +kernel
theorem dX10_height_13 : decode cX10_height 13 = .ok (.aload_n 3, 1) := by decide +kernel
theorem dX10_height_14 : decode cX10_height 14 = .ok (.iload_n 2, 1) := by decide +kernel
theorem dX10_height_15 : decode cX10_height 15 = .ok (.invokevirtual 125, 3) := by decide +kernel
theorem dX10_height_18 : decode cX10_height 18 = .ok (.ifCond .ne 6, 3) := by decide +kernel
theorem dX10_height_21 : decode cX10_height 21 = .ok (.bipush (-2), 2) := by decide +kernel
theorem dX10_height_23 : decode cX10_height 23 = .ok (.ireturn, 1) := by decide +kernel
theorem dX10_height_24 : decode cX10_height 24 = .ok (.aload_n 3, 1) := by decide +kernel
theorem dX10_height_25 : decode cX10_height 25 = .ok (.iload_n 2, 1) := by decide +kernel
theorem dX10_height_26 : decode cX10_height 26 = .ok (.invokevirtual 131, 3) := by decide +kernel
theorem dX10_height_29 : decode cX10_height 29 = .ok (.ireturn, 1) := by decide +kernel
theorem dX10_lean_0 : decode cX10_lean 0 = .ok (.aload_n 0, 1) := by decide +kernel
theorem dX10_lean_1 : decode cX10_lean 1 = .ok (.getfield 38, 3) := by decide +kernel
theorem dX10_lean_4 : decode cX10_lean 4 = .ok (.iload_n 1, 1) := by decide +kernel
theorem dX10_lean_5 : decode cX10_lean 5 = .ok (.invokevirtual 121, 3) := by decide +kernel
theorem dX10_lean_8 : decode cX10_lean 8 = .ok (.astore_n 3, 1) := by decide +kernel
theorem dX10_lean_9 : decode cX10_lean 9 = .ok (.aload_n 3, 1) := by decide +kernel
theorem dX10_lean_10 : decode cX10_lean 10 = .ok (.ifnull 11, 3) := by decide +kernel
theorem dX10_lean_13 : decode cX10_lean 13 = .ok (.aload_n 3, 1) := by decide +kernel
theorem dX10_lean_14 : decode cX10_lean 14 = .ok (.iload_n 2, 1) := by decide +kernel
theorem dX10_lean_15 : decode cX10_lean 15 = .ok (.invokevirtual 125, 3) := by decide +kernel
theorem dX10_lean_18 : decode cX10_lean 18 = .ok (.ifCond .ne 7, 3) := by decide +kernel
theorem dX10_lean_21 : decode cX10_lean 21 = .ok (.sipush (-1002), 3) := by decide +kernel
theorem dX10_lean_24 : decode cX10_lean 24 = .ok (.ireturn, 1) := by decide +kernel
theorem dX10_lean_25 : decode cX10_lean 25 = .ok (.aload_n 3, 1) := by decide +kernel
theorem dX10_lean_26 : decode cX10_lean 26 = .ok (.iload_n 2, 1) := by decide +kernel
theorem dX10_lean_27 : decode cX10_lean 27 = .ok (.invokevirtual 134, 3) := by decide +kernel
theorem dX10_lean_30 : decode cX10_lean 30 = .ok (.ireturn, 1) := by decide +kernel
theorem dX10_stone_0 : decode cX10_stone 0 = .ok (.aload_n 0, 1) := by decide +kernel
theorem dX10_stone_1 : decode cX10_stone 1 = .ok (.getfield 38, 3) := by decide +kernel
theorem dX10_stone_4 : decode cX10_stone 4 = .ok (.iload_n 1, 1) := by decide +kernel
theorem dX10_stone_5 : decode cX10_stone 5 = .ok (.invokevirtual 121, 3) := by decide +kernel
theorem dX10_stone_8 : decode cX10_stone 8 = .ok (.astore 4, 2) := by decide +kernel
theorem dX10_stone_10 : decode cX10_stone 10 = .ok (.aload 4, 2) := by decide +kernel
theorem dX10_stone_12 : decode cX10_stone 12 = .ok (.ifnull 22, 3) := by decide +kernel
theorem dX10_stone_15 : decode cX10_stone 15 = .ok (.aload 4, 2) := by decide +kernel
theorem dX10_stone_17 : decode cX10_stone 17 = .ok (.iload_n 2, 1) := by decide +kernel
theorem dX10_stone_18 : decode cX10_stone 18 = .ok (.invokevirtual 125, 3) := by decide +kernel
theorem dX10_stone_21 : decode cX10_stone 21 = .ok (.ifCond .eq 13, 3) := by decide +kernel
theorem dX10_stone_24 : decode cX10_stone 24 = .ok (.iload_n 3, 1) := by decide +kernel
theorem dX10_stone_25 : decode cX10_stone 25 = .ok (.iconst (-1), 1) := by decide +kernel
theorem dX10_stone_26 : decode cX10_stone 26 = .ok (.bipush 7, 2) := by decide +kernel
theorem dX10_stone_28 : decode cX10_stone 28 = .ok (.invokestatic 81, 3) := by decide +kernel
theorem dX10_stone_31 : decode cX10_stone 31 = .ok (.ifCond .ne 6, 3) := by decide +kernel
theorem dX10_stone_34 : decode cX10_stone 34 = .ok (.bipush (-2), 2) := by decide +kernel
theorem dX10_stone_36 : decode cX10_stone 36 = .ok (.ireturn, 1) := by decide +kernel
theorem dX10_stone_37 : decode cX10_stone 37 = .ok (.iload_n 3, 1) := by decide +kernel
theorem dX10_stone_38 : decode cX10_stone 38 = .ok (.iconst (-1), 1) := by decide +kernel
theorem dX10_stone_39 : decode cX10_stone 39 = .ok (.if_icmp .ne 12, 3) := by decide +kernel
theorem dX10_stone_42 : decode cX10_stone 42 = .ok (.aload 4, 2) := by decide +kernel
theorem dX10_stone_44 : decode cX10_stone 44 = .ok (.iload_n 2, 1) := by decide +kernel
theorem dX10_stone_45 : decode cX10_stone 45 = .ok (.invokevirtual 137, 3) := by decide +kernel
theorem dX10_stone_48 : decode cX10_stone 48 = .ok (.goto 10, 3) := by decide +kernel
theorem dX10_stone_51 : decode cX10_stone 51 = .ok (.aload 4, 2) := by decide +kernel
theorem dX10_stone_53 : decode cX10_stone 53 = .ok (.iload_n 2, 1) := by decide +kernel
theorem dX10_stone_54 : decode cX10_stone 54 = .ok (.iload_n 3, 1) := by decide +kernel
theorem dX10_stone_55 : decode cX10_stone 55 = .ok (.invokevirtual 140, 3) := by decide +kernel
theorem dX10_stone_58 : decode cX10_stone 58 = .ok (.ireturn, 1) := by decide +kernel
theorem dX10_behind_0 : decode cX10_behind 0 = .ok (.aload_n 0, 1) := by decide +kernel
theorem dX10_behind_1 : decode cX10_behind 1 = .ok (.getfield 38, 3) := by decide +kernel
theorem dX10_behind_4 : decode cX10_behind 4 = .ok (.iload_n 1, 1) := by decide +kernel
theorem dX10_behind_5 : decode cX10_behind 5 = .ok (.invokevirtual 121, 3) := by decide +kernel
theorem dX10_behind_8 : decode cX10_behind 8 = .ok (.astore_n 3, 1) := by decide +kernel
theorem dX10_behind_9 : decode cX10_behind 9 = .ok (.aload_n 3, 1) := by decide +kernel
theorem dX10_behind_10 : decode cX10_behind 10 = .ok (.ifnonnull 6, 3) := by decide +kernel
theorem dX10_behind_13 : decode cX10_behind 13 = .ok (.bipush (-2), 2) := by decide +kernel
theorem dX10_behind_15 : decode cX10_behind 15 = .ok (.ireturn, 1) := by decide +kernel
theorem dX10_behind_16 : decode cX10_behind 16 = .ok (.iload_n 2, 1) := by decide +kernel
theorem dX10_behind_17 : decode cX10_behind 17 = .ok (.tableswitch 61 0 3 #[31, 40, 49, 55], 31) := by decide +kernel
theorem dX10_behind_48 : decode cX10_behind 48 = .ok (.aload_n 3, 1) := by decide +kernel
theorem dX10_behind_49 : decode cX10_behind 49 = .ok (.aload_n 0, 1) := by decide +kernel
theorem dX10_behind_50 : decode cX10_behind 50 = .ok (.getfield 24, 3) := by decide +kernel
theorem dX10_behind_53 : decode cX10_behind 53 = .ok (.invokevirtual 144, 3) := by decide +kernel
theorem dX10_behind_56 : decode cX10_behind 56 = .ok (.ireturn, 1) := by decide +kernel
theorem dX10_behind_57 : decode cX10_behind 57 = .ok (.aload_n 3, 1) := by decide +kernel
theorem dX10_behind_58 : decode cX10_behind 58 = .ok (.aload_n 0, 1) := by decide +kernel
theorem dX10_behind_59 : decode cX10_behind 59 = .ok (.getfield 24, 3) := by decide +kernel
theorem dX10_behind_62 : decode cX10_behind 62 = .ok (.invokevirtual 148, 3) := by decide +kernel
theorem dX10_behind_65 : decode cX10_behind 65 = .ok (.ireturn, 1) := by decide +kernel
theorem dX10_behind_66 : decode cX10_behind 66 = .ok (.aload_n 3, 1) := by decide +kernel
theorem dX10_behind_67 : decode cX10_behind 67 = .ok (.iconst 0, 1) := by decide +kernel
theorem dX10_behind_68 : decode cX10_behind 68 = .ok (.invokevirtual 151, 3) := by decide +kernel
theorem dX10_behind_71 : decode cX10_behind 71 = .ok (.ireturn, 1) := by decide +kernel
theorem dX10_behind_72 : decode cX10_behind 72 = .ok (.aload_n 3, 1) := by decide +kernel
theorem dX10_behind_73 : decode cX10_behind 73 = .ok (.iconst 1, 1) := by decide +kernel
theorem dX10_behind_74 : decode cX10_behind 74 = .ok (.invokevirtual 151, 3) := by decide +kernel
theorem dX10_behind_77 : decode cX10_behind 77 = .ok (.ireturn, 1) := by decide +kernel
theorem dX10_behind_78 : decode cX10_behind 78 = .ok (.bipush (-2), 2) := by decide +kernel
theorem dX10_behind_80 : decode cX10_behind 80 = .ok (.ireturn, 1) := by decide +kernel
theorem dX10_turn_0 : decode cX10_turn 0 = .ok (.aload_n 0, 1) := by decide +kernel
theorem dX10_turn_1 : decode cX10_turn 1 = .ok (.getfield 38, 3) := by decide +kernel
theorem dX10_turn_4 : decode cX10_turn 4 = .ok (.iload_n 1, 1) := by decide +kernel
theorem dX10_turn_5 : decode cX10_turn 5 = .ok (.invokevirtual 154, 3) := by decide +kernel
theorem dX10_turn_8 : decode cX10_turn 8 = .ok (.ifCond .ne 6, 3) := by decide +kernel
theorem dX10_turn_11 : decode cX10_turn 11 = .ok (.bipush (-2), 2) := by decide +kernel
theorem dX10_turn_13 : decode cX10_turn 13 = .ok (.ireturn, 1) := by decide +kernel
theorem dX10_turn_14 : decode cX10_turn 14 = .ok (.iload_n 2, 1) := by decide +kernel
theorem dX10_turn_15 : decode cX10_turn 15 = .ok (.tableswitch 52 0 2 #[25, 34, 43], 25) := by decide +kernel
theorem dX10_turn_40 : decode cX10_turn 40 = .ok (.aload_n 0, 1) := by decide +kernel
theorem dX10_turn_41 : decode cX10_turn 41 = .ok (.getfield 24, 3) := by decide +kernel
theorem dX10_turn_44 : decode cX10_turn 44 = .ok (.iload_n 1, 1) := by decide +kernel
theorem dX10_turn_45 : decode cX10_turn 45 = .ok (.invokevirtual 157, 3) := by decide +kernel
theorem dX10_turn_48 : decode cX10_turn 48 = .ok (.ireturn, 1) := by decide +kernel
theorem dX10_turn_49 : decode cX10_turn 49 = .ok (.aload_n 0, 1) := by decide +kernel
theorem dX10_turn_50 : decode cX10_turn 50 = .ok (.getfield 38, 3) := by decide +kernel
theorem dX10_turn_53 : decode cX10_turn 53 = .ok (.iload_n 1, 1) := by decide +kernel
theorem dX10_turn_54 : decode cX10_turn 54 = .ok (.invokevirtual 160, 3) := by decide +kernel
theorem dX10_turn_57 : decode cX10_turn 57 = .ok (.ireturn, 1) := by decide +kernel
theorem dX10_turn_58 : decode cX10_turn 58 = .ok (.aload_n 0, 1) := by decide +kernel
theorem dX10_turn_59 : decode cX10_turn 59 = .ok (.getfield 38, 3) := by decide +kernel
theorem dX10_turn_62 : decode cX10_turn 62 = .ok (.iload_n 1, 1) := by decide +kernel
theorem dX10_turn_63 : decode cX10_turn 63 = .ok (.invokevirtual 163, 3) := by decide +kernel
theorem dX10_turn_66 : decode cX10_turn 66 = .ok (.ireturn, 1) := by decide +kernel
theorem dX10_turn_67 : decode cX10_turn 67 = .ok (.bipush (-2), 2) := by decide +kernel
theorem dX10_turn_69 : decode cX10_turn 69 = .ok (.ireturn, 1) := by decide +kernel
theorem dX10_first_0 : decode cX10_first 0 = .ok (.iload_n 1, 1) := by decide +kernel
theorem dX10_first_1 : decode cX10_first 1 = .ok (.iconst 0, 1) := by decide +kernel
theorem dX10_first_2 : decode cX10_first 2 = .ok (.iconst 1, 1) := by decide +kernel
theorem dX10_first_3 : decode cX10_first 3 = .ok (.invokestatic 81, 3) := by decide +kernel
theorem dX10_first_6 : decode cX10_first 6 = .ok (.ifCond .ne 6, 3) := by decide +kernel
theorem dX10_first_9 : decode cX10_first 9 = .ok (.bipush (-2), 2) := by decide +kernel
theorem dX10_first_11 : decode cX10_first 11 = .ok (.ireturn, 1) := by decide +kernel
theorem dX10_first_12 : decode cX10_first 12 = .ok (.iconst 0, 1) := by decide +kernel
theorem dX10_first_13 : decode cX10_first 13 = .ok (.istore_n 2, 1) := by decide +kernel
theorem dX10_first_14 : decode cX10_first 14 = .ok (.iload_n 2, 1) := by decide +kernel
theorem dX10_first_15 : decode cX10_first 15 = .ok (.aload_n 0, 1) := by decide +kernel
theorem dX10_first_16 : decode cX10_first 16 = .ok (.getfield 38, 3) := by decide +kernel
theorem dX10_first_19 : decode cX10_first 19 = .ok (.invokevirtual 166, 3) := by decide +kernel
theorem dX10_first_22 : decode cX10_first 22 = .ok (.if_icmp .gt 55, 3) := by decide +kernel
theorem dX10_first_25 : decode cX10_first 25 = .ok (.aload_n 0, 1) := by decide +kernel
theorem dX10_first_26 : decode cX10_first 26 = .ok (.getfield 38, 3) := by decide +kernel
theorem dX10_first_29 : decode cX10_first 29 = .ok (.iload_n 2, 1) := by decide +kernel
theorem dX10_first_30 : decode cX10_first 30 = .ok (.invokevirtual 121, 3) := by decide +kernel
theorem dX10_first_33 : decode cX10_first 33 = .ok (.astore_n 3, 1) := by decide +kernel
theorem dX10_first_34 : decode cX10_first 34 = .ok (.aload_n 3, 1) := by decide +kernel
theorem dX10_first_35 : decode cX10_first 35 = .ok (.ifnonnull 7, 3) := by decide +kernel
theorem dX10_first_38 : decode cX10_first 38 = .ok (.iconst 0, 1) := by decide +kernel
theorem dX10_first_39 : decode cX10_first 39 = .ok (.goto 11, 3) := by decide +kernel
theorem dX10_first_42 : decode cX10_first 42 = .ok (.aload_n 3, 1) := by decide +kernel
theorem dX10_first_43 : decode cX10_first 43 = .ok (.aload_n 0, 1) := by decide +kernel
theorem dX10_first_44 : decode cX10_first 44 = .ok (.getfield 24, 3) := by decide +kernel
theorem dX10_first_47 : decode cX10_first 47 = .ok (.invokevirtual 144, 3) := by decide +kernel
theorem dX10_first_50 : decode cX10_first 50 = .ok (.istore 4, 2) := by decide +kernel
theorem dX10_first_52 : decode cX10_first 52 = .ok (.iload 4, 2) := by decide +kernel
theorem dX10_first_54 : decode cX10_first 54 = .ok (.ifCond .eq 17, 3) := by decide +kernel
theorem dX10_first_57 : decode cX10_first 57 = .ok (.iload_n 1, 1) := by decide +kernel
theorem dX10_first_58 : decode cX10_first 58 = .ok (.ifCond .ne 7, 3) := by decide +kernel
theorem dX10_first_61 : decode cX10_first 61 = .ok (.iload_n 2, 1) := by decide +kernel
theorem dX10_first_62 : decode cX10_first 62 = .ok (.goto 8, 3) := by decide +kernel
theorem dX10_first_65 : decode cX10_first 65 = .ok (.iload 4, 2) := by decide +kernel
theorem dX10_first_67 : decode cX10_first 67 = .ok (.invokestatic 169, 3) := by decide +kernel
theorem dX10_first_70 : decode cX10_first 70 = .ok (.ireturn, 1) := by decide +kernel
theorem dX10_first_71 : decode cX10_first 71 = .ok (.iinc 2 1, 3) := by decide +kernel
theorem dX10_first_74 : decode cX10_first 74 = .ok (.goto (-60), 3) := by decide +kernel
theorem dX10_first_77 : decode cX10_first 77 = .ok (.iconst (-1), 1) := by decide +kernel
theorem dX10_first_78 : decode cX10_first 78 = .ok (.ireturn, 1) := by decide +kernel
theorem dX10_highest_0 : decode cX10_highest 0 = .ok (.aload_n 0, 1) := by decide +kernel
theorem dX10_highest_1 : decode cX10_highest 1 = .ok (.getfield 38, 3) := by decide +kernel
theorem dX10_highest_4 : decode cX10_highest 4 = .ok (.invokevirtual 172, 3) := by decide +kernel
theorem dX10_highest_7 : decode cX10_highest 7 = .ok (.invokevirtual 176, 3) := by decide +kernel
theorem dX10_highest_10 : decode cX10_highest 10 = .ok (.ireturn, 1) := by decide +kernel
theorem dX10_mend_0 : decode cX10_mend 0 = .ok (.iload_n 1, 1) := by decide +kernel
theorem dX10_mend_1 : decode cX10_mend 1 = .ok (.iconst (-1), 1) := by decide +kernel
theorem dX10_mend_2 : decode cX10_mend 2 = .ok (.iconst 2, 1) := by decide +kernel
theorem dX10_mend_3 : decode cX10_mend 3 = .ok (.invokestatic 81, 3) := by decide +kernel
theorem dX10_mend_6 : decode cX10_mend 6 = .ok (.ifCond .ne 6, 3) := by decide +kernel
theorem dX10_mend_9 : decode cX10_mend 9 = .ok (.bipush (-2), 2) := by decide +kernel
theorem dX10_mend_11 : decode cX10_mend 11 = .ok (.ireturn, 1) := by decide +kernel
theorem dX10_mend_12 : decode cX10_mend 12 = .ok (.aload_n 0, 1) := by decide +kernel
theorem dX10_mend_13 : decode cX10_mend 13 = .ok (.getfield 45, 3) := by decide +kernel
theorem dX10_mend_16 : decode cX10_mend 16 = .ok (.aload_n 0, 1) := by decide +kernel
theorem dX10_mend_17 : decode cX10_mend 17 = .ok (.getfield 38, 3) := by decide +kernel
theorem dX10_mend_20 : decode cX10_mend 20 = .ok (.invokevirtual 172, 3) := by decide +kernel
theorem dX10_mend_23 : decode cX10_mend 23 = .ok (.aload_n 0, 1) := by decide +kernel
theorem dX10_mend_24 : decode cX10_mend 24 = .ok (.getfield 24, 3) := by decide +kernel
theorem dX10_mend_27 : decode cX10_mend 27 = .ok (.invokevirtual 179, 3) := by decide +kernel
theorem dX10_mend_30 : decode cX10_mend 30 = .ok (.aload_n 0, 1) := by decide +kernel
theorem dX10_mend_31 : decode cX10_mend 31 = .ok (.getfield 45, 3) := by decide +kernel
theorem dX10_mend_34 : decode cX10_mend 34 = .ok (.iload_n 1, 1) := by decide +kernel
theorem dX10_mend_35 : decode cX10_mend 35 = .ok (.invokevirtual 183, 3) := by decide +kernel
theorem dX10_mend_38 : decode cX10_mend 38 = .ok (.ireturn, 1) := by decide +kernel
theorem dX10_open_0 : decode cX10_open 0 = .ok (.iload_n 1, 1) := by decide +kernel
theorem dX10_open_1 : decode cX10_open 1 = .ok (.iconst 0, 1) := by decide +kernel
theorem dX10_open_2 : decode cX10_open 2 = .ok (.bipush 8, 2) := by decide +kernel
theorem dX10_open_4 : decode cX10_open 4 = .ok (.invokestatic 81, 3) := by decide +kernel
theorem dX10_open_7 : decode cX10_open 7 = .ok (.ifCond .eq 12, 3) := by decide +kernel
theorem dX10_open_10 : decode cX10_open 10 = .ok (.iload_n 2, 1) := by decide +kernel
theorem dX10_open_11 : decode cX10_open 11 = .ok (.iconst (-1), 1) := by decide +kernel
theorem dX10_open_12 : decode cX10_open 12 = .ok (.iconst 2, 1) := by decide +kernel
theorem dX10_open_13 : decode cX10_open 13 = .ok (.invokestatic 81, 3) := by decide +kernel
theorem dX10_open_16 : decode cX10_open 16 = .ok (.ifCond .ne 6, 3) := by decide +kernel
theorem dX10_open_19 : decode cX10_open 19 = .ok (.bipush (-2), 2) := by decide +kernel
theorem dX10_open_21 : decode cX10_open 21 = .ok (.ireturn, 1) := by decide +kernel
theorem dX10_open_22 : decode cX10_open 22 = .ok (.aload_n 0, 1) := by decide +kernel
theorem dX10_open_23 : decode cX10_open 23 = .ok (.getfield 45, 3) := by decide +kernel
theorem dX10_open_26 : decode cX10_open 26 = .ok (.aload_n 0, 1) := by decide +kernel
theorem dX10_open_27 : decode cX10_open 27 = .ok (.getfield 38, 3) := by decide +kernel
theorem dX10_open_30 : decode cX10_open 30 = .ok (.invokevirtual 172, 3) := by decide +kernel
theorem dX10_open_33 : decode cX10_open 33 = .ok (.aload_n 0, 1) := by decide +kernel
theorem dX10_open_34 : decode cX10_open 34 = .ok (.getfield 24, 3) := by decide +kernel
theorem dX10_open_37 : decode cX10_open 37 = .ok (.iload_n 1, 1) := by decide +kernel
theorem dX10_open_38 : decode cX10_open 38 = .ok (.invokevirtual 186, 3) := by decide +kernel
theorem dX10_open_41 : decode cX10_open 41 = .ok (.aload_n 0, 1) := by decide +kernel
theorem dX10_open_42 : decode cX10_open 42 = .ok (.getfield 45, 3) := by decide +kernel
theorem dX10_open_45 : decode cX10_open 45 = .ok (.iload_n 2, 1) := by decide +kernel
theorem dX10_open_46 : decode cX10_open 46 = .ok (.invokevirtual 183, 3) := by decide +kernel
theorem dX10_open_49 : decode cX10_open 49 = .ok (.ireturn, 1) := by decide +kernel
theorem dX10_sides_0 : decode cX10_sides 0 = .ok (.iload_n 1, 1) := by decide +kernel
theorem dX10_sides_1 : decode cX10_sides 1 = .ok (.iconst 1, 1) := by decide +kernel
theorem dX10_sides_2 : decode cX10_sides 2 = .ok (.iconst 3, 1) := by decide +kernel
theorem dX10_sides_3 : decode cX10_sides 3 = .ok (.invokestatic 81, 3) := by decide +kernel
theorem dX10_sides_6 : decode cX10_sides 6 = .ok (.ifCond .eq 12, 3) := by decide +kernel
theorem dX10_sides_9 : decode cX10_sides 9 = .ok (.iload_n 2, 1) := by decide +kernel
theorem dX10_sides_10 : decode cX10_sides 10 = .ok (.iconst 0, 1) := by decide +kernel
theorem dX10_sides_11 : decode cX10_sides 11 = .ok (.iconst 1, 1) := by decide +kernel
theorem dX10_sides_12 : decode cX10_sides 12 = .ok (.invokestatic 81, 3) := by decide +kernel
theorem dX10_sides_15 : decode cX10_sides 15 = .ok (.ifCond .ne 6, 3) := by decide +kernel
theorem dX10_sides_18 : decode cX10_sides 18 = .ok (.bipush (-2), 2) := by decide +kernel
theorem dX10_sides_20 : decode cX10_sides 20 = .ok (.ireturn, 1) := by decide +kernel
theorem dX10_sides_21 : decode cX10_sides 21 = .ok (.aload_n 0, 1) := by decide +kernel
theorem dX10_sides_22 : decode cX10_sides 22 = .ok (.getfield 45, 3) := by decide +kernel
theorem dX10_sides_25 : decode cX10_sides 25 = .ok (.aload_n 0, 1) := by decide +kernel
theorem dX10_sides_26 : decode cX10_sides 26 = .ok (.getfield 38, 3) := by decide +kernel
theorem dX10_sides_29 : decode cX10_sides 29 = .ok (.invokevirtual 172, 3) := by decide +kernel
theorem dX10_sides_32 : decode cX10_sides 32 = .ok (.aload_n 0, 1) := by decide +kernel
theorem dX10_sides_33 : decode cX10_sides 33 = .ok (.getfield 24, 3) := by decide +kernel
theorem dX10_sides_36 : decode cX10_sides 36 = .ok (.iload_n 1, 1) := by decide +kernel
theorem dX10_sides_37 : decode cX10_sides 37 = .ok (.aload_n 0, 1) := by decide +kernel
theorem dX10_sides_38 : decode cX10_sides 38 = .ok (.getfield 24, 3) := by decide +kernel
theorem dX10_sides_41 : decode cX10_sides 41 = .ok (.aload_n 0, 1) := by decide +kernel
theorem dX10_sides_42 : decode cX10_sides 42 = .ok (.getfield 38, 3) := by decide +kernel
theorem dX10_sides_45 : decode cX10_sides 45 = .ok (.invokevirtual 166, 3) := by decide +kernel
theorem dX10_sides_48 : decode cX10_sides 48 = .ok (.invokevirtual 157, 3) := by decide +kernel
theorem dX10_sides_51 : decode cX10_sides 51 = .ok (.invokevirtual 190, 3) := by decide +kernel
theorem dX10_sides_54 : decode cX10_sides 54 = .ok (.istore_n 3, 1) := by decide +kernel
theorem dX10_sides_55 : decode cX10_sides 55 = .ok (.iload_n 2, 1) := by decide +kernel
theorem dX10_sides_56 : decode cX10_sides 56 = .ok (.ifCond .ne 7, 3) := by decide +kernel
theorem dX10_sides_59 : decode cX10_sides 59 = .ok (.iload_n 3, 1) := by decide +kernel
theorem dX10_sides_60 : decode cX10_sides 60 = .ok (.goto 10, 3) := by decide +kernel
theorem dX10_sides_63 : decode cX10_sides 63 = .ok (.aload_n 0, 1) := by decide +kernel
theorem dX10_sides_64 : decode cX10_sides 64 = .ok (.getfield 45, 3) := by decide +kernel
theorem dX10_sides_67 : decode cX10_sides 67 = .ok (.invokevirtual 194, 3) := by decide +kernel
theorem dX10_sides_70 : decode cX10_sides 70 = .ok (.ireturn, 1) := by decide +kernel
theorem dX10_seen_0 : decode cX10_seen 0 = .ok (.iload_n 1, 1) := by decide +kernel
theorem dX10_seen_1 : decode cX10_seen 1 = .ok (.iload_n 2, 1) := by decide +kernel
theorem dX10_seen_2 : decode cX10_seen 2 = .ok (.iload_n 3, 1) := by decide +kernel
theorem dX10_seen_3 : decode cX10_seen 3 = .ok (.invokestatic 197, 3) := by decide +kernel
theorem dX10_seen_6 : decode cX10_seen 6 = .ok (.ifCond .ne 6, 3) := by decide +kernel
theorem dX10_seen_9 : decode cX10_seen 9 = .ok (.bipush (-2), 2) := by decide +kernel
theorem dX10_seen_11 : decode cX10_seen 11 = .ok (.ireturn, 1) := by decide +kernel
theorem dX10_seen_12 : decode cX10_seen 12 = .ok (.aload_n 0, 1) := by decide +kernel
theorem dX10_seen_13 : decode cX10_seen 13 = .ok (.getfield 59, 3) := by decide +kernel
theorem dX10_seen_16 : decode cX10_seen 16 = .ok (.invokevirtual 199, 3) := by decide +kernel
theorem dX10_seen_19 : decode cX10_seen 19 = .ok (.ifCond .eq 6, 3) := by decide +kernel
theorem dX10_seen_22 : decode cX10_seen 22 = .ok (.bipush (-4), 2) := by decide +kernel
theorem dX10_seen_24 : decode cX10_seen 24 = .ok (.ireturn, 1) := by decide +kernel
theorem dX10_seen_25 : decode cX10_seen 25 = .ok (.aload_n 0, 1) := by decide +kernel
theorem dX10_seen_26 : decode cX10_seen 26 = .ok (.getfield 59, 3) := by decide +kernel
theorem dX10_seen_29 : decode cX10_seen 29 = .ok (.iload_n 1, 1) := by decide +kernel
theorem dX10_seen_30 : decode cX10_seen 30 = .ok (.iload_n 2, 1) := by decide +kernel
theorem dX10_seen_31 : decode cX10_seen 31 = .ok (.iload_n 3, 1) := by decide +kernel
theorem dX10_seen_32 : decode cX10_seen 32 = .ok (.invokevirtual 200, 3) := by decide +kernel
theorem dX10_seen_35 : decode cX10_seen 35 = .ok (.aload_n 0, 1) := by decide +kernel
theorem dX10_seen_36 : decode cX10_seen 36 = .ok (.getfield 59, 3) := by decide +kernel
theorem dX10_seen_39 : decode cX10_seen 39 = .ok (.invokevirtual 203, 3) := by decide +kernel
theorem dX10_seen_42 : decode cX10_seen 42 = .ok (.ireturn, 1) := by decide +kernel
theorem dX10_forget_0 : decode cX10_forget 0 = .ok (.aload_n 0, 1) := by decide +kernel
theorem dX10_forget_1 : decode cX10_forget 1 = .ok (.getfield 59, 3) := by decide +kernel
theorem dX10_forget_4 : decode cX10_forget 4 = .ok (.invokevirtual 203, 3) := by decide +kernel
theorem dX10_forget_7 : decode cX10_forget 7 = .ok (.istore_n 1, 1) := by decide +kernel
theorem dX10_forget_8 : decode cX10_forget 8 = .ok (.aload_n 0, 1) := by decide +kernel
theorem dX10_forget_9 : decode cX10_forget 9 = .ok (.getfield 59, 3) := by decide +kernel
theorem dX10_forget_12 : decode cX10_forget 12 = .ok (.invokevirtual 204, 3) := by decide +kernel
theorem dX10_forget_15 : decode cX10_forget 15 = .ok (.iload_n 1, 1) := by decide +kernel
theorem dX10_forget_16 : decode cX10_forget 16 = .ok (.ireturn, 1) := by decide +kernel
theorem dX10_read_0 : decode cX10_read 0 = .ok (.iload_n 1, 1) := by decide +kernel
theorem dX10_read_1 : decode cX10_read 1 = .ok (.invokestatic 205, 3) := by decide +kernel
theorem dX10_read_4 : decode cX10_read 4 = .ok (.ifCond .ne 6, 3) := by decide +kernel
theorem dX10_read_7 : decode cX10_read 7 = .ok (.bipush (-2), 2) := by decide +kernel
theorem dX10_read_9 : decode cX10_read 9 = .ok (.ireturn, 1) := by decide +kernel
theorem dX10_read_10 : decode cX10_read 10 = .ok (.aload_n 0, 1) := by decide +kernel
theorem dX10_read_11 : decode cX10_read 11 = .ok (.getfield 66, 3) := by decide +kernel
theorem dX10_read_14 : decode cX10_read 14 = .ok (.iload_n 1, 1) := by decide +kernel
theorem dX10_read_15 : decode cX10_read 15 = .ok (.invokevirtual 208, 3) := by decide +kernel
theorem dX10_read_18 : decode cX10_read 18 = .ok (.ifCond .eq 12, 3) := by decide +kernel
theorem dX10_read_21 : decode cX10_read 21 = .ok (.aload_n 0, 1) := by decide +kernel
theorem dX10_read_22 : decode cX10_read 22 = .ok (.getfield 66, 3) := by decide +kernel
theorem dX10_read_25 : decode cX10_read 25 = .ok (.iconst 1, 1) := by decide +kernel
theorem dX10_read_26 : decode cX10_read 26 = .ok (.invokevirtual 211, 3) := by decide +kernel
theorem dX10_read_29 : decode cX10_read 29 = .ok (.ireturn, 1) := by decide +kernel
theorem dX10_read_30 : decode cX10_read 30 = .ok (.iconst 0, 1) := by decide +kernel
theorem dX10_read_31 : decode cX10_read 31 = .ok (.istore_n 2, 1) := by decide +kernel
theorem dX10_read_32 : decode cX10_read 32 = .ok (.iconst 0, 1) := by decide +kernel
theorem dX10_read_33 : decode cX10_read 33 = .ok (.istore_n 3, 1) := by decide +kernel
theorem dX10_read_34 : decode cX10_read 34 = .ok (.iload_n 3, 1) := by decide +kernel
theorem dX10_read_35 : decode cX10_read 35 = .ok (.iconst 2, 1) := by decide +kernel
theorem dX10_read_36 : decode cX10_read 36 = .ok (.iadd, 1) := by decide +kernel
theorem dX10_read_37 : decode cX10_read 37 = .ok (.aload_n 0, 1) := by decide +kernel
theorem dX10_read_38 : decode cX10_read 38 = .ok (.getfield 66, 3) := by decide +kernel
theorem dX10_read_41 : decode cX10_read 41 = .ok (.iload_n 1, 1) := by decide +kernel
theorem dX10_read_42 : decode cX10_read 42 = .ok (.invokevirtual 214, 3) := by decide +kernel
theorem dX10_read_45 : decode cX10_read 45 = .ok (.if_icmp .ge 86, 3) := by decide +kernel
theorem dX10_read_48 : decode cX10_read 48 = .ok (.aload_n 0, 1) := by decide +kernel
theorem dX10_read_49 : decode cX10_read 49 = .ok (.getfield 59, 3) := by decide +kernel
theorem dX10_read_52 : decode cX10_read 52 = .ok (.invokevirtual 199, 3) := by decide +kernel
theorem dX10_read_55 : decode cX10_read 55 = .ok (.ifCond .ne 76, 3) := by decide +kernel
theorem dX10_read_58 : decode cX10_read 58 = .ok (.aload_n 0, 1) := by decide +kernel
theorem dX10_read_59 : decode cX10_read 59 = .ok (.getfield 66, 3) := by decide +kernel
theorem dX10_read_62 : decode cX10_read 62 = .ok (.iload_n 1, 1) := by decide +kernel
theorem dX10_read_63 : decode cX10_read 63 = .ok (.iload_n 3, 1) := by decide +kernel
theorem dX10_read_64 : decode cX10_read 64 = .ok (.invokevirtual 215, 3) := by decide +kernel
theorem dX10_read_67 : decode cX10_read 67 = .ok (.istore 4, 2) := by decide +kernel
theorem dX10_read_69 : decode cX10_read 69 = .ok (.aload_n 0, 1) := by decide +kernel
theorem dX10_read_70 : decode cX10_read 70 = .ok (.getfield 66, 3) := by decide +kernel
theorem dX10_read_73 : decode cX10_read 73 = .ok (.iload_n 1, 1) := by decide +kernel
theorem dX10_read_74 : decode cX10_read 74 = .ok (.iload_n 3, 1) := by decide +kernel
theorem dX10_read_75 : decode cX10_read 75 = .ok (.iconst 1, 1) := by decide +kernel
theorem dX10_read_76 : decode cX10_read 76 = .ok (.iadd, 1) := by decide +kernel
theorem dX10_read_77 : decode cX10_read 77 = .ok (.invokevirtual 215, 3) := by decide +kernel
theorem dX10_read_80 : decode cX10_read 80 = .ok (.istore 5, 2) := by decide +kernel
theorem dX10_read_82 : decode cX10_read 82 = .ok (.aload_n 0, 1) := by decide +kernel
theorem dX10_read_83 : decode cX10_read 83 = .ok (.getfield 66, 3) := by decide +kernel
theorem dX10_read_86 : decode cX10_read 86 = .ok (.iload_n 1, 1) := by decide +kernel
theorem dX10_read_87 : decode cX10_read 87 = .ok (.iload_n 3, 1) := by decide +kernel
theorem dX10_read_88 : decode cX10_read 88 = .ok (.iconst 2, 1) := by decide +kernel
theorem dX10_read_89 : decode cX10_read 89 = .ok (.iadd, 1) := by decide +kernel
theorem dX10_read_90 : decode cX10_read 90 = .ok (.invokevirtual 215, 3) := by decide +kernel
theorem dX10_read_93 : decode cX10_read 93 = .ok (.istore 6, 2) := by decide +kernel
theorem dX10_read_95 : decode cX10_read 95 = .ok (.iload 4, 2) := by decide +kernel
theorem dX10_read_97 : decode cX10_read 97 = .ok (.iload 5, 2) := by decide +kernel
theorem dX10_read_99 : decode cX10_read 99 = .ok (.iload 6, 2) := by decide +kernel
theorem dX10_read_101 : decode cX10_read 101 = .ok (.invokestatic 197, 3) := by decide +kernel
theorem dX10_read_104 : decode cX10_read 104 = .ok (.ifCond .ne 5, 3) := by decide +kernel
theorem dX10_read_107 : decode cX10_read 107 = .ok (.iload_n 2, 1) := by decide +kernel
theorem dX10_read_108 : decode cX10_read 108 = .ok (.ireturn, 1) := by decide +kernel
theorem dX10_read_109 : decode cX10_read 109 = .ok (.aload_n 0, 1) := by decide +kernel
theorem dX10_read_110 : decode cX10_read 110 = .ok (.getfield 59, 3) := by decide +kernel
theorem dX10_read_113 : decode cX10_read 113 = .ok (.iload 4, 2) := by decide +kernel
theorem dX10_read_115 : decode cX10_read 115 = .ok (.iload 5, 2) := by decide +kernel
theorem dX10_read_117 : decode cX10_read 117 = .ok (.iload 6, 2) := by decide +kernel
theorem dX10_read_119 : decode cX10_read 119 = .ok (.invokevirtual 200, 3) := by decide +kernel
theorem dX10_read_122 : decode cX10_read 122 = .ok (.iinc 2 1, 3) := by decide +kernel
theorem dX10_read_125 : decode cX10_read 125 = .ok (.iinc 3 3, 3) := by decide +kernel
theorem dX10_read_128 : decode cX10_read 128 = .ok (.goto (-94), 3) := by decide +kernel
theorem dX10_read_131 : decode cX10_read 131 = .ok (.iload_n 2, 1) := by decide +kernel
theorem dX10_read_132 : decode cX10_read 132 = .ok (.ireturn, 1) := by decide +kernel
theorem dX10_who_0 : decode cX10_who 0 = .ok (.iload_n 1, 1) := by decide +kernel
theorem dX10_who_1 : decode cX10_who 1 = .ok (.iconst 0, 1) := by decide +kernel
theorem dX10_who_2 : decode cX10_who 2 = .ok (.iconst 2, 1) := by decide +kernel
theorem dX10_who_3 : decode cX10_who 3 = .ok (.invokestatic 81, 3) := by decide +kernel
theorem dX10_who_6 : decode cX10_who 6 = .ok (.ifCond .ne 6, 3) := by decide +kernel
theorem dX10_who_9 : decode cX10_who 9 = .ok (.bipush (-2), 2) := by decide +kernel
theorem dX10_who_11 : decode cX10_who 11 = .ok (.ireturn, 1) := by decide +kernel
theorem dX10_who_12 : decode cX10_who 12 = .ok (.iconst 0, 1) := by decide +kernel
theorem dX10_who_13 : decode cX10_who 13 = .ok (.istore_n 2, 1) := by decide +kernel
theorem dX10_who_14 : decode cX10_who 14 = .ok (.iconst 0, 1) := by decide +kernel
theorem dX10_who_15 : decode cX10_who 15 = .ok (.istore_n 3, 1) := by decide +kernel
theorem dX10_who_16 : decode cX10_who 16 = .ok (.iload_n 3, 1) := by decide +kernel
theorem dX10_who_17 : decode cX10_who 17 = .ok (.aload_n 0, 1) := by decide +kernel
theorem dX10_who_18 : decode cX10_who 18 = .ok (.getfield 38, 3) := by decide +kernel
theorem dX10_who_21 : decode cX10_who 21 = .ok (.invokevirtual 166, 3) := by decide +kernel
theorem dX10_who_24 : decode cX10_who 24 = .ok (.if_icmp .ge 39, 3) := by decide +kernel
theorem dX10_who_27 : decode cX10_who 27 = .ok (.aload_n 0, 1) := by decide +kernel
theorem dX10_who_28 : decode cX10_who 28 = .ok (.getfield 38, 3) := by decide +kernel
theorem dX10_who_31 : decode cX10_who 31 = .ok (.aload_n 0, 1) := by decide +kernel
theorem dX10_who_32 : decode cX10_who 32 = .ok (.getfield 59, 3) := by decide +kernel
theorem dX10_who_35 : decode cX10_who 35 = .ok (.aload_n 0, 1) := by decide +kernel
theorem dX10_who_36 : decode cX10_who 36 = .ok (.getfield 31, 3) := by decide +kernel
theorem dX10_who_39 : decode cX10_who 39 = .ok (.aload_n 0, 1) := by decide +kernel
theorem dX10_who_40 : decode cX10_who 40 = .ok (.getfield 24, 3) := by decide +kernel
theorem dX10_who_43 : decode cX10_who 43 = .ok (.iload_n 3, 1) := by decide +kernel
theorem dX10_who_44 : decode cX10_who 44 = .ok (.iload_n 1, 1) := by decide +kernel
theorem dX10_who_45 : decode cX10_who 45 = .ok (.invokevirtual 218, 3) := by decide +kernel
theorem dX10_who_48 : decode cX10_who 48 = .ok (.ifCond .eq 9, 3) := by decide +kernel
theorem dX10_who_51 : decode cX10_who 51 = .ok (.iload_n 2, 1) := by decide +kernel
theorem dX10_who_52 : decode cX10_who 52 = .ok (.iconst 1, 1) := by decide +kernel
theorem dX10_who_53 : decode cX10_who 53 = .ok (.iload_n 3, 1) := by decide +kernel
theorem dX10_who_54 : decode cX10_who 54 = .ok (.ishl, 1) := by decide +kernel
theorem dX10_who_55 : decode cX10_who 55 = .ok (.ior, 1) := by decide +kernel
theorem dX10_who_56 : decode cX10_who 56 = .ok (.istore_n 2, 1) := by decide +kernel
theorem dX10_who_57 : decode cX10_who 57 = .ok (.iinc 3 1, 3) := by decide +kernel
theorem dX10_who_60 : decode cX10_who 60 = .ok (.goto (-44), 3) := by decide +kernel
theorem dX10_who_63 : decode cX10_who 63 = .ok (.iload_n 2, 1) := by decide +kernel
theorem dX10_who_64 : decode cX10_who 64 = .ok (.ireturn, 1) := by decide +kernel
theorem dX10_frost_0 : decode cX10_frost 0 = .ok (.iload_n 1, 1) := by decide +kernel
theorem dX10_frost_1 : decode cX10_frost 1 = .ok (.iconst 0, 1) := by decide +kernel
theorem dX10_frost_2 : decode cX10_frost 2 = .ok (.bipush 16, 2) := by decide +kernel
theorem dX10_frost_4 : decode cX10_frost 4 = .ok (.invokestatic 81, 3) := by decide +kernel
theorem dX10_frost_7 : decode cX10_frost 7 = .ok (.ifCond .eq 12, 3) := by decide +kernel
theorem dX10_frost_10 : decode cX10_frost 10 = .ok (.iload_n 2, 1) := by decide +kernel
theorem dX10_frost_11 : decode cX10_frost 11 = .ok (.iconst 0, 1) := by decide +kernel
theorem dX10_frost_12 : decode cX10_frost 12 = .ok (.iconst 1, 1) := by decide +kernel
theorem dX10_frost_13 : decode cX10_frost 13 = .ok (.invokestatic 81, 3) := by decide +kernel
theorem dX10_frost_16 : decode cX10_frost 16 = .ok (.ifCond .ne 7, 3) := by decide +kernel
theorem dX10_frost_19 : decode cX10_frost 19 = .ok (.ldc2_w 222, 3) := by decide +kernel
theorem dX10_frost_22 : decode cX10_frost 22 = .ok (.lreturn, 1) := by decide +kernel
theorem dX10_frost_23 : decode cX10_frost 23 = .ok (.aload_n 0, 1) := by decide +kernel
theorem dX10_frost_24 : decode cX10_frost 24 = .ok (.getfield 52, 3) := by decide +kernel
theorem dX10_frost_27 : decode cX10_frost 27 = .ok (.aload_n 0, 1) := by decide +kernel
theorem dX10_frost_28 : decode cX10_frost 28 = .ok (.getfield 38, 3) := by decide +kernel
theorem dX10_frost_31 : decode cX10_frost 31 = .ok (.invokevirtual 172, 3) := by decide +kernel
theorem dX10_frost_34 : decode cX10_frost 34 = .ok (.aload_n 0, 1) := by decide +kernel
theorem dX10_frost_35 : decode cX10_frost 35 = .ok (.getfield 24, 3) := by decide +kernel
theorem dX10_frost_38 : decode cX10_frost 38 = .ok (.iload_n 1, 1) := by decide +kernel
theorem dX10_frost_39 : decode cX10_frost 39 = .ok (.invokevirtual 224, 3) := by decide +kernel
theorem dX10_frost_42 : decode cX10_frost 42 = .ok (.iload_n 2, 1) := by decide +kernel
theorem dX10_frost_43 : decode cX10_frost 43 = .ok (.ifCond .ne 13, 3) := by decide +kernel
theorem dX10_frost_46 : decode cX10_frost 46 = .ok (.aload_n 0, 1) := by decide +kernel
theorem dX10_frost_47 : decode cX10_frost 47 = .ok (.getfield 52, 3) := by decide +kernel
theorem dX10_frost_50 : decode cX10_frost 50 = .ok (.invokevirtual 227, 3) := by decide +kernel
theorem dX10_frost_53 : decode cX10_frost 53 = .ok (.goto 10, 3) := by decide +kernel
theorem dX10_frost_56 : decode cX10_frost 56 = .ok (.aload_n 0, 1) := by decide +kernel
theorem dX10_frost_57 : decode cX10_frost 57 = .ok (.getfield 52, 3) := by decide +kernel
theorem dX10_frost_60 : decode cX10_frost 60 = .ok (.invokevirtual 231, 3) := by decide +kernel
theorem dX10_frost_63 : decode cX10_frost 63 = .ok (.lreturn, 1) := by decide +kernel
theorem dX10_years_0 : decode cX10_years 0 = .ok (.aload_n 0, 1) := by decide +kernel
theorem dX10_years_1 : decode cX10_years 1 = .ok (.getfield 38, 3) := by decide +kernel
theorem dX10_years_4 : decode cX10_years 4 = .ok (.invokevirtual 172, 3) := by decide +kernel
theorem dX10_years_7 : decode cX10_years 7 = .ok (.astore 4, 2) := by decide +kernel
theorem dX10_years_9 : decode cX10_years 9 = .ok (.iload_n 2, 1) := by decide +kernel
theorem dX10_years_10 : decode cX10_years 10 = .ok (.iconst 1, 1) := by decide +kernel
theorem dX10_years_11 : decode cX10_years 11 = .ok (.bipush 40, 2) := by decide +kernel
theorem dX10_years_13 : decode cX10_years 13 = .ok (.invokestatic 81, 3) := by decide +kernel
theorem dX10_years_16 : decode cX10_years 16 = .ok (.ifCond .eq 11, 3) := by decide +kernel
theorem dX10_years_19 : decode cX10_years 19 = .ok (.aload 4, 2) := by decide +kernel
theorem dX10_years_21 : decode cX10_years 21 = .ok (.invokevirtual 234, 3) := by decide +kernel
theorem dX10_years_24 : decode cX10_years 24 = .ok (.ifCond .ne 6, 3) := by decide +kernel
theorem dX10_years_27 : decode cX10_years 27 = .ok (.bipush (-2), 2) := by decide +kernel
theorem dX10_years_29 : decode cX10_years 29 = .ok (.ireturn, 1) := by decide +kernel
theorem dX10_years_30 : decode cX10_years 30 = .ok (.iload_n 3, 1) := by decide +kernel
theorem dX10_years_31 : decode cX10_years 31 = .ok (.iconst (-1), 1) := by decide +kernel
theorem dX10_years_32 : decode cX10_years 32 = .ok (.if_icmp .eq 15, 3) := by decide +kernel
theorem dX10_years_35 : decode cX10_years 35 = .ok (.aload 4, 2) := by decide +kernel
theorem dX10_years_37 : decode cX10_years 37 = .ok (.iload_n 3, 1) := by decide +kernel
theorem dX10_years_38 : decode cX10_years 38 = .ok (.invokevirtual 125, 3) := by decide +kernel
theorem dX10_years_41 : decode cX10_years 41 = .ok (.ifCond .ne 6, 3) := by decide +kernel
theorem dX10_years_44 : decode cX10_years 44 = .ok (.bipush (-2), 2) := by decide +kernel
theorem dX10_years_46 : decode cX10_years 46 = .ok (.ireturn, 1) := by decide +kernel
theorem dX10_years_47 : decode cX10_years 47 = .ok (.aload_n 0, 1) := by decide +kernel
theorem dX10_years_48 : decode cX10_years 48 = .ok (.getfield 52, 3) := by decide +kernel
theorem dX10_years_51 : decode cX10_years 51 = .ok (.aload 4, 2) := by decide +kernel
theorem dX10_years_53 : decode cX10_years 53 = .ok (.aload_n 0, 1) := by decide +kernel
theorem dX10_years_54 : decode cX10_years 54 = .ok (.getfield 24, 3) := by decide +kernel
theorem dX10_years_57 : decode cX10_years 57 = .ok (.aload_n 0, 1) := by decide +kernel
theorem dX10_years_58 : decode cX10_years 58 = .ok (.getfield 38, 3) := by decide +kernel
theorem dX10_years_61 : decode cX10_years 61 = .ok (.invokevirtual 166, 3) := by decide +kernel
theorem dX10_years_64 : decode cX10_years 64 = .ok (.iload_n 1, 1) := by decide +kernel
theorem dX10_years_65 : decode cX10_years 65 = .ok (.iload_n 2, 1) := by decide +kernel
theorem dX10_years_66 : decode cX10_years 66 = .ok (.invokevirtual 237, 3) := by decide +kernel
theorem dX10_years_69 : decode cX10_years 69 = .ok (.iload_n 3, 1) := by decide +kernel
theorem dX10_years_70 : decode cX10_years 70 = .ok (.iconst (-1), 1) := by decide +kernel
theorem dX10_years_71 : decode cX10_years 71 = .ok (.if_icmp .ne 13, 3) := by decide +kernel
theorem dX10_years_74 : decode cX10_years 74 = .ok (.aload_n 0, 1) := by decide +kernel
theorem dX10_years_75 : decode cX10_years 75 = .ok (.getfield 52, 3) := by decide +kernel
theorem dX10_years_78 : decode cX10_years 78 = .ok (.invokevirtual 241, 3) := by decide +kernel
theorem dX10_years_81 : decode cX10_years 81 = .ok (.goto 11, 3) := by decide +kernel
theorem dX10_years_84 : decode cX10_years 84 = .ok (.aload_n 0, 1) := by decide +kernel
theorem dX10_years_85 : decode cX10_years 85 = .ok (.getfield 52, 3) := by decide +kernel
theorem dX10_years_88 : decode cX10_years 88 = .ok (.iload_n 3, 1) := by decide +kernel
theorem dX10_years_89 : decode cX10_years 89 = .ok (.invokevirtual 244, 3) := by decide +kernel
theorem dX10_years_92 : decode cX10_years 92 = .ok (.ireturn, 1) := by decide +kernel
theorem dX10_sheet_0 : decode cX10_sheet 0 = .ok (.iload_n 1, 1) := by decide +kernel
theorem dX10_sheet_1 : decode cX10_sheet 1 = .ok (.invokestatic 205, 3) := by decide +kernel
theorem dX10_sheet_4 : decode cX10_sheet 4 = .ok (.ifCond .eq 16, 3) := by decide +kernel
theorem dX10_sheet_7 : decode cX10_sheet 7 = .ok (.iload_n 2, 1) := by decide +kernel
theorem dX10_sheet_8 : decode cX10_sheet 8 = .ok (.invokestatic 245, 3) := by decide +kernel
theorem dX10_sheet_11 : decode cX10_sheet 11 = .ok (.ifCond .eq 9, 3) := by decide +kernel
theorem dX10_sheet_14 : decode cX10_sheet 14 = .ok (.iload_n 3, 1) := by decide +kernel
theorem dX10_sheet_15 : decode cX10_sheet 15 = .ok (.bipush 60, 2) := by decide +kernel
theorem dX10_sheet_17 : decode cX10_sheet 17 = .ok (.if_icmp .le 6, 3) := by decide +kernel
theorem dX10_sheet_20 : decode cX10_sheet 20 = .ok (.bipush (-2), 2) := by decide +kernel
theorem dX10_sheet_22 : decode cX10_sheet 22 = .ok (.ireturn, 1) := by decide +kernel
theorem dX10_sheet_23 : decode cX10_sheet 23 = .ok (.iload_n 3, 1) := by decide +kernel
theorem dX10_sheet_24 : decode cX10_sheet 24 = .ok (.ifCond .ge 12, 3) := by decide +kernel
theorem dX10_sheet_27 : decode cX10_sheet 27 = .ok (.aload_n 0, 1) := by decide +kernel
theorem dX10_sheet_28 : decode cX10_sheet 28 = .ok (.getfield 66, 3) := by decide +kernel
theorem dX10_sheet_31 : decode cX10_sheet 31 = .ok (.iconst 5, 1) := by decide +kernel
theorem dX10_sheet_32 : decode cX10_sheet 32 = .ok (.invokevirtual 211, 3) := by decide +kernel
theorem dX10_sheet_35 : decode cX10_sheet 35 = .ok (.ireturn, 1) := by decide +kernel
theorem dX10_sheet_36 : decode cX10_sheet 36 = .ok (.aload_n 0, 1) := by decide +kernel
theorem dX10_sheet_37 : decode cX10_sheet 37 = .ok (.getfield 66, 3) := by decide +kernel
theorem dX10_sheet_40 : decode cX10_sheet 40 = .ok (.iload_n 1, 1) := by decide +kernel
theorem dX10_sheet_41 : decode cX10_sheet 41 = .ok (.iload_n 2, 1) := by decide +kernel
theorem dX10_sheet_42 : decode cX10_sheet 42 = .ok (.iload_n 3, 1) := by decide +kernel
theorem dX10_sheet_43 : decode cX10_sheet 43 = .ok (.invokevirtual 248, 3) := by decide +kernel
theorem dX10_sheet_46 : decode cX10_sheet 46 = .ok (.iload_n 3, 1) := by decide +kernel
theorem dX10_sheet_47 : decode cX10_sheet 47 = .ok (.ireturn, 1) := by decide +kernel
theorem dX10_lose_0 : decode cX10_lose 0 = .ok (.iload_n 1, 1) := by decide +kernel
theorem dX10_lose_1 : decode cX10_lose 1 = .ok (.invokestatic 205, 3) := by decide +kernel
theorem dX10_lose_4 : decode cX10_lose 4 = .ok (.ifCond .ne 6, 3) := by decide +kernel
theorem dX10_lose_7 : decode cX10_lose 7 = .ok (.bipush (-2), 2) := by decide +kernel
theorem dX10_lose_9 : decode cX10_lose 9 = .ok (.ireturn, 1) := by decide +kernel
theorem dX10_lose_10 : decode cX10_lose 10 = .ok (.aload_n 0, 1) := by decide +kernel
theorem dX10_lose_11 : decode cX10_lose 11 = .ok (.getfield 66, 3) := by decide +kernel
theorem dX10_lose_14 : decode cX10_lose 14 = .ok (.iload_n 1, 1) := by decide +kernel
theorem dX10_lose_15 : decode cX10_lose 15 = .ok (.invokevirtual 208, 3) := by decide +kernel
theorem dX10_lose_18 : decode cX10_lose 18 = .ok (.ifCond .eq 12, 3) := by decide +kernel
theorem dX10_lose_21 : decode cX10_lose 21 = .ok (.aload_n 0, 1) := by decide +kernel
theorem dX10_lose_22 : decode cX10_lose 22 = .ok (.getfield 66, 3) := by decide +kernel
theorem dX10_lose_25 : decode cX10_lose 25 = .ok (.iconst 1, 1) := by decide +kernel
theorem dX10_lose_26 : decode cX10_lose 26 = .ok (.invokevirtual 211, 3) := by decide +kernel
theorem dX10_lose_29 : decode cX10_lose 29 = .ok (.ireturn, 1) := by decide +kernel
theorem dX10_lose_30 : decode cX10_lose 30 = .ok (.aload_n 0, 1) := by decide +kernel
theorem dX10_lose_31 : decode cX10_lose 31 = .ok (.getfield 66, 3) := by decide +kernel
theorem dX10_lose_34 : decode cX10_lose 34 = .ok (.iload_n 1, 1) := by decide +kernel
theorem dX10_lose_35 : decode cX10_lose 35 = .ok (.invokevirtual 214, 3) := by decide +kernel
theorem dX10_lose_38 : decode cX10_lose 38 = .ok (.istore_n 2, 1) := by decide +kernel
theorem dX10_lose_39 : decode cX10_lose 39 = .ok (.aload_n 0, 1) := by decide +kernel
theorem dX10_lose_40 : decode cX10_lose 40 = .ok (.getfield 66, 3) := by decide +kernel
theorem dX10_lose_43 : decode cX10_lose 43 = .ok (.iload_n 1, 1) := by decide +kernel
theorem dX10_lose_44 : decode cX10_lose 44 = .ok (.invokevirtual 251, 3) := by decide +kernel
theorem dX10_lose_47 : decode cX10_lose 47 = .ok (.iload_n 2, 1) := by decide +kernel
theorem dX10_lose_48 : decode cX10_lose 48 = .ok (.ireturn, 1) := by decide +kernel
theorem dX10_lay_0 : decode cX10_lay 0 = .ok (.aload_n 0, 1) := by decide +kernel
theorem dX10_lay_1 : decode cX10_lay 1 = .ok (.getfield 66, 3) := by decide +kernel
theorem dX10_lay_4 : decode cX10_lay 4 = .ok (.iload_n 1, 1) := by decide +kernel
theorem dX10_lay_5 : decode cX10_lay 5 = .ok (.iload_n 2, 1) := by decide +kernel
theorem dX10_lay_6 : decode cX10_lay 6 = .ok (.iload_n 3, 1) := by decide +kernel
theorem dX10_lay_7 : decode cX10_lay 7 = .ok (.invokevirtual 254, 3) := by decide +kernel
theorem dX10_lay_10 : decode cX10_lay 10 = .ok (.istore 5, 2) := by decide +kernel
theorem dX10_lay_12 : decode cX10_lay 12 = .ok (.iload 5, 2) := by decide +kernel
theorem dX10_lay_14 : decode cX10_lay 14 = .ok (.ifCond .eq 6, 3) := by decide +kernel
theorem dX10_lay_17 : decode cX10_lay 17 = .ok (.iload 5, 2) := by decide +kernel
theorem dX10_lay_19 : decode cX10_lay 19 = .ok (.ireturn, 1) := by decide +kernel
theorem dX10_lay_20 : decode cX10_lay 20 = .ok (.aload_n 0, 1) := by decide +kernel
theorem dX10_lay_21 : decode cX10_lay 21 = .ok (.getfield 66, 3) := by decide +kernel
theorem dX10_lay_24 : decode cX10_lay 24 = .ok (.iload_n 1, 1) := by decide +kernel
theorem dX10_lay_25 : decode cX10_lay 25 = .ok (.iload_n 3, 1) := by decide +kernel
theorem dX10_lay_26 : decode cX10_lay 26 = .ok (.iload 4, 2) := by decide +kernel
theorem dX10_lay_28 : decode cX10_lay 28 = .ok (.invokevirtual 258, 3) := by decide +kernel
theorem dX10_lay_31 : decode cX10_lay 31 = .ok (.iconst 1, 1) := by decide +kernel
theorem dX10_lay_32 : decode cX10_lay 32 = .ok (.ireturn, 1) := by decide +kernel
theorem dX10_get_0 : decode cX10_get 0 = .ok (.aload_n 0, 1) := by decide +kernel
theorem dX10_get_1 : decode cX10_get 1 = .ok (.getfield 66, 3) := by decide +kernel
theorem dX10_get_4 : decode cX10_get 4 = .ok (.iload_n 1, 1) := by decide +kernel
theorem dX10_get_5 : decode cX10_get 5 = .ok (.iload_n 2, 1) := by decide +kernel
theorem dX10_get_6 : decode cX10_get 6 = .ok (.iload_n 3, 1) := by decide +kernel
theorem dX10_get_7 : decode cX10_get 7 = .ok (.invokevirtual 254, 3) := by decide +kernel
theorem dX10_get_10 : decode cX10_get 10 = .ok (.istore 4, 2) := by decide +kernel
theorem dX10_get_12 : decode cX10_get 12 = .ok (.iload 4, 2) := by decide +kernel
theorem dX10_get_14 : decode cX10_get 14 = .ok (.ifCond .eq 9, 3) := by decide +kernel
theorem dX10_get_17 : decode cX10_get 17 = .ok (.ldc_w 261, 3) := by decide +kernel
theorem dX10_get_20 : decode cX10_get 20 = .ok (.goto 12, 3) := by decide +kernel
theorem dX10_get_23 : decode cX10_get 23 = .ok (.aload_n 0, 1) := by decide +kernel
theorem dX10_get_24 : decode cX10_get 24 = .ok (.getfield 66, 3) := by decide +kernel
theorem dX10_get_27 : decode cX10_get 27 = .ok (.iload_n 1, 1) := by decide +kernel
theorem dX10_get_28 : decode cX10_get 28 = .ok (.iload_n 3, 1) := by decide +kernel
theorem dX10_get_29 : decode cX10_get 29 = .ok (.invokevirtual 215, 3) := by decide +kernel
theorem dX10_get_32 : decode cX10_get 32 = .ok (.ireturn, 1) := by decide +kernel
theorem dX10_copy_0 : decode cX10_copy 0 = .ok (.iload_n 1, 1) := by decide +kernel
theorem dX10_copy_1 : decode cX10_copy 1 = .ok (.invokestatic 205, 3) := by decide +kernel
theorem dX10_copy_4 : decode cX10_copy 4 = .ok (.ifCond .eq 10, 3) := by decide +kernel
theorem dX10_copy_7 : decode cX10_copy 7 = .ok (.iload_n 3, 1) := by decide +kernel
theorem dX10_copy_8 : decode cX10_copy 8 = .ok (.invokestatic 205, 3) := by decide +kernel
theorem dX10_copy_11 : decode cX10_copy 11 = .ok (.ifCond .ne 6, 3) := by decide +kernel
theorem dX10_copy_14 : decode cX10_copy 14 = .ok (.bipush (-2), 2) := by decide +kernel
theorem dX10_copy_16 : decode cX10_copy 16 = .ok (.ireturn, 1) := by decide +kernel
theorem dX10_copy_17 : decode cX10_copy 17 = .ok (.aload_n 0, 1) := by decide +kernel
theorem dX10_copy_18 : decode cX10_copy 18 = .ok (.getfield 66, 3) := by decide +kernel
theorem dX10_copy_21 : decode cX10_copy 21 = .ok (.iload_n 1, 1) := by decide +kernel
theorem dX10_copy_22 : decode cX10_copy 22 = .ok (.invokevirtual 208, 3) := by decide +kernel
theorem dX10_copy_25 : decode cX10_copy 25 = .ok (.ifCond .ne 14, 3) := by decide +kernel
theorem dX10_copy_28 : decode cX10_copy 28 = .ok (.aload_n 0, 1) := by decide +kernel
theorem dX10_copy_29 : decode cX10_copy 29 = .ok (.getfield 66, 3) := by decide +kernel
theorem dX10_copy_32 : decode cX10_copy 32 = .ok (.iload_n 3, 1) := by decide +kernel
theorem dX10_copy_33 : decode cX10_copy 33 = .ok (.invokevirtual 208, 3) := by decide +kernel
theorem dX10_copy_36 : decode cX10_copy 36 = .ok (.ifCond .eq 12, 3) := by decide +kernel
theorem dX10_copy_39 : decode cX10_copy 39 = .ok (.aload_n 0, 1) := by decide +kernel
theorem dX10_copy_40 : decode cX10_copy 40 = .ok (.getfield 66, 3) := by decide +kernel
theorem dX10_copy_43 : decode cX10_copy 43 = .ok (.iconst 1, 1) := by decide +kernel
theorem dX10_copy_44 : decode cX10_copy 44 = .ok (.invokevirtual 211, 3) := by decide +kernel
theorem dX10_copy_47 : decode cX10_copy 47 = .ok (.ireturn, 1) := by decide +kernel
theorem dX10_copy_48 : decode cX10_copy 48 = .ok (.aload_n 0, 1) := by decide +kernel
theorem dX10_copy_49 : decode cX10_copy 49 = .ok (.getfield 66, 3) := by decide +kernel
theorem dX10_copy_52 : decode cX10_copy 52 = .ok (.iload_n 1, 1) := by decide +kernel
theorem dX10_copy_53 : decode cX10_copy 53 = .ok (.invokevirtual 262, 3) := by decide +kernel
theorem dX10_copy_56 : decode cX10_copy 56 = .ok (.aload_n 0, 1) := by decide +kernel
theorem dX10_copy_57 : decode cX10_copy 57 = .ok (.getfield 66, 3) := by decide +kernel
theorem dX10_copy_60 : decode cX10_copy 60 = .ok (.iload_n 3, 1) := by decide +kernel
theorem dX10_copy_61 : decode cX10_copy 61 = .ok (.invokevirtual 262, 3) := by decide +kernel
theorem dX10_copy_64 : decode cX10_copy 64 = .ok (.if_icmp .eq 12, 3) := by decide +kernel
theorem dX10_copy_67 : decode cX10_copy 67 = .ok (.aload_n 0, 1) := by decide +kernel
theorem dX10_copy_68 : decode cX10_copy 68 = .ok (.getfield 66, 3) := by decide +kernel
theorem dX10_copy_71 : decode cX10_copy 71 = .ok (.iconst 4, 1) := by decide +kernel
theorem dX10_copy_72 : decode cX10_copy 72 = .ok (.invokevirtual 211, 3) := by decide +kernel
theorem dX10_copy_75 : decode cX10_copy 75 = .ok (.ireturn, 1) := by decide +kernel
theorem dX10_copy_76 : decode cX10_copy 76 = .ok (.iload 5, 2) := by decide +kernel
theorem dX10_copy_78 : decode cX10_copy 78 = .ok (.ifCond .lt 32, 3) := by decide +kernel
theorem dX10_copy_81 : decode cX10_copy 81 = .ok (.aload_n 0, 1) := by decide +kernel
theorem dX10_copy_82 : decode cX10_copy 82 = .ok (.getfield 66, 3) := by decide +kernel
theorem dX10_copy_85 : decode cX10_copy 85 = .ok (.iload_n 1, 1) := by decide +kernel
theorem dX10_copy_86 : decode cX10_copy 86 = .ok (.iload_n 2, 1) := by decide +kernel
theorem dX10_copy_87 : decode cX10_copy 87 = .ok (.iload 5, 2) := by decide +kernel
theorem dX10_copy_89 : decode cX10_copy 89 = .ok (.invokevirtual 265, 3) := by decide +kernel
theorem dX10_copy_92 : decode cX10_copy 92 = .ok (.ifCond .eq 18, 3) := by decide +kernel
theorem dX10_copy_95 : decode cX10_copy 95 = .ok (.aload_n 0, 1) := by decide +kernel
theorem dX10_copy_96 : decode cX10_copy 96 = .ok (.getfield 66, 3) := by decide +kernel
theorem dX10_copy_99 : decode cX10_copy 99 = .ok (.iload_n 3, 1) := by decide +kernel
theorem dX10_copy_100 : decode cX10_copy 100 = .ok (.iload 4, 2) := by decide +kernel
theorem dX10_copy_102 : decode cX10_copy 102 = .ok (.iload 5, 2) := by decide +kernel
theorem dX10_copy_104 : decode cX10_copy 104 = .ok (.invokevirtual 265, 3) := by decide +kernel
theorem dX10_copy_107 : decode cX10_copy 107 = .ok (.ifCond .ne 12, 3) := by decide +kernel
theorem dX10_copy_110 : decode cX10_copy 110 = .ok (.aload_n 0, 1) := by decide +kernel
theorem dX10_copy_111 : decode cX10_copy 111 = .ok (.getfield 66, 3) := by decide +kernel
theorem dX10_copy_114 : decode cX10_copy 114 = .ok (.iconst 2, 1) := by decide +kernel
theorem dX10_copy_115 : decode cX10_copy 115 = .ok (.invokevirtual 211, 3) := by decide +kernel
theorem dX10_copy_118 : decode cX10_copy 118 = .ok (.ireturn, 1) := by decide +kernel
theorem dX10_copy_119 : decode cX10_copy 119 = .ok (.aload_n 0, 1) := by decide +kernel
theorem dX10_copy_120 : decode cX10_copy 120 = .ok (.getfield 66, 3) := by decide +kernel
theorem dX10_copy_123 : decode cX10_copy 123 = .ok (.iload_n 1, 1) := by decide +kernel
theorem dX10_copy_124 : decode cX10_copy 124 = .ok (.iload_n 2, 1) := by decide +kernel
theorem dX10_copy_125 : decode cX10_copy 125 = .ok (.iload_n 3, 1) := by decide +kernel
theorem dX10_copy_126 : decode cX10_copy 126 = .ok (.iload 4, 2) := by decide +kernel
theorem dX10_copy_128 : decode cX10_copy 128 = .ok (.iload 5, 2) := by decide +kernel
theorem dX10_copy_130 : decode cX10_copy 130 = .ok (.invokevirtual 268, 3) := by decide +kernel
theorem dX10_copy_133 : decode cX10_copy 133 = .ok (.iconst 1, 1) := by decide +kernel
theorem dX10_copy_134 : decode cX10_copy 134 = .ok (.ireturn, 1) := by decide +kernel
theorem dX10_write_0 : decode cX10_write 0 = .ok (.aload_n 0, 1) := by decide +kernel
theorem dX10_write_1 : decode cX10_write 1 = .ok (.getfield 38, 3) := by decide +kernel
theorem dX10_write_4 : decode cX10_write 4 = .ok (.iload_n 1, 1) := by decide +kernel
theorem dX10_write_5 : decode cX10_write 5 = .ok (.invokevirtual 121, 3) := by decide +kernel
theorem dX10_write_8 : decode cX10_write 8 = .ok (.astore_n 3, 1) := by decide +kernel
theorem dX10_write_9 : decode cX10_write 9 = .ok (.aload_n 3, 1) := by decide +kernel
theorem dX10_write_10 : decode cX10_write 10 = .ok (.ifnull 10, 3) := by decide +kernel
theorem dX10_write_13 : decode cX10_write 13 = .ok (.iload_n 2, 1) := by decide +kernel
theorem dX10_write_14 : decode cX10_write 14 = .ok (.invokestatic 205, 3) := by decide +kernel
theorem dX10_write_17 : decode cX10_write 17 = .ok (.ifCond .ne 6, 3) := by decide +kernel
theorem dX10_write_20 : decode cX10_write 20 = .ok (.bipush (-2), 2) := by decide +kernel
theorem dX10_write_22 : decode cX10_write 22 = .ok (.ireturn, 1) := by decide +kernel
theorem dX10_write_23 : decode cX10_write 23 = .ok (.aload_n 0, 1) := by decide +kernel
theorem dX10_write_24 : decode cX10_write 24 = .ok (.getfield 66, 3) := by decide +kernel
theorem dX10_write_27 : decode cX10_write 27 = .ok (.iload_n 2, 1) := by decide +kernel
theorem dX10_write_28 : decode cX10_write 28 = .ok (.invokevirtual 208, 3) := by decide +kernel
theorem dX10_write_31 : decode cX10_write 31 = .ok (.ifCond .eq 12, 3) := by decide +kernel
theorem dX10_write_34 : decode cX10_write 34 = .ok (.aload_n 0, 1) := by decide +kernel
theorem dX10_write_35 : decode cX10_write 35 = .ok (.getfield 66, 3) := by decide +kernel
theorem dX10_write_38 : decode cX10_write 38 = .ok (.iconst 1, 1) := by decide +kernel
theorem dX10_write_39 : decode cX10_write 39 = .ok (.invokevirtual 211, 3) := by decide +kernel
theorem dX10_write_42 : decode cX10_write 42 = .ok (.ireturn, 1) := by decide +kernel
theorem dX10_write_43 : decode cX10_write 43 = .ok (.aload_n 0, 1) := by decide +kernel
theorem dX10_write_44 : decode cX10_write 44 = .ok (.getfield 66, 3) := by decide +kernel
theorem dX10_write_47 : decode cX10_write 47 = .ok (.iload_n 2, 1) := by decide +kernel
theorem dX10_write_48 : decode cX10_write 48 = .ok (.invokevirtual 214, 3) := by decide +kernel
theorem dX10_write_51 : decode cX10_write 51 = .ok (.aload_n 3, 1) := by decide +kernel
theorem dX10_write_52 : decode cX10_write 52 = .ok (.invokevirtual 234, 3) := by decide +kernel
theorem dX10_write_55 : decode cX10_write 55 = .ok (.invokestatic 272, 3) := by decide +kernel
theorem dX10_write_58 : decode cX10_write 58 = .ok (.istore 4, 2) := by decide +kernel
theorem dX10_write_60 : decode cX10_write 60 = .ok (.iconst 0, 1) := by decide +kernel
theorem dX10_write_61 : decode cX10_write 61 = .ok (.istore 5, 2) := by decide +kernel
theorem dX10_write_63 : decode cX10_write 63 = .ok (.iload 5, 2) := by decide +kernel
theorem dX10_write_65 : decode cX10_write 65 = .ok (.iload 4, 2) := by decide +kernel
theorem dX10_write_67 : decode cX10_write 67 = .ok (.if_icmp .ge 25, 3) := by decide +kernel
theorem dX10_write_70 : decode cX10_write 70 = .ok (.aload_n 0, 1) := by decide +kernel
theorem dX10_write_71 : decode cX10_write 71 = .ok (.getfield 66, 3) := by decide +kernel
theorem dX10_write_74 : decode cX10_write 74 = .ok (.iload_n 2, 1) := by decide +kernel
theorem dX10_write_75 : decode cX10_write 75 = .ok (.iload 5, 2) := by decide +kernel
theorem dX10_write_77 : decode cX10_write 77 = .ok (.aload_n 3, 1) := by decide +kernel
theorem dX10_write_78 : decode cX10_write 78 = .ok (.iload 5, 2) := by decide +kernel
theorem dX10_write_80 : decode cX10_write 80 = .ok (.invokevirtual 131, 3) := by decide +kernel
theorem dX10_write_83 : decode cX10_write 83 = .ok (.invokevirtual 258, 3) := by decide +kernel
theorem dX10_write_86 : decode cX10_write 86 = .ok (.iinc 5 1, 3) := by decide +kernel
theorem dX10_write_89 : decode cX10_write 89 = .ok (.goto (-26), 3) := by decide +kernel
theorem dX10_write_92 : decode cX10_write 92 = .ok (.iload 4, 2) := by decide +kernel
theorem dX10_write_94 : decode cX10_write 94 = .ok (.ireturn, 1) := by decide +kernel
theorem dX10_count_0 : decode cX10_count 0 = .ok (.iload_n 1, 1) := by decide +kernel
theorem dX10_count_1 : decode cX10_count 1 = .ok (.tableswitch 130 0 8 #[51, 62, 70, 78, 86, 94, 105, 113, 122], 51) := by decide +kernel
theorem dX10_count_52 : decode cX10_count 52 = .ok (.aload_n 0, 1) := by decide +kernel
theorem dX10_count_53 : decode cX10_count 53 = .ok (.getfield 38, 3) := by decide +kernel
theorem dX10_count_56 : decode cX10_count 56 = .ok (.invokevirtual 172, 3) := by decide +kernel
theorem dX10_count_59 : decode cX10_count 59 = .ok (.invokevirtual 234, 3) := by decide +kernel
theorem dX10_count_62 : decode cX10_count 62 = .ok (.ireturn, 1) := by decide +kernel
theorem dX10_count_63 : decode cX10_count 63 = .ok (.aload_n 0, 1) := by decide +kernel
theorem dX10_count_64 : decode cX10_count 64 = .ok (.getfield 38, 3) := by decide +kernel
theorem dX10_count_67 : decode cX10_count 67 = .ok (.invokevirtual 166, 3) := by decide +kernel
theorem dX10_count_70 : decode cX10_count 70 = .ok (.ireturn, 1) := by decide +kernel
theorem dX10_count_71 : decode cX10_count 71 = .ok (.aload_n 0, 1) := by decide +kernel
theorem dX10_count_72 : decode cX10_count 72 = .ok (.getfield 14, 3) := by decide +kernel
theorem dX10_count_75 : decode cX10_count 75 = .ok (.invokevirtual 95, 3) := by decide +kernel
theorem dX10_count_78 : decode cX10_count 78 = .ok (.ireturn, 1) := by decide +kernel
theorem dX10_count_79 : decode cX10_count 79 = .ok (.aload_n 0, 1) := by decide +kernel
theorem dX10_count_80 : decode cX10_count 80 = .ok (.getfield 18, 3) := by decide +kernel
theorem dX10_count_83 : decode cX10_count 83 = .ok (.invokevirtual 95, 3) := by decide +kernel
theorem dX10_count_86 : decode cX10_count 86 = .ok (.ireturn, 1) := by decide +kernel
theorem dX10_count_87 : decode cX10_count 87 = .ok (.aload_n 0, 1) := by decide +kernel
theorem dX10_count_88 : decode cX10_count 88 = .ok (.getfield 59, 3) := by decide +kernel
theorem dX10_count_91 : decode cX10_count 91 = .ok (.invokevirtual 203, 3) := by decide +kernel
theorem dX10_count_94 : decode cX10_count 94 = .ok (.ireturn, 1) := by decide +kernel
theorem dX10_count_95 : decode cX10_count 95 = .ok (.aload_n 0, 1) := by decide +kernel
theorem dX10_count_96 : decode cX10_count 96 = .ok (.getfield 38, 3) := by decide +kernel
theorem dX10_count_99 : decode cX10_count 99 = .ok (.invokevirtual 172, 3) := by decide +kernel
theorem dX10_count_102 : decode cX10_count 102 = .ok (.invokevirtual 277, 3) := by decide +kernel
theorem dX10_count_105 : decode cX10_count 105 = .ok (.ireturn, 1) := by decide +kernel
theorem dX10_count_106 : decode cX10_count 106 = .ok (.aload_n 0, 1) := by decide +kernel
theorem dX10_count_107 : decode cX10_count 107 = .ok (.getfield 38, 3) := by decide +kernel
theorem dX10_count_110 : decode cX10_count 110 = .ok (.invokevirtual 280, 3) := by decide +kernel
theorem dX10_count_113 : decode cX10_count 113 = .ok (.ireturn, 1) := by decide +kernel
theorem dX10_count_114 : decode cX10_count 114 = .ok (.aload_n 0, 1) := by decide +kernel
theorem dX10_count_115 : decode cX10_count 115 = .ok (.getfield 24, 3) := by decide +kernel
theorem dX10_count_118 : decode cX10_count 118 = .ok (.iconst 2, 1) := by decide +kernel
theorem dX10_count_119 : decode cX10_count 119 = .ok (.invokevirtual 109, 3) := by decide +kernel
theorem dX10_count_122 : decode cX10_count 122 = .ok (.ireturn, 1) := by decide +kernel
theorem dX10_count_123 : decode cX10_count 123 = .ok (.aload_n 0, 1) := by decide +kernel
theorem dX10_count_124 : decode cX10_count 124 = .ok (.getfield 66, 3) := by decide +kernel
theorem dX10_count_127 : decode cX10_count 127 = .ok (.invokevirtual 283, 3) := by decide +kernel
theorem dX10_count_130 : decode cX10_count 130 = .ok (.ireturn, 1) := by decide +kernel
theorem dX10_count_131 : decode cX10_count 131 = .ok (.bipush (-2), 2) := by decide +kernel
theorem dX10_count_133 : decode cX10_count 133 = .ok (.ireturn, 1) := by decide +kernel
theorem dX10_digest_0 : decode cX10_digest 0 = .ok (.ldc2_w 286, 3) := by decide +kernel
theorem dX10_digest_3 : decode cX10_digest 3 = .ok (.lstore_n 1, 1) := by decide +kernel
theorem dX10_digest_4 : decode cX10_digest 4 = .ok (.iconst 0, 1) := by decide +kernel
theorem dX10_digest_5 : decode cX10_digest 5 = .ok (.istore_n 3, 1) := by decide +kernel
theorem dX10_digest_6 : decode cX10_digest 6 = .ok (.iload_n 3, 1) := by decide +kernel
theorem dX10_digest_7 : decode cX10_digest 7 = .ok (.bipush 7, 2) := by decide +kernel
theorem dX10_digest_9 : decode cX10_digest 9 = .ok (.if_icmp .gt 20, 3) := by decide +kernel
theorem dX10_digest_12 : decode cX10_digest 12 = .ok (.lload_n 1, 1) := by decide +kernel
theorem dX10_digest_13 : decode cX10_digest 13 = .ok (.aload_n 0, 1) := by decide +kernel
theorem dX10_digest_14 : decode cX10_digest 14 = .ok (.iload_n 3, 1) := by decide +kernel
theorem dX10_digest_15 : decode cX10_digest 15 = .ok (.invokevirtual 288, 3) := by decide +kernel
theorem dX10_digest_18 : decode cX10_digest 18 = .ok (.i2l, 1) := by decide +kernel
theorem dX10_digest_19 : decode cX10_digest 19 = .ok (.invokestatic 291, 3) := by decide +kernel
theorem dX10_digest_22 : decode cX10_digest 22 = .ok (.lstore_n 1, 1) := by decide +kernel
theorem dX10_digest_23 : decode cX10_digest 23 = .ok (.iinc 3 1, 3) := by decide +kernel
theorem dX10_digest_26 : decode cX10_digest 26 = .ok (.goto (-20), 3) := by decide +kernel
theorem dX10_digest_29 : decode cX10_digest 29 = .ok (.lload_n 1, 1) := by decide +kernel
theorem dX10_digest_30 : decode cX10_digest 30 = .ok (.aload_n 0, 1) := by decide +kernel
theorem dX10_digest_31 : decode cX10_digest 31 = .ok (.iconst 0, 1) := by decide +kernel
theorem dX10_digest_32 : decode cX10_digest 32 = .ok (.invokevirtual 295, 3) := by decide +kernel
theorem dX10_digest_35 : decode cX10_digest 35 = .ok (.i2l, 1) := by decide +kernel
theorem dX10_digest_36 : decode cX10_digest 36 = .ok (.invokestatic 291, 3) := by decide +kernel
theorem dX10_digest_39 : decode cX10_digest 39 = .ok (.lstore_n 1, 1) := by decide +kernel
theorem dX10_digest_40 : decode cX10_digest 40 = .ok (.lload_n 1, 1) := by decide +kernel
theorem dX10_digest_41 : decode cX10_digest 41 = .ok (.aload_n 0, 1) := by decide +kernel
theorem dX10_digest_42 : decode cX10_digest 42 = .ok (.iconst 1, 1) := by decide +kernel
theorem dX10_digest_43 : decode cX10_digest 43 = .ok (.invokevirtual 295, 3) := by decide +kernel
theorem dX10_digest_46 : decode cX10_digest 46 = .ok (.i2l, 1) := by decide +kernel
theorem dX10_digest_47 : decode cX10_digest 47 = .ok (.invokestatic 291, 3) := by decide +kernel
theorem dX10_digest_50 : decode cX10_digest 50 = .ok (.lstore_n 1, 1) := by decide +kernel
theorem dX10_digest_51 : decode cX10_digest 51 = .ok (.iconst 0, 1) := by decide +kernel
theorem dX10_digest_52 : decode cX10_digest 52 = .ok (.istore_n 3, 1) := by decide +kernel
theorem dX10_digest_53 : decode cX10_digest 53 = .ok (.iload_n 3, 1) := by decide +kernel
theorem dX10_digest_54 : decode cX10_digest 54 = .ok (.aload_n 0, 1) := by decide +kernel
theorem dX10_digest_55 : decode cX10_digest 55 = .ok (.getfield 38, 3) := by decide +kernel
theorem dX10_digest_58 : decode cX10_digest 58 = .ok (.invokevirtual 172, 3) := by decide +kernel
theorem dX10_digest_61 : decode cX10_digest 61 = .ok (.invokevirtual 234, 3) := by decide +kernel
theorem dX10_digest_64 : decode cX10_digest 64 = .ok (.if_icmp .ge 31, 3) := by decide +kernel
theorem dX10_digest_67 : decode cX10_digest 67 = .ok (.aload_n 0, 1) := by decide +kernel
theorem dX10_digest_68 : decode cX10_digest 68 = .ok (.lload_n 1, 1) := by decide +kernel
theorem dX10_digest_69 : decode cX10_digest 69 = .ok (.iconst 0, 1) := by decide +kernel
theorem dX10_digest_70 : decode cX10_digest 70 = .ok (.iload_n 3, 1) := by decide +kernel
theorem dX10_digest_71 : decode cX10_digest 71 = .ok (.invokevirtual 298, 3) := by decide +kernel
theorem dX10_digest_74 : decode cX10_digest 74 = .ok (.lstore_n 1, 1) := by decide +kernel
theorem dX10_digest_75 : decode cX10_digest 75 = .ok (.aload_n 0, 1) := by decide +kernel
theorem dX10_digest_76 : decode cX10_digest 76 = .ok (.lload_n 1, 1) := by decide +kernel
theorem dX10_digest_77 : decode cX10_digest 77 = .ok (.aload_n 0, 1) := by decide +kernel
theorem dX10_digest_78 : decode cX10_digest 78 = .ok (.getfield 38, 3) := by decide +kernel
theorem dX10_digest_81 : decode cX10_digest 81 = .ok (.invokevirtual 166, 3) := by decide +kernel
theorem dX10_digest_84 : decode cX10_digest 84 = .ok (.iload_n 3, 1) := by decide +kernel
theorem dX10_digest_85 : decode cX10_digest 85 = .ok (.invokevirtual 298, 3) := by decide +kernel
theorem dX10_digest_88 : decode cX10_digest 88 = .ok (.lstore_n 1, 1) := by decide +kernel
theorem dX10_digest_89 : decode cX10_digest 89 = .ok (.iinc 3 1, 3) := by decide +kernel
theorem dX10_digest_92 : decode cX10_digest 92 = .ok (.goto (-39), 3) := by decide +kernel
theorem dX10_digest_95 : decode cX10_digest 95 = .ok (.iconst 0, 1) := by decide +kernel
theorem dX10_digest_96 : decode cX10_digest 96 = .ok (.istore_n 3, 1) := by decide +kernel
theorem dX10_digest_97 : decode cX10_digest 97 = .ok (.iload_n 3, 1) := by decide +kernel
theorem dX10_digest_98 : decode cX10_digest 98 = .ok (.aload_n 0, 1) := by decide +kernel
theorem dX10_digest_99 : decode cX10_digest 99 = .ok (.getfield 38, 3) := by decide +kernel
theorem dX10_digest_102 : decode cX10_digest 102 = .ok (.invokevirtual 166, 3) := by decide +kernel
theorem dX10_digest_105 : decode cX10_digest 105 = .ok (.if_icmp .ge 37, 3) := by decide +kernel
theorem dX10_digest_108 : decode cX10_digest 108 = .ok (.iconst 0, 1) := by decide +kernel
theorem dX10_digest_109 : decode cX10_digest 109 = .ok (.istore 4, 2) := by decide +kernel
theorem dX10_digest_111 : decode cX10_digest 111 = .ok (.iload 4, 2) := by decide +kernel
theorem dX10_digest_113 : decode cX10_digest 113 = .ok (.iconst 2, 1) := by decide +kernel
theorem dX10_digest_114 : decode cX10_digest 114 = .ok (.if_icmp .gt 22, 3) := by decide +kernel
theorem dX10_digest_117 : decode cX10_digest 117 = .ok (.lload_n 1, 1) := by decide +kernel
theorem dX10_digest_118 : decode cX10_digest 118 = .ok (.aload_n 0, 1) := by decide +kernel
theorem dX10_digest_119 : decode cX10_digest 119 = .ok (.iload_n 3, 1) := by decide +kernel
theorem dX10_digest_120 : decode cX10_digest 120 = .ok (.iload 4, 2) := by decide +kernel
theorem dX10_digest_122 : decode cX10_digest 122 = .ok (.invokevirtual 302, 3) := by decide +kernel
theorem dX10_digest_125 : decode cX10_digest 125 = .ok (.i2l, 1) := by decide +kernel
theorem dX10_digest_126 : decode cX10_digest 126 = .ok (.invokestatic 291, 3) := by decide +kernel
theorem dX10_digest_129 : decode cX10_digest 129 = .ok (.lstore_n 1, 1) := by decide +kernel
theorem dX10_digest_130 : decode cX10_digest 130 = .ok (.iinc 4 1, 3) := by decide +kernel
theorem dX10_digest_133 : decode cX10_digest 133 = .ok (.goto (-22), 3) := by decide +kernel
theorem dX10_digest_136 : decode cX10_digest 136 = .ok (.iinc 3 1, 3) := by decide +kernel
theorem dX10_digest_139 : decode cX10_digest 139 = .ok (.goto (-42), 3) := by decide +kernel
theorem dX10_digest_142 : decode cX10_digest 142 = .ok (.aload_n 0, 1) := by decide +kernel
theorem dX10_digest_143 : decode cX10_digest 143 = .ok (.lload_n 1, 1) := by decide +kernel
theorem dX10_digest_144 : decode cX10_digest 144 = .ok (.iconst 0, 1) := by decide +kernel
theorem dX10_digest_145 : decode cX10_digest 145 = .ok (.invokevirtual 305, 3) := by decide +kernel
theorem dX10_digest_148 : decode cX10_digest 148 = .ok (.lstore_n 1, 1) := by decide +kernel
theorem dX10_digest_149 : decode cX10_digest 149 = .ok (.aload_n 0, 1) := by decide +kernel
theorem dX10_digest_150 : decode cX10_digest 150 = .ok (.lload_n 1, 1) := by decide +kernel
theorem dX10_digest_151 : decode cX10_digest 151 = .ok (.aload_n 0, 1) := by decide +kernel
theorem dX10_digest_152 : decode cX10_digest 152 = .ok (.getfield 38, 3) := by decide +kernel
theorem dX10_digest_155 : decode cX10_digest 155 = .ok (.invokevirtual 166, 3) := by decide +kernel
theorem dX10_digest_158 : decode cX10_digest 158 = .ok (.invokevirtual 305, 3) := by decide +kernel
theorem dX10_digest_161 : decode cX10_digest 161 = .ok (.lstore_n 1, 1) := by decide +kernel
theorem dX10_digest_162 : decode cX10_digest 162 = .ok (.iconst 0, 1) := by decide +kernel
theorem dX10_digest_163 : decode cX10_digest 163 = .ok (.istore_n 3, 1) := by decide +kernel
theorem dX10_digest_164 : decode cX10_digest 164 = .ok (.iload_n 3, 1) := by decide +kernel
theorem dX10_digest_165 : decode cX10_digest 165 = .ok (.aload_n 0, 1) := by decide +kernel
theorem dX10_digest_166 : decode cX10_digest 166 = .ok (.getfield 38, 3) := by decide +kernel
theorem dX10_digest_169 : decode cX10_digest 169 = .ok (.invokevirtual 172, 3) := by decide +kernel
theorem dX10_digest_172 : decode cX10_digest 172 = .ok (.invokevirtual 234, 3) := by decide +kernel
theorem dX10_digest_175 : decode cX10_digest 175 = .ok (.if_icmp .ge 24, 3) := by decide +kernel
theorem dX10_digest_178 : decode cX10_digest 178 = .ok (.lload_n 1, 1) := by decide +kernel
theorem dX10_digest_179 : decode cX10_digest 179 = .ok (.aload_n 0, 1) := by decide +kernel
theorem dX10_digest_180 : decode cX10_digest 180 = .ok (.bipush 7, 2) := by decide +kernel
theorem dX10_digest_182 : decode cX10_digest 182 = .ok (.bipush 9, 2) := by decide +kernel
theorem dX10_digest_184 : decode cX10_digest 184 = .ok (.iload_n 3, 1) := by decide +kernel
theorem dX10_digest_185 : decode cX10_digest 185 = .ok (.invokevirtual 309, 3) := by decide +kernel
theorem dX10_digest_188 : decode cX10_digest 188 = .ok (.i2l, 1) := by decide +kernel
theorem dX10_digest_189 : decode cX10_digest 189 = .ok (.invokestatic 291, 3) := by decide +kernel
theorem dX10_digest_192 : decode cX10_digest 192 = .ok (.lstore_n 1, 1) := by decide +kernel
theorem dX10_digest_193 : decode cX10_digest 193 = .ok (.iinc 3 1, 3) := by decide +kernel
theorem dX10_digest_196 : decode cX10_digest 196 = .ok (.goto (-32), 3) := by decide +kernel
theorem dX10_digest_199 : decode cX10_digest 199 = .ok (.aload_n 0, 1) := by decide +kernel
theorem dX10_digest_200 : decode cX10_digest 200 = .ok (.lload_n 1, 1) := by decide +kernel
theorem dX10_digest_201 : decode cX10_digest 201 = .ok (.invokevirtual 312, 3) := by decide +kernel
theorem dX10_digest_204 : decode cX10_digest 204 = .ok (.lreturn, 1) := by decide +kernel
theorem dX10_within_0 : decode cX10_within 0 = .ok (.iload_n 0, 1) := by decide +kernel
theorem dX10_within_1 : decode cX10_within 1 = .ok (.iload_n 1, 1) := by decide +kernel
theorem dX10_within_2 : decode cX10_within 2 = .ok (.if_icmp .lt 12, 3) := by decide +kernel
theorem dX10_within_5 : decode cX10_within 5 = .ok (.iload_n 0, 1) := by decide +kernel
theorem dX10_within_6 : decode cX10_within 6 = .ok (.iload_n 2, 1) := by decide +kernel
theorem dX10_within_7 : decode cX10_within 7 = .ok (.if_icmp .gt 7, 3) := by decide +kernel
theorem dX10_within_10 : decode cX10_within 10 = .ok (.iconst 1, 1) := by decide +kernel
theorem dX10_within_11 : decode cX10_within 11 = .ok (.goto 4, 3) := by decide +kernel
theorem dX10_within_14 : decode cX10_within 14 = .ok (.iconst 0, 1) := by decide +kernel
theorem dX10_within_15 : decode cX10_within 15 = .ok (.ireturn, 1) := by decide +kernel
theorem dX10_leastBit_0 : decode cX10_leastBit 0 = .ok (.iconst 0, 1) := by decide +kernel
theorem dX10_leastBit_1 : decode cX10_leastBit 1 = .ok (.istore_n 1, 1) := by decide +kernel
theorem dX10_leastBit_2 : decode cX10_leastBit 2 = .ok (.iload_n 1, 1) := by decide +kernel
theorem dX10_leastBit_3 : decode cX10_leastBit 3 = .ok (.bipush 8, 2) := by decide +kernel
theorem dX10_leastBit_5 : decode cX10_leastBit 5 = .ok (.if_icmp .ge 20, 3) := by decide +kernel
theorem dX10_leastBit_8 : decode cX10_leastBit 8 = .ok (.iload_n 0, 1) := by decide +kernel
theorem dX10_leastBit_9 : decode cX10_leastBit 9 = .ok (.iload_n 1, 1) := by decide +kernel
theorem dX10_leastBit_10 : decode cX10_leastBit 10 = .ok (.ishr, 1) := by decide +kernel
theorem dX10_leastBit_11 : decode cX10_leastBit 11 = .ok (.iconst 1, 1) := by decide +kernel
theorem dX10_leastBit_12 : decode cX10_leastBit 12 = .ok (.iand, 1) := by decide +kernel
theorem dX10_leastBit_13 : decode cX10_leastBit 13 = .ok (.iconst 1, 1) := by decide +kernel
theorem dX10_leastBit_14 : decode cX10_leastBit 14 = .ok (.if_icmp .ne 5, 3) := by decide +kernel
theorem dX10_leastBit_17 : decode cX10_leastBit 17 = .ok (.iload_n 1, 1) := by decide +kernel
theorem dX10_leastBit_18 : decode cX10_leastBit 18 = .ok (.ireturn, 1) := by decide +kernel
theorem dX10_leastBit_19 : decode cX10_leastBit 19 = .ok (.iinc 1 1, 3) := by decide +kernel
theorem dX10_leastBit_22 : decode cX10_leastBit 22 = .ok (.goto (-20), 3) := by decide +kernel
theorem dX10_leastBit_25 : decode cX10_leastBit 25 = .ok (.iconst (-1), 1) := by decide +kernel
theorem dX10_leastBit_26 : decode cX10_leastBit 26 = .ok (.ireturn, 1) := by decide +kernel
theorem dX10_textOf_0 : decode cX10_textOf 0 = .ok (.iload_n 1, 1) := by decide +kernel
theorem dX10_textOf_1 : decode cX10_textOf 1 = .ok (.ifCond .ne 10, 3) := by decide +kernel
theorem dX10_textOf_4 : decode cX10_textOf 4 = .ok (.aload_n 0, 1) := by decide +kernel
theorem dX10_textOf_5 : decode cX10_textOf 5 = .ok (.getfield 14, 3) := by decide +kernel
theorem dX10_textOf_8 : decode cX10_textOf 8 = .ok (.goto 16, 3) := by decide +kernel
theorem dX10_textOf_11 : decode cX10_textOf 11 = .ok (.iload_n 1, 1) := by decide +kernel
theorem dX10_textOf_12 : decode cX10_textOf 12 = .ok (.iconst 1, 1) := by decide +kernel
theorem dX10_textOf_13 : decode cX10_textOf 13 = .ok (.if_icmp .ne 10, 3) := by decide +kernel
theorem dX10_textOf_16 : decode cX10_textOf 16 = .ok (.aload_n 0, 1) := by decide +kernel
theorem dX10_textOf_17 : decode cX10_textOf 17 = .ok (.getfield 18, 3) := by decide +kernel
theorem dX10_textOf_20 : decode cX10_textOf 20 = .ok (.goto 4, 3) := by decide +kernel
theorem dX10_textOf_23 : decode cX10_textOf 23 = .ok (.aconst_null, 1) := by decide +kernel
theorem dX10_textOf_24 : decode cX10_textOf 24 = .ok (.areturn, 1) := by decide +kernel
theorem dX10_settle_0 : decode cX10_settle 0 = .ok (.aload_n 0, 1) := by decide +kernel
theorem dX10_settle_1 : decode cX10_settle 1 = .ok (.aload_n 0, 1) := by decide +kernel
theorem dX10_settle_2 : decode cX10_settle 2 = .ok (.getfield 38, 3) := by decide +kernel
theorem dX10_settle_5 : decode cX10_settle 5 = .ok (.invokevirtual 316, 3) := by decide +kernel
theorem dX10_settle_8 : decode cX10_settle 8 = .ok (.aload_n 0, 1) := by decide +kernel
theorem dX10_settle_9 : decode cX10_settle 9 = .ok (.getfield 14, 3) := by decide +kernel
theorem dX10_settle_12 : decode cX10_settle 12 = .ok (.invokevirtual 319, 3) := by decide +kernel
theorem dX10_settle_15 : decode cX10_settle 15 = .ok (.putfield 70, 3) := by decide +kernel
theorem dX10_settle_18 : decode cX10_settle 18 = .ok (.aload_n 0, 1) := by decide +kernel
theorem dX10_settle_19 : decode cX10_settle 19 = .ok (.aload_n 0, 1) := by decide +kernel
theorem dX10_settle_20 : decode cX10_settle 20 = .ok (.getfield 31, 3) := by decide +kernel
theorem dX10_settle_23 : decode cX10_settle 23 = .ok (.aload_n 0, 1) := by decide +kernel
theorem dX10_settle_24 : decode cX10_settle 24 = .ok (.getfield 18, 3) := by decide +kernel
theorem dX10_settle_27 : decode cX10_settle 27 = .ok (.invokevirtual 323, 3) := by decide +kernel
theorem dX10_settle_30 : decode cX10_settle 30 = .ok (.putfield 74, 3) := by decide +kernel
theorem dX10_settle_33 : decode cX10_settle 33 = .ok (.aload_n 0, 1) := by decide +kernel
theorem dX10_settle_34 : decode cX10_settle 34 = .ok (.getfield 38, 3) := by decide +kernel
theorem dX10_settle_37 : decode cX10_settle 37 = .ok (.aload_n 0, 1) := by decide +kernel
theorem dX10_settle_38 : decode cX10_settle 38 = .ok (.getfield 31, 3) := by decide +kernel
theorem dX10_settle_41 : decode cX10_settle 41 = .ok (.aload_n 0, 1) := by decide +kernel
theorem dX10_settle_42 : decode cX10_settle 42 = .ok (.getfield 24, 3) := by decide +kernel
theorem dX10_settle_45 : decode cX10_settle 45 = .ok (.invokevirtual 117, 3) := by decide +kernel
theorem dX10_settle_48 : decode cX10_settle 48 = .ok (.return_, 1) := by decide +kernel
theorem dX10_mix_0 : decode cX10_mix 0 = .ok (.ldc2_w 324, 3) := by decide +kernel
theorem dX10_mix_3 : decode cX10_mix 3 = .ok (.lload_n 0, 1) := by decide +kernel
theorem dX10_mix_4 : decode cX10_mix 4 = .ok (.lmul, 1) := by decide +kernel
theorem dX10_mix_5 : decode cX10_mix 5 = .ok (.lload_n 2, 1) := by decide +kernel
theorem dX10_mix_6 : decode cX10_mix 6 = .ok (.ladd, 1) := by decide +kernel
theorem dX10_mix_7 : decode cX10_mix 7 = .ok (.lreturn, 1) := by decide +kernel
theorem dX10_mixColumn_0 : decode cX10_mixColumn 0 = .ok (.lload_n 1, 1) := by decide +kernel
theorem dX10_mixColumn_1 : decode cX10_mixColumn 1 = .ok (.aload_n 0, 1) := by decide +kernel
theorem dX10_mixColumn_2 : decode cX10_mixColumn 2 = .ok (.iload_n 3, 1) := by decide +kernel
theorem dX10_mixColumn_3 : decode cX10_mixColumn 3 = .ok (.iload 4, 2) := by decide +kernel
theorem dX10_mixColumn_5 : decode cX10_mixColumn 5 = .ok (.invokevirtual 326, 3) := by decide +kernel
theorem dX10_mixColumn_8 : decode cX10_mixColumn 8 = .ok (.i2l, 1) := by decide +kernel
theorem dX10_mixColumn_9 : decode cX10_mixColumn 9 = .ok (.invokestatic 291, 3) := by decide +kernel
theorem dX10_mixColumn_12 : decode cX10_mixColumn 12 = .ok (.lstore 5, 2) := by decide +kernel
theorem dX10_mixColumn_14 : decode cX10_mixColumn 14 = .ok (.lload 5, 2) := by decide +kernel
theorem dX10_mixColumn_16 : decode cX10_mixColumn 16 = .ok (.aload_n 0, 1) := by decide +kernel
theorem dX10_mixColumn_17 : decode cX10_mixColumn 17 = .ok (.iload_n 3, 1) := by decide +kernel
theorem dX10_mixColumn_18 : decode cX10_mixColumn 18 = .ok (.iload 4, 2) := by decide +kernel
theorem dX10_mixColumn_20 : decode cX10_mixColumn 20 = .ok (.invokevirtual 329, 3) := by decide +kernel
theorem dX10_mixColumn_23 : decode cX10_mixColumn 23 = .ok (.i2l, 1) := by decide +kernel
theorem dX10_mixColumn_24 : decode cX10_mixColumn 24 = .ok (.invokestatic 291, 3) := by decide +kernel
theorem dX10_mixColumn_27 : decode cX10_mixColumn 27 = .ok (.lstore 5, 2) := by decide +kernel
theorem dX10_mixColumn_29 : decode cX10_mixColumn 29 = .ok (.lload 5, 2) := by decide +kernel
theorem dX10_mixColumn_31 : decode cX10_mixColumn 31 = .ok (.aload_n 0, 1) := by decide +kernel
theorem dX10_mixColumn_32 : decode cX10_mixColumn 32 = .ok (.iload_n 3, 1) := by decide +kernel
theorem dX10_mixColumn_33 : decode cX10_mixColumn 33 = .ok (.iload 4, 2) := by decide +kernel
theorem dX10_mixColumn_35 : decode cX10_mixColumn 35 = .ok (.iconst (-1), 1) := by decide +kernel
theorem dX10_mixColumn_36 : decode cX10_mixColumn 36 = .ok (.invokevirtual 332, 3) := by decide +kernel
theorem dX10_mixColumn_39 : decode cX10_mixColumn 39 = .ok (.i2l, 1) := by decide +kernel
theorem dX10_mixColumn_40 : decode cX10_mixColumn 40 = .ok (.invokestatic 291, 3) := by decide +kernel
theorem dX10_mixColumn_43 : decode cX10_mixColumn 43 = .ok (.lstore 5, 2) := by decide +kernel
theorem dX10_mixColumn_45 : decode cX10_mixColumn 45 = .ok (.lload 5, 2) := by decide +kernel
theorem dX10_mixColumn_47 : decode cX10_mixColumn 47 = .ok (.aload_n 0, 1) := by decide +kernel
theorem dX10_mixColumn_48 : decode cX10_mixColumn 48 = .ok (.iload_n 3, 1) := by decide +kernel
theorem dX10_mixColumn_49 : decode cX10_mixColumn 49 = .ok (.iload 4, 2) := by decide +kernel
theorem dX10_mixColumn_51 : decode cX10_mixColumn 51 = .ok (.iconst 0, 1) := by decide +kernel
theorem dX10_mixColumn_52 : decode cX10_mixColumn 52 = .ok (.invokevirtual 332, 3) := by decide +kernel
theorem dX10_mixColumn_55 : decode cX10_mixColumn 55 = .ok (.i2l, 1) := by decide +kernel
theorem dX10_mixColumn_56 : decode cX10_mixColumn 56 = .ok (.invokestatic 291, 3) := by decide +kernel
theorem dX10_mixColumn_59 : decode cX10_mixColumn 59 = .ok (.lreturn, 1) := by decide +kernel
theorem dX10_mixBehind_0 : decode cX10_mixBehind 0 = .ok (.lload_n 1, 1) := by decide +kernel
theorem dX10_mixBehind_1 : decode cX10_mixBehind 1 = .ok (.lstore 4, 2) := by decide +kernel
theorem dX10_mixBehind_3 : decode cX10_mixBehind 3 = .ok (.iconst 0, 1) := by decide +kernel
theorem dX10_mixBehind_4 : decode cX10_mixBehind 4 = .ok (.istore 6, 2) := by decide +kernel
theorem dX10_mixBehind_6 : decode cX10_mixBehind 6 = .ok (.iload 6, 2) := by decide +kernel
theorem dX10_mixBehind_8 : decode cX10_mixBehind 8 = .ok (.iconst 3, 1) := by decide +kernel
theorem dX10_mixBehind_9 : decode cX10_mixBehind 9 = .ok (.if_icmp .gt 24, 3) := by decide +kernel
theorem dX10_mixBehind_12 : decode cX10_mixBehind 12 = .ok (.lload 4, 2) := by decide +kernel
theorem dX10_mixBehind_14 : decode cX10_mixBehind 14 = .ok (.aload_n 0, 1) := by decide +kernel
theorem dX10_mixBehind_15 : decode cX10_mixBehind 15 = .ok (.iload_n 3, 1) := by decide +kernel
theorem dX10_mixBehind_16 : decode cX10_mixBehind 16 = .ok (.iload 6, 2) := by decide +kernel
theorem dX10_mixBehind_18 : decode cX10_mixBehind 18 = .ok (.invokevirtual 335, 3) := by decide +kernel
theorem dX10_mixBehind_21 : decode cX10_mixBehind 21 = .ok (.i2l, 1) := by decide +kernel
theorem dX10_mixBehind_22 : decode cX10_mixBehind 22 = .ok (.invokestatic 291, 3) := by decide +kernel
theorem dX10_mixBehind_25 : decode cX10_mixBehind 25 = .ok (.lstore 4, 2) := by decide +kernel
theorem dX10_mixBehind_27 : decode cX10_mixBehind 27 = .ok (.iinc 6 1, 3) := by decide +kernel
theorem dX10_mixBehind_30 : decode cX10_mixBehind 30 = .ok (.goto (-24), 3) := by decide +kernel
theorem dX10_mixBehind_33 : decode cX10_mixBehind 33 = .ok (.lload 4, 2) := by decide +kernel
theorem dX10_mixBehind_35 : decode cX10_mixBehind 35 = .ok (.lreturn, 1) := by decide +kernel
theorem dX10_mixPlans_0 : decode cX10_mixPlans 0 = .ok (.lload_n 1, 1) := by decide +kernel
theorem dX10_mixPlans_1 : decode cX10_mixPlans 1 = .ok (.aload_n 0, 1) := by decide +kernel
theorem dX10_mixPlans_2 : decode cX10_mixPlans 2 = .ok (.iconst 0, 1) := by decide +kernel
theorem dX10_mixPlans_3 : decode cX10_mixPlans 3 = .ok (.invokevirtual 338, 3) := by decide +kernel
theorem dX10_mixPlans_6 : decode cX10_mixPlans 6 = .ok (.i2l, 1) := by decide +kernel
theorem dX10_mixPlans_7 : decode cX10_mixPlans 7 = .ok (.invokestatic 291, 3) := by decide +kernel
theorem dX10_mixPlans_10 : decode cX10_mixPlans 10 = .ok (.lstore_n 3, 1) := by decide +kernel
theorem dX10_mixPlans_11 : decode cX10_mixPlans 11 = .ok (.lload_n 3, 1) := by decide +kernel
theorem dX10_mixPlans_12 : decode cX10_mixPlans 12 = .ok (.aload_n 0, 1) := by decide +kernel
theorem dX10_mixPlans_13 : decode cX10_mixPlans 13 = .ok (.iconst 1, 1) := by decide +kernel
theorem dX10_mixPlans_14 : decode cX10_mixPlans 14 = .ok (.invokevirtual 338, 3) := by decide +kernel
theorem dX10_mixPlans_17 : decode cX10_mixPlans 17 = .ok (.i2l, 1) := by decide +kernel
theorem dX10_mixPlans_18 : decode cX10_mixPlans 18 = .ok (.invokestatic 291, 3) := by decide +kernel
theorem dX10_mixPlans_21 : decode cX10_mixPlans 21 = .ok (.lstore_n 3, 1) := by decide +kernel
theorem dX10_mixPlans_22 : decode cX10_mixPlans 22 = .ok (.lload_n 3, 1) := by decide +kernel
theorem dX10_mixPlans_23 : decode cX10_mixPlans 23 = .ok (.aload_n 0, 1) := by decide +kernel
theorem dX10_mixPlans_24 : decode cX10_mixPlans 24 = .ok (.invokevirtual 341, 3) := by decide +kernel
theorem dX10_mixPlans_27 : decode cX10_mixPlans 27 = .ok (.i2l, 1) := by decide +kernel
theorem dX10_mixPlans_28 : decode cX10_mixPlans 28 = .ok (.invokestatic 291, 3) := by decide +kernel
theorem dX10_mixPlans_31 : decode cX10_mixPlans 31 = .ok (.lstore_n 3, 1) := by decide +kernel
theorem dX10_mixPlans_32 : decode cX10_mixPlans 32 = .ok (.lload_n 3, 1) := by decide +kernel
theorem dX10_mixPlans_33 : decode cX10_mixPlans 33 = .ok (.aload_n 0, 1) := by decide +kernel
theorem dX10_mixPlans_34 : decode cX10_mixPlans 34 = .ok (.iconst (-1), 1) := by decide +kernel
theorem dX10_mixPlans_35 : decode cX10_mixPlans 35 = .ok (.invokevirtual 344, 3) := by decide +kernel
theorem dX10_mixPlans_38 : decode cX10_mixPlans 38 = .ok (.i2l, 1) := by decide +kernel
theorem dX10_mixPlans_39 : decode cX10_mixPlans 39 = .ok (.invokestatic 291, 3) := by decide +kernel
theorem dX10_mixPlans_42 : decode cX10_mixPlans 42 = .ok (.lstore_n 3, 1) := by decide +kernel
theorem dX10_mixPlans_43 : decode cX10_mixPlans 43 = .ok (.lload_n 3, 1) := by decide +kernel
theorem dX10_mixPlans_44 : decode cX10_mixPlans 44 = .ok (.aload_n 0, 1) := by decide +kernel
theorem dX10_mixPlans_45 : decode cX10_mixPlans 45 = .ok (.iconst 0, 1) := by decide +kernel
theorem dX10_mixPlans_46 : decode cX10_mixPlans 46 = .ok (.invokevirtual 344, 3) := by decide +kernel
theorem dX10_mixPlans_49 : decode cX10_mixPlans 49 = .ok (.i2l, 1) := by decide +kernel
theorem dX10_mixPlans_50 : decode cX10_mixPlans 50 = .ok (.invokestatic 291, 3) := by decide +kernel
theorem dX10_mixPlans_53 : decode cX10_mixPlans 53 = .ok (.lstore_n 3, 1) := by decide +kernel
theorem dX10_mixPlans_54 : decode cX10_mixPlans 54 = .ok (.lload_n 3, 1) := by decide +kernel
theorem dX10_mixPlans_55 : decode cX10_mixPlans 55 = .ok (.aload_n 0, 1) := by decide +kernel
theorem dX10_mixPlans_56 : decode cX10_mixPlans 56 = .ok (.iconst 3, 1) := by decide +kernel
theorem dX10_mixPlans_57 : decode cX10_mixPlans 57 = .ok (.iconst (-1), 1) := by decide +kernel
theorem dX10_mixPlans_58 : decode cX10_mixPlans 58 = .ok (.invokevirtual 347, 3) := by decide +kernel
theorem dX10_mixPlans_61 : decode cX10_mixPlans 61 = .ok (.i2l, 1) := by decide +kernel
theorem dX10_mixPlans_62 : decode cX10_mixPlans 62 = .ok (.invokestatic 291, 3) := by decide +kernel
theorem dX10_mixPlans_65 : decode cX10_mixPlans 65 = .ok (.lstore_n 3, 1) := by decide +kernel
theorem dX10_mixPlans_66 : decode cX10_mixPlans 66 = .ok (.lload_n 3, 1) := by decide +kernel
theorem dX10_mixPlans_67 : decode cX10_mixPlans 67 = .ok (.aload_n 0, 1) := by decide +kernel
theorem dX10_mixPlans_68 : decode cX10_mixPlans 68 = .ok (.iconst 3, 1) := by decide +kernel
theorem dX10_mixPlans_69 : decode cX10_mixPlans 69 = .ok (.iconst 0, 1) := by decide +kernel
theorem dX10_mixPlans_70 : decode cX10_mixPlans 70 = .ok (.invokevirtual 347, 3) := by decide +kernel
theorem dX10_mixPlans_73 : decode cX10_mixPlans 73 = .ok (.i2l, 1) := by decide +kernel
theorem dX10_mixPlans_74 : decode cX10_mixPlans 74 = .ok (.invokestatic 291, 3) := by decide +kernel
theorem dX10_mixPlans_77 : decode cX10_mixPlans 77 = .ok (.lstore_n 3, 1) := by decide +kernel
theorem dX10_mixPlans_78 : decode cX10_mixPlans 78 = .ok (.lload_n 3, 1) := by decide +kernel
theorem dX10_mixPlans_79 : decode cX10_mixPlans 79 = .ok (.aload_n 0, 1) := by decide +kernel
theorem dX10_mixPlans_80 : decode cX10_mixPlans 80 = .ok (.iconst 2, 1) := by decide +kernel
theorem dX10_mixPlans_81 : decode cX10_mixPlans 81 = .ok (.iconst 0, 1) := by decide +kernel
theorem dX10_mixPlans_82 : decode cX10_mixPlans 82 = .ok (.invokevirtual 350, 3) := by decide +kernel
theorem dX10_mixPlans_85 : decode cX10_mixPlans 85 = .ok (.i2l, 1) := by decide +kernel
theorem dX10_mixPlans_86 : decode cX10_mixPlans 86 = .ok (.invokestatic 291, 3) := by decide +kernel
theorem dX10_mixPlans_89 : decode cX10_mixPlans 89 = .ok (.lstore_n 3, 1) := by decide +kernel
theorem dX10_mixPlans_90 : decode cX10_mixPlans 90 = .ok (.lload_n 3, 1) := by decide +kernel
theorem dX10_mixPlans_91 : decode cX10_mixPlans 91 = .ok (.aload_n 0, 1) := by decide +kernel
theorem dX10_mixPlans_92 : decode cX10_mixPlans 92 = .ok (.iconst 2, 1) := by decide +kernel
theorem dX10_mixPlans_93 : decode cX10_mixPlans 93 = .ok (.iconst 1, 1) := by decide +kernel
theorem dX10_mixPlans_94 : decode cX10_mixPlans 94 = .ok (.invokevirtual 350, 3) := by decide +kernel
theorem dX10_mixPlans_97 : decode cX10_mixPlans 97 = .ok (.i2l, 1) := by decide +kernel
theorem dX10_mixPlans_98 : decode cX10_mixPlans 98 = .ok (.invokestatic 291, 3) := by decide +kernel
theorem dX10_mixPlans_101 : decode cX10_mixPlans 101 = .ok (.lstore_n 3, 1) := by decide +kernel
theorem dX10_mixPlans_102 : decode cX10_mixPlans 102 = .ok (.iconst 0, 1) := by decide +kernel
theorem dX10_mixPlans_103 : decode cX10_mixPlans 103 = .ok (.istore 5, 2) := by decide +kernel
theorem dX10_mixPlans_105 : decode cX10_mixPlans 105 = .ok (.iload 5, 2) := by decide +kernel
theorem dX10_mixPlans_107 : decode cX10_mixPlans 107 = .ok (.iconst 2, 1) := by decide +kernel
theorem dX10_mixPlans_108 : decode cX10_mixPlans 108 = .ok (.if_icmp .gt 21, 3) := by decide +kernel
theorem dX10_mixPlans_111 : decode cX10_mixPlans 111 = .ok (.lload_n 3, 1) := by decide +kernel
theorem dX10_mixPlans_112 : decode cX10_mixPlans 112 = .ok (.aload_n 0, 1) := by decide +kernel
theorem dX10_mixPlans_113 : decode cX10_mixPlans 113 = .ok (.iload 5, 2) := by decide +kernel
theorem dX10_mixPlans_115 : decode cX10_mixPlans 115 = .ok (.invokevirtual 353, 3) := by decide +kernel
theorem dX10_mixPlans_118 : decode cX10_mixPlans 118 = .ok (.i2l, 1) := by decide +kernel
theorem dX10_mixPlans_119 : decode cX10_mixPlans 119 = .ok (.invokestatic 291, 3) := by decide +kernel
theorem dX10_mixPlans_122 : decode cX10_mixPlans 122 = .ok (.lstore_n 3, 1) := by decide +kernel
theorem dX10_mixPlans_123 : decode cX10_mixPlans 123 = .ok (.iinc 5 1, 3) := by decide +kernel
theorem dX10_mixPlans_126 : decode cX10_mixPlans 126 = .ok (.goto (-21), 3) := by decide +kernel
theorem dX10_mixPlans_129 : decode cX10_mixPlans 129 = .ok (.lload_n 3, 1) := by decide +kernel
theorem dX10_mixPlans_130 : decode cX10_mixPlans 130 = .ok (.aload_n 0, 1) := by decide +kernel
theorem dX10_mixPlans_131 : decode cX10_mixPlans 131 = .ok (.iconst 5, 1) := by decide +kernel
theorem dX10_mixPlans_132 : decode cX10_mixPlans 132 = .ok (.iconst 0, 1) := by decide +kernel
theorem dX10_mixPlans_133 : decode cX10_mixPlans 133 = .ok (.invokevirtual 356, 3) := by decide +kernel
theorem dX10_mixPlans_136 : decode cX10_mixPlans 136 = .ok (.invokestatic 291, 3) := by decide +kernel
theorem dX10_mixPlans_139 : decode cX10_mixPlans 139 = .ok (.lstore_n 3, 1) := by decide +kernel
theorem dX10_mixPlans_140 : decode cX10_mixPlans 140 = .ok (.lload_n 3, 1) := by decide +kernel
theorem dX10_mixPlans_141 : decode cX10_mixPlans 141 = .ok (.aload_n 0, 1) := by decide +kernel
theorem dX10_mixPlans_142 : decode cX10_mixPlans 142 = .ok (.iconst 5, 1) := by decide +kernel
theorem dX10_mixPlans_143 : decode cX10_mixPlans 143 = .ok (.iconst 1, 1) := by decide +kernel
theorem dX10_mixPlans_144 : decode cX10_mixPlans 144 = .ok (.invokevirtual 356, 3) := by decide +kernel
theorem dX10_mixPlans_147 : decode cX10_mixPlans 147 = .ok (.invokestatic 291, 3) := by decide +kernel
theorem dX10_mixPlans_150 : decode cX10_mixPlans 150 = .ok (.lstore_n 3, 1) := by decide +kernel
theorem dX10_mixPlans_151 : decode cX10_mixPlans 151 = .ok (.lload_n 3, 1) := by decide +kernel
theorem dX10_mixPlans_152 : decode cX10_mixPlans 152 = .ok (.aload_n 0, 1) := by decide +kernel
theorem dX10_mixPlans_153 : decode cX10_mixPlans 153 = .ok (.bipush 7, 2) := by decide +kernel
theorem dX10_mixPlans_155 : decode cX10_mixPlans 155 = .ok (.bipush 9, 2) := by decide +kernel
theorem dX10_mixPlans_157 : decode cX10_mixPlans 157 = .ok (.iconst (-1), 1) := by decide +kernel
theorem dX10_mixPlans_158 : decode cX10_mixPlans 158 = .ok (.invokevirtual 309, 3) := by decide +kernel
theorem dX10_mixPlans_161 : decode cX10_mixPlans 161 = .ok (.i2l, 1) := by decide +kernel
theorem dX10_mixPlans_162 : decode cX10_mixPlans 162 = .ok (.invokestatic 291, 3) := by decide +kernel
theorem dX10_mixPlans_165 : decode cX10_mixPlans 165 = .ok (.lreturn, 1) := by decide +kernel
theorem dJ9_abs_0f7a4_0 : decode cJ9_abs_0f7a4 0 = .ok (.iload_n 0, 1) := by decide +kernel
theorem dJ9_abs_0f7a4_1 : decode cJ9_abs_0f7a4 1 = .ok (.ifCond .ge 8, 3) := by decide +kernel
theorem dJ9_abs_0f7a4_4 : decode cJ9_abs_0f7a4 4 = .ok (.iload_n 0, 1) := by decide +kernel
theorem dJ9_abs_0f7a4_5 : decode cJ9_abs_0f7a4 5 = .ok (.ineg, 1) := by decide +kernel
theorem dJ9_abs_0f7a4_6 : decode cJ9_abs_0f7a4 6 = .ok (.goto 4, 3) := by decide +kernel
theorem dJ9_abs_0f7a4_9 : decode cJ9_abs_0f7a4 9 = .ok (.iload_n 0, 1) := by decide +kernel
theorem dJ9_abs_0f7a4_10 : decode cJ9_abs_0f7a4 10 = .ok (.ireturn, 1) := by decide +kernel
theorem dJ9_max_7cf53_0 : decode cJ9_max_7cf53 0 = .ok (.iload_n 0, 1) := by decide +kernel
theorem dJ9_max_7cf53_1 : decode cJ9_max_7cf53 1 = .ok (.iload_n 1, 1) := by decide +kernel
theorem dJ9_max_7cf53_2 : decode cJ9_max_7cf53 2 = .ok (.if_icmp .lt 7, 3) := by decide +kernel
theorem dJ9_max_7cf53_5 : decode cJ9_max_7cf53 5 = .ok (.iload_n 0, 1) := by decide +kernel
theorem dJ9_max_7cf53_6 : decode cJ9_max_7cf53 6 = .ok (.goto 4, 3) := by decide +kernel
theorem dJ9_max_7cf53_9 : decode cJ9_max_7cf53 9 = .ok (.iload_n 1, 1) := by decide +kernel
theorem dJ9_max_7cf53_10 : decode cJ9_max_7cf53 10 = .ok (.ireturn, 1) := by decide +kernel
theorem dJ9_min_7cf53_0 : decode cJ9_min_7cf53 0 = .ok (.iload_n 0, 1) := by decide +kernel
theorem dJ9_min_7cf53_1 : decode cJ9_min_7cf53 1 = .ok (.iload_n 1, 1) := by decide +kernel
theorem dJ9_min_7cf53_2 : decode cJ9_min_7cf53 2 = .ok (.if_icmp .gt 7, 3) := by decide +kernel
theorem dJ9_min_7cf53_5 : decode cJ9_min_7cf53 5 = .ok (.iload_n 0, 1) := by decide +kernel
theorem dJ9_min_7cf53_6 : decode cJ9_min_7cf53 6 = .ok (.goto 4, 3) := by decide +kernel
theorem dJ9_min_7cf53_9 : decode cJ9_min_7cf53 9 = .ok (.iload_n 1, 1) := by decide +kernel
theorem dJ9_min_7cf53_10 : decode cJ9_min_7cf53 10 = .ok (.ireturn, 1) := by decide +kernel
theorem dL_law_0 : decode cL_law 0 = .ok (.new 7, 3) := by decide +kernel
theorem dL_law_3 : decode cL_law 3 = .ok (.dup, 1) := by decide +kernel
theorem dL_law_4 : decode cL_law 4 = .ok (.invokespecial 9, 3) := by decide +kernel
theorem dL_law_7 : decode cL_law 7 = .ok (.astore_n 1, 1) := by decide +kernel
theorem dL_law_8 : decode cL_law 8 = .ok (.new 10, 3) := by decide +kernel
theorem dL_law_11 : decode cL_law 11 = .ok (.dup, 1) := by decide +kernel
theorem dL_law_12 : decode cL_law 12 = .ok (.invokespecial 12, 3) := by decide +kernel
theorem dL_law_15 : decode cL_law 15 = .ok (.astore_n 2, 1) := by decide +kernel
theorem dL_law_16 : decode cL_law 16 = .ok (.iconst 0, 1) := by decide +kernel
theorem dL_law_17 : decode cL_law 17 = .ok (.istore_n 3, 1) := by decide +kernel
theorem dL_law_18 : decode cL_law 18 = .ok (.iload_n 3, 1) := by decide +kernel
theorem dL_law_19 : decode cL_law 19 = .ok (.aload_n 0, 1) := by decide +kernel
theorem dL_law_20 : decode cL_law 20 = .ok (.arraylength, 1) := by decide +kernel
theorem dL_law_21 : decode cL_law 21 = .ok (.bipush 6, 2) := by decide +kernel
theorem dL_law_23 : decode cL_law 23 = .ok (.isub, 1) := by decide +kernel
theorem dL_law_24 : decode cL_law 24 = .ok (.if_icmp .gt 1055, 3) := by decide +kernel
theorem dL_law_27 : decode cL_law 27 = .ok (.aload_n 0, 1) := by decide +kernel
theorem dL_law_28 : decode cL_law 28 = .ok (.iload_n 3, 1) := by decide +kernel
theorem dL_law_29 : decode cL_law 29 = .ok (.iaload, 1) := by decide +kernel
theorem dL_law_30 : decode cL_law 30 = .ok (.bipush 31, 2) := by decide +kernel
theorem dL_law_32 : decode cL_law 32 = .ok (.iand, 1) := by decide +kernel
theorem dL_law_33 : decode cL_law 33 = .ok (.tableswitch 1040 0 28 #[131, 164, 187, 210, 233, 266, 299, 332, 375, 408, 441, 464, 477, 500, 533, 566, 609, 622, 645, 668, 702, 745, 788, 811, 864, 907, 970, 1003, 1026], 131) := by decide +kernel
theorem dL_law_164 : decode cL_law 164 = .ok (.aload_n 1, 1) := by decide +kernel
theorem dL_law_165 : decode cL_law 165 = .ok (.aload_n 0, 1) := by decide +kernel
theorem dL_law_166 : decode cL_law 166 = .ok (.iload_n 3, 1) := by decide +kernel
theorem dL_law_167 : decode cL_law 167 = .ok (.iconst 1, 1) := by decide +kernel
theorem dL_law_168 : decode cL_law 168 = .ok (.iadd, 1) := by decide +kernel
theorem dL_law_169 : decode cL_law 169 = .ok (.iaload, 1) := by decide +kernel
theorem dL_law_170 : decode cL_law 170 = .ok (.aload_n 0, 1) := by decide +kernel
theorem dL_law_171 : decode cL_law 171 = .ok (.iload_n 3, 1) := by decide +kernel
theorem dL_law_172 : decode cL_law 172 = .ok (.iconst 2, 1) := by decide +kernel
theorem dL_law_173 : decode cL_law 173 = .ok (.iadd, 1) := by decide +kernel
theorem dL_law_174 : decode cL_law 174 = .ok (.iaload, 1) := by decide +kernel
theorem dL_law_175 : decode cL_law 175 = .ok (.invokevirtual 13, 3) := by decide +kernel
theorem dL_law_178 : decode cL_law 178 = .ok (.aload_n 2, 1) := by decide +kernel
theorem dL_law_179 : decode cL_law 179 = .ok (.aload_n 0, 1) := by decide +kernel
theorem dL_law_180 : decode cL_law 180 = .ok (.iload_n 3, 1) := by decide +kernel
theorem dL_law_181 : decode cL_law 181 = .ok (.iconst 1, 1) := by decide +kernel
theorem dL_law_182 : decode cL_law 182 = .ok (.iadd, 1) := by decide +kernel
theorem dL_law_183 : decode cL_law 183 = .ok (.iaload, 1) := by decide +kernel
theorem dL_law_184 : decode cL_law 184 = .ok (.aload_n 0, 1) := by decide +kernel
theorem dL_law_185 : decode cL_law 185 = .ok (.iload_n 3, 1) := by decide +kernel
theorem dL_law_186 : decode cL_law 186 = .ok (.iconst 2, 1) := by decide +kernel
theorem dL_law_187 : decode cL_law 187 = .ok (.iadd, 1) := by decide +kernel
theorem dL_law_188 : decode cL_law 188 = .ok (.iaload, 1) := by decide +kernel
theorem dL_law_189 : decode cL_law 189 = .ok (.invokevirtual 17, 3) := by decide +kernel
theorem dL_law_192 : decode cL_law 192 = .ok (.if_icmp .eq 881, 3) := by decide +kernel
theorem dL_law_195 : decode cL_law 195 = .ok (.iconst 0, 1) := by decide +kernel
theorem dL_law_196 : decode cL_law 196 = .ok (.ireturn, 1) := by decide +kernel
theorem dL_law_197 : decode cL_law 197 = .ok (.aload_n 1, 1) := by decide +kernel
theorem dL_law_198 : decode cL_law 198 = .ok (.aload_n 0, 1) := by decide +kernel
theorem dL_law_199 : decode cL_law 199 = .ok (.iload_n 3, 1) := by decide +kernel
theorem dL_law_200 : decode cL_law 200 = .ok (.iconst 1, 1) := by decide +kernel
theorem dL_law_201 : decode cL_law 201 = .ok (.iadd, 1) := by decide +kernel
theorem dL_law_202 : decode cL_law 202 = .ok (.iaload, 1) := by decide +kernel
theorem dL_law_203 : decode cL_law 203 = .ok (.invokevirtual 18, 3) := by decide +kernel
theorem dL_law_206 : decode cL_law 206 = .ok (.aload_n 2, 1) := by decide +kernel
theorem dL_law_207 : decode cL_law 207 = .ok (.aload_n 0, 1) := by decide +kernel
theorem dL_law_208 : decode cL_law 208 = .ok (.iload_n 3, 1) := by decide +kernel
theorem dL_law_209 : decode cL_law 209 = .ok (.iconst 1, 1) := by decide +kernel
theorem dL_law_210 : decode cL_law 210 = .ok (.iadd, 1) := by decide +kernel
theorem dL_law_211 : decode cL_law 211 = .ok (.iaload, 1) := by decide +kernel
theorem dL_law_212 : decode cL_law 212 = .ok (.invokevirtual 22, 3) := by decide +kernel
theorem dL_law_215 : decode cL_law 215 = .ok (.if_icmp .eq 858, 3) := by decide +kernel
theorem dL_law_218 : decode cL_law 218 = .ok (.iconst 0, 1) := by decide +kernel
theorem dL_law_219 : decode cL_law 219 = .ok (.ireturn, 1) := by decide +kernel
theorem dL_law_220 : decode cL_law 220 = .ok (.aload_n 1, 1) := by decide +kernel
theorem dL_law_221 : decode cL_law 221 = .ok (.aload_n 0, 1) := by decide +kernel
theorem dL_law_222 : decode cL_law 222 = .ok (.iload_n 3, 1) := by decide +kernel
theorem dL_law_223 : decode cL_law 223 = .ok (.iconst 1, 1) := by decide +kernel
theorem dL_law_224 : decode cL_law 224 = .ok (.iadd, 1) := by decide +kernel
theorem dL_law_225 : decode cL_law 225 = .ok (.iaload, 1) := by decide +kernel
theorem dL_law_226 : decode cL_law 226 = .ok (.invokevirtual 23, 3) := by decide +kernel
theorem dL_law_229 : decode cL_law 229 = .ok (.aload_n 2, 1) := by decide +kernel
theorem dL_law_230 : decode cL_law 230 = .ok (.aload_n 0, 1) := by decide +kernel
theorem dL_law_231 : decode cL_law 231 = .ok (.iload_n 3, 1) := by decide +kernel
theorem dL_law_232 : decode cL_law 232 = .ok (.iconst 1, 1) := by decide +kernel
theorem dL_law_233 : decode cL_law 233 = .ok (.iadd, 1) := by decide +kernel
theorem dL_law_234 : decode cL_law 234 = .ok (.iaload, 1) := by decide +kernel
theorem dL_law_235 : decode cL_law 235 = .ok (.invokevirtual 26, 3) := by decide +kernel
theorem dL_law_238 : decode cL_law 238 = .ok (.if_icmp .eq 835, 3) := by decide +kernel
theorem dL_law_241 : decode cL_law 241 = .ok (.iconst 0, 1) := by decide +kernel
theorem dL_law_242 : decode cL_law 242 = .ok (.ireturn, 1) := by decide +kernel
theorem dL_law_243 : decode cL_law 243 = .ok (.aload_n 1, 1) := by decide +kernel
theorem dL_law_244 : decode cL_law 244 = .ok (.aload_n 0, 1) := by decide +kernel
theorem dL_law_245 : decode cL_law 245 = .ok (.iload_n 3, 1) := by decide +kernel
theorem dL_law_246 : decode cL_law 246 = .ok (.iconst 1, 1) := by decide +kernel
theorem dL_law_247 : decode cL_law 247 = .ok (.iadd, 1) := by decide +kernel
theorem dL_law_248 : decode cL_law 248 = .ok (.iaload, 1) := by decide +kernel
theorem dL_law_249 : decode cL_law 249 = .ok (.invokevirtual 27, 3) := by decide +kernel
theorem dL_law_252 : decode cL_law 252 = .ok (.aload_n 2, 1) := by decide +kernel
theorem dL_law_253 : decode cL_law 253 = .ok (.aload_n 0, 1) := by decide +kernel
theorem dL_law_254 : decode cL_law 254 = .ok (.iload_n 3, 1) := by decide +kernel
theorem dL_law_255 : decode cL_law 255 = .ok (.iconst 1, 1) := by decide +kernel
theorem dL_law_256 : decode cL_law 256 = .ok (.iadd, 1) := by decide +kernel
theorem dL_law_257 : decode cL_law 257 = .ok (.iaload, 1) := by decide +kernel
theorem dL_law_258 : decode cL_law 258 = .ok (.invokevirtual 30, 3) := by decide +kernel
theorem dL_law_261 : decode cL_law 261 = .ok (.if_icmp .eq 812, 3) := by decide +kernel
theorem dL_law_264 : decode cL_law 264 = .ok (.iconst 0, 1) := by decide +kernel
theorem dL_law_265 : decode cL_law 265 = .ok (.ireturn, 1) := by decide +kernel
theorem dL_law_266 : decode cL_law 266 = .ok (.aload_n 1, 1) := by decide +kernel
theorem dL_law_267 : decode cL_law 267 = .ok (.aload_n 0, 1) := by decide +kernel
theorem dL_law_268 : decode cL_law 268 = .ok (.iload_n 3, 1) := by decide +kernel
theorem dL_law_269 : decode cL_law 269 = .ok (.iconst 1, 1) := by decide +kernel
theorem dL_law_270 : decode cL_law 270 = .ok (.iadd, 1) := by decide +kernel
theorem dL_law_271 : decode cL_law 271 = .ok (.iaload, 1) := by decide +kernel
theorem dL_law_272 : decode cL_law 272 = .ok (.aload_n 0, 1) := by decide +kernel
theorem dL_law_273 : decode cL_law 273 = .ok (.iload_n 3, 1) := by decide +kernel
theorem dL_law_274 : decode cL_law 274 = .ok (.iconst 2, 1) := by decide +kernel
theorem dL_law_275 : decode cL_law 275 = .ok (.iadd, 1) := by decide +kernel
theorem dL_law_276 : decode cL_law 276 = .ok (.iaload, 1) := by decide +kernel
theorem dL_law_277 : decode cL_law 277 = .ok (.invokevirtual 31, 3) := by decide +kernel
theorem dL_law_280 : decode cL_law 280 = .ok (.aload_n 2, 1) := by decide +kernel
theorem dL_law_281 : decode cL_law 281 = .ok (.aload_n 0, 1) := by decide +kernel
theorem dL_law_282 : decode cL_law 282 = .ok (.iload_n 3, 1) := by decide +kernel
theorem dL_law_283 : decode cL_law 283 = .ok (.iconst 1, 1) := by decide +kernel
theorem dL_law_284 : decode cL_law 284 = .ok (.iadd, 1) := by decide +kernel
theorem dL_law_285 : decode cL_law 285 = .ok (.iaload, 1) := by decide +kernel
theorem dL_law_286 : decode cL_law 286 = .ok (.aload_n 0, 1) := by decide +kernel
theorem dL_law_287 : decode cL_law 287 = .ok (.iload_n 3, 1) := by decide +kernel
theorem dL_law_288 : decode cL_law 288 = .ok (.iconst 2, 1) := by decide +kernel
theorem dL_law_289 : decode cL_law 289 = .ok (.iadd, 1) := by decide +kernel
theorem dL_law_290 : decode cL_law 290 = .ok (.iaload, 1) := by decide +kernel
theorem dL_law_291 : decode cL_law 291 = .ok (.invokevirtual 34, 3) := by decide +kernel
theorem dL_law_294 : decode cL_law 294 = .ok (.if_icmp .eq 779, 3) := by decide +kernel
theorem dL_law_297 : decode cL_law 297 = .ok (.iconst 0, 1) := by decide +kernel
theorem dL_law_298 : decode cL_law 298 = .ok (.ireturn, 1) := by decide +kernel
theorem dL_law_299 : decode cL_law 299 = .ok (.aload_n 1, 1) := by decide +kernel
theorem dL_law_300 : decode cL_law 300 = .ok (.aload_n 0, 1) := by decide +kernel
theorem dL_law_301 : decode cL_law 301 = .ok (.iload_n 3, 1) := by decide +kernel
theorem dL_law_302 : decode cL_law 302 = .ok (.iconst 1, 1) := by decide +kernel
theorem dL_law_303 : decode cL_law 303 = .ok (.iadd, 1) := by decide +kernel
theorem dL_law_304 : decode cL_law 304 = .ok (.iaload, 1) := by decide +kernel
theorem dL_law_305 : decode cL_law 305 = .ok (.aload_n 0, 1) := by decide +kernel
theorem dL_law_306 : decode cL_law 306 = .ok (.iload_n 3, 1) := by decide +kernel
theorem dL_law_307 : decode cL_law 307 = .ok (.iconst 2, 1) := by decide +kernel
theorem dL_law_308 : decode cL_law 308 = .ok (.iadd, 1) := by decide +kernel
theorem dL_law_309 : decode cL_law 309 = .ok (.iaload, 1) := by decide +kernel
theorem dL_law_310 : decode cL_law 310 = .ok (.invokevirtual 35, 3) := by decide +kernel
theorem dL_law_313 : decode cL_law 313 = .ok (.aload_n 2, 1) := by decide +kernel
theorem dL_law_314 : decode cL_law 314 = .ok (.aload_n 0, 1) := by decide +kernel
theorem dL_law_315 : decode cL_law 315 = .ok (.iload_n 3, 1) := by decide +kernel
theorem dL_law_316 : decode cL_law 316 = .ok (.iconst 1, 1) := by decide +kernel
theorem dL_law_317 : decode cL_law 317 = .ok (.iadd, 1) := by decide +kernel
theorem dL_law_318 : decode cL_law 318 = .ok (.iaload, 1) := by decide +kernel
theorem dL_law_319 : decode cL_law 319 = .ok (.aload_n 0, 1) := by decide +kernel
theorem dL_law_320 : decode cL_law 320 = .ok (.iload_n 3, 1) := by decide +kernel
theorem dL_law_321 : decode cL_law 321 = .ok (.iconst 2, 1) := by decide +kernel
theorem dL_law_322 : decode cL_law 322 = .ok (.iadd, 1) := by decide +kernel
theorem dL_law_323 : decode cL_law 323 = .ok (.iaload, 1) := by decide +kernel
theorem dL_law_324 : decode cL_law 324 = .ok (.invokevirtual 38, 3) := by decide +kernel
theorem dL_law_327 : decode cL_law 327 = .ok (.if_icmp .eq 746, 3) := by decide +kernel
theorem dL_law_330 : decode cL_law 330 = .ok (.iconst 0, 1) := by decide +kernel
theorem dL_law_331 : decode cL_law 331 = .ok (.ireturn, 1) := by decide +kernel
theorem dL_law_332 : decode cL_law 332 = .ok (.aload_n 1, 1) := by decide +kernel
theorem dL_law_333 : decode cL_law 333 = .ok (.aload_n 0, 1) := by decide +kernel
theorem dL_law_334 : decode cL_law 334 = .ok (.iload_n 3, 1) := by decide +kernel
theorem dL_law_335 : decode cL_law 335 = .ok (.iconst 1, 1) := by decide +kernel
theorem dL_law_336 : decode cL_law 336 = .ok (.iadd, 1) := by decide +kernel
theorem dL_law_337 : decode cL_law 337 = .ok (.iaload, 1) := by decide +kernel
theorem dL_law_338 : decode cL_law 338 = .ok (.aload_n 0, 1) := by decide +kernel
theorem dL_law_339 : decode cL_law 339 = .ok (.iload_n 3, 1) := by decide +kernel
theorem dL_law_340 : decode cL_law 340 = .ok (.iconst 2, 1) := by decide +kernel
theorem dL_law_341 : decode cL_law 341 = .ok (.iadd, 1) := by decide +kernel
theorem dL_law_342 : decode cL_law 342 = .ok (.iaload, 1) := by decide +kernel
theorem dL_law_343 : decode cL_law 343 = .ok (.invokevirtual 39, 3) := by decide +kernel
theorem dL_law_346 : decode cL_law 346 = .ok (.aload_n 2, 1) := by decide +kernel
theorem dL_law_347 : decode cL_law 347 = .ok (.aload_n 0, 1) := by decide +kernel
theorem dL_law_348 : decode cL_law 348 = .ok (.iload_n 3, 1) := by decide +kernel
theorem dL_law_349 : decode cL_law 349 = .ok (.iconst 1, 1) := by decide +kernel
theorem dL_law_350 : decode cL_law 350 = .ok (.iadd, 1) := by decide +kernel
theorem dL_law_351 : decode cL_law 351 = .ok (.iaload, 1) := by decide +kernel
theorem dL_law_352 : decode cL_law 352 = .ok (.aload_n 0, 1) := by decide +kernel
theorem dL_law_353 : decode cL_law 353 = .ok (.iload_n 3, 1) := by decide +kernel
theorem dL_law_354 : decode cL_law 354 = .ok (.iconst 2, 1) := by decide +kernel
theorem dL_law_355 : decode cL_law 355 = .ok (.iadd, 1) := by decide +kernel
theorem dL_law_356 : decode cL_law 356 = .ok (.iaload, 1) := by decide +kernel
theorem dL_law_357 : decode cL_law 357 = .ok (.invokevirtual 42, 3) := by decide +kernel
theorem dL_law_360 : decode cL_law 360 = .ok (.if_icmp .eq 713, 3) := by decide +kernel
theorem dL_law_363 : decode cL_law 363 = .ok (.iconst 0, 1) := by decide +kernel
theorem dL_law_364 : decode cL_law 364 = .ok (.ireturn, 1) := by decide +kernel
theorem dL_law_365 : decode cL_law 365 = .ok (.aload_n 1, 1) := by decide +kernel
theorem dL_law_366 : decode cL_law 366 = .ok (.aload_n 0, 1) := by decide +kernel
theorem dL_law_367 : decode cL_law 367 = .ok (.iload_n 3, 1) := by decide +kernel
theorem dL_law_368 : decode cL_law 368 = .ok (.iconst 1, 1) := by decide +kernel
theorem dL_law_369 : decode cL_law 369 = .ok (.iadd, 1) := by decide +kernel
theorem dL_law_370 : decode cL_law 370 = .ok (.iaload, 1) := by decide +kernel
theorem dL_law_371 : decode cL_law 371 = .ok (.aload_n 0, 1) := by decide +kernel
theorem dL_law_372 : decode cL_law 372 = .ok (.iload_n 3, 1) := by decide +kernel
theorem dL_law_373 : decode cL_law 373 = .ok (.iconst 2, 1) := by decide +kernel
theorem dL_law_374 : decode cL_law 374 = .ok (.iadd, 1) := by decide +kernel
theorem dL_law_375 : decode cL_law 375 = .ok (.iaload, 1) := by decide +kernel
theorem dL_law_376 : decode cL_law 376 = .ok (.aload_n 0, 1) := by decide +kernel
theorem dL_law_377 : decode cL_law 377 = .ok (.iload_n 3, 1) := by decide +kernel
theorem dL_law_378 : decode cL_law 378 = .ok (.iconst 3, 1) := by decide +kernel
theorem dL_law_379 : decode cL_law 379 = .ok (.iadd, 1) := by decide +kernel
theorem dL_law_380 : decode cL_law 380 = .ok (.iaload, 1) := by decide +kernel
theorem dL_law_381 : decode cL_law 381 = .ok (.invokevirtual 43, 3) := by decide +kernel
theorem dL_law_384 : decode cL_law 384 = .ok (.aload_n 2, 1) := by decide +kernel
theorem dL_law_385 : decode cL_law 385 = .ok (.aload_n 0, 1) := by decide +kernel
theorem dL_law_386 : decode cL_law 386 = .ok (.iload_n 3, 1) := by decide +kernel
theorem dL_law_387 : decode cL_law 387 = .ok (.iconst 1, 1) := by decide +kernel
theorem dL_law_388 : decode cL_law 388 = .ok (.iadd, 1) := by decide +kernel
theorem dL_law_389 : decode cL_law 389 = .ok (.iaload, 1) := by decide +kernel
theorem dL_law_390 : decode cL_law 390 = .ok (.aload_n 0, 1) := by decide +kernel
theorem dL_law_391 : decode cL_law 391 = .ok (.iload_n 3, 1) := by decide +kernel
theorem dL_law_392 : decode cL_law 392 = .ok (.iconst 2, 1) := by decide +kernel
theorem dL_law_393 : decode cL_law 393 = .ok (.iadd, 1) := by decide +kernel
theorem dL_law_394 : decode cL_law 394 = .ok (.iaload, 1) := by decide +kernel
theorem dL_law_395 : decode cL_law 395 = .ok (.aload_n 0, 1) := by decide +kernel
theorem dL_law_396 : decode cL_law 396 = .ok (.iload_n 3, 1) := by decide +kernel
theorem dL_law_397 : decode cL_law 397 = .ok (.iconst 3, 1) := by decide +kernel
theorem dL_law_398 : decode cL_law 398 = .ok (.iadd, 1) := by decide +kernel
theorem dL_law_399 : decode cL_law 399 = .ok (.iaload, 1) := by decide +kernel
theorem dL_law_400 : decode cL_law 400 = .ok (.invokevirtual 47, 3) := by decide +kernel
theorem dL_law_403 : decode cL_law 403 = .ok (.if_icmp .eq 670, 3) := by decide +kernel
theorem dL_law_406 : decode cL_law 406 = .ok (.iconst 0, 1) := by decide +kernel
theorem dL_law_407 : decode cL_law 407 = .ok (.ireturn, 1) := by decide +kernel
theorem dL_law_408 : decode cL_law 408 = .ok (.aload_n 1, 1) := by decide +kernel
theorem dL_law_409 : decode cL_law 409 = .ok (.aload_n 0, 1) := by decide +kernel
theorem dL_law_410 : decode cL_law 410 = .ok (.iload_n 3, 1) := by decide +kernel
theorem dL_law_411 : decode cL_law 411 = .ok (.iconst 1, 1) := by decide +kernel
theorem dL_law_412 : decode cL_law 412 = .ok (.iadd, 1) := by decide +kernel
theorem dL_law_413 : decode cL_law 413 = .ok (.iaload, 1) := by decide +kernel
theorem dL_law_414 : decode cL_law 414 = .ok (.aload_n 0, 1) := by decide +kernel
theorem dL_law_415 : decode cL_law 415 = .ok (.iload_n 3, 1) := by decide +kernel
theorem dL_law_416 : decode cL_law 416 = .ok (.iconst 2, 1) := by decide +kernel
theorem dL_law_417 : decode cL_law 417 = .ok (.iadd, 1) := by decide +kernel
theorem dL_law_418 : decode cL_law 418 = .ok (.iaload, 1) := by decide +kernel
theorem dL_law_419 : decode cL_law 419 = .ok (.invokevirtual 48, 3) := by decide +kernel
theorem dL_law_422 : decode cL_law 422 = .ok (.aload_n 2, 1) := by decide +kernel
theorem dL_law_423 : decode cL_law 423 = .ok (.aload_n 0, 1) := by decide +kernel
theorem dL_law_424 : decode cL_law 424 = .ok (.iload_n 3, 1) := by decide +kernel
theorem dL_law_425 : decode cL_law 425 = .ok (.iconst 1, 1) := by decide +kernel
theorem dL_law_426 : decode cL_law 426 = .ok (.iadd, 1) := by decide +kernel
theorem dL_law_427 : decode cL_law 427 = .ok (.iaload, 1) := by decide +kernel
theorem dL_law_428 : decode cL_law 428 = .ok (.aload_n 0, 1) := by decide +kernel
theorem dL_law_429 : decode cL_law 429 = .ok (.iload_n 3, 1) := by decide +kernel
theorem dL_law_430 : decode cL_law 430 = .ok (.iconst 2, 1) := by decide +kernel
theorem dL_law_431 : decode cL_law 431 = .ok (.iadd, 1) := by decide +kernel
theorem dL_law_432 : decode cL_law 432 = .ok (.iaload, 1) := by decide +kernel
theorem dL_law_433 : decode cL_law 433 = .ok (.invokevirtual 51, 3) := by decide +kernel
theorem dL_law_436 : decode cL_law 436 = .ok (.if_icmp .eq 637, 3) := by decide +kernel
theorem dL_law_439 : decode cL_law 439 = .ok (.iconst 0, 1) := by decide +kernel
theorem dL_law_440 : decode cL_law 440 = .ok (.ireturn, 1) := by decide +kernel
theorem dL_law_441 : decode cL_law 441 = .ok (.aload_n 1, 1) := by decide +kernel
theorem dL_law_442 : decode cL_law 442 = .ok (.aload_n 0, 1) := by decide +kernel
theorem dL_law_443 : decode cL_law 443 = .ok (.iload_n 3, 1) := by decide +kernel
theorem dL_law_444 : decode cL_law 444 = .ok (.iconst 1, 1) := by decide +kernel
theorem dL_law_445 : decode cL_law 445 = .ok (.iadd, 1) := by decide +kernel
theorem dL_law_446 : decode cL_law 446 = .ok (.iaload, 1) := by decide +kernel
theorem dL_law_447 : decode cL_law 447 = .ok (.aload_n 0, 1) := by decide +kernel
theorem dL_law_448 : decode cL_law 448 = .ok (.iload_n 3, 1) := by decide +kernel
theorem dL_law_449 : decode cL_law 449 = .ok (.iconst 2, 1) := by decide +kernel
theorem dL_law_450 : decode cL_law 450 = .ok (.iadd, 1) := by decide +kernel
theorem dL_law_451 : decode cL_law 451 = .ok (.iaload, 1) := by decide +kernel
theorem dL_law_452 : decode cL_law 452 = .ok (.invokevirtual 52, 3) := by decide +kernel
theorem dL_law_455 : decode cL_law 455 = .ok (.aload_n 2, 1) := by decide +kernel
theorem dL_law_456 : decode cL_law 456 = .ok (.aload_n 0, 1) := by decide +kernel
theorem dL_law_457 : decode cL_law 457 = .ok (.iload_n 3, 1) := by decide +kernel
theorem dL_law_458 : decode cL_law 458 = .ok (.iconst 1, 1) := by decide +kernel
theorem dL_law_459 : decode cL_law 459 = .ok (.iadd, 1) := by decide +kernel
theorem dL_law_460 : decode cL_law 460 = .ok (.iaload, 1) := by decide +kernel
theorem dL_law_461 : decode cL_law 461 = .ok (.aload_n 0, 1) := by decide +kernel
theorem dL_law_462 : decode cL_law 462 = .ok (.iload_n 3, 1) := by decide +kernel
theorem dL_law_463 : decode cL_law 463 = .ok (.iconst 2, 1) := by decide +kernel
theorem dL_law_464 : decode cL_law 464 = .ok (.iadd, 1) := by decide +kernel
theorem dL_law_465 : decode cL_law 465 = .ok (.iaload, 1) := by decide +kernel
theorem dL_law_466 : decode cL_law 466 = .ok (.invokevirtual 55, 3) := by decide +kernel
theorem dL_law_469 : decode cL_law 469 = .ok (.if_icmp .eq 604, 3) := by decide +kernel
theorem dL_law_472 : decode cL_law 472 = .ok (.iconst 0, 1) := by decide +kernel
theorem dL_law_473 : decode cL_law 473 = .ok (.ireturn, 1) := by decide +kernel
theorem dL_law_474 : decode cL_law 474 = .ok (.aload_n 1, 1) := by decide +kernel
theorem dL_law_475 : decode cL_law 475 = .ok (.aload_n 0, 1) := by decide +kernel
theorem dL_law_476 : decode cL_law 476 = .ok (.iload_n 3, 1) := by decide +kernel
theorem dL_law_477 : decode cL_law 477 = .ok (.iconst 1, 1) := by decide +kernel
theorem dL_law_478 : decode cL_law 478 = .ok (.iadd, 1) := by decide +kernel
theorem dL_law_479 : decode cL_law 479 = .ok (.iaload, 1) := by decide +kernel
theorem dL_law_480 : decode cL_law 480 = .ok (.invokevirtual 56, 3) := by decide +kernel
theorem dL_law_483 : decode cL_law 483 = .ok (.aload_n 2, 1) := by decide +kernel
theorem dL_law_484 : decode cL_law 484 = .ok (.aload_n 0, 1) := by decide +kernel
theorem dL_law_485 : decode cL_law 485 = .ok (.iload_n 3, 1) := by decide +kernel
theorem dL_law_486 : decode cL_law 486 = .ok (.iconst 1, 1) := by decide +kernel
theorem dL_law_487 : decode cL_law 487 = .ok (.iadd, 1) := by decide +kernel
theorem dL_law_488 : decode cL_law 488 = .ok (.iaload, 1) := by decide +kernel
theorem dL_law_489 : decode cL_law 489 = .ok (.invokevirtual 59, 3) := by decide +kernel
theorem dL_law_492 : decode cL_law 492 = .ok (.if_icmp .eq 581, 3) := by decide +kernel
theorem dL_law_495 : decode cL_law 495 = .ok (.iconst 0, 1) := by decide +kernel
theorem dL_law_496 : decode cL_law 496 = .ok (.ireturn, 1) := by decide +kernel
theorem dL_law_497 : decode cL_law 497 = .ok (.aload_n 1, 1) := by decide +kernel
theorem dL_law_498 : decode cL_law 498 = .ok (.invokevirtual 60, 3) := by decide +kernel
theorem dL_law_501 : decode cL_law 501 = .ok (.aload_n 2, 1) := by decide +kernel
theorem dL_law_502 : decode cL_law 502 = .ok (.invokevirtual 64, 3) := by decide +kernel
theorem dL_law_505 : decode cL_law 505 = .ok (.if_icmp .eq 568, 3) := by decide +kernel
theorem dL_law_508 : decode cL_law 508 = .ok (.iconst 0, 1) := by decide +kernel
theorem dL_law_509 : decode cL_law 509 = .ok (.ireturn, 1) := by decide +kernel
theorem dL_law_510 : decode cL_law 510 = .ok (.aload_n 1, 1) := by decide +kernel
theorem dL_law_511 : decode cL_law 511 = .ok (.aload_n 0, 1) := by decide +kernel
theorem dL_law_512 : decode cL_law 512 = .ok (.iload_n 3, 1) := by decide +kernel
theorem dL_law_513 : decode cL_law 513 = .ok (.iconst 1, 1) := by decide +kernel
theorem dL_law_514 : decode cL_law 514 = .ok (.iadd, 1) := by decide +kernel
theorem dL_law_515 : decode cL_law 515 = .ok (.iaload, 1) := by decide +kernel
theorem dL_law_516 : decode cL_law 516 = .ok (.invokevirtual 65, 3) := by decide +kernel
theorem dL_law_519 : decode cL_law 519 = .ok (.aload_n 2, 1) := by decide +kernel
theorem dL_law_520 : decode cL_law 520 = .ok (.aload_n 0, 1) := by decide +kernel
theorem dL_law_521 : decode cL_law 521 = .ok (.iload_n 3, 1) := by decide +kernel
theorem dL_law_522 : decode cL_law 522 = .ok (.iconst 1, 1) := by decide +kernel
theorem dL_law_523 : decode cL_law 523 = .ok (.iadd, 1) := by decide +kernel
theorem dL_law_524 : decode cL_law 524 = .ok (.iaload, 1) := by decide +kernel
theorem dL_law_525 : decode cL_law 525 = .ok (.invokevirtual 68, 3) := by decide +kernel
theorem dL_law_528 : decode cL_law 528 = .ok (.if_icmp .eq 545, 3) := by decide +kernel
theorem dL_law_531 : decode cL_law 531 = .ok (.iconst 0, 1) := by decide +kernel
theorem dL_law_532 : decode cL_law 532 = .ok (.ireturn, 1) := by decide +kernel
theorem dL_law_533 : decode cL_law 533 = .ok (.aload_n 1, 1) := by decide +kernel
theorem dL_law_534 : decode cL_law 534 = .ok (.aload_n 0, 1) := by decide +kernel
theorem dL_law_535 : decode cL_law 535 = .ok (.iload_n 3, 1) := by decide +kernel
theorem dL_law_536 : decode cL_law 536 = .ok (.iconst 1, 1) := by decide +kernel
theorem dL_law_537 : decode cL_law 537 = .ok (.iadd, 1) := by decide +kernel
theorem dL_law_538 : decode cL_law 538 = .ok (.iaload, 1) := by decide +kernel
theorem dL_law_539 : decode cL_law 539 = .ok (.aload_n 0, 1) := by decide +kernel
theorem dL_law_540 : decode cL_law 540 = .ok (.iload_n 3, 1) := by decide +kernel
theorem dL_law_541 : decode cL_law 541 = .ok (.iconst 2, 1) := by decide +kernel
theorem dL_law_542 : decode cL_law 542 = .ok (.iadd, 1) := by decide +kernel
theorem dL_law_543 : decode cL_law 543 = .ok (.iaload, 1) := by decide +kernel
theorem dL_law_544 : decode cL_law 544 = .ok (.invokevirtual 69, 3) := by decide +kernel
theorem dL_law_547 : decode cL_law 547 = .ok (.aload_n 2, 1) := by decide +kernel
theorem dL_law_548 : decode cL_law 548 = .ok (.aload_n 0, 1) := by decide +kernel
theorem dL_law_549 : decode cL_law 549 = .ok (.iload_n 3, 1) := by decide +kernel
theorem dL_law_550 : decode cL_law 550 = .ok (.iconst 1, 1) := by decide +kernel
theorem dL_law_551 : decode cL_law 551 = .ok (.iadd, 1) := by decide +kernel
theorem dL_law_552 : decode cL_law 552 = .ok (.iaload, 1) := by decide +kernel
theorem dL_law_553 : decode cL_law 553 = .ok (.aload_n 0, 1) := by decide +kernel
theorem dL_law_554 : decode cL_law 554 = .ok (.iload_n 3, 1) := by decide +kernel
theorem dL_law_555 : decode cL_law 555 = .ok (.iconst 2, 1) := by decide +kernel
theorem dL_law_556 : decode cL_law 556 = .ok (.iadd, 1) := by decide +kernel
theorem dL_law_557 : decode cL_law 557 = .ok (.iaload, 1) := by decide +kernel
theorem dL_law_558 : decode cL_law 558 = .ok (.invokevirtual 72, 3) := by decide +kernel
theorem dL_law_561 : decode cL_law 561 = .ok (.if_icmp .eq 512, 3) := by decide +kernel
theorem dL_law_564 : decode cL_law 564 = .ok (.iconst 0, 1) := by decide +kernel
theorem dL_law_565 : decode cL_law 565 = .ok (.ireturn, 1) := by decide +kernel
theorem dL_law_566 : decode cL_law 566 = .ok (.aload_n 1, 1) := by decide +kernel
theorem dL_law_567 : decode cL_law 567 = .ok (.aload_n 0, 1) := by decide +kernel
theorem dL_law_568 : decode cL_law 568 = .ok (.iload_n 3, 1) := by decide +kernel
theorem dL_law_569 : decode cL_law 569 = .ok (.iconst 1, 1) := by decide +kernel
theorem dL_law_570 : decode cL_law 570 = .ok (.iadd, 1) := by decide +kernel
theorem dL_law_571 : decode cL_law 571 = .ok (.iaload, 1) := by decide +kernel
theorem dL_law_572 : decode cL_law 572 = .ok (.aload_n 0, 1) := by decide +kernel
theorem dL_law_573 : decode cL_law 573 = .ok (.iload_n 3, 1) := by decide +kernel
theorem dL_law_574 : decode cL_law 574 = .ok (.iconst 2, 1) := by decide +kernel
theorem dL_law_575 : decode cL_law 575 = .ok (.iadd, 1) := by decide +kernel
theorem dL_law_576 : decode cL_law 576 = .ok (.iaload, 1) := by decide +kernel
theorem dL_law_577 : decode cL_law 577 = .ok (.invokevirtual 73, 3) := by decide +kernel
theorem dL_law_580 : decode cL_law 580 = .ok (.aload_n 2, 1) := by decide +kernel
theorem dL_law_581 : decode cL_law 581 = .ok (.aload_n 0, 1) := by decide +kernel
theorem dL_law_582 : decode cL_law 582 = .ok (.iload_n 3, 1) := by decide +kernel
theorem dL_law_583 : decode cL_law 583 = .ok (.iconst 1, 1) := by decide +kernel
theorem dL_law_584 : decode cL_law 584 = .ok (.iadd, 1) := by decide +kernel
theorem dL_law_585 : decode cL_law 585 = .ok (.iaload, 1) := by decide +kernel
theorem dL_law_586 : decode cL_law 586 = .ok (.aload_n 0, 1) := by decide +kernel
theorem dL_law_587 : decode cL_law 587 = .ok (.iload_n 3, 1) := by decide +kernel
theorem dL_law_588 : decode cL_law 588 = .ok (.iconst 2, 1) := by decide +kernel
theorem dL_law_589 : decode cL_law 589 = .ok (.iadd, 1) := by decide +kernel
theorem dL_law_590 : decode cL_law 590 = .ok (.iaload, 1) := by decide +kernel
theorem dL_law_591 : decode cL_law 591 = .ok (.invokevirtual 76, 3) := by decide +kernel
theorem dL_law_594 : decode cL_law 594 = .ok (.if_icmp .eq 479, 3) := by decide +kernel
theorem dL_law_597 : decode cL_law 597 = .ok (.iconst 0, 1) := by decide +kernel
theorem dL_law_598 : decode cL_law 598 = .ok (.ireturn, 1) := by decide +kernel
theorem dL_law_599 : decode cL_law 599 = .ok (.aload_n 1, 1) := by decide +kernel
theorem dL_law_600 : decode cL_law 600 = .ok (.aload_n 0, 1) := by decide +kernel
theorem dL_law_601 : decode cL_law 601 = .ok (.iload_n 3, 1) := by decide +kernel
theorem dL_law_602 : decode cL_law 602 = .ok (.iconst 1, 1) := by decide +kernel
theorem dL_law_603 : decode cL_law 603 = .ok (.iadd, 1) := by decide +kernel
theorem dL_law_604 : decode cL_law 604 = .ok (.iaload, 1) := by decide +kernel
theorem dL_law_605 : decode cL_law 605 = .ok (.aload_n 0, 1) := by decide +kernel
theorem dL_law_606 : decode cL_law 606 = .ok (.iload_n 3, 1) := by decide +kernel
theorem dL_law_607 : decode cL_law 607 = .ok (.iconst 2, 1) := by decide +kernel
theorem dL_law_608 : decode cL_law 608 = .ok (.iadd, 1) := by decide +kernel
theorem dL_law_609 : decode cL_law 609 = .ok (.iaload, 1) := by decide +kernel
theorem dL_law_610 : decode cL_law 610 = .ok (.aload_n 0, 1) := by decide +kernel
theorem dL_law_611 : decode cL_law 611 = .ok (.iload_n 3, 1) := by decide +kernel
theorem dL_law_612 : decode cL_law 612 = .ok (.iconst 3, 1) := by decide +kernel
theorem dL_law_613 : decode cL_law 613 = .ok (.iadd, 1) := by decide +kernel
theorem dL_law_614 : decode cL_law 614 = .ok (.iaload, 1) := by decide +kernel
theorem dL_law_615 : decode cL_law 615 = .ok (.invokevirtual 77, 3) := by decide +kernel
theorem dL_law_618 : decode cL_law 618 = .ok (.aload_n 2, 1) := by decide +kernel
theorem dL_law_619 : decode cL_law 619 = .ok (.aload_n 0, 1) := by decide +kernel
theorem dL_law_620 : decode cL_law 620 = .ok (.iload_n 3, 1) := by decide +kernel
theorem dL_law_621 : decode cL_law 621 = .ok (.iconst 1, 1) := by decide +kernel
theorem dL_law_622 : decode cL_law 622 = .ok (.iadd, 1) := by decide +kernel
theorem dL_law_623 : decode cL_law 623 = .ok (.iaload, 1) := by decide +kernel
theorem dL_law_624 : decode cL_law 624 = .ok (.aload_n 0, 1) := by decide +kernel
theorem dL_law_625 : decode cL_law 625 = .ok (.iload_n 3, 1) := by decide +kernel
theorem dL_law_626 : decode cL_law 626 = .ok (.iconst 2, 1) := by decide +kernel
theorem dL_law_627 : decode cL_law 627 = .ok (.iadd, 1) := by decide +kernel
theorem dL_law_628 : decode cL_law 628 = .ok (.iaload, 1) := by decide +kernel
theorem dL_law_629 : decode cL_law 629 = .ok (.aload_n 0, 1) := by decide +kernel
theorem dL_law_630 : decode cL_law 630 = .ok (.iload_n 3, 1) := by decide +kernel
theorem dL_law_631 : decode cL_law 631 = .ok (.iconst 3, 1) := by decide +kernel
theorem dL_law_632 : decode cL_law 632 = .ok (.iadd, 1) := by decide +kernel
theorem dL_law_633 : decode cL_law 633 = .ok (.iaload, 1) := by decide +kernel
theorem dL_law_634 : decode cL_law 634 = .ok (.invokevirtual 80, 3) := by decide +kernel
theorem dL_law_637 : decode cL_law 637 = .ok (.if_icmp .eq 436, 3) := by decide +kernel
theorem dL_law_640 : decode cL_law 640 = .ok (.iconst 0, 1) := by decide +kernel
theorem dL_law_641 : decode cL_law 641 = .ok (.ireturn, 1) := by decide +kernel
theorem dL_law_642 : decode cL_law 642 = .ok (.aload_n 1, 1) := by decide +kernel
theorem dL_law_643 : decode cL_law 643 = .ok (.invokevirtual 81, 3) := by decide +kernel
theorem dL_law_646 : decode cL_law 646 = .ok (.aload_n 2, 1) := by decide +kernel
theorem dL_law_647 : decode cL_law 647 = .ok (.invokevirtual 84, 3) := by decide +kernel
theorem dL_law_650 : decode cL_law 650 = .ok (.if_icmp .eq 423, 3) := by decide +kernel
theorem dL_law_653 : decode cL_law 653 = .ok (.iconst 0, 1) := by decide +kernel
theorem dL_law_654 : decode cL_law 654 = .ok (.ireturn, 1) := by decide +kernel
theorem dL_law_655 : decode cL_law 655 = .ok (.aload_n 1, 1) := by decide +kernel
theorem dL_law_656 : decode cL_law 656 = .ok (.aload_n 0, 1) := by decide +kernel
theorem dL_law_657 : decode cL_law 657 = .ok (.iload_n 3, 1) := by decide +kernel
theorem dL_law_658 : decode cL_law 658 = .ok (.iconst 1, 1) := by decide +kernel
theorem dL_law_659 : decode cL_law 659 = .ok (.iadd, 1) := by decide +kernel
theorem dL_law_660 : decode cL_law 660 = .ok (.iaload, 1) := by decide +kernel
theorem dL_law_661 : decode cL_law 661 = .ok (.invokevirtual 85, 3) := by decide +kernel
theorem dL_law_664 : decode cL_law 664 = .ok (.aload_n 2, 1) := by decide +kernel
theorem dL_law_665 : decode cL_law 665 = .ok (.aload_n 0, 1) := by decide +kernel
theorem dL_law_666 : decode cL_law 666 = .ok (.iload_n 3, 1) := by decide +kernel
theorem dL_law_667 : decode cL_law 667 = .ok (.iconst 1, 1) := by decide +kernel
theorem dL_law_668 : decode cL_law 668 = .ok (.iadd, 1) := by decide +kernel
theorem dL_law_669 : decode cL_law 669 = .ok (.iaload, 1) := by decide +kernel
theorem dL_law_670 : decode cL_law 670 = .ok (.invokevirtual 88, 3) := by decide +kernel
theorem dL_law_673 : decode cL_law 673 = .ok (.if_icmp .eq 400, 3) := by decide +kernel
theorem dL_law_676 : decode cL_law 676 = .ok (.iconst 0, 1) := by decide +kernel
theorem dL_law_677 : decode cL_law 677 = .ok (.ireturn, 1) := by decide +kernel
theorem dL_law_678 : decode cL_law 678 = .ok (.aload_n 1, 1) := by decide +kernel
theorem dL_law_679 : decode cL_law 679 = .ok (.aload_n 0, 1) := by decide +kernel
theorem dL_law_680 : decode cL_law 680 = .ok (.iload_n 3, 1) := by decide +kernel
theorem dL_law_681 : decode cL_law 681 = .ok (.iconst 1, 1) := by decide +kernel
theorem dL_law_682 : decode cL_law 682 = .ok (.iadd, 1) := by decide +kernel
theorem dL_law_683 : decode cL_law 683 = .ok (.iaload, 1) := by decide +kernel
theorem dL_law_684 : decode cL_law 684 = .ok (.invokevirtual 89, 3) := by decide +kernel
theorem dL_law_687 : decode cL_law 687 = .ok (.aload_n 2, 1) := by decide +kernel
theorem dL_law_688 : decode cL_law 688 = .ok (.aload_n 0, 1) := by decide +kernel
theorem dL_law_689 : decode cL_law 689 = .ok (.iload_n 3, 1) := by decide +kernel
theorem dL_law_690 : decode cL_law 690 = .ok (.iconst 1, 1) := by decide +kernel
theorem dL_law_691 : decode cL_law 691 = .ok (.iadd, 1) := by decide +kernel
theorem dL_law_692 : decode cL_law 692 = .ok (.iaload, 1) := by decide +kernel
theorem dL_law_693 : decode cL_law 693 = .ok (.invokevirtual 92, 3) := by decide +kernel
theorem dL_law_696 : decode cL_law 696 = .ok (.if_icmp .eq 377, 3) := by decide +kernel
theorem dL_law_699 : decode cL_law 699 = .ok (.iconst 0, 1) := by decide +kernel
theorem dL_law_700 : decode cL_law 700 = .ok (.ireturn, 1) := by decide +kernel
theorem dL_law_701 : decode cL_law 701 = .ok (.aload_n 1, 1) := by decide +kernel
theorem dL_law_702 : decode cL_law 702 = .ok (.aload_n 0, 1) := by decide +kernel
theorem dL_law_703 : decode cL_law 703 = .ok (.iload_n 3, 1) := by decide +kernel
theorem dL_law_704 : decode cL_law 704 = .ok (.iconst 1, 1) := by decide +kernel
theorem dL_law_705 : decode cL_law 705 = .ok (.iadd, 1) := by decide +kernel
theorem dL_law_706 : decode cL_law 706 = .ok (.iaload, 1) := by decide +kernel
theorem dL_law_707 : decode cL_law 707 = .ok (.aload_n 0, 1) := by decide +kernel
theorem dL_law_708 : decode cL_law 708 = .ok (.iload_n 3, 1) := by decide +kernel
theorem dL_law_709 : decode cL_law 709 = .ok (.iconst 2, 1) := by decide +kernel
theorem dL_law_710 : decode cL_law 710 = .ok (.iadd, 1) := by decide +kernel
theorem dL_law_711 : decode cL_law 711 = .ok (.iaload, 1) := by decide +kernel
theorem dL_law_712 : decode cL_law 712 = .ok (.invokevirtual 93, 3) := by decide +kernel
theorem dL_law_715 : decode cL_law 715 = .ok (.aload_n 2, 1) := by decide +kernel
theorem dL_law_716 : decode cL_law 716 = .ok (.aload_n 0, 1) := by decide +kernel
theorem dL_law_717 : decode cL_law 717 = .ok (.iload_n 3, 1) := by decide +kernel
theorem dL_law_718 : decode cL_law 718 = .ok (.iconst 1, 1) := by decide +kernel
theorem dL_law_719 : decode cL_law 719 = .ok (.iadd, 1) := by decide +kernel
theorem dL_law_720 : decode cL_law 720 = .ok (.iaload, 1) := by decide +kernel
theorem dL_law_721 : decode cL_law 721 = .ok (.aload_n 0, 1) := by decide +kernel
theorem dL_law_722 : decode cL_law 722 = .ok (.iload_n 3, 1) := by decide +kernel
theorem dL_law_723 : decode cL_law 723 = .ok (.iconst 2, 1) := by decide +kernel
theorem dL_law_724 : decode cL_law 724 = .ok (.iadd, 1) := by decide +kernel
theorem dL_law_725 : decode cL_law 725 = .ok (.iaload, 1) := by decide +kernel
theorem dL_law_726 : decode cL_law 726 = .ok (.invokevirtual 97, 3) := by decide +kernel
theorem dL_law_729 : decode cL_law 729 = .ok (.lcmp, 1) := by decide +kernel
theorem dL_law_730 : decode cL_law 730 = .ok (.ifCond .eq 343, 3) := by decide +kernel
theorem dL_law_733 : decode cL_law 733 = .ok (.iconst 0, 1) := by decide +kernel
theorem dL_law_734 : decode cL_law 734 = .ok (.ireturn, 1) := by decide +kernel
theorem dL_law_735 : decode cL_law 735 = .ok (.aload_n 1, 1) := by decide +kernel
theorem dL_law_736 : decode cL_law 736 = .ok (.aload_n 0, 1) := by decide +kernel
theorem dL_law_737 : decode cL_law 737 = .ok (.iload_n 3, 1) := by decide +kernel
theorem dL_law_738 : decode cL_law 738 = .ok (.iconst 1, 1) := by decide +kernel
theorem dL_law_739 : decode cL_law 739 = .ok (.iadd, 1) := by decide +kernel
theorem dL_law_740 : decode cL_law 740 = .ok (.iaload, 1) := by decide +kernel
theorem dL_law_741 : decode cL_law 741 = .ok (.aload_n 0, 1) := by decide +kernel
theorem dL_law_742 : decode cL_law 742 = .ok (.iload_n 3, 1) := by decide +kernel
theorem dL_law_743 : decode cL_law 743 = .ok (.iconst 2, 1) := by decide +kernel
theorem dL_law_744 : decode cL_law 744 = .ok (.iadd, 1) := by decide +kernel
theorem dL_law_745 : decode cL_law 745 = .ok (.iaload, 1) := by decide +kernel
theorem dL_law_746 : decode cL_law 746 = .ok (.aload_n 0, 1) := by decide +kernel
theorem dL_law_747 : decode cL_law 747 = .ok (.iload_n 3, 1) := by decide +kernel
theorem dL_law_748 : decode cL_law 748 = .ok (.iconst 3, 1) := by decide +kernel
theorem dL_law_749 : decode cL_law 749 = .ok (.iadd, 1) := by decide +kernel
theorem dL_law_750 : decode cL_law 750 = .ok (.iaload, 1) := by decide +kernel
theorem dL_law_751 : decode cL_law 751 = .ok (.invokevirtual 98, 3) := by decide +kernel
theorem dL_law_754 : decode cL_law 754 = .ok (.aload_n 2, 1) := by decide +kernel
theorem dL_law_755 : decode cL_law 755 = .ok (.aload_n 0, 1) := by decide +kernel
theorem dL_law_756 : decode cL_law 756 = .ok (.iload_n 3, 1) := by decide +kernel
theorem dL_law_757 : decode cL_law 757 = .ok (.iconst 1, 1) := by decide +kernel
theorem dL_law_758 : decode cL_law 758 = .ok (.iadd, 1) := by decide +kernel
theorem dL_law_759 : decode cL_law 759 = .ok (.iaload, 1) := by decide +kernel
theorem dL_law_760 : decode cL_law 760 = .ok (.aload_n 0, 1) := by decide +kernel
theorem dL_law_761 : decode cL_law 761 = .ok (.iload_n 3, 1) := by decide +kernel
theorem dL_law_762 : decode cL_law 762 = .ok (.iconst 2, 1) := by decide +kernel
theorem dL_law_763 : decode cL_law 763 = .ok (.iadd, 1) := by decide +kernel
theorem dL_law_764 : decode cL_law 764 = .ok (.iaload, 1) := by decide +kernel
theorem dL_law_765 : decode cL_law 765 = .ok (.aload_n 0, 1) := by decide +kernel
theorem dL_law_766 : decode cL_law 766 = .ok (.iload_n 3, 1) := by decide +kernel
theorem dL_law_767 : decode cL_law 767 = .ok (.iconst 3, 1) := by decide +kernel
theorem dL_law_768 : decode cL_law 768 = .ok (.iadd, 1) := by decide +kernel
theorem dL_law_769 : decode cL_law 769 = .ok (.iaload, 1) := by decide +kernel
theorem dL_law_770 : decode cL_law 770 = .ok (.invokevirtual 101, 3) := by decide +kernel
theorem dL_law_773 : decode cL_law 773 = .ok (.if_icmp .eq 300, 3) := by decide +kernel
theorem dL_law_776 : decode cL_law 776 = .ok (.iconst 0, 1) := by decide +kernel
theorem dL_law_777 : decode cL_law 777 = .ok (.ireturn, 1) := by decide +kernel
theorem dL_law_778 : decode cL_law 778 = .ok (.aload_n 1, 1) := by decide +kernel
theorem dL_law_779 : decode cL_law 779 = .ok (.aload_n 0, 1) := by decide +kernel
theorem dL_law_780 : decode cL_law 780 = .ok (.iload_n 3, 1) := by decide +kernel
theorem dL_law_781 : decode cL_law 781 = .ok (.iconst 1, 1) := by decide +kernel
theorem dL_law_782 : decode cL_law 782 = .ok (.iadd, 1) := by decide +kernel
theorem dL_law_783 : decode cL_law 783 = .ok (.iaload, 1) := by decide +kernel
theorem dL_law_784 : decode cL_law 784 = .ok (.aload_n 0, 1) := by decide +kernel
theorem dL_law_785 : decode cL_law 785 = .ok (.iload_n 3, 1) := by decide +kernel
theorem dL_law_786 : decode cL_law 786 = .ok (.iconst 2, 1) := by decide +kernel
theorem dL_law_787 : decode cL_law 787 = .ok (.iadd, 1) := by decide +kernel
theorem dL_law_788 : decode cL_law 788 = .ok (.iaload, 1) := by decide +kernel
theorem dL_law_789 : decode cL_law 789 = .ok (.aload_n 0, 1) := by decide +kernel
theorem dL_law_790 : decode cL_law 790 = .ok (.iload_n 3, 1) := by decide +kernel
theorem dL_law_791 : decode cL_law 791 = .ok (.iconst 3, 1) := by decide +kernel
theorem dL_law_792 : decode cL_law 792 = .ok (.iadd, 1) := by decide +kernel
theorem dL_law_793 : decode cL_law 793 = .ok (.iaload, 1) := by decide +kernel
theorem dL_law_794 : decode cL_law 794 = .ok (.invokevirtual 102, 3) := by decide +kernel
theorem dL_law_797 : decode cL_law 797 = .ok (.aload_n 2, 1) := by decide +kernel
theorem dL_law_798 : decode cL_law 798 = .ok (.aload_n 0, 1) := by decide +kernel
theorem dL_law_799 : decode cL_law 799 = .ok (.iload_n 3, 1) := by decide +kernel
theorem dL_law_800 : decode cL_law 800 = .ok (.iconst 1, 1) := by decide +kernel
theorem dL_law_801 : decode cL_law 801 = .ok (.iadd, 1) := by decide +kernel
theorem dL_law_802 : decode cL_law 802 = .ok (.iaload, 1) := by decide +kernel
theorem dL_law_803 : decode cL_law 803 = .ok (.aload_n 0, 1) := by decide +kernel
theorem dL_law_804 : decode cL_law 804 = .ok (.iload_n 3, 1) := by decide +kernel
theorem dL_law_805 : decode cL_law 805 = .ok (.iconst 2, 1) := by decide +kernel
theorem dL_law_806 : decode cL_law 806 = .ok (.iadd, 1) := by decide +kernel
theorem dL_law_807 : decode cL_law 807 = .ok (.iaload, 1) := by decide +kernel
theorem dL_law_808 : decode cL_law 808 = .ok (.aload_n 0, 1) := by decide +kernel
theorem dL_law_809 : decode cL_law 809 = .ok (.iload_n 3, 1) := by decide +kernel
theorem dL_law_810 : decode cL_law 810 = .ok (.iconst 3, 1) := by decide +kernel
theorem dL_law_811 : decode cL_law 811 = .ok (.iadd, 1) := by decide +kernel
theorem dL_law_812 : decode cL_law 812 = .ok (.iaload, 1) := by decide +kernel
theorem dL_law_813 : decode cL_law 813 = .ok (.invokevirtual 105, 3) := by decide +kernel
theorem dL_law_816 : decode cL_law 816 = .ok (.if_icmp .eq 257, 3) := by decide +kernel
theorem dL_law_819 : decode cL_law 819 = .ok (.iconst 0, 1) := by decide +kernel
theorem dL_law_820 : decode cL_law 820 = .ok (.ireturn, 1) := by decide +kernel
theorem dL_law_821 : decode cL_law 821 = .ok (.aload_n 1, 1) := by decide +kernel
theorem dL_law_822 : decode cL_law 822 = .ok (.aload_n 0, 1) := by decide +kernel
theorem dL_law_823 : decode cL_law 823 = .ok (.iload_n 3, 1) := by decide +kernel
theorem dL_law_824 : decode cL_law 824 = .ok (.iconst 1, 1) := by decide +kernel
theorem dL_law_825 : decode cL_law 825 = .ok (.iadd, 1) := by decide +kernel
theorem dL_law_826 : decode cL_law 826 = .ok (.iaload, 1) := by decide +kernel
theorem dL_law_827 : decode cL_law 827 = .ok (.invokevirtual 106, 3) := by decide +kernel
theorem dL_law_830 : decode cL_law 830 = .ok (.aload_n 2, 1) := by decide +kernel
theorem dL_law_831 : decode cL_law 831 = .ok (.aload_n 0, 1) := by decide +kernel
theorem dL_law_832 : decode cL_law 832 = .ok (.iload_n 3, 1) := by decide +kernel
theorem dL_law_833 : decode cL_law 833 = .ok (.iconst 1, 1) := by decide +kernel
theorem dL_law_834 : decode cL_law 834 = .ok (.iadd, 1) := by decide +kernel
theorem dL_law_835 : decode cL_law 835 = .ok (.iaload, 1) := by decide +kernel
theorem dL_law_836 : decode cL_law 836 = .ok (.invokevirtual 109, 3) := by decide +kernel
theorem dL_law_839 : decode cL_law 839 = .ok (.if_icmp .eq 234, 3) := by decide +kernel
theorem dL_law_842 : decode cL_law 842 = .ok (.iconst 0, 1) := by decide +kernel
theorem dL_law_843 : decode cL_law 843 = .ok (.ireturn, 1) := by decide +kernel
theorem dL_law_844 : decode cL_law 844 = .ok (.aload_n 1, 1) := by decide +kernel
theorem dL_law_845 : decode cL_law 845 = .ok (.aload_n 0, 1) := by decide +kernel
theorem dL_law_846 : decode cL_law 846 = .ok (.iload_n 3, 1) := by decide +kernel
theorem dL_law_847 : decode cL_law 847 = .ok (.iconst 1, 1) := by decide +kernel
theorem dL_law_848 : decode cL_law 848 = .ok (.iadd, 1) := by decide +kernel
theorem dL_law_849 : decode cL_law 849 = .ok (.iaload, 1) := by decide +kernel
theorem dL_law_850 : decode cL_law 850 = .ok (.aload_n 0, 1) := by decide +kernel
theorem dL_law_851 : decode cL_law 851 = .ok (.iload_n 3, 1) := by decide +kernel
theorem dL_law_852 : decode cL_law 852 = .ok (.iconst 2, 1) := by decide +kernel
theorem dL_law_853 : decode cL_law 853 = .ok (.iadd, 1) := by decide +kernel
theorem dL_law_854 : decode cL_law 854 = .ok (.iaload, 1) := by decide +kernel
theorem dL_law_855 : decode cL_law 855 = .ok (.aload_n 0, 1) := by decide +kernel
theorem dL_law_856 : decode cL_law 856 = .ok (.iload_n 3, 1) := by decide +kernel
theorem dL_law_857 : decode cL_law 857 = .ok (.iconst 3, 1) := by decide +kernel
theorem dL_law_858 : decode cL_law 858 = .ok (.iadd, 1) := by decide +kernel
theorem dL_law_859 : decode cL_law 859 = .ok (.iaload, 1) := by decide +kernel
theorem dL_law_860 : decode cL_law 860 = .ok (.aload_n 0, 1) := by decide +kernel
theorem dL_law_861 : decode cL_law 861 = .ok (.iload_n 3, 1) := by decide +kernel
theorem dL_law_862 : decode cL_law 862 = .ok (.iconst 4, 1) := by decide +kernel
theorem dL_law_863 : decode cL_law 863 = .ok (.iadd, 1) := by decide +kernel
theorem dL_law_864 : decode cL_law 864 = .ok (.iaload, 1) := by decide +kernel
theorem dL_law_865 : decode cL_law 865 = .ok (.invokevirtual 110, 3) := by decide +kernel
theorem dL_law_868 : decode cL_law 868 = .ok (.aload_n 2, 1) := by decide +kernel
theorem dL_law_869 : decode cL_law 869 = .ok (.aload_n 0, 1) := by decide +kernel
theorem dL_law_870 : decode cL_law 870 = .ok (.iload_n 3, 1) := by decide +kernel
theorem dL_law_871 : decode cL_law 871 = .ok (.iconst 1, 1) := by decide +kernel
theorem dL_law_872 : decode cL_law 872 = .ok (.iadd, 1) := by decide +kernel
theorem dL_law_873 : decode cL_law 873 = .ok (.iaload, 1) := by decide +kernel
theorem dL_law_874 : decode cL_law 874 = .ok (.aload_n 0, 1) := by decide +kernel
theorem dL_law_875 : decode cL_law 875 = .ok (.iload_n 3, 1) := by decide +kernel
theorem dL_law_876 : decode cL_law 876 = .ok (.iconst 2, 1) := by decide +kernel
theorem dL_law_877 : decode cL_law 877 = .ok (.iadd, 1) := by decide +kernel
theorem dL_law_878 : decode cL_law 878 = .ok (.iaload, 1) := by decide +kernel
theorem dL_law_879 : decode cL_law 879 = .ok (.aload_n 0, 1) := by decide +kernel
theorem dL_law_880 : decode cL_law 880 = .ok (.iload_n 3, 1) := by decide +kernel
theorem dL_law_881 : decode cL_law 881 = .ok (.iconst 3, 1) := by decide +kernel
theorem dL_law_882 : decode cL_law 882 = .ok (.iadd, 1) := by decide +kernel
theorem dL_law_883 : decode cL_law 883 = .ok (.iaload, 1) := by decide +kernel
theorem dL_law_884 : decode cL_law 884 = .ok (.aload_n 0, 1) := by decide +kernel
theorem dL_law_885 : decode cL_law 885 = .ok (.iload_n 3, 1) := by decide +kernel
theorem dL_law_886 : decode cL_law 886 = .ok (.iconst 4, 1) := by decide +kernel
theorem dL_law_887 : decode cL_law 887 = .ok (.iadd, 1) := by decide +kernel
theorem dL_law_888 : decode cL_law 888 = .ok (.iaload, 1) := by decide +kernel
theorem dL_law_889 : decode cL_law 889 = .ok (.invokevirtual 114, 3) := by decide +kernel
theorem dL_law_892 : decode cL_law 892 = .ok (.if_icmp .eq 181, 3) := by decide +kernel
theorem dL_law_895 : decode cL_law 895 = .ok (.iconst 0, 1) := by decide +kernel
theorem dL_law_896 : decode cL_law 896 = .ok (.ireturn, 1) := by decide +kernel
theorem dL_law_897 : decode cL_law 897 = .ok (.aload_n 1, 1) := by decide +kernel
theorem dL_law_898 : decode cL_law 898 = .ok (.aload_n 0, 1) := by decide +kernel
theorem dL_law_899 : decode cL_law 899 = .ok (.iload_n 3, 1) := by decide +kernel
theorem dL_law_900 : decode cL_law 900 = .ok (.iconst 1, 1) := by decide +kernel
theorem dL_law_901 : decode cL_law 901 = .ok (.iadd, 1) := by decide +kernel
theorem dL_law_902 : decode cL_law 902 = .ok (.iaload, 1) := by decide +kernel
theorem dL_law_903 : decode cL_law 903 = .ok (.aload_n 0, 1) := by decide +kernel
theorem dL_law_904 : decode cL_law 904 = .ok (.iload_n 3, 1) := by decide +kernel
theorem dL_law_905 : decode cL_law 905 = .ok (.iconst 2, 1) := by decide +kernel
theorem dL_law_906 : decode cL_law 906 = .ok (.iadd, 1) := by decide +kernel
theorem dL_law_907 : decode cL_law 907 = .ok (.iaload, 1) := by decide +kernel
theorem dL_law_908 : decode cL_law 908 = .ok (.aload_n 0, 1) := by decide +kernel
theorem dL_law_909 : decode cL_law 909 = .ok (.iload_n 3, 1) := by decide +kernel
theorem dL_law_910 : decode cL_law 910 = .ok (.iconst 3, 1) := by decide +kernel
theorem dL_law_911 : decode cL_law 911 = .ok (.iadd, 1) := by decide +kernel
theorem dL_law_912 : decode cL_law 912 = .ok (.iaload, 1) := by decide +kernel
theorem dL_law_913 : decode cL_law 913 = .ok (.invokevirtual 115, 3) := by decide +kernel
theorem dL_law_916 : decode cL_law 916 = .ok (.aload_n 2, 1) := by decide +kernel
theorem dL_law_917 : decode cL_law 917 = .ok (.aload_n 0, 1) := by decide +kernel
theorem dL_law_918 : decode cL_law 918 = .ok (.iload_n 3, 1) := by decide +kernel
theorem dL_law_919 : decode cL_law 919 = .ok (.iconst 1, 1) := by decide +kernel
theorem dL_law_920 : decode cL_law 920 = .ok (.iadd, 1) := by decide +kernel
theorem dL_law_921 : decode cL_law 921 = .ok (.iaload, 1) := by decide +kernel
theorem dL_law_922 : decode cL_law 922 = .ok (.aload_n 0, 1) := by decide +kernel
theorem dL_law_923 : decode cL_law 923 = .ok (.iload_n 3, 1) := by decide +kernel
theorem dL_law_924 : decode cL_law 924 = .ok (.iconst 2, 1) := by decide +kernel
theorem dL_law_925 : decode cL_law 925 = .ok (.iadd, 1) := by decide +kernel
theorem dL_law_926 : decode cL_law 926 = .ok (.iaload, 1) := by decide +kernel
theorem dL_law_927 : decode cL_law 927 = .ok (.aload_n 0, 1) := by decide +kernel
theorem dL_law_928 : decode cL_law 928 = .ok (.iload_n 3, 1) := by decide +kernel
theorem dL_law_929 : decode cL_law 929 = .ok (.iconst 3, 1) := by decide +kernel
theorem dL_law_930 : decode cL_law 930 = .ok (.iadd, 1) := by decide +kernel
theorem dL_law_931 : decode cL_law 931 = .ok (.iaload, 1) := by decide +kernel
theorem dL_law_932 : decode cL_law 932 = .ok (.invokevirtual 118, 3) := by decide +kernel
theorem dL_law_935 : decode cL_law 935 = .ok (.if_icmp .eq 138, 3) := by decide +kernel
theorem dL_law_938 : decode cL_law 938 = .ok (.iconst 0, 1) := by decide +kernel
theorem dL_law_939 : decode cL_law 939 = .ok (.ireturn, 1) := by decide +kernel
theorem dL_law_940 : decode cL_law 940 = .ok (.aload_n 1, 1) := by decide +kernel
theorem dL_law_941 : decode cL_law 941 = .ok (.aload_n 0, 1) := by decide +kernel
theorem dL_law_942 : decode cL_law 942 = .ok (.iload_n 3, 1) := by decide +kernel
theorem dL_law_943 : decode cL_law 943 = .ok (.iconst 1, 1) := by decide +kernel
theorem dL_law_944 : decode cL_law 944 = .ok (.iadd, 1) := by decide +kernel
theorem dL_law_945 : decode cL_law 945 = .ok (.iaload, 1) := by decide +kernel
theorem dL_law_946 : decode cL_law 946 = .ok (.aload_n 0, 1) := by decide +kernel
theorem dL_law_947 : decode cL_law 947 = .ok (.iload_n 3, 1) := by decide +kernel
theorem dL_law_948 : decode cL_law 948 = .ok (.iconst 2, 1) := by decide +kernel
theorem dL_law_949 : decode cL_law 949 = .ok (.iadd, 1) := by decide +kernel
theorem dL_law_950 : decode cL_law 950 = .ok (.iaload, 1) := by decide +kernel
theorem dL_law_951 : decode cL_law 951 = .ok (.aload_n 0, 1) := by decide +kernel
theorem dL_law_952 : decode cL_law 952 = .ok (.iload_n 3, 1) := by decide +kernel
theorem dL_law_953 : decode cL_law 953 = .ok (.iconst 3, 1) := by decide +kernel
theorem dL_law_954 : decode cL_law 954 = .ok (.iadd, 1) := by decide +kernel
theorem dL_law_955 : decode cL_law 955 = .ok (.iaload, 1) := by decide +kernel
theorem dL_law_956 : decode cL_law 956 = .ok (.aload_n 0, 1) := by decide +kernel
theorem dL_law_957 : decode cL_law 957 = .ok (.iload_n 3, 1) := by decide +kernel
theorem dL_law_958 : decode cL_law 958 = .ok (.iconst 4, 1) := by decide +kernel
theorem dL_law_959 : decode cL_law 959 = .ok (.iadd, 1) := by decide +kernel
theorem dL_law_960 : decode cL_law 960 = .ok (.iaload, 1) := by decide +kernel
theorem dL_law_961 : decode cL_law 961 = .ok (.aload_n 0, 1) := by decide +kernel
theorem dL_law_962 : decode cL_law 962 = .ok (.iload_n 3, 1) := by decide +kernel
theorem dL_law_963 : decode cL_law 963 = .ok (.iconst 5, 1) := by decide +kernel
theorem dL_law_964 : decode cL_law 964 = .ok (.iadd, 1) := by decide +kernel
theorem dL_law_965 : decode cL_law 965 = .ok (.iaload, 1) := by decide +kernel
theorem dL_law_966 : decode cL_law 966 = .ok (.invokevirtual 119, 3) := by decide +kernel
theorem dL_law_969 : decode cL_law 969 = .ok (.aload_n 2, 1) := by decide +kernel
theorem dL_law_970 : decode cL_law 970 = .ok (.aload_n 0, 1) := by decide +kernel
theorem dL_law_971 : decode cL_law 971 = .ok (.iload_n 3, 1) := by decide +kernel
theorem dL_law_972 : decode cL_law 972 = .ok (.iconst 1, 1) := by decide +kernel
theorem dL_law_973 : decode cL_law 973 = .ok (.iadd, 1) := by decide +kernel
theorem dL_law_974 : decode cL_law 974 = .ok (.iaload, 1) := by decide +kernel
theorem dL_law_975 : decode cL_law 975 = .ok (.aload_n 0, 1) := by decide +kernel
theorem dL_law_976 : decode cL_law 976 = .ok (.iload_n 3, 1) := by decide +kernel
theorem dL_law_977 : decode cL_law 977 = .ok (.iconst 2, 1) := by decide +kernel
theorem dL_law_978 : decode cL_law 978 = .ok (.iadd, 1) := by decide +kernel
theorem dL_law_979 : decode cL_law 979 = .ok (.iaload, 1) := by decide +kernel
theorem dL_law_980 : decode cL_law 980 = .ok (.aload_n 0, 1) := by decide +kernel
theorem dL_law_981 : decode cL_law 981 = .ok (.iload_n 3, 1) := by decide +kernel
theorem dL_law_982 : decode cL_law 982 = .ok (.iconst 3, 1) := by decide +kernel
theorem dL_law_983 : decode cL_law 983 = .ok (.iadd, 1) := by decide +kernel
theorem dL_law_984 : decode cL_law 984 = .ok (.iaload, 1) := by decide +kernel
theorem dL_law_985 : decode cL_law 985 = .ok (.aload_n 0, 1) := by decide +kernel
theorem dL_law_986 : decode cL_law 986 = .ok (.iload_n 3, 1) := by decide +kernel
theorem dL_law_987 : decode cL_law 987 = .ok (.iconst 4, 1) := by decide +kernel
theorem dL_law_988 : decode cL_law 988 = .ok (.iadd, 1) := by decide +kernel
theorem dL_law_989 : decode cL_law 989 = .ok (.iaload, 1) := by decide +kernel
theorem dL_law_990 : decode cL_law 990 = .ok (.aload_n 0, 1) := by decide +kernel
theorem dL_law_991 : decode cL_law 991 = .ok (.iload_n 3, 1) := by decide +kernel
theorem dL_law_992 : decode cL_law 992 = .ok (.iconst 5, 1) := by decide +kernel
theorem dL_law_993 : decode cL_law 993 = .ok (.iadd, 1) := by decide +kernel
theorem dL_law_994 : decode cL_law 994 = .ok (.iaload, 1) := by decide +kernel
theorem dL_law_995 : decode cL_law 995 = .ok (.invokevirtual 123, 3) := by decide +kernel
theorem dL_law_998 : decode cL_law 998 = .ok (.if_icmp .eq 75, 3) := by decide +kernel
theorem dL_law_1001 : decode cL_law 1001 = .ok (.iconst 0, 1) := by decide +kernel
theorem dL_law_1002 : decode cL_law 1002 = .ok (.ireturn, 1) := by decide +kernel
theorem dL_law_1003 : decode cL_law 1003 = .ok (.aload_n 1, 1) := by decide +kernel
theorem dL_law_1004 : decode cL_law 1004 = .ok (.aload_n 0, 1) := by decide +kernel
theorem dL_law_1005 : decode cL_law 1005 = .ok (.iload_n 3, 1) := by decide +kernel
theorem dL_law_1006 : decode cL_law 1006 = .ok (.iconst 1, 1) := by decide +kernel
theorem dL_law_1007 : decode cL_law 1007 = .ok (.iadd, 1) := by decide +kernel
theorem dL_law_1008 : decode cL_law 1008 = .ok (.iaload, 1) := by decide +kernel
theorem dL_law_1009 : decode cL_law 1009 = .ok (.aload_n 0, 1) := by decide +kernel
theorem dL_law_1010 : decode cL_law 1010 = .ok (.iload_n 3, 1) := by decide +kernel
theorem dL_law_1011 : decode cL_law 1011 = .ok (.iconst 2, 1) := by decide +kernel
theorem dL_law_1012 : decode cL_law 1012 = .ok (.iadd, 1) := by decide +kernel
theorem dL_law_1013 : decode cL_law 1013 = .ok (.iaload, 1) := by decide +kernel
theorem dL_law_1014 : decode cL_law 1014 = .ok (.invokevirtual 124, 3) := by decide +kernel
theorem dL_law_1017 : decode cL_law 1017 = .ok (.aload_n 2, 1) := by decide +kernel
theorem dL_law_1018 : decode cL_law 1018 = .ok (.aload_n 0, 1) := by decide +kernel
theorem dL_law_1019 : decode cL_law 1019 = .ok (.iload_n 3, 1) := by decide +kernel
theorem dL_law_1020 : decode cL_law 1020 = .ok (.iconst 1, 1) := by decide +kernel
theorem dL_law_1021 : decode cL_law 1021 = .ok (.iadd, 1) := by decide +kernel
theorem dL_law_1022 : decode cL_law 1022 = .ok (.iaload, 1) := by decide +kernel
theorem dL_law_1023 : decode cL_law 1023 = .ok (.aload_n 0, 1) := by decide +kernel
theorem dL_law_1024 : decode cL_law 1024 = .ok (.iload_n 3, 1) := by decide +kernel
theorem dL_law_1025 : decode cL_law 1025 = .ok (.iconst 2, 1) := by decide +kernel
theorem dL_law_1026 : decode cL_law 1026 = .ok (.iadd, 1) := by decide +kernel
theorem dL_law_1027 : decode cL_law 1027 = .ok (.iaload, 1) := by decide +kernel
theorem dL_law_1028 : decode cL_law 1028 = .ok (.invokevirtual 127, 3) := by decide +kernel
theorem dL_law_1031 : decode cL_law 1031 = .ok (.if_icmp .eq 42, 3) := by decide +kernel
theorem dL_law_1034 : decode cL_law 1034 = .ok (.iconst 0, 1) := by decide +kernel
theorem dL_law_1035 : decode cL_law 1035 = .ok (.ireturn, 1) := by decide +kernel
theorem dL_law_1036 : decode cL_law 1036 = .ok (.aload_n 1, 1) := by decide +kernel
theorem dL_law_1037 : decode cL_law 1037 = .ok (.aload_n 0, 1) := by decide +kernel
theorem dL_law_1038 : decode cL_law 1038 = .ok (.iload_n 3, 1) := by decide +kernel
theorem dL_law_1039 : decode cL_law 1039 = .ok (.iconst 1, 1) := by decide +kernel
theorem dL_law_1040 : decode cL_law 1040 = .ok (.iadd, 1) := by decide +kernel
theorem dL_law_1041 : decode cL_law 1041 = .ok (.iaload, 1) := by decide +kernel
theorem dL_law_1042 : decode cL_law 1042 = .ok (.invokevirtual 128, 3) := by decide +kernel
theorem dL_law_1045 : decode cL_law 1045 = .ok (.aload_n 2, 1) := by decide +kernel
theorem dL_law_1046 : decode cL_law 1046 = .ok (.aload_n 0, 1) := by decide +kernel
theorem dL_law_1047 : decode cL_law 1047 = .ok (.iload_n 3, 1) := by decide +kernel
theorem dL_law_1048 : decode cL_law 1048 = .ok (.iconst 1, 1) := by decide +kernel
theorem dL_law_1049 : decode cL_law 1049 = .ok (.iadd, 1) := by decide +kernel
theorem dL_law_1050 : decode cL_law 1050 = .ok (.iaload, 1) := by decide +kernel
theorem dL_law_1051 : decode cL_law 1051 = .ok (.invokevirtual 131, 3) := by decide +kernel
theorem dL_law_1054 : decode cL_law 1054 = .ok (.if_icmp .eq 19, 3) := by decide +kernel
theorem dL_law_1057 : decode cL_law 1057 = .ok (.iconst 0, 1) := by decide +kernel
theorem dL_law_1058 : decode cL_law 1058 = .ok (.ireturn, 1) := by decide +kernel
theorem dL_law_1059 : decode cL_law 1059 = .ok (.aload_n 1, 1) := by decide +kernel
theorem dL_law_1060 : decode cL_law 1060 = .ok (.invokevirtual 132, 3) := by decide +kernel
theorem dL_law_1063 : decode cL_law 1063 = .ok (.aload_n 2, 1) := by decide +kernel
theorem dL_law_1064 : decode cL_law 1064 = .ok (.invokevirtual 136, 3) := by decide +kernel
theorem dL_law_1067 : decode cL_law 1067 = .ok (.lcmp, 1) := by decide +kernel
theorem dL_law_1068 : decode cL_law 1068 = .ok (.ifCond .eq 5, 3) := by decide +kernel
theorem dL_law_1071 : decode cL_law 1071 = .ok (.iconst 0, 1) := by decide +kernel
theorem dL_law_1072 : decode cL_law 1072 = .ok (.ireturn, 1) := by decide +kernel
theorem dL_law_1073 : decode cL_law 1073 = .ok (.iinc 3 6, 3) := by decide +kernel
theorem dL_law_1076 : decode cL_law 1076 = .ok (.goto (-1058), 3) := by decide +kernel
theorem dL_law_1079 : decode cL_law 1079 = .ok (.iconst 1, 1) := by decide +kernel
theorem dL_law_1080 : decode cL_law 1080 = .ok (.ireturn, 1) := by decide +kernel
end
section
theorem dX11_init_0 : decode cX11_init 0 = .ok (.aload_n 0, 1) := by decide +kernel
theorem dX11_init_1 : decode cX11_init 1 = .ok (.invokespecial 1, 3) := by decide +kernel
theorem dX11_init_4 : decode cX11_init 4 = .ok (.aload_n 0, 1) := by decide +kernel
theorem dX11_init_5 : decode cX11_init 5 = .ok (.iconst 4, 1) := by decide +kernel
theorem dX11_init_6 : decode cX11_init 6 = .ok (.newarray .int, 2) := by decide +kernel
theorem dX11_init_8 : decode cX11_init 8 = .ok (.putfield 7, 3) := by decide +kernel
theorem dX11_init_11 : decode cX11_init 11 = .ok (.aload_n 0, 1) := by decide +kernel
theorem dX11_init_12 : decode cX11_init 12 = .ok (.iconst 4, 1) := by decide +kernel
theorem dX11_init_13 : decode cX11_init 13 = .ok (.newarray .int, 2) := by decide +kernel
theorem dX11_init_15 : decode cX11_init 15 = .ok (.putfield 13, 3) := by decide +kernel
theorem dX11_init_18 : decode cX11_init 18 = .ok (.aload_n 0, 1) := by decide +kernel
theorem dX11_init_19 : decode cX11_init 19 = .ok (.sipush 240, 3) := by decide +kernel
theorem dX11_init_22 : decode cX11_init 22 = .ok (.newarray .int, 2) := by decide +kernel
theorem dX11_init_24 : decode cX11_init 24 = .ok (.putfield 16, 3) := by decide +kernel
theorem dX11_init_27 : decode cX11_init 27 = .ok (.aload_n 0, 1) := by decide +kernel
theorem dX11_init_28 : decode cX11_init 28 = .ok (.bipush 60, 2) := by decide +kernel
theorem dX11_init_30 : decode cX11_init 30 = .ok (.newarray .int, 2) := by decide +kernel
theorem dX11_init_32 : decode cX11_init 32 = .ok (.putfield 19, 3) := by decide +kernel
theorem dX11_init_35 : decode cX11_init 35 = .ok (.aload_n 0, 1) := by decide +kernel
theorem dX11_init_36 : decode cX11_init 36 = .ok (.sipush 128, 3) := by decide +kernel
theorem dX11_init_39 : decode cX11_init 39 = .ok (.newarray .int, 2) := by decide +kernel
theorem dX11_init_41 : decode cX11_init 41 = .ok (.putfield 22, 3) := by decide +kernel
theorem dX11_init_44 : decode cX11_init 44 = .ok (.aload_n 0, 1) := by decide +kernel
theorem dX11_init_45 : decode cX11_init 45 = .ok (.iconst 2, 1) := by decide +kernel
theorem dX11_init_46 : decode cX11_init 46 = .ok (.newarray .int, 2) := by decide +kernel
theorem dX11_init_48 : decode cX11_init 48 = .ok (.putfield 25, 3) := by decide +kernel
theorem dX11_init_51 : decode cX11_init 51 = .ok (.aload_n 0, 1) := by decide +kernel
theorem dX11_init_52 : decode cX11_init 52 = .ok (.bipush 64, 2) := by decide +kernel
theorem dX11_init_54 : decode cX11_init 54 = .ok (.newarray .int, 2) := by decide +kernel
theorem dX11_init_56 : decode cX11_init 56 = .ok (.putfield 28, 3) := by decide +kernel
theorem dX11_init_59 : decode cX11_init 59 = .ok (.aload_n 0, 1) := by decide +kernel
theorem dX11_init_60 : decode cX11_init 60 = .ok (.bipush 8, 2) := by decide +kernel
theorem dX11_init_62 : decode cX11_init 62 = .ok (.newarray .int, 2) := by decide +kernel
theorem dX11_init_64 : decode cX11_init 64 = .ok (.putfield 31, 3) := by decide +kernel
theorem dX11_init_67 : decode cX11_init 67 = .ok (.aload_n 0, 1) := by decide +kernel
theorem dX11_init_68 : decode cX11_init 68 = .ok (.bipush 96, 2) := by decide +kernel
theorem dX11_init_70 : decode cX11_init 70 = .ok (.newarray .int, 2) := by decide +kernel
theorem dX11_init_72 : decode cX11_init 72 = .ok (.putfield 34, 3) := by decide +kernel
theorem dX11_init_75 : decode cX11_init 75 = .ok (.aload_n 0, 1) := by decide +kernel
theorem dX11_init_76 : decode cX11_init 76 = .ok (.bipush 6, 2) := by decide +kernel
theorem dX11_init_78 : decode cX11_init 78 = .ok (.newarray .int, 2) := by decide +kernel
theorem dX11_init_80 : decode cX11_init 80 = .ok (.putfield 37, 3) := by decide +kernel
theorem dX11_init_83 : decode cX11_init 83 = .ok (.aload_n 0, 1) := by decide +kernel
theorem dX11_init_84 : decode cX11_init 84 = .ok (.bipush 64, 2) := by decide +kernel
theorem dX11_init_86 : decode cX11_init 86 = .ok (.newarray .int, 2) := by decide +kernel
theorem dX11_init_88 : decode cX11_init 88 = .ok (.putfield 40, 3) := by decide +kernel
theorem dX11_init_91 : decode cX11_init 91 = .ok (.aload_n 0, 1) := by decide +kernel
theorem dX11_init_92 : decode cX11_init 92 = .ok (.bipush 8, 2) := by decide +kernel
theorem dX11_init_94 : decode cX11_init 94 = .ok (.newarray .int, 2) := by decide +kernel
theorem dX11_init_96 : decode cX11_init 96 = .ok (.putfield 43, 3) := by decide +kernel
theorem dX11_init_99 : decode cX11_init 99 = .ok (.aload_n 0, 1) := by decide +kernel
theorem dX11_init_100 : decode cX11_init 100 = .ok (.iconst 3, 1) := by decide +kernel
theorem dX11_init_101 : decode cX11_init 101 = .ok (.newarray .int, 2) := by decide +kernel
theorem dX11_init_103 : decode cX11_init 103 = .ok (.putfield 46, 3) := by decide +kernel
theorem dX11_init_106 : decode cX11_init 106 = .ok (.aload_n 0, 1) := by decide +kernel
theorem dX11_init_107 : decode cX11_init 107 = .ok (.bipush 24, 2) := by decide +kernel
theorem dX11_init_109 : decode cX11_init 109 = .ok (.newarray .int, 2) := by decide +kernel
theorem dX11_init_111 : decode cX11_init 111 = .ok (.putfield 49, 3) := by decide +kernel
theorem dX11_init_114 : decode cX11_init 114 = .ok (.iconst 0, 1) := by decide +kernel
theorem dX11_init_115 : decode cX11_init 115 = .ok (.istore_n 1, 1) := by decide +kernel
theorem dX11_init_116 : decode cX11_init 116 = .ok (.iload_n 1, 1) := by decide +kernel
theorem dX11_init_117 : decode cX11_init 117 = .ok (.iconst 4, 1) := by decide +kernel
theorem dX11_init_118 : decode cX11_init 118 = .ok (.if_icmp .ge 16, 3) := by decide +kernel
theorem dX11_init_121 : decode cX11_init 121 = .ok (.aload_n 0, 1) := by decide +kernel
theorem dX11_init_122 : decode cX11_init 122 = .ok (.getfield 7, 3) := by decide +kernel
theorem dX11_init_125 : decode cX11_init 125 = .ok (.iload_n 1, 1) := by decide +kernel
theorem dX11_init_126 : decode cX11_init 126 = .ok (.iconst (-1), 1) := by decide +kernel
theorem dX11_init_127 : decode cX11_init 127 = .ok (.iastore, 1) := by decide +kernel
theorem dX11_init_128 : decode cX11_init 128 = .ok (.iinc 1 1, 3) := by decide +kernel
theorem dX11_init_131 : decode cX11_init 131 = .ok (.goto (-15), 3) := by decide +kernel
theorem dX11_init_134 : decode cX11_init 134 = .ok (.aload_n 0, 1) := by decide +kernel
theorem dX11_init_135 : decode cX11_init 135 = .ok (.getfield 37, 3) := by decide +kernel
theorem dX11_init_138 : decode cX11_init 138 = .ok (.iconst 1, 1) := by decide +kernel
theorem dX11_init_139 : decode cX11_init 139 = .ok (.iconst 3, 1) := by decide +kernel
theorem dX11_init_140 : decode cX11_init 140 = .ok (.iastore, 1) := by decide +kernel
theorem dX11_init_141 : decode cX11_init 141 = .ok (.aload_n 0, 1) := by decide +kernel
theorem dX11_init_142 : decode cX11_init 142 = .ok (.getfield 37, 3) := by decide +kernel
theorem dX11_init_145 : decode cX11_init 145 = .ok (.iconst 3, 1) := by decide +kernel
theorem dX11_init_146 : decode cX11_init 146 = .ok (.bipush 6, 2) := by decide +kernel
theorem dX11_init_148 : decode cX11_init 148 = .ok (.iastore, 1) := by decide +kernel
theorem dX11_init_149 : decode cX11_init 149 = .ok (.aload_n 0, 1) := by decide +kernel
theorem dX11_init_150 : decode cX11_init 150 = .ok (.getfield 37, 3) := by decide +kernel
theorem dX11_init_153 : decode cX11_init 153 = .ok (.iconst 4, 1) := by decide +kernel
theorem dX11_init_154 : decode cX11_init 154 = .ok (.iconst 4, 1) := by decide +kernel
theorem dX11_init_155 : decode cX11_init 155 = .ok (.iastore, 1) := by decide +kernel
theorem dX11_init_156 : decode cX11_init 156 = .ok (.aload_n 0, 1) := by decide +kernel
theorem dX11_init_157 : decode cX11_init 157 = .ok (.getfield 37, 3) := by decide +kernel
theorem dX11_init_160 : decode cX11_init 160 = .ok (.iconst 5, 1) := by decide +kernel
theorem dX11_init_161 : decode cX11_init 161 = .ok (.sipush 255, 3) := by decide +kernel
theorem dX11_init_164 : decode cX11_init 164 = .ok (.iastore, 1) := by decide +kernel
theorem dX11_init_165 : decode cX11_init 165 = .ok (.aload_n 0, 1) := by decide +kernel
theorem dX11_init_166 : decode cX11_init 166 = .ok (.iconst (-1), 1) := by decide +kernel
theorem dX11_init_167 : decode cX11_init 167 = .ok (.putfield 52, 3) := by decide +kernel
theorem dX11_init_170 : decode cX11_init 170 = .ok (.return_, 1) := by decide +kernel
theorem dX11_in_0 : decode cX11_in 0 = .ok (.lload_n 0, 1) := by decide +kernel
theorem dX11_in_1 : decode cX11_in 1 = .ok (.lload_n 2, 1) := by decide +kernel
theorem dX11_in_2 : decode cX11_in 2 = .ok (.lcmp, 1) := by decide +kernel
theorem dX11_in_3 : decode cX11_in 3 = .ok (.ifCond .lt 14, 3) := by decide +kernel
theorem dX11_in_6 : decode cX11_in 6 = .ok (.lload_n 0, 1) := by decide +kernel
theorem dX11_in_7 : decode cX11_in 7 = .ok (.lload 4, 2) := by decide +kernel
theorem dX11_in_9 : decode cX11_in 9 = .ok (.lcmp, 1) := by decide +kernel
theorem dX11_in_10 : decode cX11_in 10 = .ok (.ifCond .gt 7, 3) := by decide +kernel
theorem dX11_in_13 : decode cX11_in 13 = .ok (.iconst 1, 1) := by decide +kernel
theorem dX11_in_14 : decode cX11_in 14 = .ok (.goto 4, 3) := by decide +kernel
theorem dX11_in_17 : decode cX11_in 17 = .ok (.iconst 0, 1) := by decide +kernel
theorem dX11_in_18 : decode cX11_in 18 = .ok (.ireturn, 1) := by decide +kernel
theorem dX11_no_0 : decode cX11_no 0 = .ok (.ldc2_w 56, 3) := by decide +kernel
theorem dX11_no_3 : decode cX11_no 3 = .ok (.iload_n 0, 1) := by decide +kernel
theorem dX11_no_4 : decode cX11_no 4 = .ok (.i2l, 1) := by decide +kernel
theorem dX11_no_5 : decode cX11_no 5 = .ok (.lsub, 1) := by decide +kernel
theorem dX11_no_6 : decode cX11_no 6 = .ok (.lreturn, 1) := by decide +kernel
theorem dX11_isTwo_0 : decode cX11_isTwo 0 = .ok (.iload_n 0, 1) := by decide +kernel
theorem dX11_isTwo_1 : decode cX11_isTwo 1 = .ok (.i2l, 1) := by decide +kernel
theorem dX11_isTwo_2 : decode cX11_isTwo 2 = .ok (.lconst 0, 1) := by decide +kernel
theorem dX11_isTwo_3 : decode cX11_isTwo 3 = .ok (.lconst 1, 1) := by decide +kernel
theorem dX11_isTwo_4 : decode cX11_isTwo 4 = .ok (.invokestatic 58, 3) := by decide +kernel
theorem dX11_isTwo_7 : decode cX11_isTwo 7 = .ok (.ireturn, 1) := by decide +kernel
theorem dX11_isIn_0 : decode cX11_isIn 0 = .ok (.iload_n 0, 1) := by decide +kernel
theorem dX11_isIn_1 : decode cX11_isIn 1 = .ok (.iload_n 1, 1) := by decide +kernel
theorem dX11_isIn_2 : decode cX11_isIn 2 = .ok (.ishr, 1) := by decide +kernel
theorem dX11_isIn_3 : decode cX11_isIn 3 = .ok (.iconst 1, 1) := by decide +kernel
theorem dX11_isIn_4 : decode cX11_isIn 4 = .ok (.iand, 1) := by decide +kernel
theorem dX11_isIn_5 : decode cX11_isIn 5 = .ok (.iconst 1, 1) := by decide +kernel
theorem dX11_isIn_6 : decode cX11_isIn 6 = .ok (.if_icmp .ne 7, 3) := by decide +kernel
theorem dX11_isIn_9 : decode cX11_isIn 9 = .ok (.iconst 1, 1) := by decide +kernel
theorem dX11_isIn_10 : decode cX11_isIn 10 = .ok (.goto 4, 3) := by decide +kernel
theorem dX11_isIn_13 : decode cX11_isIn 13 = .ok (.iconst 0, 1) := by decide +kernel
theorem dX11_isIn_14 : decode cX11_isIn 14 = .ok (.ireturn, 1) := by decide +kernel
theorem dX11_lesser_0 : decode cX11_lesser 0 = .ok (.iload_n 0, 1) := by decide +kernel
theorem dX11_lesser_1 : decode cX11_lesser 1 = .ok (.iload_n 1, 1) := by decide +kernel
theorem dX11_lesser_2 : decode cX11_lesser 2 = .ok (.if_icmp .ge 7, 3) := by decide +kernel
theorem dX11_lesser_5 : decode cX11_lesser 5 = .ok (.iload_n 0, 1) := by decide +kernel
theorem dX11_lesser_6 : decode cX11_lesser 6 = .ok (.goto 4, 3) := by decide +kernel
theorem dX11_lesser_9 : decode cX11_lesser 9 = .ok (.iload_n 1, 1) := by decide +kernel
theorem dX11_lesser_10 : decode cX11_lesser 10 = .ok (.ireturn, 1) := by decide +kernel
theorem dX11_amount_0 : decode cX11_amount 0 = .ok (.iload_n 0, 1) := by decide +kernel
theorem dX11_amount_1 : decode cX11_amount 1 = .ok (.ifCond .ge 8, 3) := by decide +kernel
theorem dX11_amount_4 : decode cX11_amount 4 = .ok (.iload_n 0, 1) := by decide +kernel
theorem dX11_amount_5 : decode cX11_amount 5 = .ok (.ineg, 1) := by decide +kernel
theorem dX11_amount_6 : decode cX11_amount 6 = .ok (.goto 4, 3) := by decide +kernel
theorem dX11_amount_9 : decode cX11_amount 9 = .ok (.iload_n 0, 1) := by decide +kernel
theorem dX11_amount_10 : decode cX11_amount 10 = .ok (.ireturn, 1) := by decide +kernel
theorem dX11_part_0 : decode cX11_part 0 = .ok (.lload_n 0, 1) := by decide +kernel
theorem dX11_part_1 : decode cX11_part 1 = .ok (.lstore 5, 2) := by decide +kernel
theorem dX11_part_3 : decode cX11_part 3 = .ok (.lload_n 2, 1) := by decide +kernel
theorem dX11_part_4 : decode cX11_part 4 = .ok (.lstore 7, 2) := by decide +kernel
theorem dX11_part_6 : decode cX11_part 6 = .ok (.lload 7, 2) := by decide +kernel
theorem dX11_part_8 : decode cX11_part 8 = .ok (.lconst 0, 1) := by decide +kernel
theorem dX11_part_9 : decode cX11_part 9 = .ok (.lcmp, 1) := by decide +kernel
theorem dX11_part_10 : decode cX11_part 10 = .ok (.ifCond .eq 21, 3) := by decide +kernel
theorem dX11_part_13 : decode cX11_part 13 = .ok (.lload 5, 2) := by decide +kernel
theorem dX11_part_15 : decode cX11_part 15 = .ok (.lload 7, 2) := by decide +kernel
theorem dX11_part_17 : decode cX11_part 17 = .ok (.lrem, 1) := by decide +kernel
theorem dX11_part_18 : decode cX11_part 18 = .ok (.lstore 9, 2) := by decide +kernel
theorem dX11_part_20 : decode cX11_part 20 = .ok (.lload 7, 2) := by decide +kernel
theorem dX11_part_22 : decode cX11_part 22 = .ok (.lstore 5, 2) := by decide +kernel
theorem dX11_part_24 : decode cX11_part 24 = .ok (.lload 9, 2) := by decide +kernel
theorem dX11_part_26 : decode cX11_part 26 = .ok (.lstore 7, 2) := by decide +kernel
theorem dX11_part_28 : decode cX11_part 28 = .ok (.goto (-22), 3) := by decide +kernel
theorem dX11_part_31 : decode cX11_part 31 = .ok (.iload 4, 2) := by decide +kernel
theorem dX11_part_33 : decode cX11_part 33 = .ok (.ifCond .ne 7, 3) := by decide +kernel
theorem dX11_part_36 : decode cX11_part 36 = .ok (.lload_n 0, 1) := by decide +kernel
theorem dX11_part_37 : decode cX11_part 37 = .ok (.goto 4, 3) := by decide +kernel
theorem dX11_part_40 : decode cX11_part 40 = .ok (.lload_n 2, 1) := by decide +kernel
theorem dX11_part_41 : decode cX11_part 41 = .ok (.lload 5, 2) := by decide +kernel
theorem dX11_part_43 : decode cX11_part 43 = .ok (.ldiv, 1) := by decide +kernel
theorem dX11_part_44 : decode cX11_part 44 = .ok (.lreturn, 1) := by decide +kernel
theorem dX11_finds_0 : decode cX11_finds 0 = .ok (.aload_n 0, 1) := by decide +kernel
theorem dX11_finds_1 : decode cX11_finds 1 = .ok (.iload_n 1, 1) := by decide +kernel
theorem dX11_finds_2 : decode cX11_finds 2 = .ok (.putfield 62, 3) := by decide +kernel
theorem dX11_finds_5 : decode cX11_finds 5 = .ok (.bipush (-10), 2) := by decide +kernel
theorem dX11_finds_7 : decode cX11_finds 7 = .ok (.iload_n 1, 1) := by decide +kernel
theorem dX11_finds_8 : decode cX11_finds 8 = .ok (.isub, 1) := by decide +kernel
theorem dX11_finds_9 : decode cX11_finds 9 = .ok (.ireturn, 1) := by decide +kernel
theorem dX11_isSheet_0 : decode cX11_isSheet 0 = .ok (.iload_n 0, 1) := by decide +kernel
theorem dX11_isSheet_1 : decode cX11_isSheet 1 = .ok (.i2l, 1) := by decide +kernel
theorem dX11_isSheet_2 : decode cX11_isSheet 2 = .ok (.lconst 0, 1) := by decide +kernel
theorem dX11_isSheet_3 : decode cX11_isSheet 3 = .ok (.ldc2_w 65, 3) := by decide +kernel
theorem dX11_isSheet_6 : decode cX11_isSheet 6 = .ok (.invokestatic 58, 3) := by decide +kernel
theorem dX11_isSheet_9 : decode cX11_isSheet 9 = .ok (.ireturn, 1) := by decide +kernel
theorem dX11_sheet_0 : decode cX11_sheet 0 = .ok (.iload_n 1, 1) := by decide +kernel
theorem dX11_sheet_1 : decode cX11_sheet 1 = .ok (.invokestatic 67, 3) := by decide +kernel
theorem dX11_sheet_4 : decode cX11_sheet 4 = .ok (.ifCond .eq 21, 3) := by decide +kernel
theorem dX11_sheet_7 : decode cX11_sheet 7 = .ok (.iload_n 2, 1) := by decide +kernel
theorem dX11_sheet_8 : decode cX11_sheet 8 = .ok (.i2l, 1) := by decide +kernel
theorem dX11_sheet_9 : decode cX11_sheet 9 = .ok (.lconst 0, 1) := by decide +kernel
theorem dX11_sheet_10 : decode cX11_sheet 10 = .ok (.ldc2_w 71, 3) := by decide +kernel
theorem dX11_sheet_13 : decode cX11_sheet 13 = .ok (.invokestatic 58, 3) := by decide +kernel
theorem dX11_sheet_16 : decode cX11_sheet 16 = .ok (.ifCond .eq 9, 3) := by decide +kernel
theorem dX11_sheet_19 : decode cX11_sheet 19 = .ok (.iload_n 3, 1) := by decide +kernel
theorem dX11_sheet_20 : decode cX11_sheet 20 = .ok (.bipush 60, 2) := by decide +kernel
theorem dX11_sheet_22 : decode cX11_sheet 22 = .ok (.if_icmp .le 6, 3) := by decide +kernel
theorem dX11_sheet_25 : decode cX11_sheet 25 = .ok (.bipush (-2), 2) := by decide +kernel
theorem dX11_sheet_27 : decode cX11_sheet 27 = .ok (.ireturn, 1) := by decide +kernel
theorem dX11_sheet_28 : decode cX11_sheet 28 = .ok (.iload_n 3, 1) := by decide +kernel
theorem dX11_sheet_29 : decode cX11_sheet 29 = .ok (.ifCond .ge 9, 3) := by decide +kernel
theorem dX11_sheet_32 : decode cX11_sheet 32 = .ok (.aload_n 0, 1) := by decide +kernel
theorem dX11_sheet_33 : decode cX11_sheet 33 = .ok (.iconst 5, 1) := by decide +kernel
theorem dX11_sheet_34 : decode cX11_sheet 34 = .ok (.invokevirtual 73, 3) := by decide +kernel
theorem dX11_sheet_37 : decode cX11_sheet 37 = .ok (.ireturn, 1) := by decide +kernel
theorem dX11_sheet_38 : decode cX11_sheet 38 = .ok (.aload_n 0, 1) := by decide +kernel
theorem dX11_sheet_39 : decode cX11_sheet 39 = .ok (.getfield 7, 3) := by decide +kernel
theorem dX11_sheet_42 : decode cX11_sheet 42 = .ok (.iload_n 1, 1) := by decide +kernel
theorem dX11_sheet_43 : decode cX11_sheet 43 = .ok (.iload_n 2, 1) := by decide +kernel
theorem dX11_sheet_44 : decode cX11_sheet 44 = .ok (.iastore, 1) := by decide +kernel
theorem dX11_sheet_45 : decode cX11_sheet 45 = .ok (.aload_n 0, 1) := by decide +kernel
theorem dX11_sheet_46 : decode cX11_sheet 46 = .ok (.getfield 13, 3) := by decide +kernel
theorem dX11_sheet_49 : decode cX11_sheet 49 = .ok (.iload_n 1, 1) := by decide +kernel
theorem dX11_sheet_50 : decode cX11_sheet 50 = .ok (.iload_n 3, 1) := by decide +kernel
theorem dX11_sheet_51 : decode cX11_sheet 51 = .ok (.iastore, 1) := by decide +kernel
theorem dX11_sheet_52 : decode cX11_sheet 52 = .ok (.iconst 0, 1) := by decide +kernel
theorem dX11_sheet_53 : decode cX11_sheet 53 = .ok (.istore 4, 2) := by decide +kernel
theorem dX11_sheet_55 : decode cX11_sheet 55 = .ok (.iload 4, 2) := by decide +kernel
theorem dX11_sheet_57 : decode cX11_sheet 57 = .ok (.iload_n 3, 1) := by decide +kernel
theorem dX11_sheet_58 : decode cX11_sheet 58 = .ok (.if_icmp .ge 22, 3) := by decide +kernel
theorem dX11_sheet_61 : decode cX11_sheet 61 = .ok (.aload_n 0, 1) := by decide +kernel
theorem dX11_sheet_62 : decode cX11_sheet 62 = .ok (.getfield 16, 3) := by decide +kernel
theorem dX11_sheet_65 : decode cX11_sheet 65 = .ok (.bipush 60, 2) := by decide +kernel
theorem dX11_sheet_67 : decode cX11_sheet 67 = .ok (.iload_n 1, 1) := by decide +kernel
theorem dX11_sheet_68 : decode cX11_sheet 68 = .ok (.imul, 1) := by decide +kernel
theorem dX11_sheet_69 : decode cX11_sheet 69 = .ok (.iload 4, 2) := by decide +kernel
theorem dX11_sheet_71 : decode cX11_sheet 71 = .ok (.iadd, 1) := by decide +kernel
theorem dX11_sheet_72 : decode cX11_sheet 72 = .ok (.iconst 0, 1) := by decide +kernel
theorem dX11_sheet_73 : decode cX11_sheet 73 = .ok (.iastore, 1) := by decide +kernel
theorem dX11_sheet_74 : decode cX11_sheet 74 = .ok (.iinc 4 1, 3) := by decide +kernel
theorem dX11_sheet_77 : decode cX11_sheet 77 = .ok (.goto (-22), 3) := by decide +kernel
theorem dX11_sheet_80 : decode cX11_sheet 80 = .ok (.iload_n 3, 1) := by decide +kernel
theorem dX11_sheet_81 : decode cX11_sheet 81 = .ok (.ireturn, 1) := by decide +kernel
theorem dX11_lose_0 : decode cX11_lose 0 = .ok (.iload_n 1, 1) := by decide +kernel
theorem dX11_lose_1 : decode cX11_lose 1 = .ok (.invokestatic 67, 3) := by decide +kernel
theorem dX11_lose_4 : decode cX11_lose 4 = .ok (.ifCond .ne 6, 3) := by decide +kernel
theorem dX11_lose_7 : decode cX11_lose 7 = .ok (.bipush (-2), 2) := by decide +kernel
theorem dX11_lose_9 : decode cX11_lose 9 = .ok (.ireturn, 1) := by decide +kernel
theorem dX11_lose_10 : decode cX11_lose 10 = .ok (.aload_n 0, 1) := by decide +kernel
theorem dX11_lose_11 : decode cX11_lose 11 = .ok (.getfield 7, 3) := by decide +kernel
theorem dX11_lose_14 : decode cX11_lose 14 = .ok (.iload_n 1, 1) := by decide +kernel
theorem dX11_lose_15 : decode cX11_lose 15 = .ok (.iaload, 1) := by decide +kernel
theorem dX11_lose_16 : decode cX11_lose 16 = .ok (.ifCond .ge 9, 3) := by decide +kernel
theorem dX11_lose_19 : decode cX11_lose 19 = .ok (.aload_n 0, 1) := by decide +kernel
theorem dX11_lose_20 : decode cX11_lose 20 = .ok (.iconst 1, 1) := by decide +kernel
theorem dX11_lose_21 : decode cX11_lose 21 = .ok (.invokevirtual 73, 3) := by decide +kernel
theorem dX11_lose_24 : decode cX11_lose 24 = .ok (.ireturn, 1) := by decide +kernel
theorem dX11_lose_25 : decode cX11_lose 25 = .ok (.aload_n 0, 1) := by decide +kernel
theorem dX11_lose_26 : decode cX11_lose 26 = .ok (.getfield 7, 3) := by decide +kernel
theorem dX11_lose_29 : decode cX11_lose 29 = .ok (.iload_n 1, 1) := by decide +kernel
theorem dX11_lose_30 : decode cX11_lose 30 = .ok (.iconst (-1), 1) := by decide +kernel
theorem dX11_lose_31 : decode cX11_lose 31 = .ok (.iastore, 1) := by decide +kernel
theorem dX11_lose_32 : decode cX11_lose 32 = .ok (.aload_n 0, 1) := by decide +kernel
theorem dX11_lose_33 : decode cX11_lose 33 = .ok (.getfield 13, 3) := by decide +kernel
theorem dX11_lose_36 : decode cX11_lose 36 = .ok (.iload_n 1, 1) := by decide +kernel
theorem dX11_lose_37 : decode cX11_lose 37 = .ok (.iaload, 1) := by decide +kernel
theorem dX11_lose_38 : decode cX11_lose 38 = .ok (.ireturn, 1) := by decide +kernel
theorem dX11_lacks_0 : decode cX11_lacks 0 = .ok (.aload_n 0, 1) := by decide +kernel
theorem dX11_lacks_1 : decode cX11_lacks 1 = .ok (.getfield 7, 3) := by decide +kernel
theorem dX11_lacks_4 : decode cX11_lacks 4 = .ok (.iload_n 1, 1) := by decide +kernel
theorem dX11_lacks_5 : decode cX11_lacks 5 = .ok (.iaload, 1) := by decide +kernel
theorem dX11_lacks_6 : decode cX11_lacks 6 = .ok (.ifCond .ge 9, 3) := by decide +kernel
theorem dX11_lacks_9 : decode cX11_lacks 9 = .ok (.aload_n 0, 1) := by decide +kernel
theorem dX11_lacks_10 : decode cX11_lacks 10 = .ok (.iconst 1, 1) := by decide +kernel
theorem dX11_lacks_11 : decode cX11_lacks 11 = .ok (.invokevirtual 73, 3) := by decide +kernel
theorem dX11_lacks_14 : decode cX11_lacks 14 = .ok (.ireturn, 1) := by decide +kernel
theorem dX11_lacks_15 : decode cX11_lacks 15 = .ok (.aload_n 0, 1) := by decide +kernel
theorem dX11_lacks_16 : decode cX11_lacks 16 = .ok (.getfield 7, 3) := by decide +kernel
theorem dX11_lacks_19 : decode cX11_lacks 19 = .ok (.iload_n 1, 1) := by decide +kernel
theorem dX11_lacks_20 : decode cX11_lacks 20 = .ok (.iaload, 1) := by decide +kernel
theorem dX11_lacks_21 : decode cX11_lacks 21 = .ok (.iload_n 2, 1) := by decide +kernel
theorem dX11_lacks_22 : decode cX11_lacks 22 = .ok (.if_icmp .eq 9, 3) := by decide +kernel
theorem dX11_lacks_25 : decode cX11_lacks 25 = .ok (.aload_n 0, 1) := by decide +kernel
theorem dX11_lacks_26 : decode cX11_lacks 26 = .ok (.iconst 3, 1) := by decide +kernel
theorem dX11_lacks_27 : decode cX11_lacks 27 = .ok (.invokevirtual 73, 3) := by decide +kernel
theorem dX11_lacks_30 : decode cX11_lacks 30 = .ok (.ireturn, 1) := by decide +kernel
theorem dX11_lacks_31 : decode cX11_lacks 31 = .ok (.iload_n 3, 1) := by decide +kernel
theorem dX11_lacks_32 : decode cX11_lacks 32 = .ok (.i2l, 1) := by decide +kernel
theorem dX11_lacks_33 : decode cX11_lacks 33 = .ok (.lconst 0, 1) := by decide +kernel
theorem dX11_lacks_34 : decode cX11_lacks 34 = .ok (.aload_n 0, 1) := by decide +kernel
theorem dX11_lacks_35 : decode cX11_lacks 35 = .ok (.getfield 13, 3) := by decide +kernel
theorem dX11_lacks_38 : decode cX11_lacks 38 = .ok (.iload_n 1, 1) := by decide +kernel
theorem dX11_lacks_39 : decode cX11_lacks 39 = .ok (.iaload, 1) := by decide +kernel
theorem dX11_lacks_40 : decode cX11_lacks 40 = .ok (.iconst 1, 1) := by decide +kernel
theorem dX11_lacks_41 : decode cX11_lacks 41 = .ok (.isub, 1) := by decide +kernel
theorem dX11_lacks_42 : decode cX11_lacks 42 = .ok (.i2l, 1) := by decide +kernel
theorem dX11_lacks_43 : decode cX11_lacks 43 = .ok (.invokestatic 58, 3) := by decide +kernel
theorem dX11_lacks_46 : decode cX11_lacks 46 = .ok (.ifCond .eq 7, 3) := by decide +kernel
theorem dX11_lacks_49 : decode cX11_lacks 49 = .ok (.iconst 0, 1) := by decide +kernel
theorem dX11_lacks_50 : decode cX11_lacks 50 = .ok (.goto 8, 3) := by decide +kernel
theorem dX11_lacks_53 : decode cX11_lacks 53 = .ok (.aload_n 0, 1) := by decide +kernel
theorem dX11_lacks_54 : decode cX11_lacks 54 = .ok (.iconst 2, 1) := by decide +kernel
theorem dX11_lacks_55 : decode cX11_lacks 55 = .ok (.invokevirtual 73, 3) := by decide +kernel
theorem dX11_lacks_58 : decode cX11_lacks 58 = .ok (.ireturn, 1) := by decide +kernel
theorem dX11_cut_0 : decode cX11_cut 0 = .ok (.iload_n 0, 1) := by decide +kernel
theorem dX11_cut_1 : decode cX11_cut 1 = .ok (.ifCond .ne 8, 3) := by decide +kernel
theorem dX11_cut_4 : decode cX11_cut 4 = .ok (.iload_n 1, 1) := by decide +kernel
theorem dX11_cut_5 : decode cX11_cut 5 = .ok (.i2b, 1) := by decide +kernel
theorem dX11_cut_6 : decode cX11_cut 6 = .ok (.goto 14, 3) := by decide +kernel
theorem dX11_cut_9 : decode cX11_cut 9 = .ok (.iload_n 0, 1) := by decide +kernel
theorem dX11_cut_10 : decode cX11_cut 10 = .ok (.iconst 1, 1) := by decide +kernel
theorem dX11_cut_11 : decode cX11_cut 11 = .ok (.if_icmp .ne 8, 3) := by decide +kernel
theorem dX11_cut_14 : decode cX11_cut 14 = .ok (.iload_n 1, 1) := by decide +kernel
theorem dX11_cut_15 : decode cX11_cut 15 = .ok (.i2s, 1) := by decide +kernel
theorem dX11_cut_16 : decode cX11_cut 16 = .ok (.goto 4, 3) := by decide +kernel
theorem dX11_cut_19 : decode cX11_cut 19 = .ok (.iload_n 1, 1) := by decide +kernel
theorem dX11_cut_20 : decode cX11_cut 20 = .ok (.ireturn, 1) := by decide +kernel
theorem dX11_lay_0 : decode cX11_lay 0 = .ok (.iload_n 1, 1) := by decide +kernel
theorem dX11_lay_1 : decode cX11_lay 1 = .ok (.invokestatic 67, 3) := by decide +kernel
theorem dX11_lay_4 : decode cX11_lay 4 = .ok (.ifCond .eq 15, 3) := by decide +kernel
theorem dX11_lay_7 : decode cX11_lay 7 = .ok (.iload_n 2, 1) := by decide +kernel
theorem dX11_lay_8 : decode cX11_lay 8 = .ok (.i2l, 1) := by decide +kernel
theorem dX11_lay_9 : decode cX11_lay 9 = .ok (.lconst 0, 1) := by decide +kernel
theorem dX11_lay_10 : decode cX11_lay 10 = .ok (.ldc2_w 71, 3) := by decide +kernel
theorem dX11_lay_13 : decode cX11_lay 13 = .ok (.invokestatic 58, 3) := by decide +kernel
theorem dX11_lay_16 : decode cX11_lay 16 = .ok (.ifCond .ne 6, 3) := by decide +kernel
theorem dX11_lay_19 : decode cX11_lay 19 = .ok (.bipush (-2), 2) := by decide +kernel
theorem dX11_lay_21 : decode cX11_lay 21 = .ok (.ireturn, 1) := by decide +kernel
theorem dX11_lay_22 : decode cX11_lay 22 = .ok (.aload_n 0, 1) := by decide +kernel
theorem dX11_lay_23 : decode cX11_lay 23 = .ok (.iload_n 1, 1) := by decide +kernel
theorem dX11_lay_24 : decode cX11_lay 24 = .ok (.iload_n 2, 1) := by decide +kernel
theorem dX11_lay_25 : decode cX11_lay 25 = .ok (.iload_n 3, 1) := by decide +kernel
theorem dX11_lay_26 : decode cX11_lay 26 = .ok (.invokevirtual 77, 3) := by decide +kernel
theorem dX11_lay_29 : decode cX11_lay 29 = .ok (.istore 5, 2) := by decide +kernel
theorem dX11_lay_31 : decode cX11_lay 31 = .ok (.iload 5, 2) := by decide +kernel
theorem dX11_lay_33 : decode cX11_lay 33 = .ok (.ifCond .eq 6, 3) := by decide +kernel
theorem dX11_lay_36 : decode cX11_lay 36 = .ok (.iload 5, 2) := by decide +kernel
theorem dX11_lay_38 : decode cX11_lay 38 = .ok (.ireturn, 1) := by decide +kernel
theorem dX11_lay_39 : decode cX11_lay 39 = .ok (.aload_n 0, 1) := by decide +kernel
theorem dX11_lay_40 : decode cX11_lay 40 = .ok (.getfield 16, 3) := by decide +kernel
theorem dX11_lay_43 : decode cX11_lay 43 = .ok (.bipush 60, 2) := by decide +kernel
theorem dX11_lay_45 : decode cX11_lay 45 = .ok (.iload_n 1, 1) := by decide +kernel
theorem dX11_lay_46 : decode cX11_lay 46 = .ok (.imul, 1) := by decide +kernel
theorem dX11_lay_47 : decode cX11_lay 47 = .ok (.iload_n 3, 1) := by decide +kernel
theorem dX11_lay_48 : decode cX11_lay 48 = .ok (.iadd, 1) := by decide +kernel
theorem dX11_lay_49 : decode cX11_lay 49 = .ok (.iload_n 2, 1) := by decide +kernel
theorem dX11_lay_50 : decode cX11_lay 50 = .ok (.iload 4, 2) := by decide +kernel
theorem dX11_lay_52 : decode cX11_lay 52 = .ok (.invokestatic 81, 3) := by decide +kernel
theorem dX11_lay_55 : decode cX11_lay 55 = .ok (.iastore, 1) := by decide +kernel
theorem dX11_lay_56 : decode cX11_lay 56 = .ok (.iconst 1, 1) := by decide +kernel
theorem dX11_lay_57 : decode cX11_lay 57 = .ok (.ireturn, 1) := by decide +kernel
theorem dX11_get_0 : decode cX11_get 0 = .ok (.iload_n 1, 1) := by decide +kernel
theorem dX11_get_1 : decode cX11_get 1 = .ok (.invokestatic 67, 3) := by decide +kernel
theorem dX11_get_4 : decode cX11_get 4 = .ok (.ifCond .eq 25, 3) := by decide +kernel
theorem dX11_get_7 : decode cX11_get 7 = .ok (.iload_n 2, 1) := by decide +kernel
theorem dX11_get_8 : decode cX11_get 8 = .ok (.i2l, 1) := by decide +kernel
theorem dX11_get_9 : decode cX11_get 9 = .ok (.lconst 0, 1) := by decide +kernel
theorem dX11_get_10 : decode cX11_get 10 = .ok (.ldc2_w 71, 3) := by decide +kernel
theorem dX11_get_13 : decode cX11_get 13 = .ok (.invokestatic 58, 3) := by decide +kernel
theorem dX11_get_16 : decode cX11_get 16 = .ok (.ifCond .eq 13, 3) := by decide +kernel
theorem dX11_get_19 : decode cX11_get 19 = .ok (.aload_n 0, 1) := by decide +kernel
theorem dX11_get_20 : decode cX11_get 20 = .ok (.iload_n 1, 1) := by decide +kernel
theorem dX11_get_21 : decode cX11_get 21 = .ok (.iload_n 2, 1) := by decide +kernel
theorem dX11_get_22 : decode cX11_get 22 = .ok (.iload_n 3, 1) := by decide +kernel
theorem dX11_get_23 : decode cX11_get 23 = .ok (.invokevirtual 77, 3) := by decide +kernel
theorem dX11_get_26 : decode cX11_get 26 = .ok (.ifCond .eq 6, 3) := by decide +kernel
theorem dX11_get_29 : decode cX11_get 29 = .ok (.ldc 85, 2) := by decide +kernel
theorem dX11_get_31 : decode cX11_get 31 = .ok (.ireturn, 1) := by decide +kernel
theorem dX11_get_32 : decode cX11_get 32 = .ok (.aload_n 0, 1) := by decide +kernel
theorem dX11_get_33 : decode cX11_get 33 = .ok (.getfield 16, 3) := by decide +kernel
theorem dX11_get_36 : decode cX11_get 36 = .ok (.bipush 60, 2) := by decide +kernel
theorem dX11_get_38 : decode cX11_get 38 = .ok (.iload_n 1, 1) := by decide +kernel
theorem dX11_get_39 : decode cX11_get 39 = .ok (.imul, 1) := by decide +kernel
theorem dX11_get_40 : decode cX11_get 40 = .ok (.iload_n 3, 1) := by decide +kernel
theorem dX11_get_41 : decode cX11_get 41 = .ok (.iadd, 1) := by decide +kernel
theorem dX11_get_42 : decode cX11_get 42 = .ok (.iaload, 1) := by decide +kernel
theorem dX11_get_43 : decode cX11_get 43 = .ok (.ireturn, 1) := by decide +kernel
theorem dX11_copy_0 : decode cX11_copy 0 = .ok (.iload_n 1, 1) := by decide +kernel
theorem dX11_copy_1 : decode cX11_copy 1 = .ok (.invokestatic 67, 3) := by decide +kernel
theorem dX11_copy_4 : decode cX11_copy 4 = .ok (.ifCond .eq 10, 3) := by decide +kernel
theorem dX11_copy_7 : decode cX11_copy 7 = .ok (.iload_n 3, 1) := by decide +kernel
theorem dX11_copy_8 : decode cX11_copy 8 = .ok (.invokestatic 67, 3) := by decide +kernel
theorem dX11_copy_11 : decode cX11_copy 11 = .ok (.ifCond .ne 6, 3) := by decide +kernel
theorem dX11_copy_14 : decode cX11_copy 14 = .ok (.bipush (-2), 2) := by decide +kernel
theorem dX11_copy_16 : decode cX11_copy 16 = .ok (.ireturn, 1) := by decide +kernel
theorem dX11_copy_17 : decode cX11_copy 17 = .ok (.aload_n 0, 1) := by decide +kernel
theorem dX11_copy_18 : decode cX11_copy 18 = .ok (.getfield 7, 3) := by decide +kernel
theorem dX11_copy_21 : decode cX11_copy 21 = .ok (.iload_n 1, 1) := by decide +kernel
theorem dX11_copy_22 : decode cX11_copy 22 = .ok (.iaload, 1) := by decide +kernel
theorem dX11_copy_23 : decode cX11_copy 23 = .ok (.ifCond .lt 12, 3) := by decide +kernel
theorem dX11_copy_26 : decode cX11_copy 26 = .ok (.aload_n 0, 1) := by decide +kernel
theorem dX11_copy_27 : decode cX11_copy 27 = .ok (.getfield 7, 3) := by decide +kernel
theorem dX11_copy_30 : decode cX11_copy 30 = .ok (.iload_n 3, 1) := by decide +kernel
theorem dX11_copy_31 : decode cX11_copy 31 = .ok (.iaload, 1) := by decide +kernel
theorem dX11_copy_32 : decode cX11_copy 32 = .ok (.ifCond .ge 9, 3) := by decide +kernel
theorem dX11_copy_35 : decode cX11_copy 35 = .ok (.aload_n 0, 1) := by decide +kernel
theorem dX11_copy_36 : decode cX11_copy 36 = .ok (.iconst 1, 1) := by decide +kernel
theorem dX11_copy_37 : decode cX11_copy 37 = .ok (.invokevirtual 73, 3) := by decide +kernel
theorem dX11_copy_40 : decode cX11_copy 40 = .ok (.ireturn, 1) := by decide +kernel
theorem dX11_copy_41 : decode cX11_copy 41 = .ok (.aload_n 0, 1) := by decide +kernel
theorem dX11_copy_42 : decode cX11_copy 42 = .ok (.getfield 7, 3) := by decide +kernel
theorem dX11_copy_45 : decode cX11_copy 45 = .ok (.iload_n 1, 1) := by decide +kernel
theorem dX11_copy_46 : decode cX11_copy 46 = .ok (.iaload, 1) := by decide +kernel
theorem dX11_copy_47 : decode cX11_copy 47 = .ok (.aload_n 0, 1) := by decide +kernel
theorem dX11_copy_48 : decode cX11_copy 48 = .ok (.getfield 7, 3) := by decide +kernel
theorem dX11_copy_51 : decode cX11_copy 51 = .ok (.iload_n 3, 1) := by decide +kernel
theorem dX11_copy_52 : decode cX11_copy 52 = .ok (.iaload, 1) := by decide +kernel
theorem dX11_copy_53 : decode cX11_copy 53 = .ok (.if_icmp .eq 9, 3) := by decide +kernel
theorem dX11_copy_56 : decode cX11_copy 56 = .ok (.aload_n 0, 1) := by decide +kernel
theorem dX11_copy_57 : decode cX11_copy 57 = .ok (.iconst 4, 1) := by decide +kernel
theorem dX11_copy_58 : decode cX11_copy 58 = .ok (.invokevirtual 73, 3) := by decide +kernel
theorem dX11_copy_61 : decode cX11_copy 61 = .ok (.ireturn, 1) := by decide +kernel
theorem dX11_copy_62 : decode cX11_copy 62 = .ok (.iload_n 2, 1) := by decide +kernel
theorem dX11_copy_63 : decode cX11_copy 63 = .ok (.ifCond .lt 48, 3) := by decide +kernel
theorem dX11_copy_66 : decode cX11_copy 66 = .ok (.iload 4, 2) := by decide +kernel
theorem dX11_copy_68 : decode cX11_copy 68 = .ok (.ifCond .lt 43, 3) := by decide +kernel
theorem dX11_copy_71 : decode cX11_copy 71 = .ok (.iload 5, 2) := by decide +kernel
theorem dX11_copy_73 : decode cX11_copy 73 = .ok (.ifCond .lt 38, 3) := by decide +kernel
theorem dX11_copy_76 : decode cX11_copy 76 = .ok (.iload_n 2, 1) := by decide +kernel
theorem dX11_copy_77 : decode cX11_copy 77 = .ok (.i2l, 1) := by decide +kernel
theorem dX11_copy_78 : decode cX11_copy 78 = .ok (.iload 5, 2) := by decide +kernel
theorem dX11_copy_80 : decode cX11_copy 80 = .ok (.i2l, 1) := by decide +kernel
theorem dX11_copy_81 : decode cX11_copy 81 = .ok (.ladd, 1) := by decide +kernel
theorem dX11_copy_82 : decode cX11_copy 82 = .ok (.aload_n 0, 1) := by decide +kernel
theorem dX11_copy_83 : decode cX11_copy 83 = .ok (.getfield 13, 3) := by decide +kernel
theorem dX11_copy_86 : decode cX11_copy 86 = .ok (.iload_n 1, 1) := by decide +kernel
theorem dX11_copy_87 : decode cX11_copy 87 = .ok (.iaload, 1) := by decide +kernel
theorem dX11_copy_88 : decode cX11_copy 88 = .ok (.i2l, 1) := by decide +kernel
theorem dX11_copy_89 : decode cX11_copy 89 = .ok (.lcmp, 1) := by decide +kernel
theorem dX11_copy_90 : decode cX11_copy 90 = .ok (.ifCond .gt 21, 3) := by decide +kernel
theorem dX11_copy_93 : decode cX11_copy 93 = .ok (.iload 4, 2) := by decide +kernel
theorem dX11_copy_95 : decode cX11_copy 95 = .ok (.i2l, 1) := by decide +kernel
theorem dX11_copy_96 : decode cX11_copy 96 = .ok (.iload 5, 2) := by decide +kernel
theorem dX11_copy_98 : decode cX11_copy 98 = .ok (.i2l, 1) := by decide +kernel
theorem dX11_copy_99 : decode cX11_copy 99 = .ok (.ladd, 1) := by decide +kernel
theorem dX11_copy_100 : decode cX11_copy 100 = .ok (.aload_n 0, 1) := by decide +kernel
theorem dX11_copy_101 : decode cX11_copy 101 = .ok (.getfield 13, 3) := by decide +kernel
theorem dX11_copy_104 : decode cX11_copy 104 = .ok (.iload_n 3, 1) := by decide +kernel
theorem dX11_copy_105 : decode cX11_copy 105 = .ok (.iaload, 1) := by decide +kernel
theorem dX11_copy_106 : decode cX11_copy 106 = .ok (.i2l, 1) := by decide +kernel
theorem dX11_copy_107 : decode cX11_copy 107 = .ok (.lcmp, 1) := by decide +kernel
theorem dX11_copy_108 : decode cX11_copy 108 = .ok (.ifCond .le 9, 3) := by decide +kernel
theorem dX11_copy_111 : decode cX11_copy 111 = .ok (.aload_n 0, 1) := by decide +kernel
theorem dX11_copy_112 : decode cX11_copy 112 = .ok (.iconst 2, 1) := by decide +kernel
theorem dX11_copy_113 : decode cX11_copy 113 = .ok (.invokevirtual 73, 3) := by decide +kernel
theorem dX11_copy_116 : decode cX11_copy 116 = .ok (.ireturn, 1) := by decide +kernel
theorem dX11_copy_117 : decode cX11_copy 117 = .ok (.iconst 0, 1) := by decide +kernel
theorem dX11_copy_118 : decode cX11_copy 118 = .ok (.istore 6, 2) := by decide +kernel
theorem dX11_copy_120 : decode cX11_copy 120 = .ok (.iload 6, 2) := by decide +kernel
theorem dX11_copy_122 : decode cX11_copy 122 = .ok (.iload 5, 2) := by decide +kernel
theorem dX11_copy_124 : decode cX11_copy 124 = .ok (.if_icmp .ge 30, 3) := by decide +kernel
theorem dX11_copy_127 : decode cX11_copy 127 = .ok (.aload_n 0, 1) := by decide +kernel
theorem dX11_copy_128 : decode cX11_copy 128 = .ok (.getfield 19, 3) := by decide +kernel
theorem dX11_copy_131 : decode cX11_copy 131 = .ok (.iload 6, 2) := by decide +kernel
theorem dX11_copy_133 : decode cX11_copy 133 = .ok (.aload_n 0, 1) := by decide +kernel
theorem dX11_copy_134 : decode cX11_copy 134 = .ok (.getfield 16, 3) := by decide +kernel
theorem dX11_copy_137 : decode cX11_copy 137 = .ok (.bipush 60, 2) := by decide +kernel
theorem dX11_copy_139 : decode cX11_copy 139 = .ok (.iload_n 1, 1) := by decide +kernel
theorem dX11_copy_140 : decode cX11_copy 140 = .ok (.imul, 1) := by decide +kernel
theorem dX11_copy_141 : decode cX11_copy 141 = .ok (.iload_n 2, 1) := by decide +kernel
theorem dX11_copy_142 : decode cX11_copy 142 = .ok (.iadd, 1) := by decide +kernel
theorem dX11_copy_143 : decode cX11_copy 143 = .ok (.iload 6, 2) := by decide +kernel
theorem dX11_copy_145 : decode cX11_copy 145 = .ok (.iadd, 1) := by decide +kernel
theorem dX11_copy_146 : decode cX11_copy 146 = .ok (.iaload, 1) := by decide +kernel
theorem dX11_copy_147 : decode cX11_copy 147 = .ok (.iastore, 1) := by decide +kernel
theorem dX11_copy_148 : decode cX11_copy 148 = .ok (.iinc 6 1, 3) := by decide +kernel
theorem dX11_copy_151 : decode cX11_copy 151 = .ok (.goto (-31), 3) := by decide +kernel
theorem dX11_copy_154 : decode cX11_copy 154 = .ok (.iconst 0, 1) := by decide +kernel
theorem dX11_copy_155 : decode cX11_copy 155 = .ok (.istore 6, 2) := by decide +kernel
theorem dX11_copy_157 : decode cX11_copy 157 = .ok (.iload 6, 2) := by decide +kernel
theorem dX11_copy_159 : decode cX11_copy 159 = .ok (.iload 5, 2) := by decide +kernel
theorem dX11_copy_161 : decode cX11_copy 161 = .ok (.if_icmp .ge 31, 3) := by decide +kernel
theorem dX11_copy_164 : decode cX11_copy 164 = .ok (.aload_n 0, 1) := by decide +kernel
theorem dX11_copy_165 : decode cX11_copy 165 = .ok (.getfield 16, 3) := by decide +kernel
theorem dX11_copy_168 : decode cX11_copy 168 = .ok (.bipush 60, 2) := by decide +kernel
theorem dX11_copy_170 : decode cX11_copy 170 = .ok (.iload_n 3, 1) := by decide +kernel
theorem dX11_copy_171 : decode cX11_copy 171 = .ok (.imul, 1) := by decide +kernel
theorem dX11_copy_172 : decode cX11_copy 172 = .ok (.iload 4, 2) := by decide +kernel
theorem dX11_copy_174 : decode cX11_copy 174 = .ok (.iadd, 1) := by decide +kernel
theorem dX11_copy_175 : decode cX11_copy 175 = .ok (.iload 6, 2) := by decide +kernel
theorem dX11_copy_177 : decode cX11_copy 177 = .ok (.iadd, 1) := by decide +kernel
theorem dX11_copy_178 : decode cX11_copy 178 = .ok (.aload_n 0, 1) := by decide +kernel
theorem dX11_copy_179 : decode cX11_copy 179 = .ok (.getfield 19, 3) := by decide +kernel
theorem dX11_copy_182 : decode cX11_copy 182 = .ok (.iload 6, 2) := by decide +kernel
theorem dX11_copy_184 : decode cX11_copy 184 = .ok (.iaload, 1) := by decide +kernel
theorem dX11_copy_185 : decode cX11_copy 185 = .ok (.iastore, 1) := by decide +kernel
theorem dX11_copy_186 : decode cX11_copy 186 = .ok (.iinc 6 1, 3) := by decide +kernel
theorem dX11_copy_189 : decode cX11_copy 189 = .ok (.goto (-32), 3) := by decide +kernel
theorem dX11_copy_192 : decode cX11_copy 192 = .ok (.iconst 1, 1) := by decide +kernel
theorem dX11_copy_193 : decode cX11_copy 193 = .ok (.ireturn, 1) := by decide +kernel
theorem dX11_type_0 : decode cX11_type 0 = .ok (.iload_n 1, 1) := by decide +kernel
theorem dX11_type_1 : decode cX11_type 1 = .ok (.invokestatic 86, 3) := by decide +kernel
theorem dX11_type_4 : decode cX11_type 4 = .ok (.ifCond .eq 15, 3) := by decide +kernel
theorem dX11_type_7 : decode cX11_type 7 = .ok (.iload_n 2, 1) := by decide +kernel
theorem dX11_type_8 : decode cX11_type 8 = .ok (.i2l, 1) := by decide +kernel
theorem dX11_type_9 : decode cX11_type 9 = .ok (.lconst 0, 1) := by decide +kernel
theorem dX11_type_10 : decode cX11_type 10 = .ok (.ldc2_w 89, 3) := by decide +kernel
theorem dX11_type_13 : decode cX11_type 13 = .ok (.invokestatic 58, 3) := by decide +kernel
theorem dX11_type_16 : decode cX11_type 16 = .ok (.ifCond .ne 6, 3) := by decide +kernel
theorem dX11_type_19 : decode cX11_type 19 = .ok (.bipush (-2), 2) := by decide +kernel
theorem dX11_type_21 : decode cX11_type 21 = .ok (.ireturn, 1) := by decide +kernel
theorem dX11_type_22 : decode cX11_type 22 = .ok (.aload_n 0, 1) := by decide +kernel
theorem dX11_type_23 : decode cX11_type 23 = .ok (.getfield 25, 3) := by decide +kernel
theorem dX11_type_26 : decode cX11_type 26 = .ok (.iload_n 1, 1) := by decide +kernel
theorem dX11_type_27 : decode cX11_type 27 = .ok (.iaload, 1) := by decide +kernel
theorem dX11_type_28 : decode cX11_type 28 = .ok (.iload_n 1, 1) := by decide +kernel
theorem dX11_type_29 : decode cX11_type 29 = .ok (.ifCond .ne 8, 3) := by decide +kernel
theorem dX11_type_32 : decode cX11_type 32 = .ok (.bipush 63, 2) := by decide +kernel
theorem dX11_type_34 : decode cX11_type 34 = .ok (.goto 5, 3) := by decide +kernel
theorem dX11_type_37 : decode cX11_type 37 = .ok (.bipush 59, 2) := by decide +kernel
theorem dX11_type_39 : decode cX11_type 39 = .ok (.if_icmp .ne 6, 3) := by decide +kernel
theorem dX11_type_42 : decode cX11_type 42 = .ok (.bipush (-4), 2) := by decide +kernel
theorem dX11_type_44 : decode cX11_type 44 = .ok (.ireturn, 1) := by decide +kernel
theorem dX11_type_45 : decode cX11_type 45 = .ok (.aload_n 0, 1) := by decide +kernel
theorem dX11_type_46 : decode cX11_type 46 = .ok (.getfield 22, 3) := by decide +kernel
theorem dX11_type_49 : decode cX11_type 49 = .ok (.bipush 64, 2) := by decide +kernel
theorem dX11_type_51 : decode cX11_type 51 = .ok (.iload_n 1, 1) := by decide +kernel
theorem dX11_type_52 : decode cX11_type 52 = .ok (.imul, 1) := by decide +kernel
theorem dX11_type_53 : decode cX11_type 53 = .ok (.aload_n 0, 1) := by decide +kernel
theorem dX11_type_54 : decode cX11_type 54 = .ok (.getfield 25, 3) := by decide +kernel
theorem dX11_type_57 : decode cX11_type 57 = .ok (.iload_n 1, 1) := by decide +kernel
theorem dX11_type_58 : decode cX11_type 58 = .ok (.iaload, 1) := by decide +kernel
theorem dX11_type_59 : decode cX11_type 59 = .ok (.iadd, 1) := by decide +kernel
theorem dX11_type_60 : decode cX11_type 60 = .ok (.iload_n 2, 1) := by decide +kernel
theorem dX11_type_61 : decode cX11_type 61 = .ok (.iastore, 1) := by decide +kernel
theorem dX11_type_62 : decode cX11_type 62 = .ok (.aload_n 0, 1) := by decide +kernel
theorem dX11_type_63 : decode cX11_type 63 = .ok (.getfield 25, 3) := by decide +kernel
theorem dX11_type_66 : decode cX11_type 66 = .ok (.iload_n 1, 1) := by decide +kernel
theorem dX11_type_67 : decode cX11_type 67 = .ok (.dup2, 1) := by decide +kernel
theorem dX11_type_68 : decode cX11_type 68 = .ok (.iaload, 1) := by decide +kernel
theorem dX11_type_69 : decode cX11_type 69 = .ok (.iconst 1, 1) := by decide +kernel
theorem dX11_type_70 : decode cX11_type 70 = .ok (.iadd, 1) := by decide +kernel
theorem dX11_type_71 : decode cX11_type 71 = .ok (.iastore, 1) := by decide +kernel
theorem dX11_type_72 : decode cX11_type 72 = .ok (.aload_n 0, 1) := by decide +kernel
theorem dX11_type_73 : decode cX11_type 73 = .ok (.getfield 25, 3) := by decide +kernel
theorem dX11_type_76 : decode cX11_type 76 = .ok (.iload_n 1, 1) := by decide +kernel
theorem dX11_type_77 : decode cX11_type 77 = .ok (.iaload, 1) := by decide +kernel
theorem dX11_type_78 : decode cX11_type 78 = .ok (.ireturn, 1) := by decide +kernel
theorem dX11_wipe_0 : decode cX11_wipe 0 = .ok (.iload_n 1, 1) := by decide +kernel
theorem dX11_wipe_1 : decode cX11_wipe 1 = .ok (.invokestatic 86, 3) := by decide +kernel
theorem dX11_wipe_4 : decode cX11_wipe 4 = .ok (.ifCond .ne 6, 3) := by decide +kernel
theorem dX11_wipe_7 : decode cX11_wipe 7 = .ok (.bipush (-2), 2) := by decide +kernel
theorem dX11_wipe_9 : decode cX11_wipe 9 = .ok (.ireturn, 1) := by decide +kernel
theorem dX11_wipe_10 : decode cX11_wipe 10 = .ok (.aload_n 0, 1) := by decide +kernel
theorem dX11_wipe_11 : decode cX11_wipe 11 = .ok (.getfield 25, 3) := by decide +kernel
theorem dX11_wipe_14 : decode cX11_wipe 14 = .ok (.iload_n 1, 1) := by decide +kernel
theorem dX11_wipe_15 : decode cX11_wipe 15 = .ok (.iaload, 1) := by decide +kernel
theorem dX11_wipe_16 : decode cX11_wipe 16 = .ok (.istore_n 2, 1) := by decide +kernel
theorem dX11_wipe_17 : decode cX11_wipe 17 = .ok (.aload_n 0, 1) := by decide +kernel
theorem dX11_wipe_18 : decode cX11_wipe 18 = .ok (.getfield 25, 3) := by decide +kernel
theorem dX11_wipe_21 : decode cX11_wipe 21 = .ok (.iload_n 1, 1) := by decide +kernel
theorem dX11_wipe_22 : decode cX11_wipe 22 = .ok (.iconst 0, 1) := by decide +kernel
theorem dX11_wipe_23 : decode cX11_wipe 23 = .ok (.iastore, 1) := by decide +kernel
theorem dX11_wipe_24 : decode cX11_wipe 24 = .ok (.iload_n 2, 1) := by decide +kernel
theorem dX11_wipe_25 : decode cX11_wipe 25 = .ok (.ireturn, 1) := by decide +kernel
theorem dX11_undo_0 : decode cX11_undo 0 = .ok (.iload_n 1, 1) := by decide +kernel
theorem dX11_undo_1 : decode cX11_undo 1 = .ok (.invokestatic 86, 3) := by decide +kernel
theorem dX11_undo_4 : decode cX11_undo 4 = .ok (.ifCond .ne 6, 3) := by decide +kernel
theorem dX11_undo_7 : decode cX11_undo 7 = .ok (.bipush (-2), 2) := by decide +kernel
theorem dX11_undo_9 : decode cX11_undo 9 = .ok (.ireturn, 1) := by decide +kernel
theorem dX11_undo_10 : decode cX11_undo 10 = .ok (.aload_n 0, 1) := by decide +kernel
theorem dX11_undo_11 : decode cX11_undo 11 = .ok (.getfield 25, 3) := by decide +kernel
theorem dX11_undo_14 : decode cX11_undo 14 = .ok (.iload_n 1, 1) := by decide +kernel
theorem dX11_undo_15 : decode cX11_undo 15 = .ok (.iaload, 1) := by decide +kernel
theorem dX11_undo_16 : decode cX11_undo 16 = .ok (.ifCond .ne 6, 3) := by decide +kernel
theorem dX11_undo_19 : decode cX11_undo 19 = .ok (.bipush (-3), 2) := by decide +kernel
theorem dX11_undo_21 : decode cX11_undo 21 = .ok (.ireturn, 1) := by decide +kernel
theorem dX11_undo_22 : decode cX11_undo 22 = .ok (.aload_n 0, 1) := by decide +kernel
theorem dX11_undo_23 : decode cX11_undo 23 = .ok (.getfield 25, 3) := by decide +kernel
theorem dX11_undo_26 : decode cX11_undo 26 = .ok (.iload_n 1, 1) := by decide +kernel
theorem dX11_undo_27 : decode cX11_undo 27 = .ok (.dup2, 1) := by decide +kernel
theorem dX11_undo_28 : decode cX11_undo 28 = .ok (.iaload, 1) := by decide +kernel
theorem dX11_undo_29 : decode cX11_undo 29 = .ok (.iconst 1, 1) := by decide +kernel
theorem dX11_undo_30 : decode cX11_undo 30 = .ok (.isub, 1) := by decide +kernel
theorem dX11_undo_31 : decode cX11_undo 31 = .ok (.iastore, 1) := by decide +kernel
theorem dX11_undo_32 : decode cX11_undo 32 = .ok (.aload_n 0, 1) := by decide +kernel
theorem dX11_undo_33 : decode cX11_undo 33 = .ok (.getfield 25, 3) := by decide +kernel
theorem dX11_undo_36 : decode cX11_undo 36 = .ok (.iload_n 1, 1) := by decide +kernel
theorem dX11_undo_37 : decode cX11_undo 37 = .ok (.iaload, 1) := by decide +kernel
theorem dX11_undo_38 : decode cX11_undo 38 = .ok (.ireturn, 1) := by decide +kernel
theorem dX11_stoneOf_0 : decode cX11_stoneOf 0 = .ok (.iload_n 0, 1) := by decide +kernel
theorem dX11_stoneOf_1 : decode cX11_stoneOf 1 = .ok (.bipush 110, 2) := by decide +kernel
theorem dX11_stoneOf_3 : decode cX11_stoneOf 3 = .ok (.if_icmp .ne 7, 3) := by decide +kernel
theorem dX11_stoneOf_6 : decode cX11_stoneOf 6 = .ok (.iconst 0, 1) := by decide +kernel
theorem dX11_stoneOf_7 : decode cX11_stoneOf 7 = .ok (.goto 34, 3) := by decide +kernel
theorem dX11_stoneOf_10 : decode cX11_stoneOf 10 = .ok (.iload_n 0, 1) := by decide +kernel
theorem dX11_stoneOf_11 : decode cX11_stoneOf 11 = .ok (.bipush 115, 2) := by decide +kernel
theorem dX11_stoneOf_13 : decode cX11_stoneOf 13 = .ok (.if_icmp .ne 7, 3) := by decide +kernel
theorem dX11_stoneOf_16 : decode cX11_stoneOf 16 = .ok (.iconst 1, 1) := by decide +kernel
theorem dX11_stoneOf_17 : decode cX11_stoneOf 17 = .ok (.goto 24, 3) := by decide +kernel
theorem dX11_stoneOf_20 : decode cX11_stoneOf 20 = .ok (.iload_n 0, 1) := by decide +kernel
theorem dX11_stoneOf_21 : decode cX11_stoneOf 21 = .ok (.bipush 78, 2) := by decide +kernel
theorem dX11_stoneOf_23 : decode cX11_stoneOf 23 = .ok (.if_icmp .ne 7, 3) := by decide +kernel
theorem dX11_stoneOf_26 : decode cX11_stoneOf 26 = .ok (.iconst 2, 1) := by decide +kernel
theorem dX11_stoneOf_27 : decode cX11_stoneOf 27 = .ok (.goto 14, 3) := by decide +kernel
theorem dX11_stoneOf_30 : decode cX11_stoneOf 30 = .ok (.iload_n 0, 1) := by decide +kernel
theorem dX11_stoneOf_31 : decode cX11_stoneOf 31 = .ok (.bipush 83, 2) := by decide +kernel
theorem dX11_stoneOf_33 : decode cX11_stoneOf 33 = .ok (.if_icmp .ne 7, 3) := by decide +kernel
theorem dX11_stoneOf_36 : decode cX11_stoneOf 36 = .ok (.iconst 3, 1) := by decide +kernel
theorem dX11_stoneOf_37 : decode cX11_stoneOf 37 = .ok (.goto 4, 3) := by decide +kernel
theorem dX11_stoneOf_40 : decode cX11_stoneOf 40 = .ok (.iconst (-1), 1) := by decide +kernel
theorem dX11_stoneOf_41 : decode cX11_stoneOf 41 = .ok (.ireturn, 1) := by decide +kernel
theorem dX11_readsWall_0 : decode cX11_readsWall 0 = .ok (.aload_n 0, 1) := by decide +kernel
theorem dX11_readsWall_1 : decode cX11_readsWall 1 = .ok (.aload_n 0, 1) := by decide +kernel
theorem dX11_readsWall_2 : decode cX11_readsWall 2 = .ok (.getfield 25, 3) := by decide +kernel
theorem dX11_readsWall_5 : decode cX11_readsWall 5 = .ok (.iconst 0, 1) := by decide +kernel
theorem dX11_readsWall_6 : decode cX11_readsWall 6 = .ok (.iaload, 1) := by decide +kernel
theorem dX11_readsWall_7 : decode cX11_readsWall 7 = .ok (.ifCond .ne 7, 3) := by decide +kernel
theorem dX11_readsWall_10 : decode cX11_readsWall 10 = .ok (.iconst 0, 1) := by decide +kernel
theorem dX11_readsWall_11 : decode cX11_readsWall 11 = .ok (.goto 4, 3) := by decide +kernel
theorem dX11_readsWall_14 : decode cX11_readsWall 14 = .ok (.iconst 1, 1) := by decide +kernel
theorem dX11_readsWall_15 : decode cX11_readsWall 15 = .ok (.putfield 91, 3) := by decide +kernel
theorem dX11_readsWall_18 : decode cX11_readsWall 18 = .ok (.aload_n 0, 1) := by decide +kernel
theorem dX11_readsWall_19 : decode cX11_readsWall 19 = .ok (.getfield 31, 3) := by decide +kernel
theorem dX11_readsWall_22 : decode cX11_readsWall 22 = .ok (.iconst 0, 1) := by decide +kernel
theorem dX11_readsWall_23 : decode cX11_readsWall 23 = .ok (.iconst 0, 1) := by decide +kernel
theorem dX11_readsWall_24 : decode cX11_readsWall 24 = .ok (.iastore, 1) := by decide +kernel
theorem dX11_readsWall_25 : decode cX11_readsWall 25 = .ok (.iconst 0, 1) := by decide +kernel
theorem dX11_readsWall_26 : decode cX11_readsWall 26 = .ok (.istore_n 1, 1) := by decide +kernel
theorem dX11_readsWall_27 : decode cX11_readsWall 27 = .ok (.iload_n 1, 1) := by decide +kernel
theorem dX11_readsWall_28 : decode cX11_readsWall 28 = .ok (.aload_n 0, 1) := by decide +kernel
theorem dX11_readsWall_29 : decode cX11_readsWall 29 = .ok (.getfield 25, 3) := by decide +kernel
theorem dX11_readsWall_32 : decode cX11_readsWall 32 = .ok (.iconst 0, 1) := by decide +kernel
theorem dX11_readsWall_33 : decode cX11_readsWall 33 = .ok (.iaload, 1) := by decide +kernel
theorem dX11_readsWall_34 : decode cX11_readsWall 34 = .ok (.if_icmp .ge 136, 3) := by decide +kernel
theorem dX11_readsWall_37 : decode cX11_readsWall 37 = .ok (.aload_n 0, 1) := by decide +kernel
theorem dX11_readsWall_38 : decode cX11_readsWall 38 = .ok (.getfield 22, 3) := by decide +kernel
theorem dX11_readsWall_41 : decode cX11_readsWall 41 = .ok (.iload_n 1, 1) := by decide +kernel
theorem dX11_readsWall_42 : decode cX11_readsWall 42 = .ok (.iaload, 1) := by decide +kernel
theorem dX11_readsWall_43 : decode cX11_readsWall 43 = .ok (.invokestatic 94, 3) := by decide +kernel
theorem dX11_readsWall_46 : decode cX11_readsWall 46 = .ok (.istore_n 2, 1) := by decide +kernel
theorem dX11_readsWall_47 : decode cX11_readsWall 47 = .ok (.aload_n 0, 1) := by decide +kernel
theorem dX11_readsWall_48 : decode cX11_readsWall 48 = .ok (.getfield 91, 3) := by decide +kernel
theorem dX11_readsWall_51 : decode cX11_readsWall 51 = .ok (.iconst 1, 1) := by decide +kernel
theorem dX11_readsWall_52 : decode cX11_readsWall 52 = .ok (.isub, 1) := by decide +kernel
theorem dX11_readsWall_53 : decode cX11_readsWall 53 = .ok (.istore_n 3, 1) := by decide +kernel
theorem dX11_readsWall_54 : decode cX11_readsWall 54 = .ok (.aload_n 0, 1) := by decide +kernel
theorem dX11_readsWall_55 : decode cX11_readsWall 55 = .ok (.getfield 22, 3) := by decide +kernel
theorem dX11_readsWall_58 : decode cX11_readsWall 58 = .ok (.iload_n 1, 1) := by decide +kernel
theorem dX11_readsWall_59 : decode cX11_readsWall 59 = .ok (.iaload, 1) := by decide +kernel
theorem dX11_readsWall_60 : decode cX11_readsWall 60 = .ok (.bipush 59, 2) := by decide +kernel
theorem dX11_readsWall_62 : decode cX11_readsWall 62 = .ok (.if_icmp .ne 16, 3) := by decide +kernel
theorem dX11_readsWall_65 : decode cX11_readsWall 65 = .ok (.aload_n 0, 1) := by decide +kernel
theorem dX11_readsWall_66 : decode cX11_readsWall 66 = .ok (.getfield 91, 3) := by decide +kernel
theorem dX11_readsWall_69 : decode cX11_readsWall 69 = .ok (.bipush 8, 2) := by decide +kernel
theorem dX11_readsWall_71 : decode cX11_readsWall 71 = .ok (.if_icmp .ge 7, 3) := by decide +kernel
theorem dX11_readsWall_74 : decode cX11_readsWall 74 = .ok (.iconst 1, 1) := by decide +kernel
theorem dX11_readsWall_75 : decode cX11_readsWall 75 = .ok (.goto 4, 3) := by decide +kernel
theorem dX11_readsWall_78 : decode cX11_readsWall 78 = .ok (.iconst 0, 1) := by decide +kernel
theorem dX11_readsWall_79 : decode cX11_readsWall 79 = .ok (.istore 4, 2) := by decide +kernel
theorem dX11_readsWall_81 : decode cX11_readsWall 81 = .ok (.iload 4, 2) := by decide +kernel
theorem dX11_readsWall_83 : decode cX11_readsWall 83 = .ok (.ifCond .ne 26, 3) := by decide +kernel
theorem dX11_readsWall_86 : decode cX11_readsWall 86 = .ok (.iload_n 2, 1) := by decide +kernel
theorem dX11_readsWall_87 : decode cX11_readsWall 87 = .ok (.iconst (-1), 1) := by decide +kernel
theorem dX11_readsWall_88 : decode cX11_readsWall 88 = .ok (.if_icmp .eq 14, 3) := by decide +kernel
theorem dX11_readsWall_91 : decode cX11_readsWall 91 = .ok (.aload_n 0, 1) := by decide +kernel
theorem dX11_readsWall_92 : decode cX11_readsWall 92 = .ok (.getfield 31, 3) := by decide +kernel
theorem dX11_readsWall_95 : decode cX11_readsWall 95 = .ok (.iload_n 3, 1) := by decide +kernel
theorem dX11_readsWall_96 : decode cX11_readsWall 96 = .ok (.iaload, 1) := by decide +kernel
theorem dX11_readsWall_97 : decode cX11_readsWall 97 = .ok (.bipush 8, 2) := by decide +kernel
theorem dX11_readsWall_99 : decode cX11_readsWall 99 = .ok (.if_icmp .ne 10, 3) := by decide +kernel
theorem dX11_readsWall_102 : decode cX11_readsWall 102 = .ok (.aload_n 0, 1) := by decide +kernel
theorem dX11_readsWall_103 : decode cX11_readsWall 103 = .ok (.iconst 0, 1) := by decide +kernel
theorem dX11_readsWall_104 : decode cX11_readsWall 104 = .ok (.putfield 91, 3) := by decide +kernel
theorem dX11_readsWall_107 : decode cX11_readsWall 107 = .ok (.iload_n 1, 1) := by decide +kernel
theorem dX11_readsWall_108 : decode cX11_readsWall 108 = .ok (.ireturn, 1) := by decide +kernel
theorem dX11_readsWall_109 : decode cX11_readsWall 109 = .ok (.iload 4, 2) := by decide +kernel
theorem dX11_readsWall_111 : decode cX11_readsWall 111 = .ok (.ifCond .eq 26, 3) := by decide +kernel
theorem dX11_readsWall_114 : decode cX11_readsWall 114 = .ok (.aload_n 0, 1) := by decide +kernel
theorem dX11_readsWall_115 : decode cX11_readsWall 115 = .ok (.getfield 31, 3) := by decide +kernel
theorem dX11_readsWall_118 : decode cX11_readsWall 118 = .ok (.aload_n 0, 1) := by decide +kernel
theorem dX11_readsWall_119 : decode cX11_readsWall 119 = .ok (.getfield 91, 3) := by decide +kernel
theorem dX11_readsWall_122 : decode cX11_readsWall 122 = .ok (.iconst 0, 1) := by decide +kernel
theorem dX11_readsWall_123 : decode cX11_readsWall 123 = .ok (.iastore, 1) := by decide +kernel
theorem dX11_readsWall_124 : decode cX11_readsWall 124 = .ok (.aload_n 0, 1) := by decide +kernel
theorem dX11_readsWall_125 : decode cX11_readsWall 125 = .ok (.dup, 1) := by decide +kernel
theorem dX11_readsWall_126 : decode cX11_readsWall 126 = .ok (.getfield 91, 3) := by decide +kernel
theorem dX11_readsWall_129 : decode cX11_readsWall 129 = .ok (.iconst 1, 1) := by decide +kernel
theorem dX11_readsWall_130 : decode cX11_readsWall 130 = .ok (.iadd, 1) := by decide +kernel
theorem dX11_readsWall_131 : decode cX11_readsWall 131 = .ok (.putfield 91, 3) := by decide +kernel
theorem dX11_readsWall_134 : decode cX11_readsWall 134 = .ok (.goto 30, 3) := by decide +kernel
theorem dX11_readsWall_137 : decode cX11_readsWall 137 = .ok (.aload_n 0, 1) := by decide +kernel
theorem dX11_readsWall_138 : decode cX11_readsWall 138 = .ok (.getfield 28, 3) := by decide +kernel
theorem dX11_readsWall_141 : decode cX11_readsWall 141 = .ok (.bipush 8, 2) := by decide +kernel
theorem dX11_readsWall_143 : decode cX11_readsWall 143 = .ok (.iload_n 3, 1) := by decide +kernel
theorem dX11_readsWall_144 : decode cX11_readsWall 144 = .ok (.imul, 1) := by decide +kernel
theorem dX11_readsWall_145 : decode cX11_readsWall 145 = .ok (.aload_n 0, 1) := by decide +kernel
theorem dX11_readsWall_146 : decode cX11_readsWall 146 = .ok (.getfield 31, 3) := by decide +kernel
theorem dX11_readsWall_149 : decode cX11_readsWall 149 = .ok (.iload_n 3, 1) := by decide +kernel
theorem dX11_readsWall_150 : decode cX11_readsWall 150 = .ok (.iaload, 1) := by decide +kernel
theorem dX11_readsWall_151 : decode cX11_readsWall 151 = .ok (.iadd, 1) := by decide +kernel
theorem dX11_readsWall_152 : decode cX11_readsWall 152 = .ok (.iload_n 2, 1) := by decide +kernel
theorem dX11_readsWall_153 : decode cX11_readsWall 153 = .ok (.iastore, 1) := by decide +kernel
theorem dX11_readsWall_154 : decode cX11_readsWall 154 = .ok (.aload_n 0, 1) := by decide +kernel
theorem dX11_readsWall_155 : decode cX11_readsWall 155 = .ok (.getfield 31, 3) := by decide +kernel
theorem dX11_readsWall_158 : decode cX11_readsWall 158 = .ok (.iload_n 3, 1) := by decide +kernel
theorem dX11_readsWall_159 : decode cX11_readsWall 159 = .ok (.dup2, 1) := by decide +kernel
theorem dX11_readsWall_160 : decode cX11_readsWall 160 = .ok (.iaload, 1) := by decide +kernel
theorem dX11_readsWall_161 : decode cX11_readsWall 161 = .ok (.iconst 1, 1) := by decide +kernel
theorem dX11_readsWall_162 : decode cX11_readsWall 162 = .ok (.iadd, 1) := by decide +kernel
theorem dX11_readsWall_163 : decode cX11_readsWall 163 = .ok (.iastore, 1) := by decide +kernel
theorem dX11_readsWall_164 : decode cX11_readsWall 164 = .ok (.iinc 1 1, 3) := by decide +kernel
theorem dX11_readsWall_167 : decode cX11_readsWall 167 = .ok (.goto (-140), 3) := by decide +kernel
theorem dX11_readsWall_170 : decode cX11_readsWall 170 = .ok (.iconst (-1), 1) := by decide +kernel
theorem dX11_readsWall_171 : decode cX11_readsWall 171 = .ok (.ireturn, 1) := by decide +kernel
theorem dX11_here_0 : decode cX11_here 0 = .ok (.aload_n 0, 1) := by decide +kernel
theorem dX11_here_1 : decode cX11_here 1 = .ok (.getfield 97, 3) := by decide +kernel
theorem dX11_here_4 : decode cX11_here 4 = .ok (.aload_n 0, 1) := by decide +kernel
theorem dX11_here_5 : decode cX11_here 5 = .ok (.getfield 25, 3) := by decide +kernel
theorem dX11_here_8 : decode cX11_here 8 = .ok (.iconst 1, 1) := by decide +kernel
theorem dX11_here_9 : decode cX11_here 9 = .ok (.iaload, 1) := by decide +kernel
theorem dX11_here_10 : decode cX11_here 10 = .ok (.if_icmp .ge 18, 3) := by decide +kernel
theorem dX11_here_13 : decode cX11_here 13 = .ok (.aload_n 0, 1) := by decide +kernel
theorem dX11_here_14 : decode cX11_here 14 = .ok (.getfield 22, 3) := by decide +kernel
theorem dX11_here_17 : decode cX11_here 17 = .ok (.bipush 64, 2) := by decide +kernel
theorem dX11_here_19 : decode cX11_here 19 = .ok (.aload_n 0, 1) := by decide +kernel
theorem dX11_here_20 : decode cX11_here 20 = .ok (.getfield 97, 3) := by decide +kernel
theorem dX11_here_23 : decode cX11_here 23 = .ok (.iadd, 1) := by decide +kernel
theorem dX11_here_24 : decode cX11_here 24 = .ok (.iaload, 1) := by decide +kernel
theorem dX11_here_25 : decode cX11_here 25 = .ok (.goto 4, 3) := by decide +kernel
theorem dX11_here_28 : decode cX11_here 28 = .ok (.iconst (-1), 1) := by decide +kernel
theorem dX11_here_29 : decode cX11_here 29 = .ok (.ireturn, 1) := by decide +kernel
theorem dX11_figure_0 : decode cX11_figure 0 = .ok (.aload_n 0, 1) := by decide +kernel
theorem dX11_figure_1 : decode cX11_figure 1 = .ok (.invokevirtual 100, 3) := by decide +kernel
theorem dX11_figure_4 : decode cX11_figure 4 = .ok (.istore_n 1, 1) := by decide +kernel
theorem dX11_figure_5 : decode cX11_figure 5 = .ok (.iload_n 1, 1) := by decide +kernel
theorem dX11_figure_6 : decode cX11_figure 6 = .ok (.i2l, 1) := by decide +kernel
theorem dX11_figure_7 : decode cX11_figure 7 = .ok (.ldc2_w 104, 3) := by decide +kernel
theorem dX11_figure_10 : decode cX11_figure 10 = .ok (.ldc2_w 106, 3) := by decide +kernel
theorem dX11_figure_13 : decode cX11_figure 13 = .ok (.invokestatic 58, 3) := by decide +kernel
theorem dX11_figure_16 : decode cX11_figure 16 = .ok (.ifCond .ne 5, 3) := by decide +kernel
theorem dX11_figure_19 : decode cX11_figure 19 = .ok (.iconst (-1), 1) := by decide +kernel
theorem dX11_figure_20 : decode cX11_figure 20 = .ok (.ireturn, 1) := by decide +kernel
theorem dX11_figure_21 : decode cX11_figure 21 = .ok (.aload_n 0, 1) := by decide +kernel
theorem dX11_figure_22 : decode cX11_figure 22 = .ok (.dup, 1) := by decide +kernel
theorem dX11_figure_23 : decode cX11_figure 23 = .ok (.getfield 97, 3) := by decide +kernel
theorem dX11_figure_26 : decode cX11_figure 26 = .ok (.iconst 1, 1) := by decide +kernel
theorem dX11_figure_27 : decode cX11_figure 27 = .ok (.iadd, 1) := by decide +kernel
theorem dX11_figure_28 : decode cX11_figure 28 = .ok (.putfield 97, 3) := by decide +kernel
theorem dX11_figure_31 : decode cX11_figure 31 = .ok (.iload_n 1, 1) := by decide +kernel
theorem dX11_figure_32 : decode cX11_figure 32 = .ok (.bipush 48, 2) := by decide +kernel
theorem dX11_figure_34 : decode cX11_figure 34 = .ok (.isub, 1) := by decide +kernel
theorem dX11_figure_35 : decode cX11_figure 35 = .ok (.ireturn, 1) := by decide +kernel
theorem dX11_readsTurn_0 : decode cX11_readsTurn 0 = .ok (.aload_n 0, 1) := by decide +kernel
theorem dX11_readsTurn_1 : decode cX11_readsTurn 1 = .ok (.getfield 108, 3) := by decide +kernel
theorem dX11_readsTurn_4 : decode cX11_readsTurn 4 = .ok (.bipush 12, 2) := by decide +kernel
theorem dX11_readsTurn_6 : decode cX11_readsTurn 6 = .ok (.if_icmp .ne 5, 3) := by decide +kernel
theorem dX11_readsTurn_9 : decode cX11_readsTurn 9 = .ok (.iconst 0, 1) := by decide +kernel
theorem dX11_readsTurn_10 : decode cX11_readsTurn 10 = .ok (.ireturn, 1) := by decide +kernel
theorem dX11_readsTurn_11 : decode cX11_readsTurn 11 = .ok (.bipush 8, 2) := by decide +kernel
theorem dX11_readsTurn_13 : decode cX11_readsTurn 13 = .ok (.aload_n 0, 1) := by decide +kernel
theorem dX11_readsTurn_14 : decode cX11_readsTurn 14 = .ok (.getfield 108, 3) := by decide +kernel
theorem dX11_readsTurn_17 : decode cX11_readsTurn 17 = .ok (.imul, 1) := by decide +kernel
theorem dX11_readsTurn_18 : decode cX11_readsTurn 18 = .ok (.istore_n 1, 1) := by decide +kernel
theorem dX11_readsTurn_19 : decode cX11_readsTurn 19 = .ok (.aload_n 0, 1) := by decide +kernel
theorem dX11_readsTurn_20 : decode cX11_readsTurn 20 = .ok (.getfield 34, 3) := by decide +kernel
theorem dX11_readsTurn_23 : decode cX11_readsTurn 23 = .ok (.iload_n 1, 1) := by decide +kernel
theorem dX11_readsTurn_24 : decode cX11_readsTurn 24 = .ok (.iconst (-1), 1) := by decide +kernel
theorem dX11_readsTurn_25 : decode cX11_readsTurn 25 = .ok (.iastore, 1) := by decide +kernel
theorem dX11_readsTurn_26 : decode cX11_readsTurn 26 = .ok (.aload_n 0, 1) := by decide +kernel
theorem dX11_readsTurn_27 : decode cX11_readsTurn 27 = .ok (.getfield 34, 3) := by decide +kernel
theorem dX11_readsTurn_30 : decode cX11_readsTurn 30 = .ok (.iload_n 1, 1) := by decide +kernel
theorem dX11_readsTurn_31 : decode cX11_readsTurn 31 = .ok (.iconst 1, 1) := by decide +kernel
theorem dX11_readsTurn_32 : decode cX11_readsTurn 32 = .ok (.iadd, 1) := by decide +kernel
theorem dX11_readsTurn_33 : decode cX11_readsTurn 33 = .ok (.iconst 0, 1) := by decide +kernel
theorem dX11_readsTurn_34 : decode cX11_readsTurn 34 = .ok (.iastore, 1) := by decide +kernel
theorem dX11_readsTurn_35 : decode cX11_readsTurn 35 = .ok (.aload_n 0, 1) := by decide +kernel
theorem dX11_readsTurn_36 : decode cX11_readsTurn 36 = .ok (.invokevirtual 100, 3) := by decide +kernel
theorem dX11_readsTurn_39 : decode cX11_readsTurn 39 = .ok (.bipush 45, 2) := by decide +kernel
theorem dX11_readsTurn_41 : decode cX11_readsTurn 41 = .ok (.if_icmp .ne 35, 3) := by decide +kernel
theorem dX11_readsTurn_44 : decode cX11_readsTurn 44 = .ok (.aload_n 0, 1) := by decide +kernel
theorem dX11_readsTurn_45 : decode cX11_readsTurn 45 = .ok (.dup, 1) := by decide +kernel
theorem dX11_readsTurn_46 : decode cX11_readsTurn 46 = .ok (.getfield 97, 3) := by decide +kernel
theorem dX11_readsTurn_49 : decode cX11_readsTurn 49 = .ok (.iconst 1, 1) := by decide +kernel
theorem dX11_readsTurn_50 : decode cX11_readsTurn 50 = .ok (.iadd, 1) := by decide +kernel
theorem dX11_readsTurn_51 : decode cX11_readsTurn 51 = .ok (.putfield 97, 3) := by decide +kernel
theorem dX11_readsTurn_54 : decode cX11_readsTurn 54 = .ok (.aload_n 0, 1) := by decide +kernel
theorem dX11_readsTurn_55 : decode cX11_readsTurn 55 = .ok (.getfield 34, 3) := by decide +kernel
theorem dX11_readsTurn_58 : decode cX11_readsTurn 58 = .ok (.iload_n 1, 1) := by decide +kernel
theorem dX11_readsTurn_59 : decode cX11_readsTurn 59 = .ok (.aload_n 0, 1) := by decide +kernel
theorem dX11_readsTurn_60 : decode cX11_readsTurn 60 = .ok (.invokevirtual 111, 3) := by decide +kernel
theorem dX11_readsTurn_63 : decode cX11_readsTurn 63 = .ok (.iastore, 1) := by decide +kernel
theorem dX11_readsTurn_64 : decode cX11_readsTurn 64 = .ok (.aload_n 0, 1) := by decide +kernel
theorem dX11_readsTurn_65 : decode cX11_readsTurn 65 = .ok (.getfield 34, 3) := by decide +kernel
theorem dX11_readsTurn_68 : decode cX11_readsTurn 68 = .ok (.iload_n 1, 1) := by decide +kernel
theorem dX11_readsTurn_69 : decode cX11_readsTurn 69 = .ok (.iaload, 1) := by decide +kernel
theorem dX11_readsTurn_70 : decode cX11_readsTurn 70 = .ok (.iconst (-1), 1) := by decide +kernel
theorem dX11_readsTurn_71 : decode cX11_readsTurn 71 = .ok (.if_icmp .ne 5, 3) := by decide +kernel
theorem dX11_readsTurn_74 : decode cX11_readsTurn 74 = .ok (.iconst 0, 1) := by decide +kernel
theorem dX11_readsTurn_75 : decode cX11_readsTurn 75 = .ok (.ireturn, 1) := by decide +kernel
theorem dX11_readsTurn_76 : decode cX11_readsTurn 76 = .ok (.aload_n 0, 1) := by decide +kernel
theorem dX11_readsTurn_77 : decode cX11_readsTurn 77 = .ok (.getfield 34, 3) := by decide +kernel
theorem dX11_readsTurn_80 : decode cX11_readsTurn 80 = .ok (.iload_n 1, 1) := by decide +kernel
theorem dX11_readsTurn_81 : decode cX11_readsTurn 81 = .ok (.iconst 1, 1) := by decide +kernel
theorem dX11_readsTurn_82 : decode cX11_readsTurn 82 = .ok (.iadd, 1) := by decide +kernel
theorem dX11_readsTurn_83 : decode cX11_readsTurn 83 = .ok (.iaload, 1) := by decide +kernel
theorem dX11_readsTurn_84 : decode cX11_readsTurn 84 = .ok (.iconst 3, 1) := by decide +kernel
theorem dX11_readsTurn_85 : decode cX11_readsTurn 85 = .ok (.if_icmp .ge 101, 3) := by decide +kernel
theorem dX11_readsTurn_88 : decode cX11_readsTurn 88 = .ok (.aload_n 0, 1) := by decide +kernel
theorem dX11_readsTurn_89 : decode cX11_readsTurn 89 = .ok (.invokevirtual 100, 3) := by decide +kernel
theorem dX11_readsTurn_92 : decode cX11_readsTurn 92 = .ok (.invokestatic 94, 3) := by decide +kernel
theorem dX11_readsTurn_95 : decode cX11_readsTurn 95 = .ok (.iconst (-1), 1) := by decide +kernel
theorem dX11_readsTurn_96 : decode cX11_readsTurn 96 = .ok (.if_icmp .eq 90, 3) := by decide +kernel
theorem dX11_readsTurn_99 : decode cX11_readsTurn 99 = .ok (.aload_n 0, 1) := by decide +kernel
theorem dX11_readsTurn_100 : decode cX11_readsTurn 100 = .ok (.getfield 34, 3) := by decide +kernel
theorem dX11_readsTurn_103 : decode cX11_readsTurn 103 = .ok (.iload_n 1, 1) := by decide +kernel
theorem dX11_readsTurn_104 : decode cX11_readsTurn 104 = .ok (.iconst 1, 1) := by decide +kernel
theorem dX11_readsTurn_105 : decode cX11_readsTurn 105 = .ok (.iadd, 1) := by decide +kernel
theorem dX11_readsTurn_106 : decode cX11_readsTurn 106 = .ok (.iaload, 1) := by decide +kernel
theorem dX11_readsTurn_107 : decode cX11_readsTurn 107 = .ok (.istore_n 2, 1) := by decide +kernel
theorem dX11_readsTurn_108 : decode cX11_readsTurn 108 = .ok (.aload_n 0, 1) := by decide +kernel
theorem dX11_readsTurn_109 : decode cX11_readsTurn 109 = .ok (.getfield 34, 3) := by decide +kernel
theorem dX11_readsTurn_112 : decode cX11_readsTurn 112 = .ok (.iload_n 1, 1) := by decide +kernel
theorem dX11_readsTurn_113 : decode cX11_readsTurn 113 = .ok (.iconst 2, 1) := by decide +kernel
theorem dX11_readsTurn_114 : decode cX11_readsTurn 114 = .ok (.iadd, 1) := by decide +kernel
theorem dX11_readsTurn_115 : decode cX11_readsTurn 115 = .ok (.iconst 2, 1) := by decide +kernel
theorem dX11_readsTurn_116 : decode cX11_readsTurn 116 = .ok (.iload_n 2, 1) := by decide +kernel
theorem dX11_readsTurn_117 : decode cX11_readsTurn 117 = .ok (.imul, 1) := by decide +kernel
theorem dX11_readsTurn_118 : decode cX11_readsTurn 118 = .ok (.iadd, 1) := by decide +kernel
theorem dX11_readsTurn_119 : decode cX11_readsTurn 119 = .ok (.aload_n 0, 1) := by decide +kernel
theorem dX11_readsTurn_120 : decode cX11_readsTurn 120 = .ok (.invokevirtual 100, 3) := by decide +kernel
theorem dX11_readsTurn_123 : decode cX11_readsTurn 123 = .ok (.invokestatic 94, 3) := by decide +kernel
theorem dX11_readsTurn_126 : decode cX11_readsTurn 126 = .ok (.iastore, 1) := by decide +kernel
theorem dX11_readsTurn_127 : decode cX11_readsTurn 127 = .ok (.aload_n 0, 1) := by decide +kernel
theorem dX11_readsTurn_128 : decode cX11_readsTurn 128 = .ok (.dup, 1) := by decide +kernel
theorem dX11_readsTurn_129 : decode cX11_readsTurn 129 = .ok (.getfield 97, 3) := by decide +kernel
theorem dX11_readsTurn_132 : decode cX11_readsTurn 132 = .ok (.iconst 1, 1) := by decide +kernel
theorem dX11_readsTurn_133 : decode cX11_readsTurn 133 = .ok (.iadd, 1) := by decide +kernel
theorem dX11_readsTurn_134 : decode cX11_readsTurn 134 = .ok (.putfield 97, 3) := by decide +kernel
theorem dX11_readsTurn_137 : decode cX11_readsTurn 137 = .ok (.aload_n 0, 1) := by decide +kernel
theorem dX11_readsTurn_138 : decode cX11_readsTurn 138 = .ok (.getfield 34, 3) := by decide +kernel
theorem dX11_readsTurn_141 : decode cX11_readsTurn 141 = .ok (.iload_n 1, 1) := by decide +kernel
theorem dX11_readsTurn_142 : decode cX11_readsTurn 142 = .ok (.iconst 3, 1) := by decide +kernel
theorem dX11_readsTurn_143 : decode cX11_readsTurn 143 = .ok (.iadd, 1) := by decide +kernel
theorem dX11_readsTurn_144 : decode cX11_readsTurn 144 = .ok (.iconst 2, 1) := by decide +kernel
theorem dX11_readsTurn_145 : decode cX11_readsTurn 145 = .ok (.iload_n 2, 1) := by decide +kernel
theorem dX11_readsTurn_146 : decode cX11_readsTurn 146 = .ok (.imul, 1) := by decide +kernel
theorem dX11_readsTurn_147 : decode cX11_readsTurn 147 = .ok (.iadd, 1) := by decide +kernel
theorem dX11_readsTurn_148 : decode cX11_readsTurn 148 = .ok (.aload_n 0, 1) := by decide +kernel
theorem dX11_readsTurn_149 : decode cX11_readsTurn 149 = .ok (.invokevirtual 111, 3) := by decide +kernel
theorem dX11_readsTurn_152 : decode cX11_readsTurn 152 = .ok (.iastore, 1) := by decide +kernel
theorem dX11_readsTurn_153 : decode cX11_readsTurn 153 = .ok (.aload_n 0, 1) := by decide +kernel
theorem dX11_readsTurn_154 : decode cX11_readsTurn 154 = .ok (.getfield 34, 3) := by decide +kernel
theorem dX11_readsTurn_157 : decode cX11_readsTurn 157 = .ok (.iload_n 1, 1) := by decide +kernel
theorem dX11_readsTurn_158 : decode cX11_readsTurn 158 = .ok (.iconst 3, 1) := by decide +kernel
theorem dX11_readsTurn_159 : decode cX11_readsTurn 159 = .ok (.iadd, 1) := by decide +kernel
theorem dX11_readsTurn_160 : decode cX11_readsTurn 160 = .ok (.iconst 2, 1) := by decide +kernel
theorem dX11_readsTurn_161 : decode cX11_readsTurn 161 = .ok (.iload_n 2, 1) := by decide +kernel
theorem dX11_readsTurn_162 : decode cX11_readsTurn 162 = .ok (.imul, 1) := by decide +kernel
theorem dX11_readsTurn_163 : decode cX11_readsTurn 163 = .ok (.iadd, 1) := by decide +kernel
theorem dX11_readsTurn_164 : decode cX11_readsTurn 164 = .ok (.iaload, 1) := by decide +kernel
theorem dX11_readsTurn_165 : decode cX11_readsTurn 165 = .ok (.iconst (-1), 1) := by decide +kernel
theorem dX11_readsTurn_166 : decode cX11_readsTurn 166 = .ok (.if_icmp .ne 5, 3) := by decide +kernel
theorem dX11_readsTurn_169 : decode cX11_readsTurn 169 = .ok (.iconst 0, 1) := by decide +kernel
theorem dX11_readsTurn_170 : decode cX11_readsTurn 170 = .ok (.ireturn, 1) := by decide +kernel
theorem dX11_readsTurn_171 : decode cX11_readsTurn 171 = .ok (.aload_n 0, 1) := by decide +kernel
theorem dX11_readsTurn_172 : decode cX11_readsTurn 172 = .ok (.getfield 34, 3) := by decide +kernel
theorem dX11_readsTurn_175 : decode cX11_readsTurn 175 = .ok (.iload_n 1, 1) := by decide +kernel
theorem dX11_readsTurn_176 : decode cX11_readsTurn 176 = .ok (.iconst 1, 1) := by decide +kernel
theorem dX11_readsTurn_177 : decode cX11_readsTurn 177 = .ok (.iadd, 1) := by decide +kernel
theorem dX11_readsTurn_178 : decode cX11_readsTurn 178 = .ok (.dup2, 1) := by decide +kernel
theorem dX11_readsTurn_179 : decode cX11_readsTurn 179 = .ok (.iaload, 1) := by decide +kernel
theorem dX11_readsTurn_180 : decode cX11_readsTurn 180 = .ok (.iconst 1, 1) := by decide +kernel
theorem dX11_readsTurn_181 : decode cX11_readsTurn 181 = .ok (.iadd, 1) := by decide +kernel
theorem dX11_readsTurn_182 : decode cX11_readsTurn 182 = .ok (.iastore, 1) := by decide +kernel
theorem dX11_readsTurn_183 : decode cX11_readsTurn 183 = .ok (.goto (-107), 3) := by decide +kernel
theorem dX11_readsTurn_186 : decode cX11_readsTurn 186 = .ok (.aload_n 0, 1) := by decide +kernel
theorem dX11_readsTurn_187 : decode cX11_readsTurn 187 = .ok (.dup, 1) := by decide +kernel
theorem dX11_readsTurn_188 : decode cX11_readsTurn 188 = .ok (.getfield 108, 3) := by decide +kernel
theorem dX11_readsTurn_191 : decode cX11_readsTurn 191 = .ok (.aload_n 0, 1) := by decide +kernel
theorem dX11_readsTurn_192 : decode cX11_readsTurn 192 = .ok (.getfield 34, 3) := by decide +kernel
theorem dX11_readsTurn_195 : decode cX11_readsTurn 195 = .ok (.iload_n 1, 1) := by decide +kernel
theorem dX11_readsTurn_196 : decode cX11_readsTurn 196 = .ok (.iconst 1, 1) := by decide +kernel
theorem dX11_readsTurn_197 : decode cX11_readsTurn 197 = .ok (.iadd, 1) := by decide +kernel
theorem dX11_readsTurn_198 : decode cX11_readsTurn 198 = .ok (.iaload, 1) := by decide +kernel
theorem dX11_readsTurn_199 : decode cX11_readsTurn 199 = .ok (.ifCond .le 7, 3) := by decide +kernel
theorem dX11_readsTurn_202 : decode cX11_readsTurn 202 = .ok (.iconst 1, 1) := by decide +kernel
theorem dX11_readsTurn_203 : decode cX11_readsTurn 203 = .ok (.goto 4, 3) := by decide +kernel
theorem dX11_readsTurn_206 : decode cX11_readsTurn 206 = .ok (.iconst 0, 1) := by decide +kernel
theorem dX11_readsTurn_207 : decode cX11_readsTurn 207 = .ok (.iadd, 1) := by decide +kernel
theorem dX11_readsTurn_208 : decode cX11_readsTurn 208 = .ok (.putfield 108, 3) := by decide +kernel
theorem dX11_readsTurn_211 : decode cX11_readsTurn 211 = .ok (.aload_n 0, 1) := by decide +kernel
theorem dX11_readsTurn_212 : decode cX11_readsTurn 212 = .ok (.getfield 34, 3) := by decide +kernel
theorem dX11_readsTurn_215 : decode cX11_readsTurn 215 = .ok (.iload_n 1, 1) := by decide +kernel
theorem dX11_readsTurn_216 : decode cX11_readsTurn 216 = .ok (.iconst 1, 1) := by decide +kernel
theorem dX11_readsTurn_217 : decode cX11_readsTurn 217 = .ok (.iadd, 1) := by decide +kernel
theorem dX11_readsTurn_218 : decode cX11_readsTurn 218 = .ok (.iaload, 1) := by decide +kernel
theorem dX11_readsTurn_219 : decode cX11_readsTurn 219 = .ok (.ifCond .le 7, 3) := by decide +kernel
theorem dX11_readsTurn_222 : decode cX11_readsTurn 222 = .ok (.iconst 1, 1) := by decide +kernel
theorem dX11_readsTurn_223 : decode cX11_readsTurn 223 = .ok (.goto 4, 3) := by decide +kernel
theorem dX11_readsTurn_226 : decode cX11_readsTurn 226 = .ok (.iconst 0, 1) := by decide +kernel
theorem dX11_readsTurn_227 : decode cX11_readsTurn 227 = .ok (.ireturn, 1) := by decide +kernel
theorem dX11_readsTurns_0 : decode cX11_readsTurns 0 = .ok (.aload_n 0, 1) := by decide +kernel
theorem dX11_readsTurns_1 : decode cX11_readsTurns 1 = .ok (.iconst 0, 1) := by decide +kernel
theorem dX11_readsTurns_2 : decode cX11_readsTurns 2 = .ok (.putfield 97, 3) := by decide +kernel
theorem dX11_readsTurns_5 : decode cX11_readsTurns 5 = .ok (.aload_n 0, 1) := by decide +kernel
theorem dX11_readsTurns_6 : decode cX11_readsTurns 6 = .ok (.iconst 0, 1) := by decide +kernel
theorem dX11_readsTurns_7 : decode cX11_readsTurns 7 = .ok (.putfield 108, 3) := by decide +kernel
theorem dX11_readsTurns_10 : decode cX11_readsTurns 10 = .ok (.aload_n 0, 1) := by decide +kernel
theorem dX11_readsTurns_11 : decode cX11_readsTurns 11 = .ok (.getfield 25, 3) := by decide +kernel
theorem dX11_readsTurns_14 : decode cX11_readsTurns 14 = .ok (.iconst 1, 1) := by decide +kernel
theorem dX11_readsTurns_15 : decode cX11_readsTurns 15 = .ok (.iaload, 1) := by decide +kernel
theorem dX11_readsTurns_16 : decode cX11_readsTurns 16 = .ok (.ifCond .le 7, 3) := by decide +kernel
theorem dX11_readsTurns_19 : decode cX11_readsTurns 19 = .ok (.iconst 1, 1) := by decide +kernel
theorem dX11_readsTurns_20 : decode cX11_readsTurns 20 = .ok (.goto 4, 3) := by decide +kernel
theorem dX11_readsTurns_23 : decode cX11_readsTurns 23 = .ok (.iconst 0, 1) := by decide +kernel
theorem dX11_readsTurns_24 : decode cX11_readsTurns 24 = .ok (.istore_n 1, 1) := by decide +kernel
theorem dX11_readsTurns_25 : decode cX11_readsTurns 25 = .ok (.iload_n 1, 1) := by decide +kernel
theorem dX11_readsTurns_26 : decode cX11_readsTurns 26 = .ok (.ifCond .eq 79, 3) := by decide +kernel
theorem dX11_readsTurns_29 : decode cX11_readsTurns 29 = .ok (.aload_n 0, 1) := by decide +kernel
theorem dX11_readsTurns_30 : decode cX11_readsTurns 30 = .ok (.invokevirtual 114, 3) := by decide +kernel
theorem dX11_readsTurns_33 : decode cX11_readsTurns 33 = .ok (.istore_n 2, 1) := by decide +kernel
theorem dX11_readsTurns_34 : decode cX11_readsTurns 34 = .ok (.iload_n 2, 1) := by decide +kernel
theorem dX11_readsTurns_35 : decode cX11_readsTurns 35 = .ok (.ifCond .eq 20, 3) := by decide +kernel
theorem dX11_readsTurns_38 : decode cX11_readsTurns 38 = .ok (.aload_n 0, 1) := by decide +kernel
theorem dX11_readsTurns_39 : decode cX11_readsTurns 39 = .ok (.getfield 97, 3) := by decide +kernel
theorem dX11_readsTurns_42 : decode cX11_readsTurns 42 = .ok (.aload_n 0, 1) := by decide +kernel
theorem dX11_readsTurns_43 : decode cX11_readsTurns 43 = .ok (.getfield 25, 3) := by decide +kernel
theorem dX11_readsTurns_46 : decode cX11_readsTurns 46 = .ok (.iconst 1, 1) := by decide +kernel
theorem dX11_readsTurns_47 : decode cX11_readsTurns 47 = .ok (.iaload, 1) := by decide +kernel
theorem dX11_readsTurns_48 : decode cX11_readsTurns 48 = .ok (.if_icmp .ge 7, 3) := by decide +kernel
theorem dX11_readsTurns_51 : decode cX11_readsTurns 51 = .ok (.iconst 1, 1) := by decide +kernel
theorem dX11_readsTurns_52 : decode cX11_readsTurns 52 = .ok (.goto 4, 3) := by decide +kernel
theorem dX11_readsTurns_55 : decode cX11_readsTurns 55 = .ok (.iconst 0, 1) := by decide +kernel
theorem dX11_readsTurns_56 : decode cX11_readsTurns 56 = .ok (.istore_n 1, 1) := by decide +kernel
theorem dX11_readsTurns_57 : decode cX11_readsTurns 57 = .ok (.iload_n 2, 1) := by decide +kernel
theorem dX11_readsTurns_58 : decode cX11_readsTurns 58 = .ok (.ifCond .eq 16, 3) := by decide +kernel
theorem dX11_readsTurns_61 : decode cX11_readsTurns 61 = .ok (.iload_n 1, 1) := by decide +kernel
theorem dX11_readsTurns_62 : decode cX11_readsTurns 62 = .ok (.ifCond .eq 22, 3) := by decide +kernel
theorem dX11_readsTurns_65 : decode cX11_readsTurns 65 = .ok (.aload_n 0, 1) := by decide +kernel
theorem dX11_readsTurns_66 : decode cX11_readsTurns 66 = .ok (.invokevirtual 100, 3) := by decide +kernel
theorem dX11_readsTurns_69 : decode cX11_readsTurns 69 = .ok (.bipush 59, 2) := by decide +kernel
theorem dX11_readsTurns_71 : decode cX11_readsTurns 71 = .ok (.if_icmp .eq 13, 3) := by decide +kernel
theorem dX11_readsTurns_74 : decode cX11_readsTurns 74 = .ok (.aload_n 0, 1) := by decide +kernel
theorem dX11_readsTurns_75 : decode cX11_readsTurns 75 = .ok (.iconst 0, 1) := by decide +kernel
theorem dX11_readsTurns_76 : decode cX11_readsTurns 76 = .ok (.putfield 108, 3) := by decide +kernel
theorem dX11_readsTurns_79 : decode cX11_readsTurns 79 = .ok (.aload_n 0, 1) := by decide +kernel
theorem dX11_readsTurns_80 : decode cX11_readsTurns 80 = .ok (.getfield 97, 3) := by decide +kernel
theorem dX11_readsTurns_83 : decode cX11_readsTurns 83 = .ok (.ireturn, 1) := by decide +kernel
theorem dX11_readsTurns_84 : decode cX11_readsTurns 84 = .ok (.aload_n 0, 1) := by decide +kernel
theorem dX11_readsTurns_85 : decode cX11_readsTurns 85 = .ok (.dup, 1) := by decide +kernel
theorem dX11_readsTurns_86 : decode cX11_readsTurns 86 = .ok (.getfield 97, 3) := by decide +kernel
theorem dX11_readsTurns_89 : decode cX11_readsTurns 89 = .ok (.iload_n 1, 1) := by decide +kernel
theorem dX11_readsTurns_90 : decode cX11_readsTurns 90 = .ok (.ifCond .eq 7, 3) := by decide +kernel
theorem dX11_readsTurns_93 : decode cX11_readsTurns 93 = .ok (.iconst 1, 1) := by decide +kernel
theorem dX11_readsTurns_94 : decode cX11_readsTurns 94 = .ok (.goto 4, 3) := by decide +kernel
theorem dX11_readsTurns_97 : decode cX11_readsTurns 97 = .ok (.iconst 0, 1) := by decide +kernel
theorem dX11_readsTurns_98 : decode cX11_readsTurns 98 = .ok (.iadd, 1) := by decide +kernel
theorem dX11_readsTurns_99 : decode cX11_readsTurns 99 = .ok (.putfield 97, 3) := by decide +kernel
theorem dX11_readsTurns_102 : decode cX11_readsTurns 102 = .ok (.goto (-77), 3) := by decide +kernel
theorem dX11_readsTurns_105 : decode cX11_readsTurns 105 = .ok (.iconst (-1), 1) := by decide +kernel
theorem dX11_readsTurns_106 : decode cX11_readsTurns 106 = .ok (.ireturn, 1) := by decide +kernel
theorem dX11_reads_0 : decode cX11_reads 0 = .ok (.aload_n 0, 1) := by decide +kernel
theorem dX11_reads_1 : decode cX11_reads 1 = .ok (.invokevirtual 118, 3) := by decide +kernel
theorem dX11_reads_4 : decode cX11_reads 4 = .ok (.pop, 1) := by decide +kernel
theorem dX11_reads_5 : decode cX11_reads 5 = .ok (.aload_n 0, 1) := by decide +kernel
theorem dX11_reads_6 : decode cX11_reads 6 = .ok (.invokevirtual 121, 3) := by decide +kernel
theorem dX11_reads_9 : decode cX11_reads 9 = .ok (.pop, 1) := by decide +kernel
theorem dX11_reads_10 : decode cX11_reads 10 = .ok (.return_, 1) := by decide +kernel
theorem dX11_fault_0 : decode cX11_fault 0 = .ok (.iload_n 1, 1) := by decide +kernel
theorem dX11_fault_1 : decode cX11_fault 1 = .ok (.invokestatic 86, 3) := by decide +kernel
theorem dX11_fault_4 : decode cX11_fault 4 = .ok (.ifCond .ne 8, 3) := by decide +kernel
theorem dX11_fault_7 : decode cX11_fault 7 = .ok (.bipush (-2), 2) := by decide +kernel
theorem dX11_fault_9 : decode cX11_fault 9 = .ok (.goto 18, 3) := by decide +kernel
theorem dX11_fault_12 : decode cX11_fault 12 = .ok (.iload_n 1, 1) := by decide +kernel
theorem dX11_fault_13 : decode cX11_fault 13 = .ok (.ifCond .ne 10, 3) := by decide +kernel
theorem dX11_fault_16 : decode cX11_fault 16 = .ok (.aload_n 0, 1) := by decide +kernel
theorem dX11_fault_17 : decode cX11_fault 17 = .ok (.invokevirtual 118, 3) := by decide +kernel
theorem dX11_fault_20 : decode cX11_fault 20 = .ok (.goto 7, 3) := by decide +kernel
theorem dX11_fault_23 : decode cX11_fault 23 = .ok (.aload_n 0, 1) := by decide +kernel
theorem dX11_fault_24 : decode cX11_fault 24 = .ok (.invokevirtual 121, 3) := by decide +kernel
theorem dX11_fault_27 : decode cX11_fault 27 = .ok (.ireturn, 1) := by decide +kernel
theorem dX11_mostOf_0 : decode cX11_mostOf 0 = .ok (.iload_n 0, 1) := by decide +kernel
theorem dX11_mostOf_1 : decode cX11_mostOf 1 = .ok (.ifCond .ne 7, 3) := by decide +kernel
theorem dX11_mostOf_4 : decode cX11_mostOf 4 = .ok (.iconst 1, 1) := by decide +kernel
theorem dX11_mostOf_5 : decode cX11_mostOf 5 = .ok (.goto 26, 3) := by decide +kernel
theorem dX11_mostOf_8 : decode cX11_mostOf 8 = .ok (.iload_n 0, 1) := by decide +kernel
theorem dX11_mostOf_9 : decode cX11_mostOf 9 = .ok (.iconst 2, 1) := by decide +kernel
theorem dX11_mostOf_10 : decode cX11_mostOf 10 = .ok (.if_icmp .ne 8, 3) := by decide +kernel
theorem dX11_mostOf_13 : decode cX11_mostOf 13 = .ok (.bipush 9, 2) := by decide +kernel
theorem dX11_mostOf_15 : decode cX11_mostOf 15 = .ok (.goto 16, 3) := by decide +kernel
theorem dX11_mostOf_18 : decode cX11_mostOf 18 = .ok (.iload_n 0, 1) := by decide +kernel
theorem dX11_mostOf_19 : decode cX11_mostOf 19 = .ok (.iconst 5, 1) := by decide +kernel
theorem dX11_mostOf_20 : decode cX11_mostOf 20 = .ok (.if_icmp .ne 9, 3) := by decide +kernel
theorem dX11_mostOf_23 : decode cX11_mostOf 23 = .ok (.sipush 255, 3) := by decide +kernel
theorem dX11_mostOf_26 : decode cX11_mostOf 26 = .ok (.goto 5, 3) := by decide +kernel
theorem dX11_mostOf_29 : decode cX11_mostOf 29 = .ok (.bipush 16, 2) := by decide +kernel
theorem dX11_mostOf_31 : decode cX11_mostOf 31 = .ok (.ireturn, 1) := by decide +kernel
theorem dX11_set_0 : decode cX11_set 0 = .ok (.iload_n 1, 1) := by decide +kernel
theorem dX11_set_1 : decode cX11_set 1 = .ok (.i2l, 1) := by decide +kernel
theorem dX11_set_2 : decode cX11_set 2 = .ok (.lconst 0, 1) := by decide +kernel
theorem dX11_set_3 : decode cX11_set 3 = .ok (.ldc2_w 124, 3) := by decide +kernel
theorem dX11_set_6 : decode cX11_set 6 = .ok (.invokestatic 58, 3) := by decide +kernel
theorem dX11_set_9 : decode cX11_set 9 = .ok (.ifCond .eq 17, 3) := by decide +kernel
theorem dX11_set_12 : decode cX11_set 12 = .ok (.iload_n 2, 1) := by decide +kernel
theorem dX11_set_13 : decode cX11_set 13 = .ok (.i2l, 1) := by decide +kernel
theorem dX11_set_14 : decode cX11_set 14 = .ok (.lconst 0, 1) := by decide +kernel
theorem dX11_set_15 : decode cX11_set 15 = .ok (.iload_n 1, 1) := by decide +kernel
theorem dX11_set_16 : decode cX11_set 16 = .ok (.invokestatic 126, 3) := by decide +kernel
theorem dX11_set_19 : decode cX11_set 19 = .ok (.i2l, 1) := by decide +kernel
theorem dX11_set_20 : decode cX11_set 20 = .ok (.invokestatic 58, 3) := by decide +kernel
theorem dX11_set_23 : decode cX11_set 23 = .ok (.ifCond .ne 6, 3) := by decide +kernel
theorem dX11_set_26 : decode cX11_set 26 = .ok (.bipush (-2), 2) := by decide +kernel
theorem dX11_set_28 : decode cX11_set 28 = .ok (.ireturn, 1) := by decide +kernel
theorem dX11_set_29 : decode cX11_set 29 = .ok (.aload_n 0, 1) := by decide +kernel
theorem dX11_set_30 : decode cX11_set 30 = .ok (.getfield 37, 3) := by decide +kernel
theorem dX11_set_33 : decode cX11_set 33 = .ok (.iload_n 1, 1) := by decide +kernel
theorem dX11_set_34 : decode cX11_set 34 = .ok (.iaload, 1) := by decide +kernel
theorem dX11_set_35 : decode cX11_set 35 = .ok (.istore_n 3, 1) := by decide +kernel
theorem dX11_set_36 : decode cX11_set 36 = .ok (.aload_n 0, 1) := by decide +kernel
theorem dX11_set_37 : decode cX11_set 37 = .ok (.getfield 37, 3) := by decide +kernel
theorem dX11_set_40 : decode cX11_set 40 = .ok (.iload_n 1, 1) := by decide +kernel
theorem dX11_set_41 : decode cX11_set 41 = .ok (.iload_n 2, 1) := by decide +kernel
theorem dX11_set_42 : decode cX11_set 42 = .ok (.iastore, 1) := by decide +kernel
theorem dX11_set_43 : decode cX11_set 43 = .ok (.iload_n 3, 1) := by decide +kernel
theorem dX11_set_44 : decode cX11_set 44 = .ok (.ireturn, 1) := by decide +kernel
theorem dX11_begins_0 : decode cX11_begins 0 = .ok (.iconst 0, 1) := by decide +kernel
theorem dX11_begins_1 : decode cX11_begins 1 = .ok (.istore_n 1, 1) := by decide +kernel
theorem dX11_begins_2 : decode cX11_begins 2 = .ok (.iload_n 1, 1) := by decide +kernel
theorem dX11_begins_3 : decode cX11_begins 3 = .ok (.bipush 64, 2) := by decide +kernel
theorem dX11_begins_5 : decode cX11_begins 5 = .ok (.if_icmp .ge 21, 3) := by decide +kernel
theorem dX11_begins_8 : decode cX11_begins 8 = .ok (.aload_n 0, 1) := by decide +kernel
theorem dX11_begins_9 : decode cX11_begins 9 = .ok (.getfield 40, 3) := by decide +kernel
theorem dX11_begins_12 : decode cX11_begins 12 = .ok (.iload_n 1, 1) := by decide +kernel
theorem dX11_begins_13 : decode cX11_begins 13 = .ok (.aload_n 0, 1) := by decide +kernel
theorem dX11_begins_14 : decode cX11_begins 14 = .ok (.getfield 28, 3) := by decide +kernel
theorem dX11_begins_17 : decode cX11_begins 17 = .ok (.iload_n 1, 1) := by decide +kernel
theorem dX11_begins_18 : decode cX11_begins 18 = .ok (.iaload, 1) := by decide +kernel
theorem dX11_begins_19 : decode cX11_begins 19 = .ok (.iastore, 1) := by decide +kernel
theorem dX11_begins_20 : decode cX11_begins 20 = .ok (.iinc 1 1, 3) := by decide +kernel
theorem dX11_begins_23 : decode cX11_begins 23 = .ok (.goto (-21), 3) := by decide +kernel
theorem dX11_begins_26 : decode cX11_begins 26 = .ok (.iconst 0, 1) := by decide +kernel
theorem dX11_begins_27 : decode cX11_begins 27 = .ok (.istore_n 1, 1) := by decide +kernel
theorem dX11_begins_28 : decode cX11_begins 28 = .ok (.iload_n 1, 1) := by decide +kernel
theorem dX11_begins_29 : decode cX11_begins 29 = .ok (.bipush 8, 2) := by decide +kernel
theorem dX11_begins_31 : decode cX11_begins 31 = .ok (.if_icmp .ge 33, 3) := by decide +kernel
theorem dX11_begins_34 : decode cX11_begins 34 = .ok (.aload_n 0, 1) := by decide +kernel
theorem dX11_begins_35 : decode cX11_begins 35 = .ok (.getfield 43, 3) := by decide +kernel
theorem dX11_begins_38 : decode cX11_begins 38 = .ok (.iload_n 1, 1) := by decide +kernel
theorem dX11_begins_39 : decode cX11_begins 39 = .ok (.iload_n 1, 1) := by decide +kernel
theorem dX11_begins_40 : decode cX11_begins 40 = .ok (.aload_n 0, 1) := by decide +kernel
theorem dX11_begins_41 : decode cX11_begins 41 = .ok (.getfield 91, 3) := by decide +kernel
theorem dX11_begins_44 : decode cX11_begins 44 = .ok (.if_icmp .ge 12, 3) := by decide +kernel
theorem dX11_begins_47 : decode cX11_begins 47 = .ok (.aload_n 0, 1) := by decide +kernel
theorem dX11_begins_48 : decode cX11_begins 48 = .ok (.getfield 31, 3) := by decide +kernel
theorem dX11_begins_51 : decode cX11_begins 51 = .ok (.iload_n 1, 1) := by decide +kernel
theorem dX11_begins_52 : decode cX11_begins 52 = .ok (.iaload, 1) := by decide +kernel
theorem dX11_begins_53 : decode cX11_begins 53 = .ok (.goto 4, 3) := by decide +kernel
theorem dX11_begins_56 : decode cX11_begins 56 = .ok (.iconst 0, 1) := by decide +kernel
theorem dX11_begins_57 : decode cX11_begins 57 = .ok (.iastore, 1) := by decide +kernel
theorem dX11_begins_58 : decode cX11_begins 58 = .ok (.iinc 1 1, 3) := by decide +kernel
theorem dX11_begins_61 : decode cX11_begins 61 = .ok (.goto (-33), 3) := by decide +kernel
theorem dX11_begins_64 : decode cX11_begins 64 = .ok (.return_, 1) := by decide +kernel
theorem dX11_takes_0 : decode cX11_takes 0 = .ok (.iload_n 2, 1) := by decide +kernel
theorem dX11_takes_1 : decode cX11_takes 1 = .ok (.i2l, 1) := by decide +kernel
theorem dX11_takes_2 : decode cX11_takes 2 = .ok (.lconst 0, 1) := by decide +kernel
theorem dX11_takes_3 : decode cX11_takes 3 = .ok (.aload_n 0, 1) := by decide +kernel
theorem dX11_takes_4 : decode cX11_takes 4 = .ok (.getfield 91, 3) := by decide +kernel
theorem dX11_takes_7 : decode cX11_takes 7 = .ok (.iconst 1, 1) := by decide +kernel
theorem dX11_takes_8 : decode cX11_takes 8 = .ok (.isub, 1) := by decide +kernel
theorem dX11_takes_9 : decode cX11_takes 9 = .ok (.i2l, 1) := by decide +kernel
theorem dX11_takes_10 : decode cX11_takes 10 = .ok (.invokestatic 58, 3) := by decide +kernel
theorem dX11_takes_13 : decode cX11_takes 13 = .ok (.ifCond .eq 40, 3) := by decide +kernel
theorem dX11_takes_16 : decode cX11_takes 16 = .ok (.aload_n 0, 1) := by decide +kernel
theorem dX11_takes_17 : decode cX11_takes 17 = .ok (.getfield 43, 3) := by decide +kernel
theorem dX11_takes_20 : decode cX11_takes 20 = .ok (.iload_n 2, 1) := by decide +kernel
theorem dX11_takes_21 : decode cX11_takes 21 = .ok (.iaload, 1) := by decide +kernel
theorem dX11_takes_22 : decode cX11_takes 22 = .ok (.ifCond .le 31, 3) := by decide +kernel
theorem dX11_takes_25 : decode cX11_takes 25 = .ok (.aload_n 0, 1) := by decide +kernel
theorem dX11_takes_26 : decode cX11_takes 26 = .ok (.getfield 40, 3) := by decide +kernel
theorem dX11_takes_29 : decode cX11_takes 29 = .ok (.bipush 8, 2) := by decide +kernel
theorem dX11_takes_31 : decode cX11_takes 31 = .ok (.iload_n 2, 1) := by decide +kernel
theorem dX11_takes_32 : decode cX11_takes 32 = .ok (.imul, 1) := by decide +kernel
theorem dX11_takes_33 : decode cX11_takes 33 = .ok (.aload_n 0, 1) := by decide +kernel
theorem dX11_takes_34 : decode cX11_takes 34 = .ok (.getfield 43, 3) := by decide +kernel
theorem dX11_takes_37 : decode cX11_takes 37 = .ok (.iload_n 2, 1) := by decide +kernel
theorem dX11_takes_38 : decode cX11_takes 38 = .ok (.iaload, 1) := by decide +kernel
theorem dX11_takes_39 : decode cX11_takes 39 = .ok (.iadd, 1) := by decide +kernel
theorem dX11_takes_40 : decode cX11_takes 40 = .ok (.iconst 1, 1) := by decide +kernel
theorem dX11_takes_41 : decode cX11_takes 41 = .ok (.isub, 1) := by decide +kernel
theorem dX11_takes_42 : decode cX11_takes 42 = .ok (.iaload, 1) := by decide +kernel
theorem dX11_takes_43 : decode cX11_takes 43 = .ok (.iconst 2, 1) := by decide +kernel
theorem dX11_takes_44 : decode cX11_takes 44 = .ok (.irem, 1) := by decide +kernel
theorem dX11_takes_45 : decode cX11_takes 45 = .ok (.iload_n 1, 1) := by decide +kernel
theorem dX11_takes_46 : decode cX11_takes 46 = .ok (.if_icmp .eq 7, 3) := by decide +kernel
theorem dX11_takes_49 : decode cX11_takes 49 = .ok (.iconst 1, 1) := by decide +kernel
theorem dX11_takes_50 : decode cX11_takes 50 = .ok (.goto 4, 3) := by decide +kernel
theorem dX11_takes_53 : decode cX11_takes 53 = .ok (.iconst 0, 1) := by decide +kernel
theorem dX11_takes_54 : decode cX11_takes 54 = .ok (.istore_n 3, 1) := by decide +kernel
theorem dX11_takes_55 : decode cX11_takes 55 = .ok (.iload_n 3, 1) := by decide +kernel
theorem dX11_takes_56 : decode cX11_takes 56 = .ok (.ifCond .eq 13, 3) := by decide +kernel
theorem dX11_takes_59 : decode cX11_takes 59 = .ok (.aload_n 0, 1) := by decide +kernel
theorem dX11_takes_60 : decode cX11_takes 60 = .ok (.getfield 43, 3) := by decide +kernel
theorem dX11_takes_63 : decode cX11_takes 63 = .ok (.iload_n 2, 1) := by decide +kernel
theorem dX11_takes_64 : decode cX11_takes 64 = .ok (.dup2, 1) := by decide +kernel
theorem dX11_takes_65 : decode cX11_takes 65 = .ok (.iaload, 1) := by decide +kernel
theorem dX11_takes_66 : decode cX11_takes 66 = .ok (.iconst 1, 1) := by decide +kernel
theorem dX11_takes_67 : decode cX11_takes 67 = .ok (.isub, 1) := by decide +kernel
theorem dX11_takes_68 : decode cX11_takes 68 = .ok (.iastore, 1) := by decide +kernel
theorem dX11_takes_69 : decode cX11_takes 69 = .ok (.iload_n 3, 1) := by decide +kernel
theorem dX11_takes_70 : decode cX11_takes 70 = .ok (.ireturn, 1) := by decide +kernel
theorem dX11_lays_0 : decode cX11_lays 0 = .ok (.iload_n 3, 1) := by decide +kernel
theorem dX11_lays_1 : decode cX11_lays 1 = .ok (.i2l, 1) := by decide +kernel
theorem dX11_lays_2 : decode cX11_lays 2 = .ok (.lconst 0, 1) := by decide +kernel
theorem dX11_lays_3 : decode cX11_lays 3 = .ok (.aload_n 0, 1) := by decide +kernel
theorem dX11_lays_4 : decode cX11_lays 4 = .ok (.getfield 91, 3) := by decide +kernel
theorem dX11_lays_7 : decode cX11_lays 7 = .ok (.iconst 1, 1) := by decide +kernel
theorem dX11_lays_8 : decode cX11_lays 8 = .ok (.isub, 1) := by decide +kernel
theorem dX11_lays_9 : decode cX11_lays 9 = .ok (.i2l, 1) := by decide +kernel
theorem dX11_lays_10 : decode cX11_lays 10 = .ok (.invokestatic 58, 3) := by decide +kernel
theorem dX11_lays_13 : decode cX11_lays 13 = .ok (.ifCond .eq 25, 3) := by decide +kernel
theorem dX11_lays_16 : decode cX11_lays 16 = .ok (.aload_n 0, 1) := by decide +kernel
theorem dX11_lays_17 : decode cX11_lays 17 = .ok (.getfield 43, 3) := by decide +kernel
theorem dX11_lays_20 : decode cX11_lays 20 = .ok (.iload_n 3, 1) := by decide +kernel
theorem dX11_lays_21 : decode cX11_lays 21 = .ok (.iaload, 1) := by decide +kernel
theorem dX11_lays_22 : decode cX11_lays 22 = .ok (.bipush 8, 2) := by decide +kernel
theorem dX11_lays_24 : decode cX11_lays 24 = .ok (.if_icmp .ge 14, 3) := by decide +kernel
theorem dX11_lays_27 : decode cX11_lays 27 = .ok (.iload_n 2, 1) := by decide +kernel
theorem dX11_lays_28 : decode cX11_lays 28 = .ok (.iconst 2, 1) := by decide +kernel
theorem dX11_lays_29 : decode cX11_lays 29 = .ok (.irem, 1) := by decide +kernel
theorem dX11_lays_30 : decode cX11_lays 30 = .ok (.iload_n 1, 1) := by decide +kernel
theorem dX11_lays_31 : decode cX11_lays 31 = .ok (.if_icmp .ne 7, 3) := by decide +kernel
theorem dX11_lays_34 : decode cX11_lays 34 = .ok (.iconst 1, 1) := by decide +kernel
theorem dX11_lays_35 : decode cX11_lays 35 = .ok (.goto 4, 3) := by decide +kernel
theorem dX11_lays_38 : decode cX11_lays 38 = .ok (.iconst 0, 1) := by decide +kernel
theorem dX11_lays_39 : decode cX11_lays 39 = .ok (.istore 4, 2) := by decide +kernel
theorem dX11_lays_41 : decode cX11_lays 41 = .ok (.iload 4, 2) := by decide +kernel
theorem dX11_lays_43 : decode cX11_lays 43 = .ok (.ifCond .eq 30, 3) := by decide +kernel
theorem dX11_lays_46 : decode cX11_lays 46 = .ok (.aload_n 0, 1) := by decide +kernel
theorem dX11_lays_47 : decode cX11_lays 47 = .ok (.getfield 40, 3) := by decide +kernel
theorem dX11_lays_50 : decode cX11_lays 50 = .ok (.bipush 8, 2) := by decide +kernel
theorem dX11_lays_52 : decode cX11_lays 52 = .ok (.iload_n 3, 1) := by decide +kernel
theorem dX11_lays_53 : decode cX11_lays 53 = .ok (.imul, 1) := by decide +kernel
theorem dX11_lays_54 : decode cX11_lays 54 = .ok (.aload_n 0, 1) := by decide +kernel
theorem dX11_lays_55 : decode cX11_lays 55 = .ok (.getfield 43, 3) := by decide +kernel
theorem dX11_lays_58 : decode cX11_lays 58 = .ok (.iload_n 3, 1) := by decide +kernel
theorem dX11_lays_59 : decode cX11_lays 59 = .ok (.iaload, 1) := by decide +kernel
theorem dX11_lays_60 : decode cX11_lays 60 = .ok (.iadd, 1) := by decide +kernel
theorem dX11_lays_61 : decode cX11_lays 61 = .ok (.iload_n 2, 1) := by decide +kernel
theorem dX11_lays_62 : decode cX11_lays 62 = .ok (.iastore, 1) := by decide +kernel
theorem dX11_lays_63 : decode cX11_lays 63 = .ok (.aload_n 0, 1) := by decide +kernel
theorem dX11_lays_64 : decode cX11_lays 64 = .ok (.getfield 43, 3) := by decide +kernel
theorem dX11_lays_67 : decode cX11_lays 67 = .ok (.iload_n 3, 1) := by decide +kernel
theorem dX11_lays_68 : decode cX11_lays 68 = .ok (.dup2, 1) := by decide +kernel
theorem dX11_lays_69 : decode cX11_lays 69 = .ok (.iaload, 1) := by decide +kernel
theorem dX11_lays_70 : decode cX11_lays 70 = .ok (.iconst 1, 1) := by decide +kernel
theorem dX11_lays_71 : decode cX11_lays 71 = .ok (.iadd, 1) := by decide +kernel
theorem dX11_lays_72 : decode cX11_lays 72 = .ok (.iastore, 1) := by decide +kernel
theorem dX11_lays_73 : decode cX11_lays 73 = .ok (.iload 4, 2) := by decide +kernel
theorem dX11_lays_75 : decode cX11_lays 75 = .ok (.ireturn, 1) := by decide +kernel
theorem dX11_whoseTurn_0 : decode cX11_whoseTurn 0 = .ok (.aload_n 0, 1) := by decide +kernel
theorem dX11_whoseTurn_1 : decode cX11_whoseTurn 1 = .ok (.getfield 37, 3) := by decide +kernel
theorem dX11_whoseTurn_4 : decode cX11_whoseTurn 4 = .ok (.iconst 0, 1) := by decide +kernel
theorem dX11_whoseTurn_5 : decode cX11_whoseTurn 5 = .ok (.iaload, 1) := by decide +kernel
theorem dX11_whoseTurn_6 : decode cX11_whoseTurn 6 = .ok (.iload_n 1, 1) := by decide +kernel
theorem dX11_whoseTurn_7 : decode cX11_whoseTurn 7 = .ok (.iadd, 1) := by decide +kernel
theorem dX11_whoseTurn_8 : decode cX11_whoseTurn 8 = .ok (.iconst 2, 1) := by decide +kernel
theorem dX11_whoseTurn_9 : decode cX11_whoseTurn 9 = .ok (.irem, 1) := by decide +kernel
theorem dX11_whoseTurn_10 : decode cX11_whoseTurn 10 = .ok (.istore_n 2, 1) := by decide +kernel
theorem dX11_whoseTurn_11 : decode cX11_whoseTurn 11 = .ok (.iload_n 1, 1) := by decide +kernel
theorem dX11_whoseTurn_12 : decode cX11_whoseTurn 12 = .ok (.aload_n 0, 1) := by decide +kernel
theorem dX11_whoseTurn_13 : decode cX11_whoseTurn 13 = .ok (.getfield 52, 3) := by decide +kernel
theorem dX11_whoseTurn_16 : decode cX11_whoseTurn 16 = .ok (.if_icmp .ne 17, 3) := by decide +kernel
theorem dX11_whoseTurn_19 : decode cX11_whoseTurn 19 = .ok (.aload_n 0, 1) := by decide +kernel
theorem dX11_whoseTurn_20 : decode cX11_whoseTurn 20 = .ok (.getfield 129, 3) := by decide +kernel
theorem dX11_whoseTurn_23 : decode cX11_whoseTurn 23 = .ok (.iconst 2, 1) := by decide +kernel
theorem dX11_whoseTurn_24 : decode cX11_whoseTurn 24 = .ok (.if_icmp .ne 9, 3) := by decide +kernel
theorem dX11_whoseTurn_27 : decode cX11_whoseTurn 27 = .ok (.iconst 1, 1) := by decide +kernel
theorem dX11_whoseTurn_28 : decode cX11_whoseTurn 28 = .ok (.iload_n 2, 1) := by decide +kernel
theorem dX11_whoseTurn_29 : decode cX11_whoseTurn 29 = .ok (.isub, 1) := by decide +kernel
theorem dX11_whoseTurn_30 : decode cX11_whoseTurn 30 = .ok (.goto 4, 3) := by decide +kernel
theorem dX11_whoseTurn_33 : decode cX11_whoseTurn 33 = .ok (.iload_n 2, 1) := by decide +kernel
theorem dX11_whoseTurn_34 : decode cX11_whoseTurn 34 = .ok (.ireturn, 1) := by decide +kernel
theorem dX11_goes_0 : decode cX11_goes 0 = .ok (.aload_n 0, 1) := by decide +kernel
theorem dX11_goes_1 : decode cX11_goes 1 = .ok (.iload_n 1, 1) := by decide +kernel
theorem dX11_goes_2 : decode cX11_goes 2 = .ok (.invokevirtual 132, 3) := by decide +kernel
theorem dX11_goes_5 : decode cX11_goes 5 = .ok (.istore_n 2, 1) := by decide +kernel
theorem dX11_goes_6 : decode cX11_goes 6 = .ok (.aload_n 0, 1) := by decide +kernel
theorem dX11_goes_7 : decode cX11_goes 7 = .ok (.aload_n 0, 1) := by decide +kernel
theorem dX11_goes_8 : decode cX11_goes 8 = .ok (.getfield 34, 3) := by decide +kernel
theorem dX11_goes_11 : decode cX11_goes 11 = .ok (.bipush 8, 2) := by decide +kernel
theorem dX11_goes_13 : decode cX11_goes 13 = .ok (.iload_n 1, 1) := by decide +kernel
theorem dX11_goes_14 : decode cX11_goes 14 = .ok (.imul, 1) := by decide +kernel
theorem dX11_goes_15 : decode cX11_goes 15 = .ok (.iaload, 1) := by decide +kernel
theorem dX11_goes_16 : decode cX11_goes 16 = .ok (.iconst (-1), 1) := by decide +kernel
theorem dX11_goes_17 : decode cX11_goes 17 = .ok (.if_icmp .eq 39, 3) := by decide +kernel
theorem dX11_goes_20 : decode cX11_goes 20 = .ok (.iload_n 1, 1) := by decide +kernel
theorem dX11_goes_21 : decode cX11_goes 21 = .ok (.aload_n 0, 1) := by decide +kernel
theorem dX11_goes_22 : decode cX11_goes 22 = .ok (.getfield 52, 3) := by decide +kernel
theorem dX11_goes_25 : decode cX11_goes 25 = .ok (.if_icmp .ne 10, 3) := by decide +kernel
theorem dX11_goes_28 : decode cX11_goes 28 = .ok (.aload_n 0, 1) := by decide +kernel
theorem dX11_goes_29 : decode cX11_goes 29 = .ok (.getfield 129, 3) := by decide +kernel
theorem dX11_goes_32 : decode cX11_goes 32 = .ok (.ifCond .eq 24, 3) := by decide +kernel
theorem dX11_goes_35 : decode cX11_goes 35 = .ok (.aload_n 0, 1) := by decide +kernel
theorem dX11_goes_36 : decode cX11_goes 36 = .ok (.iload_n 2, 1) := by decide +kernel
theorem dX11_goes_37 : decode cX11_goes 37 = .ok (.aload_n 0, 1) := by decide +kernel
theorem dX11_goes_38 : decode cX11_goes 38 = .ok (.getfield 34, 3) := by decide +kernel
theorem dX11_goes_41 : decode cX11_goes 41 = .ok (.bipush 8, 2) := by decide +kernel
theorem dX11_goes_43 : decode cX11_goes 43 = .ok (.iload_n 1, 1) := by decide +kernel
theorem dX11_goes_44 : decode cX11_goes 44 = .ok (.imul, 1) := by decide +kernel
theorem dX11_goes_45 : decode cX11_goes 45 = .ok (.iaload, 1) := by decide +kernel
theorem dX11_goes_46 : decode cX11_goes 46 = .ok (.invokevirtual 135, 3) := by decide +kernel
theorem dX11_goes_49 : decode cX11_goes 49 = .ok (.ifCond .eq 7, 3) := by decide +kernel
theorem dX11_goes_52 : decode cX11_goes 52 = .ok (.iconst 1, 1) := by decide +kernel
theorem dX11_goes_53 : decode cX11_goes 53 = .ok (.goto 4, 3) := by decide +kernel
theorem dX11_goes_56 : decode cX11_goes 56 = .ok (.iconst 0, 1) := by decide +kernel
theorem dX11_goes_57 : decode cX11_goes 57 = .ok (.putfield 139, 3) := by decide +kernel
theorem dX11_goes_60 : decode cX11_goes 60 = .ok (.aload_n 0, 1) := by decide +kernel
theorem dX11_goes_61 : decode cX11_goes 61 = .ok (.iconst 0, 1) := by decide +kernel
theorem dX11_goes_62 : decode cX11_goes 62 = .ok (.putfield 142, 3) := by decide +kernel
theorem dX11_goes_65 : decode cX11_goes 65 = .ok (.iconst 0, 1) := by decide +kernel
theorem dX11_goes_66 : decode cX11_goes 66 = .ok (.istore_n 3, 1) := by decide +kernel
theorem dX11_goes_67 : decode cX11_goes 67 = .ok (.iload_n 3, 1) := by decide +kernel
theorem dX11_goes_68 : decode cX11_goes 68 = .ok (.aload_n 0, 1) := by decide +kernel
theorem dX11_goes_69 : decode cX11_goes 69 = .ok (.getfield 34, 3) := by decide +kernel
theorem dX11_goes_72 : decode cX11_goes 72 = .ok (.bipush 8, 2) := by decide +kernel
theorem dX11_goes_74 : decode cX11_goes 74 = .ok (.iload_n 1, 1) := by decide +kernel
theorem dX11_goes_75 : decode cX11_goes 75 = .ok (.imul, 1) := by decide +kernel
theorem dX11_goes_76 : decode cX11_goes 76 = .ok (.iconst 1, 1) := by decide +kernel
theorem dX11_goes_77 : decode cX11_goes 77 = .ok (.iadd, 1) := by decide +kernel
theorem dX11_goes_78 : decode cX11_goes 78 = .ok (.iaload, 1) := by decide +kernel
theorem dX11_goes_79 : decode cX11_goes 79 = .ok (.if_icmp .ge 89, 3) := by decide +kernel
theorem dX11_goes_82 : decode cX11_goes 82 = .ok (.iload_n 1, 1) := by decide +kernel
theorem dX11_goes_83 : decode cX11_goes 83 = .ok (.aload_n 0, 1) := by decide +kernel
theorem dX11_goes_84 : decode cX11_goes 84 = .ok (.getfield 52, 3) := by decide +kernel
theorem dX11_goes_87 : decode cX11_goes 87 = .ok (.if_icmp .ne 11, 3) := by decide +kernel
theorem dX11_goes_90 : decode cX11_goes 90 = .ok (.aload_n 0, 1) := by decide +kernel
theorem dX11_goes_91 : decode cX11_goes 91 = .ok (.getfield 129, 3) := by decide +kernel
theorem dX11_goes_94 : decode cX11_goes 94 = .ok (.iconst 1, 1) := by decide +kernel
theorem dX11_goes_95 : decode cX11_goes 95 = .ok (.if_icmp .eq 7, 3) := by decide +kernel
theorem dX11_goes_98 : decode cX11_goes 98 = .ok (.iconst 1, 1) := by decide +kernel
theorem dX11_goes_99 : decode cX11_goes 99 = .ok (.goto 4, 3) := by decide +kernel
theorem dX11_goes_102 : decode cX11_goes 102 = .ok (.iconst 0, 1) := by decide +kernel
theorem dX11_goes_103 : decode cX11_goes 103 = .ok (.istore 4, 2) := by decide +kernel
theorem dX11_goes_105 : decode cX11_goes 105 = .ok (.aload_n 0, 1) := by decide +kernel
theorem dX11_goes_106 : decode cX11_goes 106 = .ok (.dup, 1) := by decide +kernel
theorem dX11_goes_107 : decode cX11_goes 107 = .ok (.getfield 142, 3) := by decide +kernel
theorem dX11_goes_110 : decode cX11_goes 110 = .ok (.iload 4, 2) := by decide +kernel
theorem dX11_goes_112 : decode cX11_goes 112 = .ok (.ifCond .eq 45, 3) := by decide +kernel
theorem dX11_goes_115 : decode cX11_goes 115 = .ok (.aload_n 0, 1) := by decide +kernel
theorem dX11_goes_116 : decode cX11_goes 116 = .ok (.iload_n 2, 1) := by decide +kernel
theorem dX11_goes_117 : decode cX11_goes 117 = .ok (.aload_n 0, 1) := by decide +kernel
theorem dX11_goes_118 : decode cX11_goes 118 = .ok (.getfield 34, 3) := by decide +kernel
theorem dX11_goes_121 : decode cX11_goes 121 = .ok (.bipush 8, 2) := by decide +kernel
theorem dX11_goes_123 : decode cX11_goes 123 = .ok (.iload_n 1, 1) := by decide +kernel
theorem dX11_goes_124 : decode cX11_goes 124 = .ok (.imul, 1) := by decide +kernel
theorem dX11_goes_125 : decode cX11_goes 125 = .ok (.iconst 2, 1) := by decide +kernel
theorem dX11_goes_126 : decode cX11_goes 126 = .ok (.iadd, 1) := by decide +kernel
theorem dX11_goes_127 : decode cX11_goes 127 = .ok (.iconst 2, 1) := by decide +kernel
theorem dX11_goes_128 : decode cX11_goes 128 = .ok (.iload_n 3, 1) := by decide +kernel
theorem dX11_goes_129 : decode cX11_goes 129 = .ok (.imul, 1) := by decide +kernel
theorem dX11_goes_130 : decode cX11_goes 130 = .ok (.iadd, 1) := by decide +kernel
theorem dX11_goes_131 : decode cX11_goes 131 = .ok (.iaload, 1) := by decide +kernel
theorem dX11_goes_132 : decode cX11_goes 132 = .ok (.aload_n 0, 1) := by decide +kernel
theorem dX11_goes_133 : decode cX11_goes 133 = .ok (.getfield 34, 3) := by decide +kernel
theorem dX11_goes_136 : decode cX11_goes 136 = .ok (.bipush 8, 2) := by decide +kernel
theorem dX11_goes_138 : decode cX11_goes 138 = .ok (.iload_n 1, 1) := by decide +kernel
theorem dX11_goes_139 : decode cX11_goes 139 = .ok (.imul, 1) := by decide +kernel
theorem dX11_goes_140 : decode cX11_goes 140 = .ok (.iconst 3, 1) := by decide +kernel
theorem dX11_goes_141 : decode cX11_goes 141 = .ok (.iadd, 1) := by decide +kernel
theorem dX11_goes_142 : decode cX11_goes 142 = .ok (.iconst 2, 1) := by decide +kernel
theorem dX11_goes_143 : decode cX11_goes 143 = .ok (.iload_n 3, 1) := by decide +kernel
theorem dX11_goes_144 : decode cX11_goes 144 = .ok (.imul, 1) := by decide +kernel
theorem dX11_goes_145 : decode cX11_goes 145 = .ok (.iadd, 1) := by decide +kernel
theorem dX11_goes_146 : decode cX11_goes 146 = .ok (.iaload, 1) := by decide +kernel
theorem dX11_goes_147 : decode cX11_goes 147 = .ok (.invokevirtual 145, 3) := by decide +kernel
theorem dX11_goes_150 : decode cX11_goes 150 = .ok (.ifCond .eq 7, 3) := by decide +kernel
theorem dX11_goes_153 : decode cX11_goes 153 = .ok (.iconst 1, 1) := by decide +kernel
theorem dX11_goes_154 : decode cX11_goes 154 = .ok (.goto 4, 3) := by decide +kernel
theorem dX11_goes_157 : decode cX11_goes 157 = .ok (.iconst 0, 1) := by decide +kernel
theorem dX11_goes_158 : decode cX11_goes 158 = .ok (.iadd, 1) := by decide +kernel
theorem dX11_goes_159 : decode cX11_goes 159 = .ok (.putfield 142, 3) := by decide +kernel
theorem dX11_goes_162 : decode cX11_goes 162 = .ok (.iinc 3 1, 3) := by decide +kernel
theorem dX11_goes_165 : decode cX11_goes 165 = .ok (.goto (-98), 3) := by decide +kernel
theorem dX11_goes_168 : decode cX11_goes 168 = .ok (.return_, 1) := by decide +kernel
theorem dX11_lives_0 : decode cX11_lives 0 = .ok (.aload_n 0, 1) := by decide +kernel
theorem dX11_lives_1 : decode cX11_lives 1 = .ok (.invokevirtual 149, 3) := by decide +kernel
theorem dX11_lives_4 : decode cX11_lives 4 = .ok (.iconst 0, 1) := by decide +kernel
theorem dX11_lives_5 : decode cX11_lives 5 = .ok (.istore_n 2, 1) := by decide +kernel
theorem dX11_lives_6 : decode cX11_lives 6 = .ok (.iload_n 2, 1) := by decide +kernel
theorem dX11_lives_7 : decode cX11_lives 7 = .ok (.iload_n 1, 1) := by decide +kernel
theorem dX11_lives_8 : decode cX11_lives 8 = .ok (.if_icmp .ge 14, 3) := by decide +kernel
theorem dX11_lives_11 : decode cX11_lives 11 = .ok (.aload_n 0, 1) := by decide +kernel
theorem dX11_lives_12 : decode cX11_lives 12 = .ok (.iload_n 2, 1) := by decide +kernel
theorem dX11_lives_13 : decode cX11_lives 13 = .ok (.invokevirtual 152, 3) := by decide +kernel
theorem dX11_lives_16 : decode cX11_lives 16 = .ok (.iinc 2 1, 3) := by decide +kernel
theorem dX11_lives_19 : decode cX11_lives 19 = .ok (.goto (-13), 3) := by decide +kernel
theorem dX11_lives_22 : decode cX11_lives 22 = .ok (.return_, 1) := by decide +kernel
theorem dX11_weight_0 : decode cX11_weight 0 = .ok (.iconst 1, 1) := by decide +kernel
theorem dX11_weight_1 : decode cX11_weight 1 = .ok (.iload_n 0, 1) := by decide +kernel
theorem dX11_weight_2 : decode cX11_weight 2 = .ok (.iconst 2, 1) := by decide +kernel
theorem dX11_weight_3 : decode cX11_weight 3 = .ok (.idiv, 1) := by decide +kernel
theorem dX11_weight_4 : decode cX11_weight 4 = .ok (.iadd, 1) := by decide +kernel
theorem dX11_weight_5 : decode cX11_weight 5 = .ok (.ireturn, 1) := by decide +kernel
theorem dX11_highOf_0 : decode cX11_highOf 0 = .ok (.iconst 0, 1) := by decide +kernel
theorem dX11_highOf_1 : decode cX11_highOf 1 = .ok (.istore_n 2, 1) := by decide +kernel
theorem dX11_highOf_2 : decode cX11_highOf 2 = .ok (.iconst 0, 1) := by decide +kernel
theorem dX11_highOf_3 : decode cX11_highOf 3 = .ok (.istore_n 3, 1) := by decide +kernel
theorem dX11_highOf_4 : decode cX11_highOf 4 = .ok (.iload_n 3, 1) := by decide +kernel
theorem dX11_highOf_5 : decode cX11_highOf 5 = .ok (.aload_n 0, 1) := by decide +kernel
theorem dX11_highOf_6 : decode cX11_highOf 6 = .ok (.getfield 43, 3) := by decide +kernel
theorem dX11_highOf_9 : decode cX11_highOf 9 = .ok (.iload_n 1, 1) := by decide +kernel
theorem dX11_highOf_10 : decode cX11_highOf 10 = .ok (.iaload, 1) := by decide +kernel
theorem dX11_highOf_11 : decode cX11_highOf 11 = .ok (.if_icmp .ge 26, 3) := by decide +kernel
theorem dX11_highOf_14 : decode cX11_highOf 14 = .ok (.iload_n 2, 1) := by decide +kernel
theorem dX11_highOf_15 : decode cX11_highOf 15 = .ok (.aload_n 0, 1) := by decide +kernel
theorem dX11_highOf_16 : decode cX11_highOf 16 = .ok (.getfield 40, 3) := by decide +kernel
theorem dX11_highOf_19 : decode cX11_highOf 19 = .ok (.bipush 8, 2) := by decide +kernel
theorem dX11_highOf_21 : decode cX11_highOf 21 = .ok (.iload_n 1, 1) := by decide +kernel
theorem dX11_highOf_22 : decode cX11_highOf 22 = .ok (.imul, 1) := by decide +kernel
theorem dX11_highOf_23 : decode cX11_highOf 23 = .ok (.iload_n 3, 1) := by decide +kernel
theorem dX11_highOf_24 : decode cX11_highOf 24 = .ok (.iadd, 1) := by decide +kernel
theorem dX11_highOf_25 : decode cX11_highOf 25 = .ok (.iaload, 1) := by decide +kernel
theorem dX11_highOf_26 : decode cX11_highOf 26 = .ok (.invokestatic 156, 3) := by decide +kernel
theorem dX11_highOf_29 : decode cX11_highOf 29 = .ok (.iadd, 1) := by decide +kernel
theorem dX11_highOf_30 : decode cX11_highOf 30 = .ok (.istore_n 2, 1) := by decide +kernel
theorem dX11_highOf_31 : decode cX11_highOf 31 = .ok (.iinc 3 1, 3) := by decide +kernel
theorem dX11_highOf_34 : decode cX11_highOf 34 = .ok (.goto (-30), 3) := by decide +kernel
theorem dX11_highOf_37 : decode cX11_highOf 37 = .ok (.iload_n 2, 1) := by decide +kernel
theorem dX11_highOf_38 : decode cX11_highOf 38 = .ok (.ireturn, 1) := by decide +kernel
theorem dX11_leanOf_0 : decode cX11_leanOf 0 = .ok (.iconst 0, 1) := by decide +kernel
theorem dX11_leanOf_1 : decode cX11_leanOf 1 = .ok (.istore_n 2, 1) := by decide +kernel
theorem dX11_leanOf_2 : decode cX11_leanOf 2 = .ok (.iconst 0, 1) := by decide +kernel
theorem dX11_leanOf_3 : decode cX11_leanOf 3 = .ok (.istore_n 3, 1) := by decide +kernel
theorem dX11_leanOf_4 : decode cX11_leanOf 4 = .ok (.iload_n 3, 1) := by decide +kernel
theorem dX11_leanOf_5 : decode cX11_leanOf 5 = .ok (.aload_n 0, 1) := by decide +kernel
theorem dX11_leanOf_6 : decode cX11_leanOf 6 = .ok (.getfield 43, 3) := by decide +kernel
theorem dX11_leanOf_9 : decode cX11_leanOf 9 = .ok (.iload_n 1, 1) := by decide +kernel
theorem dX11_leanOf_10 : decode cX11_leanOf 10 = .ok (.iaload, 1) := by decide +kernel
theorem dX11_leanOf_11 : decode cX11_leanOf 11 = .ok (.if_icmp .ge 46, 3) := by decide +kernel
theorem dX11_leanOf_14 : decode cX11_leanOf 14 = .ok (.aload_n 0, 1) := by decide +kernel
theorem dX11_leanOf_15 : decode cX11_leanOf 15 = .ok (.getfield 40, 3) := by decide +kernel
theorem dX11_leanOf_18 : decode cX11_leanOf 18 = .ok (.bipush 8, 2) := by decide +kernel
theorem dX11_leanOf_20 : decode cX11_leanOf 20 = .ok (.iload_n 1, 1) := by decide +kernel
theorem dX11_leanOf_21 : decode cX11_leanOf 21 = .ok (.imul, 1) := by decide +kernel
theorem dX11_leanOf_22 : decode cX11_leanOf 22 = .ok (.iload_n 3, 1) := by decide +kernel
theorem dX11_leanOf_23 : decode cX11_leanOf 23 = .ok (.iadd, 1) := by decide +kernel
theorem dX11_leanOf_24 : decode cX11_leanOf 24 = .ok (.iaload, 1) := by decide +kernel
theorem dX11_leanOf_25 : decode cX11_leanOf 25 = .ok (.istore 4, 2) := by decide +kernel
theorem dX11_leanOf_27 : decode cX11_leanOf 27 = .ok (.iload_n 2, 1) := by decide +kernel
theorem dX11_leanOf_28 : decode cX11_leanOf 28 = .ok (.iload 4, 2) := by decide +kernel
theorem dX11_leanOf_30 : decode cX11_leanOf 30 = .ok (.iconst 2, 1) := by decide +kernel
theorem dX11_leanOf_31 : decode cX11_leanOf 31 = .ok (.irem, 1) := by decide +kernel
theorem dX11_leanOf_32 : decode cX11_leanOf 32 = .ok (.ifCond .ne 11, 3) := by decide +kernel
theorem dX11_leanOf_35 : decode cX11_leanOf 35 = .ok (.iload 4, 2) := by decide +kernel
theorem dX11_leanOf_37 : decode cX11_leanOf 37 = .ok (.invokestatic 156, 3) := by decide +kernel
theorem dX11_leanOf_40 : decode cX11_leanOf 40 = .ok (.goto 9, 3) := by decide +kernel
theorem dX11_leanOf_43 : decode cX11_leanOf 43 = .ok (.iload 4, 2) := by decide +kernel
theorem dX11_leanOf_45 : decode cX11_leanOf 45 = .ok (.invokestatic 156, 3) := by decide +kernel
theorem dX11_leanOf_48 : decode cX11_leanOf 48 = .ok (.ineg, 1) := by decide +kernel
theorem dX11_leanOf_49 : decode cX11_leanOf 49 = .ok (.iadd, 1) := by decide +kernel
theorem dX11_leanOf_50 : decode cX11_leanOf 50 = .ok (.istore_n 2, 1) := by decide +kernel
theorem dX11_leanOf_51 : decode cX11_leanOf 51 = .ok (.iinc 3 1, 3) := by decide +kernel
theorem dX11_leanOf_54 : decode cX11_leanOf 54 = .ok (.goto (-50), 3) := by decide +kernel
theorem dX11_leanOf_57 : decode cX11_leanOf 57 = .ok (.iload_n 2, 1) := by decide +kernel
theorem dX11_leanOf_58 : decode cX11_leanOf 58 = .ok (.ireturn, 1) := by decide +kernel
theorem dX11_beside_0 : decode cX11_beside 0 = .ok (.iload_n 1, 1) := by decide +kernel
theorem dX11_beside_1 : decode cX11_beside 1 = .ok (.ifCond .le 13, 3) := by decide +kernel
theorem dX11_beside_4 : decode cX11_beside 4 = .ok (.aload_n 0, 1) := by decide +kernel
theorem dX11_beside_5 : decode cX11_beside 5 = .ok (.iload_n 1, 1) := by decide +kernel
theorem dX11_beside_6 : decode cX11_beside 6 = .ok (.iconst 1, 1) := by decide +kernel
theorem dX11_beside_7 : decode cX11_beside 7 = .ok (.isub, 1) := by decide +kernel
theorem dX11_beside_8 : decode cX11_beside 8 = .ok (.invokevirtual 159, 3) := by decide +kernel
theorem dX11_beside_11 : decode cX11_beside 11 = .ok (.goto 4, 3) := by decide +kernel
theorem dX11_beside_14 : decode cX11_beside 14 = .ok (.iconst 0, 1) := by decide +kernel
theorem dX11_beside_15 : decode cX11_beside 15 = .ok (.istore_n 2, 1) := by decide +kernel
theorem dX11_beside_16 : decode cX11_beside 16 = .ok (.iload_n 1, 1) := by decide +kernel
theorem dX11_beside_17 : decode cX11_beside 17 = .ok (.iconst 1, 1) := by decide +kernel
theorem dX11_beside_18 : decode cX11_beside 18 = .ok (.iadd, 1) := by decide +kernel
theorem dX11_beside_19 : decode cX11_beside 19 = .ok (.aload_n 0, 1) := by decide +kernel
theorem dX11_beside_20 : decode cX11_beside 20 = .ok (.getfield 91, 3) := by decide +kernel
theorem dX11_beside_23 : decode cX11_beside 23 = .ok (.if_icmp .ge 13, 3) := by decide +kernel
theorem dX11_beside_26 : decode cX11_beside 26 = .ok (.aload_n 0, 1) := by decide +kernel
theorem dX11_beside_27 : decode cX11_beside 27 = .ok (.iload_n 1, 1) := by decide +kernel
theorem dX11_beside_28 : decode cX11_beside 28 = .ok (.iconst 1, 1) := by decide +kernel
theorem dX11_beside_29 : decode cX11_beside 29 = .ok (.iadd, 1) := by decide +kernel
theorem dX11_beside_30 : decode cX11_beside 30 = .ok (.invokevirtual 159, 3) := by decide +kernel
theorem dX11_beside_33 : decode cX11_beside 33 = .ok (.goto 4, 3) := by decide +kernel
theorem dX11_beside_36 : decode cX11_beside 36 = .ok (.iconst 0, 1) := by decide +kernel
theorem dX11_beside_37 : decode cX11_beside 37 = .ok (.istore_n 3, 1) := by decide +kernel
theorem dX11_beside_38 : decode cX11_beside 38 = .ok (.iload_n 2, 1) := by decide +kernel
theorem dX11_beside_39 : decode cX11_beside 39 = .ok (.iload_n 3, 1) := by decide +kernel
theorem dX11_beside_40 : decode cX11_beside 40 = .ok (.if_icmp .le 7, 3) := by decide +kernel
theorem dX11_beside_43 : decode cX11_beside 43 = .ok (.iload_n 2, 1) := by decide +kernel
theorem dX11_beside_44 : decode cX11_beside 44 = .ok (.goto 4, 3) := by decide +kernel
theorem dX11_beside_47 : decode cX11_beside 47 = .ok (.iload_n 3, 1) := by decide +kernel
theorem dX11_beside_48 : decode cX11_beside 48 = .ok (.ireturn, 1) := by decide +kernel
theorem dX11_weakNow_0 : decode cX11_weakNow 0 = .ok (.iconst 0, 1) := by decide +kernel
theorem dX11_weakNow_1 : decode cX11_weakNow 1 = .ok (.istore_n 1, 1) := by decide +kernel
theorem dX11_weakNow_2 : decode cX11_weakNow 2 = .ok (.iconst 0, 1) := by decide +kernel
theorem dX11_weakNow_3 : decode cX11_weakNow 3 = .ok (.istore_n 2, 1) := by decide +kernel
theorem dX11_weakNow_4 : decode cX11_weakNow 4 = .ok (.iload_n 2, 1) := by decide +kernel
theorem dX11_weakNow_5 : decode cX11_weakNow 5 = .ok (.aload_n 0, 1) := by decide +kernel
theorem dX11_weakNow_6 : decode cX11_weakNow 6 = .ok (.getfield 91, 3) := by decide +kernel
theorem dX11_weakNow_9 : decode cX11_weakNow 9 = .ok (.if_icmp .ge 73, 3) := by decide +kernel
theorem dX11_weakNow_12 : decode cX11_weakNow 12 = .ok (.aload_n 0, 1) := by decide +kernel
theorem dX11_weakNow_13 : decode cX11_weakNow 13 = .ok (.iload_n 2, 1) := by decide +kernel
theorem dX11_weakNow_14 : decode cX11_weakNow 14 = .ok (.invokevirtual 159, 3) := by decide +kernel
theorem dX11_weakNow_17 : decode cX11_weakNow 17 = .ok (.aload_n 0, 1) := by decide +kernel
theorem dX11_weakNow_18 : decode cX11_weakNow 18 = .ok (.iload_n 2, 1) := by decide +kernel
theorem dX11_weakNow_19 : decode cX11_weakNow 19 = .ok (.invokevirtual 162, 3) := by decide +kernel
theorem dX11_weakNow_22 : decode cX11_weakNow 22 = .ok (.isub, 1) := by decide +kernel
theorem dX11_weakNow_23 : decode cX11_weakNow 23 = .ok (.aload_n 0, 1) := by decide +kernel
theorem dX11_weakNow_24 : decode cX11_weakNow 24 = .ok (.getfield 37, 3) := by decide +kernel
theorem dX11_weakNow_27 : decode cX11_weakNow 27 = .ok (.iconst 1, 1) := by decide +kernel
theorem dX11_weakNow_28 : decode cX11_weakNow 28 = .ok (.iaload, 1) := by decide +kernel
theorem dX11_weakNow_29 : decode cX11_weakNow 29 = .ok (.aload_n 0, 1) := by decide +kernel
theorem dX11_weakNow_30 : decode cX11_weakNow 30 = .ok (.getfield 37, 3) := by decide +kernel
theorem dX11_weakNow_33 : decode cX11_weakNow 33 = .ok (.iconst 2, 1) := by decide +kernel
theorem dX11_weakNow_34 : decode cX11_weakNow 34 = .ok (.iaload, 1) := by decide +kernel
theorem dX11_weakNow_35 : decode cX11_weakNow 35 = .ok (.isub, 1) := by decide +kernel
theorem dX11_weakNow_36 : decode cX11_weakNow 36 = .ok (.if_icmp .gt 20, 3) := by decide +kernel
theorem dX11_weakNow_39 : decode cX11_weakNow 39 = .ok (.aload_n 0, 1) := by decide +kernel
theorem dX11_weakNow_40 : decode cX11_weakNow 40 = .ok (.iload_n 2, 1) := by decide +kernel
theorem dX11_weakNow_41 : decode cX11_weakNow 41 = .ok (.invokevirtual 165, 3) := by decide +kernel
theorem dX11_weakNow_44 : decode cX11_weakNow 44 = .ok (.invokestatic 168, 3) := by decide +kernel
theorem dX11_weakNow_47 : decode cX11_weakNow 47 = .ok (.aload_n 0, 1) := by decide +kernel
theorem dX11_weakNow_48 : decode cX11_weakNow 48 = .ok (.getfield 37, 3) := by decide +kernel
theorem dX11_weakNow_51 : decode cX11_weakNow 51 = .ok (.iconst 3, 1) := by decide +kernel
theorem dX11_weakNow_52 : decode cX11_weakNow 52 = .ok (.iaload, 1) := by decide +kernel
theorem dX11_weakNow_53 : decode cX11_weakNow 53 = .ok (.if_icmp .le 7, 3) := by decide +kernel
theorem dX11_weakNow_56 : decode cX11_weakNow 56 = .ok (.iconst 1, 1) := by decide +kernel
theorem dX11_weakNow_57 : decode cX11_weakNow 57 = .ok (.goto 4, 3) := by decide +kernel
theorem dX11_weakNow_60 : decode cX11_weakNow 60 = .ok (.iconst 0, 1) := by decide +kernel
theorem dX11_weakNow_61 : decode cX11_weakNow 61 = .ok (.istore_n 3, 1) := by decide +kernel
theorem dX11_weakNow_62 : decode cX11_weakNow 62 = .ok (.iload_n 1, 1) := by decide +kernel
theorem dX11_weakNow_63 : decode cX11_weakNow 63 = .ok (.iload_n 3, 1) := by decide +kernel
theorem dX11_weakNow_64 : decode cX11_weakNow 64 = .ok (.ifCond .eq 9, 3) := by decide +kernel
theorem dX11_weakNow_67 : decode cX11_weakNow 67 = .ok (.iconst 1, 1) := by decide +kernel
theorem dX11_weakNow_68 : decode cX11_weakNow 68 = .ok (.iload_n 2, 1) := by decide +kernel
theorem dX11_weakNow_69 : decode cX11_weakNow 69 = .ok (.ishl, 1) := by decide +kernel
theorem dX11_weakNow_70 : decode cX11_weakNow 70 = .ok (.goto 4, 3) := by decide +kernel
theorem dX11_weakNow_73 : decode cX11_weakNow 73 = .ok (.iconst 0, 1) := by decide +kernel
theorem dX11_weakNow_74 : decode cX11_weakNow 74 = .ok (.ior, 1) := by decide +kernel
theorem dX11_weakNow_75 : decode cX11_weakNow 75 = .ok (.istore_n 1, 1) := by decide +kernel
theorem dX11_weakNow_76 : decode cX11_weakNow 76 = .ok (.iinc 2 1, 3) := by decide +kernel
theorem dX11_weakNow_79 : decode cX11_weakNow 79 = .ok (.goto (-75), 3) := by decide +kernel
theorem dX11_weakNow_82 : decode cX11_weakNow 82 = .ok (.iload_n 1, 1) := by decide +kernel
theorem dX11_weakNow_83 : decode cX11_weakNow 83 = .ok (.ireturn, 1) := by decide +kernel
theorem dX11_pearsNow_0 : decode cX11_pearsNow 0 = .ok (.iconst 0, 1) := by decide +kernel
theorem dX11_pearsNow_1 : decode cX11_pearsNow 1 = .ok (.istore_n 1, 1) := by decide +kernel
theorem dX11_pearsNow_2 : decode cX11_pearsNow 2 = .ok (.iconst 0, 1) := by decide +kernel
theorem dX11_pearsNow_3 : decode cX11_pearsNow 3 = .ok (.istore_n 2, 1) := by decide +kernel
theorem dX11_pearsNow_4 : decode cX11_pearsNow 4 = .ok (.iload_n 2, 1) := by decide +kernel
theorem dX11_pearsNow_5 : decode cX11_pearsNow 5 = .ok (.aload_n 0, 1) := by decide +kernel
theorem dX11_pearsNow_6 : decode cX11_pearsNow 6 = .ok (.getfield 91, 3) := by decide +kernel
theorem dX11_pearsNow_9 : decode cX11_pearsNow 9 = .ok (.if_icmp .ge 44, 3) := by decide +kernel
theorem dX11_pearsNow_12 : decode cX11_pearsNow 12 = .ok (.iload_n 1, 1) := by decide +kernel
theorem dX11_pearsNow_13 : decode cX11_pearsNow 13 = .ok (.aload_n 0, 1) := by decide +kernel
theorem dX11_pearsNow_14 : decode cX11_pearsNow 14 = .ok (.getfield 37, 3) := by decide +kernel
theorem dX11_pearsNow_17 : decode cX11_pearsNow 17 = .ok (.iconst 5, 1) := by decide +kernel
theorem dX11_pearsNow_18 : decode cX11_pearsNow 18 = .ok (.iaload, 1) := by decide +kernel
theorem dX11_pearsNow_19 : decode cX11_pearsNow 19 = .ok (.iload_n 2, 1) := by decide +kernel
theorem dX11_pearsNow_20 : decode cX11_pearsNow 20 = .ok (.invokestatic 171, 3) := by decide +kernel
theorem dX11_pearsNow_23 : decode cX11_pearsNow 23 = .ok (.ifCond .eq 21, 3) := by decide +kernel
theorem dX11_pearsNow_26 : decode cX11_pearsNow 26 = .ok (.aload_n 0, 1) := by decide +kernel
theorem dX11_pearsNow_27 : decode cX11_pearsNow 27 = .ok (.iload_n 2, 1) := by decide +kernel
theorem dX11_pearsNow_28 : decode cX11_pearsNow 28 = .ok (.invokevirtual 159, 3) := by decide +kernel
theorem dX11_pearsNow_31 : decode cX11_pearsNow 31 = .ok (.aload_n 0, 1) := by decide +kernel
theorem dX11_pearsNow_32 : decode cX11_pearsNow 32 = .ok (.getfield 37, 3) := by decide +kernel
theorem dX11_pearsNow_35 : decode cX11_pearsNow 35 = .ok (.iconst 4, 1) := by decide +kernel
theorem dX11_pearsNow_36 : decode cX11_pearsNow 36 = .ok (.iaload, 1) := by decide +kernel
theorem dX11_pearsNow_37 : decode cX11_pearsNow 37 = .ok (.if_icmp .gt 7, 3) := by decide +kernel
theorem dX11_pearsNow_40 : decode cX11_pearsNow 40 = .ok (.iconst 1, 1) := by decide +kernel
theorem dX11_pearsNow_41 : decode cX11_pearsNow 41 = .ok (.goto 4, 3) := by decide +kernel
theorem dX11_pearsNow_44 : decode cX11_pearsNow 44 = .ok (.iconst 0, 1) := by decide +kernel
theorem dX11_pearsNow_45 : decode cX11_pearsNow 45 = .ok (.iadd, 1) := by decide +kernel
theorem dX11_pearsNow_46 : decode cX11_pearsNow 46 = .ok (.istore_n 1, 1) := by decide +kernel
theorem dX11_pearsNow_47 : decode cX11_pearsNow 47 = .ok (.iinc 2 1, 3) := by decide +kernel
theorem dX11_pearsNow_50 : decode cX11_pearsNow 50 = .ok (.goto (-46), 3) := by decide +kernel
theorem dX11_pearsNow_53 : decode cX11_pearsNow 53 = .ok (.iload_n 1, 1) := by decide +kernel
theorem dX11_pearsNow_54 : decode cX11_pearsNow 54 = .ok (.ireturn, 1) := by decide +kernel
theorem dX11_weighs_0 : decode cX11_weighs 0 = .ok (.iconst 0, 1) := by decide +kernel
theorem dX11_weighs_1 : decode cX11_weighs 1 = .ok (.istore_n 2, 1) := by decide +kernel
theorem dX11_weighs_2 : decode cX11_weighs 2 = .ok (.iconst 0, 1) := by decide +kernel
theorem dX11_weighs_3 : decode cX11_weighs 3 = .ok (.istore_n 3, 1) := by decide +kernel
theorem dX11_weighs_4 : decode cX11_weighs 4 = .ok (.iload_n 3, 1) := by decide +kernel
theorem dX11_weighs_5 : decode cX11_weighs 5 = .ok (.aload_n 0, 1) := by decide +kernel
theorem dX11_weighs_6 : decode cX11_weighs 6 = .ok (.getfield 91, 3) := by decide +kernel
theorem dX11_weighs_9 : decode cX11_weighs 9 = .ok (.if_icmp .ge 63, 3) := by decide +kernel
theorem dX11_weighs_12 : decode cX11_weighs 12 = .ok (.iconst 0, 1) := by decide +kernel
theorem dX11_weighs_13 : decode cX11_weighs 13 = .ok (.istore 4, 2) := by decide +kernel
theorem dX11_weighs_15 : decode cX11_weighs 15 = .ok (.iload 4, 2) := by decide +kernel
theorem dX11_weighs_17 : decode cX11_weighs 17 = .ok (.aload_n 0, 1) := by decide +kernel
theorem dX11_weighs_18 : decode cX11_weighs 18 = .ok (.getfield 43, 3) := by decide +kernel
theorem dX11_weighs_21 : decode cX11_weighs 21 = .ok (.iload_n 3, 1) := by decide +kernel
theorem dX11_weighs_22 : decode cX11_weighs 22 = .ok (.iaload, 1) := by decide +kernel
theorem dX11_weighs_23 : decode cX11_weighs 23 = .ok (.if_icmp .ge 43, 3) := by decide +kernel
theorem dX11_weighs_26 : decode cX11_weighs 26 = .ok (.aload_n 0, 1) := by decide +kernel
theorem dX11_weighs_27 : decode cX11_weighs 27 = .ok (.getfield 40, 3) := by decide +kernel
theorem dX11_weighs_30 : decode cX11_weighs 30 = .ok (.bipush 8, 2) := by decide +kernel
theorem dX11_weighs_32 : decode cX11_weighs 32 = .ok (.iload_n 3, 1) := by decide +kernel
theorem dX11_weighs_33 : decode cX11_weighs 33 = .ok (.imul, 1) := by decide +kernel
theorem dX11_weighs_34 : decode cX11_weighs 34 = .ok (.iload 4, 2) := by decide +kernel
theorem dX11_weighs_36 : decode cX11_weighs 36 = .ok (.iadd, 1) := by decide +kernel
theorem dX11_weighs_37 : decode cX11_weighs 37 = .ok (.iaload, 1) := by decide +kernel
theorem dX11_weighs_38 : decode cX11_weighs 38 = .ok (.istore 5, 2) := by decide +kernel
theorem dX11_weighs_40 : decode cX11_weighs 40 = .ok (.iload_n 2, 1) := by decide +kernel
theorem dX11_weighs_41 : decode cX11_weighs 41 = .ok (.iload 5, 2) := by decide +kernel
theorem dX11_weighs_43 : decode cX11_weighs 43 = .ok (.iconst 2, 1) := by decide +kernel
theorem dX11_weighs_44 : decode cX11_weighs 44 = .ok (.irem, 1) := by decide +kernel
theorem dX11_weighs_45 : decode cX11_weighs 45 = .ok (.iload_n 1, 1) := by decide +kernel
theorem dX11_weighs_46 : decode cX11_weighs 46 = .ok (.if_icmp .ne 11, 3) := by decide +kernel
theorem dX11_weighs_49 : decode cX11_weighs 49 = .ok (.iload 5, 2) := by decide +kernel
theorem dX11_weighs_51 : decode cX11_weighs 51 = .ok (.invokestatic 156, 3) := by decide +kernel
theorem dX11_weighs_54 : decode cX11_weighs 54 = .ok (.goto 4, 3) := by decide +kernel
theorem dX11_weighs_57 : decode cX11_weighs 57 = .ok (.iconst 0, 1) := by decide +kernel
theorem dX11_weighs_58 : decode cX11_weighs 58 = .ok (.iadd, 1) := by decide +kernel
theorem dX11_weighs_59 : decode cX11_weighs 59 = .ok (.istore_n 2, 1) := by decide +kernel
theorem dX11_weighs_60 : decode cX11_weighs 60 = .ok (.iinc 4 1, 3) := by decide +kernel
theorem dX11_weighs_63 : decode cX11_weighs 63 = .ok (.goto (-48), 3) := by decide +kernel
theorem dX11_weighs_66 : decode cX11_weighs 66 = .ok (.iinc 3 1, 3) := by decide +kernel
theorem dX11_weighs_69 : decode cX11_weighs 69 = .ok (.goto (-65), 3) := by decide +kernel
theorem dX11_weighs_72 : decode cX11_weighs 72 = .ok (.iload_n 2, 1) := by decide +kernel
theorem dX11_weighs_73 : decode cX11_weighs 73 = .ok (.ireturn, 1) := by decide +kernel
theorem dX11_areTurns_0 : decode cX11_areTurns 0 = .ok (.iload_n 1, 1) := by decide +kernel
theorem dX11_areTurns_1 : decode cX11_areTurns 1 = .ok (.i2l, 1) := by decide +kernel
theorem dX11_areTurns_2 : decode cX11_areTurns 2 = .ok (.lconst 0, 1) := by decide +kernel
theorem dX11_areTurns_3 : decode cX11_areTurns 3 = .ok (.aload_n 0, 1) := by decide +kernel
theorem dX11_areTurns_4 : decode cX11_areTurns 4 = .ok (.getfield 108, 3) := by decide +kernel
theorem dX11_areTurns_7 : decode cX11_areTurns 7 = .ok (.i2l, 1) := by decide +kernel
theorem dX11_areTurns_8 : decode cX11_areTurns 8 = .ok (.invokestatic 58, 3) := by decide +kernel
theorem dX11_areTurns_11 : decode cX11_areTurns 11 = .ok (.ireturn, 1) := by decide +kernel
theorem dX11_isColumn_0 : decode cX11_isColumn 0 = .ok (.iload_n 1, 1) := by decide +kernel
theorem dX11_isColumn_1 : decode cX11_isColumn 1 = .ok (.i2l, 1) := by decide +kernel
theorem dX11_isColumn_2 : decode cX11_isColumn 2 = .ok (.lconst 0, 1) := by decide +kernel
theorem dX11_isColumn_3 : decode cX11_isColumn 3 = .ok (.aload_n 0, 1) := by decide +kernel
theorem dX11_isColumn_4 : decode cX11_isColumn 4 = .ok (.getfield 91, 3) := by decide +kernel
theorem dX11_isColumn_7 : decode cX11_isColumn 7 = .ok (.iconst 1, 1) := by decide +kernel
theorem dX11_isColumn_8 : decode cX11_isColumn 8 = .ok (.isub, 1) := by decide +kernel
theorem dX11_isColumn_9 : decode cX11_isColumn 9 = .ok (.i2l, 1) := by decide +kernel
theorem dX11_isColumn_10 : decode cX11_isColumn 10 = .ok (.invokestatic 58, 3) := by decide +kernel
theorem dX11_isColumn_13 : decode cX11_isColumn 13 = .ok (.ireturn, 1) := by decide +kernel
theorem dX11_heightOf_0 : decode cX11_heightOf 0 = .ok (.aload_n 0, 1) := by decide +kernel
theorem dX11_heightOf_1 : decode cX11_heightOf 1 = .ok (.iload_n 1, 1) := by decide +kernel
theorem dX11_heightOf_2 : decode cX11_heightOf 2 = .ok (.invokevirtual 174, 3) := by decide +kernel
theorem dX11_heightOf_5 : decode cX11_heightOf 5 = .ok (.aload_n 0, 1) := by decide +kernel
theorem dX11_heightOf_6 : decode cX11_heightOf 6 = .ok (.iload_n 2, 1) := by decide +kernel
theorem dX11_heightOf_7 : decode cX11_heightOf 7 = .ok (.invokevirtual 159, 3) := by decide +kernel
theorem dX11_heightOf_10 : decode cX11_heightOf 10 = .ok (.ireturn, 1) := by decide +kernel
theorem dX11_height_0 : decode cX11_height 0 = .ok (.aload_n 0, 1) := by decide +kernel
theorem dX11_height_1 : decode cX11_height 1 = .ok (.invokevirtual 177, 3) := by decide +kernel
theorem dX11_height_4 : decode cX11_height 4 = .ok (.aload_n 0, 1) := by decide +kernel
theorem dX11_height_5 : decode cX11_height 5 = .ok (.iload_n 1, 1) := by decide +kernel
theorem dX11_height_6 : decode cX11_height 6 = .ok (.invokevirtual 180, 3) := by decide +kernel
theorem dX11_height_9 : decode cX11_height 9 = .ok (.ifCond .eq 20, 3) := by decide +kernel
theorem dX11_height_12 : decode cX11_height 12 = .ok (.aload_n 0, 1) := by decide +kernel
theorem dX11_height_13 : decode cX11_height 13 = .ok (.iload_n 2, 1) := by decide +kernel
theorem dX11_height_14 : decode cX11_height 14 = .ok (.invokevirtual 183, 3) := by decide +kernel
theorem dX11_height_17 : decode cX11_height 17 = .ok (.ifCond .eq 12, 3) := by decide +kernel
theorem dX11_height_20 : decode cX11_height 20 = .ok (.aload_n 0, 1) := by decide +kernel
theorem dX11_height_21 : decode cX11_height 21 = .ok (.iload_n 1, 1) := by decide +kernel
theorem dX11_height_22 : decode cX11_height 22 = .ok (.iload_n 2, 1) := by decide +kernel
theorem dX11_height_23 : decode cX11_height 23 = .ok (.invokevirtual 186, 3) := by decide +kernel
theorem dX11_height_26 : decode cX11_height 26 = .ok (.goto 5, 3) := by decide +kernel
theorem dX11_height_29 : decode cX11_height 29 = .ok (.bipush (-2), 2) := by decide +kernel
theorem dX11_height_31 : decode cX11_height 31 = .ok (.ireturn, 1) := by decide +kernel
theorem dX11_leanBehind_0 : decode cX11_leanBehind 0 = .ok (.aload_n 0, 1) := by decide +kernel
theorem dX11_leanBehind_1 : decode cX11_leanBehind 1 = .ok (.iload_n 1, 1) := by decide +kernel
theorem dX11_leanBehind_2 : decode cX11_leanBehind 2 = .ok (.invokevirtual 174, 3) := by decide +kernel
theorem dX11_leanBehind_5 : decode cX11_leanBehind 5 = .ok (.aload_n 0, 1) := by decide +kernel
theorem dX11_leanBehind_6 : decode cX11_leanBehind 6 = .ok (.iload_n 2, 1) := by decide +kernel
theorem dX11_leanBehind_7 : decode cX11_leanBehind 7 = .ok (.invokevirtual 165, 3) := by decide +kernel
theorem dX11_leanBehind_10 : decode cX11_leanBehind 10 = .ok (.ireturn, 1) := by decide +kernel
theorem dX11_lean_0 : decode cX11_lean 0 = .ok (.aload_n 0, 1) := by decide +kernel
theorem dX11_lean_1 : decode cX11_lean 1 = .ok (.invokevirtual 177, 3) := by decide +kernel
theorem dX11_lean_4 : decode cX11_lean 4 = .ok (.aload_n 0, 1) := by decide +kernel
theorem dX11_lean_5 : decode cX11_lean 5 = .ok (.iload_n 1, 1) := by decide +kernel
theorem dX11_lean_6 : decode cX11_lean 6 = .ok (.invokevirtual 180, 3) := by decide +kernel
theorem dX11_lean_9 : decode cX11_lean 9 = .ok (.ifCond .eq 20, 3) := by decide +kernel
theorem dX11_lean_12 : decode cX11_lean 12 = .ok (.aload_n 0, 1) := by decide +kernel
theorem dX11_lean_13 : decode cX11_lean 13 = .ok (.iload_n 2, 1) := by decide +kernel
theorem dX11_lean_14 : decode cX11_lean 14 = .ok (.invokevirtual 183, 3) := by decide +kernel
theorem dX11_lean_17 : decode cX11_lean 17 = .ok (.ifCond .eq 12, 3) := by decide +kernel
theorem dX11_lean_20 : decode cX11_lean 20 = .ok (.aload_n 0, 1) := by decide +kernel
theorem dX11_lean_21 : decode cX11_lean 21 = .ok (.iload_n 1, 1) := by decide +kernel
theorem dX11_lean_22 : decode cX11_lean 22 = .ok (.iload_n 2, 1) := by decide +kernel
theorem dX11_lean_23 : decode cX11_lean 23 = .ok (.invokevirtual 189, 3) := by decide +kernel
theorem dX11_lean_26 : decode cX11_lean 26 = .ok (.goto 6, 3) := by decide +kernel
theorem dX11_lean_29 : decode cX11_lean 29 = .ok (.sipush (-1002), 3) := by decide +kernel
theorem dX11_lean_32 : decode cX11_lean 32 = .ok (.ireturn, 1) := by decide +kernel
theorem dX11_stoneBehind_0 : decode cX11_stoneBehind 0 = .ok (.aload_n 0, 1) := by decide +kernel
theorem dX11_stoneBehind_1 : decode cX11_stoneBehind 1 = .ok (.iload_n 1, 1) := by decide +kernel
theorem dX11_stoneBehind_2 : decode cX11_stoneBehind 2 = .ok (.invokevirtual 174, 3) := by decide +kernel
theorem dX11_stoneBehind_5 : decode cX11_stoneBehind 5 = .ok (.iload_n 3, 1) := by decide +kernel
theorem dX11_stoneBehind_6 : decode cX11_stoneBehind 6 = .ok (.iconst (-1), 1) := by decide +kernel
theorem dX11_stoneBehind_7 : decode cX11_stoneBehind 7 = .ok (.if_icmp .ne 12, 3) := by decide +kernel
theorem dX11_stoneBehind_10 : decode cX11_stoneBehind 10 = .ok (.aload_n 0, 1) := by decide +kernel
theorem dX11_stoneBehind_11 : decode cX11_stoneBehind 11 = .ok (.getfield 43, 3) := by decide +kernel
theorem dX11_stoneBehind_14 : decode cX11_stoneBehind 14 = .ok (.iload_n 2, 1) := by decide +kernel
theorem dX11_stoneBehind_15 : decode cX11_stoneBehind 15 = .ok (.iaload, 1) := by decide +kernel
theorem dX11_stoneBehind_16 : decode cX11_stoneBehind 16 = .ok (.goto 28, 3) := by decide +kernel
theorem dX11_stoneBehind_19 : decode cX11_stoneBehind 19 = .ok (.iload_n 3, 1) := by decide +kernel
theorem dX11_stoneBehind_20 : decode cX11_stoneBehind 20 = .ok (.aload_n 0, 1) := by decide +kernel
theorem dX11_stoneBehind_21 : decode cX11_stoneBehind 21 = .ok (.getfield 43, 3) := by decide +kernel
theorem dX11_stoneBehind_24 : decode cX11_stoneBehind 24 = .ok (.iload_n 2, 1) := by decide +kernel
theorem dX11_stoneBehind_25 : decode cX11_stoneBehind 25 = .ok (.iaload, 1) := by decide +kernel
theorem dX11_stoneBehind_26 : decode cX11_stoneBehind 26 = .ok (.if_icmp .ge 17, 3) := by decide +kernel
theorem dX11_stoneBehind_29 : decode cX11_stoneBehind 29 = .ok (.aload_n 0, 1) := by decide +kernel
theorem dX11_stoneBehind_30 : decode cX11_stoneBehind 30 = .ok (.getfield 40, 3) := by decide +kernel
theorem dX11_stoneBehind_33 : decode cX11_stoneBehind 33 = .ok (.bipush 8, 2) := by decide +kernel
theorem dX11_stoneBehind_35 : decode cX11_stoneBehind 35 = .ok (.iload_n 2, 1) := by decide +kernel
theorem dX11_stoneBehind_36 : decode cX11_stoneBehind 36 = .ok (.imul, 1) := by decide +kernel
theorem dX11_stoneBehind_37 : decode cX11_stoneBehind 37 = .ok (.iload_n 3, 1) := by decide +kernel
theorem dX11_stoneBehind_38 : decode cX11_stoneBehind 38 = .ok (.iadd, 1) := by decide +kernel
theorem dX11_stoneBehind_39 : decode cX11_stoneBehind 39 = .ok (.iaload, 1) := by decide +kernel
theorem dX11_stoneBehind_40 : decode cX11_stoneBehind 40 = .ok (.goto 4, 3) := by decide +kernel
theorem dX11_stoneBehind_43 : decode cX11_stoneBehind 43 = .ok (.iconst (-1), 1) := by decide +kernel
theorem dX11_stoneBehind_44 : decode cX11_stoneBehind 44 = .ok (.ireturn, 1) := by decide +kernel
theorem dX11_stone_0 : decode cX11_stone 0 = .ok (.aload_n 0, 1) := by decide +kernel
theorem dX11_stone_1 : decode cX11_stone 1 = .ok (.invokevirtual 177, 3) := by decide +kernel
theorem dX11_stone_4 : decode cX11_stone 4 = .ok (.aload_n 0, 1) := by decide +kernel
theorem dX11_stone_5 : decode cX11_stone 5 = .ok (.iload_n 1, 1) := by decide +kernel
theorem dX11_stone_6 : decode cX11_stone 6 = .ok (.invokevirtual 180, 3) := by decide +kernel
theorem dX11_stone_9 : decode cX11_stone 9 = .ok (.ifCond .eq 35, 3) := by decide +kernel
theorem dX11_stone_12 : decode cX11_stone 12 = .ok (.aload_n 0, 1) := by decide +kernel
theorem dX11_stone_13 : decode cX11_stone 13 = .ok (.iload_n 2, 1) := by decide +kernel
theorem dX11_stone_14 : decode cX11_stone 14 = .ok (.invokevirtual 183, 3) := by decide +kernel
theorem dX11_stone_17 : decode cX11_stone 17 = .ok (.ifCond .eq 27, 3) := by decide +kernel
theorem dX11_stone_20 : decode cX11_stone 20 = .ok (.iload_n 3, 1) := by decide +kernel
theorem dX11_stone_21 : decode cX11_stone 21 = .ok (.i2l, 1) := by decide +kernel
theorem dX11_stone_22 : decode cX11_stone 22 = .ok (.ldc2_w 192, 3) := by decide +kernel
theorem dX11_stone_25 : decode cX11_stone 25 = .ok (.ldc2_w 194, 3) := by decide +kernel
theorem dX11_stone_28 : decode cX11_stone 28 = .ok (.invokestatic 58, 3) := by decide +kernel
theorem dX11_stone_31 : decode cX11_stone 31 = .ok (.ifCond .eq 13, 3) := by decide +kernel
theorem dX11_stone_34 : decode cX11_stone 34 = .ok (.aload_n 0, 1) := by decide +kernel
theorem dX11_stone_35 : decode cX11_stone 35 = .ok (.iload_n 1, 1) := by decide +kernel
theorem dX11_stone_36 : decode cX11_stone 36 = .ok (.iload_n 2, 1) := by decide +kernel
theorem dX11_stone_37 : decode cX11_stone 37 = .ok (.iload_n 3, 1) := by decide +kernel
theorem dX11_stone_38 : decode cX11_stone 38 = .ok (.invokevirtual 196, 3) := by decide +kernel
theorem dX11_stone_41 : decode cX11_stone 41 = .ok (.goto 5, 3) := by decide +kernel
theorem dX11_stone_44 : decode cX11_stone 44 = .ok (.bipush (-2), 2) := by decide +kernel
theorem dX11_stone_46 : decode cX11_stone 46 = .ok (.ireturn, 1) := by decide +kernel
theorem dX11_behindOf_0 : decode cX11_behindOf 0 = .ok (.aload_n 0, 1) := by decide +kernel
theorem dX11_behindOf_1 : decode cX11_behindOf 1 = .ok (.iload_n 1, 1) := by decide +kernel
theorem dX11_behindOf_2 : decode cX11_behindOf 2 = .ok (.invokevirtual 174, 3) := by decide +kernel
theorem dX11_behindOf_5 : decode cX11_behindOf 5 = .ok (.iload_n 2, 1) := by decide +kernel
theorem dX11_behindOf_6 : decode cX11_behindOf 6 = .ok (.ifCond .ne 10, 3) := by decide +kernel
theorem dX11_behindOf_9 : decode cX11_behindOf 9 = .ok (.aload_n 0, 1) := by decide +kernel
theorem dX11_behindOf_10 : decode cX11_behindOf 10 = .ok (.invokevirtual 199, 3) := by decide +kernel
theorem dX11_behindOf_13 : decode cX11_behindOf 13 = .ok (.goto 22, 3) := by decide +kernel
theorem dX11_behindOf_16 : decode cX11_behindOf 16 = .ok (.iload_n 2, 1) := by decide +kernel
theorem dX11_behindOf_17 : decode cX11_behindOf 17 = .ok (.iconst 1, 1) := by decide +kernel
theorem dX11_behindOf_18 : decode cX11_behindOf 18 = .ok (.if_icmp .ne 10, 3) := by decide +kernel
theorem dX11_behindOf_21 : decode cX11_behindOf 21 = .ok (.aload_n 0, 1) := by decide +kernel
theorem dX11_behindOf_22 : decode cX11_behindOf 22 = .ok (.invokevirtual 202, 3) := by decide +kernel
theorem dX11_behindOf_25 : decode cX11_behindOf 25 = .ok (.goto 10, 3) := by decide +kernel
theorem dX11_behindOf_28 : decode cX11_behindOf 28 = .ok (.aload_n 0, 1) := by decide +kernel
theorem dX11_behindOf_29 : decode cX11_behindOf 29 = .ok (.iload_n 2, 1) := by decide +kernel
theorem dX11_behindOf_30 : decode cX11_behindOf 30 = .ok (.iconst 2, 1) := by decide +kernel
theorem dX11_behindOf_31 : decode cX11_behindOf 31 = .ok (.isub, 1) := by decide +kernel
theorem dX11_behindOf_32 : decode cX11_behindOf 32 = .ok (.invokevirtual 205, 3) := by decide +kernel
theorem dX11_behindOf_35 : decode cX11_behindOf 35 = .ok (.ireturn, 1) := by decide +kernel
theorem dX11_behind_0 : decode cX11_behind 0 = .ok (.aload_n 0, 1) := by decide +kernel
theorem dX11_behind_1 : decode cX11_behind 1 = .ok (.invokevirtual 177, 3) := by decide +kernel
theorem dX11_behind_4 : decode cX11_behind 4 = .ok (.aload_n 0, 1) := by decide +kernel
theorem dX11_behind_5 : decode cX11_behind 5 = .ok (.iload_n 1, 1) := by decide +kernel
theorem dX11_behind_6 : decode cX11_behind 6 = .ok (.invokevirtual 180, 3) := by decide +kernel
theorem dX11_behind_9 : decode cX11_behind 9 = .ok (.ifCond .eq 24, 3) := by decide +kernel
theorem dX11_behind_12 : decode cX11_behind 12 = .ok (.iload_n 2, 1) := by decide +kernel
theorem dX11_behind_13 : decode cX11_behind 13 = .ok (.i2l, 1) := by decide +kernel
theorem dX11_behind_14 : decode cX11_behind 14 = .ok (.lconst 0, 1) := by decide +kernel
theorem dX11_behind_15 : decode cX11_behind 15 = .ok (.ldc2_w 65, 3) := by decide +kernel
theorem dX11_behind_18 : decode cX11_behind 18 = .ok (.invokestatic 58, 3) := by decide +kernel
theorem dX11_behind_21 : decode cX11_behind 21 = .ok (.ifCond .eq 12, 3) := by decide +kernel
theorem dX11_behind_24 : decode cX11_behind 24 = .ok (.aload_n 0, 1) := by decide +kernel
theorem dX11_behind_25 : decode cX11_behind 25 = .ok (.iload_n 1, 1) := by decide +kernel
theorem dX11_behind_26 : decode cX11_behind 26 = .ok (.iload_n 2, 1) := by decide +kernel
theorem dX11_behind_27 : decode cX11_behind 27 = .ok (.invokevirtual 208, 3) := by decide +kernel
theorem dX11_behind_30 : decode cX11_behind 30 = .ok (.goto 5, 3) := by decide +kernel
theorem dX11_behind_33 : decode cX11_behind 33 = .ok (.bipush (-2), 2) := by decide +kernel
theorem dX11_behind_35 : decode cX11_behind 35 = .ok (.ireturn, 1) := by decide +kernel
theorem dX11_turnOf_0 : decode cX11_turnOf 0 = .ok (.aload_n 0, 1) := by decide +kernel
theorem dX11_turnOf_1 : decode cX11_turnOf 1 = .ok (.iload_n 1, 1) := by decide +kernel
theorem dX11_turnOf_2 : decode cX11_turnOf 2 = .ok (.iconst 1, 1) := by decide +kernel
theorem dX11_turnOf_3 : decode cX11_turnOf 3 = .ok (.iadd, 1) := by decide +kernel
theorem dX11_turnOf_4 : decode cX11_turnOf 4 = .ok (.invokevirtual 174, 3) := by decide +kernel
theorem dX11_turnOf_7 : decode cX11_turnOf 7 = .ok (.iload_n 2, 1) := by decide +kernel
theorem dX11_turnOf_8 : decode cX11_turnOf 8 = .ok (.ifCond .ne 11, 3) := by decide +kernel
theorem dX11_turnOf_11 : decode cX11_turnOf 11 = .ok (.aload_n 0, 1) := by decide +kernel
theorem dX11_turnOf_12 : decode cX11_turnOf 12 = .ok (.iload_n 1, 1) := by decide +kernel
theorem dX11_turnOf_13 : decode cX11_turnOf 13 = .ok (.invokevirtual 132, 3) := by decide +kernel
theorem dX11_turnOf_16 : decode cX11_turnOf 16 = .ok (.goto 19, 3) := by decide +kernel
theorem dX11_turnOf_19 : decode cX11_turnOf 19 = .ok (.iload_n 2, 1) := by decide +kernel
theorem dX11_turnOf_20 : decode cX11_turnOf 20 = .ok (.iconst 1, 1) := by decide +kernel
theorem dX11_turnOf_21 : decode cX11_turnOf 21 = .ok (.if_icmp .ne 10, 3) := by decide +kernel
theorem dX11_turnOf_24 : decode cX11_turnOf 24 = .ok (.aload_n 0, 1) := by decide +kernel
theorem dX11_turnOf_25 : decode cX11_turnOf 25 = .ok (.getfield 139, 3) := by decide +kernel
theorem dX11_turnOf_28 : decode cX11_turnOf 28 = .ok (.goto 7, 3) := by decide +kernel
theorem dX11_turnOf_31 : decode cX11_turnOf 31 = .ok (.aload_n 0, 1) := by decide +kernel
theorem dX11_turnOf_32 : decode cX11_turnOf 32 = .ok (.getfield 142, 3) := by decide +kernel
theorem dX11_turnOf_35 : decode cX11_turnOf 35 = .ok (.ireturn, 1) := by decide +kernel
theorem dX11_turn_0 : decode cX11_turn 0 = .ok (.aload_n 0, 1) := by decide +kernel
theorem dX11_turn_1 : decode cX11_turn 1 = .ok (.invokevirtual 177, 3) := by decide +kernel
theorem dX11_turn_4 : decode cX11_turn 4 = .ok (.iload_n 1, 1) := by decide +kernel
theorem dX11_turn_5 : decode cX11_turn 5 = .ok (.i2l, 1) := by decide +kernel
theorem dX11_turn_6 : decode cX11_turn 6 = .ok (.lconst 0, 1) := by decide +kernel
theorem dX11_turn_7 : decode cX11_turn 7 = .ok (.aload_n 0, 1) := by decide +kernel
theorem dX11_turn_8 : decode cX11_turn 8 = .ok (.getfield 108, 3) := by decide +kernel
theorem dX11_turn_11 : decode cX11_turn 11 = .ok (.iconst 1, 1) := by decide +kernel
theorem dX11_turn_12 : decode cX11_turn 12 = .ok (.isub, 1) := by decide +kernel
theorem dX11_turn_13 : decode cX11_turn 13 = .ok (.i2l, 1) := by decide +kernel
theorem dX11_turn_14 : decode cX11_turn 14 = .ok (.invokestatic 58, 3) := by decide +kernel
theorem dX11_turn_17 : decode cX11_turn 17 = .ok (.ifCond .eq 24, 3) := by decide +kernel
theorem dX11_turn_20 : decode cX11_turn 20 = .ok (.iload_n 2, 1) := by decide +kernel
theorem dX11_turn_21 : decode cX11_turn 21 = .ok (.i2l, 1) := by decide +kernel
theorem dX11_turn_22 : decode cX11_turn 22 = .ok (.lconst 0, 1) := by decide +kernel
theorem dX11_turn_23 : decode cX11_turn 23 = .ok (.ldc2_w 71, 3) := by decide +kernel
theorem dX11_turn_26 : decode cX11_turn 26 = .ok (.invokestatic 58, 3) := by decide +kernel
theorem dX11_turn_29 : decode cX11_turn 29 = .ok (.ifCond .eq 12, 3) := by decide +kernel
theorem dX11_turn_32 : decode cX11_turn 32 = .ok (.aload_n 0, 1) := by decide +kernel
theorem dX11_turn_33 : decode cX11_turn 33 = .ok (.iload_n 1, 1) := by decide +kernel
theorem dX11_turn_34 : decode cX11_turn 34 = .ok (.iload_n 2, 1) := by decide +kernel
theorem dX11_turn_35 : decode cX11_turn 35 = .ok (.invokevirtual 211, 3) := by decide +kernel
theorem dX11_turn_38 : decode cX11_turn 38 = .ok (.goto 5, 3) := by decide +kernel
theorem dX11_turn_41 : decode cX11_turn 41 = .ok (.bipush (-2), 2) := by decide +kernel
theorem dX11_turn_43 : decode cX11_turn 43 = .ok (.ireturn, 1) := by decide +kernel
theorem dX11_firstOf_0 : decode cX11_firstOf 0 = .ok (.iconst 0, 1) := by decide +kernel
theorem dX11_firstOf_1 : decode cX11_firstOf 1 = .ok (.istore_n 2, 1) := by decide +kernel
theorem dX11_firstOf_2 : decode cX11_firstOf 2 = .ok (.iload_n 2, 1) := by decide +kernel
theorem dX11_firstOf_3 : decode cX11_firstOf 3 = .ok (.aload_n 0, 1) := by decide +kernel
theorem dX11_firstOf_4 : decode cX11_firstOf 4 = .ok (.getfield 108, 3) := by decide +kernel
theorem dX11_firstOf_7 : decode cX11_firstOf 7 = .ok (.if_icmp .gt 57, 3) := by decide +kernel
theorem dX11_firstOf_10 : decode cX11_firstOf 10 = .ok (.aload_n 0, 1) := by decide +kernel
theorem dX11_firstOf_11 : decode cX11_firstOf 11 = .ok (.iload_n 2, 1) := by decide +kernel
theorem dX11_firstOf_12 : decode cX11_firstOf 12 = .ok (.invokevirtual 174, 3) := by decide +kernel
theorem dX11_firstOf_15 : decode cX11_firstOf 15 = .ok (.aload_n 0, 1) := by decide +kernel
theorem dX11_firstOf_16 : decode cX11_firstOf 16 = .ok (.invokevirtual 199, 3) := by decide +kernel
theorem dX11_firstOf_19 : decode cX11_firstOf 19 = .ok (.istore_n 3, 1) := by decide +kernel
theorem dX11_firstOf_20 : decode cX11_firstOf 20 = .ok (.iconst 0, 1) := by decide +kernel
theorem dX11_firstOf_21 : decode cX11_firstOf 21 = .ok (.istore 4, 2) := by decide +kernel
theorem dX11_firstOf_23 : decode cX11_firstOf 23 = .ok (.iload 4, 2) := by decide +kernel
theorem dX11_firstOf_25 : decode cX11_firstOf 25 = .ok (.aload_n 0, 1) := by decide +kernel
theorem dX11_firstOf_26 : decode cX11_firstOf 26 = .ok (.getfield 91, 3) := by decide +kernel
theorem dX11_firstOf_29 : decode cX11_firstOf 29 = .ok (.if_icmp .ge 29, 3) := by decide +kernel
theorem dX11_firstOf_32 : decode cX11_firstOf 32 = .ok (.iload_n 3, 1) := by decide +kernel
theorem dX11_firstOf_33 : decode cX11_firstOf 33 = .ok (.iload 4, 2) := by decide +kernel
theorem dX11_firstOf_35 : decode cX11_firstOf 35 = .ok (.invokestatic 171, 3) := by decide +kernel
theorem dX11_firstOf_38 : decode cX11_firstOf 38 = .ok (.ifCond .eq 14, 3) := by decide +kernel
theorem dX11_firstOf_41 : decode cX11_firstOf 41 = .ok (.iload_n 1, 1) := by decide +kernel
theorem dX11_firstOf_42 : decode cX11_firstOf 42 = .ok (.ifCond .ne 7, 3) := by decide +kernel
theorem dX11_firstOf_45 : decode cX11_firstOf 45 = .ok (.iload_n 2, 1) := by decide +kernel
theorem dX11_firstOf_46 : decode cX11_firstOf 46 = .ok (.goto 5, 3) := by decide +kernel
theorem dX11_firstOf_49 : decode cX11_firstOf 49 = .ok (.iload 4, 2) := by decide +kernel
theorem dX11_firstOf_51 : decode cX11_firstOf 51 = .ok (.ireturn, 1) := by decide +kernel
theorem dX11_firstOf_52 : decode cX11_firstOf 52 = .ok (.iinc 4 1, 3) := by decide +kernel
theorem dX11_firstOf_55 : decode cX11_firstOf 55 = .ok (.goto (-32), 3) := by decide +kernel
theorem dX11_firstOf_58 : decode cX11_firstOf 58 = .ok (.iinc 2 1, 3) := by decide +kernel
theorem dX11_firstOf_61 : decode cX11_firstOf 61 = .ok (.goto (-59), 3) := by decide +kernel
theorem dX11_firstOf_64 : decode cX11_firstOf 64 = .ok (.iconst (-1), 1) := by decide +kernel
theorem dX11_firstOf_65 : decode cX11_firstOf 65 = .ok (.ireturn, 1) := by decide +kernel
theorem dX11_first_0 : decode cX11_first 0 = .ok (.aload_n 0, 1) := by decide +kernel
theorem dX11_first_1 : decode cX11_first 1 = .ok (.invokevirtual 177, 3) := by decide +kernel
theorem dX11_first_4 : decode cX11_first 4 = .ok (.iload_n 1, 1) := by decide +kernel
theorem dX11_first_5 : decode cX11_first 5 = .ok (.invokestatic 86, 3) := by decide +kernel
theorem dX11_first_8 : decode cX11_first 8 = .ok (.ifCond .eq 11, 3) := by decide +kernel
theorem dX11_first_11 : decode cX11_first 11 = .ok (.aload_n 0, 1) := by decide +kernel
theorem dX11_first_12 : decode cX11_first 12 = .ok (.iload_n 1, 1) := by decide +kernel
theorem dX11_first_13 : decode cX11_first 13 = .ok (.invokevirtual 214, 3) := by decide +kernel
theorem dX11_first_16 : decode cX11_first 16 = .ok (.goto 5, 3) := by decide +kernel
theorem dX11_first_19 : decode cX11_first 19 = .ok (.bipush (-2), 2) := by decide +kernel
theorem dX11_first_21 : decode cX11_first 21 = .ok (.ireturn, 1) := by decide +kernel
theorem dX11_highestNow_0 : decode cX11_highestNow 0 = .ok (.aload_n 0, 1) := by decide +kernel
theorem dX11_highestNow_1 : decode cX11_highestNow 1 = .ok (.aload_n 0, 1) := by decide +kernel
theorem dX11_highestNow_2 : decode cX11_highestNow 2 = .ok (.getfield 108, 3) := by decide +kernel
theorem dX11_highestNow_5 : decode cX11_highestNow 5 = .ok (.invokevirtual 174, 3) := by decide +kernel
theorem dX11_highestNow_8 : decode cX11_highestNow 8 = .ok (.iconst (-1), 1) := by decide +kernel
theorem dX11_highestNow_9 : decode cX11_highestNow 9 = .ok (.istore_n 1, 1) := by decide +kernel
theorem dX11_highestNow_10 : decode cX11_highestNow 10 = .ok (.iconst 0, 1) := by decide +kernel
theorem dX11_highestNow_11 : decode cX11_highestNow 11 = .ok (.istore_n 2, 1) := by decide +kernel
theorem dX11_highestNow_12 : decode cX11_highestNow 12 = .ok (.iload_n 2, 1) := by decide +kernel
theorem dX11_highestNow_13 : decode cX11_highestNow 13 = .ok (.aload_n 0, 1) := by decide +kernel
theorem dX11_highestNow_14 : decode cX11_highestNow 14 = .ok (.getfield 91, 3) := by decide +kernel
theorem dX11_highestNow_17 : decode cX11_highestNow 17 = .ok (.if_icmp .ge 33, 3) := by decide +kernel
theorem dX11_highestNow_20 : decode cX11_highestNow 20 = .ok (.iload_n 1, 1) := by decide +kernel
theorem dX11_highestNow_21 : decode cX11_highestNow 21 = .ok (.iconst (-1), 1) := by decide +kernel
theorem dX11_highestNow_22 : decode cX11_highestNow 22 = .ok (.if_icmp .eq 16, 3) := by decide +kernel
theorem dX11_highestNow_25 : decode cX11_highestNow 25 = .ok (.aload_n 0, 1) := by decide +kernel
theorem dX11_highestNow_26 : decode cX11_highestNow 26 = .ok (.iload_n 2, 1) := by decide +kernel
theorem dX11_highestNow_27 : decode cX11_highestNow 27 = .ok (.invokevirtual 159, 3) := by decide +kernel
theorem dX11_highestNow_30 : decode cX11_highestNow 30 = .ok (.aload_n 0, 1) := by decide +kernel
theorem dX11_highestNow_31 : decode cX11_highestNow 31 = .ok (.iload_n 1, 1) := by decide +kernel
theorem dX11_highestNow_32 : decode cX11_highestNow 32 = .ok (.invokevirtual 159, 3) := by decide +kernel
theorem dX11_highestNow_35 : decode cX11_highestNow 35 = .ok (.if_icmp .le 7, 3) := by decide +kernel
theorem dX11_highestNow_38 : decode cX11_highestNow 38 = .ok (.iload_n 2, 1) := by decide +kernel
theorem dX11_highestNow_39 : decode cX11_highestNow 39 = .ok (.goto 4, 3) := by decide +kernel
theorem dX11_highestNow_42 : decode cX11_highestNow 42 = .ok (.iload_n 1, 1) := by decide +kernel
theorem dX11_highestNow_43 : decode cX11_highestNow 43 = .ok (.istore_n 1, 1) := by decide +kernel
theorem dX11_highestNow_44 : decode cX11_highestNow 44 = .ok (.iinc 2 1, 3) := by decide +kernel
theorem dX11_highestNow_47 : decode cX11_highestNow 47 = .ok (.goto (-35), 3) := by decide +kernel
theorem dX11_highestNow_50 : decode cX11_highestNow 50 = .ok (.iload_n 1, 1) := by decide +kernel
theorem dX11_highestNow_51 : decode cX11_highestNow 51 = .ok (.ireturn, 1) := by decide +kernel
theorem dX11_highest_0 : decode cX11_highest 0 = .ok (.aload_n 0, 1) := by decide +kernel
theorem dX11_highest_1 : decode cX11_highest 1 = .ok (.invokevirtual 177, 3) := by decide +kernel
theorem dX11_highest_4 : decode cX11_highest 4 = .ok (.aload_n 0, 1) := by decide +kernel
theorem dX11_highest_5 : decode cX11_highest 5 = .ok (.invokevirtual 217, 3) := by decide +kernel
theorem dX11_highest_8 : decode cX11_highest 8 = .ok (.ireturn, 1) := by decide +kernel
theorem dX11_goesOn_0 : decode cX11_goesOn 0 = .ok (.iload_n 1, 1) := by decide +kernel
theorem dX11_goesOn_1 : decode cX11_goesOn 1 = .ok (.iconst 1, 1) := by decide +kernel
theorem dX11_goesOn_2 : decode cX11_goesOn 2 = .ok (.isub, 1) := by decide +kernel
theorem dX11_goesOn_3 : decode cX11_goesOn 3 = .ok (.istore_n 3, 1) := by decide +kernel
theorem dX11_goesOn_4 : decode cX11_goesOn 4 = .ok (.iload_n 3, 1) := by decide +kernel
theorem dX11_goesOn_5 : decode cX11_goesOn 5 = .ok (.ifCond .lt 61, 3) := by decide +kernel
theorem dX11_goesOn_8 : decode cX11_goesOn 8 = .ok (.aload_n 0, 1) := by decide +kernel
theorem dX11_goesOn_9 : decode cX11_goesOn 9 = .ok (.getfield 46, 3) := by decide +kernel
theorem dX11_goesOn_12 : decode cX11_goesOn 12 = .ok (.iload_n 3, 1) := by decide +kernel
theorem dX11_goesOn_13 : decode cX11_goesOn 13 = .ok (.iaload, 1) := by decide +kernel
theorem dX11_goesOn_14 : decode cX11_goesOn 14 = .ok (.iload_n 2, 1) := by decide +kernel
theorem dX11_goesOn_15 : decode cX11_goesOn 15 = .ok (.if_icmp .ge 45, 3) := by decide +kernel
theorem dX11_goesOn_18 : decode cX11_goesOn 18 = .ok (.aload_n 0, 1) := by decide +kernel
theorem dX11_goesOn_19 : decode cX11_goesOn 19 = .ok (.getfield 46, 3) := by decide +kernel
theorem dX11_goesOn_22 : decode cX11_goesOn 22 = .ok (.iload_n 3, 1) := by decide +kernel
theorem dX11_goesOn_23 : decode cX11_goesOn 23 = .ok (.dup2, 1) := by decide +kernel
theorem dX11_goesOn_24 : decode cX11_goesOn 24 = .ok (.iaload, 1) := by decide +kernel
theorem dX11_goesOn_25 : decode cX11_goesOn 25 = .ok (.iconst 1, 1) := by decide +kernel
theorem dX11_goesOn_26 : decode cX11_goesOn 26 = .ok (.iadd, 1) := by decide +kernel
theorem dX11_goesOn_27 : decode cX11_goesOn 27 = .ok (.iastore, 1) := by decide +kernel
theorem dX11_goesOn_28 : decode cX11_goesOn 28 = .ok (.iload_n 3, 1) := by decide +kernel
theorem dX11_goesOn_29 : decode cX11_goesOn 29 = .ok (.iconst 1, 1) := by decide +kernel
theorem dX11_goesOn_30 : decode cX11_goesOn 30 = .ok (.iadd, 1) := by decide +kernel
theorem dX11_goesOn_31 : decode cX11_goesOn 31 = .ok (.istore 4, 2) := by decide +kernel
theorem dX11_goesOn_33 : decode cX11_goesOn 33 = .ok (.iload 4, 2) := by decide +kernel
theorem dX11_goesOn_35 : decode cX11_goesOn 35 = .ok (.iload_n 1, 1) := by decide +kernel
theorem dX11_goesOn_36 : decode cX11_goesOn 36 = .ok (.if_icmp .ge 22, 3) := by decide +kernel
theorem dX11_goesOn_39 : decode cX11_goesOn 39 = .ok (.aload_n 0, 1) := by decide +kernel
theorem dX11_goesOn_40 : decode cX11_goesOn 40 = .ok (.getfield 46, 3) := by decide +kernel
theorem dX11_goesOn_43 : decode cX11_goesOn 43 = .ok (.iload 4, 2) := by decide +kernel
theorem dX11_goesOn_45 : decode cX11_goesOn 45 = .ok (.aload_n 0, 1) := by decide +kernel
theorem dX11_goesOn_46 : decode cX11_goesOn 46 = .ok (.getfield 46, 3) := by decide +kernel
theorem dX11_goesOn_49 : decode cX11_goesOn 49 = .ok (.iload_n 3, 1) := by decide +kernel
theorem dX11_goesOn_50 : decode cX11_goesOn 50 = .ok (.iaload, 1) := by decide +kernel
theorem dX11_goesOn_51 : decode cX11_goesOn 51 = .ok (.iastore, 1) := by decide +kernel
theorem dX11_goesOn_52 : decode cX11_goesOn 52 = .ok (.iinc 4 1, 3) := by decide +kernel
theorem dX11_goesOn_55 : decode cX11_goesOn 55 = .ok (.goto (-22), 3) := by decide +kernel
theorem dX11_goesOn_58 : decode cX11_goesOn 58 = .ok (.iconst 1, 1) := by decide +kernel
theorem dX11_goesOn_59 : decode cX11_goesOn 59 = .ok (.ireturn, 1) := by decide +kernel
theorem dX11_goesOn_60 : decode cX11_goesOn 60 = .ok (.iinc 3 (-1), 3) := by decide +kernel
theorem dX11_goesOn_63 : decode cX11_goesOn 63 = .ok (.goto (-59), 3) := by decide +kernel
theorem dX11_goesOn_66 : decode cX11_goesOn 66 = .ok (.iconst 0, 1) := by decide +kernel
theorem dX11_goesOn_67 : decode cX11_goesOn 67 = .ok (.ireturn, 1) := by decide +kernel
theorem dX11_mends_0 : decode cX11_mends 0 = .ok (.aload_n 0, 1) := by decide +kernel
theorem dX11_mends_1 : decode cX11_mends 1 = .ok (.aload_n 0, 1) := by decide +kernel
theorem dX11_mends_2 : decode cX11_mends 2 = .ok (.getfield 108, 3) := by decide +kernel
theorem dX11_mends_5 : decode cX11_mends 5 = .ok (.invokevirtual 174, 3) := by decide +kernel
theorem dX11_mends_8 : decode cX11_mends 8 = .ok (.iconst 1, 1) := by decide +kernel
theorem dX11_mends_9 : decode cX11_mends 9 = .ok (.istore_n 2, 1) := by decide +kernel
theorem dX11_mends_10 : decode cX11_mends 10 = .ok (.iconst 0, 1) := by decide +kernel
theorem dX11_mends_11 : decode cX11_mends 11 = .ok (.istore_n 3, 1) := by decide +kernel
theorem dX11_mends_12 : decode cX11_mends 12 = .ok (.iload_n 3, 1) := by decide +kernel
theorem dX11_mends_13 : decode cX11_mends 13 = .ok (.iload_n 1, 1) := by decide +kernel
theorem dX11_mends_14 : decode cX11_mends 14 = .ok (.if_icmp .ge 53, 3) := by decide +kernel
theorem dX11_mends_17 : decode cX11_mends 17 = .ok (.iload_n 2, 1) := by decide +kernel
theorem dX11_mends_18 : decode cX11_mends 18 = .ok (.ifCond .eq 41, 3) := by decide +kernel
theorem dX11_mends_21 : decode cX11_mends 21 = .ok (.aload_n 0, 1) := by decide +kernel
theorem dX11_mends_22 : decode cX11_mends 22 = .ok (.aload_n 0, 1) := by decide +kernel
theorem dX11_mends_23 : decode cX11_mends 23 = .ok (.getfield 46, 3) := by decide +kernel
theorem dX11_mends_26 : decode cX11_mends 26 = .ok (.iload_n 3, 1) := by decide +kernel
theorem dX11_mends_27 : decode cX11_mends 27 = .ok (.iaload, 1) := by decide +kernel
theorem dX11_mends_28 : decode cX11_mends 28 = .ok (.bipush 8, 2) := by decide +kernel
theorem dX11_mends_30 : decode cX11_mends 30 = .ok (.idiv, 1) := by decide +kernel
theorem dX11_mends_31 : decode cX11_mends 31 = .ok (.aload_n 0, 1) := by decide +kernel
theorem dX11_mends_32 : decode cX11_mends 32 = .ok (.getfield 46, 3) := by decide +kernel
theorem dX11_mends_35 : decode cX11_mends 35 = .ok (.iload_n 3, 1) := by decide +kernel
theorem dX11_mends_36 : decode cX11_mends 36 = .ok (.iaload, 1) := by decide +kernel
theorem dX11_mends_37 : decode cX11_mends 37 = .ok (.bipush 8, 2) := by decide +kernel
theorem dX11_mends_39 : decode cX11_mends 39 = .ok (.idiv, 1) := by decide +kernel
theorem dX11_mends_40 : decode cX11_mends 40 = .ok (.aload_n 0, 1) := by decide +kernel
theorem dX11_mends_41 : decode cX11_mends 41 = .ok (.getfield 46, 3) := by decide +kernel
theorem dX11_mends_44 : decode cX11_mends 44 = .ok (.iload_n 3, 1) := by decide +kernel
theorem dX11_mends_45 : decode cX11_mends 45 = .ok (.iaload, 1) := by decide +kernel
theorem dX11_mends_46 : decode cX11_mends 46 = .ok (.bipush 8, 2) := by decide +kernel
theorem dX11_mends_48 : decode cX11_mends 48 = .ok (.irem, 1) := by decide +kernel
theorem dX11_mends_49 : decode cX11_mends 49 = .ok (.invokevirtual 145, 3) := by decide +kernel
theorem dX11_mends_52 : decode cX11_mends 52 = .ok (.ifCond .eq 7, 3) := by decide +kernel
theorem dX11_mends_55 : decode cX11_mends 55 = .ok (.iconst 1, 1) := by decide +kernel
theorem dX11_mends_56 : decode cX11_mends 56 = .ok (.goto 4, 3) := by decide +kernel
theorem dX11_mends_59 : decode cX11_mends 59 = .ok (.iconst 0, 1) := by decide +kernel
theorem dX11_mends_60 : decode cX11_mends 60 = .ok (.istore_n 2, 1) := by decide +kernel
theorem dX11_mends_61 : decode cX11_mends 61 = .ok (.iinc 3 1, 3) := by decide +kernel
theorem dX11_mends_64 : decode cX11_mends 64 = .ok (.goto (-52), 3) := by decide +kernel
theorem dX11_mends_67 : decode cX11_mends 67 = .ok (.iload_n 2, 1) := by decide +kernel
theorem dX11_mends_68 : decode cX11_mends 68 = .ok (.ifCond .eq 14, 3) := by decide +kernel
theorem dX11_mends_71 : decode cX11_mends 71 = .ok (.aload_n 0, 1) := by decide +kernel
theorem dX11_mends_72 : decode cX11_mends 72 = .ok (.invokevirtual 199, 3) := by decide +kernel
theorem dX11_mends_75 : decode cX11_mends 75 = .ok (.ifCond .ne 7, 3) := by decide +kernel
theorem dX11_mends_78 : decode cX11_mends 78 = .ok (.iconst 1, 1) := by decide +kernel
theorem dX11_mends_79 : decode cX11_mends 79 = .ok (.goto 4, 3) := by decide +kernel
theorem dX11_mends_82 : decode cX11_mends 82 = .ok (.iconst 0, 1) := by decide +kernel
theorem dX11_mends_83 : decode cX11_mends 83 = .ok (.ireturn, 1) := by decide +kernel
theorem dX11_opens_0 : decode cX11_opens 0 = .ok (.aload_n 0, 1) := by decide +kernel
theorem dX11_opens_1 : decode cX11_opens 1 = .ok (.aload_n 0, 1) := by decide +kernel
theorem dX11_opens_2 : decode cX11_opens 2 = .ok (.getfield 108, 3) := by decide +kernel
theorem dX11_opens_5 : decode cX11_opens 5 = .ok (.invokevirtual 174, 3) := by decide +kernel
theorem dX11_opens_8 : decode cX11_opens 8 = .ok (.iconst 1, 1) := by decide +kernel
theorem dX11_opens_9 : decode cX11_opens 9 = .ok (.istore_n 3, 1) := by decide +kernel
theorem dX11_opens_10 : decode cX11_opens 10 = .ok (.iconst 0, 1) := by decide +kernel
theorem dX11_opens_11 : decode cX11_opens 11 = .ok (.istore 4, 2) := by decide +kernel
theorem dX11_opens_13 : decode cX11_opens 13 = .ok (.iload 4, 2) := by decide +kernel
theorem dX11_opens_15 : decode cX11_opens 15 = .ok (.iload_n 1, 1) := by decide +kernel
theorem dX11_opens_16 : decode cX11_opens 16 = .ok (.if_icmp .ge 72, 3) := by decide +kernel
theorem dX11_opens_19 : decode cX11_opens 19 = .ok (.iload_n 3, 1) := by decide +kernel
theorem dX11_opens_20 : decode cX11_opens 20 = .ok (.ifCond .eq 36, 3) := by decide +kernel
theorem dX11_opens_23 : decode cX11_opens 23 = .ok (.aload_n 0, 1) := by decide +kernel
theorem dX11_opens_24 : decode cX11_opens 24 = .ok (.aload_n 0, 1) := by decide +kernel
theorem dX11_opens_25 : decode cX11_opens 25 = .ok (.getfield 46, 3) := by decide +kernel
theorem dX11_opens_28 : decode cX11_opens 28 = .ok (.iload 4, 2) := by decide +kernel
theorem dX11_opens_30 : decode cX11_opens 30 = .ok (.iaload, 1) := by decide +kernel
theorem dX11_opens_31 : decode cX11_opens 31 = .ok (.invokevirtual 183, 3) := by decide +kernel
theorem dX11_opens_34 : decode cX11_opens 34 = .ok (.ifCond .eq 22, 3) := by decide +kernel
theorem dX11_opens_37 : decode cX11_opens 37 = .ok (.aload_n 0, 1) := by decide +kernel
theorem dX11_opens_38 : decode cX11_opens 38 = .ok (.getfield 43, 3) := by decide +kernel
theorem dX11_opens_41 : decode cX11_opens 41 = .ok (.aload_n 0, 1) := by decide +kernel
theorem dX11_opens_42 : decode cX11_opens 42 = .ok (.getfield 46, 3) := by decide +kernel
theorem dX11_opens_45 : decode cX11_opens 45 = .ok (.iload 4, 2) := by decide +kernel
theorem dX11_opens_47 : decode cX11_opens 47 = .ok (.iaload, 1) := by decide +kernel
theorem dX11_opens_48 : decode cX11_opens 48 = .ok (.iaload, 1) := by decide +kernel
theorem dX11_opens_49 : decode cX11_opens 49 = .ok (.ifCond .le 7, 3) := by decide +kernel
theorem dX11_opens_52 : decode cX11_opens 52 = .ok (.iconst 1, 1) := by decide +kernel
theorem dX11_opens_53 : decode cX11_opens 53 = .ok (.goto 4, 3) := by decide +kernel
theorem dX11_opens_56 : decode cX11_opens 56 = .ok (.iconst 0, 1) := by decide +kernel
theorem dX11_opens_57 : decode cX11_opens 57 = .ok (.istore_n 3, 1) := by decide +kernel
theorem dX11_opens_58 : decode cX11_opens 58 = .ok (.aload_n 0, 1) := by decide +kernel
theorem dX11_opens_59 : decode cX11_opens 59 = .ok (.getfield 43, 3) := by decide +kernel
theorem dX11_opens_62 : decode cX11_opens 62 = .ok (.aload_n 0, 1) := by decide +kernel
theorem dX11_opens_63 : decode cX11_opens 63 = .ok (.getfield 46, 3) := by decide +kernel
theorem dX11_opens_66 : decode cX11_opens 66 = .ok (.iload 4, 2) := by decide +kernel
theorem dX11_opens_68 : decode cX11_opens 68 = .ok (.iaload, 1) := by decide +kernel
theorem dX11_opens_69 : decode cX11_opens 69 = .ok (.dup2, 1) := by decide +kernel
theorem dX11_opens_70 : decode cX11_opens 70 = .ok (.iaload, 1) := by decide +kernel
theorem dX11_opens_71 : decode cX11_opens 71 = .ok (.iload_n 3, 1) := by decide +kernel
theorem dX11_opens_72 : decode cX11_opens 72 = .ok (.ifCond .eq 7, 3) := by decide +kernel
theorem dX11_opens_75 : decode cX11_opens 75 = .ok (.iconst 1, 1) := by decide +kernel
theorem dX11_opens_76 : decode cX11_opens 76 = .ok (.goto 4, 3) := by decide +kernel
theorem dX11_opens_79 : decode cX11_opens 79 = .ok (.iconst 0, 1) := by decide +kernel
theorem dX11_opens_80 : decode cX11_opens 80 = .ok (.isub, 1) := by decide +kernel
theorem dX11_opens_81 : decode cX11_opens 81 = .ok (.iastore, 1) := by decide +kernel
theorem dX11_opens_82 : decode cX11_opens 82 = .ok (.iinc 4 1, 3) := by decide +kernel
theorem dX11_opens_85 : decode cX11_opens 85 = .ok (.goto (-72), 3) := by decide +kernel
theorem dX11_opens_88 : decode cX11_opens 88 = .ok (.iload_n 3, 1) := by decide +kernel
theorem dX11_opens_89 : decode cX11_opens 89 = .ok (.ifCond .eq 22, 3) := by decide +kernel
theorem dX11_opens_92 : decode cX11_opens 92 = .ok (.aload_n 0, 1) := by decide +kernel
theorem dX11_opens_93 : decode cX11_opens 93 = .ok (.invokevirtual 199, 3) := by decide +kernel
theorem dX11_opens_96 : decode cX11_opens 96 = .ok (.ifCond .ne 15, 3) := by decide +kernel
theorem dX11_opens_99 : decode cX11_opens 99 = .ok (.aload_n 0, 1) := by decide +kernel
theorem dX11_opens_100 : decode cX11_opens 100 = .ok (.invokevirtual 202, 3) := by decide +kernel
theorem dX11_opens_103 : decode cX11_opens 103 = .ok (.iload_n 2, 1) := by decide +kernel
theorem dX11_opens_104 : decode cX11_opens 104 = .ok (.if_icmp .lt 7, 3) := by decide +kernel
theorem dX11_opens_107 : decode cX11_opens 107 = .ok (.iconst 1, 1) := by decide +kernel
theorem dX11_opens_108 : decode cX11_opens 108 = .ok (.goto 4, 3) := by decide +kernel
theorem dX11_opens_111 : decode cX11_opens 111 = .ok (.iconst 0, 1) := by decide +kernel
theorem dX11_opens_112 : decode cX11_opens 112 = .ok (.ireturn, 1) := by decide +kernel
theorem dX11_planOf_0 : decode cX11_planOf 0 = .ok (.iconst 0, 1) := by decide +kernel
theorem dX11_planOf_1 : decode cX11_planOf 1 = .ok (.istore_n 3, 1) := by decide +kernel
theorem dX11_planOf_2 : decode cX11_planOf 2 = .ok (.iload_n 3, 1) := by decide +kernel
theorem dX11_planOf_3 : decode cX11_planOf 3 = .ok (.iconst 4, 1) := by decide +kernel
theorem dX11_planOf_4 : decode cX11_planOf 4 = .ok (.if_icmp .ge 112, 3) := by decide +kernel
theorem dX11_planOf_7 : decode cX11_planOf 7 = .ok (.iconst 1, 1) := by decide +kernel
theorem dX11_planOf_8 : decode cX11_planOf 8 = .ok (.istore 4, 2) := by decide +kernel
theorem dX11_planOf_10 : decode cX11_planOf 10 = .ok (.iconst 0, 1) := by decide +kernel
theorem dX11_planOf_11 : decode cX11_planOf 11 = .ok (.istore 5, 2) := by decide +kernel
theorem dX11_planOf_13 : decode cX11_planOf 13 = .ok (.iload 5, 2) := by decide +kernel
theorem dX11_planOf_15 : decode cX11_planOf 15 = .ok (.iconst 3, 1) := by decide +kernel
theorem dX11_planOf_16 : decode cX11_planOf 16 = .ok (.if_icmp .ge 17, 3) := by decide +kernel
theorem dX11_planOf_19 : decode cX11_planOf 19 = .ok (.aload_n 0, 1) := by decide +kernel
theorem dX11_planOf_20 : decode cX11_planOf 20 = .ok (.getfield 46, 3) := by decide +kernel
theorem dX11_planOf_23 : decode cX11_planOf 23 = .ok (.iload 5, 2) := by decide +kernel
theorem dX11_planOf_25 : decode cX11_planOf 25 = .ok (.iconst 0, 1) := by decide +kernel
theorem dX11_planOf_26 : decode cX11_planOf 26 = .ok (.iastore, 1) := by decide +kernel
theorem dX11_planOf_27 : decode cX11_planOf 27 = .ok (.iinc 5 1, 3) := by decide +kernel
theorem dX11_planOf_30 : decode cX11_planOf 30 = .ok (.goto (-17), 3) := by decide +kernel
theorem dX11_planOf_33 : decode cX11_planOf 33 = .ok (.iload 4, 2) := by decide +kernel
theorem dX11_planOf_35 : decode cX11_planOf 35 = .ok (.ifCond .eq 75, 3) := by decide +kernel
theorem dX11_planOf_38 : decode cX11_planOf 38 = .ok (.iload_n 1, 1) := by decide +kernel
theorem dX11_planOf_39 : decode cX11_planOf 39 = .ok (.iconst (-1), 1) := by decide +kernel
theorem dX11_planOf_40 : decode cX11_planOf 40 = .ok (.if_icmp .ne 14, 3) := by decide +kernel
theorem dX11_planOf_43 : decode cX11_planOf 43 = .ok (.aload_n 0, 1) := by decide +kernel
theorem dX11_planOf_44 : decode cX11_planOf 44 = .ok (.iload_n 3, 1) := by decide +kernel
theorem dX11_planOf_45 : decode cX11_planOf 45 = .ok (.invokevirtual 220, 3) := by decide +kernel
theorem dX11_planOf_48 : decode cX11_planOf 48 = .ok (.ifCond .eq 40, 3) := by decide +kernel
theorem dX11_planOf_51 : decode cX11_planOf 51 = .ok (.goto 12, 3) := by decide +kernel
theorem dX11_planOf_54 : decode cX11_planOf 54 = .ok (.aload_n 0, 1) := by decide +kernel
theorem dX11_planOf_55 : decode cX11_planOf 55 = .ok (.iload_n 3, 1) := by decide +kernel
theorem dX11_planOf_56 : decode cX11_planOf 56 = .ok (.iload_n 1, 1) := by decide +kernel
theorem dX11_planOf_57 : decode cX11_planOf 57 = .ok (.invokevirtual 223, 3) := by decide +kernel
theorem dX11_planOf_60 : decode cX11_planOf 60 = .ok (.ifCond .eq 28, 3) := by decide +kernel
theorem dX11_planOf_63 : decode cX11_planOf 63 = .ok (.iload_n 2, 1) := by decide +kernel
theorem dX11_planOf_64 : decode cX11_planOf 64 = .ok (.iconst (-1), 1) := by decide +kernel
theorem dX11_planOf_65 : decode cX11_planOf 65 = .ok (.if_icmp .ne 7, 3) := by decide +kernel
theorem dX11_planOf_68 : decode cX11_planOf 68 = .ok (.iload_n 3, 1) := by decide +kernel
theorem dX11_planOf_69 : decode cX11_planOf 69 = .ok (.goto 18, 3) := by decide +kernel
theorem dX11_planOf_72 : decode cX11_planOf 72 = .ok (.iload_n 2, 1) := by decide +kernel
theorem dX11_planOf_73 : decode cX11_planOf 73 = .ok (.iload_n 3, 1) := by decide +kernel
theorem dX11_planOf_74 : decode cX11_planOf 74 = .ok (.if_icmp .ge 12, 3) := by decide +kernel
theorem dX11_planOf_77 : decode cX11_planOf 77 = .ok (.aload_n 0, 1) := by decide +kernel
theorem dX11_planOf_78 : decode cX11_planOf 78 = .ok (.getfield 46, 3) := by decide +kernel
theorem dX11_planOf_81 : decode cX11_planOf 81 = .ok (.iload_n 2, 1) := by decide +kernel
theorem dX11_planOf_82 : decode cX11_planOf 82 = .ok (.iaload, 1) := by decide +kernel
theorem dX11_planOf_83 : decode cX11_planOf 83 = .ok (.goto 4, 3) := by decide +kernel
theorem dX11_planOf_86 : decode cX11_planOf 86 = .ok (.iconst (-1), 1) := by decide +kernel
theorem dX11_planOf_87 : decode cX11_planOf 87 = .ok (.ireturn, 1) := by decide +kernel
theorem dX11_planOf_88 : decode cX11_planOf 88 = .ok (.aload_n 0, 1) := by decide +kernel
theorem dX11_planOf_89 : decode cX11_planOf 89 = .ok (.iload_n 3, 1) := by decide +kernel
theorem dX11_planOf_90 : decode cX11_planOf 90 = .ok (.iload_n 1, 1) := by decide +kernel
theorem dX11_planOf_91 : decode cX11_planOf 91 = .ok (.iconst (-1), 1) := by decide +kernel
theorem dX11_planOf_92 : decode cX11_planOf 92 = .ok (.if_icmp .ne 8, 3) := by decide +kernel
theorem dX11_planOf_95 : decode cX11_planOf 95 = .ok (.bipush 15, 2) := by decide +kernel
theorem dX11_planOf_97 : decode cX11_planOf 97 = .ok (.goto 5, 3) := by decide +kernel
theorem dX11_planOf_100 : decode cX11_planOf 100 = .ok (.bipush 7, 2) := by decide +kernel
theorem dX11_planOf_102 : decode cX11_planOf 102 = .ok (.invokevirtual 226, 3) := by decide +kernel
theorem dX11_planOf_105 : decode cX11_planOf 105 = .ok (.istore 4, 2) := by decide +kernel
theorem dX11_planOf_107 : decode cX11_planOf 107 = .ok (.goto (-74), 3) := by decide +kernel
theorem dX11_planOf_110 : decode cX11_planOf 110 = .ok (.iinc 3 1, 3) := by decide +kernel
theorem dX11_planOf_113 : decode cX11_planOf 113 = .ok (.goto (-111), 3) := by decide +kernel
theorem dX11_planOf_116 : decode cX11_planOf 116 = .ok (.iconst (-1), 1) := by decide +kernel
theorem dX11_planOf_117 : decode cX11_planOf 117 = .ok (.ireturn, 1) := by decide +kernel
theorem dX11_mend_0 : decode cX11_mend 0 = .ok (.aload_n 0, 1) := by decide +kernel
theorem dX11_mend_1 : decode cX11_mend 1 = .ok (.invokevirtual 177, 3) := by decide +kernel
theorem dX11_mend_4 : decode cX11_mend 4 = .ok (.iload_n 1, 1) := by decide +kernel
theorem dX11_mend_5 : decode cX11_mend 5 = .ok (.i2l, 1) := by decide +kernel
theorem dX11_mend_6 : decode cX11_mend 6 = .ok (.ldc2_w 192, 3) := by decide +kernel
theorem dX11_mend_9 : decode cX11_mend 9 = .ok (.ldc2_w 71, 3) := by decide +kernel
theorem dX11_mend_12 : decode cX11_mend 12 = .ok (.invokestatic 58, 3) := by decide +kernel
theorem dX11_mend_15 : decode cX11_mend 15 = .ok (.ifCond .eq 12, 3) := by decide +kernel
theorem dX11_mend_18 : decode cX11_mend 18 = .ok (.aload_n 0, 1) := by decide +kernel
theorem dX11_mend_19 : decode cX11_mend 19 = .ok (.iconst (-1), 1) := by decide +kernel
theorem dX11_mend_20 : decode cX11_mend 20 = .ok (.iload_n 1, 1) := by decide +kernel
theorem dX11_mend_21 : decode cX11_mend 21 = .ok (.invokevirtual 229, 3) := by decide +kernel
theorem dX11_mend_24 : decode cX11_mend 24 = .ok (.goto 5, 3) := by decide +kernel
theorem dX11_mend_27 : decode cX11_mend 27 = .ok (.bipush (-2), 2) := by decide +kernel
theorem dX11_mend_29 : decode cX11_mend 29 = .ok (.ireturn, 1) := by decide +kernel
theorem dX11_open_0 : decode cX11_open 0 = .ok (.aload_n 0, 1) := by decide +kernel
theorem dX11_open_1 : decode cX11_open 1 = .ok (.invokevirtual 177, 3) := by decide +kernel
theorem dX11_open_4 : decode cX11_open 4 = .ok (.iload_n 1, 1) := by decide +kernel
theorem dX11_open_5 : decode cX11_open 5 = .ok (.i2l, 1) := by decide +kernel
theorem dX11_open_6 : decode cX11_open 6 = .ok (.lconst 0, 1) := by decide +kernel
theorem dX11_open_7 : decode cX11_open 7 = .ok (.ldc2_w 232, 3) := by decide +kernel
theorem dX11_open_10 : decode cX11_open 10 = .ok (.invokestatic 58, 3) := by decide +kernel
theorem dX11_open_13 : decode cX11_open 13 = .ok (.ifCond .eq 26, 3) := by decide +kernel
theorem dX11_open_16 : decode cX11_open 16 = .ok (.iload_n 2, 1) := by decide +kernel
theorem dX11_open_17 : decode cX11_open 17 = .ok (.i2l, 1) := by decide +kernel
theorem dX11_open_18 : decode cX11_open 18 = .ok (.ldc2_w 192, 3) := by decide +kernel
theorem dX11_open_21 : decode cX11_open 21 = .ok (.ldc2_w 71, 3) := by decide +kernel
theorem dX11_open_24 : decode cX11_open 24 = .ok (.invokestatic 58, 3) := by decide +kernel
theorem dX11_open_27 : decode cX11_open 27 = .ok (.ifCond .eq 12, 3) := by decide +kernel
theorem dX11_open_30 : decode cX11_open 30 = .ok (.aload_n 0, 1) := by decide +kernel
theorem dX11_open_31 : decode cX11_open 31 = .ok (.iload_n 1, 1) := by decide +kernel
theorem dX11_open_32 : decode cX11_open 32 = .ok (.iload_n 2, 1) := by decide +kernel
theorem dX11_open_33 : decode cX11_open 33 = .ok (.invokevirtual 229, 3) := by decide +kernel
theorem dX11_open_36 : decode cX11_open 36 = .ok (.goto 5, 3) := by decide +kernel
theorem dX11_open_39 : decode cX11_open 39 = .ok (.bipush (-2), 2) := by decide +kernel
theorem dX11_open_41 : decode cX11_open 41 = .ok (.ireturn, 1) := by decide +kernel
theorem dX11_endOf_0 : decode cX11_endOf 0 = .ok (.aload_n 0, 1) := by decide +kernel
theorem dX11_endOf_1 : decode cX11_endOf 1 = .ok (.aload_n 0, 1) := by decide +kernel
theorem dX11_endOf_2 : decode cX11_endOf 2 = .ok (.getfield 108, 3) := by decide +kernel
theorem dX11_endOf_5 : decode cX11_endOf 5 = .ok (.invokevirtual 174, 3) := by decide +kernel
theorem dX11_endOf_8 : decode cX11_endOf 8 = .ok (.iconst 1, 1) := by decide +kernel
theorem dX11_endOf_9 : decode cX11_endOf 9 = .ok (.istore_n 3, 1) := by decide +kernel
theorem dX11_endOf_10 : decode cX11_endOf 10 = .ok (.iload_n 1, 1) := by decide +kernel
theorem dX11_endOf_11 : decode cX11_endOf 11 = .ok (.istore 4, 2) := by decide +kernel
theorem dX11_endOf_13 : decode cX11_endOf 13 = .ok (.iload_n 2, 1) := by decide +kernel
theorem dX11_endOf_14 : decode cX11_endOf 14 = .ok (.iconst 1, 1) := by decide +kernel
theorem dX11_endOf_15 : decode cX11_endOf 15 = .ok (.if_icmp .ne 7, 3) := by decide +kernel
theorem dX11_endOf_18 : decode cX11_endOf 18 = .ok (.iconst 1, 1) := by decide +kernel
theorem dX11_endOf_19 : decode cX11_endOf 19 = .ok (.goto 15, 3) := by decide +kernel
theorem dX11_endOf_22 : decode cX11_endOf 22 = .ok (.iload_n 2, 1) := by decide +kernel
theorem dX11_endOf_23 : decode cX11_endOf 23 = .ok (.iconst 2, 1) := by decide +kernel
theorem dX11_endOf_24 : decode cX11_endOf 24 = .ok (.if_icmp .ne 8, 3) := by decide +kernel
theorem dX11_endOf_27 : decode cX11_endOf 27 = .ok (.bipush 9, 2) := by decide +kernel
theorem dX11_endOf_29 : decode cX11_endOf 29 = .ok (.goto 5, 3) := by decide +kernel
theorem dX11_endOf_32 : decode cX11_endOf 32 = .ok (.bipush 81, 2) := by decide +kernel
theorem dX11_endOf_34 : decode cX11_endOf 34 = .ok (.istore 5, 2) := by decide +kernel
theorem dX11_endOf_36 : decode cX11_endOf 36 = .ok (.iconst 0, 1) := by decide +kernel
theorem dX11_endOf_37 : decode cX11_endOf 37 = .ok (.istore 6, 2) := by decide +kernel
theorem dX11_endOf_39 : decode cX11_endOf 39 = .ok (.iload 6, 2) := by decide +kernel
theorem dX11_endOf_41 : decode cX11_endOf 41 = .ok (.iload_n 2, 1) := by decide +kernel
theorem dX11_endOf_42 : decode cX11_endOf 42 = .ok (.if_icmp .ge 78, 3) := by decide +kernel
theorem dX11_endOf_45 : decode cX11_endOf 45 = .ok (.iload 4, 2) := by decide +kernel
theorem dX11_endOf_47 : decode cX11_endOf 47 = .ok (.iload 5, 2) := by decide +kernel
theorem dX11_endOf_49 : decode cX11_endOf 49 = .ok (.idiv, 1) := by decide +kernel
theorem dX11_endOf_50 : decode cX11_endOf 50 = .ok (.istore 7, 2) := by decide +kernel
theorem dX11_endOf_52 : decode cX11_endOf 52 = .ok (.iload 4, 2) := by decide +kernel
theorem dX11_endOf_54 : decode cX11_endOf 54 = .ok (.iload 5, 2) := by decide +kernel
theorem dX11_endOf_56 : decode cX11_endOf 56 = .ok (.irem, 1) := by decide +kernel
theorem dX11_endOf_57 : decode cX11_endOf 57 = .ok (.istore 4, 2) := by decide +kernel
theorem dX11_endOf_59 : decode cX11_endOf 59 = .ok (.iload 5, 2) := by decide +kernel
theorem dX11_endOf_61 : decode cX11_endOf 61 = .ok (.bipush 9, 2) := by decide +kernel
theorem dX11_endOf_63 : decode cX11_endOf 63 = .ok (.idiv, 1) := by decide +kernel
theorem dX11_endOf_64 : decode cX11_endOf 64 = .ok (.istore 5, 2) := by decide +kernel
theorem dX11_endOf_66 : decode cX11_endOf 66 = .ok (.aload_n 0, 1) := by decide +kernel
theorem dX11_endOf_67 : decode cX11_endOf 67 = .ok (.getfield 37, 3) := by decide +kernel
theorem dX11_endOf_70 : decode cX11_endOf 70 = .ok (.iconst 0, 1) := by decide +kernel
theorem dX11_endOf_71 : decode cX11_endOf 71 = .ok (.iaload, 1) := by decide +kernel
theorem dX11_endOf_72 : decode cX11_endOf 72 = .ok (.aload_n 0, 1) := by decide +kernel
theorem dX11_endOf_73 : decode cX11_endOf 73 = .ok (.getfield 108, 3) := by decide +kernel
theorem dX11_endOf_76 : decode cX11_endOf 76 = .ok (.iadd, 1) := by decide +kernel
theorem dX11_endOf_77 : decode cX11_endOf 77 = .ok (.iload 6, 2) := by decide +kernel
theorem dX11_endOf_79 : decode cX11_endOf 79 = .ok (.iadd, 1) := by decide +kernel
theorem dX11_endOf_80 : decode cX11_endOf 80 = .ok (.iconst 2, 1) := by decide +kernel
theorem dX11_endOf_81 : decode cX11_endOf 81 = .ok (.irem, 1) := by decide +kernel
theorem dX11_endOf_82 : decode cX11_endOf 82 = .ok (.istore 8, 2) := by decide +kernel
theorem dX11_endOf_84 : decode cX11_endOf 84 = .ok (.iload_n 3, 1) := by decide +kernel
theorem dX11_endOf_85 : decode cX11_endOf 85 = .ok (.ifCond .eq 27, 3) := by decide +kernel
theorem dX11_endOf_88 : decode cX11_endOf 88 = .ok (.iload 7, 2) := by decide +kernel
theorem dX11_endOf_90 : decode cX11_endOf 90 = .ok (.bipush 8, 2) := by decide +kernel
theorem dX11_endOf_92 : decode cX11_endOf 92 = .ok (.if_icmp .eq 16, 3) := by decide +kernel
theorem dX11_endOf_95 : decode cX11_endOf 95 = .ok (.aload_n 0, 1) := by decide +kernel
theorem dX11_endOf_96 : decode cX11_endOf 96 = .ok (.iload 8, 2) := by decide +kernel
theorem dX11_endOf_98 : decode cX11_endOf 98 = .ok (.iload 8, 2) := by decide +kernel
theorem dX11_endOf_100 : decode cX11_endOf 100 = .ok (.iload 7, 2) := by decide +kernel
theorem dX11_endOf_102 : decode cX11_endOf 102 = .ok (.invokevirtual 145, 3) := by decide +kernel
theorem dX11_endOf_105 : decode cX11_endOf 105 = .ok (.ifCond .eq 7, 3) := by decide +kernel
theorem dX11_endOf_108 : decode cX11_endOf 108 = .ok (.iconst 1, 1) := by decide +kernel
theorem dX11_endOf_109 : decode cX11_endOf 109 = .ok (.goto 4, 3) := by decide +kernel
theorem dX11_endOf_112 : decode cX11_endOf 112 = .ok (.iconst 0, 1) := by decide +kernel
theorem dX11_endOf_113 : decode cX11_endOf 113 = .ok (.istore_n 3, 1) := by decide +kernel
theorem dX11_endOf_114 : decode cX11_endOf 114 = .ok (.iinc 6 1, 3) := by decide +kernel
theorem dX11_endOf_117 : decode cX11_endOf 117 = .ok (.goto (-78), 3) := by decide +kernel
theorem dX11_endOf_120 : decode cX11_endOf 120 = .ok (.iload_n 3, 1) := by decide +kernel
theorem dX11_endOf_121 : decode cX11_endOf 121 = .ok (.ifCond .ne 8, 3) := by decide +kernel
theorem dX11_endOf_124 : decode cX11_endOf 124 = .ok (.bipush (-9), 2) := by decide +kernel
theorem dX11_endOf_126 : decode cX11_endOf 126 = .ok (.goto 18, 3) := by decide +kernel
theorem dX11_endOf_129 : decode cX11_endOf 129 = .ok (.aload_n 0, 1) := by decide +kernel
theorem dX11_endOf_130 : decode cX11_endOf 130 = .ok (.invokevirtual 199, 3) := by decide +kernel
theorem dX11_endOf_133 : decode cX11_endOf 133 = .ok (.ifCond .ne 10, 3) := by decide +kernel
theorem dX11_endOf_136 : decode cX11_endOf 136 = .ok (.aload_n 0, 1) := by decide +kernel
theorem dX11_endOf_137 : decode cX11_endOf 137 = .ok (.invokevirtual 202, 3) := by decide +kernel
theorem dX11_endOf_140 : decode cX11_endOf 140 = .ok (.goto 4, 3) := by decide +kernel
theorem dX11_endOf_143 : decode cX11_endOf 143 = .ok (.iconst (-1), 1) := by decide +kernel
theorem dX11_endOf_144 : decode cX11_endOf 144 = .ok (.ireturn, 1) := by decide +kernel
theorem dX11_better_0 : decode cX11_better 0 = .ok (.iload_n 1, 1) := by decide +kernel
theorem dX11_better_1 : decode cX11_better 1 = .ok (.bipush (-9), 2) := by decide +kernel
theorem dX11_better_3 : decode cX11_better 3 = .ok (.if_icmp .eq 30, 3) := by decide +kernel
theorem dX11_better_6 : decode cX11_better 6 = .ok (.iload_n 2, 1) := by decide +kernel
theorem dX11_better_7 : decode cX11_better 7 = .ok (.bipush (-9), 2) := by decide +kernel
theorem dX11_better_9 : decode cX11_better 9 = .ok (.if_icmp .eq 20, 3) := by decide +kernel
theorem dX11_better_12 : decode cX11_better 12 = .ok (.iload_n 0, 1) := by decide +kernel
theorem dX11_better_13 : decode cX11_better 13 = .ok (.ifCond .ne 11, 3) := by decide +kernel
theorem dX11_better_16 : decode cX11_better 16 = .ok (.iload_n 1, 1) := by decide +kernel
theorem dX11_better_17 : decode cX11_better 17 = .ok (.iload_n 2, 1) := by decide +kernel
theorem dX11_better_18 : decode cX11_better 18 = .ok (.if_icmp .le 15, 3) := by decide +kernel
theorem dX11_better_21 : decode cX11_better 21 = .ok (.goto 8, 3) := by decide +kernel
theorem dX11_better_24 : decode cX11_better 24 = .ok (.iload_n 1, 1) := by decide +kernel
theorem dX11_better_25 : decode cX11_better 25 = .ok (.iload_n 2, 1) := by decide +kernel
theorem dX11_better_26 : decode cX11_better 26 = .ok (.if_icmp .ge 7, 3) := by decide +kernel
theorem dX11_better_29 : decode cX11_better 29 = .ok (.iconst 1, 1) := by decide +kernel
theorem dX11_better_30 : decode cX11_better 30 = .ok (.goto 4, 3) := by decide +kernel
theorem dX11_better_33 : decode cX11_better 33 = .ok (.iconst 0, 1) := by decide +kernel
theorem dX11_better_34 : decode cX11_better 34 = .ok (.ireturn, 1) := by decide +kernel
theorem dX11_sidesOf_0 : decode cX11_sidesOf 0 = .ok (.bipush (-9), 2) := by decide +kernel
theorem dX11_sidesOf_2 : decode cX11_sidesOf 2 = .ok (.istore_n 3, 1) := by decide +kernel
theorem dX11_sidesOf_3 : decode cX11_sidesOf 3 = .ok (.iconst (-1), 1) := by decide +kernel
theorem dX11_sidesOf_4 : decode cX11_sidesOf 4 = .ok (.istore 4, 2) := by decide +kernel
theorem dX11_sidesOf_6 : decode cX11_sidesOf 6 = .ok (.aload_n 0, 1) := by decide +kernel
theorem dX11_sidesOf_7 : decode cX11_sidesOf 7 = .ok (.getfield 37, 3) := by decide +kernel
theorem dX11_sidesOf_10 : decode cX11_sidesOf 10 = .ok (.iconst 0, 1) := by decide +kernel
theorem dX11_sidesOf_11 : decode cX11_sidesOf 11 = .ok (.iaload, 1) := by decide +kernel
theorem dX11_sidesOf_12 : decode cX11_sidesOf 12 = .ok (.aload_n 0, 1) := by decide +kernel
theorem dX11_sidesOf_13 : decode cX11_sidesOf 13 = .ok (.getfield 108, 3) := by decide +kernel
theorem dX11_sidesOf_16 : decode cX11_sidesOf 16 = .ok (.iadd, 1) := by decide +kernel
theorem dX11_sidesOf_17 : decode cX11_sidesOf 17 = .ok (.iconst 2, 1) := by decide +kernel
theorem dX11_sidesOf_18 : decode cX11_sidesOf 18 = .ok (.irem, 1) := by decide +kernel
theorem dX11_sidesOf_19 : decode cX11_sidesOf 19 = .ok (.istore 5, 2) := by decide +kernel
theorem dX11_sidesOf_21 : decode cX11_sidesOf 21 = .ok (.iconst 0, 1) := by decide +kernel
theorem dX11_sidesOf_22 : decode cX11_sidesOf 22 = .ok (.istore 6, 2) := by decide +kernel
theorem dX11_sidesOf_24 : decode cX11_sidesOf 24 = .ok (.iload 6, 2) := by decide +kernel
theorem dX11_sidesOf_26 : decode cX11_sidesOf 26 = .ok (.bipush 9, 2) := by decide +kernel
theorem dX11_sidesOf_28 : decode cX11_sidesOf 28 = .ok (.if_icmp .ge 191, 3) := by decide +kernel
theorem dX11_sidesOf_31 : decode cX11_sidesOf 31 = .ok (.bipush (-9), 2) := by decide +kernel
theorem dX11_sidesOf_33 : decode cX11_sidesOf 33 = .ok (.istore 7, 2) := by decide +kernel
theorem dX11_sidesOf_35 : decode cX11_sidesOf 35 = .ok (.iconst 0, 1) := by decide +kernel
theorem dX11_sidesOf_36 : decode cX11_sidesOf 36 = .ok (.istore 8, 2) := by decide +kernel
theorem dX11_sidesOf_38 : decode cX11_sidesOf 38 = .ok (.iload 8, 2) := by decide +kernel
theorem dX11_sidesOf_40 : decode cX11_sidesOf 40 = .ok (.bipush 9, 2) := by decide +kernel
theorem dX11_sidesOf_42 : decode cX11_sidesOf 42 = .ok (.if_icmp .ge 153, 3) := by decide +kernel
theorem dX11_sidesOf_45 : decode cX11_sidesOf 45 = .ok (.bipush (-9), 2) := by decide +kernel
theorem dX11_sidesOf_47 : decode cX11_sidesOf 47 = .ok (.istore 9, 2) := by decide +kernel
theorem dX11_sidesOf_49 : decode cX11_sidesOf 49 = .ok (.iconst 0, 1) := by decide +kernel
theorem dX11_sidesOf_50 : decode cX11_sidesOf 50 = .ok (.istore 10, 2) := by decide +kernel
theorem dX11_sidesOf_52 : decode cX11_sidesOf 52 = .ok (.iload 10, 2) := by decide +kernel
theorem dX11_sidesOf_54 : decode cX11_sidesOf 54 = .ok (.bipush 9, 2) := by decide +kernel
theorem dX11_sidesOf_56 : decode cX11_sidesOf 56 = .ok (.if_icmp .ge 110, 3) := by decide +kernel
theorem dX11_sidesOf_59 : decode cX11_sidesOf 59 = .ok (.iload_n 1, 1) := by decide +kernel
theorem dX11_sidesOf_60 : decode cX11_sidesOf 60 = .ok (.iconst 1, 1) := by decide +kernel
theorem dX11_sidesOf_61 : decode cX11_sidesOf 61 = .ok (.if_icmp .ne 8, 3) := by decide +kernel
theorem dX11_sidesOf_64 : decode cX11_sidesOf 64 = .ok (.iload 6, 2) := by decide +kernel
theorem dX11_sidesOf_66 : decode cX11_sidesOf 66 = .ok (.goto 33, 3) := by decide +kernel
theorem dX11_sidesOf_69 : decode cX11_sidesOf 69 = .ok (.iload_n 1, 1) := by decide +kernel
theorem dX11_sidesOf_70 : decode cX11_sidesOf 70 = .ok (.iconst 2, 1) := by decide +kernel
theorem dX11_sidesOf_71 : decode cX11_sidesOf 71 = .ok (.if_icmp .ne 14, 3) := by decide +kernel
theorem dX11_sidesOf_74 : decode cX11_sidesOf 74 = .ok (.bipush 9, 2) := by decide +kernel
theorem dX11_sidesOf_76 : decode cX11_sidesOf 76 = .ok (.iload 6, 2) := by decide +kernel
theorem dX11_sidesOf_78 : decode cX11_sidesOf 78 = .ok (.imul, 1) := by decide +kernel
theorem dX11_sidesOf_79 : decode cX11_sidesOf 79 = .ok (.iload 8, 2) := by decide +kernel
theorem dX11_sidesOf_81 : decode cX11_sidesOf 81 = .ok (.iadd, 1) := by decide +kernel
theorem dX11_sidesOf_82 : decode cX11_sidesOf 82 = .ok (.goto 17, 3) := by decide +kernel
theorem dX11_sidesOf_85 : decode cX11_sidesOf 85 = .ok (.bipush 81, 2) := by decide +kernel
theorem dX11_sidesOf_87 : decode cX11_sidesOf 87 = .ok (.iload 6, 2) := by decide +kernel
theorem dX11_sidesOf_89 : decode cX11_sidesOf 89 = .ok (.imul, 1) := by decide +kernel
theorem dX11_sidesOf_90 : decode cX11_sidesOf 90 = .ok (.bipush 9, 2) := by decide +kernel
theorem dX11_sidesOf_92 : decode cX11_sidesOf 92 = .ok (.iload 8, 2) := by decide +kernel
theorem dX11_sidesOf_94 : decode cX11_sidesOf 94 = .ok (.imul, 1) := by decide +kernel
theorem dX11_sidesOf_95 : decode cX11_sidesOf 95 = .ok (.iadd, 1) := by decide +kernel
theorem dX11_sidesOf_96 : decode cX11_sidesOf 96 = .ok (.iload 10, 2) := by decide +kernel
theorem dX11_sidesOf_98 : decode cX11_sidesOf 98 = .ok (.iadd, 1) := by decide +kernel
theorem dX11_sidesOf_99 : decode cX11_sidesOf 99 = .ok (.istore 11, 2) := by decide +kernel
theorem dX11_sidesOf_101 : decode cX11_sidesOf 101 = .ok (.iload_n 1, 1) := by decide +kernel
theorem dX11_sidesOf_102 : decode cX11_sidesOf 102 = .ok (.iconst 2, 1) := by decide +kernel
theorem dX11_sidesOf_103 : decode cX11_sidesOf 103 = .ok (.if_icmp .ge 10, 3) := by decide +kernel
theorem dX11_sidesOf_106 : decode cX11_sidesOf 106 = .ok (.iload 8, 2) := by decide +kernel
theorem dX11_sidesOf_108 : decode cX11_sidesOf 108 = .ok (.bipush 8, 2) := by decide +kernel
theorem dX11_sidesOf_110 : decode cX11_sidesOf 110 = .ok (.if_icmp .lt 15, 3) := by decide +kernel
theorem dX11_sidesOf_113 : decode cX11_sidesOf 113 = .ok (.iload_n 1, 1) := by decide +kernel
theorem dX11_sidesOf_114 : decode cX11_sidesOf 114 = .ok (.iconst 3, 1) := by decide +kernel
theorem dX11_sidesOf_115 : decode cX11_sidesOf 115 = .ok (.if_icmp .ge 15, 3) := by decide +kernel
theorem dX11_sidesOf_118 : decode cX11_sidesOf 118 = .ok (.iload 10, 2) := by decide +kernel
theorem dX11_sidesOf_120 : decode cX11_sidesOf 120 = .ok (.bipush 8, 2) := by decide +kernel
theorem dX11_sidesOf_122 : decode cX11_sidesOf 122 = .ok (.if_icmp .ge 8, 3) := by decide +kernel
theorem dX11_sidesOf_125 : decode cX11_sidesOf 125 = .ok (.bipush (-9), 2) := by decide +kernel
theorem dX11_sidesOf_127 : decode cX11_sidesOf 127 = .ok (.goto 10, 3) := by decide +kernel
theorem dX11_sidesOf_130 : decode cX11_sidesOf 130 = .ok (.aload_n 0, 1) := by decide +kernel
theorem dX11_sidesOf_131 : decode cX11_sidesOf 131 = .ok (.iload 11, 2) := by decide +kernel
theorem dX11_sidesOf_133 : decode cX11_sidesOf 133 = .ok (.iload_n 1, 1) := by decide +kernel
theorem dX11_sidesOf_134 : decode cX11_sidesOf 134 = .ok (.invokevirtual 234, 3) := by decide +kernel
theorem dX11_sidesOf_137 : decode cX11_sidesOf 137 = .ok (.istore 12, 2) := by decide +kernel
theorem dX11_sidesOf_139 : decode cX11_sidesOf 139 = .ok (.iload 5, 2) := by decide +kernel
theorem dX11_sidesOf_141 : decode cX11_sidesOf 141 = .ok (.iload 12, 2) := by decide +kernel
theorem dX11_sidesOf_143 : decode cX11_sidesOf 143 = .ok (.iload 9, 2) := by decide +kernel
theorem dX11_sidesOf_145 : decode cX11_sidesOf 145 = .ok (.invokestatic 237, 3) := by decide +kernel
theorem dX11_sidesOf_148 : decode cX11_sidesOf 148 = .ok (.ifCond .eq 8, 3) := by decide +kernel
theorem dX11_sidesOf_151 : decode cX11_sidesOf 151 = .ok (.iload 12, 2) := by decide +kernel
theorem dX11_sidesOf_153 : decode cX11_sidesOf 153 = .ok (.goto 5, 3) := by decide +kernel
theorem dX11_sidesOf_156 : decode cX11_sidesOf 156 = .ok (.iload 9, 2) := by decide +kernel
theorem dX11_sidesOf_158 : decode cX11_sidesOf 158 = .ok (.istore 9, 2) := by decide +kernel
theorem dX11_sidesOf_160 : decode cX11_sidesOf 160 = .ok (.iinc 10 1, 3) := by decide +kernel
theorem dX11_sidesOf_163 : decode cX11_sidesOf 163 = .ok (.goto (-111), 3) := by decide +kernel
theorem dX11_sidesOf_166 : decode cX11_sidesOf 166 = .ok (.iconst 1, 1) := by decide +kernel
theorem dX11_sidesOf_167 : decode cX11_sidesOf 167 = .ok (.iload 5, 2) := by decide +kernel
theorem dX11_sidesOf_169 : decode cX11_sidesOf 169 = .ok (.isub, 1) := by decide +kernel
theorem dX11_sidesOf_170 : decode cX11_sidesOf 170 = .ok (.iload 9, 2) := by decide +kernel
theorem dX11_sidesOf_172 : decode cX11_sidesOf 172 = .ok (.iload 7, 2) := by decide +kernel
theorem dX11_sidesOf_174 : decode cX11_sidesOf 174 = .ok (.invokestatic 237, 3) := by decide +kernel
theorem dX11_sidesOf_177 : decode cX11_sidesOf 177 = .ok (.ifCond .eq 8, 3) := by decide +kernel
theorem dX11_sidesOf_180 : decode cX11_sidesOf 180 = .ok (.iload 9, 2) := by decide +kernel
theorem dX11_sidesOf_182 : decode cX11_sidesOf 182 = .ok (.goto 5, 3) := by decide +kernel
theorem dX11_sidesOf_185 : decode cX11_sidesOf 185 = .ok (.iload 7, 2) := by decide +kernel
theorem dX11_sidesOf_187 : decode cX11_sidesOf 187 = .ok (.istore 7, 2) := by decide +kernel
theorem dX11_sidesOf_189 : decode cX11_sidesOf 189 = .ok (.iinc 8 1, 3) := by decide +kernel
theorem dX11_sidesOf_192 : decode cX11_sidesOf 192 = .ok (.goto (-154), 3) := by decide +kernel
theorem dX11_sidesOf_195 : decode cX11_sidesOf 195 = .ok (.iload 5, 2) := by decide +kernel
theorem dX11_sidesOf_197 : decode cX11_sidesOf 197 = .ok (.iload 7, 2) := by decide +kernel
theorem dX11_sidesOf_199 : decode cX11_sidesOf 199 = .ok (.iload_n 3, 1) := by decide +kernel
theorem dX11_sidesOf_200 : decode cX11_sidesOf 200 = .ok (.invokestatic 237, 3) := by decide +kernel
theorem dX11_sidesOf_203 : decode cX11_sidesOf 203 = .ok (.ifCond .eq 10, 3) := by decide +kernel
theorem dX11_sidesOf_206 : decode cX11_sidesOf 206 = .ok (.iload 7, 2) := by decide +kernel
theorem dX11_sidesOf_208 : decode cX11_sidesOf 208 = .ok (.istore_n 3, 1) := by decide +kernel
theorem dX11_sidesOf_209 : decode cX11_sidesOf 209 = .ok (.iload 6, 2) := by decide +kernel
theorem dX11_sidesOf_211 : decode cX11_sidesOf 211 = .ok (.istore 4, 2) := by decide +kernel
theorem dX11_sidesOf_213 : decode cX11_sidesOf 213 = .ok (.iinc 6 1, 3) := by decide +kernel
theorem dX11_sidesOf_216 : decode cX11_sidesOf 216 = .ok (.goto (-192), 3) := by decide +kernel
theorem dX11_sidesOf_219 : decode cX11_sidesOf 219 = .ok (.iload_n 2, 1) := by decide +kernel
theorem dX11_sidesOf_220 : decode cX11_sidesOf 220 = .ok (.ifCond .ne 7, 3) := by decide +kernel
theorem dX11_sidesOf_223 : decode cX11_sidesOf 223 = .ok (.iload_n 3, 1) := by decide +kernel
theorem dX11_sidesOf_224 : decode cX11_sidesOf 224 = .ok (.goto 5, 3) := by decide +kernel
theorem dX11_sidesOf_227 : decode cX11_sidesOf 227 = .ok (.iload 4, 2) := by decide +kernel
theorem dX11_sidesOf_229 : decode cX11_sidesOf 229 = .ok (.ireturn, 1) := by decide +kernel
theorem dX11_sides_0 : decode cX11_sides 0 = .ok (.aload_n 0, 1) := by decide +kernel
theorem dX11_sides_1 : decode cX11_sides 1 = .ok (.invokevirtual 177, 3) := by decide +kernel
theorem dX11_sides_4 : decode cX11_sides 4 = .ok (.iload_n 1, 1) := by decide +kernel
theorem dX11_sides_5 : decode cX11_sides 5 = .ok (.i2l, 1) := by decide +kernel
theorem dX11_sides_6 : decode cX11_sides 6 = .ok (.lconst 1, 1) := by decide +kernel
theorem dX11_sides_7 : decode cX11_sides 7 = .ok (.ldc2_w 65, 3) := by decide +kernel
theorem dX11_sides_10 : decode cX11_sides 10 = .ok (.invokestatic 58, 3) := by decide +kernel
theorem dX11_sides_13 : decode cX11_sides 13 = .ok (.ifCond .eq 19, 3) := by decide +kernel
theorem dX11_sides_16 : decode cX11_sides 16 = .ok (.iload_n 2, 1) := by decide +kernel
theorem dX11_sides_17 : decode cX11_sides 17 = .ok (.invokestatic 86, 3) := by decide +kernel
theorem dX11_sides_20 : decode cX11_sides 20 = .ok (.ifCond .eq 12, 3) := by decide +kernel
theorem dX11_sides_23 : decode cX11_sides 23 = .ok (.aload_n 0, 1) := by decide +kernel
theorem dX11_sides_24 : decode cX11_sides 24 = .ok (.iload_n 1, 1) := by decide +kernel
theorem dX11_sides_25 : decode cX11_sides 25 = .ok (.iload_n 2, 1) := by decide +kernel
theorem dX11_sides_26 : decode cX11_sides 26 = .ok (.invokevirtual 240, 3) := by decide +kernel
theorem dX11_sides_29 : decode cX11_sides 29 = .ok (.goto 5, 3) := by decide +kernel
theorem dX11_sides_32 : decode cX11_sides 32 = .ok (.bipush (-2), 2) := by decide +kernel
theorem dX11_sides_34 : decode cX11_sides 34 = .ok (.ireturn, 1) := by decide +kernel
theorem dX11_seen_0 : decode cX11_seen 0 = .ok (.iload_n 1, 1) := by decide +kernel
theorem dX11_seen_1 : decode cX11_seen 1 = .ok (.i2l, 1) := by decide +kernel
theorem dX11_seen_2 : decode cX11_seen 2 = .ok (.lconst 0, 1) := by decide +kernel
theorem dX11_seen_3 : decode cX11_seen 3 = .ok (.ldc2_w 243, 3) := by decide +kernel
theorem dX11_seen_6 : decode cX11_seen 6 = .ok (.invokestatic 58, 3) := by decide +kernel
theorem dX11_seen_9 : decode cX11_seen 9 = .ok (.ifCond .eq 27, 3) := by decide +kernel
theorem dX11_seen_12 : decode cX11_seen 12 = .ok (.iload_n 2, 1) := by decide +kernel
theorem dX11_seen_13 : decode cX11_seen 13 = .ok (.i2l, 1) := by decide +kernel
theorem dX11_seen_14 : decode cX11_seen 14 = .ok (.lconst 0, 1) := by decide +kernel
theorem dX11_seen_15 : decode cX11_seen 15 = .ok (.ldc2_w 194, 3) := by decide +kernel
theorem dX11_seen_18 : decode cX11_seen 18 = .ok (.invokestatic 58, 3) := by decide +kernel
theorem dX11_seen_21 : decode cX11_seen 21 = .ok (.ifCond .eq 15, 3) := by decide +kernel
theorem dX11_seen_24 : decode cX11_seen 24 = .ok (.iload_n 3, 1) := by decide +kernel
theorem dX11_seen_25 : decode cX11_seen 25 = .ok (.i2l, 1) := by decide +kernel
theorem dX11_seen_26 : decode cX11_seen 26 = .ok (.lconst 0, 1) := by decide +kernel
theorem dX11_seen_27 : decode cX11_seen 27 = .ok (.ldc2_w 245, 3) := by decide +kernel
theorem dX11_seen_30 : decode cX11_seen 30 = .ok (.invokestatic 58, 3) := by decide +kernel
theorem dX11_seen_33 : decode cX11_seen 33 = .ok (.ifCond .ne 6, 3) := by decide +kernel
theorem dX11_seen_36 : decode cX11_seen 36 = .ok (.bipush (-2), 2) := by decide +kernel
theorem dX11_seen_38 : decode cX11_seen 38 = .ok (.ireturn, 1) := by decide +kernel
theorem dX11_seen_39 : decode cX11_seen 39 = .ok (.aload_n 0, 1) := by decide +kernel
theorem dX11_seen_40 : decode cX11_seen 40 = .ok (.getfield 247, 3) := by decide +kernel
theorem dX11_seen_43 : decode cX11_seen 43 = .ok (.bipush 8, 2) := by decide +kernel
theorem dX11_seen_45 : decode cX11_seen 45 = .ok (.if_icmp .ne 6, 3) := by decide +kernel
theorem dX11_seen_48 : decode cX11_seen 48 = .ok (.bipush (-4), 2) := by decide +kernel
theorem dX11_seen_50 : decode cX11_seen 50 = .ok (.ireturn, 1) := by decide +kernel
theorem dX11_seen_51 : decode cX11_seen 51 = .ok (.aload_n 0, 1) := by decide +kernel
theorem dX11_seen_52 : decode cX11_seen 52 = .ok (.getfield 49, 3) := by decide +kernel
theorem dX11_seen_55 : decode cX11_seen 55 = .ok (.iconst 3, 1) := by decide +kernel
theorem dX11_seen_56 : decode cX11_seen 56 = .ok (.aload_n 0, 1) := by decide +kernel
theorem dX11_seen_57 : decode cX11_seen 57 = .ok (.getfield 247, 3) := by decide +kernel
theorem dX11_seen_60 : decode cX11_seen 60 = .ok (.imul, 1) := by decide +kernel
theorem dX11_seen_61 : decode cX11_seen 61 = .ok (.iload_n 1, 1) := by decide +kernel
theorem dX11_seen_62 : decode cX11_seen 62 = .ok (.iastore, 1) := by decide +kernel
theorem dX11_seen_63 : decode cX11_seen 63 = .ok (.aload_n 0, 1) := by decide +kernel
theorem dX11_seen_64 : decode cX11_seen 64 = .ok (.getfield 49, 3) := by decide +kernel
theorem dX11_seen_67 : decode cX11_seen 67 = .ok (.iconst 3, 1) := by decide +kernel
theorem dX11_seen_68 : decode cX11_seen 68 = .ok (.aload_n 0, 1) := by decide +kernel
theorem dX11_seen_69 : decode cX11_seen 69 = .ok (.getfield 247, 3) := by decide +kernel
theorem dX11_seen_72 : decode cX11_seen 72 = .ok (.imul, 1) := by decide +kernel
theorem dX11_seen_73 : decode cX11_seen 73 = .ok (.iconst 1, 1) := by decide +kernel
theorem dX11_seen_74 : decode cX11_seen 74 = .ok (.iadd, 1) := by decide +kernel
theorem dX11_seen_75 : decode cX11_seen 75 = .ok (.iload_n 2, 1) := by decide +kernel
theorem dX11_seen_76 : decode cX11_seen 76 = .ok (.iastore, 1) := by decide +kernel
theorem dX11_seen_77 : decode cX11_seen 77 = .ok (.aload_n 0, 1) := by decide +kernel
theorem dX11_seen_78 : decode cX11_seen 78 = .ok (.getfield 49, 3) := by decide +kernel
theorem dX11_seen_81 : decode cX11_seen 81 = .ok (.iconst 3, 1) := by decide +kernel
theorem dX11_seen_82 : decode cX11_seen 82 = .ok (.aload_n 0, 1) := by decide +kernel
theorem dX11_seen_83 : decode cX11_seen 83 = .ok (.getfield 247, 3) := by decide +kernel
theorem dX11_seen_86 : decode cX11_seen 86 = .ok (.imul, 1) := by decide +kernel
theorem dX11_seen_87 : decode cX11_seen 87 = .ok (.iconst 2, 1) := by decide +kernel
theorem dX11_seen_88 : decode cX11_seen 88 = .ok (.iadd, 1) := by decide +kernel
theorem dX11_seen_89 : decode cX11_seen 89 = .ok (.iload_n 3, 1) := by decide +kernel
theorem dX11_seen_90 : decode cX11_seen 90 = .ok (.iastore, 1) := by decide +kernel
theorem dX11_seen_91 : decode cX11_seen 91 = .ok (.aload_n 0, 1) := by decide +kernel
theorem dX11_seen_92 : decode cX11_seen 92 = .ok (.dup, 1) := by decide +kernel
theorem dX11_seen_93 : decode cX11_seen 93 = .ok (.getfield 247, 3) := by decide +kernel
theorem dX11_seen_96 : decode cX11_seen 96 = .ok (.iconst 1, 1) := by decide +kernel
theorem dX11_seen_97 : decode cX11_seen 97 = .ok (.iadd, 1) := by decide +kernel
theorem dX11_seen_98 : decode cX11_seen 98 = .ok (.putfield 247, 3) := by decide +kernel
theorem dX11_seen_101 : decode cX11_seen 101 = .ok (.aload_n 0, 1) := by decide +kernel
theorem dX11_seen_102 : decode cX11_seen 102 = .ok (.getfield 247, 3) := by decide +kernel
theorem dX11_seen_105 : decode cX11_seen 105 = .ok (.ireturn, 1) := by decide +kernel
theorem dX11_forget_0 : decode cX11_forget 0 = .ok (.aload_n 0, 1) := by decide +kernel
theorem dX11_forget_1 : decode cX11_forget 1 = .ok (.getfield 247, 3) := by decide +kernel
theorem dX11_forget_4 : decode cX11_forget 4 = .ok (.istore_n 1, 1) := by decide +kernel
theorem dX11_forget_5 : decode cX11_forget 5 = .ok (.aload_n 0, 1) := by decide +kernel
theorem dX11_forget_6 : decode cX11_forget 6 = .ok (.iconst 0, 1) := by decide +kernel
theorem dX11_forget_7 : decode cX11_forget 7 = .ok (.putfield 247, 3) := by decide +kernel
theorem dX11_forget_10 : decode cX11_forget 10 = .ok (.iload_n 1, 1) := by decide +kernel
theorem dX11_forget_11 : decode cX11_forget 11 = .ok (.ireturn, 1) := by decide +kernel
theorem dX11_read_0 : decode cX11_read 0 = .ok (.iload_n 1, 1) := by decide +kernel
theorem dX11_read_1 : decode cX11_read 1 = .ok (.invokestatic 67, 3) := by decide +kernel
theorem dX11_read_4 : decode cX11_read 4 = .ok (.ifCond .ne 6, 3) := by decide +kernel
theorem dX11_read_7 : decode cX11_read 7 = .ok (.bipush (-2), 2) := by decide +kernel
theorem dX11_read_9 : decode cX11_read 9 = .ok (.ireturn, 1) := by decide +kernel
theorem dX11_read_10 : decode cX11_read 10 = .ok (.aload_n 0, 1) := by decide +kernel
theorem dX11_read_11 : decode cX11_read 11 = .ok (.getfield 7, 3) := by decide +kernel
theorem dX11_read_14 : decode cX11_read 14 = .ok (.iload_n 1, 1) := by decide +kernel
theorem dX11_read_15 : decode cX11_read 15 = .ok (.iaload, 1) := by decide +kernel
theorem dX11_read_16 : decode cX11_read 16 = .ok (.ifCond .ge 9, 3) := by decide +kernel
theorem dX11_read_19 : decode cX11_read 19 = .ok (.aload_n 0, 1) := by decide +kernel
theorem dX11_read_20 : decode cX11_read 20 = .ok (.iconst 1, 1) := by decide +kernel
theorem dX11_read_21 : decode cX11_read 21 = .ok (.invokevirtual 73, 3) := by decide +kernel
theorem dX11_read_24 : decode cX11_read 24 = .ok (.ireturn, 1) := by decide +kernel
theorem dX11_read_25 : decode cX11_read 25 = .ok (.iconst 0, 1) := by decide +kernel
theorem dX11_read_26 : decode cX11_read 26 = .ok (.istore_n 2, 1) := by decide +kernel
theorem dX11_read_27 : decode cX11_read 27 = .ok (.iconst 1, 1) := by decide +kernel
theorem dX11_read_28 : decode cX11_read 28 = .ok (.istore_n 3, 1) := by decide +kernel
theorem dX11_read_29 : decode cX11_read 29 = .ok (.iload_n 3, 1) := by decide +kernel
theorem dX11_read_30 : decode cX11_read 30 = .ok (.ifCond .eq 80, 3) := by decide +kernel
theorem dX11_read_33 : decode cX11_read 33 = .ok (.iconst 3, 1) := by decide +kernel
theorem dX11_read_34 : decode cX11_read 34 = .ok (.iload_n 2, 1) := by decide +kernel
theorem dX11_read_35 : decode cX11_read 35 = .ok (.imul, 1) := by decide +kernel
theorem dX11_read_36 : decode cX11_read 36 = .ok (.iconst 3, 1) := by decide +kernel
theorem dX11_read_37 : decode cX11_read 37 = .ok (.iadd, 1) := by decide +kernel
theorem dX11_read_38 : decode cX11_read 38 = .ok (.aload_n 0, 1) := by decide +kernel
theorem dX11_read_39 : decode cX11_read 39 = .ok (.getfield 13, 3) := by decide +kernel
theorem dX11_read_42 : decode cX11_read 42 = .ok (.iload_n 1, 1) := by decide +kernel
theorem dX11_read_43 : decode cX11_read 43 = .ok (.iaload, 1) := by decide +kernel
theorem dX11_read_44 : decode cX11_read 44 = .ok (.if_icmp .gt 66, 3) := by decide +kernel
theorem dX11_read_47 : decode cX11_read 47 = .ok (.bipush 60, 2) := by decide +kernel
theorem dX11_read_49 : decode cX11_read 49 = .ok (.iload_n 1, 1) := by decide +kernel
theorem dX11_read_50 : decode cX11_read 50 = .ok (.imul, 1) := by decide +kernel
theorem dX11_read_51 : decode cX11_read 51 = .ok (.iconst 3, 1) := by decide +kernel
theorem dX11_read_52 : decode cX11_read 52 = .ok (.iload_n 2, 1) := by decide +kernel
theorem dX11_read_53 : decode cX11_read 53 = .ok (.imul, 1) := by decide +kernel
theorem dX11_read_54 : decode cX11_read 54 = .ok (.iadd, 1) := by decide +kernel
theorem dX11_read_55 : decode cX11_read 55 = .ok (.istore 4, 2) := by decide +kernel
theorem dX11_read_57 : decode cX11_read 57 = .ok (.aload_n 0, 1) := by decide +kernel
theorem dX11_read_58 : decode cX11_read 58 = .ok (.aload_n 0, 1) := by decide +kernel
theorem dX11_read_59 : decode cX11_read 59 = .ok (.getfield 16, 3) := by decide +kernel
theorem dX11_read_62 : decode cX11_read 62 = .ok (.iload 4, 2) := by decide +kernel
theorem dX11_read_64 : decode cX11_read 64 = .ok (.iaload, 1) := by decide +kernel
theorem dX11_read_65 : decode cX11_read 65 = .ok (.aload_n 0, 1) := by decide +kernel
theorem dX11_read_66 : decode cX11_read 66 = .ok (.getfield 16, 3) := by decide +kernel
theorem dX11_read_69 : decode cX11_read 69 = .ok (.iload 4, 2) := by decide +kernel
theorem dX11_read_71 : decode cX11_read 71 = .ok (.iconst 1, 1) := by decide +kernel
theorem dX11_read_72 : decode cX11_read 72 = .ok (.iadd, 1) := by decide +kernel
theorem dX11_read_73 : decode cX11_read 73 = .ok (.iaload, 1) := by decide +kernel
theorem dX11_read_74 : decode cX11_read 74 = .ok (.aload_n 0, 1) := by decide +kernel
theorem dX11_read_75 : decode cX11_read 75 = .ok (.getfield 16, 3) := by decide +kernel
theorem dX11_read_78 : decode cX11_read 78 = .ok (.iload 4, 2) := by decide +kernel
theorem dX11_read_80 : decode cX11_read 80 = .ok (.iconst 2, 1) := by decide +kernel
theorem dX11_read_81 : decode cX11_read 81 = .ok (.iadd, 1) := by decide +kernel
theorem dX11_read_82 : decode cX11_read 82 = .ok (.iaload, 1) := by decide +kernel
theorem dX11_read_83 : decode cX11_read 83 = .ok (.invokevirtual 250, 3) := by decide +kernel
theorem dX11_read_86 : decode cX11_read 86 = .ok (.ifCond .lt 7, 3) := by decide +kernel
theorem dX11_read_89 : decode cX11_read 89 = .ok (.iconst 1, 1) := by decide +kernel
theorem dX11_read_90 : decode cX11_read 90 = .ok (.goto 4, 3) := by decide +kernel
theorem dX11_read_93 : decode cX11_read 93 = .ok (.iconst 0, 1) := by decide +kernel
theorem dX11_read_94 : decode cX11_read 94 = .ok (.istore_n 3, 1) := by decide +kernel
theorem dX11_read_95 : decode cX11_read 95 = .ok (.iload_n 2, 1) := by decide +kernel
theorem dX11_read_96 : decode cX11_read 96 = .ok (.iload_n 3, 1) := by decide +kernel
theorem dX11_read_97 : decode cX11_read 97 = .ok (.ifCond .eq 7, 3) := by decide +kernel
theorem dX11_read_100 : decode cX11_read 100 = .ok (.iconst 1, 1) := by decide +kernel
theorem dX11_read_101 : decode cX11_read 101 = .ok (.goto 4, 3) := by decide +kernel
theorem dX11_read_104 : decode cX11_read 104 = .ok (.iconst 0, 1) := by decide +kernel
theorem dX11_read_105 : decode cX11_read 105 = .ok (.iadd, 1) := by decide +kernel
theorem dX11_read_106 : decode cX11_read 106 = .ok (.istore_n 2, 1) := by decide +kernel
theorem dX11_read_107 : decode cX11_read 107 = .ok (.goto (-78), 3) := by decide +kernel
theorem dX11_read_110 : decode cX11_read 110 = .ok (.iload_n 2, 1) := by decide +kernel
theorem dX11_read_111 : decode cX11_read 111 = .ok (.ireturn, 1) := by decide +kernel
theorem dX11_isSeen_0 : decode cX11_isSeen 0 = .ok (.iconst 1, 1) := by decide +kernel
theorem dX11_isSeen_1 : decode cX11_isSeen 1 = .ok (.istore_n 1, 1) := by decide +kernel
theorem dX11_isSeen_2 : decode cX11_isSeen 2 = .ok (.iconst 0, 1) := by decide +kernel
theorem dX11_isSeen_3 : decode cX11_isSeen 3 = .ok (.istore_n 2, 1) := by decide +kernel
theorem dX11_isSeen_4 : decode cX11_isSeen 4 = .ok (.iload_n 2, 1) := by decide +kernel
theorem dX11_isSeen_5 : decode cX11_isSeen 5 = .ok (.aload_n 0, 1) := by decide +kernel
theorem dX11_isSeen_6 : decode cX11_isSeen 6 = .ok (.getfield 247, 3) := by decide +kernel
theorem dX11_isSeen_9 : decode cX11_isSeen 9 = .ok (.if_icmp .ge 86, 3) := by decide +kernel
theorem dX11_isSeen_12 : decode cX11_isSeen 12 = .ok (.iload_n 1, 1) := by decide +kernel
theorem dX11_isSeen_13 : decode cX11_isSeen 13 = .ok (.ifCond .eq 82, 3) := by decide +kernel
theorem dX11_isSeen_16 : decode cX11_isSeen 16 = .ok (.aload_n 0, 1) := by decide +kernel
theorem dX11_isSeen_17 : decode cX11_isSeen 17 = .ok (.aload_n 0, 1) := by decide +kernel
theorem dX11_isSeen_18 : decode cX11_isSeen 18 = .ok (.getfield 49, 3) := by decide +kernel
theorem dX11_isSeen_21 : decode cX11_isSeen 21 = .ok (.iconst 3, 1) := by decide +kernel
theorem dX11_isSeen_22 : decode cX11_isSeen 22 = .ok (.iload_n 2, 1) := by decide +kernel
theorem dX11_isSeen_23 : decode cX11_isSeen 23 = .ok (.imul, 1) := by decide +kernel
theorem dX11_isSeen_24 : decode cX11_isSeen 24 = .ok (.iaload, 1) := by decide +kernel
theorem dX11_isSeen_25 : decode cX11_isSeen 25 = .ok (.invokevirtual 180, 3) := by decide +kernel
theorem dX11_isSeen_28 : decode cX11_isSeen 28 = .ok (.ifCond .eq 59, 3) := by decide +kernel
theorem dX11_isSeen_31 : decode cX11_isSeen 31 = .ok (.aload_n 0, 1) := by decide +kernel
theorem dX11_isSeen_32 : decode cX11_isSeen 32 = .ok (.aload_n 0, 1) := by decide +kernel
theorem dX11_isSeen_33 : decode cX11_isSeen 33 = .ok (.getfield 49, 3) := by decide +kernel
theorem dX11_isSeen_36 : decode cX11_isSeen 36 = .ok (.iconst 3, 1) := by decide +kernel
theorem dX11_isSeen_37 : decode cX11_isSeen 37 = .ok (.iload_n 2, 1) := by decide +kernel
theorem dX11_isSeen_38 : decode cX11_isSeen 38 = .ok (.imul, 1) := by decide +kernel
theorem dX11_isSeen_39 : decode cX11_isSeen 39 = .ok (.iconst 1, 1) := by decide +kernel
theorem dX11_isSeen_40 : decode cX11_isSeen 40 = .ok (.iadd, 1) := by decide +kernel
theorem dX11_isSeen_41 : decode cX11_isSeen 41 = .ok (.iaload, 1) := by decide +kernel
theorem dX11_isSeen_42 : decode cX11_isSeen 42 = .ok (.invokevirtual 183, 3) := by decide +kernel
theorem dX11_isSeen_45 : decode cX11_isSeen 45 = .ok (.ifCond .eq 42, 3) := by decide +kernel
theorem dX11_isSeen_48 : decode cX11_isSeen 48 = .ok (.aload_n 0, 1) := by decide +kernel
theorem dX11_isSeen_49 : decode cX11_isSeen 49 = .ok (.aload_n 0, 1) := by decide +kernel
theorem dX11_isSeen_50 : decode cX11_isSeen 50 = .ok (.getfield 49, 3) := by decide +kernel
theorem dX11_isSeen_53 : decode cX11_isSeen 53 = .ok (.iconst 3, 1) := by decide +kernel
theorem dX11_isSeen_54 : decode cX11_isSeen 54 = .ok (.iload_n 2, 1) := by decide +kernel
theorem dX11_isSeen_55 : decode cX11_isSeen 55 = .ok (.imul, 1) := by decide +kernel
theorem dX11_isSeen_56 : decode cX11_isSeen 56 = .ok (.iaload, 1) := by decide +kernel
theorem dX11_isSeen_57 : decode cX11_isSeen 57 = .ok (.aload_n 0, 1) := by decide +kernel
theorem dX11_isSeen_58 : decode cX11_isSeen 58 = .ok (.getfield 49, 3) := by decide +kernel
theorem dX11_isSeen_61 : decode cX11_isSeen 61 = .ok (.iconst 3, 1) := by decide +kernel
theorem dX11_isSeen_62 : decode cX11_isSeen 62 = .ok (.iload_n 2, 1) := by decide +kernel
theorem dX11_isSeen_63 : decode cX11_isSeen 63 = .ok (.imul, 1) := by decide +kernel
theorem dX11_isSeen_64 : decode cX11_isSeen 64 = .ok (.iconst 1, 1) := by decide +kernel
theorem dX11_isSeen_65 : decode cX11_isSeen 65 = .ok (.iadd, 1) := by decide +kernel
theorem dX11_isSeen_66 : decode cX11_isSeen 66 = .ok (.iaload, 1) := by decide +kernel
theorem dX11_isSeen_67 : decode cX11_isSeen 67 = .ok (.invokevirtual 186, 3) := by decide +kernel
theorem dX11_isSeen_70 : decode cX11_isSeen 70 = .ok (.aload_n 0, 1) := by decide +kernel
theorem dX11_isSeen_71 : decode cX11_isSeen 71 = .ok (.getfield 49, 3) := by decide +kernel
theorem dX11_isSeen_74 : decode cX11_isSeen 74 = .ok (.iconst 3, 1) := by decide +kernel
theorem dX11_isSeen_75 : decode cX11_isSeen 75 = .ok (.iload_n 2, 1) := by decide +kernel
theorem dX11_isSeen_76 : decode cX11_isSeen 76 = .ok (.imul, 1) := by decide +kernel
theorem dX11_isSeen_77 : decode cX11_isSeen 77 = .ok (.iconst 2, 1) := by decide +kernel
theorem dX11_isSeen_78 : decode cX11_isSeen 78 = .ok (.iadd, 1) := by decide +kernel
theorem dX11_isSeen_79 : decode cX11_isSeen 79 = .ok (.iaload, 1) := by decide +kernel
theorem dX11_isSeen_80 : decode cX11_isSeen 80 = .ok (.if_icmp .ne 7, 3) := by decide +kernel
theorem dX11_isSeen_83 : decode cX11_isSeen 83 = .ok (.iconst 1, 1) := by decide +kernel
theorem dX11_isSeen_84 : decode cX11_isSeen 84 = .ok (.goto 4, 3) := by decide +kernel
theorem dX11_isSeen_87 : decode cX11_isSeen 87 = .ok (.iconst 0, 1) := by decide +kernel
theorem dX11_isSeen_88 : decode cX11_isSeen 88 = .ok (.istore_n 1, 1) := by decide +kernel
theorem dX11_isSeen_89 : decode cX11_isSeen 89 = .ok (.iinc 2 1, 3) := by decide +kernel
theorem dX11_isSeen_92 : decode cX11_isSeen 92 = .ok (.goto (-88), 3) := by decide +kernel
theorem dX11_isSeen_95 : decode cX11_isSeen 95 = .ok (.iload_n 1, 1) := by decide +kernel
theorem dX11_isSeen_96 : decode cX11_isSeen 96 = .ok (.ireturn, 1) := by decide +kernel
theorem dX11_whoBy_0 : decode cX11_whoBy 0 = .ok (.iconst 0, 1) := by decide +kernel
theorem dX11_whoBy_1 : decode cX11_whoBy 1 = .ok (.istore_n 2, 1) := by decide +kernel
theorem dX11_whoBy_2 : decode cX11_whoBy 2 = .ok (.aload_n 0, 1) := by decide +kernel
theorem dX11_whoBy_3 : decode cX11_whoBy 3 = .ok (.iload_n 1, 1) := by decide +kernel
theorem dX11_whoBy_4 : decode cX11_whoBy 4 = .ok (.putfield 129, 3) := by decide +kernel
theorem dX11_whoBy_7 : decode cX11_whoBy 7 = .ok (.iconst 0, 1) := by decide +kernel
theorem dX11_whoBy_8 : decode cX11_whoBy 8 = .ok (.istore_n 3, 1) := by decide +kernel
theorem dX11_whoBy_9 : decode cX11_whoBy 9 = .ok (.iload_n 3, 1) := by decide +kernel
theorem dX11_whoBy_10 : decode cX11_whoBy 10 = .ok (.aload_n 0, 1) := by decide +kernel
theorem dX11_whoBy_11 : decode cX11_whoBy 11 = .ok (.getfield 108, 3) := by decide +kernel
theorem dX11_whoBy_14 : decode cX11_whoBy 14 = .ok (.if_icmp .ge 31, 3) := by decide +kernel
theorem dX11_whoBy_17 : decode cX11_whoBy 17 = .ok (.aload_n 0, 1) := by decide +kernel
theorem dX11_whoBy_18 : decode cX11_whoBy 18 = .ok (.iload_n 3, 1) := by decide +kernel
theorem dX11_whoBy_19 : decode cX11_whoBy 19 = .ok (.putfield 52, 3) := by decide +kernel
theorem dX11_whoBy_22 : decode cX11_whoBy 22 = .ok (.iload_n 2, 1) := by decide +kernel
theorem dX11_whoBy_23 : decode cX11_whoBy 23 = .ok (.aload_n 0, 1) := by decide +kernel
theorem dX11_whoBy_24 : decode cX11_whoBy 24 = .ok (.invokevirtual 253, 3) := by decide +kernel
theorem dX11_whoBy_27 : decode cX11_whoBy 27 = .ok (.ifCond .eq 9, 3) := by decide +kernel
theorem dX11_whoBy_30 : decode cX11_whoBy 30 = .ok (.iconst 1, 1) := by decide +kernel
theorem dX11_whoBy_31 : decode cX11_whoBy 31 = .ok (.iload_n 3, 1) := by decide +kernel
theorem dX11_whoBy_32 : decode cX11_whoBy 32 = .ok (.ishl, 1) := by decide +kernel
theorem dX11_whoBy_33 : decode cX11_whoBy 33 = .ok (.goto 4, 3) := by decide +kernel
theorem dX11_whoBy_36 : decode cX11_whoBy 36 = .ok (.iconst 0, 1) := by decide +kernel
theorem dX11_whoBy_37 : decode cX11_whoBy 37 = .ok (.ior, 1) := by decide +kernel
theorem dX11_whoBy_38 : decode cX11_whoBy 38 = .ok (.istore_n 2, 1) := by decide +kernel
theorem dX11_whoBy_39 : decode cX11_whoBy 39 = .ok (.iinc 3 1, 3) := by decide +kernel
theorem dX11_whoBy_42 : decode cX11_whoBy 42 = .ok (.goto (-33), 3) := by decide +kernel
theorem dX11_whoBy_45 : decode cX11_whoBy 45 = .ok (.aload_n 0, 1) := by decide +kernel
theorem dX11_whoBy_46 : decode cX11_whoBy 46 = .ok (.iconst (-1), 1) := by decide +kernel
theorem dX11_whoBy_47 : decode cX11_whoBy 47 = .ok (.putfield 52, 3) := by decide +kernel
theorem dX11_whoBy_50 : decode cX11_whoBy 50 = .ok (.iload_n 2, 1) := by decide +kernel
theorem dX11_whoBy_51 : decode cX11_whoBy 51 = .ok (.ireturn, 1) := by decide +kernel
theorem dX11_who_0 : decode cX11_who 0 = .ok (.aload_n 0, 1) := by decide +kernel
theorem dX11_who_1 : decode cX11_who 1 = .ok (.invokevirtual 177, 3) := by decide +kernel
theorem dX11_who_4 : decode cX11_who 4 = .ok (.iload_n 1, 1) := by decide +kernel
theorem dX11_who_5 : decode cX11_who 5 = .ok (.i2l, 1) := by decide +kernel
theorem dX11_who_6 : decode cX11_who 6 = .ok (.lconst 0, 1) := by decide +kernel
theorem dX11_who_7 : decode cX11_who 7 = .ok (.ldc2_w 71, 3) := by decide +kernel
theorem dX11_who_10 : decode cX11_who 10 = .ok (.invokestatic 58, 3) := by decide +kernel
theorem dX11_who_13 : decode cX11_who 13 = .ok (.ifCond .eq 11, 3) := by decide +kernel
theorem dX11_who_16 : decode cX11_who 16 = .ok (.aload_n 0, 1) := by decide +kernel
theorem dX11_who_17 : decode cX11_who 17 = .ok (.iload_n 1, 1) := by decide +kernel
theorem dX11_who_18 : decode cX11_who 18 = .ok (.invokevirtual 256, 3) := by decide +kernel
theorem dX11_who_21 : decode cX11_who 21 = .ok (.goto 5, 3) := by decide +kernel
theorem dX11_who_24 : decode cX11_who 24 = .ok (.bipush (-2), 2) := by decide +kernel
theorem dX11_who_26 : decode cX11_who 26 = .ok (.ireturn, 1) := by decide +kernel
theorem dX11_frostOf_0 : decode cX11_frostOf 0 = .ok (.aload_n 0, 1) := by decide +kernel
theorem dX11_frostOf_1 : decode cX11_frostOf 1 = .ok (.aload_n 0, 1) := by decide +kernel
theorem dX11_frostOf_2 : decode cX11_frostOf 2 = .ok (.getfield 108, 3) := by decide +kernel
theorem dX11_frostOf_5 : decode cX11_frostOf 5 = .ok (.invokevirtual 174, 3) := by decide +kernel
theorem dX11_frostOf_8 : decode cX11_frostOf 8 = .ok (.iconst 0, 1) := by decide +kernel
theorem dX11_frostOf_9 : decode cX11_frostOf 9 = .ok (.istore_n 3, 1) := by decide +kernel
theorem dX11_frostOf_10 : decode cX11_frostOf 10 = .ok (.lconst 1, 1) := by decide +kernel
theorem dX11_frostOf_11 : decode cX11_frostOf 11 = .ok (.lstore 4, 2) := by decide +kernel
theorem dX11_frostOf_13 : decode cX11_frostOf 13 = .ok (.iconst 0, 1) := by decide +kernel
theorem dX11_frostOf_14 : decode cX11_frostOf 14 = .ok (.istore 6, 2) := by decide +kernel
theorem dX11_frostOf_16 : decode cX11_frostOf 16 = .ok (.iload 6, 2) := by decide +kernel
theorem dX11_frostOf_18 : decode cX11_frostOf 18 = .ok (.aload_n 0, 1) := by decide +kernel
theorem dX11_frostOf_19 : decode cX11_frostOf 19 = .ok (.getfield 91, 3) := by decide +kernel
theorem dX11_frostOf_22 : decode cX11_frostOf 22 = .ok (.if_icmp .ge 52, 3) := by decide +kernel
theorem dX11_frostOf_25 : decode cX11_frostOf 25 = .ok (.iload_n 3, 1) := by decide +kernel
theorem dX11_frostOf_26 : decode cX11_frostOf 26 = .ok (.aload_n 0, 1) := by decide +kernel
theorem dX11_frostOf_27 : decode cX11_frostOf 27 = .ok (.getfield 43, 3) := by decide +kernel
theorem dX11_frostOf_30 : decode cX11_frostOf 30 = .ok (.iload 6, 2) := by decide +kernel
theorem dX11_frostOf_32 : decode cX11_frostOf 32 = .ok (.iaload, 1) := by decide +kernel
theorem dX11_frostOf_33 : decode cX11_frostOf 33 = .ok (.ifCond .le 10, 3) := by decide +kernel
theorem dX11_frostOf_36 : decode cX11_frostOf 36 = .ok (.iconst 1, 1) := by decide +kernel
theorem dX11_frostOf_37 : decode cX11_frostOf 37 = .ok (.iload 6, 2) := by decide +kernel
theorem dX11_frostOf_39 : decode cX11_frostOf 39 = .ok (.ishl, 1) := by decide +kernel
theorem dX11_frostOf_40 : decode cX11_frostOf 40 = .ok (.goto 4, 3) := by decide +kernel
theorem dX11_frostOf_43 : decode cX11_frostOf 43 = .ok (.iconst 0, 1) := by decide +kernel
theorem dX11_frostOf_44 : decode cX11_frostOf 44 = .ok (.ior, 1) := by decide +kernel
theorem dX11_frostOf_45 : decode cX11_frostOf 45 = .ok (.istore_n 3, 1) := by decide +kernel
theorem dX11_frostOf_46 : decode cX11_frostOf 46 = .ok (.lload 4, 2) := by decide +kernel
theorem dX11_frostOf_48 : decode cX11_frostOf 48 = .ok (.aload_n 0, 1) := by decide +kernel
theorem dX11_frostOf_49 : decode cX11_frostOf 49 = .ok (.getfield 43, 3) := by decide +kernel
theorem dX11_frostOf_52 : decode cX11_frostOf 52 = .ok (.iload 6, 2) := by decide +kernel
theorem dX11_frostOf_54 : decode cX11_frostOf 54 = .ok (.iaload, 1) := by decide +kernel
theorem dX11_frostOf_55 : decode cX11_frostOf 55 = .ok (.ifCond .le 9, 3) := by decide +kernel
theorem dX11_frostOf_58 : decode cX11_frostOf 58 = .ok (.ldc2_w 245, 3) := by decide +kernel
theorem dX11_frostOf_61 : decode cX11_frostOf 61 = .ok (.goto 4, 3) := by decide +kernel
theorem dX11_frostOf_64 : decode cX11_frostOf 64 = .ok (.lconst 1, 1) := by decide +kernel
theorem dX11_frostOf_65 : decode cX11_frostOf 65 = .ok (.lmul, 1) := by decide +kernel
theorem dX11_frostOf_66 : decode cX11_frostOf 66 = .ok (.lstore 4, 2) := by decide +kernel
theorem dX11_frostOf_68 : decode cX11_frostOf 68 = .ok (.iinc 6 1, 3) := by decide +kernel
theorem dX11_frostOf_71 : decode cX11_frostOf 71 = .ok (.goto (-55), 3) := by decide +kernel
theorem dX11_frostOf_74 : decode cX11_frostOf 74 = .ok (.lconst 0, 1) := by decide +kernel
theorem dX11_frostOf_75 : decode cX11_frostOf 75 = .ok (.lstore 6, 2) := by decide +kernel
theorem dX11_frostOf_77 : decode cX11_frostOf 77 = .ok (.iconst 0, 1) := by decide +kernel
theorem dX11_frostOf_78 : decode cX11_frostOf 78 = .ok (.istore 8, 2) := by decide +kernel
theorem dX11_frostOf_80 : decode cX11_frostOf 80 = .ok (.iload 8, 2) := by decide +kernel
theorem dX11_frostOf_82 : decode cX11_frostOf 82 = .ok (.iconst 1, 1) := by decide +kernel
theorem dX11_frostOf_83 : decode cX11_frostOf 83 = .ok (.aload_n 0, 1) := by decide +kernel
theorem dX11_frostOf_84 : decode cX11_frostOf 84 = .ok (.getfield 91, 3) := by decide +kernel
theorem dX11_frostOf_87 : decode cX11_frostOf 87 = .ok (.ishl, 1) := by decide +kernel
theorem dX11_frostOf_88 : decode cX11_frostOf 88 = .ok (.if_icmp .ge 163, 3) := by decide +kernel
theorem dX11_frostOf_91 : decode cX11_frostOf 91 = .ok (.iload 8, 2) := by decide +kernel
theorem dX11_frostOf_93 : decode cX11_frostOf 93 = .ok (.iload_n 3, 1) := by decide +kernel
theorem dX11_frostOf_94 : decode cX11_frostOf 94 = .ok (.iconst (-1), 1) := by decide +kernel
theorem dX11_frostOf_95 : decode cX11_frostOf 95 = .ok (.ixor, 1) := by decide +kernel
theorem dX11_frostOf_96 : decode cX11_frostOf 96 = .ok (.iand, 1) := by decide +kernel
theorem dX11_frostOf_97 : decode cX11_frostOf 97 = .ok (.ifCond .ne 148, 3) := by decide +kernel
theorem dX11_frostOf_100 : decode cX11_frostOf 100 = .ok (.lconst 1, 1) := by decide +kernel
theorem dX11_frostOf_101 : decode cX11_frostOf 101 = .ok (.lstore 9, 2) := by decide +kernel
theorem dX11_frostOf_103 : decode cX11_frostOf 103 = .ok (.iconst 0, 1) := by decide +kernel
theorem dX11_frostOf_104 : decode cX11_frostOf 104 = .ok (.istore 11, 2) := by decide +kernel
theorem dX11_frostOf_106 : decode cX11_frostOf 106 = .ok (.iload 11, 2) := by decide +kernel
theorem dX11_frostOf_108 : decode cX11_frostOf 108 = .ok (.aload_n 0, 1) := by decide +kernel
theorem dX11_frostOf_109 : decode cX11_frostOf 109 = .ok (.getfield 91, 3) := by decide +kernel
theorem dX11_frostOf_112 : decode cX11_frostOf 112 = .ok (.if_icmp .ge 72, 3) := by decide +kernel
theorem dX11_frostOf_115 : decode cX11_frostOf 115 = .ok (.lload 9, 2) := by decide +kernel
theorem dX11_frostOf_117 : decode cX11_frostOf 117 = .ok (.iload_n 3, 1) := by decide +kernel
theorem dX11_frostOf_118 : decode cX11_frostOf 118 = .ok (.iload 11, 2) := by decide +kernel
theorem dX11_frostOf_120 : decode cX11_frostOf 120 = .ok (.invokestatic 171, 3) := by decide +kernel
theorem dX11_frostOf_123 : decode cX11_frostOf 123 = .ok (.ifCond .ne 7, 3) := by decide +kernel
theorem dX11_frostOf_126 : decode cX11_frostOf 126 = .ok (.lconst 1, 1) := by decide +kernel
theorem dX11_frostOf_127 : decode cX11_frostOf 127 = .ok (.goto 23, 3) := by decide +kernel
theorem dX11_frostOf_130 : decode cX11_frostOf 130 = .ok (.iload 8, 2) := by decide +kernel
theorem dX11_frostOf_132 : decode cX11_frostOf 132 = .ok (.iload 11, 2) := by decide +kernel
theorem dX11_frostOf_134 : decode cX11_frostOf 134 = .ok (.invokestatic 171, 3) := by decide +kernel
theorem dX11_frostOf_137 : decode cX11_frostOf 137 = .ok (.ifCond .eq 8, 3) := by decide +kernel
theorem dX11_frostOf_140 : decode cX11_frostOf 140 = .ok (.iload_n 1, 1) := by decide +kernel
theorem dX11_frostOf_141 : decode cX11_frostOf 141 = .ok (.i2l, 1) := by decide +kernel
theorem dX11_frostOf_142 : decode cX11_frostOf 142 = .ok (.goto 8, 3) := by decide +kernel
theorem dX11_frostOf_145 : decode cX11_frostOf 145 = .ok (.bipush 16, 2) := by decide +kernel
theorem dX11_frostOf_147 : decode cX11_frostOf 147 = .ok (.iload_n 1, 1) := by decide +kernel
theorem dX11_frostOf_148 : decode cX11_frostOf 148 = .ok (.isub, 1) := by decide +kernel
theorem dX11_frostOf_149 : decode cX11_frostOf 149 = .ok (.i2l, 1) := by decide +kernel
theorem dX11_frostOf_150 : decode cX11_frostOf 150 = .ok (.lmul, 1) := by decide +kernel
theorem dX11_frostOf_151 : decode cX11_frostOf 151 = .ok (.lstore 9, 2) := by decide +kernel
theorem dX11_frostOf_153 : decode cX11_frostOf 153 = .ok (.aload_n 0, 1) := by decide +kernel
theorem dX11_frostOf_154 : decode cX11_frostOf 154 = .ok (.getfield 43, 3) := by decide +kernel
theorem dX11_frostOf_157 : decode cX11_frostOf 157 = .ok (.iload 11, 2) := by decide +kernel
theorem dX11_frostOf_159 : decode cX11_frostOf 159 = .ok (.dup2, 1) := by decide +kernel
theorem dX11_frostOf_160 : decode cX11_frostOf 160 = .ok (.iaload, 1) := by decide +kernel
theorem dX11_frostOf_161 : decode cX11_frostOf 161 = .ok (.iload 8, 2) := by decide +kernel
theorem dX11_frostOf_163 : decode cX11_frostOf 163 = .ok (.iload 11, 2) := by decide +kernel
theorem dX11_frostOf_165 : decode cX11_frostOf 165 = .ok (.invokestatic 171, 3) := by decide +kernel
theorem dX11_frostOf_168 : decode cX11_frostOf 168 = .ok (.ifCond .eq 7, 3) := by decide +kernel
theorem dX11_frostOf_171 : decode cX11_frostOf 171 = .ok (.iconst 1, 1) := by decide +kernel
theorem dX11_frostOf_172 : decode cX11_frostOf 172 = .ok (.goto 4, 3) := by decide +kernel
theorem dX11_frostOf_175 : decode cX11_frostOf 175 = .ok (.iconst 0, 1) := by decide +kernel
theorem dX11_frostOf_176 : decode cX11_frostOf 176 = .ok (.isub, 1) := by decide +kernel
theorem dX11_frostOf_177 : decode cX11_frostOf 177 = .ok (.iastore, 1) := by decide +kernel
theorem dX11_frostOf_178 : decode cX11_frostOf 178 = .ok (.iinc 11 1, 3) := by decide +kernel
theorem dX11_frostOf_181 : decode cX11_frostOf 181 = .ok (.goto (-75), 3) := by decide +kernel
theorem dX11_frostOf_184 : decode cX11_frostOf 184 = .ok (.lload 6, 2) := by decide +kernel
theorem dX11_frostOf_186 : decode cX11_frostOf 186 = .ok (.aload_n 0, 1) := by decide +kernel
theorem dX11_frostOf_187 : decode cX11_frostOf 187 = .ok (.invokevirtual 199, 3) := by decide +kernel
theorem dX11_frostOf_190 : decode cX11_frostOf 190 = .ok (.ifCond .ne 8, 3) := by decide +kernel
theorem dX11_frostOf_193 : decode cX11_frostOf 193 = .ok (.lload 9, 2) := by decide +kernel
theorem dX11_frostOf_195 : decode cX11_frostOf 195 = .ok (.goto 4, 3) := by decide +kernel
theorem dX11_frostOf_198 : decode cX11_frostOf 198 = .ok (.lconst 0, 1) := by decide +kernel
theorem dX11_frostOf_199 : decode cX11_frostOf 199 = .ok (.ladd, 1) := by decide +kernel
theorem dX11_frostOf_200 : decode cX11_frostOf 200 = .ok (.lstore 6, 2) := by decide +kernel
theorem dX11_frostOf_202 : decode cX11_frostOf 202 = .ok (.iconst 0, 1) := by decide +kernel
theorem dX11_frostOf_203 : decode cX11_frostOf 203 = .ok (.istore 11, 2) := by decide +kernel
theorem dX11_frostOf_205 : decode cX11_frostOf 205 = .ok (.iload 11, 2) := by decide +kernel
theorem dX11_frostOf_207 : decode cX11_frostOf 207 = .ok (.aload_n 0, 1) := by decide +kernel
theorem dX11_frostOf_208 : decode cX11_frostOf 208 = .ok (.getfield 91, 3) := by decide +kernel
theorem dX11_frostOf_211 : decode cX11_frostOf 211 = .ok (.if_icmp .ge 34, 3) := by decide +kernel
theorem dX11_frostOf_214 : decode cX11_frostOf 214 = .ok (.aload_n 0, 1) := by decide +kernel
theorem dX11_frostOf_215 : decode cX11_frostOf 215 = .ok (.getfield 43, 3) := by decide +kernel
theorem dX11_frostOf_218 : decode cX11_frostOf 218 = .ok (.iload 11, 2) := by decide +kernel
theorem dX11_frostOf_220 : decode cX11_frostOf 220 = .ok (.dup2, 1) := by decide +kernel
theorem dX11_frostOf_221 : decode cX11_frostOf 221 = .ok (.iaload, 1) := by decide +kernel
theorem dX11_frostOf_222 : decode cX11_frostOf 222 = .ok (.iload 8, 2) := by decide +kernel
theorem dX11_frostOf_224 : decode cX11_frostOf 224 = .ok (.iload 11, 2) := by decide +kernel
theorem dX11_frostOf_226 : decode cX11_frostOf 226 = .ok (.invokestatic 171, 3) := by decide +kernel
theorem dX11_frostOf_229 : decode cX11_frostOf 229 = .ok (.ifCond .eq 7, 3) := by decide +kernel
theorem dX11_frostOf_232 : decode cX11_frostOf 232 = .ok (.iconst 1, 1) := by decide +kernel
theorem dX11_frostOf_233 : decode cX11_frostOf 233 = .ok (.goto 4, 3) := by decide +kernel
theorem dX11_frostOf_236 : decode cX11_frostOf 236 = .ok (.iconst 0, 1) := by decide +kernel
theorem dX11_frostOf_237 : decode cX11_frostOf 237 = .ok (.iadd, 1) := by decide +kernel
theorem dX11_frostOf_238 : decode cX11_frostOf 238 = .ok (.iastore, 1) := by decide +kernel
theorem dX11_frostOf_239 : decode cX11_frostOf 239 = .ok (.iinc 11 1, 3) := by decide +kernel
theorem dX11_frostOf_242 : decode cX11_frostOf 242 = .ok (.goto (-37), 3) := by decide +kernel
theorem dX11_frostOf_245 : decode cX11_frostOf 245 = .ok (.iinc 8 1, 3) := by decide +kernel
theorem dX11_frostOf_248 : decode cX11_frostOf 248 = .ok (.goto (-168), 3) := by decide +kernel
theorem dX11_frostOf_251 : decode cX11_frostOf 251 = .ok (.lload 6, 2) := by decide +kernel
theorem dX11_frostOf_253 : decode cX11_frostOf 253 = .ok (.lload 4, 2) := by decide +kernel
theorem dX11_frostOf_255 : decode cX11_frostOf 255 = .ok (.iload_n 2, 1) := by decide +kernel
theorem dX11_frostOf_256 : decode cX11_frostOf 256 = .ok (.invokestatic 259, 3) := by decide +kernel
theorem dX11_frostOf_259 : decode cX11_frostOf 259 = .ok (.lreturn, 1) := by decide +kernel
theorem dX11_frost_0 : decode cX11_frost 0 = .ok (.aload_n 0, 1) := by decide +kernel
theorem dX11_frost_1 : decode cX11_frost 1 = .ok (.invokevirtual 177, 3) := by decide +kernel
theorem dX11_frost_4 : decode cX11_frost 4 = .ok (.iload_n 1, 1) := by decide +kernel
theorem dX11_frost_5 : decode cX11_frost 5 = .ok (.i2l, 1) := by decide +kernel
theorem dX11_frost_6 : decode cX11_frost 6 = .ok (.lconst 0, 1) := by decide +kernel
theorem dX11_frost_7 : decode cX11_frost 7 = .ok (.ldc2_w 245, 3) := by decide +kernel
theorem dX11_frost_10 : decode cX11_frost 10 = .ok (.invokestatic 58, 3) := by decide +kernel
theorem dX11_frost_13 : decode cX11_frost 13 = .ok (.ifCond .eq 19, 3) := by decide +kernel
theorem dX11_frost_16 : decode cX11_frost 16 = .ok (.iload_n 2, 1) := by decide +kernel
theorem dX11_frost_17 : decode cX11_frost 17 = .ok (.invokestatic 86, 3) := by decide +kernel
theorem dX11_frost_20 : decode cX11_frost 20 = .ok (.ifCond .eq 12, 3) := by decide +kernel
theorem dX11_frost_23 : decode cX11_frost 23 = .ok (.aload_n 0, 1) := by decide +kernel
theorem dX11_frost_24 : decode cX11_frost 24 = .ok (.iload_n 1, 1) := by decide +kernel
theorem dX11_frost_25 : decode cX11_frost 25 = .ok (.iload_n 2, 1) := by decide +kernel
theorem dX11_frost_26 : decode cX11_frost 26 = .ok (.invokevirtual 263, 3) := by decide +kernel
theorem dX11_frost_29 : decode cX11_frost 29 = .ok (.goto 8, 3) := by decide +kernel
theorem dX11_frost_32 : decode cX11_frost 32 = .ok (.bipush (-2), 2) := by decide +kernel
theorem dX11_frost_34 : decode cX11_frost 34 = .ok (.invokestatic 267, 3) := by decide +kernel
theorem dX11_frost_37 : decode cX11_frost 37 = .ok (.lreturn, 1) := by decide +kernel
theorem dX11_lot_0 : decode cX11_lot 0 = .ok (.aload_n 0, 1) := by decide +kernel
theorem dX11_lot_1 : decode cX11_lot 1 = .ok (.ldc_w 271, 3) := by decide +kernel
theorem dX11_lot_4 : decode cX11_lot 4 = .ok (.aload_n 0, 1) := by decide +kernel
theorem dX11_lot_5 : decode cX11_lot 5 = .ok (.getfield 272, 3) := by decide +kernel
theorem dX11_lot_8 : decode cX11_lot 8 = .ok (.imul, 1) := by decide +kernel
theorem dX11_lot_9 : decode cX11_lot 9 = .ok (.sipush 12345, 3) := by decide +kernel
theorem dX11_lot_12 : decode cX11_lot 12 = .ok (.iadd, 1) := by decide +kernel
theorem dX11_lot_13 : decode cX11_lot 13 = .ok (.putfield 272, 3) := by decide +kernel
theorem dX11_lot_16 : decode cX11_lot 16 = .ok (.aload_n 0, 1) := by decide +kernel
theorem dX11_lot_17 : decode cX11_lot 17 = .ok (.getfield 272, 3) := by decide +kernel
theorem dX11_lot_20 : decode cX11_lot 20 = .ok (.bipush 16, 2) := by decide +kernel
theorem dX11_lot_22 : decode cX11_lot 22 = .ok (.iushr, 1) := by decide +kernel
theorem dX11_lot_23 : decode cX11_lot 23 = .ok (.iload_n 1, 1) := by decide +kernel
theorem dX11_lot_24 : decode cX11_lot 24 = .ok (.irem, 1) := by decide +kernel
theorem dX11_lot_25 : decode cX11_lot 25 = .ok (.ireturn, 1) := by decide +kernel
theorem dX11_yearsOf_0 : decode cX11_yearsOf 0 = .ok (.aload_n 0, 1) := by decide +kernel
theorem dX11_yearsOf_1 : decode cX11_yearsOf 1 = .ok (.iload_n 1, 1) := by decide +kernel
theorem dX11_yearsOf_2 : decode cX11_yearsOf 2 = .ok (.putfield 272, 3) := by decide +kernel
theorem dX11_yearsOf_5 : decode cX11_yearsOf 5 = .ok (.aload_n 0, 1) := by decide +kernel
theorem dX11_yearsOf_6 : decode cX11_yearsOf 6 = .ok (.aload_n 0, 1) := by decide +kernel
theorem dX11_yearsOf_7 : decode cX11_yearsOf 7 = .ok (.getfield 108, 3) := by decide +kernel
theorem dX11_yearsOf_10 : decode cX11_yearsOf 10 = .ok (.invokevirtual 174, 3) := by decide +kernel
theorem dX11_yearsOf_13 : decode cX11_yearsOf 13 = .ok (.iconst 0, 1) := by decide +kernel
theorem dX11_yearsOf_14 : decode cX11_yearsOf 14 = .ok (.istore 4, 2) := by decide +kernel
theorem dX11_yearsOf_16 : decode cX11_yearsOf 16 = .ok (.iconst 0, 1) := by decide +kernel
theorem dX11_yearsOf_17 : decode cX11_yearsOf 17 = .ok (.istore 5, 2) := by decide +kernel
theorem dX11_yearsOf_19 : decode cX11_yearsOf 19 = .ok (.iload 5, 2) := by decide +kernel
theorem dX11_yearsOf_21 : decode cX11_yearsOf 21 = .ok (.iload_n 2, 1) := by decide +kernel
theorem dX11_yearsOf_22 : decode cX11_yearsOf 22 = .ok (.if_icmp .ge 85, 3) := by decide +kernel
theorem dX11_yearsOf_25 : decode cX11_yearsOf 25 = .ok (.aload_n 0, 1) := by decide +kernel
theorem dX11_yearsOf_26 : decode cX11_yearsOf 26 = .ok (.getfield 37, 3) := by decide +kernel
theorem dX11_yearsOf_29 : decode cX11_yearsOf 29 = .ok (.iconst 0, 1) := by decide +kernel
theorem dX11_yearsOf_30 : decode cX11_yearsOf 30 = .ok (.iaload, 1) := by decide +kernel
theorem dX11_yearsOf_31 : decode cX11_yearsOf 31 = .ok (.aload_n 0, 1) := by decide +kernel
theorem dX11_yearsOf_32 : decode cX11_yearsOf 32 = .ok (.getfield 108, 3) := by decide +kernel
theorem dX11_yearsOf_35 : decode cX11_yearsOf 35 = .ok (.iadd, 1) := by decide +kernel
theorem dX11_yearsOf_36 : decode cX11_yearsOf 36 = .ok (.iload 5, 2) := by decide +kernel
theorem dX11_yearsOf_38 : decode cX11_yearsOf 38 = .ok (.iadd, 1) := by decide +kernel
theorem dX11_yearsOf_39 : decode cX11_yearsOf 39 = .ok (.iconst 2, 1) := by decide +kernel
theorem dX11_yearsOf_40 : decode cX11_yearsOf 40 = .ok (.irem, 1) := by decide +kernel
theorem dX11_yearsOf_41 : decode cX11_yearsOf 41 = .ok (.istore 6, 2) := by decide +kernel
theorem dX11_yearsOf_43 : decode cX11_yearsOf 43 = .ok (.aload_n 0, 1) := by decide +kernel
theorem dX11_yearsOf_44 : decode cX11_yearsOf 44 = .ok (.aload_n 0, 1) := by decide +kernel
theorem dX11_yearsOf_45 : decode cX11_yearsOf 45 = .ok (.getfield 91, 3) := by decide +kernel
theorem dX11_yearsOf_48 : decode cX11_yearsOf 48 = .ok (.invokevirtual 275, 3) := by decide +kernel
theorem dX11_yearsOf_51 : decode cX11_yearsOf 51 = .ok (.istore 7, 2) := by decide +kernel
theorem dX11_yearsOf_53 : decode cX11_yearsOf 53 = .ok (.aload_n 0, 1) := by decide +kernel
theorem dX11_yearsOf_54 : decode cX11_yearsOf 54 = .ok (.iconst 4, 1) := by decide +kernel
theorem dX11_yearsOf_55 : decode cX11_yearsOf 55 = .ok (.invokevirtual 275, 3) := by decide +kernel
theorem dX11_yearsOf_58 : decode cX11_yearsOf 58 = .ok (.ifCond .ne 15, 3) := by decide +kernel
theorem dX11_yearsOf_61 : decode cX11_yearsOf 61 = .ok (.aload_n 0, 1) := by decide +kernel
theorem dX11_yearsOf_62 : decode cX11_yearsOf 62 = .ok (.iload 6, 2) := by decide +kernel
theorem dX11_yearsOf_64 : decode cX11_yearsOf 64 = .ok (.iload 7, 2) := by decide +kernel
theorem dX11_yearsOf_66 : decode cX11_yearsOf 66 = .ok (.invokevirtual 135, 3) := by decide +kernel
theorem dX11_yearsOf_69 : decode cX11_yearsOf 69 = .ok (.pop, 1) := by decide +kernel
theorem dX11_yearsOf_70 : decode cX11_yearsOf 70 = .ok (.goto 14, 3) := by decide +kernel
theorem dX11_yearsOf_73 : decode cX11_yearsOf 73 = .ok (.aload_n 0, 1) := by decide +kernel
theorem dX11_yearsOf_74 : decode cX11_yearsOf 74 = .ok (.iload 6, 2) := by decide +kernel
theorem dX11_yearsOf_76 : decode cX11_yearsOf 76 = .ok (.iload 6, 2) := by decide +kernel
theorem dX11_yearsOf_78 : decode cX11_yearsOf 78 = .ok (.iload 7, 2) := by decide +kernel
theorem dX11_yearsOf_80 : decode cX11_yearsOf 80 = .ok (.invokevirtual 145, 3) := by decide +kernel
theorem dX11_yearsOf_83 : decode cX11_yearsOf 83 = .ok (.pop, 1) := by decide +kernel
theorem dX11_yearsOf_84 : decode cX11_yearsOf 84 = .ok (.iload 4, 2) := by decide +kernel
theorem dX11_yearsOf_86 : decode cX11_yearsOf 86 = .ok (.aload_n 0, 1) := by decide +kernel
theorem dX11_yearsOf_87 : decode cX11_yearsOf 87 = .ok (.invokevirtual 199, 3) := by decide +kernel
theorem dX11_yearsOf_90 : decode cX11_yearsOf 90 = .ok (.ifCond .ne 7, 3) := by decide +kernel
theorem dX11_yearsOf_93 : decode cX11_yearsOf 93 = .ok (.iconst 0, 1) := by decide +kernel
theorem dX11_yearsOf_94 : decode cX11_yearsOf 94 = .ok (.goto 4, 3) := by decide +kernel
theorem dX11_yearsOf_97 : decode cX11_yearsOf 97 = .ok (.iconst 1, 1) := by decide +kernel
theorem dX11_yearsOf_98 : decode cX11_yearsOf 98 = .ok (.iadd, 1) := by decide +kernel
theorem dX11_yearsOf_99 : decode cX11_yearsOf 99 = .ok (.istore 4, 2) := by decide +kernel
theorem dX11_yearsOf_101 : decode cX11_yearsOf 101 = .ok (.iinc 5 1, 3) := by decide +kernel
theorem dX11_yearsOf_104 : decode cX11_yearsOf 104 = .ok (.goto (-85), 3) := by decide +kernel
theorem dX11_yearsOf_107 : decode cX11_yearsOf 107 = .ok (.iload_n 3, 1) := by decide +kernel
theorem dX11_yearsOf_108 : decode cX11_yearsOf 108 = .ok (.iconst (-1), 1) := by decide +kernel
theorem dX11_yearsOf_109 : decode cX11_yearsOf 109 = .ok (.if_icmp .ne 8, 3) := by decide +kernel
theorem dX11_yearsOf_112 : decode cX11_yearsOf 112 = .ok (.iload 4, 2) := by decide +kernel
theorem dX11_yearsOf_114 : decode cX11_yearsOf 114 = .ok (.goto 8, 3) := by decide +kernel
theorem dX11_yearsOf_117 : decode cX11_yearsOf 117 = .ok (.aload_n 0, 1) := by decide +kernel
theorem dX11_yearsOf_118 : decode cX11_yearsOf 118 = .ok (.iload_n 3, 1) := by decide +kernel
theorem dX11_yearsOf_119 : decode cX11_yearsOf 119 = .ok (.invokevirtual 159, 3) := by decide +kernel
theorem dX11_yearsOf_122 : decode cX11_yearsOf 122 = .ok (.ireturn, 1) := by decide +kernel
theorem dX11_years_0 : decode cX11_years 0 = .ok (.aload_n 0, 1) := by decide +kernel
theorem dX11_years_1 : decode cX11_years 1 = .ok (.invokevirtual 177, 3) := by decide +kernel
theorem dX11_years_4 : decode cX11_years 4 = .ok (.iload_n 2, 1) := by decide +kernel
theorem dX11_years_5 : decode cX11_years 5 = .ok (.i2l, 1) := by decide +kernel
theorem dX11_years_6 : decode cX11_years 6 = .ok (.lconst 1, 1) := by decide +kernel
theorem dX11_years_7 : decode cX11_years 7 = .ok (.ldc2_w 278, 3) := by decide +kernel
theorem dX11_years_10 : decode cX11_years 10 = .ok (.invokestatic 58, 3) := by decide +kernel
theorem dX11_years_13 : decode cX11_years 13 = .ok (.ifCond .eq 38, 3) := by decide +kernel
theorem dX11_years_16 : decode cX11_years 16 = .ok (.aload_n 0, 1) := by decide +kernel
theorem dX11_years_17 : decode cX11_years 17 = .ok (.getfield 91, 3) := by decide +kernel
theorem dX11_years_20 : decode cX11_years 20 = .ok (.ifCond .le 31, 3) := by decide +kernel
theorem dX11_years_23 : decode cX11_years 23 = .ok (.iload_n 3, 1) := by decide +kernel
theorem dX11_years_24 : decode cX11_years 24 = .ok (.i2l, 1) := by decide +kernel
theorem dX11_years_25 : decode cX11_years 25 = .ok (.ldc2_w 192, 3) := by decide +kernel
theorem dX11_years_28 : decode cX11_years 28 = .ok (.aload_n 0, 1) := by decide +kernel
theorem dX11_years_29 : decode cX11_years 29 = .ok (.getfield 91, 3) := by decide +kernel
theorem dX11_years_32 : decode cX11_years 32 = .ok (.iconst 1, 1) := by decide +kernel
theorem dX11_years_33 : decode cX11_years 33 = .ok (.isub, 1) := by decide +kernel
theorem dX11_years_34 : decode cX11_years 34 = .ok (.i2l, 1) := by decide +kernel
theorem dX11_years_35 : decode cX11_years 35 = .ok (.invokestatic 58, 3) := by decide +kernel
theorem dX11_years_38 : decode cX11_years 38 = .ok (.ifCond .eq 13, 3) := by decide +kernel
theorem dX11_years_41 : decode cX11_years 41 = .ok (.aload_n 0, 1) := by decide +kernel
theorem dX11_years_42 : decode cX11_years 42 = .ok (.iload_n 1, 1) := by decide +kernel
theorem dX11_years_43 : decode cX11_years 43 = .ok (.iload_n 2, 1) := by decide +kernel
theorem dX11_years_44 : decode cX11_years 44 = .ok (.iload_n 3, 1) := by decide +kernel
theorem dX11_years_45 : decode cX11_years 45 = .ok (.invokevirtual 280, 3) := by decide +kernel
theorem dX11_years_48 : decode cX11_years 48 = .ok (.goto 5, 3) := by decide +kernel
theorem dX11_years_51 : decode cX11_years 51 = .ok (.bipush (-2), 2) := by decide +kernel
theorem dX11_years_53 : decode cX11_years 53 = .ok (.ireturn, 1) := by decide +kernel
theorem dX11_write_0 : decode cX11_write 0 = .ok (.aload_n 0, 1) := by decide +kernel
theorem dX11_write_1 : decode cX11_write 1 = .ok (.invokevirtual 177, 3) := by decide +kernel
theorem dX11_write_4 : decode cX11_write 4 = .ok (.aload_n 0, 1) := by decide +kernel
theorem dX11_write_5 : decode cX11_write 5 = .ok (.iload_n 1, 1) := by decide +kernel
theorem dX11_write_6 : decode cX11_write 6 = .ok (.invokevirtual 180, 3) := by decide +kernel
theorem dX11_write_9 : decode cX11_write 9 = .ok (.ifCond .eq 10, 3) := by decide +kernel
theorem dX11_write_12 : decode cX11_write 12 = .ok (.iload_n 2, 1) := by decide +kernel
theorem dX11_write_13 : decode cX11_write 13 = .ok (.invokestatic 67, 3) := by decide +kernel
theorem dX11_write_16 : decode cX11_write 16 = .ok (.ifCond .ne 6, 3) := by decide +kernel
theorem dX11_write_19 : decode cX11_write 19 = .ok (.bipush (-2), 2) := by decide +kernel
theorem dX11_write_21 : decode cX11_write 21 = .ok (.ireturn, 1) := by decide +kernel
theorem dX11_write_22 : decode cX11_write 22 = .ok (.aload_n 0, 1) := by decide +kernel
theorem dX11_write_23 : decode cX11_write 23 = .ok (.getfield 7, 3) := by decide +kernel
theorem dX11_write_26 : decode cX11_write 26 = .ok (.iload_n 2, 1) := by decide +kernel
theorem dX11_write_27 : decode cX11_write 27 = .ok (.iaload, 1) := by decide +kernel
theorem dX11_write_28 : decode cX11_write 28 = .ok (.ifCond .ge 9, 3) := by decide +kernel
theorem dX11_write_31 : decode cX11_write 31 = .ok (.aload_n 0, 1) := by decide +kernel
theorem dX11_write_32 : decode cX11_write 32 = .ok (.iconst 1, 1) := by decide +kernel
theorem dX11_write_33 : decode cX11_write 33 = .ok (.invokevirtual 73, 3) := by decide +kernel
theorem dX11_write_36 : decode cX11_write 36 = .ok (.ireturn, 1) := by decide +kernel
theorem dX11_write_37 : decode cX11_write 37 = .ok (.aload_n 0, 1) := by decide +kernel
theorem dX11_write_38 : decode cX11_write 38 = .ok (.iload_n 1, 1) := by decide +kernel
theorem dX11_write_39 : decode cX11_write 39 = .ok (.invokevirtual 174, 3) := by decide +kernel
theorem dX11_write_42 : decode cX11_write 42 = .ok (.aload_n 0, 1) := by decide +kernel
theorem dX11_write_43 : decode cX11_write 43 = .ok (.getfield 13, 3) := by decide +kernel
theorem dX11_write_46 : decode cX11_write 46 = .ok (.iload_n 2, 1) := by decide +kernel
theorem dX11_write_47 : decode cX11_write 47 = .ok (.iaload, 1) := by decide +kernel
theorem dX11_write_48 : decode cX11_write 48 = .ok (.aload_n 0, 1) := by decide +kernel
theorem dX11_write_49 : decode cX11_write 49 = .ok (.getfield 91, 3) := by decide +kernel
theorem dX11_write_52 : decode cX11_write 52 = .ok (.invokestatic 283, 3) := by decide +kernel
theorem dX11_write_55 : decode cX11_write 55 = .ok (.istore_n 3, 1) := by decide +kernel
theorem dX11_write_56 : decode cX11_write 56 = .ok (.iconst 0, 1) := by decide +kernel
theorem dX11_write_57 : decode cX11_write 57 = .ok (.istore 4, 2) := by decide +kernel
theorem dX11_write_59 : decode cX11_write 59 = .ok (.iload 4, 2) := by decide +kernel
theorem dX11_write_61 : decode cX11_write 61 = .ok (.iload_n 3, 1) := by decide +kernel
theorem dX11_write_62 : decode cX11_write 62 = .ok (.if_icmp .ge 36, 3) := by decide +kernel
theorem dX11_write_65 : decode cX11_write 65 = .ok (.aload_n 0, 1) := by decide +kernel
theorem dX11_write_66 : decode cX11_write 66 = .ok (.getfield 16, 3) := by decide +kernel
theorem dX11_write_69 : decode cX11_write 69 = .ok (.bipush 60, 2) := by decide +kernel
theorem dX11_write_71 : decode cX11_write 71 = .ok (.iload_n 2, 1) := by decide +kernel
theorem dX11_write_72 : decode cX11_write 72 = .ok (.imul, 1) := by decide +kernel
theorem dX11_write_73 : decode cX11_write 73 = .ok (.iload 4, 2) := by decide +kernel
theorem dX11_write_75 : decode cX11_write 75 = .ok (.iadd, 1) := by decide +kernel
theorem dX11_write_76 : decode cX11_write 76 = .ok (.aload_n 0, 1) := by decide +kernel
theorem dX11_write_77 : decode cX11_write 77 = .ok (.getfield 7, 3) := by decide +kernel
theorem dX11_write_80 : decode cX11_write 80 = .ok (.iload_n 2, 1) := by decide +kernel
theorem dX11_write_81 : decode cX11_write 81 = .ok (.iaload, 1) := by decide +kernel
theorem dX11_write_82 : decode cX11_write 82 = .ok (.aload_n 0, 1) := by decide +kernel
theorem dX11_write_83 : decode cX11_write 83 = .ok (.iload 4, 2) := by decide +kernel
theorem dX11_write_85 : decode cX11_write 85 = .ok (.invokevirtual 159, 3) := by decide +kernel
theorem dX11_write_88 : decode cX11_write 88 = .ok (.invokestatic 81, 3) := by decide +kernel
theorem dX11_write_91 : decode cX11_write 91 = .ok (.iastore, 1) := by decide +kernel
theorem dX11_write_92 : decode cX11_write 92 = .ok (.iinc 4 1, 3) := by decide +kernel
theorem dX11_write_95 : decode cX11_write 95 = .ok (.goto (-36), 3) := by decide +kernel
theorem dX11_write_98 : decode cX11_write 98 = .ok (.iload_n 3, 1) := by decide +kernel
theorem dX11_write_99 : decode cX11_write 99 = .ok (.ireturn, 1) := by decide +kernel
theorem dX11_working_0 : decode cX11_working 0 = .ok (.iconst 0, 1) := by decide +kernel
theorem dX11_working_1 : decode cX11_working 1 = .ok (.istore_n 1, 1) := by decide +kernel
theorem dX11_working_2 : decode cX11_working 2 = .ok (.aload_n 0, 1) := by decide +kernel
theorem dX11_working_3 : decode cX11_working 3 = .ok (.invokevirtual 149, 3) := by decide +kernel
theorem dX11_working_6 : decode cX11_working 6 = .ok (.iconst 0, 1) := by decide +kernel
theorem dX11_working_7 : decode cX11_working 7 = .ok (.istore_n 2, 1) := by decide +kernel
theorem dX11_working_8 : decode cX11_working 8 = .ok (.iload_n 2, 1) := by decide +kernel
theorem dX11_working_9 : decode cX11_working 9 = .ok (.aload_n 0, 1) := by decide +kernel
theorem dX11_working_10 : decode cX11_working 10 = .ok (.getfield 108, 3) := by decide +kernel
theorem dX11_working_13 : decode cX11_working 13 = .ok (.if_icmp .ge 34, 3) := by decide +kernel
theorem dX11_working_16 : decode cX11_working 16 = .ok (.aload_n 0, 1) := by decide +kernel
theorem dX11_working_17 : decode cX11_working 17 = .ok (.iload_n 2, 1) := by decide +kernel
theorem dX11_working_18 : decode cX11_working 18 = .ok (.invokevirtual 152, 3) := by decide +kernel
theorem dX11_working_21 : decode cX11_working 21 = .ok (.iload_n 1, 1) := by decide +kernel
theorem dX11_working_22 : decode cX11_working 22 = .ok (.aload_n 0, 1) := by decide +kernel
theorem dX11_working_23 : decode cX11_working 23 = .ok (.getfield 139, 3) := by decide +kernel
theorem dX11_working_26 : decode cX11_working 26 = .ok (.aload_n 0, 1) := by decide +kernel
theorem dX11_working_27 : decode cX11_working 27 = .ok (.getfield 142, 3) := by decide +kernel
theorem dX11_working_30 : decode cX11_working 30 = .ok (.iadd, 1) := by decide +kernel
theorem dX11_working_31 : decode cX11_working 31 = .ok (.ifCond .le 7, 3) := by decide +kernel
theorem dX11_working_34 : decode cX11_working 34 = .ok (.iconst 1, 1) := by decide +kernel
theorem dX11_working_35 : decode cX11_working 35 = .ok (.goto 4, 3) := by decide +kernel
theorem dX11_working_38 : decode cX11_working 38 = .ok (.iconst 0, 1) := by decide +kernel
theorem dX11_working_39 : decode cX11_working 39 = .ok (.iadd, 1) := by decide +kernel
theorem dX11_working_40 : decode cX11_working 40 = .ok (.istore_n 1, 1) := by decide +kernel
theorem dX11_working_41 : decode cX11_working 41 = .ok (.iinc 2 1, 3) := by decide +kernel
theorem dX11_working_44 : decode cX11_working 44 = .ok (.goto (-36), 3) := by decide +kernel
theorem dX11_working_47 : decode cX11_working 47 = .ok (.iload_n 1, 1) := by decide +kernel
theorem dX11_working_48 : decode cX11_working 48 = .ok (.ireturn, 1) := by decide +kernel
theorem dX11_count_0 : decode cX11_count 0 = .ok (.iconst 0, 1) := by decide +kernel
theorem dX11_count_1 : decode cX11_count 1 = .ok (.istore_n 2, 1) := by decide +kernel
theorem dX11_count_2 : decode cX11_count 2 = .ok (.aload_n 0, 1) := by decide +kernel
theorem dX11_count_3 : decode cX11_count 3 = .ok (.invokevirtual 177, 3) := by decide +kernel
theorem dX11_count_6 : decode cX11_count 6 = .ok (.iload_n 1, 1) := by decide +kernel
theorem dX11_count_7 : decode cX11_count 7 = .ok (.tableswitch 125 0 8 #[49, 54, 59, 59, 68, 73, 108, 113, 120], 49) := by decide +kernel
theorem dX11_count_56 : decode cX11_count 56 = .ok (.aload_n 0, 1) := by decide +kernel
theorem dX11_count_57 : decode cX11_count 57 = .ok (.getfield 91, 3) := by decide +kernel
theorem dX11_count_60 : decode cX11_count 60 = .ok (.ireturn, 1) := by decide +kernel
theorem dX11_count_61 : decode cX11_count 61 = .ok (.aload_n 0, 1) := by decide +kernel
theorem dX11_count_62 : decode cX11_count 62 = .ok (.getfield 108, 3) := by decide +kernel
theorem dX11_count_65 : decode cX11_count 65 = .ok (.ireturn, 1) := by decide +kernel
theorem dX11_count_66 : decode cX11_count 66 = .ok (.aload_n 0, 1) := by decide +kernel
theorem dX11_count_67 : decode cX11_count 67 = .ok (.getfield 25, 3) := by decide +kernel
theorem dX11_count_70 : decode cX11_count 70 = .ok (.iload_n 1, 1) := by decide +kernel
theorem dX11_count_71 : decode cX11_count 71 = .ok (.iconst 2, 1) := by decide +kernel
theorem dX11_count_72 : decode cX11_count 72 = .ok (.isub, 1) := by decide +kernel
theorem dX11_count_73 : decode cX11_count 73 = .ok (.iaload, 1) := by decide +kernel
theorem dX11_count_74 : decode cX11_count 74 = .ok (.ireturn, 1) := by decide +kernel
theorem dX11_count_75 : decode cX11_count 75 = .ok (.aload_n 0, 1) := by decide +kernel
theorem dX11_count_76 : decode cX11_count 76 = .ok (.getfield 247, 3) := by decide +kernel
theorem dX11_count_79 : decode cX11_count 79 = .ok (.ireturn, 1) := by decide +kernel
theorem dX11_count_80 : decode cX11_count 80 = .ok (.aload_n 0, 1) := by decide +kernel
theorem dX11_count_81 : decode cX11_count 81 = .ok (.aload_n 0, 1) := by decide +kernel
theorem dX11_count_82 : decode cX11_count 82 = .ok (.getfield 108, 3) := by decide +kernel
theorem dX11_count_85 : decode cX11_count 85 = .ok (.invokevirtual 174, 3) := by decide +kernel
theorem dX11_count_88 : decode cX11_count 88 = .ok (.iconst 0, 1) := by decide +kernel
theorem dX11_count_89 : decode cX11_count 89 = .ok (.istore_n 3, 1) := by decide +kernel
theorem dX11_count_90 : decode cX11_count 90 = .ok (.iload_n 3, 1) := by decide +kernel
theorem dX11_count_91 : decode cX11_count 91 = .ok (.aload_n 0, 1) := by decide +kernel
theorem dX11_count_92 : decode cX11_count 92 = .ok (.getfield 91, 3) := by decide +kernel
theorem dX11_count_95 : decode cX11_count 95 = .ok (.if_icmp .ge 18, 3) := by decide +kernel
theorem dX11_count_98 : decode cX11_count 98 = .ok (.iload_n 2, 1) := by decide +kernel
theorem dX11_count_99 : decode cX11_count 99 = .ok (.aload_n 0, 1) := by decide +kernel
theorem dX11_count_100 : decode cX11_count 100 = .ok (.getfield 43, 3) := by decide +kernel
theorem dX11_count_103 : decode cX11_count 103 = .ok (.iload_n 3, 1) := by decide +kernel
theorem dX11_count_104 : decode cX11_count 104 = .ok (.iaload, 1) := by decide +kernel
theorem dX11_count_105 : decode cX11_count 105 = .ok (.iadd, 1) := by decide +kernel
theorem dX11_count_106 : decode cX11_count 106 = .ok (.istore_n 2, 1) := by decide +kernel
theorem dX11_count_107 : decode cX11_count 107 = .ok (.iinc 3 1, 3) := by decide +kernel
theorem dX11_count_110 : decode cX11_count 110 = .ok (.goto (-20), 3) := by decide +kernel
theorem dX11_count_113 : decode cX11_count 113 = .ok (.iload_n 2, 1) := by decide +kernel
theorem dX11_count_114 : decode cX11_count 114 = .ok (.ireturn, 1) := by decide +kernel
theorem dX11_count_115 : decode cX11_count 115 = .ok (.aload_n 0, 1) := by decide +kernel
theorem dX11_count_116 : decode cX11_count 116 = .ok (.invokevirtual 286, 3) := by decide +kernel
theorem dX11_count_119 : decode cX11_count 119 = .ok (.ireturn, 1) := by decide +kernel
theorem dX11_count_120 : decode cX11_count 120 = .ok (.aload_n 0, 1) := by decide +kernel
theorem dX11_count_121 : decode cX11_count 121 = .ok (.getfield 37, 3) := by decide +kernel
theorem dX11_count_124 : decode cX11_count 124 = .ok (.iconst 2, 1) := by decide +kernel
theorem dX11_count_125 : decode cX11_count 125 = .ok (.iaload, 1) := by decide +kernel
theorem dX11_count_126 : decode cX11_count 126 = .ok (.ireturn, 1) := by decide +kernel
theorem dX11_count_127 : decode cX11_count 127 = .ok (.aload_n 0, 1) := by decide +kernel
theorem dX11_count_128 : decode cX11_count 128 = .ok (.getfield 62, 3) := by decide +kernel
theorem dX11_count_131 : decode cX11_count 131 = .ok (.ireturn, 1) := by decide +kernel
theorem dX11_count_132 : decode cX11_count 132 = .ok (.bipush (-2), 2) := by decide +kernel
theorem dX11_count_134 : decode cX11_count 134 = .ok (.ireturn, 1) := by decide +kernel
theorem dX11_tellsColumn_0 : decode cX11_tellsColumn 0 = .ok (.ldc2_w 289, 3) := by decide +kernel
theorem dX11_tellsColumn_3 : decode cX11_tellsColumn 3 = .ok (.lload_n 1, 1) := by decide +kernel
theorem dX11_tellsColumn_4 : decode cX11_tellsColumn 4 = .ok (.lmul, 1) := by decide +kernel
theorem dX11_tellsColumn_5 : decode cX11_tellsColumn 5 = .ok (.aload_n 0, 1) := by decide +kernel
theorem dX11_tellsColumn_6 : decode cX11_tellsColumn 6 = .ok (.iload_n 3, 1) := by decide +kernel
theorem dX11_tellsColumn_7 : decode cX11_tellsColumn 7 = .ok (.iload 4, 2) := by decide +kernel
theorem dX11_tellsColumn_9 : decode cX11_tellsColumn 9 = .ok (.invokevirtual 186, 3) := by decide +kernel
theorem dX11_tellsColumn_12 : decode cX11_tellsColumn 12 = .ok (.i2l, 1) := by decide +kernel
theorem dX11_tellsColumn_13 : decode cX11_tellsColumn 13 = .ok (.ladd, 1) := by decide +kernel
theorem dX11_tellsColumn_14 : decode cX11_tellsColumn 14 = .ok (.lstore 5, 2) := by decide +kernel
theorem dX11_tellsColumn_16 : decode cX11_tellsColumn 16 = .ok (.ldc2_w 289, 3) := by decide +kernel
theorem dX11_tellsColumn_19 : decode cX11_tellsColumn 19 = .ok (.lload 5, 2) := by decide +kernel
theorem dX11_tellsColumn_21 : decode cX11_tellsColumn 21 = .ok (.lmul, 1) := by decide +kernel
theorem dX11_tellsColumn_22 : decode cX11_tellsColumn 22 = .ok (.aload_n 0, 1) := by decide +kernel
theorem dX11_tellsColumn_23 : decode cX11_tellsColumn 23 = .ok (.iload 4, 2) := by decide +kernel
theorem dX11_tellsColumn_25 : decode cX11_tellsColumn 25 = .ok (.invokevirtual 165, 3) := by decide +kernel
theorem dX11_tellsColumn_28 : decode cX11_tellsColumn 28 = .ok (.i2l, 1) := by decide +kernel
theorem dX11_tellsColumn_29 : decode cX11_tellsColumn 29 = .ok (.ladd, 1) := by decide +kernel
theorem dX11_tellsColumn_30 : decode cX11_tellsColumn 30 = .ok (.lstore 5, 2) := by decide +kernel
theorem dX11_tellsColumn_32 : decode cX11_tellsColumn 32 = .ok (.ldc2_w 289, 3) := by decide +kernel
theorem dX11_tellsColumn_35 : decode cX11_tellsColumn 35 = .ok (.lload 5, 2) := by decide +kernel
theorem dX11_tellsColumn_37 : decode cX11_tellsColumn 37 = .ok (.lmul, 1) := by decide +kernel
theorem dX11_tellsColumn_38 : decode cX11_tellsColumn 38 = .ok (.aload_n 0, 1) := by decide +kernel
theorem dX11_tellsColumn_39 : decode cX11_tellsColumn 39 = .ok (.iload_n 3, 1) := by decide +kernel
theorem dX11_tellsColumn_40 : decode cX11_tellsColumn 40 = .ok (.iload 4, 2) := by decide +kernel
theorem dX11_tellsColumn_42 : decode cX11_tellsColumn 42 = .ok (.iconst (-1), 1) := by decide +kernel
theorem dX11_tellsColumn_43 : decode cX11_tellsColumn 43 = .ok (.invokevirtual 196, 3) := by decide +kernel
theorem dX11_tellsColumn_46 : decode cX11_tellsColumn 46 = .ok (.i2l, 1) := by decide +kernel
theorem dX11_tellsColumn_47 : decode cX11_tellsColumn 47 = .ok (.ladd, 1) := by decide +kernel
theorem dX11_tellsColumn_48 : decode cX11_tellsColumn 48 = .ok (.lstore 5, 2) := by decide +kernel
theorem dX11_tellsColumn_50 : decode cX11_tellsColumn 50 = .ok (.ldc2_w 289, 3) := by decide +kernel
theorem dX11_tellsColumn_53 : decode cX11_tellsColumn 53 = .ok (.lload 5, 2) := by decide +kernel
theorem dX11_tellsColumn_55 : decode cX11_tellsColumn 55 = .ok (.lmul, 1) := by decide +kernel
theorem dX11_tellsColumn_56 : decode cX11_tellsColumn 56 = .ok (.aload_n 0, 1) := by decide +kernel
theorem dX11_tellsColumn_57 : decode cX11_tellsColumn 57 = .ok (.iload_n 3, 1) := by decide +kernel
theorem dX11_tellsColumn_58 : decode cX11_tellsColumn 58 = .ok (.iload 4, 2) := by decide +kernel
theorem dX11_tellsColumn_60 : decode cX11_tellsColumn 60 = .ok (.iconst 0, 1) := by decide +kernel
theorem dX11_tellsColumn_61 : decode cX11_tellsColumn 61 = .ok (.invokevirtual 196, 3) := by decide +kernel
theorem dX11_tellsColumn_64 : decode cX11_tellsColumn 64 = .ok (.i2l, 1) := by decide +kernel
theorem dX11_tellsColumn_65 : decode cX11_tellsColumn 65 = .ok (.ladd, 1) := by decide +kernel
theorem dX11_tellsColumn_66 : decode cX11_tellsColumn 66 = .ok (.lreturn, 1) := by decide +kernel
theorem dX11_digest_0 : decode cX11_digest 0 = .ok (.ldc2_w 291, 3) := by decide +kernel
theorem dX11_digest_3 : decode cX11_digest 3 = .ok (.lstore_n 1, 1) := by decide +kernel
theorem dX11_digest_4 : decode cX11_digest 4 = .ok (.iconst 0, 1) := by decide +kernel
theorem dX11_digest_5 : decode cX11_digest 5 = .ok (.istore_n 3, 1) := by decide +kernel
theorem dX11_digest_6 : decode cX11_digest 6 = .ok (.iload_n 3, 1) := by decide +kernel
theorem dX11_digest_7 : decode cX11_digest 7 = .ok (.bipush 8, 2) := by decide +kernel
theorem dX11_digest_9 : decode cX11_digest 9 = .ok (.if_icmp .ge 22, 3) := by decide +kernel
theorem dX11_digest_12 : decode cX11_digest 12 = .ok (.ldc2_w 289, 3) := by decide +kernel
theorem dX11_digest_15 : decode cX11_digest 15 = .ok (.lload_n 1, 1) := by decide +kernel
theorem dX11_digest_16 : decode cX11_digest 16 = .ok (.lmul, 1) := by decide +kernel
theorem dX11_digest_17 : decode cX11_digest 17 = .ok (.aload_n 0, 1) := by decide +kernel
theorem dX11_digest_18 : decode cX11_digest 18 = .ok (.iload_n 3, 1) := by decide +kernel
theorem dX11_digest_19 : decode cX11_digest 19 = .ok (.invokevirtual 293, 3) := by decide +kernel
theorem dX11_digest_22 : decode cX11_digest 22 = .ok (.i2l, 1) := by decide +kernel
theorem dX11_digest_23 : decode cX11_digest 23 = .ok (.ladd, 1) := by decide +kernel
theorem dX11_digest_24 : decode cX11_digest 24 = .ok (.lstore_n 1, 1) := by decide +kernel
theorem dX11_digest_25 : decode cX11_digest 25 = .ok (.iinc 3 1, 3) := by decide +kernel
theorem dX11_digest_28 : decode cX11_digest 28 = .ok (.goto (-22), 3) := by decide +kernel
theorem dX11_digest_31 : decode cX11_digest 31 = .ok (.ldc2_w 289, 3) := by decide +kernel
theorem dX11_digest_34 : decode cX11_digest 34 = .ok (.lload_n 1, 1) := by decide +kernel
theorem dX11_digest_35 : decode cX11_digest 35 = .ok (.lmul, 1) := by decide +kernel
theorem dX11_digest_36 : decode cX11_digest 36 = .ok (.aload_n 0, 1) := by decide +kernel
theorem dX11_digest_37 : decode cX11_digest 37 = .ok (.invokevirtual 118, 3) := by decide +kernel
theorem dX11_digest_40 : decode cX11_digest 40 = .ok (.i2l, 1) := by decide +kernel
theorem dX11_digest_41 : decode cX11_digest 41 = .ok (.ladd, 1) := by decide +kernel
theorem dX11_digest_42 : decode cX11_digest 42 = .ok (.lstore_n 1, 1) := by decide +kernel
theorem dX11_digest_43 : decode cX11_digest 43 = .ok (.ldc2_w 289, 3) := by decide +kernel
theorem dX11_digest_46 : decode cX11_digest 46 = .ok (.lload_n 1, 1) := by decide +kernel
theorem dX11_digest_47 : decode cX11_digest 47 = .ok (.lmul, 1) := by decide +kernel
theorem dX11_digest_48 : decode cX11_digest 48 = .ok (.aload_n 0, 1) := by decide +kernel
theorem dX11_digest_49 : decode cX11_digest 49 = .ok (.invokevirtual 121, 3) := by decide +kernel
theorem dX11_digest_52 : decode cX11_digest 52 = .ok (.i2l, 1) := by decide +kernel
theorem dX11_digest_53 : decode cX11_digest 53 = .ok (.ladd, 1) := by decide +kernel
theorem dX11_digest_54 : decode cX11_digest 54 = .ok (.lstore_n 1, 1) := by decide +kernel
theorem dX11_digest_55 : decode cX11_digest 55 = .ok (.iconst 0, 1) := by decide +kernel
theorem dX11_digest_56 : decode cX11_digest 56 = .ok (.istore_n 3, 1) := by decide +kernel
theorem dX11_digest_57 : decode cX11_digest 57 = .ok (.iload_n 3, 1) := by decide +kernel
theorem dX11_digest_58 : decode cX11_digest 58 = .ok (.aload_n 0, 1) := by decide +kernel
theorem dX11_digest_59 : decode cX11_digest 59 = .ok (.getfield 91, 3) := by decide +kernel
theorem dX11_digest_62 : decode cX11_digest 62 = .ok (.if_icmp .ge 26, 3) := by decide +kernel
theorem dX11_digest_65 : decode cX11_digest 65 = .ok (.aload_n 0, 1) := by decide +kernel
theorem dX11_digest_66 : decode cX11_digest 66 = .ok (.aload_n 0, 1) := by decide +kernel
theorem dX11_digest_67 : decode cX11_digest 67 = .ok (.lload_n 1, 1) := by decide +kernel
theorem dX11_digest_68 : decode cX11_digest 68 = .ok (.iconst 0, 1) := by decide +kernel
theorem dX11_digest_69 : decode cX11_digest 69 = .ok (.iload_n 3, 1) := by decide +kernel
theorem dX11_digest_70 : decode cX11_digest 70 = .ok (.invokevirtual 296, 3) := by decide +kernel
theorem dX11_digest_73 : decode cX11_digest 73 = .ok (.aload_n 0, 1) := by decide +kernel
theorem dX11_digest_74 : decode cX11_digest 74 = .ok (.getfield 108, 3) := by decide +kernel
theorem dX11_digest_77 : decode cX11_digest 77 = .ok (.iload_n 3, 1) := by decide +kernel
theorem dX11_digest_78 : decode cX11_digest 78 = .ok (.invokevirtual 296, 3) := by decide +kernel
theorem dX11_digest_81 : decode cX11_digest 81 = .ok (.lstore_n 1, 1) := by decide +kernel
theorem dX11_digest_82 : decode cX11_digest 82 = .ok (.iinc 3 1, 3) := by decide +kernel
theorem dX11_digest_85 : decode cX11_digest 85 = .ok (.goto (-28), 3) := by decide +kernel
theorem dX11_digest_88 : decode cX11_digest 88 = .ok (.iconst 0, 1) := by decide +kernel
theorem dX11_digest_89 : decode cX11_digest 89 = .ok (.istore_n 3, 1) := by decide +kernel
theorem dX11_digest_90 : decode cX11_digest 90 = .ok (.iload_n 3, 1) := by decide +kernel
theorem dX11_digest_91 : decode cX11_digest 91 = .ok (.aload_n 0, 1) := by decide +kernel
theorem dX11_digest_92 : decode cX11_digest 92 = .ok (.getfield 108, 3) := by decide +kernel
theorem dX11_digest_95 : decode cX11_digest 95 = .ok (.if_icmp .ge 39, 3) := by decide +kernel
theorem dX11_digest_98 : decode cX11_digest 98 = .ok (.iconst 0, 1) := by decide +kernel
theorem dX11_digest_99 : decode cX11_digest 99 = .ok (.istore 4, 2) := by decide +kernel
theorem dX11_digest_101 : decode cX11_digest 101 = .ok (.iload 4, 2) := by decide +kernel
theorem dX11_digest_103 : decode cX11_digest 103 = .ok (.iconst 3, 1) := by decide +kernel
theorem dX11_digest_104 : decode cX11_digest 104 = .ok (.if_icmp .ge 24, 3) := by decide +kernel
theorem dX11_digest_107 : decode cX11_digest 107 = .ok (.ldc2_w 289, 3) := by decide +kernel
theorem dX11_digest_110 : decode cX11_digest 110 = .ok (.lload_n 1, 1) := by decide +kernel
theorem dX11_digest_111 : decode cX11_digest 111 = .ok (.lmul, 1) := by decide +kernel
theorem dX11_digest_112 : decode cX11_digest 112 = .ok (.aload_n 0, 1) := by decide +kernel
theorem dX11_digest_113 : decode cX11_digest 113 = .ok (.iload_n 3, 1) := by decide +kernel
theorem dX11_digest_114 : decode cX11_digest 114 = .ok (.iload 4, 2) := by decide +kernel
theorem dX11_digest_116 : decode cX11_digest 116 = .ok (.invokevirtual 211, 3) := by decide +kernel
theorem dX11_digest_119 : decode cX11_digest 119 = .ok (.i2l, 1) := by decide +kernel
theorem dX11_digest_120 : decode cX11_digest 120 = .ok (.ladd, 1) := by decide +kernel
theorem dX11_digest_121 : decode cX11_digest 121 = .ok (.lstore_n 1, 1) := by decide +kernel
theorem dX11_digest_122 : decode cX11_digest 122 = .ok (.iinc 4 1, 3) := by decide +kernel
theorem dX11_digest_125 : decode cX11_digest 125 = .ok (.goto (-24), 3) := by decide +kernel
theorem dX11_digest_128 : decode cX11_digest 128 = .ok (.iinc 3 1, 3) := by decide +kernel
theorem dX11_digest_131 : decode cX11_digest 131 = .ok (.goto (-41), 3) := by decide +kernel
theorem dX11_digest_134 : decode cX11_digest 134 = .ok (.iconst 0, 1) := by decide +kernel
theorem dX11_digest_135 : decode cX11_digest 135 = .ok (.istore_n 3, 1) := by decide +kernel
theorem dX11_digest_136 : decode cX11_digest 136 = .ok (.iload_n 3, 1) := by decide +kernel
theorem dX11_digest_137 : decode cX11_digest 137 = .ok (.iconst 2, 1) := by decide +kernel
theorem dX11_digest_138 : decode cX11_digest 138 = .ok (.if_icmp .ge 50, 3) := by decide +kernel
theorem dX11_digest_141 : decode cX11_digest 141 = .ok (.iconst 0, 1) := by decide +kernel
theorem dX11_digest_142 : decode cX11_digest 142 = .ok (.istore 4, 2) := by decide +kernel
theorem dX11_digest_144 : decode cX11_digest 144 = .ok (.iload 4, 2) := by decide +kernel
theorem dX11_digest_146 : decode cX11_digest 146 = .ok (.iconst 4, 1) := by decide +kernel
theorem dX11_digest_147 : decode cX11_digest 147 = .ok (.if_icmp .ge 35, 3) := by decide +kernel
theorem dX11_digest_150 : decode cX11_digest 150 = .ok (.ldc2_w 289, 3) := by decide +kernel
theorem dX11_digest_153 : decode cX11_digest 153 = .ok (.lload_n 1, 1) := by decide +kernel
theorem dX11_digest_154 : decode cX11_digest 154 = .ok (.lmul, 1) := by decide +kernel
theorem dX11_digest_155 : decode cX11_digest 155 = .ok (.aload_n 0, 1) := by decide +kernel
theorem dX11_digest_156 : decode cX11_digest 156 = .ok (.iload_n 3, 1) := by decide +kernel
theorem dX11_digest_157 : decode cX11_digest 157 = .ok (.ifCond .ne 7, 3) := by decide +kernel
theorem dX11_digest_160 : decode cX11_digest 160 = .ok (.iconst 0, 1) := by decide +kernel
theorem dX11_digest_161 : decode cX11_digest 161 = .ok (.goto 7, 3) := by decide +kernel
theorem dX11_digest_164 : decode cX11_digest 164 = .ok (.aload_n 0, 1) := by decide +kernel
theorem dX11_digest_165 : decode cX11_digest 165 = .ok (.getfield 108, 3) := by decide +kernel
theorem dX11_digest_168 : decode cX11_digest 168 = .ok (.iload 4, 2) := by decide +kernel
theorem dX11_digest_170 : decode cX11_digest 170 = .ok (.invokevirtual 208, 3) := by decide +kernel
theorem dX11_digest_173 : decode cX11_digest 173 = .ok (.i2l, 1) := by decide +kernel
theorem dX11_digest_174 : decode cX11_digest 174 = .ok (.ladd, 1) := by decide +kernel
theorem dX11_digest_175 : decode cX11_digest 175 = .ok (.lstore_n 1, 1) := by decide +kernel
theorem dX11_digest_176 : decode cX11_digest 176 = .ok (.iinc 4 1, 3) := by decide +kernel
theorem dX11_digest_179 : decode cX11_digest 179 = .ok (.goto (-35), 3) := by decide +kernel
theorem dX11_digest_182 : decode cX11_digest 182 = .ok (.iinc 3 1, 3) := by decide +kernel
theorem dX11_digest_185 : decode cX11_digest 185 = .ok (.goto (-49), 3) := by decide +kernel
theorem dX11_digest_188 : decode cX11_digest 188 = .ok (.iconst 0, 1) := by decide +kernel
theorem dX11_digest_189 : decode cX11_digest 189 = .ok (.istore_n 3, 1) := by decide +kernel
theorem dX11_digest_190 : decode cX11_digest 190 = .ok (.iload_n 3, 1) := by decide +kernel
theorem dX11_digest_191 : decode cX11_digest 191 = .ok (.aload_n 0, 1) := by decide +kernel
theorem dX11_digest_192 : decode cX11_digest 192 = .ok (.getfield 91, 3) := by decide +kernel
theorem dX11_digest_195 : decode cX11_digest 195 = .ok (.if_icmp .ge 26, 3) := by decide +kernel
theorem dX11_digest_198 : decode cX11_digest 198 = .ok (.ldc2_w 289, 3) := by decide +kernel
theorem dX11_digest_201 : decode cX11_digest 201 = .ok (.lload_n 1, 1) := by decide +kernel
theorem dX11_digest_202 : decode cX11_digest 202 = .ok (.lmul, 1) := by decide +kernel
theorem dX11_digest_203 : decode cX11_digest 203 = .ok (.aload_n 0, 1) := by decide +kernel
theorem dX11_digest_204 : decode cX11_digest 204 = .ok (.bipush 7, 2) := by decide +kernel
theorem dX11_digest_206 : decode cX11_digest 206 = .ok (.bipush 9, 2) := by decide +kernel
theorem dX11_digest_208 : decode cX11_digest 208 = .ok (.iload_n 3, 1) := by decide +kernel
theorem dX11_digest_209 : decode cX11_digest 209 = .ok (.invokevirtual 280, 3) := by decide +kernel
theorem dX11_digest_212 : decode cX11_digest 212 = .ok (.i2l, 1) := by decide +kernel
theorem dX11_digest_213 : decode cX11_digest 213 = .ok (.ladd, 1) := by decide +kernel
theorem dX11_digest_214 : decode cX11_digest 214 = .ok (.lstore_n 1, 1) := by decide +kernel
theorem dX11_digest_215 : decode cX11_digest 215 = .ok (.iinc 3 1, 3) := by decide +kernel
theorem dX11_digest_218 : decode cX11_digest 218 = .ok (.goto (-28), 3) := by decide +kernel
theorem dX11_digest_221 : decode cX11_digest 221 = .ok (.ldc2_w 289, 3) := by decide +kernel
theorem dX11_digest_224 : decode cX11_digest 224 = .ok (.lload_n 1, 1) := by decide +kernel
theorem dX11_digest_225 : decode cX11_digest 225 = .ok (.lmul, 1) := by decide +kernel
theorem dX11_digest_226 : decode cX11_digest 226 = .ok (.aload_n 0, 1) := by decide +kernel
theorem dX11_digest_227 : decode cX11_digest 227 = .ok (.iconst 0, 1) := by decide +kernel
theorem dX11_digest_228 : decode cX11_digest 228 = .ok (.invokevirtual 214, 3) := by decide +kernel
theorem dX11_digest_231 : decode cX11_digest 231 = .ok (.i2l, 1) := by decide +kernel
theorem dX11_digest_232 : decode cX11_digest 232 = .ok (.ladd, 1) := by decide +kernel
theorem dX11_digest_233 : decode cX11_digest 233 = .ok (.lstore_n 1, 1) := by decide +kernel
theorem dX11_digest_234 : decode cX11_digest 234 = .ok (.ldc2_w 289, 3) := by decide +kernel
theorem dX11_digest_237 : decode cX11_digest 237 = .ok (.lload_n 1, 1) := by decide +kernel
theorem dX11_digest_238 : decode cX11_digest 238 = .ok (.lmul, 1) := by decide +kernel
theorem dX11_digest_239 : decode cX11_digest 239 = .ok (.aload_n 0, 1) := by decide +kernel
theorem dX11_digest_240 : decode cX11_digest 240 = .ok (.iconst 1, 1) := by decide +kernel
theorem dX11_digest_241 : decode cX11_digest 241 = .ok (.invokevirtual 214, 3) := by decide +kernel
theorem dX11_digest_244 : decode cX11_digest 244 = .ok (.i2l, 1) := by decide +kernel
theorem dX11_digest_245 : decode cX11_digest 245 = .ok (.ladd, 1) := by decide +kernel
theorem dX11_digest_246 : decode cX11_digest 246 = .ok (.lstore_n 1, 1) := by decide +kernel
theorem dX11_digest_247 : decode cX11_digest 247 = .ok (.ldc2_w 289, 3) := by decide +kernel
theorem dX11_digest_250 : decode cX11_digest 250 = .ok (.lload_n 1, 1) := by decide +kernel
theorem dX11_digest_251 : decode cX11_digest 251 = .ok (.lmul, 1) := by decide +kernel
theorem dX11_digest_252 : decode cX11_digest 252 = .ok (.aload_n 0, 1) := by decide +kernel
theorem dX11_digest_253 : decode cX11_digest 253 = .ok (.invokevirtual 217, 3) := by decide +kernel
theorem dX11_digest_256 : decode cX11_digest 256 = .ok (.i2l, 1) := by decide +kernel
theorem dX11_digest_257 : decode cX11_digest 257 = .ok (.ladd, 1) := by decide +kernel
theorem dX11_digest_258 : decode cX11_digest 258 = .ok (.lstore_n 1, 1) := by decide +kernel
theorem dX11_digest_259 : decode cX11_digest 259 = .ok (.ldc2_w 289, 3) := by decide +kernel
theorem dX11_digest_262 : decode cX11_digest 262 = .ok (.lload_n 1, 1) := by decide +kernel
theorem dX11_digest_263 : decode cX11_digest 263 = .ok (.lmul, 1) := by decide +kernel
theorem dX11_digest_264 : decode cX11_digest 264 = .ok (.aload_n 0, 1) := by decide +kernel
theorem dX11_digest_265 : decode cX11_digest 265 = .ok (.iconst (-1), 1) := by decide +kernel
theorem dX11_digest_266 : decode cX11_digest 266 = .ok (.iconst (-1), 1) := by decide +kernel
theorem dX11_digest_267 : decode cX11_digest 267 = .ok (.invokevirtual 229, 3) := by decide +kernel
theorem dX11_digest_270 : decode cX11_digest 270 = .ok (.i2l, 1) := by decide +kernel
theorem dX11_digest_271 : decode cX11_digest 271 = .ok (.ladd, 1) := by decide +kernel
theorem dX11_digest_272 : decode cX11_digest 272 = .ok (.lstore_n 1, 1) := by decide +kernel
theorem dX11_digest_273 : decode cX11_digest 273 = .ok (.ldc2_w 289, 3) := by decide +kernel
theorem dX11_digest_276 : decode cX11_digest 276 = .ok (.lload_n 1, 1) := by decide +kernel
theorem dX11_digest_277 : decode cX11_digest 277 = .ok (.lmul, 1) := by decide +kernel
theorem dX11_digest_278 : decode cX11_digest 278 = .ok (.aload_n 0, 1) := by decide +kernel
theorem dX11_digest_279 : decode cX11_digest 279 = .ok (.iconst (-1), 1) := by decide +kernel
theorem dX11_digest_280 : decode cX11_digest 280 = .ok (.iconst 0, 1) := by decide +kernel
theorem dX11_digest_281 : decode cX11_digest 281 = .ok (.invokevirtual 229, 3) := by decide +kernel
theorem dX11_digest_284 : decode cX11_digest 284 = .ok (.i2l, 1) := by decide +kernel
theorem dX11_digest_285 : decode cX11_digest 285 = .ok (.ladd, 1) := by decide +kernel
theorem dX11_digest_286 : decode cX11_digest 286 = .ok (.lstore_n 1, 1) := by decide +kernel
theorem dX11_digest_287 : decode cX11_digest 287 = .ok (.ldc2_w 289, 3) := by decide +kernel
theorem dX11_digest_290 : decode cX11_digest 290 = .ok (.lload_n 1, 1) := by decide +kernel
theorem dX11_digest_291 : decode cX11_digest 291 = .ok (.lmul, 1) := by decide +kernel
theorem dX11_digest_292 : decode cX11_digest 292 = .ok (.aload_n 0, 1) := by decide +kernel
theorem dX11_digest_293 : decode cX11_digest 293 = .ok (.iconst 3, 1) := by decide +kernel
theorem dX11_digest_294 : decode cX11_digest 294 = .ok (.iconst (-1), 1) := by decide +kernel
theorem dX11_digest_295 : decode cX11_digest 295 = .ok (.invokevirtual 229, 3) := by decide +kernel
theorem dX11_digest_298 : decode cX11_digest 298 = .ok (.i2l, 1) := by decide +kernel
theorem dX11_digest_299 : decode cX11_digest 299 = .ok (.ladd, 1) := by decide +kernel
theorem dX11_digest_300 : decode cX11_digest 300 = .ok (.lstore_n 1, 1) := by decide +kernel
theorem dX11_digest_301 : decode cX11_digest 301 = .ok (.ldc2_w 289, 3) := by decide +kernel
theorem dX11_digest_304 : decode cX11_digest 304 = .ok (.lload_n 1, 1) := by decide +kernel
theorem dX11_digest_305 : decode cX11_digest 305 = .ok (.lmul, 1) := by decide +kernel
theorem dX11_digest_306 : decode cX11_digest 306 = .ok (.aload_n 0, 1) := by decide +kernel
theorem dX11_digest_307 : decode cX11_digest 307 = .ok (.iconst 3, 1) := by decide +kernel
theorem dX11_digest_308 : decode cX11_digest 308 = .ok (.iconst 0, 1) := by decide +kernel
theorem dX11_digest_309 : decode cX11_digest 309 = .ok (.invokevirtual 229, 3) := by decide +kernel
theorem dX11_digest_312 : decode cX11_digest 312 = .ok (.i2l, 1) := by decide +kernel
theorem dX11_digest_313 : decode cX11_digest 313 = .ok (.ladd, 1) := by decide +kernel
theorem dX11_digest_314 : decode cX11_digest 314 = .ok (.lstore_n 1, 1) := by decide +kernel
theorem dX11_digest_315 : decode cX11_digest 315 = .ok (.ldc2_w 289, 3) := by decide +kernel
theorem dX11_digest_318 : decode cX11_digest 318 = .ok (.lload_n 1, 1) := by decide +kernel
theorem dX11_digest_319 : decode cX11_digest 319 = .ok (.lmul, 1) := by decide +kernel
theorem dX11_digest_320 : decode cX11_digest 320 = .ok (.aload_n 0, 1) := by decide +kernel
theorem dX11_digest_321 : decode cX11_digest 321 = .ok (.iconst 2, 1) := by decide +kernel
theorem dX11_digest_322 : decode cX11_digest 322 = .ok (.iconst 0, 1) := by decide +kernel
theorem dX11_digest_323 : decode cX11_digest 323 = .ok (.invokevirtual 240, 3) := by decide +kernel
theorem dX11_digest_326 : decode cX11_digest 326 = .ok (.i2l, 1) := by decide +kernel
theorem dX11_digest_327 : decode cX11_digest 327 = .ok (.ladd, 1) := by decide +kernel
theorem dX11_digest_328 : decode cX11_digest 328 = .ok (.lstore_n 1, 1) := by decide +kernel
theorem dX11_digest_329 : decode cX11_digest 329 = .ok (.ldc2_w 289, 3) := by decide +kernel
theorem dX11_digest_332 : decode cX11_digest 332 = .ok (.lload_n 1, 1) := by decide +kernel
theorem dX11_digest_333 : decode cX11_digest 333 = .ok (.lmul, 1) := by decide +kernel
theorem dX11_digest_334 : decode cX11_digest 334 = .ok (.aload_n 0, 1) := by decide +kernel
theorem dX11_digest_335 : decode cX11_digest 335 = .ok (.iconst 2, 1) := by decide +kernel
theorem dX11_digest_336 : decode cX11_digest 336 = .ok (.iconst 1, 1) := by decide +kernel
theorem dX11_digest_337 : decode cX11_digest 337 = .ok (.invokevirtual 240, 3) := by decide +kernel
theorem dX11_digest_340 : decode cX11_digest 340 = .ok (.i2l, 1) := by decide +kernel
theorem dX11_digest_341 : decode cX11_digest 341 = .ok (.ladd, 1) := by decide +kernel
theorem dX11_digest_342 : decode cX11_digest 342 = .ok (.lstore_n 1, 1) := by decide +kernel
theorem dX11_digest_343 : decode cX11_digest 343 = .ok (.iconst 0, 1) := by decide +kernel
theorem dX11_digest_344 : decode cX11_digest 344 = .ok (.istore_n 3, 1) := by decide +kernel
theorem dX11_digest_345 : decode cX11_digest 345 = .ok (.iload_n 3, 1) := by decide +kernel
theorem dX11_digest_346 : decode cX11_digest 346 = .ok (.iconst 3, 1) := by decide +kernel
theorem dX11_digest_347 : decode cX11_digest 347 = .ok (.if_icmp .ge 22, 3) := by decide +kernel
theorem dX11_digest_350 : decode cX11_digest 350 = .ok (.ldc2_w 289, 3) := by decide +kernel
theorem dX11_digest_353 : decode cX11_digest 353 = .ok (.lload_n 1, 1) := by decide +kernel
theorem dX11_digest_354 : decode cX11_digest 354 = .ok (.lmul, 1) := by decide +kernel
theorem dX11_digest_355 : decode cX11_digest 355 = .ok (.aload_n 0, 1) := by decide +kernel
theorem dX11_digest_356 : decode cX11_digest 356 = .ok (.iload_n 3, 1) := by decide +kernel
theorem dX11_digest_357 : decode cX11_digest 357 = .ok (.invokevirtual 256, 3) := by decide +kernel
theorem dX11_digest_360 : decode cX11_digest 360 = .ok (.i2l, 1) := by decide +kernel
theorem dX11_digest_361 : decode cX11_digest 361 = .ok (.ladd, 1) := by decide +kernel
theorem dX11_digest_362 : decode cX11_digest 362 = .ok (.lstore_n 1, 1) := by decide +kernel
theorem dX11_digest_363 : decode cX11_digest 363 = .ok (.iinc 3 1, 3) := by decide +kernel
theorem dX11_digest_366 : decode cX11_digest 366 = .ok (.goto (-21), 3) := by decide +kernel
theorem dX11_digest_369 : decode cX11_digest 369 = .ok (.ldc2_w 289, 3) := by decide +kernel
theorem dX11_digest_372 : decode cX11_digest 372 = .ok (.lload_n 1, 1) := by decide +kernel
theorem dX11_digest_373 : decode cX11_digest 373 = .ok (.lmul, 1) := by decide +kernel
theorem dX11_digest_374 : decode cX11_digest 374 = .ok (.aload_n 0, 1) := by decide +kernel
theorem dX11_digest_375 : decode cX11_digest 375 = .ok (.iconst 5, 1) := by decide +kernel
theorem dX11_digest_376 : decode cX11_digest 376 = .ok (.iconst 0, 1) := by decide +kernel
theorem dX11_digest_377 : decode cX11_digest 377 = .ok (.invokevirtual 263, 3) := by decide +kernel
theorem dX11_digest_380 : decode cX11_digest 380 = .ok (.ladd, 1) := by decide +kernel
theorem dX11_digest_381 : decode cX11_digest 381 = .ok (.lstore_n 1, 1) := by decide +kernel
theorem dX11_digest_382 : decode cX11_digest 382 = .ok (.ldc2_w 289, 3) := by decide +kernel
theorem dX11_digest_385 : decode cX11_digest 385 = .ok (.lload_n 1, 1) := by decide +kernel
theorem dX11_digest_386 : decode cX11_digest 386 = .ok (.lmul, 1) := by decide +kernel
theorem dX11_digest_387 : decode cX11_digest 387 = .ok (.aload_n 0, 1) := by decide +kernel
theorem dX11_digest_388 : decode cX11_digest 388 = .ok (.iconst 5, 1) := by decide +kernel
theorem dX11_digest_389 : decode cX11_digest 389 = .ok (.iconst 1, 1) := by decide +kernel
theorem dX11_digest_390 : decode cX11_digest 390 = .ok (.invokevirtual 263, 3) := by decide +kernel
theorem dX11_digest_393 : decode cX11_digest 393 = .ok (.ladd, 1) := by decide +kernel
theorem dX11_digest_394 : decode cX11_digest 394 = .ok (.lstore_n 1, 1) := by decide +kernel
theorem dX11_digest_395 : decode cX11_digest 395 = .ok (.ldc2_w 289, 3) := by decide +kernel
theorem dX11_digest_398 : decode cX11_digest 398 = .ok (.lload_n 1, 1) := by decide +kernel
theorem dX11_digest_399 : decode cX11_digest 399 = .ok (.lmul, 1) := by decide +kernel
theorem dX11_digest_400 : decode cX11_digest 400 = .ok (.aload_n 0, 1) := by decide +kernel
theorem dX11_digest_401 : decode cX11_digest 401 = .ok (.bipush 7, 2) := by decide +kernel
theorem dX11_digest_403 : decode cX11_digest 403 = .ok (.bipush 9, 2) := by decide +kernel
theorem dX11_digest_405 : decode cX11_digest 405 = .ok (.iconst (-1), 1) := by decide +kernel
theorem dX11_digest_406 : decode cX11_digest 406 = .ok (.invokevirtual 300, 3) := by decide +kernel
theorem dX11_digest_409 : decode cX11_digest 409 = .ok (.i2l, 1) := by decide +kernel
theorem dX11_digest_410 : decode cX11_digest 410 = .ok (.ladd, 1) := by decide +kernel
theorem dX11_digest_411 : decode cX11_digest 411 = .ok (.lreturn, 1) := by decide +kernel
end
section
/-! the flat world: state, cells, rows (generated by wip/whole/gen/world.py) -/
abbrev sT : Type := (Nat → Nat → Nat → Int32) × (Nat → Int64)
abbrev gT : Type := (va_G × (Nat → Nat → Nat)) × (Nat → ClassId) × Nat × Nat
def gD (g : gT) : va_G := g.1.1
def gad (g : gT) : Nat → Nat → Nat := g.1.2
def gc (g : gT) : Nat → ClassId := g.2.1
def gA (g : gT) : Nat → Prop := fun q => g.2.2.1 ≤ q
def gM (g : gT) : Nat := g.2.2.2
abbrev cl (x : Int32) : Nat := x.toNatClampNeg
def us (S : sT) (f a b : Nat) (v : Int32) : sT := (fun f' a' b' => if f' = f ∧ a' = a ∧ b' = b then v else S.1 f' a' b', S.2)
def ul (S : sT) (f : Nat) (v : Int64) : sT := (S.1, fun f' => if f' = f then v else S.2 f')
def ua (S : sT) (f a : Nat) (h : Nat → Int32) : sT := (fun f' a' => if f' = f ∧ a' = a then h else S.1 f' a', S.2)
theorem us_same {S : sT} {f a b : Nat} {v : Int32} : (us S f a b v).1 f a b = v := by simp [us]
theorem us_ne {S : sT} {f a b f' : Nat} {v : Int32} (h : f' ≠ f) : (us S f a b v).1 f' = S.1 f' := by funext a' b'; simp [us, h]
theorem us_ni {S : sT} {f a b a' : Nat} {v : Int32} (h : a' ≠ a) : (us S f a b v).1 f a' = S.1 f a' := by funext b'; simp [us, h]
theorem us_arr {S : sT} {f a b : Nat} {v : Int32} : (us S f a b v).1 f a = upd (S.1 f a) b v := by funext b'; simp [us, upd]
theorem us_2 {S : sT} {f a b : Nat} {v : Int32} : (us S f a b v).2 = S.2 := rfl
theorem ul_1 {S : sT} {f : Nat} {v : Int64} : (ul S f v).1 = S.1 := rfl
theorem ul_same {S : sT} {f : Nat} {v : Int64} : (ul S f v).2 f = v := by simp [ul]
theorem ul_ne {S : sT} {f f' : Nat} {v : Int64} (h : f' ≠ f) : (ul S f v).2 f' = S.2 f' := by simp [ul, h]
theorem ua_same {S : sT} {f a : Nat} {h : Nat → Int32} : (ua S f a h).1 f a = h := by simp [ua]
theorem ua_ne {S : sT} {f a f' : Nat} {h : Nat → Int32} (n : f' ≠ f) : (ua S f a h).1 f' = S.1 f' := by funext a'; simp [ua, n]
theorem ua_ni {S : sT} {f a a' : Nat} {h : Nat → Int32} (n : a' ≠ a) : (ua S f a h).1 f a' = S.1 f a' := by simp [ua, n]
theorem ua_2 {S : sT} {f a : Nat} {h : Nat → Int32} : (ua S f a h).2 = S.2 := rfl
def aN (k : Nat) : Nat := match k with
  | 1 => 2
  | 9 => 16
  | 11 => 2
  | 26 => 4
  | 29 => 16
  | 30 => 16
  | 31 => 16
  | 32 => 16
  | _ => 1
def dp (k : Nat) : List Nat := match k with
  | 0 => [100, 101]
  | 1 => [102, 103]
  | 2 => []
  | 3 => [104]
  | 4 => [105]
  | 5 => [106, 107]
  | 6 => [108, 109]
  | 7 => [110]
  | 8 => [111]
  | 9 => [112]
  | 10 => [113, 114, 115, 116, 117, 118, 119, 120, 121, 122]
  | 17 => []
  | 25 => []
  | k => [k]
def cE (g : gT) (S : sT) (k i : Nat) : va_E := match k with
  | 0 => .inr (9, [.ref (gad g 1 0), .ref (gad g 1 1), .ref (gad g 2 0), .ref (gad g 3 0), .ref (gad g 4 0), .ref (gad g 5 0), .ref (gad g 6 0), .ref (gad g 7 0), .ref (gad g 8 0), .int (S.1 100 i 0), .int (S.1 101 i 0)])
  | 1 => .inr (7, [.ref (gad g 11 i), .int (S.1 102 i 0), .int (S.1 103 i 0)])
  | 2 => .inr (3, [.ref (gad g 12 0)])
  | 3 => .inr (4, [.ref (gad g 13 0), .ref (gad g 14 0), .ref (gad g 15 0), .ref (gad g 16 0), .int (S.1 104 i 0)])
  | 4 => .inr (1, [.ref (gad g 17 0), .ref (gad g 18 0), .ref (gad g 19 0), .ref (gad g 9 13), .int (S.1 105 i 0)])
  | 5 => .inr (2, [.ref (gad g 9 14), .ref (gad g 20 0), .ref (gad g 21 0), .int (S.1 106 i 0), .int (S.1 107 i 0)])
  | 6 => .inr (0, [.ref (gad g 9 15), .long (S.2 0), .long (S.2 1), .int (S.1 108 i 0), .int (S.1 109 i 0)])
  | 7 => .inr (6, [.ref (gad g 22 0), .ref (gad g 23 0), .ref (gad g 24 0), .int (S.1 110 i 0)])
  | 8 => .inr (5, [.ref (gad g 25 0), .ref (gad g 27 0), .ref (gad g 28 0), .int (S.1 111 i 0)])
  | 9 => .inr (8, [.ref (gad g 29 i), .ref (gad g 30 i), .ref (gad g 31 i), .ref (gad g 32 i), .int (S.1 112 i 0)])
  | 10 => .inr (10, [.ref (gad g 33 0), .ref (gad g 34 0), .ref (gad g 35 0), .ref (gad g 36 0), .int (S.1 113 i 0), .ref (gad g 37 0), .ref (gad g 38 0), .int (S.1 114 i 0), .int (S.1 115 i 0), .ref (gad g 39 0), .ref (gad g 40 0), .int (S.1 116 i 0), .ref (gad g 41 0), .ref (gad g 42 0), .ref (gad g 43 0), .ref (gad g 44 0), .int (S.1 117 i 0), .int (S.1 118 i 0), .int (S.1 119 i 0), .int (S.1 120 i 0), .ref (gad g 45 0), .int (S.1 121 i 0), .ref (gad g 46 0), .int (S.1 122 i 0)])
  | 17 => .inl (gc g 1, 13, .inr (.inr (.inr (.inr (fun j => some (gad g 9 j))))))
  | 25 => .inl (gc g 2, 4, .inr (.inr (.inr (.inr (fun j => some (gad g 26 j))))))
  | 11 => .inl (gc g 0, 63, .inl (S.1 11 i))
  | 12 => .inl (gc g 0, 6, .inl (S.1 12 i))
  | 13 => .inl (gc g 0, 12, .inl (S.1 13 i))
  | 14 => .inl (gc g 0, 12, .inl (S.1 14 i))
  | 15 => .inl (gc g 0, 36, .inl (S.1 15 i))
  | 16 => .inl (gc g 0, 36, .inl (S.1 16 i))
  | 18 => .inl (gc g 0, 12, .inl (S.1 18 i))
  | 19 => .inl (gc g 0, 12, .inl (S.1 19 i))
  | 20 => .inl (gc g 0, 3, .inl (S.1 20 i))
  | 21 => .inl (gc g 0, 4, .inl (S.1 21 i))
  | 22 => .inl (gc g 0, 8, .inl (S.1 22 i))
  | 23 => .inl (gc g 0, 8, .inl (S.1 23 i))
  | 24 => .inl (gc g 0, 8, .inl (S.1 24 i))
  | 26 => .inl (gc g 0, 60, .inl (S.1 26 i))
  | 27 => .inl (gc g 0, 4, .inl (S.1 27 i))
  | 28 => .inl (gc g 0, 4, .inl (S.1 28 i))
  | 29 => .inl (gc g 0, 64, .inl (S.1 29 i))
  | 30 => .inl (gc g 0, 8, .inl (S.1 30 i))
  | 31 => .inl (gc g 0, 8, .inl (S.1 31 i))
  | 32 => .inl (gc g 0, 8, .inl (S.1 32 i))
  | 33 => .inl (gc g 0, 4, .inl (S.1 33 i))
  | 34 => .inl (gc g 0, 4, .inl (S.1 34 i))
  | 35 => .inl (gc g 0, 240, .inl (S.1 35 i))
  | 36 => .inl (gc g 0, 60, .inl (S.1 36 i))
  | 37 => .inl (gc g 0, 128, .inl (S.1 37 i))
  | 38 => .inl (gc g 0, 2, .inl (S.1 38 i))
  | 39 => .inl (gc g 0, 64, .inl (S.1 39 i))
  | 40 => .inl (gc g 0, 8, .inl (S.1 40 i))
  | 41 => .inl (gc g 0, 96, .inl (S.1 41 i))
  | 42 => .inl (gc g 0, 6, .inl (S.1 42 i))
  | 43 => .inl (gc g 0, 64, .inl (S.1 43 i))
  | 44 => .inl (gc g 0, 8, .inl (S.1 44 i))
  | 45 => .inl (gc g 0, 3, .inl (S.1 45 i))
  | 46 => .inl (gc g 0, 24, .inl (S.1 46 i))
  | _ => .inr (0, [])
theorem ka_11 : ∀ (g : gT) (S : sT) (i : Nat), cE g S 11 i = .inl (gc g 0, 63, .inl (S.1 11 i)) := fun _ _ _ => rfl
theorem ka_12 : ∀ (g : gT) (S : sT) (i : Nat), cE g S 12 i = .inl (gc g 0, 6, .inl (S.1 12 i)) := fun _ _ _ => rfl
theorem ka_13 : ∀ (g : gT) (S : sT) (i : Nat), cE g S 13 i = .inl (gc g 0, 12, .inl (S.1 13 i)) := fun _ _ _ => rfl
theorem ka_14 : ∀ (g : gT) (S : sT) (i : Nat), cE g S 14 i = .inl (gc g 0, 12, .inl (S.1 14 i)) := fun _ _ _ => rfl
theorem ka_15 : ∀ (g : gT) (S : sT) (i : Nat), cE g S 15 i = .inl (gc g 0, 36, .inl (S.1 15 i)) := fun _ _ _ => rfl
theorem ka_16 : ∀ (g : gT) (S : sT) (i : Nat), cE g S 16 i = .inl (gc g 0, 36, .inl (S.1 16 i)) := fun _ _ _ => rfl
theorem ka_18 : ∀ (g : gT) (S : sT) (i : Nat), cE g S 18 i = .inl (gc g 0, 12, .inl (S.1 18 i)) := fun _ _ _ => rfl
theorem ka_19 : ∀ (g : gT) (S : sT) (i : Nat), cE g S 19 i = .inl (gc g 0, 12, .inl (S.1 19 i)) := fun _ _ _ => rfl
theorem ka_20 : ∀ (g : gT) (S : sT) (i : Nat), cE g S 20 i = .inl (gc g 0, 3, .inl (S.1 20 i)) := fun _ _ _ => rfl
theorem ka_21 : ∀ (g : gT) (S : sT) (i : Nat), cE g S 21 i = .inl (gc g 0, 4, .inl (S.1 21 i)) := fun _ _ _ => rfl
theorem ka_22 : ∀ (g : gT) (S : sT) (i : Nat), cE g S 22 i = .inl (gc g 0, 8, .inl (S.1 22 i)) := fun _ _ _ => rfl
theorem ka_23 : ∀ (g : gT) (S : sT) (i : Nat), cE g S 23 i = .inl (gc g 0, 8, .inl (S.1 23 i)) := fun _ _ _ => rfl
theorem ka_24 : ∀ (g : gT) (S : sT) (i : Nat), cE g S 24 i = .inl (gc g 0, 8, .inl (S.1 24 i)) := fun _ _ _ => rfl
theorem ka_26 : ∀ (g : gT) (S : sT) (i : Nat), cE g S 26 i = .inl (gc g 0, 60, .inl (S.1 26 i)) := fun _ _ _ => rfl
theorem ka_27 : ∀ (g : gT) (S : sT) (i : Nat), cE g S 27 i = .inl (gc g 0, 4, .inl (S.1 27 i)) := fun _ _ _ => rfl
theorem ka_28 : ∀ (g : gT) (S : sT) (i : Nat), cE g S 28 i = .inl (gc g 0, 4, .inl (S.1 28 i)) := fun _ _ _ => rfl
theorem ka_29 : ∀ (g : gT) (S : sT) (i : Nat), cE g S 29 i = .inl (gc g 0, 64, .inl (S.1 29 i)) := fun _ _ _ => rfl
theorem ka_30 : ∀ (g : gT) (S : sT) (i : Nat), cE g S 30 i = .inl (gc g 0, 8, .inl (S.1 30 i)) := fun _ _ _ => rfl
theorem ka_31 : ∀ (g : gT) (S : sT) (i : Nat), cE g S 31 i = .inl (gc g 0, 8, .inl (S.1 31 i)) := fun _ _ _ => rfl
theorem ka_32 : ∀ (g : gT) (S : sT) (i : Nat), cE g S 32 i = .inl (gc g 0, 8, .inl (S.1 32 i)) := fun _ _ _ => rfl
theorem ka_33 : ∀ (g : gT) (S : sT) (i : Nat), cE g S 33 i = .inl (gc g 0, 4, .inl (S.1 33 i)) := fun _ _ _ => rfl
theorem ka_34 : ∀ (g : gT) (S : sT) (i : Nat), cE g S 34 i = .inl (gc g 0, 4, .inl (S.1 34 i)) := fun _ _ _ => rfl
theorem ka_35 : ∀ (g : gT) (S : sT) (i : Nat), cE g S 35 i = .inl (gc g 0, 240, .inl (S.1 35 i)) := fun _ _ _ => rfl
theorem ka_36 : ∀ (g : gT) (S : sT) (i : Nat), cE g S 36 i = .inl (gc g 0, 60, .inl (S.1 36 i)) := fun _ _ _ => rfl
theorem ka_37 : ∀ (g : gT) (S : sT) (i : Nat), cE g S 37 i = .inl (gc g 0, 128, .inl (S.1 37 i)) := fun _ _ _ => rfl
theorem ka_38 : ∀ (g : gT) (S : sT) (i : Nat), cE g S 38 i = .inl (gc g 0, 2, .inl (S.1 38 i)) := fun _ _ _ => rfl
theorem ka_39 : ∀ (g : gT) (S : sT) (i : Nat), cE g S 39 i = .inl (gc g 0, 64, .inl (S.1 39 i)) := fun _ _ _ => rfl
theorem ka_40 : ∀ (g : gT) (S : sT) (i : Nat), cE g S 40 i = .inl (gc g 0, 8, .inl (S.1 40 i)) := fun _ _ _ => rfl
theorem ka_41 : ∀ (g : gT) (S : sT) (i : Nat), cE g S 41 i = .inl (gc g 0, 96, .inl (S.1 41 i)) := fun _ _ _ => rfl
theorem ka_42 : ∀ (g : gT) (S : sT) (i : Nat), cE g S 42 i = .inl (gc g 0, 6, .inl (S.1 42 i)) := fun _ _ _ => rfl
theorem ka_43 : ∀ (g : gT) (S : sT) (i : Nat), cE g S 43 i = .inl (gc g 0, 64, .inl (S.1 43 i)) := fun _ _ _ => rfl
theorem ka_44 : ∀ (g : gT) (S : sT) (i : Nat), cE g S 44 i = .inl (gc g 0, 8, .inl (S.1 44 i)) := fun _ _ _ => rfl
theorem ka_45 : ∀ (g : gT) (S : sT) (i : Nat), cE g S 45 i = .inl (gc g 0, 3, .inl (S.1 45 i)) := fun _ _ _ => rfl
theorem ka_46 : ∀ (g : gT) (S : sT) (i : Nat), cE g S 46 i = .inl (gc g 0, 24, .inl (S.1 46 i)) := fun _ _ _ => rfl
theorem ka_17 : ∀ (g : gT) (S : sT) (i : Nat), cE g S 17 i = .inl (gc g 1, 13, .inr (.inr (.inr (.inr (fun j => some (gad g 9 j)))))) := fun _ _ _ => rfl
theorem ka_25 : ∀ (g : gT) (S : sT) (i : Nat), cE g S 25 i = .inl (gc g 2, 4, .inr (.inr (.inr (.inr (fun j => some (gad g 26 j)))))) := fun _ _ _ => rfl
def NK : Nat := 47
def wTab : List (Nat × Nat) := (List.range NK).flatMap (fun k => (List.range (aN k)).map (fun i => (k, i)))
theorem wTab_in {k i : Nat} (hk : k < NK) (hi : i < aN k) : (k, i) ∈ wTab := List.mem_flatMap.mpr ⟨k, List.mem_range.mpr hk, List.mem_map.mpr ⟨i, List.mem_range.mpr hi, rfl⟩⟩
theorem wTab_of {k i : Nat} (h : (k, i) ∈ wTab) : k < NK ∧ i < aN k := by
  obtain ⟨k', hk, h⟩ := List.mem_flatMap.mp h
  obtain ⟨i', hi, h⟩ := List.mem_map.mp h
  cases h
  exact ⟨List.mem_range.mp hk, List.mem_range.mp hi⟩
theorem wTab_nd : wTab.Nodup := by decide +kernel
def wl (g : gT) (S : sT) : va_W := wTab.map (fun c => (gad g c.1 c.2, cE g S c.1 c.2))
theorem wl_at (g : gT) (S : sT) {q0 k i : Nat} (h : wTab[q0]? = some (k, i)) : (wl g S)[q0]? = some (gad g k i, cE g S k i) := by
  unfold wl; rw [List.getElem?_map, h]; rfl
theorem wl_ex {k i : Nat} (hk : k < NK) (hi : i < aN k) : ∃ q0 : Nat, wTab[q0]? = some (k, i) := by
  obtain ⟨q, hq⟩ := List.getElem?_of_mem (wTab_in hk hi)
  exact ⟨q, hq⟩
theorem wl_set {g : gT} {S S' : sT} {q0 k i : Nat} (h : wTab[q0]? = some (k, i)) (hf : ∀ k' i', k' < NK → i' < aN k' → ¬ (k' = k ∧ i' = i) → cE g S' k' i' = cE g S k' i') : wl g S' = (wl g S).set q0 (gad g k i, cE g S' k i) := by
  have hq : q0 < wTab.length := (List.getElem?_eq_some_iff.mp h).1
  apply List.ext_getElem?
  intro j
  rw [List.getElem?_set]
  by_cases hj : q0 = j
  · subst hj
    rw [if_pos rfl, if_pos (by unfold wl; rw [List.length_map]; exact hq), wl_at g S' h]
  · rw [if_neg hj]
    unfold wl
    rw [List.getElem?_map, List.getElem?_map]
    cases hc : wTab[j]? with
    | none => rfl
    | some c =>
      have hm := List.mem_of_getElem? hc
      have hne : ¬ (c.1 = k ∧ c.2 = i) := fun e => hj ((List.getElem?_inj hq wTab_nd).mp (by rw [h, hc]; exact congrArg some (Prod.ext e.1.symm e.2.symm)))
      show some (gad g c.1 c.2, cE g S' c.1 c.2) = some (gad g c.1 c.2, cE g S c.1 c.2)
      rw [hf c.1 c.2 (wTab_of hm).1 (wTab_of hm).2 hne]
set_option maxRecDepth 20000 in
theorem cE_ext {g : gT} {S S' : sT} {k i : Nat} (h1 : ∀ f, f ∈ dp k → S'.1 f i = S.1 f i) (h2 : k = 6 → S'.2 = S.2) : cE g S' k i = cE g S k i := by
  unfold cE
  unfold dp at h1
  split <;> simp_all
theorem wl_us {g : gT} {S : sT} {q0 k i f b : Nat} {v : Int32} (h : wTab[q0]? = some (k, i)) (ho : ∀ k', k' < NK → f ∈ dp k' → k' = k) : wl g (us S f i b v) = (wl g S).set q0 (gad g k i, cE g (us S f i b v) k i) := by
  refine wl_set h (fun k' i' hk' _ hne => cE_ext (fun f' hf' => ?_) (fun _ => rfl))
  by_cases e : f' = f
  · subst e
    exact us_ni (fun e2 => hne ⟨ho k' hk' hf', e2⟩)
  · exact congrFun (us_ne e) i'
theorem wl_ua {g : gT} {S : sT} {q0 k i f : Nat} {x : Nat → Int32} (h : wTab[q0]? = some (k, i)) (ho : ∀ k', k' < NK → f ∈ dp k' → k' = k) : wl g (ua S f i x) = (wl g S).set q0 (gad g k i, cE g (ua S f i x) k i) := by
  refine wl_set h (fun k' i' hk' _ hne => cE_ext (fun f' hf' => ?_) (fun _ => rfl))
  by_cases e : f' = f
  · subst e
    exact ua_ni (fun e2 => hne ⟨ho k' hk' hf', e2⟩)
  · exact congrFun (ua_ne e) i'

theorem wl_ul {g : gT} {S : sT} {q0 f : Nat} {v : Int64} (h : wTab[q0]? = some (6, 0)) : wl g (ul S f v) = (wl g S).set q0 (gad g 6 0, cE g (ul S f v) 6 0) := by
  refine wl_set h (fun k' i' hk' hi' hne => cE_ext (fun f' hf' => rfl) (fun e => ?_))
  subst e
  exact absurd ⟨rfl, Nat.lt_one_iff.mp hi'⟩ hne
abbrev gtys (g : gT) : List (ClassId × FieldType) := [(gc g 0, .int), (gc g 1, .object "WallTurns$Wall"), (gc g 2, .array .int)]
def mostV (j : Nat) : Int32 := match j with | 0 => 1 | 2 => 9 | 5 => 255 | _ => 16
def ZW (g : gT) (U : State) (H : Heap) : Prop := va_Z "WallTurns$Rules" "MOST" "[I" (.ref (gM g)) (gA g) U H ∧ va_T .int (gM g) 6 (fun j => .int (mostV j)) (gA g) U H
/-- what holds of the tables, of the static row and of the addresses -/
def KW (g : gT) (U : State) (H : Heap) : Prop := va_K (gD g) vwCl (gtys g) U ∧ ZW g U H ∧ ∀ S, va_D (gA g) (wl g S)
def PW (g : gT) (S : sT) (U : State) : Prop := va_P (gD g) vwCl (wl g S) U.heap ∧ KW g U U.heap
theorem KW.to {g : gT} {u U : State} {H H1 : Heap} {locs : List Loc} (hvm : u.vm.Alike U.vm) (h : KW g u H) (hS : va_S (gA g) H H1 locs) : KW g U H1 :=
  ⟨va_K.moved hvm h.1, ⟨(va_Z.moved hvm h.2.1.1).kept hS.2.1, (va_T.moved hvm h.2.1.2).kept hS.2.1⟩, h.2.2⟩
theorem va_S.ofF {A : Nat → Prop} {st t : State} (h : va_F A st t) : va_S A st.heap t.heap [] := ⟨h.1, h.2, fun _ h => by cases h⟩
def QR (g : gT) (v : Option Value) (S' : sT) : Array Value → State → Outcome → State → Prop := fun _ st oc t => oc = .returned v ∧ PW g S' t ∧ va_F (gA g) st t
def rmL (n : Nat) : Room := { frames := n, cells := 0, slots := 0, locals := 60 * n }
def MF (l : Launch) (y : MethodName) (b : ByteArray) (n : Nat) (ret : Option FieldType) (k : Nat) (g : gT) (vs : List Value) (S : sT) (v : Option Value) (S' : sT) : Prop :=
  Met l y (.code y b n ret :: WL) (rmL k) (va_Pc vs (PW g S)) (QR g v S') 0 0 (gA g)
def rv (g : gT) (k : Nat) (r : Option Nat) : Value := match r with | none => .null | some w => .ref (gad g k w)
def ck {α : Type} (b : Bool) (k : Option α) : Option α := match b with | true => k | false => none
theorem ck_e {α : Type} {b : Bool} {k : Option α} {o : α} (h : ck b k = some o) : b = true ∧ k = some o := by
  cases b with
  | true => exact ⟨rfl, h⟩
  | false => cases h
def lt {α β : Type} (a : α) (k : α → β) : β := k a
theorem lt_e {α β : Type} {a x : α} {k : α → β} {o : β} (h : lt a k = o) (e : x = a) : k x = o := by subst e; exact h
def bn {α β : Type} (x : Option α) (k : α → Option β) : Option β := match x with | some a => k a | none => none
theorem bn_e {α β : Type} {x : Option α} {k : α → Option β} {o : β} (h : bn x k = some o) : ∃ a, x = some a ∧ k a = some o := by
  cases x with
  | some a => exact ⟨a, rfl, h⟩
  | none => cases h
theorem if_t {c : Prop} [Decidable c] {α : Type} {a b : α} {o : α} (h : (if c then a else b) = o) (hc : c) : a = o := by rw [if_pos hc] at h; exact h
theorem if_f {c : Prop} [Decidable c] {α : Type} {a b : α} {o : α} (h : (if c then a else b) = o) (hc : ¬ c) : b = o := by rw [if_neg hc] at h; exact h
def nl {α : Type} (r : Option Nat) (a : α) (f : Nat → α) : α := match r with | none => a | some w => f w
theorem nl_n {α : Type} {a : α} {f : Nat → α} {o : α} (h : nl none a f = o) : a = o := h
theorem nl_s {α : Type} {w : Nat} {a : α} {f : Nat → α} {o : α} (h : nl (some w) a f = o) : f w = o := h
def jn {α β : Type} (k : α) (b : α → β) : β := b k
theorem jn_e {α β : Type} {k : α} {b : α → β} {o : β} (h : jn k b = o) : ∃ j, j = k ∧ b j = o := ⟨k, rfl, h⟩
def bn2 {α β γ : Type} (x : Option (α × β)) (k : α → β → Option γ) : Option γ := match x with | some a => k a.1 a.2 | none => none
theorem bn2_e {α β γ : Type} {x : Option (α × β)} {k : α → β → Option γ} {o : γ} (h : bn2 x k = some o) : ∃ a b, x = some (a, b) ∧ k a b = some o := by
  cases x with
  | some a => exact ⟨a.1, a.2, rfl, h⟩
  | none => cases h
def itr {σ ρ : Type} (step : σ → (σ → Option ρ) → Option ρ) : Nat → σ → Option ρ
  | 0, _ => none
  | n + 1, s => step s (itr step n)
def FU : Nat := 100000
def vi (i : Int32) (n : Nat) : Bool := !(decide (i < 0)) && decide (i.toNatClampNeg < n)
theorem vi_in {i : Int32} {n : Nat} (h : vi i n = true) : vp_in i n := by
  simp [vi] at h
  intro q
  rcases q with q | q
  · exact absurd q (by simpa using h.1)
  · omega
theorem vi_lt {i : Int32} {n : Nat} (h : vi i n = true) : i.toNatClampNeg < n := by
  simp [vi] at h
  exact h.2
theorem vi_nn {i : Int32} {n : Nat} (h : vi i n = true) : ¬ i < 0 := by
  simp [vi] at h
  simpa using h.1
def vz (v : Int32) : Bool := decide (v = 0) || decide (v = 1)
theorem vz_n {v : Int32} (h : vz v = true) : narrow .boolean (.int v) = .int v := by
  simp [vz] at h
  rcases h with h | h <;> subst h <;> rfl
def nz (v : Int32) : Bool := !(decide (v = 0))
theorem nz_e {v : Int32} (h : nz v = true) : ¬ v = 0 := by simpa [nz] using h
def nzl (v : Int64) : Bool := !(decide (v = 0))
theorem nzl_e {v : Int64} (h : nzl v = true) : ¬ v = 0 := by simpa [nzl] using h
/-- a negative row, a range of it: what arraycopy asks -/
def vc (sp n : Int32) (N : Nat) : Bool := !(decide (sp < 0)) && !(decide (n < 0)) && decide (sp.toNatClampNeg + n.toNatClampNeg ≤ N)
theorem vc_e {sp n : Int32} {N : Nat} (h : vc sp n N = true) : ¬ sp < 0 ∧ ¬ n < 0 ∧ sp.toNatClampNeg + n.toNatClampNeg ≤ N := by
  simp [vc] at h
  exact ⟨by simpa using h.1.1, by simpa using h.1.2, h.2⟩
section FW
variable {p : Program} {l : Launch} {e : Env} {R : Room} {s : State} {m : MethodId} {args : Array Value} {below : List Frame} {meth : Method} {c : Code} {H : Heap} {locs : List Loc} {cells slots : Nat} {Q : State → Prop}
variable {cc : ByteArray} {nL : Nat} {own : String} {g : gT} {S : sT} {pc : Nat} {ls : Array Slot} {rest : List Value}
/-- what holds all through a method's walk -/
def Cx (p : Program) (s : State) (m : MethodId) (args : Array Value) (meth : Method) (c : Code) (cc : ByteArray) (nL : Nat) (own : String) (g : gT) : Prop :=
  p.tables.exec = Jvm.exec ∧ c.code = cc ∧ c.maxLocals = nL ∧ s.vm.findClass own = some m.cls ∧ (∀ w ∈ WL, w.before args s = true) ∧ meth.locks = false ∧ KW g s s.heap
/-- the heap holds the state S; nothing outside the world has changed since the start -/
def Hp (g : gT) (s : State) (S : sT) (H : Heap) (locs : List Loc) : Prop := va_P (gD g) vwCl (wl g S) H ∧ va_S (gA g) s.heap H locs
theorem Cx.x (C : Cx p s m args meth c cc nL own g) : p.tables.exec = Jvm.exec := And.left C
theorem Cx.b (C : Cx p s m args meth c cc nL own g) : c.code = cc := (And.right C).1
theorem Cx.w (C : Cx p s m args meth c cc nL own g) {w : Cond} (h : w ∈ WL) : w.before args s = true := (And.right C).2.2.2.1 w h
theorem Cx.o (C : Cx p s m args meth c cc nL own g) : s.vm.findClass own = some m.cls := (And.right C).2.2.1

theorem gf_X10_14 (C : Cx p s m args meth c cc nL RX10 g) (hH : Hp g s S H locs) (hdg : decode cc pc = .ok (.getfield 14, 3)) (kk : W p l e R s m args below meth c H locs cells slots Q (F0 m (pc + 3) ls (.ref (gad g 1 0) :: rest))) : W p l e R s m args below meth c H locs cells slots Q (F0 m pc ls (.ref (gad g 0 0) :: rest)) := by
  obtain ⟨hx, hb, hml, hown, hts, hlk, hK, -⟩ := C
  obtain ⟨q0, hq⟩ := wl_ex (k := 0) (i := 0) (by decide) (by decide)
  exact va_get hx hb hts inlX10 hown hK hH.1 q0 (wl_at g S hq) (ci := 9) (C := RX10) (T := TX10) (N := 11) rfl 0 (by decide) (hts _ q15) (fun _ h9 => h9) rfl hdg kk
theorem gf_X10_18 (C : Cx p s m args meth c cc nL RX10 g) (hH : Hp g s S H locs) (hdg : decode cc pc = .ok (.getfield 18, 3)) (kk : W p l e R s m args below meth c H locs cells slots Q (F0 m (pc + 3) ls (.ref (gad g 1 1) :: rest))) : W p l e R s m args below meth c H locs cells slots Q (F0 m pc ls (.ref (gad g 0 0) :: rest)) := by
  obtain ⟨hx, hb, hml, hown, hts, hlk, hK, -⟩ := C
  obtain ⟨q0, hq⟩ := wl_ex (k := 0) (i := 0) (by decide) (by decide)
  exact va_get hx hb hts inlX10 hown hK hH.1 q0 (wl_at g S hq) (ci := 9) (C := RX10) (T := TX10) (N := 11) rfl 1 (by decide) (hts _ q16) (fun _ h9 => h9) rfl hdg kk
theorem gf_X10_24 (C : Cx p s m args meth c cc nL RX10 g) (hH : Hp g s S H locs) (hdg : decode cc pc = .ok (.getfield 24, 3)) (kk : W p l e R s m args below meth c H locs cells slots Q (F0 m (pc + 3) ls (.ref (gad g 2 0) :: rest))) : W p l e R s m args below meth c H locs cells slots Q (F0 m pc ls (.ref (gad g 0 0) :: rest)) := by
  obtain ⟨hx, hb, hml, hown, hts, hlk, hK, -⟩ := C
  obtain ⟨q0, hq⟩ := wl_ex (k := 0) (i := 0) (by decide) (by decide)
  exact va_get hx hb hts inlX10 hown hK hH.1 q0 (wl_at g S hq) (ci := 9) (C := RX10) (T := TX10) (N := 11) rfl 2 (by decide) (hts _ q20) (fun _ h9 => h9) rfl hdg kk
theorem gf_X10_31 (C : Cx p s m args meth c cc nL RX10 g) (hH : Hp g s S H locs) (hdg : decode cc pc = .ok (.getfield 31, 3)) (kk : W p l e R s m args below meth c H locs cells slots Q (F0 m (pc + 3) ls (.ref (gad g 3 0) :: rest))) : W p l e R s m args below meth c H locs cells slots Q (F0 m pc ls (.ref (gad g 0 0) :: rest)) := by
  obtain ⟨hx, hb, hml, hown, hts, hlk, hK, -⟩ := C
  obtain ⟨q0, hq⟩ := wl_ex (k := 0) (i := 0) (by decide) (by decide)
  exact va_get hx hb hts inlX10 hown hK hH.1 q0 (wl_at g S hq) (ci := 9) (C := RX10) (T := TX10) (N := 11) rfl 3 (by decide) (hts _ q24) (fun _ h9 => h9) rfl hdg kk
theorem gf_X10_38 (C : Cx p s m args meth c cc nL RX10 g) (hH : Hp g s S H locs) (hdg : decode cc pc = .ok (.getfield 38, 3)) (kk : W p l e R s m args below meth c H locs cells slots Q (F0 m (pc + 3) ls (.ref (gad g 4 0) :: rest))) : W p l e R s m args below meth c H locs cells slots Q (F0 m pc ls (.ref (gad g 0 0) :: rest)) := by
  obtain ⟨hx, hb, hml, hown, hts, hlk, hK, -⟩ := C
  obtain ⟨q0, hq⟩ := wl_ex (k := 0) (i := 0) (by decide) (by decide)
  exact va_get hx hb hts inlX10 hown hK hH.1 q0 (wl_at g S hq) (ci := 9) (C := RX10) (T := TX10) (N := 11) rfl 4 (by decide) (hts _ q28) (fun _ h9 => h9) rfl hdg kk
theorem gf_X10_45 (C : Cx p s m args meth c cc nL RX10 g) (hH : Hp g s S H locs) (hdg : decode cc pc = .ok (.getfield 45, 3)) (kk : W p l e R s m args below meth c H locs cells slots Q (F0 m (pc + 3) ls (.ref (gad g 5 0) :: rest))) : W p l e R s m args below meth c H locs cells slots Q (F0 m pc ls (.ref (gad g 0 0) :: rest)) := by
  obtain ⟨hx, hb, hml, hown, hts, hlk, hK, -⟩ := C
  obtain ⟨q0, hq⟩ := wl_ex (k := 0) (i := 0) (by decide) (by decide)
  exact va_get hx hb hts inlX10 hown hK hH.1 q0 (wl_at g S hq) (ci := 9) (C := RX10) (T := TX10) (N := 11) rfl 5 (by decide) (hts _ q32) (fun _ h9 => h9) rfl hdg kk
theorem gf_X10_52 (C : Cx p s m args meth c cc nL RX10 g) (hH : Hp g s S H locs) (hdg : decode cc pc = .ok (.getfield 52, 3)) (kk : W p l e R s m args below meth c H locs cells slots Q (F0 m (pc + 3) ls (.ref (gad g 6 0) :: rest))) : W p l e R s m args below meth c H locs cells slots Q (F0 m pc ls (.ref (gad g 0 0) :: rest)) := by
  obtain ⟨hx, hb, hml, hown, hts, hlk, hK, -⟩ := C
  obtain ⟨q0, hq⟩ := wl_ex (k := 0) (i := 0) (by decide) (by decide)
  exact va_get hx hb hts inlX10 hown hK hH.1 q0 (wl_at g S hq) (ci := 9) (C := RX10) (T := TX10) (N := 11) rfl 6 (by decide) (hts _ q36) (fun _ h9 => h9) rfl hdg kk
theorem gf_X10_59 (C : Cx p s m args meth c cc nL RX10 g) (hH : Hp g s S H locs) (hdg : decode cc pc = .ok (.getfield 59, 3)) (kk : W p l e R s m args below meth c H locs cells slots Q (F0 m (pc + 3) ls (.ref (gad g 7 0) :: rest))) : W p l e R s m args below meth c H locs cells slots Q (F0 m pc ls (.ref (gad g 0 0) :: rest)) := by
  obtain ⟨hx, hb, hml, hown, hts, hlk, hK, -⟩ := C
  obtain ⟨q0, hq⟩ := wl_ex (k := 0) (i := 0) (by decide) (by decide)
  exact va_get hx hb hts inlX10 hown hK hH.1 q0 (wl_at g S hq) (ci := 9) (C := RX10) (T := TX10) (N := 11) rfl 7 (by decide) (hts _ q40) (fun _ h9 => h9) rfl hdg kk
theorem gf_X10_66 (C : Cx p s m args meth c cc nL RX10 g) (hH : Hp g s S H locs) (hdg : decode cc pc = .ok (.getfield 66, 3)) (kk : W p l e R s m args below meth c H locs cells slots Q (F0 m (pc + 3) ls (.ref (gad g 8 0) :: rest))) : W p l e R s m args below meth c H locs cells slots Q (F0 m pc ls (.ref (gad g 0 0) :: rest)) := by
  obtain ⟨hx, hb, hml, hown, hts, hlk, hK, -⟩ := C
  obtain ⟨q0, hq⟩ := wl_ex (k := 0) (i := 0) (by decide) (by decide)
  exact va_get hx hb hts inlX10 hown hK hH.1 q0 (wl_at g S hq) (ci := 9) (C := RX10) (T := TX10) (N := 11) rfl 8 (by decide) (hts _ q44) (fun _ h9 => h9) rfl hdg kk
theorem gf_X10_70 (C : Cx p s m args meth c cc nL RX10 g) (hH : Hp g s S H locs) (hdg : decode cc pc = .ok (.getfield 70, 3)) (kk : W p l e R s m args below meth c H locs cells slots Q (F0 m (pc + 3) ls (.int (S.1 100 0 0) :: rest))) : W p l e R s m args below meth c H locs cells slots Q (F0 m pc ls (.ref (gad g 0 0) :: rest)) := by
  obtain ⟨hx, hb, hml, hown, hts, hlk, hK, -⟩ := C
  obtain ⟨q0, hq⟩ := wl_ex (k := 0) (i := 0) (by decide) (by decide)
  exact va_get hx hb hts inlX10 hown hK hH.1 q0 (wl_at g S hq) (ci := 9) (C := RX10) (T := TX10) (N := 11) rfl 9 (by decide) (hts _ q45) (fun _ h9 => h9) rfl hdg kk
theorem pf_X10_70 (C : Cx p s m args meth c cc nL RX10 g) (hH : Hp g s S H locs) {v : Int32} (hdg : decode cc pc = .ok (.putfield 70, 3)) (kk : ∀ (S1 : sT) (H1 : Heap) (locs1 : List Loc), S1 = us S 100 0 0 v → Hp g s S1 H1 locs1 → W p l e R s m args below meth c H1 locs1 cells slots Q (F0 m (pc + 3) ls rest)) : W p l e R s m args below meth c H locs cells slots Q (F0 m pc ls (.int v :: .ref (gad g 0 0) :: rest)) := by
  obtain ⟨hx, hb, hml, hown, hts, hlk, hK, -, hD⟩ := C
  obtain ⟨q0, hq⟩ := wl_ex (k := 0) (i := 0) (by decide) (by decide)
  refine va_put hx hb hts inlX10 tyX10 tyX10_ok nmX10 hown hK hH.1 (hD S) hH.2 q0 (wl_at g S hq) (ci := 9) (C := RX10) (T := TX10) (N := 11) rfl 9 (by decide) (hts _ q45) (fun _ h9 => h9) rfl (ty := .int) (by decide +kernel) rfl rfl (Nat.le_of_ble_eq_true rfl) hdg (fun H1 locs1 hP1 _ hS1 => kk _ H1 locs1 rfl ⟨?_, hS1⟩)
  rw [wl_us hq (by decide +kernel)]
  have e : cE g (us S 100 0 0 v) 0 0 = .inr (9, [.ref (gad g 1 0), .ref (gad g 1 1), .ref (gad g 2 0), .ref (gad g 3 0), .ref (gad g 4 0), .ref (gad g 5 0), .ref (gad g 6 0), .ref (gad g 7 0), .ref (gad g 8 0), .int v, .int (S.1 101 0 0)]) := by simp [cE, us_same, us_ne, us_2]
  rw [e]
  exact hP1
theorem gf_X10_74 (C : Cx p s m args meth c cc nL RX10 g) (hH : Hp g s S H locs) (hdg : decode cc pc = .ok (.getfield 74, 3)) (kk : W p l e R s m args below meth c H locs cells slots Q (F0 m (pc + 3) ls (.int (S.1 101 0 0) :: rest))) : W p l e R s m args below meth c H locs cells slots Q (F0 m pc ls (.ref (gad g 0 0) :: rest)) := by
  obtain ⟨hx, hb, hml, hown, hts, hlk, hK, -⟩ := C
  obtain ⟨q0, hq⟩ := wl_ex (k := 0) (i := 0) (by decide) (by decide)
  exact va_get hx hb hts inlX10 hown hK hH.1 q0 (wl_at g S hq) (ci := 9) (C := RX10) (T := TX10) (N := 11) rfl 10 (by decide) (hts _ q46) (fun _ h9 => h9) rfl hdg kk
theorem pf_X10_74 (C : Cx p s m args meth c cc nL RX10 g) (hH : Hp g s S H locs) {v : Int32} (hdg : decode cc pc = .ok (.putfield 74, 3)) (kk : ∀ (S1 : sT) (H1 : Heap) (locs1 : List Loc), S1 = us S 101 0 0 v → Hp g s S1 H1 locs1 → W p l e R s m args below meth c H1 locs1 cells slots Q (F0 m (pc + 3) ls rest)) : W p l e R s m args below meth c H locs cells slots Q (F0 m pc ls (.int v :: .ref (gad g 0 0) :: rest)) := by
  obtain ⟨hx, hb, hml, hown, hts, hlk, hK, -, hD⟩ := C
  obtain ⟨q0, hq⟩ := wl_ex (k := 0) (i := 0) (by decide) (by decide)
  refine va_put hx hb hts inlX10 tyX10 tyX10_ok nmX10 hown hK hH.1 (hD S) hH.2 q0 (wl_at g S hq) (ci := 9) (C := RX10) (T := TX10) (N := 11) rfl 10 (by decide) (hts _ q46) (fun _ h9 => h9) rfl (ty := .int) (by decide +kernel) rfl rfl (Nat.le_of_ble_eq_true rfl) hdg (fun H1 locs1 hP1 _ hS1 => kk _ H1 locs1 rfl ⟨?_, hS1⟩)
  rw [wl_us hq (by decide +kernel)]
  have e : cE g (us S 101 0 0 v) 0 0 = .inr (9, [.ref (gad g 1 0), .ref (gad g 1 1), .ref (gad g 2 0), .ref (gad g 3 0), .ref (gad g 4 0), .ref (gad g 5 0), .ref (gad g 6 0), .ref (gad g 7 0), .ref (gad g 8 0), .int (S.1 100 0 0), .int v]) := by simp [cE, us_same, us_ne, us_2]
  rw [e]
  exact hP1
theorem gf_X8_9 (C : Cx p s m args meth c cc nL RX8 g) (hH : Hp g s S H locs) {i : Nat} (hi : i < 2) (hdg : decode cc pc = .ok (.getfield 9, 3)) (kk : W p l e R s m args below meth c H locs cells slots Q (F0 m (pc + 3) ls (.ref (gad g 11 i) :: rest))) : W p l e R s m args below meth c H locs cells slots Q (F0 m pc ls (.ref (gad g 1 i) :: rest)) := by
  obtain ⟨hx, hb, hml, hown, hts, hlk, hK, -⟩ := C
  obtain ⟨q0, hq⟩ := wl_ex (k := 1) (i := i) (by decide) hi
  exact va_get hx hb hts inlX8 hown hK hH.1 q0 (wl_at g S hq) (ci := 7) (C := RX8) (T := TX8) (N := 3) rfl 0 (by decide) (hts _ q52) (fun _ h9 => h9) rfl hdg kk
theorem gf_X8_15 (C : Cx p s m args meth c cc nL RX8 g) (hH : Hp g s S H locs) {i : Nat} (hi : i < 2) (hdg : decode cc pc = .ok (.getfield 15, 3)) (kk : W p l e R s m args below meth c H locs cells slots Q (F0 m (pc + 3) ls (.int (S.1 103 i 0) :: rest))) : W p l e R s m args below meth c H locs cells slots Q (F0 m pc ls (.ref (gad g 1 i) :: rest)) := by
  obtain ⟨hx, hb, hml, hown, hts, hlk, hK, -⟩ := C
  obtain ⟨q0, hq⟩ := wl_ex (k := 1) (i := i) (by decide) hi
  exact va_get hx hb hts inlX8 hown hK hH.1 q0 (wl_at g S hq) (ci := 7) (C := RX8) (T := TX8) (N := 3) rfl 2 (by decide) (hts _ q53) (fun _ h9 => h9) rfl hdg kk
theorem pf_X8_15 (C : Cx p s m args meth c cc nL RX8 g) (hH : Hp g s S H locs) {i : Nat} (hi : i < 2) {v : Int32} (hdg : decode cc pc = .ok (.putfield 15, 3)) (kk : ∀ (S1 : sT) (H1 : Heap) (locs1 : List Loc), S1 = us S 103 i 0 v → Hp g s S1 H1 locs1 → W p l e R s m args below meth c H1 locs1 cells slots Q (F0 m (pc + 3) ls rest)) : W p l e R s m args below meth c H locs cells slots Q (F0 m pc ls (.int v :: .ref (gad g 1 i) :: rest)) := by
  obtain ⟨hx, hb, hml, hown, hts, hlk, hK, -, hD⟩ := C
  obtain ⟨q0, hq⟩ := wl_ex (k := 1) (i := i) (by decide) hi
  refine va_put hx hb hts inlX8 tyX8 tyX8_ok nmX8 hown hK hH.1 (hD S) hH.2 q0 (wl_at g S hq) (ci := 7) (C := RX8) (T := TX8) (N := 3) rfl 2 (by decide) (hts _ q53) (fun _ h9 => h9) rfl (ty := .int) (by decide +kernel) rfl rfl (Nat.le_of_ble_eq_true rfl) hdg (fun H1 locs1 hP1 _ hS1 => kk _ H1 locs1 rfl ⟨?_, hS1⟩)
  rw [wl_us hq (by decide +kernel)]
  have e : cE g (us S 103 i 0 v) 1 i = .inr (7, [.ref (gad g 11 i), .int (S.1 102 i 0), .int v]) := by simp [cE, us_same, us_ne, us_2]
  rw [e]
  exact hP1
theorem gf_X8_25 (C : Cx p s m args meth c cc nL RX8 g) (hH : Hp g s S H locs) {i : Nat} (hi : i < 2) (hdg : decode cc pc = .ok (.getfield 25, 3)) (kk : W p l e R s m args below meth c H locs cells slots Q (F0 m (pc + 3) ls (.int (S.1 102 i 0) :: rest))) : W p l e R s m args below meth c H locs cells slots Q (F0 m pc ls (.ref (gad g 1 i) :: rest)) := by
  obtain ⟨hx, hb, hml, hown, hts, hlk, hK, -⟩ := C
  obtain ⟨q0, hq⟩ := wl_ex (k := 1) (i := i) (by decide) hi
  exact va_get hx hb hts inlX8 hown hK hH.1 q0 (wl_at g S hq) (ci := 7) (C := RX8) (T := TX8) (N := 3) rfl 1 (by decide) (hts _ q58) (fun _ h9 => h9) rfl hdg kk
theorem gf_X3_7 (C : Cx p s m args meth c cc nL RX3 g) (hH : Hp g s S H locs) (hdg : decode cc pc = .ok (.getfield 7, 3)) (kk : W p l e R s m args below meth c H locs cells slots Q (F0 m (pc + 3) ls (.ref (gad g 12 0) :: rest))) : W p l e R s m args below meth c H locs cells slots Q (F0 m pc ls (.ref (gad g 2 0) :: rest)) := by
  obtain ⟨hx, hb, hml, hown, hts, hlk, hK, -⟩ := C
  obtain ⟨q0, hq⟩ := wl_ex (k := 2) (i := 0) (by decide) (by decide)
  exact va_get hx hb hts inlX3 hown hK hH.1 q0 (wl_at g S hq) (ci := 3) (C := RX3) (T := TX3) (N := 1) rfl 0 (by decide) (hts _ q62) (fun _ h9 => h9) rfl hdg kk
theorem gf_X4_9 (C : Cx p s m args meth c cc nL RX4 g) (hH : Hp g s S H locs) (hdg : decode cc pc = .ok (.getfield 9, 3)) (kk : W p l e R s m args below meth c H locs cells slots Q (F0 m (pc + 3) ls (.ref (gad g 13 0) :: rest))) : W p l e R s m args below meth c H locs cells slots Q (F0 m pc ls (.ref (gad g 3 0) :: rest)) := by
  obtain ⟨hx, hb, hml, hown, hts, hlk, hK, -⟩ := C
  obtain ⟨q0, hq⟩ := wl_ex (k := 3) (i := 0) (by decide) (by decide)
  exact va_get hx hb hts inlX4 hown hK hH.1 q0 (wl_at g S hq) (ci := 4) (C := RX4) (T := TX4) (N := 5) rfl 0 (by decide) (hts _ q66) (fun _ h9 => h9) rfl hdg kk
theorem gf_X4_15 (C : Cx p s m args meth c cc nL RX4 g) (hH : Hp g s S H locs) (hdg : decode cc pc = .ok (.getfield 15, 3)) (kk : W p l e R s m args below meth c H locs cells slots Q (F0 m (pc + 3) ls (.ref (gad g 14 0) :: rest))) : W p l e R s m args below meth c H locs cells slots Q (F0 m pc ls (.ref (gad g 3 0) :: rest)) := by
  obtain ⟨hx, hb, hml, hown, hts, hlk, hK, -⟩ := C
  obtain ⟨q0, hq⟩ := wl_ex (k := 3) (i := 0) (by decide) (by decide)
  exact va_get hx hb hts inlX4 hown hK hH.1 q0 (wl_at g S hq) (ci := 4) (C := RX4) (T := TX4) (N := 5) rfl 1 (by decide) (hts _ q67) (fun _ h9 => h9) rfl hdg kk
theorem gf_X4_18 (C : Cx p s m args meth c cc nL RX4 g) (hH : Hp g s S H locs) (hdg : decode cc pc = .ok (.getfield 18, 3)) (kk : W p l e R s m args below meth c H locs cells slots Q (F0 m (pc + 3) ls (.ref (gad g 15 0) :: rest))) : W p l e R s m args below meth c H locs cells slots Q (F0 m pc ls (.ref (gad g 3 0) :: rest)) := by
  obtain ⟨hx, hb, hml, hown, hts, hlk, hK, -⟩ := C
  obtain ⟨q0, hq⟩ := wl_ex (k := 3) (i := 0) (by decide) (by decide)
  exact va_get hx hb hts inlX4 hown hK hH.1 q0 (wl_at g S hq) (ci := 4) (C := RX4) (T := TX4) (N := 5) rfl 2 (by decide) (hts _ q68) (fun _ h9 => h9) rfl hdg kk
theorem gf_X4_21 (C : Cx p s m args meth c cc nL RX4 g) (hH : Hp g s S H locs) (hdg : decode cc pc = .ok (.getfield 21, 3)) (kk : W p l e R s m args below meth c H locs cells slots Q (F0 m (pc + 3) ls (.ref (gad g 16 0) :: rest))) : W p l e R s m args below meth c H locs cells slots Q (F0 m pc ls (.ref (gad g 3 0) :: rest)) := by
  obtain ⟨hx, hb, hml, hown, hts, hlk, hK, -⟩ := C
  obtain ⟨q0, hq⟩ := wl_ex (k := 3) (i := 0) (by decide) (by decide)
  exact va_get hx hb hts inlX4 hown hK hH.1 q0 (wl_at g S hq) (ci := 4) (C := RX4) (T := TX4) (N := 5) rfl 3 (by decide) (hts _ q69) (fun _ h9 => h9) rfl hdg kk
theorem gf_X4_24 (C : Cx p s m args meth c cc nL RX4 g) (hH : Hp g s S H locs) (hdg : decode cc pc = .ok (.getfield 24, 3)) (kk : W p l e R s m args below meth c H locs cells slots Q (F0 m (pc + 3) ls (.int (S.1 104 0 0) :: rest))) : W p l e R s m args below meth c H locs cells slots Q (F0 m pc ls (.ref (gad g 3 0) :: rest)) := by
  obtain ⟨hx, hb, hml, hown, hts, hlk, hK, -⟩ := C
  obtain ⟨q0, hq⟩ := wl_ex (k := 3) (i := 0) (by decide) (by decide)
  exact va_get hx hb hts inlX4 hown hK hH.1 q0 (wl_at g S hq) (ci := 4) (C := RX4) (T := TX4) (N := 5) rfl 4 (by decide) (hts _ q70) (fun _ h9 => h9) rfl hdg kk
theorem pf_X4_24 (C : Cx p s m args meth c cc nL RX4 g) (hH : Hp g s S H locs) {v : Int32} (hdg : decode cc pc = .ok (.putfield 24, 3)) (kk : ∀ (S1 : sT) (H1 : Heap) (locs1 : List Loc), S1 = us S 104 0 0 v → Hp g s S1 H1 locs1 → W p l e R s m args below meth c H1 locs1 cells slots Q (F0 m (pc + 3) ls rest)) : W p l e R s m args below meth c H locs cells slots Q (F0 m pc ls (.int v :: .ref (gad g 3 0) :: rest)) := by
  obtain ⟨hx, hb, hml, hown, hts, hlk, hK, -, hD⟩ := C
  obtain ⟨q0, hq⟩ := wl_ex (k := 3) (i := 0) (by decide) (by decide)
  refine va_put hx hb hts inlX4 tyX4 tyX4_ok nmX4 hown hK hH.1 (hD S) hH.2 q0 (wl_at g S hq) (ci := 4) (C := RX4) (T := TX4) (N := 5) rfl 4 (by decide) (hts _ q70) (fun _ h9 => h9) rfl (ty := .int) (by decide +kernel) rfl rfl (Nat.le_of_ble_eq_true rfl) hdg (fun H1 locs1 hP1 _ hS1 => kk _ H1 locs1 rfl ⟨?_, hS1⟩)
  rw [wl_us hq (by decide +kernel)]
  have e : cE g (us S 104 0 0 v) 3 0 = .inr (4, [.ref (gad g 13 0), .ref (gad g 14 0), .ref (gad g 15 0), .ref (gad g 16 0), .int v]) := by simp [cE, us_same, us_ne, us_2]
  rw [e]
  exact hP1
theorem gf_X1_11 (C : Cx p s m args meth c cc nL RX1 g) (hH : Hp g s S H locs) (hdg : decode cc pc = .ok (.getfield 11, 3)) (kk : W p l e R s m args below meth c H locs cells slots Q (F0 m (pc + 3) ls (.ref (gad g 17 0) :: rest))) : W p l e R s m args below meth c H locs cells slots Q (F0 m pc ls (.ref (gad g 4 0) :: rest)) := by
  obtain ⟨hx, hb, hml, hown, hts, hlk, hK, -⟩ := C
  obtain ⟨q0, hq⟩ := wl_ex (k := 4) (i := 0) (by decide) (by decide)
  exact va_get hx hb hts inlX1 hown hK hH.1 q0 (wl_at g S hq) (ci := 1) (C := RX1) (T := TX1) (N := 5) rfl 0 (by decide) (hts _ q76) (fun _ h9 => h9) rfl hdg kk
theorem gf_X1_17 (C : Cx p s m args meth c cc nL RX1 g) (hH : Hp g s S H locs) (hdg : decode cc pc = .ok (.getfield 17, 3)) (kk : W p l e R s m args below meth c H locs cells slots Q (F0 m (pc + 3) ls (.ref (gad g 18 0) :: rest))) : W p l e R s m args below meth c H locs cells slots Q (F0 m pc ls (.ref (gad g 4 0) :: rest)) := by
  obtain ⟨hx, hb, hml, hown, hts, hlk, hK, -⟩ := C
  obtain ⟨q0, hq⟩ := wl_ex (k := 4) (i := 0) (by decide) (by decide)
  exact va_get hx hb hts inlX1 hown hK hH.1 q0 (wl_at g S hq) (ci := 1) (C := RX1) (T := TX1) (N := 5) rfl 1 (by decide) (hts _ q77) (fun _ h9 => h9) rfl hdg kk
theorem gf_X1_21 (C : Cx p s m args meth c cc nL RX1 g) (hH : Hp g s S H locs) (hdg : decode cc pc = .ok (.getfield 21, 3)) (kk : W p l e R s m args below meth c H locs cells slots Q (F0 m (pc + 3) ls (.ref (gad g 19 0) :: rest))) : W p l e R s m args below meth c H locs cells slots Q (F0 m pc ls (.ref (gad g 4 0) :: rest)) := by
  obtain ⟨hx, hb, hml, hown, hts, hlk, hK, -⟩ := C
  obtain ⟨q0, hq⟩ := wl_ex (k := 4) (i := 0) (by decide) (by decide)
  exact va_get hx hb hts inlX1 hown hK hH.1 q0 (wl_at g S hq) (ci := 1) (C := RX1) (T := TX1) (N := 5) rfl 2 (by decide) (hts _ q78) (fun _ h9 => h9) rfl hdg kk
theorem gf_X1_25 (C : Cx p s m args meth c cc nL RX1 g) (hH : Hp g s S H locs) (hdg : decode cc pc = .ok (.getfield 25, 3)) (kk : W p l e R s m args below meth c H locs cells slots Q (F0 m (pc + 3) ls (.ref (gad g 9 13) :: rest))) : W p l e R s m args below meth c H locs cells slots Q (F0 m pc ls (.ref (gad g 4 0) :: rest)) := by
  obtain ⟨hx, hb, hml, hown, hts, hlk, hK, -⟩ := C
  obtain ⟨q0, hq⟩ := wl_ex (k := 4) (i := 0) (by decide) (by decide)
  exact va_get hx hb hts inlX1 hown hK hH.1 q0 (wl_at g S hq) (ci := 1) (C := RX1) (T := TX1) (N := 5) rfl 3 (by decide) (hts _ q81) (fun _ h9 => h9) rfl hdg kk
theorem gf_X1_29 (C : Cx p s m args meth c cc nL RX1 g) (hH : Hp g s S H locs) (hdg : decode cc pc = .ok (.getfield 29, 3)) (kk : W p l e R s m args below meth c H locs cells slots Q (F0 m (pc + 3) ls (.int (S.1 105 0 0) :: rest))) : W p l e R s m args below meth c H locs cells slots Q (F0 m pc ls (.ref (gad g 4 0) :: rest)) := by
  obtain ⟨hx, hb, hml, hown, hts, hlk, hK, -⟩ := C
  obtain ⟨q0, hq⟩ := wl_ex (k := 4) (i := 0) (by decide) (by decide)
  exact va_get hx hb hts inlX1 hown hK hH.1 q0 (wl_at g S hq) (ci := 1) (C := RX1) (T := TX1) (N := 5) rfl 4 (by decide) (hts _ q82) (fun _ h9 => h9) rfl hdg kk
theorem pf_X1_29 (C : Cx p s m args meth c cc nL RX1 g) (hH : Hp g s S H locs) {v : Int32} (hdg : decode cc pc = .ok (.putfield 29, 3)) (kk : ∀ (S1 : sT) (H1 : Heap) (locs1 : List Loc), S1 = us S 105 0 0 v → Hp g s S1 H1 locs1 → W p l e R s m args below meth c H1 locs1 cells slots Q (F0 m (pc + 3) ls rest)) : W p l e R s m args below meth c H locs cells slots Q (F0 m pc ls (.int v :: .ref (gad g 4 0) :: rest)) := by
  obtain ⟨hx, hb, hml, hown, hts, hlk, hK, -, hD⟩ := C
  obtain ⟨q0, hq⟩ := wl_ex (k := 4) (i := 0) (by decide) (by decide)
  refine va_put hx hb hts inlX1 tyX1 tyX1_ok nmX1 hown hK hH.1 (hD S) hH.2 q0 (wl_at g S hq) (ci := 1) (C := RX1) (T := TX1) (N := 5) rfl 4 (by decide) (hts _ q82) (fun _ h9 => h9) rfl (ty := .int) (by decide +kernel) rfl rfl (Nat.le_of_ble_eq_true rfl) hdg (fun H1 locs1 hP1 _ hS1 => kk _ H1 locs1 rfl ⟨?_, hS1⟩)
  rw [wl_us hq (by decide +kernel)]
  have e : cE g (us S 105 0 0 v) 4 0 = .inr (1, [.ref (gad g 17 0), .ref (gad g 18 0), .ref (gad g 19 0), .ref (gad g 9 13), .int v]) := by simp [cE, us_same, us_ne, us_2]
  rw [e]
  exact hP1
theorem gf_X9_9 (C : Cx p s m args meth c cc nL RX9 g) (hH : Hp g s S H locs) {i : Nat} (hi : i < 16) (hdg : decode cc pc = .ok (.getfield 9, 3)) (kk : W p l e R s m args below meth c H locs cells slots Q (F0 m (pc + 3) ls (.ref (gad g 29 i) :: rest))) : W p l e R s m args below meth c H locs cells slots Q (F0 m pc ls (.ref (gad g 9 i) :: rest)) := by
  obtain ⟨hx, hb, hml, hown, hts, hlk, hK, -⟩ := C
  obtain ⟨q0, hq⟩ := wl_ex (k := 9) (i := i) (by decide) hi
  exact va_get hx hb hts inlX9 hown hK hH.1 q0 (wl_at g S hq) (ci := 8) (C := RX9) (T := TX9) (N := 5) rfl 0 (by decide) (hts _ q86) (fun _ h9 => h9) rfl hdg kk
theorem gf_X9_15 (C : Cx p s m args meth c cc nL RX9 g) (hH : Hp g s S H locs) {i : Nat} (hi : i < 16) (hdg : decode cc pc = .ok (.getfield 15, 3)) (kk : W p l e R s m args below meth c H locs cells slots Q (F0 m (pc + 3) ls (.ref (gad g 30 i) :: rest))) : W p l e R s m args below meth c H locs cells slots Q (F0 m pc ls (.ref (gad g 9 i) :: rest)) := by
  obtain ⟨hx, hb, hml, hown, hts, hlk, hK, -⟩ := C
  obtain ⟨q0, hq⟩ := wl_ex (k := 9) (i := i) (by decide) hi
  exact va_get hx hb hts inlX9 hown hK hH.1 q0 (wl_at g S hq) (ci := 8) (C := RX9) (T := TX9) (N := 5) rfl 1 (by decide) (hts _ q87) (fun _ h9 => h9) rfl hdg kk
theorem gf_X9_18 (C : Cx p s m args meth c cc nL RX9 g) (hH : Hp g s S H locs) {i : Nat} (hi : i < 16) (hdg : decode cc pc = .ok (.getfield 18, 3)) (kk : W p l e R s m args below meth c H locs cells slots Q (F0 m (pc + 3) ls (.ref (gad g 31 i) :: rest))) : W p l e R s m args below meth c H locs cells slots Q (F0 m pc ls (.ref (gad g 9 i) :: rest)) := by
  obtain ⟨hx, hb, hml, hown, hts, hlk, hK, -⟩ := C
  obtain ⟨q0, hq⟩ := wl_ex (k := 9) (i := i) (by decide) hi
  exact va_get hx hb hts inlX9 hown hK hH.1 q0 (wl_at g S hq) (ci := 8) (C := RX9) (T := TX9) (N := 5) rfl 2 (by decide) (hts _ q88) (fun _ h9 => h9) rfl hdg kk
theorem gf_X9_21 (C : Cx p s m args meth c cc nL RX9 g) (hH : Hp g s S H locs) {i : Nat} (hi : i < 16) (hdg : decode cc pc = .ok (.getfield 21, 3)) (kk : W p l e R s m args below meth c H locs cells slots Q (F0 m (pc + 3) ls (.ref (gad g 32 i) :: rest))) : W p l e R s m args below meth c H locs cells slots Q (F0 m pc ls (.ref (gad g 9 i) :: rest)) := by
  obtain ⟨hx, hb, hml, hown, hts, hlk, hK, -⟩ := C
  obtain ⟨q0, hq⟩ := wl_ex (k := 9) (i := i) (by decide) hi
  exact va_get hx hb hts inlX9 hown hK hH.1 q0 (wl_at g S hq) (ci := 8) (C := RX9) (T := TX9) (N := 5) rfl 3 (by decide) (hts _ q89) (fun _ h9 => h9) rfl hdg kk
theorem gf_X9_24 (C : Cx p s m args meth c cc nL RX9 g) (hH : Hp g s S H locs) {i : Nat} (hi : i < 16) (hdg : decode cc pc = .ok (.getfield 24, 3)) (kk : W p l e R s m args below meth c H locs cells slots Q (F0 m (pc + 3) ls (.int (S.1 112 i 0) :: rest))) : W p l e R s m args below meth c H locs cells slots Q (F0 m pc ls (.ref (gad g 9 i) :: rest)) := by
  obtain ⟨hx, hb, hml, hown, hts, hlk, hK, -⟩ := C
  obtain ⟨q0, hq⟩ := wl_ex (k := 9) (i := i) (by decide) hi
  exact va_get hx hb hts inlX9 hown hK hH.1 q0 (wl_at g S hq) (ci := 8) (C := RX9) (T := TX9) (N := 5) rfl 4 (by decide) (hts _ q90) (fun _ h9 => h9) rfl hdg kk
theorem pf_X9_24 (C : Cx p s m args meth c cc nL RX9 g) (hH : Hp g s S H locs) {i : Nat} (hi : i < 16) {v : Int32} (hdg : decode cc pc = .ok (.putfield 24, 3)) (kk : ∀ (S1 : sT) (H1 : Heap) (locs1 : List Loc), S1 = us S 112 i 0 v → Hp g s S1 H1 locs1 → W p l e R s m args below meth c H1 locs1 cells slots Q (F0 m (pc + 3) ls rest)) : W p l e R s m args below meth c H locs cells slots Q (F0 m pc ls (.int v :: .ref (gad g 9 i) :: rest)) := by
  obtain ⟨hx, hb, hml, hown, hts, hlk, hK, -, hD⟩ := C
  obtain ⟨q0, hq⟩ := wl_ex (k := 9) (i := i) (by decide) hi
  refine va_put hx hb hts inlX9 tyX9 tyX9_ok nmX9 hown hK hH.1 (hD S) hH.2 q0 (wl_at g S hq) (ci := 8) (C := RX9) (T := TX9) (N := 5) rfl 4 (by decide) (hts _ q90) (fun _ h9 => h9) rfl (ty := .int) (by decide +kernel) rfl rfl (Nat.le_of_ble_eq_true rfl) hdg (fun H1 locs1 hP1 _ hS1 => kk _ H1 locs1 rfl ⟨?_, hS1⟩)
  rw [wl_us hq (by decide +kernel)]
  have e : cE g (us S 112 i 0 v) 9 i = .inr (8, [.ref (gad g 29 i), .ref (gad g 30 i), .ref (gad g 31 i), .ref (gad g 32 i), .int v]) := by simp [cE, us_same, us_ne, us_2]
  rw [e]
  exact hP1
theorem gf_X2_12 (C : Cx p s m args meth c cc nL RX2 g) (hH : Hp g s S H locs) (hdg : decode cc pc = .ok (.getfield 12, 3)) (kk : W p l e R s m args below meth c H locs cells slots Q (F0 m (pc + 3) ls (.ref (gad g 9 14) :: rest))) : W p l e R s m args below meth c H locs cells slots Q (F0 m pc ls (.ref (gad g 5 0) :: rest)) := by
  obtain ⟨hx, hb, hml, hown, hts, hlk, hK, -⟩ := C
  obtain ⟨q0, hq⟩ := wl_ex (k := 5) (i := 0) (by decide) (by decide)
  exact va_get hx hb hts inlX2 hown hK hH.1 q0 (wl_at g S hq) (ci := 2) (C := RX2) (T := TX2) (N := 5) rfl 0 (by decide) (hts _ q95) (fun _ h9 => h9) rfl hdg kk
theorem gf_X2_18 (C : Cx p s m args meth c cc nL RX2 g) (hH : Hp g s S H locs) (hdg : decode cc pc = .ok (.getfield 18, 3)) (kk : W p l e R s m args below meth c H locs cells slots Q (F0 m (pc + 3) ls (.ref (gad g 20 0) :: rest))) : W p l e R s m args below meth c H locs cells slots Q (F0 m pc ls (.ref (gad g 5 0) :: rest)) := by
  obtain ⟨hx, hb, hml, hown, hts, hlk, hK, -⟩ := C
  obtain ⟨q0, hq⟩ := wl_ex (k := 5) (i := 0) (by decide) (by decide)
  exact va_get hx hb hts inlX2 hown hK hH.1 q0 (wl_at g S hq) (ci := 2) (C := RX2) (T := TX2) (N := 5) rfl 1 (by decide) (hts _ q96) (fun _ h9 => h9) rfl hdg kk
theorem gf_X2_22 (C : Cx p s m args meth c cc nL RX2 g) (hH : Hp g s S H locs) (hdg : decode cc pc = .ok (.getfield 22, 3)) (kk : W p l e R s m args below meth c H locs cells slots Q (F0 m (pc + 3) ls (.ref (gad g 21 0) :: rest))) : W p l e R s m args below meth c H locs cells slots Q (F0 m pc ls (.ref (gad g 5 0) :: rest)) := by
  obtain ⟨hx, hb, hml, hown, hts, hlk, hK, -⟩ := C
  obtain ⟨q0, hq⟩ := wl_ex (k := 5) (i := 0) (by decide) (by decide)
  exact va_get hx hb hts inlX2 hown hK hH.1 q0 (wl_at g S hq) (ci := 2) (C := RX2) (T := TX2) (N := 5) rfl 2 (by decide) (hts _ q97) (fun _ h9 => h9) rfl hdg kk
theorem gf_X2_25 (C : Cx p s m args meth c cc nL RX2 g) (hH : Hp g s S H locs) (hdg : decode cc pc = .ok (.getfield 25, 3)) (kk : W p l e R s m args below meth c H locs cells slots Q (F0 m (pc + 3) ls (.int (S.1 106 0 0) :: rest))) : W p l e R s m args below meth c H locs cells slots Q (F0 m pc ls (.ref (gad g 5 0) :: rest)) := by
  obtain ⟨hx, hb, hml, hown, hts, hlk, hK, -⟩ := C
  obtain ⟨q0, hq⟩ := wl_ex (k := 5) (i := 0) (by decide) (by decide)
  exact va_get hx hb hts inlX2 hown hK hH.1 q0 (wl_at g S hq) (ci := 2) (C := RX2) (T := TX2) (N := 5) rfl 3 (by decide) (hts _ q98) (fun _ h9 => h9) rfl hdg kk
theorem pf_X2_25 (C : Cx p s m args meth c cc nL RX2 g) (hH : Hp g s S H locs) {v : Int32} (hdg : decode cc pc = .ok (.putfield 25, 3)) (kk : ∀ (S1 : sT) (H1 : Heap) (locs1 : List Loc), S1 = us S 106 0 0 v → Hp g s S1 H1 locs1 → W p l e R s m args below meth c H1 locs1 cells slots Q (F0 m (pc + 3) ls rest)) : W p l e R s m args below meth c H locs cells slots Q (F0 m pc ls (.int v :: .ref (gad g 5 0) :: rest)) := by
  obtain ⟨hx, hb, hml, hown, hts, hlk, hK, -, hD⟩ := C
  obtain ⟨q0, hq⟩ := wl_ex (k := 5) (i := 0) (by decide) (by decide)
  refine va_put hx hb hts inlX2 tyX2 tyX2_ok nmX2 hown hK hH.1 (hD S) hH.2 q0 (wl_at g S hq) (ci := 2) (C := RX2) (T := TX2) (N := 5) rfl 3 (by decide) (hts _ q98) (fun _ h9 => h9) rfl (ty := .int) (by decide +kernel) rfl rfl (Nat.le_of_ble_eq_true rfl) hdg (fun H1 locs1 hP1 _ hS1 => kk _ H1 locs1 rfl ⟨?_, hS1⟩)
  rw [wl_us hq (by decide +kernel)]
  have e : cE g (us S 106 0 0 v) 5 0 = .inr (2, [.ref (gad g 9 14), .ref (gad g 20 0), .ref (gad g 21 0), .int v, .int (S.1 107 0 0)]) := by simp [cE, us_same, us_ne, us_2]
  rw [e]
  exact hP1
theorem gf_X2_29 (C : Cx p s m args meth c cc nL RX2 g) (hH : Hp g s S H locs) (hdg : decode cc pc = .ok (.getfield 29, 3)) (kk : W p l e R s m args below meth c H locs cells slots Q (F0 m (pc + 3) ls (.int (S.1 107 0 0) :: rest))) : W p l e R s m args below meth c H locs cells slots Q (F0 m pc ls (.ref (gad g 5 0) :: rest)) := by
  obtain ⟨hx, hb, hml, hown, hts, hlk, hK, -⟩ := C
  obtain ⟨q0, hq⟩ := wl_ex (k := 5) (i := 0) (by decide) (by decide)
  exact va_get hx hb hts inlX2 hown hK hH.1 q0 (wl_at g S hq) (ci := 2) (C := RX2) (T := TX2) (N := 5) rfl 4 (by decide) (hts _ q99) (fun _ h9 => h9) rfl hdg kk
theorem pf_X2_29 (C : Cx p s m args meth c cc nL RX2 g) (hH : Hp g s S H locs) {v : Int32} (hdg : decode cc pc = .ok (.putfield 29, 3)) (kk : ∀ (S1 : sT) (H1 : Heap) (locs1 : List Loc), S1 = us S 107 0 0 v → Hp g s S1 H1 locs1 → W p l e R s m args below meth c H1 locs1 cells slots Q (F0 m (pc + 3) ls rest)) : W p l e R s m args below meth c H locs cells slots Q (F0 m pc ls (.int v :: .ref (gad g 5 0) :: rest)) := by
  obtain ⟨hx, hb, hml, hown, hts, hlk, hK, -, hD⟩ := C
  obtain ⟨q0, hq⟩ := wl_ex (k := 5) (i := 0) (by decide) (by decide)
  refine va_put hx hb hts inlX2 tyX2 tyX2_ok nmX2 hown hK hH.1 (hD S) hH.2 q0 (wl_at g S hq) (ci := 2) (C := RX2) (T := TX2) (N := 5) rfl 4 (by decide) (hts _ q99) (fun _ h9 => h9) rfl (ty := .int) (by decide +kernel) rfl rfl (Nat.le_of_ble_eq_true rfl) hdg (fun H1 locs1 hP1 _ hS1 => kk _ H1 locs1 rfl ⟨?_, hS1⟩)
  rw [wl_us hq (by decide +kernel)]
  have e : cE g (us S 107 0 0 v) 5 0 = .inr (2, [.ref (gad g 9 14), .ref (gad g 20 0), .ref (gad g 21 0), .int (S.1 106 0 0), .int v]) := by simp [cE, us_same, us_ne, us_2]
  rw [e]
  exact hP1
theorem gf_X0_12 (C : Cx p s m args meth c cc nL RX0 g) (hH : Hp g s S H locs) (hdg : decode cc pc = .ok (.getfield 12, 3)) (kk : W p l e R s m args below meth c H locs cells slots Q (F0 m (pc + 3) ls (.ref (gad g 9 15) :: rest))) : W p l e R s m args below meth c H locs cells slots Q (F0 m pc ls (.ref (gad g 6 0) :: rest)) := by
  obtain ⟨hx, hb, hml, hown, hts, hlk, hK, -⟩ := C
  obtain ⟨q0, hq⟩ := wl_ex (k := 6) (i := 0) (by decide) (by decide)
  exact va_get hx hb hts inlX0 hown hK hH.1 q0 (wl_at g S hq) (ci := 0) (C := RX0) (T := TX0) (N := 5) rfl 0 (by decide) (hts _ q104) (fun _ h9 => h9) rfl hdg kk
theorem gf_X0_18 (C : Cx p s m args meth c cc nL RX0 g) (hH : Hp g s S H locs) (hdg : decode cc pc = .ok (.getfield 18, 3)) (kk : W p l e R s m args below meth c H locs cells slots Q (F0 m (pc + 3) ls (.long (S.2 0) :: rest))) : W p l e R s m args below meth c H locs cells slots Q (F0 m pc ls (.ref (gad g 6 0) :: rest)) := by
  obtain ⟨hx, hb, hml, hown, hts, hlk, hK, -⟩ := C
  obtain ⟨q0, hq⟩ := wl_ex (k := 6) (i := 0) (by decide) (by decide)
  exact va_get hx hb hts inlX0 hown hK hH.1 q0 (wl_at g S hq) (ci := 0) (C := RX0) (T := TX0) (N := 5) rfl 1 (by decide) (hts _ q105) (fun _ h9 => h9) rfl hdg kk
theorem pf_X0_18 (C : Cx p s m args meth c cc nL RX0 g) (hH : Hp g s S H locs) {v : Int64} (hdg : decode cc pc = .ok (.putfield 18, 3)) (kk : ∀ (S1 : sT) (H1 : Heap) (locs1 : List Loc), S1 = ul S 0 v → Hp g s S1 H1 locs1 → W p l e R s m args below meth c H1 locs1 cells slots Q (F0 m (pc + 3) ls rest)) : W p l e R s m args below meth c H locs cells slots Q (F0 m pc ls (.long v :: .ref (gad g 6 0) :: rest)) := by
  obtain ⟨hx, hb, hml, hown, hts, hlk, hK, -, hD⟩ := C
  obtain ⟨q0, hq⟩ := wl_ex (k := 6) (i := 0) (by decide) (by decide)
  refine va_put hx hb hts inlX0 tyX0 tyX0_ok nmX0 hown hK hH.1 (hD S) hH.2 q0 (wl_at g S hq) (ci := 0) (C := RX0) (T := TX0) (N := 5) rfl 1 (by decide) (hts _ q105) (fun _ h9 => h9) rfl (ty := .long) (by decide +kernel) rfl rfl (Nat.le_of_ble_eq_true rfl) hdg (fun H1 locs1 hP1 _ hS1 => kk _ H1 locs1 rfl ⟨?_, hS1⟩)
  rw [wl_ul hq]
  have e : cE g (ul S 0 v) 6 0 = .inr (0, [.ref (gad g 9 15), .long v, .long (S.2 1), .int (S.1 108 0 0), .int (S.1 109 0 0)]) := by simp [cE, ul_same, ul_ne, ul_1]
  rw [e]
  exact hP1
theorem gf_X0_22 (C : Cx p s m args meth c cc nL RX0 g) (hH : Hp g s S H locs) (hdg : decode cc pc = .ok (.getfield 22, 3)) (kk : W p l e R s m args below meth c H locs cells slots Q (F0 m (pc + 3) ls (.long (S.2 1) :: rest))) : W p l e R s m args below meth c H locs cells slots Q (F0 m pc ls (.ref (gad g 6 0) :: rest)) := by
  obtain ⟨hx, hb, hml, hown, hts, hlk, hK, -⟩ := C
  obtain ⟨q0, hq⟩ := wl_ex (k := 6) (i := 0) (by decide) (by decide)
  exact va_get hx hb hts inlX0 hown hK hH.1 q0 (wl_at g S hq) (ci := 0) (C := RX0) (T := TX0) (N := 5) rfl 2 (by decide) (hts _ q106) (fun _ h9 => h9) rfl hdg kk
theorem pf_X0_22 (C : Cx p s m args meth c cc nL RX0 g) (hH : Hp g s S H locs) {v : Int64} (hdg : decode cc pc = .ok (.putfield 22, 3)) (kk : ∀ (S1 : sT) (H1 : Heap) (locs1 : List Loc), S1 = ul S 1 v → Hp g s S1 H1 locs1 → W p l e R s m args below meth c H1 locs1 cells slots Q (F0 m (pc + 3) ls rest)) : W p l e R s m args below meth c H locs cells slots Q (F0 m pc ls (.long v :: .ref (gad g 6 0) :: rest)) := by
  obtain ⟨hx, hb, hml, hown, hts, hlk, hK, -, hD⟩ := C
  obtain ⟨q0, hq⟩ := wl_ex (k := 6) (i := 0) (by decide) (by decide)
  refine va_put hx hb hts inlX0 tyX0 tyX0_ok nmX0 hown hK hH.1 (hD S) hH.2 q0 (wl_at g S hq) (ci := 0) (C := RX0) (T := TX0) (N := 5) rfl 2 (by decide) (hts _ q106) (fun _ h9 => h9) rfl (ty := .long) (by decide +kernel) rfl rfl (Nat.le_of_ble_eq_true rfl) hdg (fun H1 locs1 hP1 _ hS1 => kk _ H1 locs1 rfl ⟨?_, hS1⟩)
  rw [wl_ul hq]
  have e : cE g (ul S 1 v) 6 0 = .inr (0, [.ref (gad g 9 15), .long (S.2 0), .long v, .int (S.1 108 0 0), .int (S.1 109 0 0)]) := by simp [cE, ul_same, ul_ne, ul_1]
  rw [e]
  exact hP1
theorem gf_X0_25 (C : Cx p s m args meth c cc nL RX0 g) (hH : Hp g s S H locs) (hdg : decode cc pc = .ok (.getfield 25, 3)) (kk : W p l e R s m args below meth c H locs cells slots Q (F0 m (pc + 3) ls (.int (S.1 108 0 0) :: rest))) : W p l e R s m args below meth c H locs cells slots Q (F0 m pc ls (.ref (gad g 6 0) :: rest)) := by
  obtain ⟨hx, hb, hml, hown, hts, hlk, hK, -⟩ := C
  obtain ⟨q0, hq⟩ := wl_ex (k := 6) (i := 0) (by decide) (by decide)
  exact va_get hx hb hts inlX0 hown hK hH.1 q0 (wl_at g S hq) (ci := 0) (C := RX0) (T := TX0) (N := 5) rfl 3 (by decide) (hts _ q107) (fun _ h9 => h9) rfl hdg kk
theorem pf_X0_25 (C : Cx p s m args meth c cc nL RX0 g) (hH : Hp g s S H locs) {v : Int32} (hdg : decode cc pc = .ok (.putfield 25, 3)) (kk : ∀ (S1 : sT) (H1 : Heap) (locs1 : List Loc), S1 = us S 108 0 0 v → Hp g s S1 H1 locs1 → W p l e R s m args below meth c H1 locs1 cells slots Q (F0 m (pc + 3) ls rest)) : W p l e R s m args below meth c H locs cells slots Q (F0 m pc ls (.int v :: .ref (gad g 6 0) :: rest)) := by
  obtain ⟨hx, hb, hml, hown, hts, hlk, hK, -, hD⟩ := C
  obtain ⟨q0, hq⟩ := wl_ex (k := 6) (i := 0) (by decide) (by decide)
  refine va_put hx hb hts inlX0 tyX0 tyX0_ok nmX0 hown hK hH.1 (hD S) hH.2 q0 (wl_at g S hq) (ci := 0) (C := RX0) (T := TX0) (N := 5) rfl 3 (by decide) (hts _ q107) (fun _ h9 => h9) rfl (ty := .int) (by decide +kernel) rfl rfl (Nat.le_of_ble_eq_true rfl) hdg (fun H1 locs1 hP1 _ hS1 => kk _ H1 locs1 rfl ⟨?_, hS1⟩)
  rw [wl_us hq (by decide +kernel)]
  have e : cE g (us S 108 0 0 v) 6 0 = .inr (0, [.ref (gad g 9 15), .long (S.2 0), .long (S.2 1), .int v, .int (S.1 109 0 0)]) := by simp [cE, us_same, us_ne, us_2]
  rw [e]
  exact hP1
theorem gf_X0_29 (C : Cx p s m args meth c cc nL RX0 g) (hH : Hp g s S H locs) (hdg : decode cc pc = .ok (.getfield 29, 3)) (kk : W p l e R s m args below meth c H locs cells slots Q (F0 m (pc + 3) ls (.int (S.1 109 0 0) :: rest))) : W p l e R s m args below meth c H locs cells slots Q (F0 m pc ls (.ref (gad g 6 0) :: rest)) := by
  obtain ⟨hx, hb, hml, hown, hts, hlk, hK, -⟩ := C
  obtain ⟨q0, hq⟩ := wl_ex (k := 6) (i := 0) (by decide) (by decide)
  exact va_get hx hb hts inlX0 hown hK hH.1 q0 (wl_at g S hq) (ci := 0) (C := RX0) (T := TX0) (N := 5) rfl 4 (by decide) (hts _ q108) (fun _ h9 => h9) rfl hdg kk
theorem pf_X0_29 (C : Cx p s m args meth c cc nL RX0 g) (hH : Hp g s S H locs) {v : Int32} (hdg : decode cc pc = .ok (.putfield 29, 3)) (kk : ∀ (S1 : sT) (H1 : Heap) (locs1 : List Loc), S1 = us S 109 0 0 v → Hp g s S1 H1 locs1 → W p l e R s m args below meth c H1 locs1 cells slots Q (F0 m (pc + 3) ls rest)) : W p l e R s m args below meth c H locs cells slots Q (F0 m pc ls (.int v :: .ref (gad g 6 0) :: rest)) := by
  obtain ⟨hx, hb, hml, hown, hts, hlk, hK, -, hD⟩ := C
  obtain ⟨q0, hq⟩ := wl_ex (k := 6) (i := 0) (by decide) (by decide)
  refine va_put hx hb hts inlX0 tyX0 tyX0_ok nmX0 hown hK hH.1 (hD S) hH.2 q0 (wl_at g S hq) (ci := 0) (C := RX0) (T := TX0) (N := 5) rfl 4 (by decide) (hts _ q108) (fun _ h9 => h9) rfl (ty := .int) (by decide +kernel) rfl rfl (Nat.le_of_ble_eq_true rfl) hdg (fun H1 locs1 hP1 _ hS1 => kk _ H1 locs1 rfl ⟨?_, hS1⟩)
  rw [wl_us hq (by decide +kernel)]
  have e : cE g (us S 109 0 0 v) 6 0 = .inr (0, [.ref (gad g 9 15), .long (S.2 0), .long (S.2 1), .int (S.1 108 0 0), .int v]) := by simp [cE, us_same, us_ne, us_2]
  rw [e]
  exact hP1
theorem gf_X6_9 (C : Cx p s m args meth c cc nL RX6 g) (hH : Hp g s S H locs) (hdg : decode cc pc = .ok (.getfield 9, 3)) (kk : W p l e R s m args below meth c H locs cells slots Q (F0 m (pc + 3) ls (.ref (gad g 22 0) :: rest))) : W p l e R s m args below meth c H locs cells slots Q (F0 m pc ls (.ref (gad g 7 0) :: rest)) := by
  obtain ⟨hx, hb, hml, hown, hts, hlk, hK, -⟩ := C
  obtain ⟨q0, hq⟩ := wl_ex (k := 7) (i := 0) (by decide) (by decide)
  exact va_get hx hb hts inlX6 hown hK hH.1 q0 (wl_at g S hq) (ci := 6) (C := RX6) (T := TX6) (N := 4) rfl 0 (by decide) (hts _ q112) (fun _ h9 => h9) rfl hdg kk
theorem gf_X6_15 (C : Cx p s m args meth c cc nL RX6 g) (hH : Hp g s S H locs) (hdg : decode cc pc = .ok (.getfield 15, 3)) (kk : W p l e R s m args below meth c H locs cells slots Q (F0 m (pc + 3) ls (.ref (gad g 23 0) :: rest))) : W p l e R s m args below meth c H locs cells slots Q (F0 m pc ls (.ref (gad g 7 0) :: rest)) := by
  obtain ⟨hx, hb, hml, hown, hts, hlk, hK, -⟩ := C
  obtain ⟨q0, hq⟩ := wl_ex (k := 7) (i := 0) (by decide) (by decide)
  exact va_get hx hb hts inlX6 hown hK hH.1 q0 (wl_at g S hq) (ci := 6) (C := RX6) (T := TX6) (N := 4) rfl 1 (by decide) (hts _ q113) (fun _ h9 => h9) rfl hdg kk
theorem gf_X6_18 (C : Cx p s m args meth c cc nL RX6 g) (hH : Hp g s S H locs) (hdg : decode cc pc = .ok (.getfield 18, 3)) (kk : W p l e R s m args below meth c H locs cells slots Q (F0 m (pc + 3) ls (.ref (gad g 24 0) :: rest))) : W p l e R s m args below meth c H locs cells slots Q (F0 m pc ls (.ref (gad g 7 0) :: rest)) := by
  obtain ⟨hx, hb, hml, hown, hts, hlk, hK, -⟩ := C
  obtain ⟨q0, hq⟩ := wl_ex (k := 7) (i := 0) (by decide) (by decide)
  exact va_get hx hb hts inlX6 hown hK hH.1 q0 (wl_at g S hq) (ci := 6) (C := RX6) (T := TX6) (N := 4) rfl 2 (by decide) (hts _ q114) (fun _ h9 => h9) rfl hdg kk
theorem gf_X6_21 (C : Cx p s m args meth c cc nL RX6 g) (hH : Hp g s S H locs) (hdg : decode cc pc = .ok (.getfield 21, 3)) (kk : W p l e R s m args below meth c H locs cells slots Q (F0 m (pc + 3) ls (.int (S.1 110 0 0) :: rest))) : W p l e R s m args below meth c H locs cells slots Q (F0 m pc ls (.ref (gad g 7 0) :: rest)) := by
  obtain ⟨hx, hb, hml, hown, hts, hlk, hK, -⟩ := C
  obtain ⟨q0, hq⟩ := wl_ex (k := 7) (i := 0) (by decide) (by decide)
  exact va_get hx hb hts inlX6 hown hK hH.1 q0 (wl_at g S hq) (ci := 6) (C := RX6) (T := TX6) (N := 4) rfl 3 (by decide) (hts _ q115) (fun _ h9 => h9) rfl hdg kk
theorem pf_X6_21 (C : Cx p s m args meth c cc nL RX6 g) (hH : Hp g s S H locs) {v : Int32} (hdg : decode cc pc = .ok (.putfield 21, 3)) (kk : ∀ (S1 : sT) (H1 : Heap) (locs1 : List Loc), S1 = us S 110 0 0 v → Hp g s S1 H1 locs1 → W p l e R s m args below meth c H1 locs1 cells slots Q (F0 m (pc + 3) ls rest)) : W p l e R s m args below meth c H locs cells slots Q (F0 m pc ls (.int v :: .ref (gad g 7 0) :: rest)) := by
  obtain ⟨hx, hb, hml, hown, hts, hlk, hK, -, hD⟩ := C
  obtain ⟨q0, hq⟩ := wl_ex (k := 7) (i := 0) (by decide) (by decide)
  refine va_put hx hb hts inlX6 tyX6 tyX6_ok nmX6 hown hK hH.1 (hD S) hH.2 q0 (wl_at g S hq) (ci := 6) (C := RX6) (T := TX6) (N := 4) rfl 3 (by decide) (hts _ q115) (fun _ h9 => h9) rfl (ty := .int) (by decide +kernel) rfl rfl (Nat.le_of_ble_eq_true rfl) hdg (fun H1 locs1 hP1 _ hS1 => kk _ H1 locs1 rfl ⟨?_, hS1⟩)
  rw [wl_us hq (by decide +kernel)]
  have e : cE g (us S 110 0 0 v) 7 0 = .inr (6, [.ref (gad g 22 0), .ref (gad g 23 0), .ref (gad g 24 0), .int v]) := by simp [cE, us_same, us_ne, us_2]
  rw [e]
  exact hP1
theorem gf_X5_13 (C : Cx p s m args meth c cc nL RX5 g) (hH : Hp g s S H locs) (hdg : decode cc pc = .ok (.getfield 13, 3)) (kk : W p l e R s m args below meth c H locs cells slots Q (F0 m (pc + 3) ls (.ref (gad g 25 0) :: rest))) : W p l e R s m args below meth c H locs cells slots Q (F0 m pc ls (.ref (gad g 8 0) :: rest)) := by
  obtain ⟨hx, hb, hml, hown, hts, hlk, hK, -⟩ := C
  obtain ⟨q0, hq⟩ := wl_ex (k := 8) (i := 0) (by decide) (by decide)
  exact va_get hx hb hts inlX5 hown hK hH.1 q0 (wl_at g S hq) (ci := 5) (C := RX5) (T := TX5) (N := 4) rfl 0 (by decide) (hts _ q120) (fun _ h9 => h9) rfl hdg kk
theorem gf_X5_16 (C : Cx p s m args meth c cc nL RX5 g) (hH : Hp g s S H locs) (hdg : decode cc pc = .ok (.getfield 16, 3)) (kk : W p l e R s m args below meth c H locs cells slots Q (F0 m (pc + 3) ls (.ref (gad g 27 0) :: rest))) : W p l e R s m args below meth c H locs cells slots Q (F0 m pc ls (.ref (gad g 8 0) :: rest)) := by
  obtain ⟨hx, hb, hml, hown, hts, hlk, hK, -⟩ := C
  obtain ⟨q0, hq⟩ := wl_ex (k := 8) (i := 0) (by decide) (by decide)
  exact va_get hx hb hts inlX5 hown hK hH.1 q0 (wl_at g S hq) (ci := 5) (C := RX5) (T := TX5) (N := 4) rfl 1 (by decide) (hts _ q121) (fun _ h9 => h9) rfl hdg kk
theorem gf_X5_20 (C : Cx p s m args meth c cc nL RX5 g) (hH : Hp g s S H locs) (hdg : decode cc pc = .ok (.getfield 20, 3)) (kk : W p l e R s m args below meth c H locs cells slots Q (F0 m (pc + 3) ls (.ref (gad g 28 0) :: rest))) : W p l e R s m args below meth c H locs cells slots Q (F0 m pc ls (.ref (gad g 8 0) :: rest)) := by
  obtain ⟨hx, hb, hml, hown, hts, hlk, hK, -⟩ := C
  obtain ⟨q0, hq⟩ := wl_ex (k := 8) (i := 0) (by decide) (by decide)
  exact va_get hx hb hts inlX5 hown hK hH.1 q0 (wl_at g S hq) (ci := 5) (C := RX5) (T := TX5) (N := 4) rfl 2 (by decide) (hts _ q122) (fun _ h9 => h9) rfl hdg kk
theorem gf_X5_23 (C : Cx p s m args meth c cc nL RX5 g) (hH : Hp g s S H locs) (hdg : decode cc pc = .ok (.getfield 23, 3)) (kk : W p l e R s m args below meth c H locs cells slots Q (F0 m (pc + 3) ls (.int (S.1 111 0 0) :: rest))) : W p l e R s m args below meth c H locs cells slots Q (F0 m pc ls (.ref (gad g 8 0) :: rest)) := by
  obtain ⟨hx, hb, hml, hown, hts, hlk, hK, -⟩ := C
  obtain ⟨q0, hq⟩ := wl_ex (k := 8) (i := 0) (by decide) (by decide)
  exact va_get hx hb hts inlX5 hown hK hH.1 q0 (wl_at g S hq) (ci := 5) (C := RX5) (T := TX5) (N := 4) rfl 3 (by decide) (hts _ q123) (fun _ h9 => h9) rfl hdg kk
theorem pf_X5_23 (C : Cx p s m args meth c cc nL RX5 g) (hH : Hp g s S H locs) {v : Int32} (hdg : decode cc pc = .ok (.putfield 23, 3)) (kk : ∀ (S1 : sT) (H1 : Heap) (locs1 : List Loc), S1 = us S 111 0 0 v → Hp g s S1 H1 locs1 → W p l e R s m args below meth c H1 locs1 cells slots Q (F0 m (pc + 3) ls rest)) : W p l e R s m args below meth c H locs cells slots Q (F0 m pc ls (.int v :: .ref (gad g 8 0) :: rest)) := by
  obtain ⟨hx, hb, hml, hown, hts, hlk, hK, -, hD⟩ := C
  obtain ⟨q0, hq⟩ := wl_ex (k := 8) (i := 0) (by decide) (by decide)
  refine va_put hx hb hts inlX5 tyX5 tyX5_ok nmX5 hown hK hH.1 (hD S) hH.2 q0 (wl_at g S hq) (ci := 5) (C := RX5) (T := TX5) (N := 4) rfl 3 (by decide) (hts _ q123) (fun _ h9 => h9) rfl (ty := .int) (by decide +kernel) rfl rfl (Nat.le_of_ble_eq_true rfl) hdg (fun H1 locs1 hP1 _ hS1 => kk _ H1 locs1 rfl ⟨?_, hS1⟩)
  rw [wl_us hq (by decide +kernel)]
  have e : cE g (us S 111 0 0 v) 8 0 = .inr (5, [.ref (gad g 25 0), .ref (gad g 27 0), .ref (gad g 28 0), .int v]) := by simp [cE, us_same, us_ne, us_2]
  rw [e]
  exact hP1
theorem gf_X11_7 (C : Cx p s m args meth c cc nL RX11 g) (hH : Hp g s S H locs) (hdg : decode cc pc = .ok (.getfield 7, 3)) (kk : W p l e R s m args below meth c H locs cells slots Q (F0 m (pc + 3) ls (.ref (gad g 33 0) :: rest))) : W p l e R s m args below meth c H locs cells slots Q (F0 m pc ls (.ref (gad g 10 0) :: rest)) := by
  obtain ⟨hx, hb, hml, hown, hts, hlk, hK, -⟩ := C
  obtain ⟨q0, hq⟩ := wl_ex (k := 10) (i := 0) (by decide) (by decide)
  exact va_get hx hb hts inlX11 hown hK hH.1 q0 (wl_at g S hq) (ci := 10) (C := RX11) (T := TX11) (N := 24) rfl 0 (by decide) (hts _ q128) (fun _ h9 => h9) rfl hdg kk
theorem gf_X11_13 (C : Cx p s m args meth c cc nL RX11 g) (hH : Hp g s S H locs) (hdg : decode cc pc = .ok (.getfield 13, 3)) (kk : W p l e R s m args below meth c H locs cells slots Q (F0 m (pc + 3) ls (.ref (gad g 34 0) :: rest))) : W p l e R s m args below meth c H locs cells slots Q (F0 m pc ls (.ref (gad g 10 0) :: rest)) := by
  obtain ⟨hx, hb, hml, hown, hts, hlk, hK, -⟩ := C
  obtain ⟨q0, hq⟩ := wl_ex (k := 10) (i := 0) (by decide) (by decide)
  exact va_get hx hb hts inlX11 hown hK hH.1 q0 (wl_at g S hq) (ci := 10) (C := RX11) (T := TX11) (N := 24) rfl 1 (by decide) (hts _ q129) (fun _ h9 => h9) rfl hdg kk
theorem gf_X11_16 (C : Cx p s m args meth c cc nL RX11 g) (hH : Hp g s S H locs) (hdg : decode cc pc = .ok (.getfield 16, 3)) (kk : W p l e R s m args below meth c H locs cells slots Q (F0 m (pc + 3) ls (.ref (gad g 35 0) :: rest))) : W p l e R s m args below meth c H locs cells slots Q (F0 m pc ls (.ref (gad g 10 0) :: rest)) := by
  obtain ⟨hx, hb, hml, hown, hts, hlk, hK, -⟩ := C
  obtain ⟨q0, hq⟩ := wl_ex (k := 10) (i := 0) (by decide) (by decide)
  exact va_get hx hb hts inlX11 hown hK hH.1 q0 (wl_at g S hq) (ci := 10) (C := RX11) (T := TX11) (N := 24) rfl 2 (by decide) (hts _ q130) (fun _ h9 => h9) rfl hdg kk
theorem gf_X11_19 (C : Cx p s m args meth c cc nL RX11 g) (hH : Hp g s S H locs) (hdg : decode cc pc = .ok (.getfield 19, 3)) (kk : W p l e R s m args below meth c H locs cells slots Q (F0 m (pc + 3) ls (.ref (gad g 36 0) :: rest))) : W p l e R s m args below meth c H locs cells slots Q (F0 m pc ls (.ref (gad g 10 0) :: rest)) := by
  obtain ⟨hx, hb, hml, hown, hts, hlk, hK, -⟩ := C
  obtain ⟨q0, hq⟩ := wl_ex (k := 10) (i := 0) (by decide) (by decide)
  exact va_get hx hb hts inlX11 hown hK hH.1 q0 (wl_at g S hq) (ci := 10) (C := RX11) (T := TX11) (N := 24) rfl 3 (by decide) (hts _ q131) (fun _ h9 => h9) rfl hdg kk
theorem gf_X11_22 (C : Cx p s m args meth c cc nL RX11 g) (hH : Hp g s S H locs) (hdg : decode cc pc = .ok (.getfield 22, 3)) (kk : W p l e R s m args below meth c H locs cells slots Q (F0 m (pc + 3) ls (.ref (gad g 37 0) :: rest))) : W p l e R s m args below meth c H locs cells slots Q (F0 m pc ls (.ref (gad g 10 0) :: rest)) := by
  obtain ⟨hx, hb, hml, hown, hts, hlk, hK, -⟩ := C
  obtain ⟨q0, hq⟩ := wl_ex (k := 10) (i := 0) (by decide) (by decide)
  exact va_get hx hb hts inlX11 hown hK hH.1 q0 (wl_at g S hq) (ci := 10) (C := RX11) (T := TX11) (N := 24) rfl 5 (by decide) (hts _ q132) (fun _ h9 => h9) rfl hdg kk
theorem gf_X11_25 (C : Cx p s m args meth c cc nL RX11 g) (hH : Hp g s S H locs) (hdg : decode cc pc = .ok (.getfield 25, 3)) (kk : W p l e R s m args below meth c H locs cells slots Q (F0 m (pc + 3) ls (.ref (gad g 38 0) :: rest))) : W p l e R s m args below meth c H locs cells slots Q (F0 m pc ls (.ref (gad g 10 0) :: rest)) := by
  obtain ⟨hx, hb, hml, hown, hts, hlk, hK, -⟩ := C
  obtain ⟨q0, hq⟩ := wl_ex (k := 10) (i := 0) (by decide) (by decide)
  exact va_get hx hb hts inlX11 hown hK hH.1 q0 (wl_at g S hq) (ci := 10) (C := RX11) (T := TX11) (N := 24) rfl 6 (by decide) (hts _ q133) (fun _ h9 => h9) rfl hdg kk
theorem gf_X11_28 (C : Cx p s m args meth c cc nL RX11 g) (hH : Hp g s S H locs) (hdg : decode cc pc = .ok (.getfield 28, 3)) (kk : W p l e R s m args below meth c H locs cells slots Q (F0 m (pc + 3) ls (.ref (gad g 39 0) :: rest))) : W p l e R s m args below meth c H locs cells slots Q (F0 m pc ls (.ref (gad g 10 0) :: rest)) := by
  obtain ⟨hx, hb, hml, hown, hts, hlk, hK, -⟩ := C
  obtain ⟨q0, hq⟩ := wl_ex (k := 10) (i := 0) (by decide) (by decide)
  exact va_get hx hb hts inlX11 hown hK hH.1 q0 (wl_at g S hq) (ci := 10) (C := RX11) (T := TX11) (N := 24) rfl 9 (by decide) (hts _ q134) (fun _ h9 => h9) rfl hdg kk
theorem gf_X11_31 (C : Cx p s m args meth c cc nL RX11 g) (hH : Hp g s S H locs) (hdg : decode cc pc = .ok (.getfield 31, 3)) (kk : W p l e R s m args below meth c H locs cells slots Q (F0 m (pc + 3) ls (.ref (gad g 40 0) :: rest))) : W p l e R s m args below meth c H locs cells slots Q (F0 m pc ls (.ref (gad g 10 0) :: rest)) := by
  obtain ⟨hx, hb, hml, hown, hts, hlk, hK, -⟩ := C
  obtain ⟨q0, hq⟩ := wl_ex (k := 10) (i := 0) (by decide) (by decide)
  exact va_get hx hb hts inlX11 hown hK hH.1 q0 (wl_at g S hq) (ci := 10) (C := RX11) (T := TX11) (N := 24) rfl 10 (by decide) (hts _ q135) (fun _ h9 => h9) rfl hdg kk
theorem gf_X11_34 (C : Cx p s m args meth c cc nL RX11 g) (hH : Hp g s S H locs) (hdg : decode cc pc = .ok (.getfield 34, 3)) (kk : W p l e R s m args below meth c H locs cells slots Q (F0 m (pc + 3) ls (.ref (gad g 41 0) :: rest))) : W p l e R s m args below meth c H locs cells slots Q (F0 m pc ls (.ref (gad g 10 0) :: rest)) := by
  obtain ⟨hx, hb, hml, hown, hts, hlk, hK, -⟩ := C
  obtain ⟨q0, hq⟩ := wl_ex (k := 10) (i := 0) (by decide) (by decide)
  exact va_get hx hb hts inlX11 hown hK hH.1 q0 (wl_at g S hq) (ci := 10) (C := RX11) (T := TX11) (N := 24) rfl 12 (by decide) (hts _ q136) (fun _ h9 => h9) rfl hdg kk
theorem gf_X11_37 (C : Cx p s m args meth c cc nL RX11 g) (hH : Hp g s S H locs) (hdg : decode cc pc = .ok (.getfield 37, 3)) (kk : W p l e R s m args below meth c H locs cells slots Q (F0 m (pc + 3) ls (.ref (gad g 42 0) :: rest))) : W p l e R s m args below meth c H locs cells slots Q (F0 m pc ls (.ref (gad g 10 0) :: rest)) := by
  obtain ⟨hx, hb, hml, hown, hts, hlk, hK, -⟩ := C
  obtain ⟨q0, hq⟩ := wl_ex (k := 10) (i := 0) (by decide) (by decide)
  exact va_get hx hb hts inlX11 hown hK hH.1 q0 (wl_at g S hq) (ci := 10) (C := RX11) (T := TX11) (N := 24) rfl 13 (by decide) (hts _ q137) (fun _ h9 => h9) rfl hdg kk
theorem gf_X11_40 (C : Cx p s m args meth c cc nL RX11 g) (hH : Hp g s S H locs) (hdg : decode cc pc = .ok (.getfield 40, 3)) (kk : W p l e R s m args below meth c H locs cells slots Q (F0 m (pc + 3) ls (.ref (gad g 43 0) :: rest))) : W p l e R s m args below meth c H locs cells slots Q (F0 m pc ls (.ref (gad g 10 0) :: rest)) := by
  obtain ⟨hx, hb, hml, hown, hts, hlk, hK, -⟩ := C
  obtain ⟨q0, hq⟩ := wl_ex (k := 10) (i := 0) (by decide) (by decide)
  exact va_get hx hb hts inlX11 hown hK hH.1 q0 (wl_at g S hq) (ci := 10) (C := RX11) (T := TX11) (N := 24) rfl 14 (by decide) (hts _ q138) (fun _ h9 => h9) rfl hdg kk
theorem gf_X11_43 (C : Cx p s m args meth c cc nL RX11 g) (hH : Hp g s S H locs) (hdg : decode cc pc = .ok (.getfield 43, 3)) (kk : W p l e R s m args below meth c H locs cells slots Q (F0 m (pc + 3) ls (.ref (gad g 44 0) :: rest))) : W p l e R s m args below meth c H locs cells slots Q (F0 m pc ls (.ref (gad g 10 0) :: rest)) := by
  obtain ⟨hx, hb, hml, hown, hts, hlk, hK, -⟩ := C
  obtain ⟨q0, hq⟩ := wl_ex (k := 10) (i := 0) (by decide) (by decide)
  exact va_get hx hb hts inlX11 hown hK hH.1 q0 (wl_at g S hq) (ci := 10) (C := RX11) (T := TX11) (N := 24) rfl 15 (by decide) (hts _ q139) (fun _ h9 => h9) rfl hdg kk
theorem gf_X11_46 (C : Cx p s m args meth c cc nL RX11 g) (hH : Hp g s S H locs) (hdg : decode cc pc = .ok (.getfield 46, 3)) (kk : W p l e R s m args below meth c H locs cells slots Q (F0 m (pc + 3) ls (.ref (gad g 45 0) :: rest))) : W p l e R s m args below meth c H locs cells slots Q (F0 m pc ls (.ref (gad g 10 0) :: rest)) := by
  obtain ⟨hx, hb, hml, hown, hts, hlk, hK, -⟩ := C
  obtain ⟨q0, hq⟩ := wl_ex (k := 10) (i := 0) (by decide) (by decide)
  exact va_get hx hb hts inlX11 hown hK hH.1 q0 (wl_at g S hq) (ci := 10) (C := RX11) (T := TX11) (N := 24) rfl 20 (by decide) (hts _ q140) (fun _ h9 => h9) rfl hdg kk
theorem gf_X11_49 (C : Cx p s m args meth c cc nL RX11 g) (hH : Hp g s S H locs) (hdg : decode cc pc = .ok (.getfield 49, 3)) (kk : W p l e R s m args below meth c H locs cells slots Q (F0 m (pc + 3) ls (.ref (gad g 46 0) :: rest))) : W p l e R s m args below meth c H locs cells slots Q (F0 m pc ls (.ref (gad g 10 0) :: rest)) := by
  obtain ⟨hx, hb, hml, hown, hts, hlk, hK, -⟩ := C
  obtain ⟨q0, hq⟩ := wl_ex (k := 10) (i := 0) (by decide) (by decide)
  exact va_get hx hb hts inlX11 hown hK hH.1 q0 (wl_at g S hq) (ci := 10) (C := RX11) (T := TX11) (N := 24) rfl 22 (by decide) (hts _ q141) (fun _ h9 => h9) rfl hdg kk
theorem gf_X11_52 (C : Cx p s m args meth c cc nL RX11 g) (hH : Hp g s S H locs) (hdg : decode cc pc = .ok (.getfield 52, 3)) (kk : W p l e R s m args below meth c H locs cells slots Q (F0 m (pc + 3) ls (.int (S.1 119 0 0) :: rest))) : W p l e R s m args below meth c H locs cells slots Q (F0 m pc ls (.ref (gad g 10 0) :: rest)) := by
  obtain ⟨hx, hb, hml, hown, hts, hlk, hK, -⟩ := C
  obtain ⟨q0, hq⟩ := wl_ex (k := 10) (i := 0) (by decide) (by decide)
  exact va_get hx hb hts inlX11 hown hK hH.1 q0 (wl_at g S hq) (ci := 10) (C := RX11) (T := TX11) (N := 24) rfl 18 (by decide) (hts _ q142) (fun _ h9 => h9) rfl hdg kk
theorem pf_X11_52 (C : Cx p s m args meth c cc nL RX11 g) (hH : Hp g s S H locs) {v : Int32} (hdg : decode cc pc = .ok (.putfield 52, 3)) (kk : ∀ (S1 : sT) (H1 : Heap) (locs1 : List Loc), S1 = us S 119 0 0 v → Hp g s S1 H1 locs1 → W p l e R s m args below meth c H1 locs1 cells slots Q (F0 m (pc + 3) ls rest)) : W p l e R s m args below meth c H locs cells slots Q (F0 m pc ls (.int v :: .ref (gad g 10 0) :: rest)) := by
  obtain ⟨hx, hb, hml, hown, hts, hlk, hK, -, hD⟩ := C
  obtain ⟨q0, hq⟩ := wl_ex (k := 10) (i := 0) (by decide) (by decide)
  refine va_put hx hb hts inlX11 tyX11 tyX11_ok nmX11 hown hK hH.1 (hD S) hH.2 q0 (wl_at g S hq) (ci := 10) (C := RX11) (T := TX11) (N := 24) rfl 18 (by decide) (hts _ q142) (fun _ h9 => h9) rfl (ty := .int) (by decide +kernel) rfl rfl (Nat.le_of_ble_eq_true rfl) hdg (fun H1 locs1 hP1 _ hS1 => kk _ H1 locs1 rfl ⟨?_, hS1⟩)
  rw [wl_us hq (by decide +kernel)]
  have e : cE g (us S 119 0 0 v) 10 0 = .inr (10, [.ref (gad g 33 0), .ref (gad g 34 0), .ref (gad g 35 0), .ref (gad g 36 0), .int (S.1 113 0 0), .ref (gad g 37 0), .ref (gad g 38 0), .int (S.1 114 0 0), .int (S.1 115 0 0), .ref (gad g 39 0), .ref (gad g 40 0), .int (S.1 116 0 0), .ref (gad g 41 0), .ref (gad g 42 0), .ref (gad g 43 0), .ref (gad g 44 0), .int (S.1 117 0 0), .int (S.1 118 0 0), .int v, .int (S.1 120 0 0), .ref (gad g 45 0), .int (S.1 121 0 0), .ref (gad g 46 0), .int (S.1 122 0 0)]) := by simp [cE, us_same, us_ne, us_2]
  rw [e]
  exact hP1
theorem gf_X11_91 (C : Cx p s m args meth c cc nL RX11 g) (hH : Hp g s S H locs) (hdg : decode cc pc = .ok (.getfield 91, 3)) (kk : W p l e R s m args below meth c H locs cells slots Q (F0 m (pc + 3) ls (.int (S.1 115 0 0) :: rest))) : W p l e R s m args below meth c H locs cells slots Q (F0 m pc ls (.ref (gad g 10 0) :: rest)) := by
  obtain ⟨hx, hb, hml, hown, hts, hlk, hK, -⟩ := C
  obtain ⟨q0, hq⟩ := wl_ex (k := 10) (i := 0) (by decide) (by decide)
  exact va_get hx hb hts inlX11 hown hK hH.1 q0 (wl_at g S hq) (ci := 10) (C := RX11) (T := TX11) (N := 24) rfl 8 (by decide) (hts _ q344) (fun _ h9 => h9) rfl hdg kk
theorem pf_X11_91 (C : Cx p s m args meth c cc nL RX11 g) (hH : Hp g s S H locs) {v : Int32} (hdg : decode cc pc = .ok (.putfield 91, 3)) (kk : ∀ (S1 : sT) (H1 : Heap) (locs1 : List Loc), S1 = us S 115 0 0 v → Hp g s S1 H1 locs1 → W p l e R s m args below meth c H1 locs1 cells slots Q (F0 m (pc + 3) ls rest)) : W p l e R s m args below meth c H locs cells slots Q (F0 m pc ls (.int v :: .ref (gad g 10 0) :: rest)) := by
  obtain ⟨hx, hb, hml, hown, hts, hlk, hK, -, hD⟩ := C
  obtain ⟨q0, hq⟩ := wl_ex (k := 10) (i := 0) (by decide) (by decide)
  refine va_put hx hb hts inlX11 tyX11 tyX11_ok nmX11 hown hK hH.1 (hD S) hH.2 q0 (wl_at g S hq) (ci := 10) (C := RX11) (T := TX11) (N := 24) rfl 8 (by decide) (hts _ q344) (fun _ h9 => h9) rfl (ty := .int) (by decide +kernel) rfl rfl (Nat.le_of_ble_eq_true rfl) hdg (fun H1 locs1 hP1 _ hS1 => kk _ H1 locs1 rfl ⟨?_, hS1⟩)
  rw [wl_us hq (by decide +kernel)]
  have e : cE g (us S 115 0 0 v) 10 0 = .inr (10, [.ref (gad g 33 0), .ref (gad g 34 0), .ref (gad g 35 0), .ref (gad g 36 0), .int (S.1 113 0 0), .ref (gad g 37 0), .ref (gad g 38 0), .int (S.1 114 0 0), .int v, .ref (gad g 39 0), .ref (gad g 40 0), .int (S.1 116 0 0), .ref (gad g 41 0), .ref (gad g 42 0), .ref (gad g 43 0), .ref (gad g 44 0), .int (S.1 117 0 0), .int (S.1 118 0 0), .int (S.1 119 0 0), .int (S.1 120 0 0), .ref (gad g 45 0), .int (S.1 121 0 0), .ref (gad g 46 0), .int (S.1 122 0 0)]) := by simp [cE, us_same, us_ne, us_2]
  rw [e]
  exact hP1
theorem gf_X11_97 (C : Cx p s m args meth c cc nL RX11 g) (hH : Hp g s S H locs) (hdg : decode cc pc = .ok (.getfield 97, 3)) (kk : W p l e R s m args below meth c H locs cells slots Q (F0 m (pc + 3) ls (.int (S.1 114 0 0) :: rest))) : W p l e R s m args below meth c H locs cells slots Q (F0 m pc ls (.ref (gad g 10 0) :: rest)) := by
  obtain ⟨hx, hb, hml, hown, hts, hlk, hK, -⟩ := C
  obtain ⟨q0, hq⟩ := wl_ex (k := 10) (i := 0) (by decide) (by decide)
  exact va_get hx hb hts inlX11 hown hK hH.1 q0 (wl_at g S hq) (ci := 10) (C := RX11) (T := TX11) (N := 24) rfl 7 (by decide) (hts _ q352) (fun _ h9 => h9) rfl hdg kk
theorem pf_X11_97 (C : Cx p s m args meth c cc nL RX11 g) (hH : Hp g s S H locs) {v : Int32} (hdg : decode cc pc = .ok (.putfield 97, 3)) (kk : ∀ (S1 : sT) (H1 : Heap) (locs1 : List Loc), S1 = us S 114 0 0 v → Hp g s S1 H1 locs1 → W p l e R s m args below meth c H1 locs1 cells slots Q (F0 m (pc + 3) ls rest)) : W p l e R s m args below meth c H locs cells slots Q (F0 m pc ls (.int v :: .ref (gad g 10 0) :: rest)) := by
  obtain ⟨hx, hb, hml, hown, hts, hlk, hK, -, hD⟩ := C
  obtain ⟨q0, hq⟩ := wl_ex (k := 10) (i := 0) (by decide) (by decide)
  refine va_put hx hb hts inlX11 tyX11 tyX11_ok nmX11 hown hK hH.1 (hD S) hH.2 q0 (wl_at g S hq) (ci := 10) (C := RX11) (T := TX11) (N := 24) rfl 7 (by decide) (hts _ q352) (fun _ h9 => h9) rfl (ty := .int) (by decide +kernel) rfl rfl (Nat.le_of_ble_eq_true rfl) hdg (fun H1 locs1 hP1 _ hS1 => kk _ H1 locs1 rfl ⟨?_, hS1⟩)
  rw [wl_us hq (by decide +kernel)]
  have e : cE g (us S 114 0 0 v) 10 0 = .inr (10, [.ref (gad g 33 0), .ref (gad g 34 0), .ref (gad g 35 0), .ref (gad g 36 0), .int (S.1 113 0 0), .ref (gad g 37 0), .ref (gad g 38 0), .int v, .int (S.1 115 0 0), .ref (gad g 39 0), .ref (gad g 40 0), .int (S.1 116 0 0), .ref (gad g 41 0), .ref (gad g 42 0), .ref (gad g 43 0), .ref (gad g 44 0), .int (S.1 117 0 0), .int (S.1 118 0 0), .int (S.1 119 0 0), .int (S.1 120 0 0), .ref (gad g 45 0), .int (S.1 121 0 0), .ref (gad g 46 0), .int (S.1 122 0 0)]) := by simp [cE, us_same, us_ne, us_2]
  rw [e]
  exact hP1
theorem gf_X11_108 (C : Cx p s m args meth c cc nL RX11 g) (hH : Hp g s S H locs) (hdg : decode cc pc = .ok (.getfield 108, 3)) (kk : W p l e R s m args below meth c H locs cells slots Q (F0 m (pc + 3) ls (.int (S.1 116 0 0) :: rest))) : W p l e R s m args below meth c H locs cells slots Q (F0 m pc ls (.ref (gad g 10 0) :: rest)) := by
  obtain ⟨hx, hb, hml, hown, hts, hlk, hK, -⟩ := C
  obtain ⟨q0, hq⟩ := wl_ex (k := 10) (i := 0) (by decide) (by decide)
  exact va_get hx hb hts inlX11 hown hK hH.1 q0 (wl_at g S hq) (ci := 10) (C := RX11) (T := TX11) (N := 24) rfl 11 (by decide) (hts _ q353) (fun _ h9 => h9) rfl hdg kk
theorem pf_X11_108 (C : Cx p s m args meth c cc nL RX11 g) (hH : Hp g s S H locs) {v : Int32} (hdg : decode cc pc = .ok (.putfield 108, 3)) (kk : ∀ (S1 : sT) (H1 : Heap) (locs1 : List Loc), S1 = us S 116 0 0 v → Hp g s S1 H1 locs1 → W p l e R s m args below meth c H1 locs1 cells slots Q (F0 m (pc + 3) ls rest)) : W p l e R s m args below meth c H locs cells slots Q (F0 m pc ls (.int v :: .ref (gad g 10 0) :: rest)) := by
  obtain ⟨hx, hb, hml, hown, hts, hlk, hK, -, hD⟩ := C
  obtain ⟨q0, hq⟩ := wl_ex (k := 10) (i := 0) (by decide) (by decide)
  refine va_put hx hb hts inlX11 tyX11 tyX11_ok nmX11 hown hK hH.1 (hD S) hH.2 q0 (wl_at g S hq) (ci := 10) (C := RX11) (T := TX11) (N := 24) rfl 11 (by decide) (hts _ q353) (fun _ h9 => h9) rfl (ty := .int) (by decide +kernel) rfl rfl (Nat.le_of_ble_eq_true rfl) hdg (fun H1 locs1 hP1 _ hS1 => kk _ H1 locs1 rfl ⟨?_, hS1⟩)
  rw [wl_us hq (by decide +kernel)]
  have e : cE g (us S 116 0 0 v) 10 0 = .inr (10, [.ref (gad g 33 0), .ref (gad g 34 0), .ref (gad g 35 0), .ref (gad g 36 0), .int (S.1 113 0 0), .ref (gad g 37 0), .ref (gad g 38 0), .int (S.1 114 0 0), .int (S.1 115 0 0), .ref (gad g 39 0), .ref (gad g 40 0), .int v, .ref (gad g 41 0), .ref (gad g 42 0), .ref (gad g 43 0), .ref (gad g 44 0), .int (S.1 117 0 0), .int (S.1 118 0 0), .int (S.1 119 0 0), .int (S.1 120 0 0), .ref (gad g 45 0), .int (S.1 121 0 0), .ref (gad g 46 0), .int (S.1 122 0 0)]) := by simp [cE, us_same, us_ne, us_2]
  rw [e]
  exact hP1
theorem gf_X11_129 (C : Cx p s m args meth c cc nL RX11 g) (hH : Hp g s S H locs) (hdg : decode cc pc = .ok (.getfield 129, 3)) (kk : W p l e R s m args below meth c H locs cells slots Q (F0 m (pc + 3) ls (.int (S.1 120 0 0) :: rest))) : W p l e R s m args below meth c H locs cells slots Q (F0 m pc ls (.ref (gad g 10 0) :: rest)) := by
  obtain ⟨hx, hb, hml, hown, hts, hlk, hK, -⟩ := C
  obtain ⟨q0, hq⟩ := wl_ex (k := 10) (i := 0) (by decide) (by decide)
  exact va_get hx hb hts inlX11 hown hK hH.1 q0 (wl_at g S hq) (ci := 10) (C := RX11) (T := TX11) (N := 24) rfl 19 (by decide) (hts _ q435) (fun _ h9 => h9) rfl hdg kk
theorem pf_X11_129 (C : Cx p s m args meth c cc nL RX11 g) (hH : Hp g s S H locs) {v : Int32} (hdg : decode cc pc = .ok (.putfield 129, 3)) (kk : ∀ (S1 : sT) (H1 : Heap) (locs1 : List Loc), S1 = us S 120 0 0 v → Hp g s S1 H1 locs1 → W p l e R s m args below meth c H1 locs1 cells slots Q (F0 m (pc + 3) ls rest)) : W p l e R s m args below meth c H locs cells slots Q (F0 m pc ls (.int v :: .ref (gad g 10 0) :: rest)) := by
  obtain ⟨hx, hb, hml, hown, hts, hlk, hK, -, hD⟩ := C
  obtain ⟨q0, hq⟩ := wl_ex (k := 10) (i := 0) (by decide) (by decide)
  refine va_put hx hb hts inlX11 tyX11 tyX11_ok nmX11 hown hK hH.1 (hD S) hH.2 q0 (wl_at g S hq) (ci := 10) (C := RX11) (T := TX11) (N := 24) rfl 19 (by decide) (hts _ q435) (fun _ h9 => h9) rfl (ty := .int) (by decide +kernel) rfl rfl (Nat.le_of_ble_eq_true rfl) hdg (fun H1 locs1 hP1 _ hS1 => kk _ H1 locs1 rfl ⟨?_, hS1⟩)
  rw [wl_us hq (by decide +kernel)]
  have e : cE g (us S 120 0 0 v) 10 0 = .inr (10, [.ref (gad g 33 0), .ref (gad g 34 0), .ref (gad g 35 0), .ref (gad g 36 0), .int (S.1 113 0 0), .ref (gad g 37 0), .ref (gad g 38 0), .int (S.1 114 0 0), .int (S.1 115 0 0), .ref (gad g 39 0), .ref (gad g 40 0), .int (S.1 116 0 0), .ref (gad g 41 0), .ref (gad g 42 0), .ref (gad g 43 0), .ref (gad g 44 0), .int (S.1 117 0 0), .int (S.1 118 0 0), .int (S.1 119 0 0), .int v, .ref (gad g 45 0), .int (S.1 121 0 0), .ref (gad g 46 0), .int (S.1 122 0 0)]) := by simp [cE, us_same, us_ne, us_2]
  rw [e]
  exact hP1
theorem gf_X11_139 (C : Cx p s m args meth c cc nL RX11 g) (hH : Hp g s S H locs) (hdg : decode cc pc = .ok (.getfield 139, 3)) (kk : W p l e R s m args below meth c H locs cells slots Q (F0 m (pc + 3) ls (.int (S.1 117 0 0) :: rest))) : W p l e R s m args below meth c H locs cells slots Q (F0 m pc ls (.ref (gad g 10 0) :: rest)) := by
  obtain ⟨hx, hb, hml, hown, hts, hlk, hK, -⟩ := C
  obtain ⟨q0, hq⟩ := wl_ex (k := 10) (i := 0) (by decide) (by decide)
  exact va_get hx hb hts inlX11 hown hK hH.1 q0 (wl_at g S hq) (ci := 10) (C := RX11) (T := TX11) (N := 24) rfl 16 (by decide) (hts _ q436) (fun _ h9 => h9) rfl hdg kk
theorem pf_X11_139 (C : Cx p s m args meth c cc nL RX11 g) (hH : Hp g s S H locs) {v : Int32} (hdg : decode cc pc = .ok (.putfield 139, 3)) (kk : ∀ (S1 : sT) (H1 : Heap) (locs1 : List Loc), S1 = us S 117 0 0 v → Hp g s S1 H1 locs1 → W p l e R s m args below meth c H1 locs1 cells slots Q (F0 m (pc + 3) ls rest)) : W p l e R s m args below meth c H locs cells slots Q (F0 m pc ls (.int v :: .ref (gad g 10 0) :: rest)) := by
  obtain ⟨hx, hb, hml, hown, hts, hlk, hK, -, hD⟩ := C
  obtain ⟨q0, hq⟩ := wl_ex (k := 10) (i := 0) (by decide) (by decide)
  refine va_put hx hb hts inlX11 tyX11 tyX11_ok nmX11 hown hK hH.1 (hD S) hH.2 q0 (wl_at g S hq) (ci := 10) (C := RX11) (T := TX11) (N := 24) rfl 16 (by decide) (hts _ q436) (fun _ h9 => h9) rfl (ty := .int) (by decide +kernel) rfl rfl (Nat.le_of_ble_eq_true rfl) hdg (fun H1 locs1 hP1 _ hS1 => kk _ H1 locs1 rfl ⟨?_, hS1⟩)
  rw [wl_us hq (by decide +kernel)]
  have e : cE g (us S 117 0 0 v) 10 0 = .inr (10, [.ref (gad g 33 0), .ref (gad g 34 0), .ref (gad g 35 0), .ref (gad g 36 0), .int (S.1 113 0 0), .ref (gad g 37 0), .ref (gad g 38 0), .int (S.1 114 0 0), .int (S.1 115 0 0), .ref (gad g 39 0), .ref (gad g 40 0), .int (S.1 116 0 0), .ref (gad g 41 0), .ref (gad g 42 0), .ref (gad g 43 0), .ref (gad g 44 0), .int v, .int (S.1 118 0 0), .int (S.1 119 0 0), .int (S.1 120 0 0), .ref (gad g 45 0), .int (S.1 121 0 0), .ref (gad g 46 0), .int (S.1 122 0 0)]) := by simp [cE, us_same, us_ne, us_2]
  rw [e]
  exact hP1
theorem gf_X11_142 (C : Cx p s m args meth c cc nL RX11 g) (hH : Hp g s S H locs) (hdg : decode cc pc = .ok (.getfield 142, 3)) (kk : W p l e R s m args below meth c H locs cells slots Q (F0 m (pc + 3) ls (.int (S.1 118 0 0) :: rest))) : W p l e R s m args below meth c H locs cells slots Q (F0 m pc ls (.ref (gad g 10 0) :: rest)) := by
  obtain ⟨hx, hb, hml, hown, hts, hlk, hK, -⟩ := C
  obtain ⟨q0, hq⟩ := wl_ex (k := 10) (i := 0) (by decide) (by decide)
  exact va_get hx hb hts inlX11 hown hK hH.1 q0 (wl_at g S hq) (ci := 10) (C := RX11) (T := TX11) (N := 24) rfl 17 (by decide) (hts _ q437) (fun _ h9 => h9) rfl hdg kk
theorem pf_X11_142 (C : Cx p s m args meth c cc nL RX11 g) (hH : Hp g s S H locs) {v : Int32} (hdg : decode cc pc = .ok (.putfield 142, 3)) (kk : ∀ (S1 : sT) (H1 : Heap) (locs1 : List Loc), S1 = us S 118 0 0 v → Hp g s S1 H1 locs1 → W p l e R s m args below meth c H1 locs1 cells slots Q (F0 m (pc + 3) ls rest)) : W p l e R s m args below meth c H locs cells slots Q (F0 m pc ls (.int v :: .ref (gad g 10 0) :: rest)) := by
  obtain ⟨hx, hb, hml, hown, hts, hlk, hK, -, hD⟩ := C
  obtain ⟨q0, hq⟩ := wl_ex (k := 10) (i := 0) (by decide) (by decide)
  refine va_put hx hb hts inlX11 tyX11 tyX11_ok nmX11 hown hK hH.1 (hD S) hH.2 q0 (wl_at g S hq) (ci := 10) (C := RX11) (T := TX11) (N := 24) rfl 17 (by decide) (hts _ q437) (fun _ h9 => h9) rfl (ty := .int) (by decide +kernel) rfl rfl (Nat.le_of_ble_eq_true rfl) hdg (fun H1 locs1 hP1 _ hS1 => kk _ H1 locs1 rfl ⟨?_, hS1⟩)
  rw [wl_us hq (by decide +kernel)]
  have e : cE g (us S 118 0 0 v) 10 0 = .inr (10, [.ref (gad g 33 0), .ref (gad g 34 0), .ref (gad g 35 0), .ref (gad g 36 0), .int (S.1 113 0 0), .ref (gad g 37 0), .ref (gad g 38 0), .int (S.1 114 0 0), .int (S.1 115 0 0), .ref (gad g 39 0), .ref (gad g 40 0), .int (S.1 116 0 0), .ref (gad g 41 0), .ref (gad g 42 0), .ref (gad g 43 0), .ref (gad g 44 0), .int (S.1 117 0 0), .int v, .int (S.1 119 0 0), .int (S.1 120 0 0), .ref (gad g 45 0), .int (S.1 121 0 0), .ref (gad g 46 0), .int (S.1 122 0 0)]) := by simp [cE, us_same, us_ne, us_2]
  rw [e]
  exact hP1
theorem gf_X11_247 (C : Cx p s m args meth c cc nL RX11 g) (hH : Hp g s S H locs) (hdg : decode cc pc = .ok (.getfield 247, 3)) (kk : W p l e R s m args below meth c H locs cells slots Q (F0 m (pc + 3) ls (.int (S.1 121 0 0) :: rest))) : W p l e R s m args below meth c H locs cells slots Q (F0 m pc ls (.ref (gad g 10 0) :: rest)) := by
  obtain ⟨hx, hb, hml, hown, hts, hlk, hK, -⟩ := C
  obtain ⟨q0, hq⟩ := wl_ex (k := 10) (i := 0) (by decide) (by decide)
  exact va_get hx hb hts inlX11 hown hK hH.1 q0 (wl_at g S hq) (ci := 10) (C := RX11) (T := TX11) (N := 24) rfl 21 (by decide) (hts _ q760) (fun _ h9 => h9) rfl hdg kk
theorem pf_X11_247 (C : Cx p s m args meth c cc nL RX11 g) (hH : Hp g s S H locs) {v : Int32} (hdg : decode cc pc = .ok (.putfield 247, 3)) (kk : ∀ (S1 : sT) (H1 : Heap) (locs1 : List Loc), S1 = us S 121 0 0 v → Hp g s S1 H1 locs1 → W p l e R s m args below meth c H1 locs1 cells slots Q (F0 m (pc + 3) ls rest)) : W p l e R s m args below meth c H locs cells slots Q (F0 m pc ls (.int v :: .ref (gad g 10 0) :: rest)) := by
  obtain ⟨hx, hb, hml, hown, hts, hlk, hK, -, hD⟩ := C
  obtain ⟨q0, hq⟩ := wl_ex (k := 10) (i := 0) (by decide) (by decide)
  refine va_put hx hb hts inlX11 tyX11 tyX11_ok nmX11 hown hK hH.1 (hD S) hH.2 q0 (wl_at g S hq) (ci := 10) (C := RX11) (T := TX11) (N := 24) rfl 21 (by decide) (hts _ q760) (fun _ h9 => h9) rfl (ty := .int) (by decide +kernel) rfl rfl (Nat.le_of_ble_eq_true rfl) hdg (fun H1 locs1 hP1 _ hS1 => kk _ H1 locs1 rfl ⟨?_, hS1⟩)
  rw [wl_us hq (by decide +kernel)]
  have e : cE g (us S 121 0 0 v) 10 0 = .inr (10, [.ref (gad g 33 0), .ref (gad g 34 0), .ref (gad g 35 0), .ref (gad g 36 0), .int (S.1 113 0 0), .ref (gad g 37 0), .ref (gad g 38 0), .int (S.1 114 0 0), .int (S.1 115 0 0), .ref (gad g 39 0), .ref (gad g 40 0), .int (S.1 116 0 0), .ref (gad g 41 0), .ref (gad g 42 0), .ref (gad g 43 0), .ref (gad g 44 0), .int (S.1 117 0 0), .int (S.1 118 0 0), .int (S.1 119 0 0), .int (S.1 120 0 0), .ref (gad g 45 0), .int v, .ref (gad g 46 0), .int (S.1 122 0 0)]) := by simp [cE, us_same, us_ne, us_2]
  rw [e]
  exact hP1
theorem gf_X11_62 (C : Cx p s m args meth c cc nL RX11 g) (hH : Hp g s S H locs) (hdg : decode cc pc = .ok (.getfield 62, 3)) (kk : W p l e R s m args below meth c H locs cells slots Q (F0 m (pc + 3) ls (.int (S.1 113 0 0) :: rest))) : W p l e R s m args below meth c H locs cells slots Q (F0 m pc ls (.ref (gad g 10 0) :: rest)) := by
  obtain ⟨hx, hb, hml, hown, hts, hlk, hK, -⟩ := C
  obtain ⟨q0, hq⟩ := wl_ex (k := 10) (i := 0) (by decide) (by decide)
  exact va_get hx hb hts inlX11 hown hK hH.1 q0 (wl_at g S hq) (ci := 10) (C := RX11) (T := TX11) (N := 24) rfl 4 (by decide) (hts _ q814) (fun _ h9 => h9) rfl hdg kk
theorem pf_X11_62 (C : Cx p s m args meth c cc nL RX11 g) (hH : Hp g s S H locs) {v : Int32} (hdg : decode cc pc = .ok (.putfield 62, 3)) (kk : ∀ (S1 : sT) (H1 : Heap) (locs1 : List Loc), S1 = us S 113 0 0 v → Hp g s S1 H1 locs1 → W p l e R s m args below meth c H1 locs1 cells slots Q (F0 m (pc + 3) ls rest)) : W p l e R s m args below meth c H locs cells slots Q (F0 m pc ls (.int v :: .ref (gad g 10 0) :: rest)) := by
  obtain ⟨hx, hb, hml, hown, hts, hlk, hK, -, hD⟩ := C
  obtain ⟨q0, hq⟩ := wl_ex (k := 10) (i := 0) (by decide) (by decide)
  refine va_put hx hb hts inlX11 tyX11 tyX11_ok nmX11 hown hK hH.1 (hD S) hH.2 q0 (wl_at g S hq) (ci := 10) (C := RX11) (T := TX11) (N := 24) rfl 4 (by decide) (hts _ q814) (fun _ h9 => h9) rfl (ty := .int) (by decide +kernel) rfl rfl (Nat.le_of_ble_eq_true rfl) hdg (fun H1 locs1 hP1 _ hS1 => kk _ H1 locs1 rfl ⟨?_, hS1⟩)
  rw [wl_us hq (by decide +kernel)]
  have e : cE g (us S 113 0 0 v) 10 0 = .inr (10, [.ref (gad g 33 0), .ref (gad g 34 0), .ref (gad g 35 0), .ref (gad g 36 0), .int v, .ref (gad g 37 0), .ref (gad g 38 0), .int (S.1 114 0 0), .int (S.1 115 0 0), .ref (gad g 39 0), .ref (gad g 40 0), .int (S.1 116 0 0), .ref (gad g 41 0), .ref (gad g 42 0), .ref (gad g 43 0), .ref (gad g 44 0), .int (S.1 117 0 0), .int (S.1 118 0 0), .int (S.1 119 0 0), .int (S.1 120 0 0), .ref (gad g 45 0), .int (S.1 121 0 0), .ref (gad g 46 0), .int (S.1 122 0 0)]) := by simp [cE, us_same, us_ne, us_2]
  rw [e]
  exact hP1
theorem gf_X11_272 (C : Cx p s m args meth c cc nL RX11 g) (hH : Hp g s S H locs) (hdg : decode cc pc = .ok (.getfield 272, 3)) (kk : W p l e R s m args below meth c H locs cells slots Q (F0 m (pc + 3) ls (.int (S.1 122 0 0) :: rest))) : W p l e R s m args below meth c H locs cells slots Q (F0 m pc ls (.ref (gad g 10 0) :: rest)) := by
  obtain ⟨hx, hb, hml, hown, hts, hlk, hK, -⟩ := C
  obtain ⟨q0, hq⟩ := wl_ex (k := 10) (i := 0) (by decide) (by decide)
  exact va_get hx hb hts inlX11 hown hK hH.1 q0 (wl_at g S hq) (ci := 10) (C := RX11) (T := TX11) (N := 24) rfl 23 (by decide) (hts _ q934) (fun _ h9 => h9) rfl hdg kk
theorem pf_X11_272 (C : Cx p s m args meth c cc nL RX11 g) (hH : Hp g s S H locs) {v : Int32} (hdg : decode cc pc = .ok (.putfield 272, 3)) (kk : ∀ (S1 : sT) (H1 : Heap) (locs1 : List Loc), S1 = us S 122 0 0 v → Hp g s S1 H1 locs1 → W p l e R s m args below meth c H1 locs1 cells slots Q (F0 m (pc + 3) ls rest)) : W p l e R s m args below meth c H locs cells slots Q (F0 m pc ls (.int v :: .ref (gad g 10 0) :: rest)) := by
  obtain ⟨hx, hb, hml, hown, hts, hlk, hK, -, hD⟩ := C
  obtain ⟨q0, hq⟩ := wl_ex (k := 10) (i := 0) (by decide) (by decide)
  refine va_put hx hb hts inlX11 tyX11 tyX11_ok nmX11 hown hK hH.1 (hD S) hH.2 q0 (wl_at g S hq) (ci := 10) (C := RX11) (T := TX11) (N := 24) rfl 23 (by decide) (hts _ q934) (fun _ h9 => h9) rfl (ty := .int) (by decide +kernel) rfl rfl (Nat.le_of_ble_eq_true rfl) hdg (fun H1 locs1 hP1 _ hS1 => kk _ H1 locs1 rfl ⟨?_, hS1⟩)
  rw [wl_us hq (by decide +kernel)]
  have e : cE g (us S 122 0 0 v) 10 0 = .inr (10, [.ref (gad g 33 0), .ref (gad g 34 0), .ref (gad g 35 0), .ref (gad g 36 0), .int (S.1 113 0 0), .ref (gad g 37 0), .ref (gad g 38 0), .int (S.1 114 0 0), .int (S.1 115 0 0), .ref (gad g 39 0), .ref (gad g 40 0), .int (S.1 116 0 0), .ref (gad g 41 0), .ref (gad g 42 0), .ref (gad g 43 0), .ref (gad g 44 0), .int (S.1 117 0 0), .int (S.1 118 0 0), .int (S.1 119 0 0), .int (S.1 120 0 0), .ref (gad g 45 0), .int (S.1 121 0 0), .ref (gad g 46 0), .int v]) := by simp [cE, us_same, us_ne, us_2]
  rw [e]
  exact hP1
theorem ko_11 : ∀ k', k' < NK → 11 ∈ dp k' → k' = 11 := by decide +kernel
theorem ko_12 : ∀ k', k' < NK → 12 ∈ dp k' → k' = 12 := by decide +kernel
theorem ko_13 : ∀ k', k' < NK → 13 ∈ dp k' → k' = 13 := by decide +kernel
theorem ko_14 : ∀ k', k' < NK → 14 ∈ dp k' → k' = 14 := by decide +kernel
theorem ko_15 : ∀ k', k' < NK → 15 ∈ dp k' → k' = 15 := by decide +kernel
theorem ko_16 : ∀ k', k' < NK → 16 ∈ dp k' → k' = 16 := by decide +kernel
theorem ko_18 : ∀ k', k' < NK → 18 ∈ dp k' → k' = 18 := by decide +kernel
theorem ko_19 : ∀ k', k' < NK → 19 ∈ dp k' → k' = 19 := by decide +kernel
theorem ko_20 : ∀ k', k' < NK → 20 ∈ dp k' → k' = 20 := by decide +kernel
theorem ko_21 : ∀ k', k' < NK → 21 ∈ dp k' → k' = 21 := by decide +kernel
theorem ko_22 : ∀ k', k' < NK → 22 ∈ dp k' → k' = 22 := by decide +kernel
theorem ko_23 : ∀ k', k' < NK → 23 ∈ dp k' → k' = 23 := by decide +kernel
theorem ko_24 : ∀ k', k' < NK → 24 ∈ dp k' → k' = 24 := by decide +kernel
theorem ko_26 : ∀ k', k' < NK → 26 ∈ dp k' → k' = 26 := by decide +kernel
theorem ko_27 : ∀ k', k' < NK → 27 ∈ dp k' → k' = 27 := by decide +kernel
theorem ko_28 : ∀ k', k' < NK → 28 ∈ dp k' → k' = 28 := by decide +kernel
theorem ko_29 : ∀ k', k' < NK → 29 ∈ dp k' → k' = 29 := by decide +kernel
theorem ko_30 : ∀ k', k' < NK → 30 ∈ dp k' → k' = 30 := by decide +kernel
theorem ko_31 : ∀ k', k' < NK → 31 ∈ dp k' → k' = 31 := by decide +kernel
theorem ko_32 : ∀ k', k' < NK → 32 ∈ dp k' → k' = 32 := by decide +kernel
theorem ko_33 : ∀ k', k' < NK → 33 ∈ dp k' → k' = 33 := by decide +kernel
theorem ko_34 : ∀ k', k' < NK → 34 ∈ dp k' → k' = 34 := by decide +kernel
theorem ko_35 : ∀ k', k' < NK → 35 ∈ dp k' → k' = 35 := by decide +kernel
theorem ko_36 : ∀ k', k' < NK → 36 ∈ dp k' → k' = 36 := by decide +kernel
theorem ko_37 : ∀ k', k' < NK → 37 ∈ dp k' → k' = 37 := by decide +kernel
theorem ko_38 : ∀ k', k' < NK → 38 ∈ dp k' → k' = 38 := by decide +kernel
theorem ko_39 : ∀ k', k' < NK → 39 ∈ dp k' → k' = 39 := by decide +kernel
theorem ko_40 : ∀ k', k' < NK → 40 ∈ dp k' → k' = 40 := by decide +kernel
theorem ko_41 : ∀ k', k' < NK → 41 ∈ dp k' → k' = 41 := by decide +kernel
theorem ko_42 : ∀ k', k' < NK → 42 ∈ dp k' → k' = 42 := by decide +kernel
theorem ko_43 : ∀ k', k' < NK → 43 ∈ dp k' → k' = 43 := by decide +kernel
theorem ko_44 : ∀ k', k' < NK → 44 ∈ dp k' → k' = 44 := by decide +kernel
theorem ko_45 : ∀ k', k' < NK → 45 ∈ dp k' → k' = 45 := by decide +kernel
theorem ko_46 : ∀ k', k' < NK → 46 ∈ dp k' → k' = 46 := by decide +kernel
theorem r_ald (C : Cx p s m args meth c cc nL own g) (hH : Hp g s S H locs) {k i n : Nat} (hk : ∀ (g : gT) (S : sT) (i : Nat), cE g S k i = .inl (gc g 0, n, .inl (S.1 k i))) (hN : k < NK) (hi : i < aN k) {j : Int32} (hin : vp_in j n) (hdg : decode cc pc = .ok (.iaload, 1)) (kk : W p l e R s m args below meth c H locs cells slots Q (F0 m (pc + 1) ls (.int (S.1 k i (cl j)) :: rest))) : W p l e R s m args below meth c H locs cells slots Q (F0 m pc ls (.int j :: .ref (gad g k i) :: rest)) := by
  obtain ⟨hx, hb, hml, hown, hts, hlk, hK, -⟩ := C
  obtain ⟨q0, hq⟩ := wl_ex hN hi
  exact va_iald hx hb hK hH.1 q0 0 (by rw [wl_at g S hq, hk]) rfl hin hdg kk
theorem r_ast (C : Cx p s m args meth c cc nL own g) (hH : Hp g s S H locs) {k i n : Nat} (hk : ∀ (g : gT) (S : sT) (i : Nat), cE g S k i = .inl (gc g 0, n, .inl (S.1 k i))) (ho : ∀ k', k' < NK → k ∈ dp k' → k' = k) (hN : k < NK) (hi : i < aN k) {j v : Int32} (hin : vp_in j n) (hdg : decode cc pc = .ok (.iastore, 1)) (kk : ∀ (S1 : sT) (H1 : Heap) (locs1 : List Loc), S1 = us S k i (cl j) v → Hp g s S1 H1 locs1 → W p l e R s m args below meth c H1 locs1 cells slots Q (F0 m (pc + 1) ls rest)) : W p l e R s m args below meth c H locs cells slots Q (F0 m pc ls (.int v :: .int j :: .ref (gad g k i) :: rest)) := by
  obtain ⟨hx, hb, hml, hown, hts, hlk, hK, -, hD⟩ := C
  obtain ⟨q0, hq⟩ := wl_ex hN hi
  refine va_iast hx hb hK hH.1 (hD S) hH.2 q0 0 (by rw [wl_at g S hq, hk]) rfl hin hdg (fun H1 locs1 hP1 _ hS1 => kk _ H1 locs1 rfl ⟨?_, hS1⟩)
  rw [wl_us hq ho, hk, us_arr]
  exact hP1
theorem r_alen (C : Cx p s m args meth c cc nL own g) (hH : Hp g s S H locs) {k i n : Nat} (hk : ∀ (g : gT) (S : sT) (i : Nat), cE g S k i = .inl (gc g 0, n, .inl (S.1 k i))) (hN : k < NK) (hi : i < aN k) {v : Int32} (hv : Int32.ofNat n = v) (hdg : decode cc pc = .ok (.arraylength, 1)) (kk : W p l e R s m args below meth c H locs cells slots Q (F0 m (pc + 1) ls (.int v :: rest))) : W p l e R s m args below meth c H locs cells slots Q (F0 m pc ls (.ref (gad g k i) :: rest)) := by
  obtain ⟨hx, hb, hml, hown, hts, hlk, hK, -⟩ := C
  obtain ⟨q0, hq⟩ := wl_ex hN hi
  exact va_alen hx hb hK hH.1 q0 0 (by rw [wl_at g S hq, hk]) (ty := .int) rfl hv hdg kk
theorem r_aald (C : Cx p s m args meth c cc nL own g) (hH : Hp g s S H locs) {k i n t k2 : Nat} {ty : FieldType} (hk : ∀ (g : gT) (S : sT) (i : Nat), cE g S k i = .inl (gc g t, n, .inr (.inr (.inr (.inr (fun j => some (gad g k2 j))))))) (ht : ∀ g, (gtys g)[t]? = some (gc g t, ty)) (hty : ty.isReference = true) (hN : k < NK) (hi : i < aN k) {j : Int32} (hin : vp_in j n) (hdg : decode cc pc = .ok (.aaload, 1)) (kk : W p l e R s m args below meth c H locs cells slots Q (F0 m (pc + 1) ls (.ref (gad g k2 (cl j)) :: rest))) : W p l e R s m args below meth c H locs cells slots Q (F0 m pc ls (.int j :: .ref (gad g k i) :: rest)) := by
  obtain ⟨hx, hb, hml, hown, hts, hlk, hK, -⟩ := C
  obtain ⟨q0, hq⟩ := wl_ex hN hi
  have hlt : j.toNatClampNeg < n := Nat.not_le.mp fun q => hin (Or.inr q)
  have hP := hH.1 q0 _ (by rw [wl_at g S hq, hk])
  exact W.aald (v := .ref (gad g k2 (cl j))) (ty := ty) hx hb hP ((hK.2 t _ (ht g)).1 n (fun j => va_rf (some (gad g k2 j)))) hty (fun q => by cases q) (by show ¬ (j < 0 ∨ (arrV _ _ _).slots.size ≤ _); rw [arrV_size]; exact hin) (by show (arrV _ _ _).slots[_]? = _; rw [arrV_read _ _ hlt]; rfl) rfl rfl hdg kk
theorem r_copy (C : Cx p s m args meth c cc nL own g) (hls : ls.size = nL) (hH : Hp g s S H locs) {k i n k' i' n' index : Nat} (hk : ∀ (g : gT) (S : sT) (i : Nat), cE g S k i = .inl (gc g 0, n, .inl (S.1 k i))) (hk' : ∀ (g : gT) (S : sT) (i : Nat), cE g S k' i = .inl (gc g 0, n', .inl (S.1 k' i))) (ho : ∀ k2, k2 < NK → k' ∈ dp k2 → k2 = k') (hN : k < NK) (hi : i < aN k) (hN' : k' < NK) (hi' : i' < aN k') {sp dp n0 : Int32} (h1 : vc sp n0 n = true) (h2 : vc dp n0 n' = true) (hw : Cond.methodLink own index arraycopyName ∈ WL) (hR : 1 ≤ R.frames ∧ (rest.map fun v => v.category).sum + (nativeFrameWords "java/lang/System" "arraycopy" 5 + 11) ≤ R.locals) (hdg : decode cc pc = .ok (.invokestatic index, 3)) (kk : ∀ (S1 : sT) (H1 : Heap) (locs1 : List Loc), S1 = ua S k' i' (va_cpy (S.1 k i) (S.1 k' i') (cl sp) (cl dp) (cl n0)) → Hp g s S1 H1 locs1 → W p l e R s m args below meth c H1 locs1 cells slots Q (F0 m (pc + 3) ls rest)) : W p l e R s m args below meth c H locs cells slots Q (F0 m pc ls (.int n0 :: .int dp :: .ref (gad g k' i') :: .int sp :: .ref (gad g k i) :: rest)) := by
  obtain ⟨hx, hb, hml, hown, hts, hlk, hK, -, hD⟩ := C
  obtain ⟨q0, hq⟩ := wl_ex hN hi
  obtain ⟨q1, hq1⟩ := wl_ex hN' hi'
  obtain ⟨a1, a2, a3⟩ := vc_e h1
  obtain ⟨b1, b2, b3⟩ := vc_e h2
  refine va_copyi hx hb (hml.trans hls.symm) hown (hts _ hw) (hts _ q260) (hts _ q261) (hts _ q262) hK hH.1 (hD S) hH.2 q0 q1 0 0 (by rw [wl_at g S hq, hk]) (by rw [wl_at g S hq1, hk']) (ty := .int) rfl rfl rfl a1 b1 a2 a3 b3 (fun _ _ => rfl) hR.1 hR.2 hdg (fun H1 locs1 hP1 _ hS1 => kk _ H1 locs1 rfl ⟨?_, hS1⟩)
  rw [wl_ua hq1 ho, hk', ua_same]
  exact hP1
theorem r_gets (C : Cx p s m args meth c cc nL RX3 g) (hH : Hp g s S H locs) (hdg : decode cc pc = .ok (.getstatic 13, 3)) (kk : W p l e R s m args below meth c H locs cells slots Q (F0 m (pc + 3) ls (.ref (gM g) :: rest))) : W p l e R s m args below meth c H locs cells slots Q (F0 m pc ls rest) := by
  obtain ⟨hx, hb, hml, hown, hts, hlk, hK, ⟨hZ, hT⟩, hD⟩ := C
  exact va_gets hx hb hZ hH.2 hown (hts (Cond.fieldLink RX3 13 "WallTurns$Rules" "MOST" "[I") q375) (fun _ h9 => h9) hdg kk
theorem r_tald (C : Cx p s m args meth c cc nL own g) (hH : Hp g s S H locs) {j : Int32} (hin : vp_in j 6) (hdg : decode cc pc = .ok (.iaload, 1)) (kk : W p l e R s m args below meth c H locs cells slots Q (F0 m (pc + 1) ls (.int (mostV (cl j)) :: rest))) : W p l e R s m args below meth c H locs cells slots Q (F0 m pc ls (.int j :: .ref (gM g) :: rest)) := by
  obtain ⟨hx, hb, hml, hown, hts, hlk, hK, ⟨hZ, hT⟩, hD⟩ := C
  exact va_ti hx hb hT hH.2 hin rfl hdg kk
theorem r_tlen (C : Cx p s m args meth c cc nL own g) (hH : Hp g s S H locs) (hdg : decode cc pc = .ok (.arraylength, 1)) (kk : W p l e R s m args below meth c H locs cells slots Q (F0 m (pc + 1) ls (.int 6 :: rest))) : W p l e R s m args below meth c H locs cells slots Q (F0 m pc ls (.ref (gM g) :: rest)) := by
  obtain ⟨hx, hb, hml, hown, hts, hlk, hK, ⟨hZ, hT⟩, hD⟩ := C
  exact va_tlen hx hb hT hH.2 (v := 6) rfl hdg kk
theorem e_pw (C : Cx p s m args meth c cc nL own g) (hH : Hp g s S H locs) (t : State) (ht : t.heap = H) (hW : s.WarmedH t.vm) : PW g S t ∧ va_F (gA g) s t := by
  obtain ⟨hx, hb, hml, hown, hts, hlk, hK⟩ := C
  have hS := hH.2
  refine ⟨⟨by rw [ht]; exact hH.1, ?_⟩, hS.F ht⟩
  rw [ht]
  exact KW.to hW.alike hK hS
theorem e_int (C : Cx p s m args meth c cc nL own g) (hr : meth.sig.returnType = some .int) (hH : Hp g s S H locs) {v : Int32} (hdg : decode cc pc = .ok (.ireturn, 1)) : W p l e R s m args below meth c H locs cells slots (MQ below (QR g (some (.int v)) S) args s cells slots (gA g)) (F0 m pc ls [.int v]) :=
  W.iret (v := v) C.x C.b hr (fun t ht hW => ⟨rfl, e_pw C hH t ht hW⟩) hH.2.2.2 hdg (And.right C).2.2.2.2.1
theorem e_bool (C : Cx p s m args meth c cc nL own g) (hr : meth.sig.returnType = some .boolean) (hH : Hp g s S H locs) {v : Int32} (hn : narrow .boolean (.int v) = .int v) (hdg : decode cc pc = .ok (.ireturn, 1)) : W p l e R s m args below meth c H locs cells slots (MQ below (QR g (some (.int v)) S) args s cells slots (gA g)) (F0 m pc ls [.int v]) :=
  W.zret (v := v) C.x C.b hr hn (fun t ht hW => ⟨rfl, e_pw C hH t ht hW⟩) hH.2.2.2 hdg (And.right C).2.2.2.2.1
theorem e_long (C : Cx p s m args meth c cc nL own g) (hr : meth.sig.returnType = some .long) (hH : Hp g s S H locs) {v : Int64} (hdg : decode cc pc = .ok (.lreturn, 1)) : W p l e R s m args below meth c H locs cells slots (MQ below (QR g (some (.long v)) S) args s cells slots (gA g)) (F0 m pc ls [.long v]) :=
  W.lret (v := v) C.x C.b hr (fun t ht hW => ⟨rfl, e_pw C hH t ht hW⟩) hH.2.2.2 hdg (And.right C).2.2.2.2.1
theorem e_void (C : Cx p s m args meth c cc nL own g) (hr : meth.sig.returnType = none) (hH : Hp g s S H locs) (hdg : decode cc pc = .ok (.return_, 1)) : W p l e R s m args below meth c H locs cells slots (MQ below (QR g none S) args s cells slots (gA g)) (F0 m pc ls []) :=
  W.vret C.x C.b hr (fun t ht hW => ⟨rfl, e_pw C hH t ht hW⟩) hH.2.2.2 hdg (And.right C).2.2.2.2.1
theorem e_ref (C : Cx p s m args meth c cc nL own g) {cls : String} (hr : meth.sig.returnType = some (.object cls)) (hH : Hp g s S H locs) {v : Value} (hv : v = .null ∨ ∃ a, v = .ref a) (hdg : decode cc pc = .ok (.areturn, 1)) : W p l e R s m args below meth c H locs cells slots (MQ below (QR g (some v) S) args s cells slots (gA g)) (F0 m pc ls [v]) :=
  W.aret (v := v) C.x C.b hr (Or.inl ⟨_, rfl⟩) hv (fun t ht hW => ⟨rfl, e_pw C hH t ht hW⟩) hH.2.2.2 hdg (And.right C).2.2.2.2.1
/-- a contract out of the walk of the body -/
theorem MF.of {y : MethodName} {b : ByteArray} {n : Nat} {ret : Option FieldType} {own : String} {k : Nat} {vs : List Value} {v : Option Value} {S' : sT} (hy : plainName y.cls = true) (hown : y.cls = own) (hn : (lg_sl vs).length ≤ n)
    (body : ∀ (p : Program) (e : Env) (s : State) (m : MethodId) (below : List Frame) (meth : Method) (c : Code), Cx p s m vs.toArray meth c b n own g → meth.sig.returnType = ret → Hp g s S s.heap [] → ∀ ls : Array Slot, lv_has ls n (lv_args 0 vs) → W p l e (rmL k) s m vs.toArray below meth c s.heap [] 0 0 (MQ below (QR g v S') vs.toArray s 0 0 (gA g)) (F0 m 0 ls [])) : MF l y b n ret k g vs S v S' := by
  refine Met.ofW (cc := b) (maxL := n) (ret := ret) hy rfl ?_
  intro p e s m args below meth c s₁ B hml hv
  obtain ⟨rfl, hP, hK⟩ := hv
  have hts := atoms_spec (ws := .code y b n ret :: WL) B.pre
  have ho : s.vm.findClass own = some m.cls := by rw [← hown]; exact findClass_of_methodNamed B.named
  rw [lg_entry_eq]
  exact body p e s m below meth c ⟨B.exec, B.bytes, hml, ho, fun w h => hts w (List.mem_cons_of_mem _ h), B.notSynchronized, hK⟩ B.returns ⟨hP, va_S.rf⟩ _ (lv_entry vs hn)
theorem g_cons {w : Cond} (h : w ∈ WL) : GoodIn WL (w :: WL) := fun w' h' => (List.mem_cons.mp h').elim (fun e => by rw [e]; exact gdL w h) (gdL w')
theorem PW.blind {vs : List Value} : FrameBlind (va_Pc vs (PW g S)) := fun a U gg mk q => by
  obtain ⟨q0, qP, qK⟩ := q
  exact ⟨q0, qP, KW.to (u := U) (U := U.calling gg mk a) (Vm.Alike.refl U.vm) qK va_S.rf⟩
/-- what a call's row asks of the tables, beside the room -/
theorem c_words {y : MethodName} {b : ByteArray} {n np : Nat} {ret : Option FieldType} {index k : Nat} (C : Cx p s m args meth c cc nL own g) (h0 : (.code y b n ret : Cond) ∈ WL) (h1 : (.initialized y.cls : Cond) ∈ WL) (h2 : (.methodLink own index y : Cond) ∈ WL) (hd : y.cls ≠ "java/lang/invoke/MethodHandle" ∧ y.cls ≠ "java/lang/invoke/VarHandle" ∧ (parseMethodDescriptor y.desc).map (fun d => d.parameters.length) = some np) (hR : k + 1 ≤ R.frames ∧ 8 + (n + 11) + 60 * k ≤ R.locals) :
    CallB R s args own index y b n ret (.code y b n ret :: WL) (rmL k) 0 0 np :=
  callB_of np (And.right C).2.2.2.1 (g_cons h0) rfl rfl rfl (C.w h1) (C.w h2) hd hR
/-- behind a call -/
theorem c_behind {v : Option Value} {S' : sT} {a : Array Value} {st0 : List Value} (C : Cx p s m args meth c cc nL own g) (hH : Hp g s S H locs) (hr : va_Run p l e R s m args below meth c H locs cells slots 0 0 (F0 m pc ls st0) rest (QR g v S' a) (gA g)) (kk : ∀ (H1 : Heap) (locs1 : List Loc), Hp g s S' H1 locs1 → W p l e R s m args below meth c H1 locs1 cells slots Q (F0 m (pc + 3) ls (v.toList ++ rest))) : W p l e R s m args below meth c H locs cells slots Q (F0 m pc ls st0) := by
  intro T hT X
  obtain ⟨v', st₀, t, T', L, h0, X', hL, e1, e2, ⟨hv, hp, hz, hk⟩, st⟩ := hr T hT X
  cases hv
  rw [h0] at hz hk
  have hS := hH.2
  obtain ⟨t2, a1, b1⟩ := kk T'.heap (locs ++ L) ⟨by rw [e1]; exact hp.1, ⟨Nat.le_trans hS.1 (by rw [e1]; exact hz), fun q h1 h2 => by rw [e1, hk q (Nat.lt_of_lt_of_le h1 hS.1) h2]; exact hS.2.1 q h1 h2, fun q hq => by
      rcases List.mem_append.mp hq with h | h
      · exact hS.2.2 q h
      · exact hL q h⟩⟩ T' rfl X'
  exact ⟨t2, st t2 a1, b1⟩
theorem Hp.pw (C : Cx p s m args meth c cc nL own g) (hH : Hp g s S H locs) : ∀ U : State, U.heap = H → s.WarmedH U.vm → PW g S U := fun U hU hW => (e_pw C hH U hU hW).1
theorem r_callV {y : MethodName} {b : ByteArray} {n np : Nat} {ret : Option FieldType} {index k ki i ci N : Nat} {st0 : List Value} {T : u_T} {As : List Value} {v : Option Value} {S' : sT} (C : Cx p s m args meth c cc nL own g) (hl : ls.size = nL) (hH : Hp g s S H locs) (hM : MF l y b n ret k g (.ref (gad g ki i) :: As) S v S')
    (h0 : (.code y b n ret : Cond) ∈ WL) (h1 : (.initialized y.cls : Cond) ∈ WL) (h2 : (.methodLink own index y : Cond) ∈ WL) (h3 : (.instanceMethod y : Cond) ∈ WL) (h4 : (.selects y.cls y y : Cond) ∈ WL) (hd : y.cls ≠ "java/lang/invoke/MethodHandle" ∧ y.cls ≠ "java/lang/invoke/VarHandle" ∧ (parseMethodDescriptor y.desc).map (fun d => d.parameters.length) = some np) (hnp : As.length = np) (hR : k + 1 ≤ R.frames ∧ 8 + (n + 11) + 60 * k ≤ R.locals) (hc0 : cells ≤ R.cells ∧ slots ≤ R.slots)
    (hN : ki < NK) (hi : i < aN ki) (he2 : ∃ fs, cE g S ki i = .inr (ci, fs)) (hci : vwCl[ci]? = some (y.cls, T, N)) (hW : (rest.map fun v => v.category).sum ≤ 8) (hst : st0 = As.reverse ++ .ref (gad g ki i) :: rest)
    (hdg : decode cc pc = .ok (.invokevirtual index, 3)) (kk : ∀ (H1 : Heap) (locs1 : List Loc), Hp g s S' H1 locs1 → W p l e R s m args below meth c H1 locs1 cells slots Q (F0 m (pc + 3) ls (v.toList ++ rest))) : W p l e R s m args below meth c H locs cells slots Q (F0 m pc ls st0) := by
  obtain ⟨q0, hq⟩ := wl_ex hN hi
  obtain ⟨fs', he2⟩ := he2
  have hrecv := va_recv (s := s) (And.right C).2.2.2.2.2.1 hH.1 (ci := ci) (q := (y.cls, T, N)) hci (by rw [wl_at g S hq, he2])
  refine c_behind C hH (va_runV (y := y) (C := y.cls) (As := As) (rest := rest) ⟨C.x, C.b, (And.right C).2.1, C.o, (And.right C).2.2.2.1⟩ hM ⟨c_words C h0 h1 h2 hd hR, C.w h3, C.w h4⟩ ⟨PW.blind, hrecv, fun U hU hW => ⟨rfl, Hp.pw C hH U hU hW⟩⟩ rfl hnp hl hst (lv_room hW) hdg hc0) kk
theorem r_callS {y : MethodName} {b : ByteArray} {n np : Nat} {ret : Option FieldType} {index k : Nat} {st0 : List Value} {As : List Value} {v : Option Value} {S' : sT} (C : Cx p s m args meth c cc nL own g) (hl : ls.size = nL) (hH : Hp g s S H locs) (hM : MF l y b n ret k g As S v S')
    (h0 : (.code y b n ret : Cond) ∈ WL) (h1 : (.initialized y.cls : Cond) ∈ WL) (h2 : (.methodLink own index y : Cond) ∈ WL) (h3 : (.static y : Cond) ∈ WL) (hd : y.cls ≠ "java/lang/invoke/MethodHandle" ∧ y.cls ≠ "java/lang/invoke/VarHandle" ∧ (parseMethodDescriptor y.desc).map (fun d => d.parameters.length) = some np) (hnp : As.length = np) (hR : k + 1 ≤ R.frames ∧ 8 + (n + 11) + 60 * k ≤ R.locals) (hc0 : cells ≤ R.cells ∧ slots ≤ R.slots)
    (hW : (rest.map fun v => v.category).sum ≤ 8) (hst : st0 = As.reverse ++ rest)
    (hdg : decode cc pc = .ok (.invokestatic index, 3)) (kk : ∀ (H1 : Heap) (locs1 : List Loc), Hp g s S' H1 locs1 → W p l e R s m args below meth c H1 locs1 cells slots Q (F0 m (pc + 3) ls (v.toList ++ rest))) : W p l e R s m args below meth c H locs cells slots Q (F0 m pc ls st0) :=
  c_behind C hH (va_runS (y := y) (As := As) (rest := rest) ⟨C.x, C.b, (And.right C).2.1, C.o, (And.right C).2.2.2.1⟩ hM ⟨c_words C h0 h1 h2 hd hR, C.w h3⟩ ⟨PW.blind, fun U hU hW => ⟨rfl, Hp.pw C hH U hU hW⟩⟩ rfl hnp hl hst (lv_room hW) hdg hc0) kk

theorem r_callV1 {y : MethodName} {b : ByteArray} {n np : Nat} {ret : Option FieldType} {index k ki i ci N : Nat} {T : u_T} {As : List Value} {v : Value} {S' : sT} (C : Cx p s m args meth c cc nL own g) (hl : ls.size = nL) (hH : Hp g s S H locs) (hM : MF l y b n ret k g (.ref (gad g ki i) :: As) S (some v) S')
    (h0 : (.code y b n ret : Cond) ∈ WL) (h1 : (.initialized y.cls : Cond) ∈ WL) (h2 : (.methodLink own index y : Cond) ∈ WL) (h3 : (.instanceMethod y : Cond) ∈ WL) (h4 : (.selects y.cls y y : Cond) ∈ WL) (hd : y.cls ≠ "java/lang/invoke/MethodHandle" ∧ y.cls ≠ "java/lang/invoke/VarHandle" ∧ (parseMethodDescriptor y.desc).map (fun d => d.parameters.length) = some np) (hnp : As.length = np) (hR : k + 1 ≤ R.frames ∧ 8 + (n + 11) + 60 * k ≤ R.locals) (hc0 : cells ≤ R.cells ∧ slots ≤ R.slots)
    (hN : ki < NK) (hi : i < aN ki) (he2 : ∃ fs, cE g S ki i = .inr (ci, fs)) (hci : vwCl[ci]? = some (y.cls, T, N)) (hW : (rest.map fun v => v.category).sum ≤ 8)
    (hdg : decode cc pc = .ok (.invokevirtual index, 3)) (kk : ∀ (H1 : Heap) (locs1 : List Loc), Hp g s S' H1 locs1 → W p l e R s m args below meth c H1 locs1 cells slots Q (F0 m (pc + 3) ls (v :: rest))) : W p l e R s m args below meth c H locs cells slots Q (F0 m pc ls (As.reverse ++ .ref (gad g ki i) :: rest)) :=
  r_callV C hl hH hM h0 h1 h2 h3 h4 hd hnp hR hc0 hN hi he2 hci hW rfl hdg kk
theorem r_callV0 {y : MethodName} {b : ByteArray} {n np : Nat} {ret : Option FieldType} {index k ki i ci N : Nat} {T : u_T} {As : List Value} {S' : sT} (C : Cx p s m args meth c cc nL own g) (hl : ls.size = nL) (hH : Hp g s S H locs) (hM : MF l y b n ret k g (.ref (gad g ki i) :: As) S none S')
    (h0 : (.code y b n ret : Cond) ∈ WL) (h1 : (.initialized y.cls : Cond) ∈ WL) (h2 : (.methodLink own index y : Cond) ∈ WL) (h3 : (.instanceMethod y : Cond) ∈ WL) (h4 : (.selects y.cls y y : Cond) ∈ WL) (hd : y.cls ≠ "java/lang/invoke/MethodHandle" ∧ y.cls ≠ "java/lang/invoke/VarHandle" ∧ (parseMethodDescriptor y.desc).map (fun d => d.parameters.length) = some np) (hnp : As.length = np) (hR : k + 1 ≤ R.frames ∧ 8 + (n + 11) + 60 * k ≤ R.locals) (hc0 : cells ≤ R.cells ∧ slots ≤ R.slots)
    (hN : ki < NK) (hi : i < aN ki) (he2 : ∃ fs, cE g S ki i = .inr (ci, fs)) (hci : vwCl[ci]? = some (y.cls, T, N)) (hW : (rest.map fun v => v.category).sum ≤ 8)
    (hdg : decode cc pc = .ok (.invokevirtual index, 3)) (kk : ∀ (H1 : Heap) (locs1 : List Loc), Hp g s S' H1 locs1 → W p l e R s m args below meth c H1 locs1 cells slots Q (F0 m (pc + 3) ls rest)) : W p l e R s m args below meth c H locs cells slots Q (F0 m pc ls (As.reverse ++ .ref (gad g ki i) :: rest)) :=
  r_callV C hl hH hM h0 h1 h2 h3 h4 hd hnp hR hc0 hN hi he2 hci hW rfl hdg kk
theorem r_callS1 {y : MethodName} {b : ByteArray} {n np : Nat} {ret : Option FieldType} {index k : Nat} {As : List Value} {v : Value} {S' : sT} (C : Cx p s m args meth c cc nL own g) (hl : ls.size = nL) (hH : Hp g s S H locs) (hM : MF l y b n ret k g As S (some v) S')
    (h0 : (.code y b n ret : Cond) ∈ WL) (h1 : (.initialized y.cls : Cond) ∈ WL) (h2 : (.methodLink own index y : Cond) ∈ WL) (h3 : (.static y : Cond) ∈ WL) (hd : y.cls ≠ "java/lang/invoke/MethodHandle" ∧ y.cls ≠ "java/lang/invoke/VarHandle" ∧ (parseMethodDescriptor y.desc).map (fun d => d.parameters.length) = some np) (hnp : As.length = np) (hR : k + 1 ≤ R.frames ∧ 8 + (n + 11) + 60 * k ≤ R.locals) (hc0 : cells ≤ R.cells ∧ slots ≤ R.slots)
    (hW : (rest.map fun v => v.category).sum ≤ 8)
    (hdg : decode cc pc = .ok (.invokestatic index, 3)) (kk : ∀ (H1 : Heap) (locs1 : List Loc), Hp g s S' H1 locs1 → W p l e R s m args below meth c H1 locs1 cells slots Q (F0 m (pc + 3) ls (v :: rest))) : W p l e R s m args below meth c H locs cells slots Q (F0 m pc ls (As.reverse ++ rest)) :=
  r_callS C hl hH hM h0 h1 h2 h3 hd hnp hR hc0 hW rfl hdg kk
abbrev Qm (g : gT) (below : List Frame) (args : Array Value) (s : State) (v : Option Value) (S : sT) : State → Prop := MQ below (QR g v S) args s 0 0 (gA g)
theorem E_int (C : Cx p s m args meth c cc nL own g) (hr : meth.sig.returnType = some .int) (hH : Hp g s S H locs) {v : Int32} {o : Int32 × sT} (h : some (v, S) = some o) (hdg : decode cc pc = .ok (.ireturn, 1)) : W p l e R s m args below meth c H locs 0 0 (Qm g below args s (some (.int o.1)) o.2) (F0 m pc ls [.int v]) := by
  cases h; exact e_int C hr hH hdg
theorem E_intc (C : Cx p s m args meth c cc nL own g) (hr : meth.sig.returnType = some .int) (hH : Hp g s S H locs) {v : Int32} {o : Int32} (h : some v = some o) (hdg : decode cc pc = .ok (.ireturn, 1)) : W p l e R s m args below meth c H locs 0 0 (Qm g below args s (some (.int o)) S) (F0 m pc ls [.int v]) := by
  cases h; exact e_int C hr hH hdg
theorem E_bool (C : Cx p s m args meth c cc nL own g) (hr : meth.sig.returnType = some .boolean) (hH : Hp g s S H locs) {v : Int32} {o : Int32 × sT} (hn : narrow .boolean (.int v) = .int v) (h : some (v, S) = some o) (hdg : decode cc pc = .ok (.ireturn, 1)) : W p l e R s m args below meth c H locs 0 0 (Qm g below args s (some (.int o.1)) o.2) (F0 m pc ls [.int v]) := by
  cases h; exact e_bool C hr hH hn hdg
theorem E_boolc (C : Cx p s m args meth c cc nL own g) (hr : meth.sig.returnType = some .boolean) (hH : Hp g s S H locs) {v : Int32} {o : Int32} (hn : narrow .boolean (.int v) = .int v) (h : some v = some o) (hdg : decode cc pc = .ok (.ireturn, 1)) : W p l e R s m args below meth c H locs 0 0 (Qm g below args s (some (.int o)) S) (F0 m pc ls [.int v]) := by
  cases h; exact e_bool C hr hH hn hdg
theorem E_long (C : Cx p s m args meth c cc nL own g) (hr : meth.sig.returnType = some .long) (hH : Hp g s S H locs) {v : Int64} {o : Int64 × sT} (h : some (v, S) = some o) (hdg : decode cc pc = .ok (.lreturn, 1)) : W p l e R s m args below meth c H locs 0 0 (Qm g below args s (some (.long o.1)) o.2) (F0 m pc ls [.long v]) := by
  cases h; exact e_long C hr hH hdg
theorem E_longc (C : Cx p s m args meth c cc nL own g) (hr : meth.sig.returnType = some .long) (hH : Hp g s S H locs) {v : Int64} {o : Int64} (h : some v = some o) (hdg : decode cc pc = .ok (.lreturn, 1)) : W p l e R s m args below meth c H locs 0 0 (Qm g below args s (some (.long o)) S) (F0 m pc ls [.long v]) := by
  cases h; exact e_long C hr hH hdg
theorem E_void (C : Cx p s m args meth c cc nL own g) (hr : meth.sig.returnType = none) (hH : Hp g s S H locs) {o : sT} (h : some S = some o) (hdg : decode cc pc = .ok (.return_, 1)) : W p l e R s m args below meth c H locs 0 0 (Qm g below args s none o) (F0 m pc ls []) := by
  cases h; exact e_void C hr hH hdg
theorem E_refc (C : Cx p s m args meth c cc nL own g) {cls : String} (hr : meth.sig.returnType = some (.object cls)) (hH : Hp g s S H locs) {k v o : Nat} (h : some v = some o) (hdg : decode cc pc = .ok (.areturn, 1)) : W p l e R s m args below meth c H locs 0 0 (Qm g below args s (some (.ref (gad g k o))) S) (F0 m pc ls [.ref (gad g k v)]) := by
  cases h; exact e_ref C hr hH (Or.inr ⟨_, rfl⟩) hdg
theorem E_nulc (C : Cx p s m args meth c cc nL own g) {cls : String} (hr : meth.sig.returnType = some (.object cls)) (hH : Hp g s S H locs) {k : Nat} {o : Option Nat} (h : some none = some o) (hdg : decode cc pc = .ok (.areturn, 1)) : W p l e R s m args below meth c H locs 0 0 (Qm g below args s (some (rv g k o)) S) (F0 m pc ls [.null]) := by
  cases h; exact e_ref C hr hH (Or.inl rfl) hdg
theorem E_nurc (C : Cx p s m args meth c cc nL own g) {cls : String} (hr : meth.sig.returnType = some (.object cls)) (hH : Hp g s S H locs) {k v : Nat} {o : Option Nat} (h : some (some v) = some o) (hdg : decode cc pc = .ok (.areturn, 1)) : W p l e R s m args below meth c H locs 0 0 (Qm g below args s (some (rv g k o)) S) (F0 m pc ls [.ref (gad g k v)]) := by
  cases h; exact e_ref C hr hH (Or.inr ⟨_, rfl⟩) hdg
theorem r_aaldw (C : Cx p s m args meth c cc nL own g) (hH : Hp g s S H locs) {k i n t k2 : Nat} {ty : FieldType} (hk : ∀ (g : gT) (S : sT) (i : Nat), cE g S k i = .inl (gc g t, n, .inr (.inr (.inr (.inr (fun j => some (gad g k2 j))))))) (ht : ∀ g, (gtys g)[t]? = some (gc g t, ty)) (hty : ty.isReference = true) (hN : k < NK) (hi : i < aN k) {j : Int32} (hin : vp_in j n) (hdg : decode cc pc = .ok (.aaload, 1)) (kk : ∀ w : Nat, w = cl j → W p l e R s m args below meth c H locs cells slots Q (F0 m (pc + 1) ls (.ref (gad g k2 w) :: rest))) : W p l e R s m args below meth c H locs cells slots Q (F0 m pc ls (.int j :: .ref (gad g k i) :: rest)) :=
  r_aald C hH hk ht hty hN hi hin hdg (kk _ rfl)
theorem r_tabI (C : Cx p s m args meth c cc nL own g) {dflt lo hi : Int} {offs : Array Int} {len : Nat} {x : Int32} {k off : Int} {tgt : Nat} (hdg : decode cc pc = .ok (.tableswitch dflt lo hi offs, len)) (hx : x = Int32.ofInt k) (hk : (Int32.ofInt k).toInt = k ∧ lo ≤ k ∧ k ≤ hi ∧ offs[(k - lo).toNat]? = some off ∧ (pc : Int) + off = (tgt : Int)) (kk : W p l e R s m args below meth c H locs cells slots Q (F0 m tgt ls rest)) : W p l e R s m args below meth c H locs cells slots Q (F0 m pc ls (.int x :: rest)) := by
  obtain ⟨h1, h2, h3, h4, h5⟩ := hk
  have e : x.toInt = k := by rw [hx, h1]
  exact lv_tableIn C.x C.b hdg (by omega) (by omega) (by rw [e]; exact h4) h5 kk
theorem ne_toInt {x : Int32} {k : Int} (h : ¬ x = Int32.ofInt k) (hk : (Int32.ofInt k).toInt = k) : x.toInt ≠ k := fun e => h (Int32.toInt_inj.mp (by rw [hk, e]))
end FW
end
