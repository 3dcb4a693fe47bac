theorem dX11_init_0 : decode cX11_init 0 = .ok (.aload_n 0, 1) := by decide +kernel
theorem dX11_init_1 : decode cX11_init 1 = .ok (.invokespecial 1, 3) := by decide +kernel
theorem dX11_init_4 : decode cX11_init 4 = .ok (.aload_n 0, 1) := by decide +kernel
theorem dX11_init_5 : decode cX11_init 5 = .ok (.iconst 4, 1) := by decide +kernel
theorem dX11_init_6 : decode cX11_init 6 = .ok (.newarray .int, 2) := by decide +kernel
theorem dX11_init_8 : decode cX11_init 8 = .ok (.putfield 7, 3) := by decide +kernel
theorem dX11_init_11 : decode cX11_init 11 = .ok (.aload_n 0, 1) := by decide +kernel
theorem dX11_init_12 : decode cX11_init 12 = .ok (.iconst 4, 1) := by decide +kernel
theorem dX11_init_13 : decode cX11_init 13 = .ok (.newarray .int, 2) := by decide +kernel
theorem dX11_init_15 : decode cX11_init 15 = .ok (.putfield 13, 3) := by decide +kernel
theorem dX11_init_18 : decode cX11_init 18 = .ok (.aload_n 0, 1) := by decide +kernel
theorem dX11_init_19 : decode cX11_init 19 = .ok (.sipush 240, 3) := by decide +kernel
theorem dX11_init_22 : decode cX11_init 22 = .ok (.newarray .int, 2) := by decide +kernel
theorem dX11_init_24 : decode cX11_init 24 = .ok (.putfield 16, 3) := by decide +kernel
theorem dX11_init_27 : decode cX11_init 27 = .ok (.aload_n 0, 1) := by decide +kernel
theorem dX11_init_28 : decode cX11_init 28 = .ok (.bipush 60, 2) := by decide +kernel
theorem dX11_init_30 : decode cX11_init 30 = .ok (.newarray .int, 2) := by decide +kernel
theorem dX11_init_32 : decode cX11_init 32 = .ok (.putfield 19, 3) := by decide +kernel
theorem dX11_init_35 : decode cX11_init 35 = .ok (.aload_n 0, 1) := by decide +kernel
theorem dX11_init_36 : decode cX11_init 36 = .ok (.sipush 128, 3) := by decide +kernel
theorem dX11_init_39 : decode cX11_init 39 = .ok (.newarray .int, 2) := by decide +kernel
theorem dX11_init_41 : decode cX11_init 41 = .ok (.putfield 22, 3) := by decide +kernel
theorem dX11_init_44 : decode cX11_init 44 = .ok (.aload_n 0, 1) := by decide +kernel
theorem dX11_init_45 : decode cX11_init 45 = .ok (.iconst 2, 1) := by decide +kernel
theorem dX11_init_46 : decode cX11_init 46 = .ok (.newarray .int, 2) := by decide +kernel
theorem dX11_init_48 : decode cX11_init 48 = .ok (.putfield 25, 3) := by decide +kernel
theorem dX11_init_51 : decode cX11_init 51 = .ok (.aload_n 0, 1) := by decide +kernel
theorem dX11_init_52 : decode cX11_init 52 = .ok (.bipush 64, 2) := by decide +kernel
theorem dX11_init_54 : decode cX11_init 54 = .ok (.newarray .int, 2) := by decide +kernel
theorem dX11_init_56 : decode cX11_init 56 = .ok (.putfield 28, 3) := by decide +kernel
theorem dX11_init_59 : decode cX11_init 59 = .ok (.aload_n 0, 1) := by decide +kernel
theorem dX11_init_60 : decode cX11_init 60 = .ok (.bipush 8, 2) := by decide +kernel
theorem dX11_init_62 : decode cX11_init 62 = .ok (.newarray .int, 2) := by decide +kernel
theorem dX11_init_64 : decode cX11_init 64 = .ok (.putfield 31, 3) := by decide +kernel
theorem dX11_init_67 : decode cX11_init 67 = .ok (.aload_n 0, 1) := by decide +kernel
theorem dX11_init_68 : decode cX11_init 68 = .ok (.bipush 96, 2) := by decide +kernel
theorem dX11_init_70 : decode cX11_init 70 = .ok (.newarray .int, 2) := by decide +kernel
theorem dX11_init_72 : decode cX11_init 72 = .ok (.putfield 34, 3) := by decide +kernel
theorem dX11_init_75 : decode cX11_init 75 = .ok (.aload_n 0, 1) := by decide +kernel
theorem dX11_init_76 : decode cX11_init 76 = .ok (.bipush 6, 2) := by decide +kernel
theorem dX11_init_78 : decode cX11_init 78 = .ok (.newarray .int, 2) := by decide +kernel
theorem dX11_init_80 : decode cX11_init 80 = .ok (.putfield 37, 3) := by decide +kernel
theorem dX11_init_83 : decode cX11_init 83 = .ok (.aload_n 0, 1) := by decide +kernel
theorem dX11_init_84 : decode cX11_init 84 = .ok (.bipush 64, 2) := by decide +kernel
theorem dX11_init_86 : decode cX11_init 86 = .ok (.newarray .int, 2) := by decide +kernel
theorem dX11_init_88 : decode cX11_init 88 = .ok (.putfield 40, 3) := by decide +kernel
theorem dX11_init_91 : decode cX11_init 91 = .ok (.aload_n 0, 1) := by decide +kernel
theorem dX11_init_92 : decode cX11_init 92 = .ok (.bipush 8, 2) := by decide +kernel
theorem dX11_init_94 : decode cX11_init 94 = .ok (.newarray .int, 2) := by decide +kernel
theorem dX11_init_96 : decode cX11_init 96 = .ok (.putfield 43, 3) := by decide +kernel
theorem dX11_init_99 : decode cX11_init 99 = .ok (.aload_n 0, 1) := by decide +kernel
theorem dX11_init_100 : decode cX11_init 100 = .ok (.iconst 3, 1) := by decide +kernel
theorem dX11_init_101 : decode cX11_init 101 = .ok (.newarray .int, 2) := by decide +kernel
theorem dX11_init_103 : decode cX11_init 103 = .ok (.putfield 46, 3) := by decide +kernel
theorem dX11_init_106 : decode cX11_init 106 = .ok (.aload_n 0, 1) := by decide +kernel
theorem dX11_init_107 : decode cX11_init 107 = .ok (.bipush 24, 2) := by decide +kernel
theorem dX11_init_109 : decode cX11_init 109 = .ok (.newarray .int, 2) := by decide +kernel
theorem dX11_init_111 : decode cX11_init 111 = .ok (.putfield 49, 3) := by decide +kernel
theorem dX11_init_114 : decode cX11_init 114 = .ok (.iconst 0, 1) := by decide +kernel
theorem dX11_init_115 : decode cX11_init 115 = .ok (.istore_n 1, 1) := by decide +kernel
theorem dX11_init_116 : decode cX11_init 116 = .ok (.iload_n 1, 1) := by decide +kernel
theorem dX11_init_117 : decode cX11_init 117 = .ok (.iconst 4, 1) := by decide +kernel
theorem dX11_init_118 : decode cX11_init 118 = .ok (.if_icmp .ge 16, 3) := by decide +kernel
theorem dX11_init_121 : decode cX11_init 121 = .ok (.aload_n 0, 1) := by decide +kernel
theorem dX11_init_122 : decode cX11_init 122 = .ok (.getfield 7, 3) := by decide +kernel
theorem dX11_init_125 : decode cX11_init 125 = .ok (.iload_n 1, 1) := by decide +kernel
theorem dX11_init_126 : decode cX11_init 126 = .ok (.iconst (-1), 1) := by decide +kernel
theorem dX11_init_127 : decode cX11_init 127 = .ok (.iastore, 1) := by decide +kernel
theorem dX11_init_128 : decode cX11_init 128 = .ok (.iinc 1 1, 3) := by decide +kernel
theorem dX11_init_131 : decode cX11_init 131 = .ok (.goto (-15), 3) := by decide +kernel
theorem dX11_init_134 : decode cX11_init 134 = .ok (.aload_n 0, 1) := by decide +kernel
theorem dX11_init_135 : decode cX11_init 135 = .ok (.getfield 37, 3) := by decide +kernel
theorem dX11_init_138 : decode cX11_init 138 = .ok (.iconst 1, 1) := by decide +kernel
theorem dX11_init_139 : decode cX11_init 139 = .ok (.iconst 3, 1) := by decide +kernel
theorem dX11_init_140 : decode cX11_init 140 = .ok (.iastore, 1) := by decide +kernel
theorem dX11_init_141 : decode cX11_init 141 = .ok (.aload_n 0, 1) := by decide +kernel
theorem dX11_init_142 : decode cX11_init 142 = .ok (.getfield 37, 3) := by decide +kernel
theorem dX11_init_145 : decode cX11_init 145 = .ok (.iconst 3, 1) := by decide +kernel
theorem dX11_init_146 : decode cX11_init 146 = .ok (.bipush 6, 2) := by decide +kernel
theorem dX11_init_148 : decode cX11_init 148 = .ok (.iastore, 1) := by decide +kernel
theorem dX11_init_149 : decode cX11_init 149 = .ok (.aload_n 0, 1) := by decide +kernel
theorem dX11_init_150 : decode cX11_init 150 = .ok (.getfield 37, 3) := by decide +kernel
theorem dX11_init_153 : decode cX11_init 153 = .ok (.iconst 4, 1) := by decide +kernel
theorem dX11_init_154 : decode cX11_init 154 = .ok (.iconst 4, 1) := by decide +kernel
theorem dX11_init_155 : decode cX11_init 155 = .ok (.iastore, 1) := by decide +kernel
theorem dX11_init_156 : decode cX11_init 156 = .ok (.aload_n 0, 1) := by decide +kernel
theorem dX11_init_157 : decode cX11_init 157 = .ok (.getfield 37, 3) := by decide +kernel
theorem dX11_init_160 : decode cX11_init 160 = .ok (.iconst 5, 1) := by decide +kernel
theorem dX11_init_161 : decode cX11_init 161 = .ok (.sipush 255, 3) := by decide +kernel
theorem dX11_init_164 : decode cX11_init 164 = .ok (.iastore, 1) := by decide +kernel
theorem dX11_init_165 : decode cX11_init 165 = .ok (.aload_n 0, 1) := by decide +kernel
theorem dX11_init_166 : decode cX11_init 166 = .ok (.iconst (-1), 1) := by decide +kernel
theorem dX11_init_167 : decode cX11_init 167 = .ok (.putfield 52, 3) := by decide +kernel
theorem dX11_init_170 : decode cX11_init 170 = .ok (.return_, 1) := by decide +kernel
theorem dX11_in_0 : decode cX11_in 0 = .ok (.lload_n 0, 1) := by decide +kernel
theorem dX11_in_1 : decode cX11_in 1 = .ok (.lload_n 2, 1) := by decide +kernel
theorem dX11_in_2 : decode cX11_in 2 = .ok (.lcmp, 1) := by decide +kernel
theorem dX11_in_3 : decode cX11_in 3 = .ok (.ifCond .lt 14, 3) := by decide +kernel
theorem dX11_in_6 : decode cX11_in 6 = .ok (.lload_n 0, 1) := by decide +kernel
theorem dX11_in_7 : decode cX11_in 7 = .ok (.lload 4, 2) := by decide +kernel
theorem dX11_in_9 : decode cX11_in 9 = .ok (.lcmp, 1) := by decide +kernel
theorem dX11_in_10 : decode cX11_in 10 = .ok (.ifCond .gt 7, 3) := by decide +kernel
theorem dX11_in_13 : decode cX11_in 13 = .ok (.iconst 1, 1) := by decide +kernel
theorem dX11_in_14 : decode cX11_in 14 = .ok (.goto 4, 3) := by decide +kernel
theorem dX11_in_17 : decode cX11_in 17 = .ok (.iconst 0, 1) := by decide +kernel
theorem dX11_in_18 : decode cX11_in 18 = .ok (.ireturn, 1) := by decide +kernel
theorem dX11_no_0 : decode cX11_no 0 = .ok (.ldc2_w 56, 3) := by decide +kernel
theorem dX11_no_3 : decode cX11_no 3 = .ok (.iload_n 0, 1) := by decide +kernel
theorem dX11_no_4 : decode cX11_no 4 = .ok (.i2l, 1) := by decide +kernel
theorem dX11_no_5 : decode cX11_no 5 = .ok (.lsub, 1) := by decide +kernel
theorem dX11_no_6 : decode cX11_no 6 = .ok (.lreturn, 1) := by decide +kernel
theorem dX11_isTwo_0 : decode cX11_isTwo 0 = .ok (.iload_n 0, 1) := by decide +kernel
theorem dX11_isTwo_1 : decode cX11_isTwo 1 = .ok (.i2l, 1) := by decide +kernel
theorem dX11_isTwo_2 : decode cX11_isTwo 2 = .ok (.lconst 0, 1) := by decide +kernel
theorem dX11_isTwo_3 : decode cX11_isTwo 3 = .ok (.lconst 1, 1) := by decide +kernel
theorem dX11_isTwo_4 : decode cX11_isTwo 4 = .ok (.invokestatic 58, 3) := by decide +kernel
theorem dX11_isTwo_7 : decode cX11_isTwo 7 = .ok (.ireturn, 1) := by decide +kernel
theorem dX11_isIn_0 : decode cX11_isIn 0 = .ok (.iload_n 0, 1) := by decide +kernel
theorem dX11_isIn_1 : decode cX11_isIn 1 = .ok (.iload_n 1, 1) := by decide +kernel
theorem dX11_isIn_2 : decode cX11_isIn 2 = .ok (.ishr, 1) := by decide +kernel
theorem dX11_isIn_3 : decode cX11_isIn 3 = .ok (.iconst 1, 1) := by decide +kernel
theorem dX11_isIn_4 : decode cX11_isIn 4 = .ok (.iand, 1) := by decide +kernel
theorem dX11_isIn_5 : decode cX11_isIn 5 = .ok (.iconst 1, 1) := by decide +kernel
theorem dX11_isIn_6 : decode cX11_isIn 6 = .ok (.if_icmp .ne 7, 3) := by decide +kernel
theorem dX11_isIn_9 : decode cX11_isIn 9 = .ok (.iconst 1, 1) := by decide +kernel
theorem dX11_isIn_10 : decode cX11_isIn 10 = .ok (.goto 4, 3) := by decide +kernel
theorem dX11_isIn_13 : decode cX11_isIn 13 = .ok (.iconst 0, 1) := by decide +kernel
theorem dX11_isIn_14 : decode cX11_isIn 14 = .ok (.ireturn, 1) := by decide +kernel
theorem dX11_lesser_0 : decode cX11_lesser 0 = .ok (.iload_n 0, 1) := by decide +kernel
theorem dX11_lesser_1 : decode cX11_lesser 1 = .ok (.iload_n 1, 1) := by decide +kernel
theorem dX11_lesser_2 : decode cX11_lesser 2 = .ok (.if_icmp .ge 7, 3) := by decide +kernel
theorem dX11_lesser_5 : decode cX11_lesser 5 = .ok (.iload_n 0, 1) := by decide +kernel
theorem dX11_lesser_6 : decode cX11_lesser 6 = .ok (.goto 4, 3) := by decide +kernel
theorem dX11_lesser_9 : decode cX11_lesser 9 = .ok (.iload_n 1, 1) := by decide +kernel
theorem dX11_lesser_10 : decode cX11_lesser 10 = .ok (.ireturn, 1) := by decide +kernel
theorem dX11_amount_0 : decode cX11_amount 0 = .ok (.iload_n 0, 1) := by decide +kernel
theorem dX11_amount_1 : decode cX11_amount 1 = .ok (.ifCond .ge 8, 3) := by decide +kernel
theorem dX11_amount_4 : decode cX11_amount 4 = .ok (.iload_n 0, 1) := by decide +kernel
theorem dX11_amount_5 : decode cX11_amount 5 = .ok (.ineg, 1) := by decide +kernel
theorem dX11_amount_6 : decode cX11_amount 6 = .ok (.goto 4, 3) := by decide +kernel
theorem dX11_amount_9 : decode cX11_amount 9 = .ok (.iload_n 0, 1) := by decide +kernel
theorem dX11_amount_10 : decode cX11_amount 10 = .ok (.ireturn, 1) := by decide +kernel
theorem dX11_part_0 : decode cX11_part 0 = .ok (.lload_n 0, 1) := by decide +kernel
theorem dX11_part_1 : decode cX11_part 1 = .ok (.lstore 5, 2) := by decide +kernel
theorem dX11_part_3 : decode cX11_part 3 = .ok (.lload_n 2, 1) := by decide +kernel
theorem dX11_part_4 : decode cX11_part 4 = .ok (.lstore 7, 2) := by decide +kernel
theorem dX11_part_6 : decode cX11_part 6 = .ok (.lload 7, 2) := by decide +kernel
theorem dX11_part_8 : decode cX11_part 8 = .ok (.lconst 0, 1) := by decide +kernel
theorem dX11_part_9 : decode cX11_part 9 = .ok (.lcmp, 1) := by decide +kernel
theorem dX11_part_10 : decode cX11_part 10 = .ok (.ifCond .eq 21, 3) := by decide +kernel
theorem dX11_part_13 : decode cX11_part 13 = .ok (.lload 5, 2) := by decide +kernel
theorem dX11_part_15 : decode cX11_part 15 = .ok (.lload 7, 2) := by decide +kernel
theorem dX11_part_17 : decode cX11_part 17 = .ok (.lrem, 1) := by decide +kernel
theorem dX11_part_18 : decode cX11_part 18 = .ok (.lstore 9, 2) := by decide +kernel
theorem dX11_part_20 : decode cX11_part 20 = .ok (.lload 7, 2) := by decide +kernel
theorem dX11_part_22 : decode cX11_part 22 = .ok (.lstore 5, 2) := by decide +kernel
theorem dX11_part_24 : decode cX11_part 24 = .ok (.lload 9, 2) := by decide +kernel
theorem dX11_part_26 : decode cX11_part 26 = .ok (.lstore 7, 2) := by decide +kernel
theorem dX11_part_28 : decode cX11_part 28 = .ok (.goto (-22), 3) := by decide +kernel
theorem dX11_part_31 : decode cX11_part 31 = .ok (.iload 4, 2) := by decide +kernel
theorem dX11_part_33 : decode cX11_part 33 = .ok (.ifCond .ne 7, 3) := by decide +kernel
theorem dX11_part_36 : decode cX11_part 36 = .ok (.lload_n 0, 1) := by decide +kernel
theorem dX11_part_37 : decode cX11_part 37 = .ok (.goto 4, 3) := by decide +kernel
theorem dX11_part_40 : decode cX11_part 40 = .ok (.lload_n 2, 1) := by decide +kernel
theorem dX11_part_41 : decode cX11_part 41 = .ok (.lload 5, 2) := by decide +kernel
theorem dX11_part_43 : decode cX11_part 43 = .ok (.ldiv, 1) := by decide +kernel
theorem dX11_part_44 : decode cX11_part 44 = .ok (.lreturn, 1) := by decide +kernel
theorem dX11_finds_0 : decode cX11_finds 0 = .ok (.aload_n 0, 1) := by decide +kernel
theorem dX11_finds_1 : decode cX11_finds 1 = .ok (.iload_n 1, 1) := by decide +kernel
theorem dX11_finds_2 : decode cX11_finds 2 = .ok (.putfield 62, 3) := by decide +kernel
theorem dX11_finds_5 : decode cX11_finds 5 = .ok (.bipush (-10), 2) := by decide +kernel
theorem dX11_finds_7 : decode cX11_finds 7 = .ok (.iload_n 1, 1) := by decide +kernel
theorem dX11_finds_8 : decode cX11_finds 8 = .ok (.isub, 1) := by decide +kernel
theorem dX11_finds_9 : decode cX11_finds 9 = .ok (.ireturn, 1) := by decide +kernel
theorem dX11_isSheet_0 : decode cX11_isSheet 0 = .ok (.iload_n 0, 1) := by decide +kernel
theorem dX11_isSheet_1 : decode cX11_isSheet 1 = .ok (.i2l, 1) := by decide +kernel
theorem dX11_isSheet_2 : decode cX11_isSheet 2 = .ok (.lconst 0, 1) := by decide +kernel
theorem dX11_isSheet_3 : decode cX11_isSheet 3 = .ok (.ldc2_w 65, 3) := by decide +kernel
theorem dX11_isSheet_6 : decode cX11_isSheet 6 = .ok (.invokestatic 58, 3) := by decide +kernel
theorem dX11_isSheet_9 : decode cX11_isSheet 9 = .ok (.ireturn, 1) := by decide +kernel
theorem dX11_sheet_0 : decode cX11_sheet 0 = .ok (.iload_n 1, 1) := by decide +kernel
theorem dX11_sheet_1 : decode cX11_sheet 1 = .ok (.invokestatic 67, 3) := by decide +kernel
theorem dX11_sheet_4 : decode cX11_sheet 4 = .ok (.ifCond .eq 21, 3) := by decide +kernel
theorem dX11_sheet_7 : decode cX11_sheet 7 = .ok (.iload_n 2, 1) := by decide +kernel
theorem dX11_sheet_8 : decode cX11_sheet 8 = .ok (.i2l, 1) := by decide +kernel
theorem dX11_sheet_9 : decode cX11_sheet 9 = .ok (.lconst 0, 1) := by decide +kernel
theorem dX11_sheet_10 : decode cX11_sheet 10 = .ok (.ldc2_w 71, 3) := by decide +kernel
theorem dX11_sheet_13 : decode cX11_sheet 13 = .ok (.invokestatic 58, 3) := by decide +kernel
theorem dX11_sheet_16 : decode cX11_sheet 16 = .ok (.ifCond .eq 9, 3) := by decide +kernel
theorem dX11_sheet_19 : decode cX11_sheet 19 = .ok (.iload_n 3, 1) := by decide +kernel
theorem dX11_sheet_20 : decode cX11_sheet 20 = .ok (.bipush 60, 2) := by decide +kernel
theorem dX11_sheet_22 : decode cX11_sheet 22 = .ok (.if_icmp .le 6, 3) := by decide +kernel
theorem dX11_sheet_25 : decode cX11_sheet 25 = .ok (.bipush (-2), 2) := by decide +kernel
theorem dX11_sheet_27 : decode cX11_sheet 27 = .ok (.ireturn, 1) := by decide +kernel
theorem dX11_sheet_28 : decode cX11_sheet 28 = .ok (.iload_n 3, 1) := by decide +kernel
theorem dX11_sheet_29 : decode cX11_sheet 29 = .ok (.ifCond .ge 9, 3) := by decide +kernel
theorem dX11_sheet_32 : decode cX11_sheet 32 = .ok (.aload_n 0, 1) := by decide +kernel
theorem dX11_sheet_33 : decode cX11_sheet 33 = .ok (.iconst 5, 1) := by decide +kernel
theorem dX11_sheet_34 : decode cX11_sheet 34 = .ok (.invokevirtual 73, 3) := by decide +kernel
theorem dX11_sheet_37 : decode cX11_sheet 37 = .ok (.ireturn, 1) := by decide +kernel
theorem dX11_sheet_38 : decode cX11_sheet 38 = .ok (.aload_n 0, 1) := by decide +kernel
theorem dX11_sheet_39 : decode cX11_sheet 39 = .ok (.getfield 7, 3) := by decide +kernel
theorem dX11_sheet_42 : decode cX11_sheet 42 = .ok (.iload_n 1, 1) := by decide +kernel
theorem dX11_sheet_43 : decode cX11_sheet 43 = .ok (.iload_n 2, 1) := by decide +kernel
theorem dX11_sheet_44 : decode cX11_sheet 44 = .ok (.iastore, 1) := by decide +kernel
theorem dX11_sheet_45 : decode cX11_sheet 45 = .ok (.aload_n 0, 1) := by decide +kernel
theorem dX11_sheet_46 : decode cX11_sheet 46 = .ok (.getfield 13, 3) := by decide +kernel
theorem dX11_sheet_49 : decode cX11_sheet 49 = .ok (.iload_n 1, 1) := by decide +kernel
theorem dX11_sheet_50 : decode cX11_sheet 50 = .ok (.iload_n 3, 1) := by decide +kernel
theorem dX11_sheet_51 : decode cX11_sheet 51 = .ok (.iastore, 1) := by decide +kernel
theorem dX11_sheet_52 : decode cX11_sheet 52 = .ok (.iconst 0, 1) := by decide +kernel
theorem dX11_sheet_53 : decode cX11_sheet 53 = .ok (.istore 4, 2) := by decide +kernel
theorem dX11_sheet_55 : decode cX11_sheet 55 = .ok (.iload 4, 2) := by decide +kernel
theorem dX11_sheet_57 : decode cX11_sheet 57 = .ok (.iload_n 3, 1) := by decide +kernel
theorem dX11_sheet_58 : decode cX11_sheet 58 = .ok (.if_icmp .ge 22, 3) := by decide +kernel
theorem dX11_sheet_61 : decode cX11_sheet 61 = .ok (.aload_n 0, 1) := by decide +kernel
theorem dX11_sheet_62 : decode cX11_sheet 62 = .ok (.getfield 16, 3) := by decide +kernel
theorem dX11_sheet_65 : decode cX11_sheet 65 = .ok (.bipush 60, 2) := by decide +kernel
theorem dX11_sheet_67 : decode cX11_sheet 67 = .ok (.iload_n 1, 1) := by decide +kernel
theorem dX11_sheet_68 : decode cX11_sheet 68 = .ok (.imul, 1) := by decide +kernel
theorem dX11_sheet_69 : decode cX11_sheet 69 = .ok (.iload 4, 2) := by decide +kernel
theorem dX11_sheet_71 : decode cX11_sheet 71 = .ok (.iadd, 1) := by decide +kernel
theorem dX11_sheet_72 : decode cX11_sheet 72 = .ok (.iconst 0, 1) := by decide +kernel
theorem dX11_sheet_73 : decode cX11_sheet 73 = .ok (.iastore, 1) := by decide +kernel
theorem dX11_sheet_74 : decode cX11_sheet 74 = .ok (.iinc 4 1, 3) := by decide +kernel
theorem dX11_sheet_77 : decode cX11_sheet 77 = .ok (.goto (-22), 3) := by decide +kernel
theorem dX11_sheet_80 : decode cX11_sheet 80 = .ok (.iload_n 3, 1) := by decide +kernel
theorem dX11_sheet_81 : decode cX11_sheet 81 = .ok (.ireturn, 1) := by decide +kernel
theorem dX11_lose_0 : decode cX11_lose 0 = .ok (.iload_n 1, 1) := by decide +kernel
theorem dX11_lose_1 : decode cX11_lose 1 = .ok (.invokestatic 67, 3) := by decide +kernel
theorem dX11_lose_4 : decode cX11_lose 4 = .ok (.ifCond .ne 6, 3) := by decide +kernel
theorem dX11_lose_7 : decode cX11_lose 7 = .ok (.bipush (-2), 2) := by decide +kernel
theorem dX11_lose_9 : decode cX11_lose 9 = .ok (.ireturn, 1) := by decide +kernel
theorem dX11_lose_10 : decode cX11_lose 10 = .ok (.aload_n 0, 1) := by decide +kernel
theorem dX11_lose_11 : decode cX11_lose 11 = .ok (.getfield 7, 3) := by decide +kernel
theorem dX11_lose_14 : decode cX11_lose 14 = .ok (.iload_n 1, 1) := by decide +kernel
theorem dX11_lose_15 : decode cX11_lose 15 = .ok (.iaload, 1) := by decide +kernel
theorem dX11_lose_16 : decode cX11_lose 16 = .ok (.ifCond .ge 9, 3) := by decide +kernel
theorem dX11_lose_19 : decode cX11_lose 19 = .ok (.aload_n 0, 1) := by decide +kernel
theorem dX11_lose_20 : decode cX11_lose 20 = .ok (.iconst 1, 1) := by decide +kernel
theorem dX11_lose_21 : decode cX11_lose 21 = .ok (.invokevirtual 73, 3) := by decide +kernel
theorem dX11_lose_24 : decode cX11_lose 24 = .ok (.ireturn, 1) := by decide +kernel
theorem dX11_lose_25 : decode cX11_lose 25 = .ok (.aload_n 0, 1) := by decide +kernel
theorem dX11_lose_26 : decode cX11_lose 26 = .ok (.getfield 7, 3) := by decide +kernel
theorem dX11_lose_29 : decode cX11_lose 29 = .ok (.iload_n 1, 1) := by decide +kernel
theorem dX11_lose_30 : decode cX11_lose 30 = .ok (.iconst (-1), 1) := by decide +kernel
theorem dX11_lose_31 : decode cX11_lose 31 = .ok (.iastore, 1) := by decide +kernel
theorem dX11_lose_32 : decode cX11_lose 32 = .ok (.aload_n 0, 1) := by decide +kernel
theorem dX11_lose_33 : decode cX11_lose 33 = .ok (.getfield 13, 3) := by decide +kernel
theorem dX11_lose_36 : decode cX11_lose 36 = .ok (.iload_n 1, 1) := by decide +kernel
theorem dX11_lose_37 : decode cX11_lose 37 = .ok (.iaload, 1) := by decide +kernel
theorem dX11_lose_38 : decode cX11_lose 38 = .ok (.ireturn, 1) := by decide +kernel
theorem dX11_lacks_0 : decode cX11_lacks 0 = .ok (.aload_n 0, 1) := by decide +kernel
theorem dX11_lacks_1 : decode cX11_lacks 1 = .ok (.getfield 7, 3) := by decide +kernel
theorem dX11_lacks_4 : decode cX11_lacks 4 = .ok (.iload_n 1, 1) := by decide +kernel
theorem dX11_lacks_5 : decode cX11_lacks 5 = .ok (.iaload, 1) := by decide +kernel
theorem dX11_lacks_6 : decode cX11_lacks 6 = .ok (.ifCond .ge 9, 3) := by decide +kernel
theorem dX11_lacks_9 : decode cX11_lacks 9 = .ok (.aload_n 0, 1) := by decide +kernel
theorem dX11_lacks_10 : decode cX11_lacks 10 = .ok (.iconst 1, 1) := by decide +kernel
theorem dX11_lacks_11 : decode cX11_lacks 11 = .ok (.invokevirtual 73, 3) := by decide +kernel
theorem dX11_lacks_14 : decode cX11_lacks 14 = .ok (.ireturn, 1) := by decide +kernel
theorem dX11_lacks_15 : decode cX11_lacks 15 = .ok (.aload_n 0, 1) := by decide +kernel
theorem dX11_lacks_16 : decode cX11_lacks 16 = .ok (.getfield 7, 3) := by decide +kernel
theorem dX11_lacks_19 : decode cX11_lacks 19 = .ok (.iload_n 1, 1) := by decide +kernel
theorem dX11_lacks_20 : decode cX11_lacks 20 = .ok (.iaload, 1) := by decide +kernel
theorem dX11_lacks_21 : decode cX11_lacks 21 = .ok (.iload_n 2, 1) := by decide +kernel
theorem dX11_lacks_22 : decode cX11_lacks 22 = .ok (.if_icmp .eq 9, 3) := by decide +kernel
theorem dX11_lacks_25 : decode cX11_lacks 25 = .ok (.aload_n 0, 1) := by decide +kernel
theorem dX11_lacks_26 : decode cX11_lacks 26 = .ok (.iconst 3, 1) := by decide +kernel
theorem dX11_lacks_27 : decode cX11_lacks 27 = .ok (.invokevirtual 73, 3) := by decide +kernel
theorem dX11_lacks_30 : decode cX11_lacks 30 = .ok (.ireturn, 1) := by decide +kernel
theorem dX11_lacks_31 : decode cX11_lacks 31 = .ok (.iload_n 3, 1) := by decide +kernel
theorem dX11_lacks_32 : decode cX11_lacks 32 = .ok (.i2l, 1) := by decide +kernel
theorem dX11_lacks_33 : decode cX11_lacks 33 = .ok (.lconst 0, 1) := by decide +kernel
theorem dX11_lacks_34 : decode cX11_lacks 34 = .ok (.aload_n 0, 1) := by decide +kernel
theorem dX11_lacks_35 : decode cX11_lacks 35 = .ok (.getfield 13, 3) := by decide +kernel
theorem dX11_lacks_38 : decode cX11_lacks 38 = .ok (.iload_n 1, 1) := by decide +kernel
theorem dX11_lacks_39 : decode cX11_lacks 39 = .ok (.iaload, 1) := by decide +kernel
theorem dX11_lacks_40 : decode cX11_lacks 40 = .ok (.iconst 1, 1) := by decide +kernel
theorem dX11_lacks_41 : decode cX11_lacks 41 = .ok (.isub, 1) := by decide +kernel
theorem dX11_lacks_42 : decode cX11_lacks 42 = .ok (.i2l, 1) := by decide +kernel
theorem dX11_lacks_43 : decode cX11_lacks 43 = .ok (.invokestatic 58, 3) := by decide +kernel
theorem dX11_lacks_46 : decode cX11_lacks 46 = .ok (.ifCond .eq 7, 3) := by decide +kernel
theorem dX11_lacks_49 : decode cX11_lacks 49 = .ok (.iconst 0, 1) := by decide +kernel
theorem dX11_lacks_50 : decode cX11_lacks 50 = .ok (.goto 8, 3) := by decide +kernel
theorem dX11_lacks_53 : decode cX11_lacks 53 = .ok (.aload_n 0, 1) := by decide +kernel
theorem dX11_lacks_54 : decode cX11_lacks 54 = .ok (.iconst 2, 1) := by decide +kernel
theorem dX11_lacks_55 : decode cX11_lacks 55 = .ok (.invokevirtual 73, 3) := by decide +kernel
theorem dX11_lacks_58 : decode cX11_lacks 58 = .ok (.ireturn, 1) := by decide +kernel
theorem dX11_cut_0 : decode cX11_cut 0 = .ok (.iload_n 0, 1) := by decide +kernel
theorem dX11_cut_1 : decode cX11_cut 1 = .ok (.ifCond .ne 8, 3) := by decide +kernel
theorem dX11_cut_4 : decode cX11_cut 4 = .ok (.iload_n 1, 1) := by decide +kernel
theorem dX11_cut_5 : decode cX11_cut 5 = .ok (.i2b, 1) := by decide +kernel
theorem dX11_cut_6 : decode cX11_cut 6 = .ok (.goto 14, 3) := by decide +kernel
theorem dX11_cut_9 : decode cX11_cut 9 = .ok (.iload_n 0, 1) := by decide +kernel
theorem dX11_cut_10 : decode cX11_cut 10 = .ok (.iconst 1, 1) := by decide +kernel
theorem dX11_cut_11 : decode cX11_cut 11 = .ok (.if_icmp .ne 8, 3) := by decide +kernel
theorem dX11_cut_14 : decode cX11_cut 14 = .ok (.iload_n 1, 1) := by decide +kernel
theorem dX11_cut_15 : decode cX11_cut 15 = .ok (.i2s, 1) := by decide +kernel
theorem dX11_cut_16 : decode cX11_cut 16 = .ok (.goto 4, 3) := by decide +kernel
theorem dX11_cut_19 : decode cX11_cut 19 = .ok (.iload_n 1, 1) := by decide +kernel
theorem dX11_cut_20 : decode cX11_cut 20 = .ok (.ireturn, 1) := by decide +kernel
theorem dX11_lay_0 : decode cX11_lay 0 = .ok (.iload_n 1, 1) := by decide +kernel
theorem dX11_lay_1 : decode cX11_lay 1 = .ok (.invokestatic 67, 3) := by decide +kernel
theorem dX11_lay_4 : decode cX11_lay 4 = .ok (.ifCond .eq 15, 3) := by decide +kernel
theorem dX11_lay_7 : decode cX11_lay 7 = .ok (.iload_n 2, 1) := by decide +kernel
theorem dX11_lay_8 : decode cX11_lay 8 = .ok (.i2l, 1) := by decide +kernel
theorem dX11_lay_9 : decode cX11_lay 9 = .ok (.lconst 0, 1) := by decide +kernel
theorem dX11_lay_10 : decode cX11_lay 10 = .ok (.ldc2_w 71, 3) := by decide +kernel
theorem dX11_lay_13 : decode cX11_lay 13 = .ok (.invokestatic 58, 3) := by decide +kernel
theorem dX11_lay_16 : decode cX11_lay 16 = .ok (.ifCond .ne 6, 3) := by decide +kernel
theorem dX11_lay_19 : decode cX11_lay 19 = .ok (.bipush (-2), 2) := by decide +kernel
theorem dX11_lay_21 : decode cX11_lay 21 = .ok (.ireturn, 1) := by decide +kernel
theorem dX11_lay_22 : decode cX11_lay 22 = .ok (.aload_n 0, 1) := by decide +kernel
theorem dX11_lay_23 : decode cX11_lay 23 = .ok (.iload_n 1, 1) := by decide +kernel
theorem dX11_lay_24 : decode cX11_lay 24 = .ok (.iload_n 2, 1) := by decide +kernel
theorem dX11_lay_25 : decode cX11_lay 25 = .ok (.iload_n 3, 1) := by decide +kernel
theorem dX11_lay_26 : decode cX11_lay 26 = .ok (.invokevirtual 77, 3) := by decide +kernel
theorem dX11_lay_29 : decode cX11_lay 29 = .ok (.istore 5, 2) := by decide +kernel
theorem dX11_lay_31 : decode cX11_lay 31 = .ok (.iload 5, 2) := by decide +kernel
theorem dX11_lay_33 : decode cX11_lay 33 = .ok (.ifCond .eq 6, 3) := by decide +kernel
theorem dX11_lay_36 : decode cX11_lay 36 = .ok (.iload 5, 2) := by decide +kernel
theorem dX11_lay_38 : decode cX11_lay 38 = .ok (.ireturn, 1) := by decide +kernel
theorem dX11_lay_39 : decode cX11_lay 39 = .ok (.aload_n 0, 1) := by decide +kernel
theorem dX11_lay_40 : decode cX11_lay 40 = .ok (.getfield 16, 3) := by decide +kernel
theorem dX11_lay_43 : decode cX11_lay 43 = .ok (.bipush 60, 2) := by decide +kernel
theorem dX11_lay_45 : decode cX11_lay 45 = .ok (.iload_n 1, 1) := by decide +kernel
theorem dX11_lay_46 : decode cX11_lay 46 = .ok (.imul, 1) := by decide +kernel
theorem dX11_lay_47 : decode cX11_lay 47 = .ok (.iload_n 3, 1) := by decide +kernel
theorem dX11_lay_48 : decode cX11_lay 48 = .ok (.iadd, 1) := by decide +kernel
theorem dX11_lay_49 : decode cX11_lay 49 = .ok (.iload_n 2, 1) := by decide +kernel
theorem dX11_lay_50 : decode cX11_lay 50 = .ok (.iload 4, 2) := by decide +kernel
theorem dX11_lay_52 : decode cX11_lay 52 = .ok (.invokestatic 81, 3) := by decide +kernel
theorem dX11_lay_55 : decode cX11_lay 55 = .ok (.iastore, 1) := by decide +kernel
theorem dX11_lay_56 : decode cX11_lay 56 = .ok (.iconst 1, 1) := by decide +kernel
theorem dX11_lay_57 : decode cX11_lay 57 = .ok (.ireturn, 1) := by decide +kernel
theorem dX11_get_0 : decode cX11_get 0 = .ok (.iload_n 1, 1) := by decide +kernel
theorem dX11_get_1 : decode cX11_get 1 = .ok (.invokestatic 67, 3) := by decide +kernel
theorem dX11_get_4 : decode cX11_get 4 = .ok (.ifCond .eq 25, 3) := by decide +kernel
theorem dX11_get_7 : decode cX11_get 7 = .ok (.iload_n 2, 1) := by decide +kernel
theorem dX11_get_8 : decode cX11_get 8 = .ok (.i2l, 1) := by decide +kernel
theorem dX11_get_9 : decode cX11_get 9 = .ok (.lconst 0, 1) := by decide +kernel
theorem dX11_get_10 : decode cX11_get 10 = .ok (.ldc2_w 71, 3) := by decide +kernel
theorem dX11_get_13 : decode cX11_get 13 = .ok (.invokestatic 58, 3) := by decide +kernel
theorem dX11_get_16 : decode cX11_get 16 = .ok (.ifCond .eq 13, 3) := by decide +kernel
theorem dX11_get_19 : decode cX11_get 19 = .ok (.aload_n 0, 1) := by decide +kernel
theorem dX11_get_20 : decode cX11_get 20 = .ok (.iload_n 1, 1) := by decide +kernel
theorem dX11_get_21 : decode cX11_get 21 = .ok (.iload_n 2, 1) := by decide +kernel
theorem dX11_get_22 : decode cX11_get 22 = .ok (.iload_n 3, 1) := by decide +kernel
theorem dX11_get_23 : decode cX11_get 23 = .ok (.invokevirtual 77, 3) := by decide +kernel
theorem dX11_get_26 : decode cX11_get 26 = .ok (.ifCond .eq 6, 3) := by decide +kernel
theorem dX11_get_29 : decode cX11_get 29 = .ok (.ldc 85, 2) := by decide +kernel
theorem dX11_get_31 : decode cX11_get 31 = .ok (.ireturn, 1) := by decide +kernel
theorem dX11_get_32 : decode cX11_get 32 = .ok (.aload_n 0, 1) := by decide +kernel
theorem dX11_get_33 : decode cX11_get 33 = .ok (.getfield 16, 3) := by decide +kernel
theorem dX11_get_36 : decode cX11_get 36 = .ok (.bipush 60, 2) := by decide +kernel
theorem dX11_get_38 : decode cX11_get 38 = .ok (.iload_n 1, 1) := by decide +kernel
theorem dX11_get_39 : decode cX11_get 39 = .ok (.imul, 1) := by decide +kernel
theorem dX11_get_40 : decode cX11_get 40 = .ok (.iload_n 3, 1) := by decide +kernel
theorem dX11_get_41 : decode cX11_get 41 = .ok (.iadd, 1) := by decide +kernel
theorem dX11_get_42 : decode cX11_get 42 = .ok (.iaload, 1) := by decide +kernel
theorem dX11_get_43 : decode cX11_get 43 = .ok (.ireturn, 1) := by decide +kernel
theorem dX11_copy_0 : decode cX11_copy 0 = .ok (.iload_n 1, 1) := by decide +kernel
theorem dX11_copy_1 : decode cX11_copy 1 = .ok (.invokestatic 67, 3) := by decide +kernel
theorem dX11_copy_4 : decode cX11_copy 4 = .ok (.ifCond .eq 10, 3) := by decide +kernel
theorem dX11_copy_7 : decode cX11_copy 7 = .ok (.iload_n 3, 1) := by decide +kernel
theorem dX11_copy_8 : decode cX11_copy 8 = .ok (.invokestatic 67, 3) := by decide +kernel
theorem dX11_copy_11 : decode cX11_copy 11 = .ok (.ifCond .ne 6, 3) := by decide +kernel
theorem dX11_copy_14 : decode cX11_copy 14 = .ok (.bipush (-2), 2) := by decide +kernel
theorem dX11_copy_16 : decode cX11_copy 16 = .ok (.ireturn, 1) := by decide +kernel
theorem dX11_copy_17 : decode cX11_copy 17 = .ok (.aload_n 0, 1) := by decide +kernel
theorem dX11_copy_18 : decode cX11_copy 18 = .ok (.getfield 7, 3) := by decide +kernel
theorem dX11_copy_21 : decode cX11_copy 21 = .ok (.iload_n 1, 1) := by decide +kernel
theorem dX11_copy_22 : decode cX11_copy 22 = .ok (.iaload, 1) := by decide +kernel
theorem dX11_copy_23 : decode cX11_copy 23 = .ok (.ifCond .lt 12, 3) := by decide +kernel
theorem dX11_copy_26 : decode cX11_copy 26 = .ok (.aload_n 0, 1) := by decide +kernel
theorem dX11_copy_27 : decode cX11_copy 27 = .ok (.getfield 7, 3) := by decide +kernel
theorem dX11_copy_30 : decode cX11_copy 30 = .ok (.iload_n 3, 1) := by decide +kernel
theorem dX11_copy_31 : decode cX11_copy 31 = .ok (.iaload, 1) := by decide +kernel
theorem dX11_copy_32 : decode cX11_copy 32 = .ok (.ifCond .ge 9, 3) := by decide +kernel
theorem dX11_copy_35 : decode cX11_copy 35 = .ok (.aload_n 0, 1) := by decide +kernel
theorem dX11_copy_36 : decode cX11_copy 36 = .ok (.iconst 1, 1) := by decide +kernel
theorem dX11_copy_37 : decode cX11_copy 37 = .ok (.invokevirtual 73, 3) := by decide +kernel
theorem dX11_copy_40 : decode cX11_copy 40 = .ok (.ireturn, 1) := by decide +kernel
theorem dX11_copy_41 : decode cX11_copy 41 = .ok (.aload_n 0, 1) := by decide +kernel
theorem dX11_copy_42 : decode cX11_copy 42 = .ok (.getfield 7, 3) := by decide +kernel
theorem dX11_copy_45 : decode cX11_copy 45 = .ok (.iload_n 1, 1) := by decide +kernel
theorem dX11_copy_46 : decode cX11_copy 46 = .ok (.iaload, 1) := by decide +kernel
theorem dX11_copy_47 : decode cX11_copy 47 = .ok (.aload_n 0, 1) := by decide +kernel
theorem dX11_copy_48 : decode cX11_copy 48 = .ok (.getfield 7, 3) := by decide +kernel
theorem dX11_copy_51 : decode cX11_copy 51 = .ok (.iload_n 3, 1) := by decide +kernel
theorem dX11_copy_52 : decode cX11_copy 52 = .ok (.iaload, 1) := by decide +kernel
theorem dX11_copy_53 : decode cX11_copy 53 = .ok (.if_icmp .eq 9, 3) := by decide +kernel
theorem dX11_copy_56 : decode cX11_copy 56 = .ok (.aload_n 0, 1) := by decide +kernel
theorem dX11_copy_57 : decode cX11_copy 57 = .ok (.iconst 4, 1) := by decide +kernel
theorem dX11_copy_58 : decode cX11_copy 58 = .ok (.invokevirtual 73, 3) := by decide +kernel
theorem dX11_copy_61 : decode cX11_copy 61 = .ok (.ireturn, 1) := by decide +kernel
theorem dX11_copy_62 : decode cX11_copy 62 = .ok (.iload_n 2, 1) := by decide +kernel
theorem dX11_copy_63 : decode cX11_copy 63 = .ok (.ifCond .lt 48, 3) := by decide +kernel
theorem dX11_copy_66 : decode cX11_copy 66 = .ok (.iload 4, 2) := by decide +kernel
theorem dX11_copy_68 : decode cX11_copy 68 = .ok (.ifCond .lt 43, 3) := by decide +kernel
theorem dX11_copy_71 : decode cX11_copy 71 = .ok (.iload 5, 2) := by decide +kernel
theorem dX11_copy_73 : decode cX11_copy 73 = .ok (.ifCond .lt 38, 3) := by decide +kernel
theorem dX11_copy_76 : decode cX11_copy 76 = .ok (.iload_n 2, 1) := by decide +kernel
theorem dX11_copy_77 : decode cX11_copy 77 = .ok (.i2l, 1) := by decide +kernel
theorem dX11_copy_78 : decode cX11_copy 78 = .ok (.iload 5, 2) := by decide +kernel
theorem dX11_copy_80 : decode cX11_copy 80 = .ok (.i2l, 1) := by decide +kernel
theorem dX11_copy_81 : decode cX11_copy 81 = .ok (.ladd, 1) := by decide +kernel
theorem dX11_copy_82 : decode cX11_copy 82 = .ok (.aload_n 0, 1) := by decide +kernel
theorem dX11_copy_83 : decode cX11_copy 83 = .ok (.getfield 13, 3) := by decide +kernel
theorem dX11_copy_86 : decode cX11_copy 86 = .ok (.iload_n 1, 1) := by decide +kernel
theorem dX11_copy_87 : decode cX11_copy 87 = .ok (.iaload, 1) := by decide +kernel
theorem dX11_copy_88 : decode cX11_copy 88 = .ok (.i2l, 1) := by decide +kernel
theorem dX11_copy_89 : decode cX11_copy 89 = .ok (.lcmp, 1) := by decide +kernel
theorem dX11_copy_90 : decode cX11_copy 90 = .ok (.ifCond .gt 21, 3) := by decide +kernel
theorem dX11_copy_93 : decode cX11_copy 93 = .ok (.iload 4, 2) := by decide +kernel
theorem dX11_copy_95 : decode cX11_copy 95 = .ok (.i2l, 1) := by decide +kernel
theorem dX11_copy_96 : decode cX11_copy 96 = .ok (.iload 5, 2) := by decide +kernel
theorem dX11_copy_98 : decode cX11_copy 98 = .ok (.i2l, 1) := by decide +kernel
theorem dX11_copy_99 : decode cX11_copy 99 = .ok (.ladd, 1) := by decide +kernel
theorem dX11_copy_100 : decode cX11_copy 100 = .ok (.aload_n 0, 1) := by decide +kernel
theorem dX11_copy_101 : decode cX11_copy 101 = .ok (.getfield 13, 3) := by decide +kernel
theorem dX11_copy_104 : decode cX11_copy 104 = .ok (.iload_n 3, 1) := by decide +kernel
theorem dX11_copy_105 : decode cX11_copy 105 = .ok (.iaload, 1) := by decide +kernel
theorem dX11_copy_106 : decode cX11_copy 106 = .ok (.i2l, 1) := by decide +kernel
theorem dX11_copy_107 : decode cX11_copy 107 = .ok (.lcmp, 1) := by decide +kernel
theorem dX11_copy_108 : decode cX11_copy 108 = .ok (.ifCond .le 9, 3) := by decide +kernel
theorem dX11_copy_111 : decode cX11_copy 111 = .ok (.aload_n 0, 1) := by decide +kernel
theorem dX11_copy_112 : decode cX11_copy 112 = .ok (.iconst 2, 1) := by decide +kernel
theorem dX11_copy_113 : decode cX11_copy 113 = .ok (.invokevirtual 73, 3) := by decide +kernel
theorem dX11_copy_116 : decode cX11_copy 116 = .ok (.ireturn, 1) := by decide +kernel
theorem dX11_copy_117 : decode cX11_copy 117 = .ok (.iconst 0, 1) := by decide +kernel
theorem dX11_copy_118 : decode cX11_copy 118 = .ok (.istore 6, 2) := by decide +kernel
theorem dX11_copy_120 : decode cX11_copy 120 = .ok (.iload 6, 2) := by decide +kernel
theorem dX11_copy_122 : decode cX11_copy 122 = .ok (.iload 5, 2) := by decide +kernel
theorem dX11_copy_124 : decode cX11_copy 124 = .ok (.if_icmp .ge 30, 3) := by decide +kernel
theorem dX11_copy_127 : decode cX11_copy 127 = .ok (.aload_n 0, 1) := by decide +kernel
theorem dX11_copy_128 : decode cX11_copy 128 = .ok (.getfield 19, 3) := by decide +kernel
theorem dX11_copy_131 : decode cX11_copy 131 = .ok (.iload 6, 2) := by decide +kernel
theorem dX11_copy_133 : decode cX11_copy 133 = .ok (.aload_n 0, 1) := by decide +kernel
theorem dX11_copy_134 : decode cX11_copy 134 = .ok (.getfield 16, 3) := by decide +kernel
theorem dX11_copy_137 : decode cX11_copy 137 = .ok (.bipush 60, 2) := by decide +kernel
theorem dX11_copy_139 : decode cX11_copy 139 = .ok (.iload_n 1, 1) := by decide +kernel
theorem dX11_copy_140 : decode cX11_copy 140 = .ok (.imul, 1) := by decide +kernel
theorem dX11_copy_141 : decode cX11_copy 141 = .ok (.iload_n 2, 1) := by decide +kernel
theorem dX11_copy_142 : decode cX11_copy 142 = .ok (.iadd, 1) := by decide +kernel
theorem dX11_copy_143 : decode cX11_copy 143 = .ok (.iload 6, 2) := by decide +kernel
theorem dX11_copy_145 : decode cX11_copy 145 = .ok (.iadd, 1) := by decide +kernel
theorem dX11_copy_146 : decode cX11_copy 146 = .ok (.iaload, 1) := by decide +kernel
theorem dX11_copy_147 : decode cX11_copy 147 = .ok (.iastore, 1) := by decide +kernel
theorem dX11_copy_148 : decode cX11_copy 148 = .ok (.iinc 6 1, 3) := by decide +kernel
theorem dX11_copy_151 : decode cX11_copy 151 = .ok (.goto (-31), 3) := by decide +kernel
theorem dX11_copy_154 : decode cX11_copy 154 = .ok (.iconst 0, 1) := by decide +kernel
theorem dX11_copy_155 : decode cX11_copy 155 = .ok (.istore 6, 2) := by decide +kernel
theorem dX11_copy_157 : decode cX11_copy 157 = .ok (.iload 6, 2) := by decide +kernel
theorem dX11_copy_159 : decode cX11_copy 159 = .ok (.iload 5, 2) := by decide +kernel
theorem dX11_copy_161 : decode cX11_copy 161 = .ok (.if_icmp .ge 31, 3) := by decide +kernel
theorem dX11_copy_164 : decode cX11_copy 164 = .ok (.aload_n 0, 1) := by decide +kernel
theorem dX11_copy_165 : decode cX11_copy 165 = .ok (.getfield 16, 3) := by decide +kernel
theorem dX11_copy_168 : decode cX11_copy 168 = .ok (.bipush 60, 2) := by decide +kernel
theorem dX11_copy_170 : decode cX11_copy 170 = .ok (.iload_n 3, 1) := by decide +kernel
theorem dX11_copy_171 : decode cX11_copy 171 = .ok (.imul, 1) := by decide +kernel
theorem dX11_copy_172 : decode cX11_copy 172 = .ok (.iload 4, 2) := by decide +kernel
theorem dX11_copy_174 : decode cX11_copy 174 = .ok (.iadd, 1) := by decide +kernel
theorem dX11_copy_175 : decode cX11_copy 175 = .ok (.iload 6, 2) := by decide +kernel
theorem dX11_copy_177 : decode cX11_copy 177 = .ok (.iadd, 1) := by decide +kernel
theorem dX11_copy_178 : decode cX11_copy 178 = .ok (.aload_n 0, 1) := by decide +kernel
theorem dX11_copy_179 : decode cX11_copy 179 = .ok (.getfield 19, 3) := by decide +kernel
theorem dX11_copy_182 : decode cX11_copy 182 = .ok (.iload 6, 2) := by decide +kernel
theorem dX11_copy_184 : decode cX11_copy 184 = .ok (.iaload, 1) := by decide +kernel
theorem dX11_copy_185 : decode cX11_copy 185 = .ok (.iastore, 1) := by decide +kernel
theorem dX11_copy_186 : decode cX11_copy 186 = .ok (.iinc 6 1, 3) := by decide +kernel
theorem dX11_copy_189 : decode cX11_copy 189 = .ok (.goto (-32), 3) := by decide +kernel
theorem dX11_copy_192 : decode cX11_copy 192 = .ok (.iconst 1, 1) := by decide +kernel
theorem dX11_copy_193 : decode cX11_copy 193 = .ok (.ireturn, 1) := by decide +kernel
theorem dX11_type_0 : decode cX11_type 0 = .ok (.iload_n 1, 1) := by decide +kernel
theorem dX11_type_1 : decode cX11_type 1 = .ok (.invokestatic 86, 3) := by decide +kernel
theorem dX11_type_4 : decode cX11_type 4 = .ok (.ifCond .eq 15, 3) := by decide +kernel
theorem dX11_type_7 : decode cX11_type 7 = .ok (.iload_n 2, 1) := by decide +kernel
theorem dX11_type_8 : decode cX11_type 8 = .ok (.i2l, 1) := by decide +kernel
theorem dX11_type_9 : decode cX11_type 9 = .ok (.lconst 0, 1) := by decide +kernel
theorem dX11_type_10 : decode cX11_type 10 = .ok (.ldc2_w 89, 3) := by decide +kernel
theorem dX11_type_13 : decode cX11_type 13 = .ok (.invokestatic 58, 3) := by decide +kernel
theorem dX11_type_16 : decode cX11_type 16 = .ok (.ifCond .ne 6, 3) := by decide +kernel
theorem dX11_type_19 : decode cX11_type 19 = .ok (.bipush (-2), 2) := by decide +kernel
theorem dX11_type_21 : decode cX11_type 21 = .ok (.ireturn, 1) := by decide +kernel
theorem dX11_type_22 : decode cX11_type 22 = .ok (.aload_n 0, 1) := by decide +kernel
theorem dX11_type_23 : decode cX11_type 23 = .ok (.getfield 25, 3) := by decide +kernel
theorem dX11_type_26 : decode cX11_type 26 = .ok (.iload_n 1, 1) := by decide +kernel
theorem dX11_type_27 : decode cX11_type 27 = .ok (.iaload, 1) := by decide +kernel
theorem dX11_type_28 : decode cX11_type 28 = .ok (.iload_n 1, 1) := by decide +kernel
theorem dX11_type_29 : decode cX11_type 29 = .ok (.ifCond .ne 8, 3) := by decide +kernel
theorem dX11_type_32 : decode cX11_type 32 = .ok (.bipush 63, 2) := by decide +kernel
theorem dX11_type_34 : decode cX11_type 34 = .ok (.goto 5, 3) := by decide +kernel
theorem dX11_type_37 : decode cX11_type 37 = .ok (.bipush 59, 2) := by decide +kernel
theorem dX11_type_39 : decode cX11_type 39 = .ok (.if_icmp .ne 6, 3) := by decide +kernel
theorem dX11_type_42 : decode cX11_type 42 = .ok (.bipush (-4), 2) := by decide +kernel
theorem dX11_type_44 : decode cX11_type 44 = .ok (.ireturn, 1) := by decide +kernel
theorem dX11_type_45 : decode cX11_type 45 = .ok (.aload_n 0, 1) := by decide +kernel
theorem dX11_type_46 : decode cX11_type 46 = .ok (.getfield 22, 3) := by decide +kernel
theorem dX11_type_49 : decode cX11_type 49 = .ok (.bipush 64, 2) := by decide +kernel
theorem dX11_type_51 : decode cX11_type 51 = .ok (.iload_n 1, 1) := by decide +kernel
theorem dX11_type_52 : decode cX11_type 52 = .ok (.imul, 1) := by decide +kernel
theorem dX11_type_53 : decode cX11_type 53 = .ok (.aload_n 0, 1) := by decide +kernel
theorem dX11_type_54 : decode cX11_type 54 = .ok (.getfield 25, 3) := by decide +kernel
theorem dX11_type_57 : decode cX11_type 57 = .ok (.iload_n 1, 1) := by decide +kernel
theorem dX11_type_58 : decode cX11_type 58 = .ok (.iaload, 1) := by decide +kernel
theorem dX11_type_59 : decode cX11_type 59 = .ok (.iadd, 1) := by decide +kernel
theorem dX11_type_60 : decode cX11_type 60 = .ok (.iload_n 2, 1) := by decide +kernel
theorem dX11_type_61 : decode cX11_type 61 = .ok (.iastore, 1) := by decide +kernel
theorem dX11_type_62 : decode cX11_type 62 = .ok (.aload_n 0, 1) := by decide +kernel
theorem dX11_type_63 : decode cX11_type 63 = .ok (.getfield 25, 3) := by decide +kernel
theorem dX11_type_66 : decode cX11_type 66 = .ok (.iload_n 1, 1) := by decide +kernel
theorem dX11_type_67 : decode cX11_type 67 = .ok (.dup2, 1) := by decide +kernel
theorem dX11_type_68 : decode cX11_type 68 = .ok (.iaload, 1) := by decide +kernel
theorem dX11_type_69 : decode cX11_type 69 = .ok (.iconst 1, 1) := by decide +kernel
theorem dX11_type_70 : decode cX11_type 70 = .ok (.iadd, 1) := by decide +kernel
theorem dX11_type_71 : decode cX11_type 71 = .ok (.iastore, 1) := by decide +kernel
theorem dX11_type_72 : decode cX11_type 72 = .ok (.aload_n 0, 1) := by decide +kernel
theorem dX11_type_73 : decode cX11_type 73 = .ok (.getfield 25, 3) := by decide +kernel
theorem dX11_type_76 : decode cX11_type 76 = .ok (.iload_n 1, 1) := by decide +kernel
theorem dX11_type_77 : decode cX11_type 77 = .ok (.iaload, 1) := by decide +kernel
theorem dX11_type_78 : decode cX11_type 78 = .ok (.ireturn, 1) := by decide +kernel
theorem dX11_wipe_0 : decode cX11_wipe 0 = .ok (.iload_n 1, 1) := by decide +kernel
theorem dX11_wipe_1 : decode cX11_wipe 1 = .ok (.invokestatic 86, 3) := by decide +kernel
theorem dX11_wipe_4 : decode cX11_wipe 4 = .ok (.ifCond .ne 6, 3) := by decide +kernel
theorem dX11_wipe_7 : decode cX11_wipe 7 = .ok (.bipush (-2), 2) := by decide +kernel
theorem dX11_wipe_9 : decode cX11_wipe 9 = .ok (.ireturn, 1) := by decide +kernel
theorem dX11_wipe_10 : decode cX11_wipe 10 = .ok (.aload_n 0, 1) := by decide +kernel
theorem dX11_wipe_11 : decode cX11_wipe 11 = .ok (.getfield 25, 3) := by decide +kernel
theorem dX11_wipe_14 : decode cX11_wipe 14 = .ok (.iload_n 1, 1) := by decide +kernel
theorem dX11_wipe_15 : decode cX11_wipe 15 = .ok (.iaload, 1) := by decide +kernel
theorem dX11_wipe_16 : decode cX11_wipe 16 = .ok (.istore_n 2, 1) := by decide +kernel
theorem dX11_wipe_17 : decode cX11_wipe 17 = .ok (.aload_n 0, 1) := by decide +kernel
theorem dX11_wipe_18 : decode cX11_wipe 18 = .ok (.getfield 25, 3) := by decide +kernel
theorem dX11_wipe_21 : decode cX11_wipe 21 = .ok (.iload_n 1, 1) := by decide +kernel
theorem dX11_wipe_22 : decode cX11_wipe 22 = .ok (.iconst 0, 1) := by decide +kernel
theorem dX11_wipe_23 : decode cX11_wipe 23 = .ok (.iastore, 1) := by decide +kernel
theorem dX11_wipe_24 : decode cX11_wipe 24 = .ok (.iload_n 2, 1) := by decide +kernel
theorem dX11_wipe_25 : decode cX11_wipe 25 = .ok (.ireturn, 1) := by decide +kernel
theorem dX11_undo_0 : decode cX11_undo 0 = .ok (.iload_n 1, 1) := by decide +kernel
theorem dX11_undo_1 : decode cX11_undo 1 = .ok (.invokestatic 86, 3) := by decide +kernel
theorem dX11_undo_4 : decode cX11_undo 4 = .ok (.ifCond .ne 6, 3) := by decide +kernel
theorem dX11_undo_7 : decode cX11_undo 7 = .ok (.bipush (-2), 2) := by decide +kernel
theorem dX11_undo_9 : decode cX11_undo 9 = .ok (.ireturn, 1) := by decide +kernel
theorem dX11_undo_10 : decode cX11_undo 10 = .ok (.aload_n 0, 1) := by decide +kernel
theorem dX11_undo_11 : decode cX11_undo 11 = .ok (.getfield 25, 3) := by decide +kernel
theorem dX11_undo_14 : decode cX11_undo 14 = .ok (.iload_n 1, 1) := by decide +kernel
theorem dX11_undo_15 : decode cX11_undo 15 = .ok (.iaload, 1) := by decide +kernel
theorem dX11_undo_16 : decode cX11_undo 16 = .ok (.ifCond .ne 6, 3) := by decide +kernel
theorem dX11_undo_19 : decode cX11_undo 19 = .ok (.bipush (-3), 2) := by decide +kernel
theorem dX11_undo_21 : decode cX11_undo 21 = .ok (.ireturn, 1) := by decide +kernel
theorem dX11_undo_22 : decode cX11_undo 22 = .ok (.aload_n 0, 1) := by decide +kernel
theorem dX11_undo_23 : decode cX11_undo 23 = .ok (.getfield 25, 3) := by decide +kernel
theorem dX11_undo_26 : decode cX11_undo 26 = .ok (.iload_n 1, 1) := by decide +kernel
theorem dX11_undo_27 : decode cX11_undo 27 = .ok (.dup2, 1) := by decide +kernel
theorem dX11_undo_28 : decode cX11_undo 28 = .ok (.iaload, 1) := by decide +kernel
theorem dX11_undo_29 : decode cX11_undo 29 = .ok (.iconst 1, 1) := by decide +kernel
theorem dX11_undo_30 : decode cX11_undo 30 = .ok (.isub, 1) := by decide +kernel
theorem dX11_undo_31 : decode cX11_undo 31 = .ok (.iastore, 1) := by decide +kernel
theorem dX11_undo_32 : decode cX11_undo 32 = .ok (.aload_n 0, 1) := by decide +kernel
theorem dX11_undo_33 : decode cX11_undo 33 = .ok (.getfield 25, 3) := by decide +kernel
theorem dX11_undo_36 : decode cX11_undo 36 = .ok (.iload_n 1, 1) := by decide +kernel
theorem dX11_undo_37 : decode cX11_undo 37 = .ok (.iaload, 1) := by decide +kernel
theorem dX11_undo_38 : decode cX11_undo 38 = .ok (.ireturn, 1) := by decide +kernel
theorem dX11_stoneOf_0 : decode cX11_stoneOf 0 = .ok (.iload_n 0, 1) := by decide +kernel
theorem dX11_stoneOf_1 : decode cX11_stoneOf 1 = .ok (.bipush 110, 2) := by decide +kernel
theorem dX11_stoneOf_3 : decode cX11_stoneOf 3 = .ok (.if_icmp .ne 7, 3) := by decide +kernel
theorem dX11_stoneOf_6 : decode cX11_stoneOf 6 = .ok (.iconst 0, 1) := by decide +kernel
theorem dX11_stoneOf_7 : decode cX11_stoneOf 7 = .ok (.goto 34, 3) := by decide +kernel
theorem dX11_stoneOf_10 : decode cX11_stoneOf 10 = .ok (.iload_n 0, 1) := by decide +kernel
theorem dX11_stoneOf_11 : decode cX11_stoneOf 11 = .ok (.bipush 115, 2) := by decide +kernel
theorem dX11_stoneOf_13 : decode cX11_stoneOf 13 = .ok (.if_icmp .ne 7, 3) := by decide +kernel
theorem dX11_stoneOf_16 : decode cX11_stoneOf 16 = .ok (.iconst 1, 1) := by decide +kernel
theorem dX11_stoneOf_17 : decode cX11_stoneOf 17 = .ok (.goto 24, 3) := by decide +kernel
theorem dX11_stoneOf_20 : decode cX11_stoneOf 20 = .ok (.iload_n 0, 1) := by decide +kernel
theorem dX11_stoneOf_21 : decode cX11_stoneOf 21 = .ok (.bipush 78, 2) := by decide +kernel
theorem dX11_stoneOf_23 : decode cX11_stoneOf 23 = .ok (.if_icmp .ne 7, 3) := by decide +kernel
theorem dX11_stoneOf_26 : decode cX11_stoneOf 26 = .ok (.iconst 2, 1) := by decide +kernel
theorem dX11_stoneOf_27 : decode cX11_stoneOf 27 = .ok (.goto 14, 3) := by decide +kernel
theorem dX11_stoneOf_30 : decode cX11_stoneOf 30 = .ok (.iload_n 0, 1) := by decide +kernel
theorem dX11_stoneOf_31 : decode cX11_stoneOf 31 = .ok (.bipush 83, 2) := by decide +kernel
theorem dX11_stoneOf_33 : decode cX11_stoneOf 33 = .ok (.if_icmp .ne 7, 3) := by decide +kernel
theorem dX11_stoneOf_36 : decode cX11_stoneOf 36 = .ok (.iconst 3, 1) := by decide +kernel
theorem dX11_stoneOf_37 : decode cX11_stoneOf 37 = .ok (.goto 4, 3) := by decide +kernel
theorem dX11_stoneOf_40 : decode cX11_stoneOf 40 = .ok (.iconst (-1), 1) := by decide +kernel
theorem dX11_stoneOf_41 : decode cX11_stoneOf 41 = .ok (.ireturn, 1) := by decide +kernel
theorem dX11_readsWall_0 : decode cX11_readsWall 0 = .ok (.aload_n 0, 1) := by decide +kernel
theorem dX11_readsWall_1 : decode cX11_readsWall 1 = .ok (.aload_n 0, 1) := by decide +kernel
theorem dX11_readsWall_2 : decode cX11_readsWall 2 = .ok (.getfield 25, 3) := by decide +kernel
theorem dX11_readsWall_5 : decode cX11_readsWall 5 = .ok (.iconst 0, 1) := by decide +kernel
theorem dX11_readsWall_6 : decode cX11_readsWall 6 = .ok (.iaload, 1) := by decide +kernel
theorem dX11_readsWall_7 : decode cX11_readsWall 7 = .ok (.ifCond .ne 7, 3) := by decide +kernel
theorem dX11_readsWall_10 : decode cX11_readsWall 10 = .ok (.iconst 0, 1) := by decide +kernel
theorem dX11_readsWall_11 : decode cX11_readsWall 11 = .ok (.goto 4, 3) := by decide +kernel
theorem dX11_readsWall_14 : decode cX11_readsWall 14 = .ok (.iconst 1, 1) := by decide +kernel
theorem dX11_readsWall_15 : decode cX11_readsWall 15 = .ok (.putfield 91, 3) := by decide +kernel
theorem dX11_readsWall_18 : decode cX11_readsWall 18 = .ok (.aload_n 0, 1) := by decide +kernel
theorem dX11_readsWall_19 : decode cX11_readsWall 19 = .ok (.getfield 31, 3) := by decide +kernel
theorem dX11_readsWall_22 : decode cX11_readsWall 22 = .ok (.iconst 0, 1) := by decide +kernel
theorem dX11_readsWall_23 : decode cX11_readsWall 23 = .ok (.iconst 0, 1) := by decide +kernel
theorem dX11_readsWall_24 : decode cX11_readsWall 24 = .ok (.iastore, 1) := by decide +kernel
theorem dX11_readsWall_25 : decode cX11_readsWall 25 = .ok (.iconst 0, 1) := by decide +kernel
theorem dX11_readsWall_26 : decode cX11_readsWall 26 = .ok (.istore_n 1, 1) := by decide +kernel
theorem dX11_readsWall_27 : decode cX11_readsWall 27 = .ok (.iload_n 1, 1) := by decide +kernel
theorem dX11_readsWall_28 : decode cX11_readsWall 28 = .ok (.aload_n 0, 1) := by decide +kernel
theorem dX11_readsWall_29 : decode cX11_readsWall 29 = .ok (.getfield 25, 3) := by decide +kernel
theorem dX11_readsWall_32 : decode cX11_readsWall 32 = .ok (.iconst 0, 1) := by decide +kernel
theorem dX11_readsWall_33 : decode cX11_readsWall 33 = .ok (.iaload, 1) := by decide +kernel
theorem dX11_readsWall_34 : decode cX11_readsWall 34 = .ok (.if_icmp .ge 136, 3) := by decide +kernel
theorem dX11_readsWall_37 : decode cX11_readsWall 37 = .ok (.aload_n 0, 1) := by decide +kernel
theorem dX11_readsWall_38 : decode cX11_readsWall 38 = .ok (.getfield 22, 3) := by decide +kernel
theorem dX11_readsWall_41 : decode cX11_readsWall 41 = .ok (.iload_n 1, 1) := by decide +kernel
theorem dX11_readsWall_42 : decode cX11_readsWall 42 = .ok (.iaload, 1) := by decide +kernel
theorem dX11_readsWall_43 : decode cX11_readsWall 43 = .ok (.invokestatic 94, 3) := by decide +kernel
theorem dX11_readsWall_46 : decode cX11_readsWall 46 = .ok (.istore_n 2, 1) := by decide +kernel
theorem dX11_readsWall_47 : decode cX11_readsWall 47 = .ok (.aload_n 0, 1) := by decide +kernel
theorem dX11_readsWall_48 : decode cX11_readsWall 48 = .ok (.getfield 91, 3) := by decide +kernel
theorem dX11_readsWall_51 : decode cX11_readsWall 51 = .ok (.iconst 1, 1) := by decide +kernel
theorem dX11_readsWall_52 : decode cX11_readsWall 52 = .ok (.isub, 1) := by decide +kernel
theorem dX11_readsWall_53 : decode cX11_readsWall 53 = .ok (.istore_n 3, 1) := by decide +kernel
theorem dX11_readsWall_54 : decode cX11_readsWall 54 = .ok (.aload_n 0, 1) := by decide +kernel
theorem dX11_readsWall_55 : decode cX11_readsWall 55 = .ok (.getfield 22, 3) := by decide +kernel
theorem dX11_readsWall_58 : decode cX11_readsWall 58 = .ok (.iload_n 1, 1) := by decide +kernel
theorem dX11_readsWall_59 : decode cX11_readsWall 59 = .ok (.iaload, 1) := by decide +kernel
theorem dX11_readsWall_60 : decode cX11_readsWall 60 = .ok (.bipush 59, 2) := by decide +kernel
theorem dX11_readsWall_62 : decode cX11_readsWall 62 = .ok (.if_icmp .ne 16, 3) := by decide +kernel
theorem dX11_readsWall_65 : decode cX11_readsWall 65 = .ok (.aload_n 0, 1) := by decide +kernel
theorem dX11_readsWall_66 : decode cX11_readsWall 66 = .ok (.getfield 91, 3) := by decide +kernel
theorem dX11_readsWall_69 : decode cX11_readsWall 69 = .ok (.bipush 8, 2) := by decide +kernel
theorem dX11_readsWall_71 : decode cX11_readsWall 71 = .ok (.if_icmp .ge 7, 3) := by decide +kernel
theorem dX11_readsWall_74 : decode cX11_readsWall 74 = .ok (.iconst 1, 1) := by decide +kernel
theorem dX11_readsWall_75 : decode cX11_readsWall 75 = .ok (.goto 4, 3) := by decide +kernel
theorem dX11_readsWall_78 : decode cX11_readsWall 78 = .ok (.iconst 0, 1) := by decide +kernel
theorem dX11_readsWall_79 : decode cX11_readsWall 79 = .ok (.istore 4, 2) := by decide +kernel
theorem dX11_readsWall_81 : decode cX11_readsWall 81 = .ok (.iload 4, 2) := by decide +kernel
theorem dX11_readsWall_83 : decode cX11_readsWall 83 = .ok (.ifCond .ne 26, 3) := by decide +kernel
theorem dX11_readsWall_86 : decode cX11_readsWall 86 = .ok (.iload_n 2, 1) := by decide +kernel
theorem dX11_readsWall_87 : decode cX11_readsWall 87 = .ok (.iconst (-1), 1) := by decide +kernel
theorem dX11_readsWall_88 : decode cX11_readsWall 88 = .ok (.if_icmp .eq 14, 3) := by decide +kernel
theorem dX11_readsWall_91 : decode cX11_readsWall 91 = .ok (.aload_n 0, 1) := by decide +kernel
theorem dX11_readsWall_92 : decode cX11_readsWall 92 = .ok (.getfield 31, 3) := by decide +kernel
theorem dX11_readsWall_95 : decode cX11_readsWall 95 = .ok (.iload_n 3, 1) := by decide +kernel
theorem dX11_readsWall_96 : decode cX11_readsWall 96 = .ok (.iaload, 1) := by decide +kernel
theorem dX11_readsWall_97 : decode cX11_readsWall 97 = .ok (.bipush 8, 2) := by decide +kernel
theorem dX11_readsWall_99 : decode cX11_readsWall 99 = .ok (.if_icmp .ne 10, 3) := by decide +kernel
theorem dX11_readsWall_102 : decode cX11_readsWall 102 = .ok (.aload_n 0, 1) := by decide +kernel
theorem dX11_readsWall_103 : decode cX11_readsWall 103 = .ok (.iconst 0, 1) := by decide +kernel
theorem dX11_readsWall_104 : decode cX11_readsWall 104 = .ok (.putfield 91, 3) := by decide +kernel
theorem dX11_readsWall_107 : decode cX11_readsWall 107 = .ok (.iload_n 1, 1) := by decide +kernel
theorem dX11_readsWall_108 : decode cX11_readsWall 108 = .ok (.ireturn, 1) := by decide +kernel
theorem dX11_readsWall_109 : decode cX11_readsWall 109 = .ok (.iload 4, 2) := by decide +kernel
theorem dX11_readsWall_111 : decode cX11_readsWall 111 = .ok (.ifCond .eq 26, 3) := by decide +kernel
theorem dX11_readsWall_114 : decode cX11_readsWall 114 = .ok (.aload_n 0, 1) := by decide +kernel
theorem dX11_readsWall_115 : decode cX11_readsWall 115 = .ok (.getfield 31, 3) := by decide +kernel
theorem dX11_readsWall_118 : decode cX11_readsWall 118 = .ok (.aload_n 0, 1) := by decide +kernel
theorem dX11_readsWall_119 : decode cX11_readsWall 119 = .ok (.getfield 91, 3) := by decide +kernel
theorem dX11_readsWall_122 : decode cX11_readsWall 122 = .ok (.iconst 0, 1) := by decide +kernel
theorem dX11_readsWall_123 : decode cX11_readsWall 123 = .ok (.iastore, 1) := by decide +kernel
theorem dX11_readsWall_124 : decode cX11_readsWall 124 = .ok (.aload_n 0, 1) := by decide +kernel
theorem dX11_readsWall_125 : decode cX11_readsWall 125 = .ok (.dup, 1) := by decide +kernel
theorem dX11_readsWall_126 : decode cX11_readsWall 126 = .ok (.getfield 91, 3) := by decide +kernel
theorem dX11_readsWall_129 : decode cX11_readsWall 129 = .ok (.iconst 1, 1) := by decide +kernel
theorem dX11_readsWall_130 : decode cX11_readsWall 130 = .ok (.iadd, 1) := by decide +kernel
theorem dX11_readsWall_131 : decode cX11_readsWall 131 = .ok (.putfield 91, 3) := by decide +kernel
theorem dX11_readsWall_134 : decode cX11_readsWall 134 = .ok (.goto 30, 3) := by decide +kernel
theorem dX11_readsWall_137 : decode cX11_readsWall 137 = .ok (.aload_n 0, 1) := by decide +kernel
theorem dX11_readsWall_138 : decode cX11_readsWall 138 = .ok (.getfield 28, 3) := by decide +kernel
theorem dX11_readsWall_141 : decode cX11_readsWall 141 = .ok (.bipush 8, 2) := by decide +kernel
theorem dX11_readsWall_143 : decode cX11_readsWall 143 = .ok (.iload_n 3, 1) := by decide +kernel
theorem dX11_readsWall_144 : decode cX11_readsWall 144 = .ok (.imul, 1) := by decide +kernel
theorem dX11_readsWall_145 : decode cX11_readsWall 145 = .ok (.aload_n 0, 1) := by decide +kernel
theorem dX11_readsWall_146 : decode cX11_readsWall 146 = .ok (.getfield 31, 3) := by decide +kernel
theorem dX11_readsWall_149 : decode cX11_readsWall 149 = .ok (.iload_n 3, 1) := by decide +kernel
theorem dX11_readsWall_150 : decode cX11_readsWall 150 = .ok (.iaload, 1) := by decide +kernel
theorem dX11_readsWall_151 : decode cX11_readsWall 151 = .ok (.iadd, 1) := by decide +kernel
theorem dX11_readsWall_152 : decode cX11_readsWall 152 = .ok (.iload_n 2, 1) := by decide +kernel
theorem dX11_readsWall_153 : decode cX11_readsWall 153 = .ok (.iastore, 1) := by decide +kernel
theorem dX11_readsWall_154 : decode cX11_readsWall 154 = .ok (.aload_n 0, 1) := by decide +kernel
theorem dX11_readsWall_155 : decode cX11_readsWall 155 = .ok (.getfield 31, 3) := by decide +kernel
theorem dX11_readsWall_158 : decode cX11_readsWall 158 = .ok (.iload_n 3, 1) := by decide +kernel
theorem dX11_readsWall_159 : decode cX11_readsWall 159 = .ok (.dup2, 1) := by decide +kernel
theorem dX11_readsWall_160 : decode cX11_readsWall 160 = .ok (.iaload, 1) := by decide +kernel
theorem dX11_readsWall_161 : decode cX11_readsWall 161 = .ok (.iconst 1, 1) := by decide +kernel
theorem dX11_readsWall_162 : decode cX11_readsWall 162 = .ok (.iadd, 1) := by decide +kernel
theorem dX11_readsWall_163 : decode cX11_readsWall 163 = .ok (.iastore, 1) := by decide +kernel
theorem dX11_readsWall_164 : decode cX11_readsWall 164 = .ok (.iinc 1 1, 3) := by decide +kernel
theorem dX11_readsWall_167 : decode cX11_readsWall 167 = .ok (.goto (-140), 3) := by decide +kernel
theorem dX11_readsWall_170 : decode cX11_readsWall 170 = .ok (.iconst (-1), 1) := by decide +kernel
theorem dX11_readsWall_171 : decode cX11_readsWall 171 = .ok (.ireturn, 1) := by decide +kernel
theorem dX11_here_0 : decode cX11_here 0 = .ok (.aload_n 0, 1) := by decide +kernel
theorem dX11_here_1 : decode cX11_here 1 = .ok (.getfield 97, 3) := by decide +kernel
theorem dX11_here_4 : decode cX11_here 4 = .ok (.aload_n 0, 1) := by decide +kernel
theorem dX11_here_5 : decode cX11_here 5 = .ok (.getfield 25, 3) := by decide +kernel
theorem dX11_here_8 : decode cX11_here 8 = .ok (.iconst 1, 1) := by decide +kernel
theorem dX11_here_9 : decode cX11_here 9 = .ok (.iaload, 1) := by decide +kernel
theorem dX11_here_10 : decode cX11_here 10 = .ok (.if_icmp .ge 18, 3) := by decide +kernel
theorem dX11_here_13 : decode cX11_here 13 = .ok (.aload_n 0, 1) := by decide +kernel
theorem dX11_here_14 : decode cX11_here 14 = .ok (.getfield 22, 3) := by decide +kernel
theorem dX11_here_17 : decode cX11_here 17 = .ok (.bipush 64, 2) := by decide +kernel
theorem dX11_here_19 : decode cX11_here 19 = .ok (.aload_n 0, 1) := by decide +kernel
theorem dX11_here_20 : decode cX11_here 20 = .ok (.getfield 97, 3) := by decide +kernel
theorem dX11_here_23 : decode cX11_here 23 = .ok (.iadd, 1) := by decide +kernel
theorem dX11_here_24 : decode cX11_here 24 = .ok (.iaload, 1) := by decide +kernel
theorem dX11_here_25 : decode cX11_here 25 = .ok (.goto 4, 3) := by decide +kernel
theorem dX11_here_28 : decode cX11_here 28 = .ok (.iconst (-1), 1) := by decide +kernel
theorem dX11_here_29 : decode cX11_here 29 = .ok (.ireturn, 1) := by decide +kernel
theorem dX11_figure_0 : decode cX11_figure 0 = .ok (.aload_n 0, 1) := by decide +kernel
theorem dX11_figure_1 : decode cX11_figure 1 = .ok (.invokevirtual 100, 3) := by decide +kernel
theorem dX11_figure_4 : decode cX11_figure 4 = .ok (.istore_n 1, 1) := by decide +kernel
theorem dX11_figure_5 : decode cX11_figure 5 = .ok (.iload_n 1, 1) := by decide +kernel
theorem dX11_figure_6 : decode cX11_figure 6 = .ok (.i2l, 1) := by decide +kernel
theorem dX11_figure_7 : decode cX11_figure 7 = .ok (.ldc2_w 104, 3) := by decide +kernel
theorem dX11_figure_10 : decode cX11_figure 10 = .ok (.ldc2_w 106, 3) := by decide +kernel
theorem dX11_figure_13 : decode cX11_figure 13 = .ok (.invokestatic 58, 3) := by decide +kernel
theorem dX11_figure_16 : decode cX11_figure 16 = .ok (.ifCond .ne 5, 3) := by decide +kernel
theorem dX11_figure_19 : decode cX11_figure 19 = .ok (.iconst (-1), 1) := by decide +kernel
theorem dX11_figure_20 : decode cX11_figure 20 = .ok (.ireturn, 1) := by decide +kernel
theorem dX11_figure_21 : decode cX11_figure 21 = .ok (.aload_n 0, 1) := by decide +kernel
theorem dX11_figure_22 : decode cX11_figure 22 = .ok (.dup, 1) := by decide +kernel
theorem dX11_figure_23 : decode cX11_figure 23 = .ok (.getfield 97, 3) := by decide +kernel
theorem dX11_figure_26 : decode cX11_figure 26 = .ok (.iconst 1, 1) := by decide +kernel
theorem dX11_figure_27 : decode cX11_figure 27 = .ok (.iadd, 1) := by decide +kernel
theorem dX11_figure_28 : decode cX11_figure 28 = .ok (.putfield 97, 3) := by decide +kernel
theorem dX11_figure_31 : decode cX11_figure 31 = .ok (.iload_n 1, 1) := by decide +kernel
theorem dX11_figure_32 : decode cX11_figure 32 = .ok (.bipush 48, 2) := by decide +kernel
theorem dX11_figure_34 : decode cX11_figure 34 = .ok (.isub, 1) := by decide +kernel
theorem dX11_figure_35 : decode cX11_figure 35 = .ok (.ireturn, 1) := by decide +kernel
theorem dX11_readsTurn_0 : decode cX11_readsTurn 0 = .ok (.aload_n 0, 1) := by decide +kernel
theorem dX11_readsTurn_1 : decode cX11_readsTurn 1 = .ok (.getfield 108, 3) := by decide +kernel
theorem dX11_readsTurn_4 : decode cX11_readsTurn 4 = .ok (.bipush 12, 2) := by decide +kernel
theorem dX11_readsTurn_6 : decode cX11_readsTurn 6 = .ok (.if_icmp .ne 5, 3) := by decide +kernel
theorem dX11_readsTurn_9 : decode cX11_readsTurn 9 = .ok (.iconst 0, 1) := by decide +kernel
theorem dX11_readsTurn_10 : decode cX11_readsTurn 10 = .ok (.ireturn, 1) := by decide +kernel
theorem dX11_readsTurn_11 : decode cX11_readsTurn 11 = .ok (.bipush 8, 2) := by decide +kernel
theorem dX11_readsTurn_13 : decode cX11_readsTurn 13 = .ok (.aload_n 0, 1) := by decide +kernel
theorem dX11_readsTurn_14 : decode cX11_readsTurn 14 = .ok (.getfield 108, 3) := by decide +kernel
theorem dX11_readsTurn_17 : decode cX11_readsTurn 17 = .ok (.imul, 1) := by decide +kernel
theorem dX11_readsTurn_18 : decode cX11_readsTurn 18 = .ok (.istore_n 1, 1) := by decide +kernel
theorem dX11_readsTurn_19 : decode cX11_readsTurn 19 = .ok (.aload_n 0, 1) := by decide +kernel
theorem dX11_readsTurn_20 : decode cX11_readsTurn 20 = .ok (.getfield 34, 3) := by decide +kernel
theorem dX11_readsTurn_23 : decode cX11_readsTurn 23 = .ok (.iload_n 1, 1) := by decide +kernel
theorem dX11_readsTurn_24 : decode cX11_readsTurn 24 = .ok (.iconst (-1), 1) := by decide +kernel
theorem dX11_readsTurn_25 : decode cX11_readsTurn 25 = .ok (.iastore, 1) := by decide +kernel
theorem dX11_readsTurn_26 : decode cX11_readsTurn 26 = .ok (.aload_n 0, 1) := by decide +kernel
theorem dX11_readsTurn_27 : decode cX11_readsTurn 27 = .ok (.getfield 34, 3) := by decide +kernel
theorem dX11_readsTurn_30 : decode cX11_readsTurn 30 = .ok (.iload_n 1, 1) := by decide +kernel
theorem dX11_readsTurn_31 : decode cX11_readsTurn 31 = .ok (.iconst 1, 1) := by decide +kernel
theorem dX11_readsTurn_32 : decode cX11_readsTurn 32 = .ok (.iadd, 1) := by decide +kernel
theorem dX11_readsTurn_33 : decode cX11_readsTurn 33 = .ok (.iconst 0, 1) := by decide +kernel
theorem dX11_readsTurn_34 : decode cX11_readsTurn 34 = .ok (.iastore, 1) := by decide +kernel
theorem dX11_readsTurn_35 : decode cX11_readsTurn 35 = .ok (.aload_n 0, 1) := by decide +kernel
theorem dX11_readsTurn_36 : decode cX11_readsTurn 36 = .ok (.invokevirtual 100, 3) := by decide +kernel
theorem dX11_readsTurn_39 : decode cX11_readsTurn 39 = .ok (.bipush 45, 2) := by decide +kernel
theorem dX11_readsTurn_41 : decode cX11_readsTurn 41 = .ok (.if_icmp .ne 35, 3) := by decide +kernel
theorem dX11_readsTurn_44 : decode cX11_readsTurn 44 = .ok (.aload_n 0, 1) := by decide +kernel
theorem dX11_readsTurn_45 : decode cX11_readsTurn 45 = .ok (.dup, 1) := by decide +kernel
theorem dX11_readsTurn_46 : decode cX11_readsTurn 46 = .ok (.getfield 97, 3) := by decide +kernel
theorem dX11_readsTurn_49 : decode cX11_readsTurn 49 = .ok (.iconst 1, 1) := by decide +kernel
theorem dX11_readsTurn_50 : decode cX11_readsTurn 50 = .ok (.iadd, 1) := by decide +kernel
theorem dX11_readsTurn_51 : decode cX11_readsTurn 51 = .ok (.putfield 97, 3) := by decide +kernel
theorem dX11_readsTurn_54 : decode cX11_readsTurn 54 = .ok (.aload_n 0, 1) := by decide +kernel
theorem dX11_readsTurn_55 : decode cX11_readsTurn 55 = .ok (.getfield 34, 3) := by decide +kernel
theorem dX11_readsTurn_58 : decode cX11_readsTurn 58 = .ok (.iload_n 1, 1) := by decide +kernel
theorem dX11_readsTurn_59 : decode cX11_readsTurn 59 = .ok (.aload_n 0, 1) := by decide +kernel
theorem dX11_readsTurn_60 : decode cX11_readsTurn 60 = .ok (.invokevirtual 111, 3) := by decide +kernel
theorem dX11_readsTurn_63 : decode cX11_readsTurn 63 = .ok (.iastore, 1) := by decide +kernel
theorem dX11_readsTurn_64 : decode cX11_readsTurn 64 = .ok (.aload_n 0, 1) := by decide +kernel
theorem dX11_readsTurn_65 : decode cX11_readsTurn 65 = .ok (.getfield 34, 3) := by decide +kernel
theorem dX11_readsTurn_68 : decode cX11_readsTurn 68 = .ok (.iload_n 1, 1) := by decide +kernel
theorem dX11_readsTurn_69 : decode cX11_readsTurn 69 = .ok (.iaload, 1) := by decide +kernel
theorem dX11_readsTurn_70 : decode cX11_readsTurn 70 = .ok (.iconst (-1), 1) := by decide +kernel
theorem dX11_readsTurn_71 : decode cX11_readsTurn 71 = .ok (.if_icmp .ne 5, 3) := by decide +kernel
theorem dX11_readsTurn_74 : decode cX11_readsTurn 74 = .ok (.iconst 0, 1) := by decide +kernel
theorem dX11_readsTurn_75 : decode cX11_readsTurn 75 = .ok (.ireturn, 1) := by decide +kernel
theorem dX11_readsTurn_76 : decode cX11_readsTurn 76 = .ok (.aload_n 0, 1) := by decide +kernel
theorem dX11_readsTurn_77 : decode cX11_readsTurn 77 = .ok (.getfield 34, 3) := by decide +kernel
theorem dX11_readsTurn_80 : decode cX11_readsTurn 80 = .ok (.iload_n 1, 1) := by decide +kernel
theorem dX11_readsTurn_81 : decode cX11_readsTurn 81 = .ok (.iconst 1, 1) := by decide +kernel
theorem dX11_readsTurn_82 : decode cX11_readsTurn 82 = .ok (.iadd, 1) := by decide +kernel
theorem dX11_readsTurn_83 : decode cX11_readsTurn 83 = .ok (.iaload, 1) := by decide +kernel
theorem dX11_readsTurn_84 : decode cX11_readsTurn 84 = .ok (.iconst 3, 1) := by decide +kernel
theorem dX11_readsTurn_85 : decode cX11_readsTurn 85 = .ok (.if_icmp .ge 101, 3) := by decide +kernel
theorem dX11_readsTurn_88 : decode cX11_readsTurn 88 = .ok (.aload_n 0, 1) := by decide +kernel
theorem dX11_readsTurn_89 : decode cX11_readsTurn 89 = .ok (.invokevirtual 100, 3) := by decide +kernel
theorem dX11_readsTurn_92 : decode cX11_readsTurn 92 = .ok (.invokestatic 94, 3) := by decide +kernel
theorem dX11_readsTurn_95 : decode cX11_readsTurn 95 = .ok (.iconst (-1), 1) := by decide +kernel
theorem dX11_readsTurn_96 : decode cX11_readsTurn 96 = .ok (.if_icmp .eq 90, 3) := by decide +kernel
theorem dX11_readsTurn_99 : decode cX11_readsTurn 99 = .ok (.aload_n 0, 1) := by decide +kernel
theorem dX11_readsTurn_100 : decode cX11_readsTurn 100 = .ok (.getfield 34, 3) := by decide +kernel
theorem dX11_readsTurn_103 : decode cX11_readsTurn 103 = .ok (.iload_n 1, 1) := by decide +kernel
theorem dX11_readsTurn_104 : decode cX11_readsTurn 104 = .ok (.iconst 1, 1) := by decide +kernel
theorem dX11_readsTurn_105 : decode cX11_readsTurn 105 = .ok (.iadd, 1) := by decide +kernel
theorem dX11_readsTurn_106 : decode cX11_readsTurn 106 = .ok (.iaload, 1) := by decide +kernel
theorem dX11_readsTurn_107 : decode cX11_readsTurn 107 = .ok (.istore_n 2, 1) := by decide +kernel
theorem dX11_readsTurn_108 : decode cX11_readsTurn 108 = .ok (.aload_n 0, 1) := by decide +kernel
theorem dX11_readsTurn_109 : decode cX11_readsTurn 109 = .ok (.getfield 34, 3) := by decide +kernel
theorem dX11_readsTurn_112 : decode cX11_readsTurn 112 = .ok (.iload_n 1, 1) := by decide +kernel
theorem dX11_readsTurn_113 : decode cX11_readsTurn 113 = .ok (.iconst 2, 1) := by decide +kernel
theorem dX11_readsTurn_114 : decode cX11_readsTurn 114 = .ok (.iadd, 1) := by decide +kernel
theorem dX11_readsTurn_115 : decode cX11_readsTurn 115 = .ok (.iconst 2, 1) := by decide +kernel
theorem dX11_readsTurn_116 : decode cX11_readsTurn 116 = .ok (.iload_n 2, 1) := by decide +kernel
theorem dX11_readsTurn_117 : decode cX11_readsTurn 117 = .ok (.imul, 1) := by decide +kernel
theorem dX11_readsTurn_118 : decode cX11_readsTurn 118 = .ok (.iadd, 1) := by decide +kernel
theorem dX11_readsTurn_119 : decode cX11_readsTurn 119 = .ok (.aload_n 0, 1) := by decide +kernel
theorem dX11_readsTurn_120 : decode cX11_readsTurn 120 = .ok (.invokevirtual 100, 3) := by decide +kernel
theorem dX11_readsTurn_123 : decode cX11_readsTurn 123 = .ok (.invokestatic 94, 3) := by decide +kernel
theorem dX11_readsTurn_126 : decode cX11_readsTurn 126 = .ok (.iastore, 1) := by decide +kernel
theorem dX11_readsTurn_127 : decode cX11_readsTurn 127 = .ok (.aload_n 0, 1) := by decide +kernel
theorem dX11_readsTurn_128 : decode cX11_readsTurn 128 = .ok (.dup, 1) := by decide +kernel
theorem dX11_readsTurn_129 : decode cX11_readsTurn 129 = .ok (.getfield 97, 3) := by decide +kernel
theorem dX11_readsTurn_132 : decode cX11_readsTurn 132 = .ok (.iconst 1, 1) := by decide +kernel
theorem dX11_readsTurn_133 : decode cX11_readsTurn 133 = .ok (.iadd, 1) := by decide +kernel
theorem dX11_readsTurn_134 : decode cX11_readsTurn 134 = .ok (.putfield 97, 3) := by decide +kernel
theorem dX11_readsTurn_137 : decode cX11_readsTurn 137 = .ok (.aload_n 0, 1) := by decide +kernel
theorem dX11_readsTurn_138 : decode cX11_readsTurn 138 = .ok (.getfield 34, 3) := by decide +kernel
theorem dX11_readsTurn_141 : decode cX11_readsTurn 141 = .ok (.iload_n 1, 1) := by decide +kernel
theorem dX11_readsTurn_142 : decode cX11_readsTurn 142 = .ok (.iconst 3, 1) := by decide +kernel
theorem dX11_readsTurn_143 : decode cX11_readsTurn 143 = .ok (.iadd, 1) := by decide +kernel
theorem dX11_readsTurn_144 : decode cX11_readsTurn 144 = .ok (.iconst 2, 1) := by decide +kernel
theorem dX11_readsTurn_145 : decode cX11_readsTurn 145 = .ok (.iload_n 2, 1) := by decide +kernel
theorem dX11_readsTurn_146 : decode cX11_readsTurn 146 = .ok (.imul, 1) := by decide +kernel
theorem dX11_readsTurn_147 : decode cX11_readsTurn 147 = .ok (.iadd, 1) := by decide +kernel
theorem dX11_readsTurn_148 : decode cX11_readsTurn 148 = .ok (.aload_n 0, 1) := by decide +kernel
theorem dX11_readsTurn_149 : decode cX11_readsTurn 149 = .ok (.invokevirtual 111, 3) := by decide +kernel
theorem dX11_readsTurn_152 : decode cX11_readsTurn 152 = .ok (.iastore, 1) := by decide +kernel
theorem dX11_readsTurn_153 : decode cX11_readsTurn 153 = .ok (.aload_n 0, 1) := by decide +kernel
theorem dX11_readsTurn_154 : decode cX11_readsTurn 154 = .ok (.getfield 34, 3) := by decide +kernel
theorem dX11_readsTurn_157 : decode cX11_readsTurn 157 = .ok (.iload_n 1, 1) := by decide +kernel
theorem dX11_readsTurn_158 : decode cX11_readsTurn 158 = .ok (.iconst 3, 1) := by decide +kernel
theorem dX11_readsTurn_159 : decode cX11_readsTurn 159 = .ok (.iadd, 1) := by decide +kernel
theorem dX11_readsTurn_160 : decode cX11_readsTurn 160 = .ok (.iconst 2, 1) := by decide +kernel
theorem dX11_readsTurn_161 : decode cX11_readsTurn 161 = .ok (.iload_n 2, 1) := by decide +kernel
theorem dX11_readsTurn_162 : decode cX11_readsTurn 162 = .ok (.imul, 1) := by decide +kernel
theorem dX11_readsTurn_163 : decode cX11_readsTurn 163 = .ok (.iadd, 1) := by decide +kernel
theorem dX11_readsTurn_164 : decode cX11_readsTurn 164 = .ok (.iaload, 1) := by decide +kernel
theorem dX11_readsTurn_165 : decode cX11_readsTurn 165 = .ok (.iconst (-1), 1) := by decide +kernel
theorem dX11_readsTurn_166 : decode cX11_readsTurn 166 = .ok (.if_icmp .ne 5, 3) := by decide +kernel
theorem dX11_readsTurn_169 : decode cX11_readsTurn 169 = .ok (.iconst 0, 1) := by decide +kernel
theorem dX11_readsTurn_170 : decode cX11_readsTurn 170 = .ok (.ireturn, 1) := by decide +kernel
theorem dX11_readsTurn_171 : decode cX11_readsTurn 171 = .ok (.aload_n 0, 1) := by decide +kernel
theorem dX11_readsTurn_172 : decode cX11_readsTurn 172 = .ok (.getfield 34, 3) := by decide +kernel
theorem dX11_readsTurn_175 : decode cX11_readsTurn 175 = .ok (.iload_n 1, 1) := by decide +kernel
theorem dX11_readsTurn_176 : decode cX11_readsTurn 176 = .ok (.iconst 1, 1) := by decide +kernel
theorem dX11_readsTurn_177 : decode cX11_readsTurn 177 = .ok (.iadd, 1) := by decide +kernel
theorem dX11_readsTurn_178 : decode cX11_readsTurn 178 = .ok (.dup2, 1) := by decide +kernel
theorem dX11_readsTurn_179 : decode cX11_readsTurn 179 = .ok (.iaload, 1) := by decide +kernel
theorem dX11_readsTurn_180 : decode cX11_readsTurn 180 = .ok (.iconst 1, 1) := by decide +kernel
theorem dX11_readsTurn_181 : decode cX11_readsTurn 181 = .ok (.iadd, 1) := by decide +kernel
theorem dX11_readsTurn_182 : decode cX11_readsTurn 182 = .ok (.iastore, 1) := by decide +kernel
theorem dX11_readsTurn_183 : decode cX11_readsTurn 183 = .ok (.goto (-107), 3) := by decide +kernel
theorem dX11_readsTurn_186 : decode cX11_readsTurn 186 = .ok (.aload_n 0, 1) := by decide +kernel
theorem dX11_readsTurn_187 : decode cX11_readsTurn 187 = .ok (.dup, 1) := by decide +kernel
theorem dX11_readsTurn_188 : decode cX11_readsTurn 188 = .ok (.getfield 108, 3) := by decide +kernel
theorem dX11_readsTurn_191 : decode cX11_readsTurn 191 = .ok (.aload_n 0, 1) := by decide +kernel
theorem dX11_readsTurn_192 : decode cX11_readsTurn 192 = .ok (.getfield 34, 3) := by decide +kernel
theorem dX11_readsTurn_195 : decode cX11_readsTurn 195 = .ok (.iload_n 1, 1) := by decide +kernel
theorem dX11_readsTurn_196 : decode cX11_readsTurn 196 = .ok (.iconst 1, 1) := by decide +kernel
theorem dX11_readsTurn_197 : decode cX11_readsTurn 197 = .ok (.iadd, 1) := by decide +kernel
theorem dX11_readsTurn_198 : decode cX11_readsTurn 198 = .ok (.iaload, 1) := by decide +kernel
theorem dX11_readsTurn_199 : decode cX11_readsTurn 199 = .ok (.ifCond .le 7, 3) := by decide +kernel
theorem dX11_readsTurn_202 : decode cX11_readsTurn 202 = .ok (.iconst 1, 1) := by decide +kernel
theorem dX11_readsTurn_203 : decode cX11_readsTurn 203 = .ok (.goto 4, 3) := by decide +kernel
theorem dX11_readsTurn_206 : decode cX11_readsTurn 206 = .ok (.iconst 0, 1) := by decide +kernel
theorem dX11_readsTurn_207 : decode cX11_readsTurn 207 = .ok (.iadd, 1) := by decide +kernel
theorem dX11_readsTurn_208 : decode cX11_readsTurn 208 = .ok (.putfield 108, 3) := by decide +kernel
theorem dX11_readsTurn_211 : decode cX11_readsTurn 211 = .ok (.aload_n 0, 1) := by decide +kernel
theorem dX11_readsTurn_212 : decode cX11_readsTurn 212 = .ok (.getfield 34, 3) := by decide +kernel
theorem dX11_readsTurn_215 : decode cX11_readsTurn 215 = .ok (.iload_n 1, 1) := by decide +kernel
theorem dX11_readsTurn_216 : decode cX11_readsTurn 216 = .ok (.iconst 1, 1) := by decide +kernel
theorem dX11_readsTurn_217 : decode cX11_readsTurn 217 = .ok (.iadd, 1) := by decide +kernel
theorem dX11_readsTurn_218 : decode cX11_readsTurn 218 = .ok (.iaload, 1) := by decide +kernel
theorem dX11_readsTurn_219 : decode cX11_readsTurn 219 = .ok (.ifCond .le 7, 3) := by decide +kernel
theorem dX11_readsTurn_222 : decode cX11_readsTurn 222 = .ok (.iconst 1, 1) := by decide +kernel
theorem dX11_readsTurn_223 : decode cX11_readsTurn 223 = .ok (.goto 4, 3) := by decide +kernel
theorem dX11_readsTurn_226 : decode cX11_readsTurn 226 = .ok (.iconst 0, 1) := by decide +kernel
theorem dX11_readsTurn_227 : decode cX11_readsTurn 227 = .ok (.ireturn, 1) := by decide +kernel
theorem dX11_readsTurns_0 : decode cX11_readsTurns 0 = .ok (.aload_n 0, 1) := by decide +kernel
theorem dX11_readsTurns_1 : decode cX11_readsTurns 1 = .ok (.iconst 0, 1) := by decide +kernel
theorem dX11_readsTurns_2 : decode cX11_readsTurns 2 = .ok (.putfield 97, 3) := by decide +kernel
theorem dX11_readsTurns_5 : decode cX11_readsTurns 5 = .ok (.aload_n 0, 1) := by decide +kernel
theorem dX11_readsTurns_6 : decode cX11_readsTurns 6 = .ok (.iconst 0, 1) := by decide +kernel
theorem dX11_readsTurns_7 : decode cX11_readsTurns 7 = .ok (.putfield 108, 3) := by decide +kernel
theorem dX11_readsTurns_10 : decode cX11_readsTurns 10 = .ok (.aload_n 0, 1) := by decide +kernel
theorem dX11_readsTurns_11 : decode cX11_readsTurns 11 = .ok (.getfield 25, 3) := by decide +kernel
theorem dX11_readsTurns_14 : decode cX11_readsTurns 14 = .ok (.iconst 1, 1) := by decide +kernel
theorem dX11_readsTurns_15 : decode cX11_readsTurns 15 = .ok (.iaload, 1) := by decide +kernel
theorem dX11_readsTurns_16 : decode cX11_readsTurns 16 = .ok (.ifCond .le 7, 3) := by decide +kernel
theorem dX11_readsTurns_19 : decode cX11_readsTurns 19 = .ok (.iconst 1, 1) := by decide +kernel
theorem dX11_readsTurns_20 : decode cX11_readsTurns 20 = .ok (.goto 4, 3) := by decide +kernel
theorem dX11_readsTurns_23 : decode cX11_readsTurns 23 = .ok (.iconst 0, 1) := by decide +kernel
theorem dX11_readsTurns_24 : decode cX11_readsTurns 24 = .ok (.istore_n 1, 1) := by decide +kernel
theorem dX11_readsTurns_25 : decode cX11_readsTurns 25 = .ok (.iload_n 1, 1) := by decide +kernel
theorem dX11_readsTurns_26 : decode cX11_readsTurns 26 = .ok (.ifCond .eq 79, 3) := by decide +kernel
theorem dX11_readsTurns_29 : decode cX11_readsTurns 29 = .ok (.aload_n 0, 1) := by decide +kernel
theorem dX11_readsTurns_30 : decode cX11_readsTurns 30 = .ok (.invokevirtual 114, 3) := by decide +kernel
theorem dX11_readsTurns_33 : decode cX11_readsTurns 33 = .ok (.istore_n 2, 1) := by decide +kernel
theorem dX11_readsTurns_34 : decode cX11_readsTurns 34 = .ok (.iload_n 2, 1) := by decide +kernel
theorem dX11_readsTurns_35 : decode cX11_readsTurns 35 = .ok (.ifCond .eq 20, 3) := by decide +kernel
theorem dX11_readsTurns_38 : decode cX11_readsTurns 38 = .ok (.aload_n 0, 1) := by decide +kernel
theorem dX11_readsTurns_39 : decode cX11_readsTurns 39 = .ok (.getfield 97, 3) := by decide +kernel
theorem dX11_readsTurns_42 : decode cX11_readsTurns 42 = .ok (.aload_n 0, 1) := by decide +kernel
theorem dX11_readsTurns_43 : decode cX11_readsTurns 43 = .ok (.getfield 25, 3) := by decide +kernel
theorem dX11_readsTurns_46 : decode cX11_readsTurns 46 = .ok (.iconst 1, 1) := by decide +kernel
theorem dX11_readsTurns_47 : decode cX11_readsTurns 47 = .ok (.iaload, 1) := by decide +kernel
theorem dX11_readsTurns_48 : decode cX11_readsTurns 48 = .ok (.if_icmp .ge 7, 3) := by decide +kernel
theorem dX11_readsTurns_51 : decode cX11_readsTurns 51 = .ok (.iconst 1, 1) := by decide +kernel
theorem dX11_readsTurns_52 : decode cX11_readsTurns 52 = .ok (.goto 4, 3) := by decide +kernel
theorem dX11_readsTurns_55 : decode cX11_readsTurns 55 = .ok (.iconst 0, 1) := by decide +kernel
theorem dX11_readsTurns_56 : decode cX11_readsTurns 56 = .ok (.istore_n 1, 1) := by decide +kernel
theorem dX11_readsTurns_57 : decode cX11_readsTurns 57 = .ok (.iload_n 2, 1) := by decide +kernel
theorem dX11_readsTurns_58 : decode cX11_readsTurns 58 = .ok (.ifCond .eq 16, 3) := by decide +kernel
theorem dX11_readsTurns_61 : decode cX11_readsTurns 61 = .ok (.iload_n 1, 1) := by decide +kernel
theorem dX11_readsTurns_62 : decode cX11_readsTurns 62 = .ok (.ifCond .eq 22, 3) := by decide +kernel
theorem dX11_readsTurns_65 : decode cX11_readsTurns 65 = .ok (.aload_n 0, 1) := by decide +kernel
theorem dX11_readsTurns_66 : decode cX11_readsTurns 66 = .ok (.invokevirtual 100, 3) := by decide +kernel
theorem dX11_readsTurns_69 : decode cX11_readsTurns 69 = .ok (.bipush 59, 2) := by decide +kernel
theorem dX11_readsTurns_71 : decode cX11_readsTurns 71 = .ok (.if_icmp .eq 13, 3) := by decide +kernel
theorem dX11_readsTurns_74 : decode cX11_readsTurns 74 = .ok (.aload_n 0, 1) := by decide +kernel
theorem dX11_readsTurns_75 : decode cX11_readsTurns 75 = .ok (.iconst 0, 1) := by decide +kernel
theorem dX11_readsTurns_76 : decode cX11_readsTurns 76 = .ok (.putfield 108, 3) := by decide +kernel
theorem dX11_readsTurns_79 : decode cX11_readsTurns 79 = .ok (.aload_n 0, 1) := by decide +kernel
theorem dX11_readsTurns_80 : decode cX11_readsTurns 80 = .ok (.getfield 97, 3) := by decide +kernel
theorem dX11_readsTurns_83 : decode cX11_readsTurns 83 = .ok (.ireturn, 1) := by decide +kernel
theorem dX11_readsTurns_84 : decode cX11_readsTurns 84 = .ok (.aload_n 0, 1) := by decide +kernel
theorem dX11_readsTurns_85 : decode cX11_readsTurns 85 = .ok (.dup, 1) := by decide +kernel
theorem dX11_readsTurns_86 : decode cX11_readsTurns 86 = .ok (.getfield 97, 3) := by decide +kernel
theorem dX11_readsTurns_89 : decode cX11_readsTurns 89 = .ok (.iload_n 1, 1) := by decide +kernel
theorem dX11_readsTurns_90 : decode cX11_readsTurns 90 = .ok (.ifCond .eq 7, 3) := by decide +kernel
theorem dX11_readsTurns_93 : decode cX11_readsTurns 93 = .ok (.iconst 1, 1) := by decide +kernel
theorem dX11_readsTurns_94 : decode cX11_readsTurns 94 = .ok (.goto 4, 3) := by decide +kernel
theorem dX11_readsTurns_97 : decode cX11_readsTurns 97 = .ok (.iconst 0, 1) := by decide +kernel
theorem dX11_readsTurns_98 : decode cX11_readsTurns 98 = .ok (.iadd, 1) := by decide +kernel
theorem dX11_readsTurns_99 : decode cX11_readsTurns 99 = .ok (.putfield 97, 3) := by decide +kernel
theorem dX11_readsTurns_102 : decode cX11_readsTurns 102 = .ok (.goto (-77), 3) := by decide +kernel
theorem dX11_readsTurns_105 : decode cX11_readsTurns 105 = .ok (.iconst (-1), 1) := by decide +kernel
theorem dX11_readsTurns_106 : decode cX11_readsTurns 106 = .ok (.ireturn, 1) := by decide +kernel
theorem dX11_reads_0 : decode cX11_reads 0 = .ok (.aload_n 0, 1) := by decide +kernel
theorem dX11_reads_1 : decode cX11_reads 1 = .ok (.invokevirtual 118, 3) := by decide +kernel
theorem dX11_reads_4 : decode cX11_reads 4 = .ok (.pop, 1) := by decide +kernel
theorem dX11_reads_5 : decode cX11_reads 5 = .ok (.aload_n 0, 1) := by decide +kernel
theorem dX11_reads_6 : decode cX11_reads 6 = .ok (.invokevirtual 121, 3) := by decide +kernel
theorem dX11_reads_9 : decode cX11_reads 9 = .ok (.pop, 1) := by decide +kernel
theorem dX11_reads_10 : decode cX11_reads 10 = .ok (.return_, 1) := by decide +kernel
theorem dX11_fault_0 : decode cX11_fault 0 = .ok (.iload_n 1, 1) := by decide +kernel
theorem dX11_fault_1 : decode cX11_fault 1 = .ok (.invokestatic 86, 3) := by decide +kernel
theorem dX11_fault_4 : decode cX11_fault 4 = .ok (.ifCond .ne 8, 3) := by decide +kernel
theorem dX11_fault_7 : decode cX11_fault 7 = .ok (.bipush (-2), 2) := by decide +kernel
theorem dX11_fault_9 : decode cX11_fault 9 = .ok (.goto 18, 3) := by decide +kernel
theorem dX11_fault_12 : decode cX11_fault 12 = .ok (.iload_n 1, 1) := by decide +kernel
theorem dX11_fault_13 : decode cX11_fault 13 = .ok (.ifCond .ne 10, 3) := by decide +kernel
theorem dX11_fault_16 : decode cX11_fault 16 = .ok (.aload_n 0, 1) := by decide +kernel
theorem dX11_fault_17 : decode cX11_fault 17 = .ok (.invokevirtual 118, 3) := by decide +kernel
theorem dX11_fault_20 : decode cX11_fault 20 = .ok (.goto 7, 3) := by decide +kernel
theorem dX11_fault_23 : decode cX11_fault 23 = .ok (.aload_n 0, 1) := by decide +kernel
theorem dX11_fault_24 : decode cX11_fault 24 = .ok (.invokevirtual 121, 3) := by decide +kernel
theorem dX11_fault_27 : decode cX11_fault 27 = .ok (.ireturn, 1) := by decide +kernel
theorem dX11_mostOf_0 : decode cX11_mostOf 0 = .ok (.iload_n 0, 1) := by decide +kernel
theorem dX11_mostOf_1 : decode cX11_mostOf 1 = .ok (.ifCond .ne 7, 3) := by decide +kernel
theorem dX11_mostOf_4 : decode cX11_mostOf 4 = .ok (.iconst 1, 1) := by decide +kernel
theorem dX11_mostOf_5 : decode cX11_mostOf 5 = .ok (.goto 26, 3) := by decide +kernel
theorem dX11_mostOf_8 : decode cX11_mostOf 8 = .ok (.iload_n 0, 1) := by decide +kernel
theorem dX11_mostOf_9 : decode cX11_mostOf 9 = .ok (.iconst 2, 1) := by decide +kernel
theorem dX11_mostOf_10 : decode cX11_mostOf 10 = .ok (.if_icmp .ne 8, 3) := by decide +kernel
theorem dX11_mostOf_13 : decode cX11_mostOf 13 = .ok (.bipush 9, 2) := by decide +kernel
theorem dX11_mostOf_15 : decode cX11_mostOf 15 = .ok (.goto 16, 3) := by decide +kernel
theorem dX11_mostOf_18 : decode cX11_mostOf 18 = .ok (.iload_n 0, 1) := by decide +kernel
theorem dX11_mostOf_19 : decode cX11_mostOf 19 = .ok (.iconst 5, 1) := by decide +kernel
theorem dX11_mostOf_20 : decode cX11_mostOf 20 = .ok (.if_icmp .ne 9, 3) := by decide +kernel
theorem dX11_mostOf_23 : decode cX11_mostOf 23 = .ok (.sipush 255, 3) := by decide +kernel
theorem dX11_mostOf_26 : decode cX11_mostOf 26 = .ok (.goto 5, 3) := by decide +kernel
theorem dX11_mostOf_29 : decode cX11_mostOf 29 = .ok (.bipush 16, 2) := by decide +kernel
theorem dX11_mostOf_31 : decode cX11_mostOf 31 = .ok (.ireturn, 1) := by decide +kernel
theorem dX11_set_0 : decode cX11_set 0 = .ok (.iload_n 1, 1) := by decide +kernel
theorem dX11_set_1 : decode cX11_set 1 = .ok (.i2l, 1) := by decide +kernel
theorem dX11_set_2 : decode cX11_set 2 = .ok (.lconst 0, 1) := by decide +kernel
theorem dX11_set_3 : decode cX11_set 3 = .ok (.ldc2_w 124, 3) := by decide +kernel
theorem dX11_set_6 : decode cX11_set 6 = .ok (.invokestatic 58, 3) := by decide +kernel
theorem dX11_set_9 : decode cX11_set 9 = .ok (.ifCond .eq 17, 3) := by decide +kernel
theorem dX11_set_12 : decode cX11_set 12 = .ok (.iload_n 2, 1) := by decide +kernel
theorem dX11_set_13 : decode cX11_set 13 = .ok (.i2l, 1) := by decide +kernel
theorem dX11_set_14 : decode cX11_set 14 = .ok (.lconst 0, 1) := by decide +kernel
theorem dX11_set_15 : decode cX11_set 15 = .ok (.iload_n 1, 1) := by decide +kernel
theorem dX11_set_16 : decode cX11_set 16 = .ok (.invokestatic 126, 3) := by decide +kernel
theorem dX11_set_19 : decode cX11_set 19 = .ok (.i2l, 1) := by decide +kernel
theorem dX11_set_20 : decode cX11_set 20 = .ok (.invokestatic 58, 3) := by decide +kernel
theorem dX11_set_23 : decode cX11_set 23 = .ok (.ifCond .ne 6, 3) := by decide +kernel
theorem dX11_set_26 : decode cX11_set 26 = .ok (.bipush (-2), 2) := by decide +kernel
theorem dX11_set_28 : decode cX11_set 28 = .ok (.ireturn, 1) := by decide +kernel
theorem dX11_set_29 : decode cX11_set 29 = .ok (.aload_n 0, 1) := by decide +kernel
theorem dX11_set_30 : decode cX11_set 30 = .ok (.getfield 37, 3) := by decide +kernel
theorem dX11_set_33 : decode cX11_set 33 = .ok (.iload_n 1, 1) := by decide +kernel
theorem dX11_set_34 : decode cX11_set 34 = .ok (.iaload, 1) := by decide +kernel
theorem dX11_set_35 : decode cX11_set 35 = .ok (.istore_n 3, 1) := by decide +kernel
theorem dX11_set_36 : decode cX11_set 36 = .ok (.aload_n 0, 1) := by decide +kernel
theorem dX11_set_37 : decode cX11_set 37 = .ok (.getfield 37, 3) := by decide +kernel
theorem dX11_set_40 : decode cX11_set 40 = .ok (.iload_n 1, 1) := by decide +kernel
theorem dX11_set_41 : decode cX11_set 41 = .ok (.iload_n 2, 1) := by decide +kernel
theorem dX11_set_42 : decode cX11_set 42 = .ok (.iastore, 1) := by decide +kernel
theorem dX11_set_43 : decode cX11_set 43 = .ok (.iload_n 3, 1) := by decide +kernel
theorem dX11_set_44 : decode cX11_set 44 = .ok (.ireturn, 1) := by decide +kernel
theorem dX11_begins_0 : decode cX11_begins 0 = .ok (.iconst 0, 1) := by decide +kernel
theorem dX11_begins_1 : decode cX11_begins 1 = .ok (.istore_n 1, 1) := by decide +kernel
theorem dX11_begins_2 : decode cX11_begins 2 = .ok (.iload_n 1, 1) := by decide +kernel
theorem dX11_begins_3 : decode cX11_begins 3 = .ok (.bipush 64, 2) := by decide +kernel
theorem dX11_begins_5 : decode cX11_begins 5 = .ok (.if_icmp .ge 21, 3) := by decide +kernel
theorem dX11_begins_8 : decode cX11_begins 8 = .ok (.aload_n 0, 1) := by decide +kernel
theorem dX11_begins_9 : decode cX11_begins 9 = .ok (.getfield 40, 3) := by decide +kernel
theorem dX11_begins_12 : decode cX11_begins 12 = .ok (.iload_n 1, 1) := by decide +kernel
theorem dX11_begins_13 : decode cX11_begins 13 = .ok (.aload_n 0, 1) := by decide +kernel
theorem dX11_begins_14 : decode cX11_begins 14 = .ok (.getfield 28, 3) := by decide +kernel
theorem dX11_begins_17 : decode cX11_begins 17 = .ok (.iload_n 1, 1) := by decide +kernel
theorem dX11_begins_18 : decode cX11_begins 18 = .ok (.iaload, 1) := by decide +kernel
theorem dX11_begins_19 : decode cX11_begins 19 = .ok (.iastore, 1) := by decide +kernel
theorem dX11_begins_20 : decode cX11_begins 20 = .ok (.iinc 1 1, 3) := by decide +kernel
theorem dX11_begins_23 : decode cX11_begins 23 = .ok (.goto (-21), 3) := by decide +kernel
theorem dX11_begins_26 : decode cX11_begins 26 = .ok (.iconst 0, 1) := by decide +kernel
theorem dX11_begins_27 : decode cX11_begins 27 = .ok (.istore_n 1, 1) := by decide +kernel
theorem dX11_begins_28 : decode cX11_begins 28 = .ok (.iload_n 1, 1) := by decide +kernel
theorem dX11_begins_29 : decode cX11_begins 29 = .ok (.bipush 8, 2) := by decide +kernel
theorem dX11_begins_31 : decode cX11_begins 31 = .ok (.if_icmp .ge 33, 3) := by decide +kernel
theorem dX11_begins_34 : decode cX11_begins 34 = .ok (.aload_n 0, 1) := by decide +kernel
theorem dX11_begins_35 : decode cX11_begins 35 = .ok (.getfield 43, 3) := by decide +kernel
theorem dX11_begins_38 : decode cX11_begins 38 = .ok (.iload_n 1, 1) := by decide +kernel
theorem dX11_begins_39 : decode cX11_begins 39 = .ok (.iload_n 1, 1) := by decide +kernel
theorem dX11_begins_40 : decode cX11_begins 40 = .ok (.aload_n 0, 1) := by decide +kernel
theorem dX11_begins_41 : decode cX11_begins 41 = .ok (.getfield 91, 3) := by decide +kernel
theorem dX11_begins_44 : decode cX11_begins 44 = .ok (.if_icmp .ge 12, 3) := by decide +kernel
theorem dX11_begins_47 : decode cX11_begins 47 = .ok (.aload_n 0, 1) := by decide +kernel
theorem dX11_begins_48 : decode cX11_begins 48 = .ok (.getfield 31, 3) := by decide +kernel
theorem dX11_begins_51 : decode cX11_begins 51 = .ok (.iload_n 1, 1) := by decide +kernel
theorem dX11_begins_52 : decode cX11_begins 52 = .ok (.iaload, 1) := by decide +kernel
theorem dX11_begins_53 : decode cX11_begins 53 = .ok (.goto 4, 3) := by decide +kernel
theorem dX11_begins_56 : decode cX11_begins 56 = .ok (.iconst 0, 1) := by decide +kernel
theorem dX11_begins_57 : decode cX11_begins 57 = .ok (.iastore, 1) := by decide +kernel
theorem dX11_begins_58 : decode cX11_begins 58 = .ok (.iinc 1 1, 3) := by decide +kernel
theorem dX11_begins_61 : decode cX11_begins 61 = .ok (.goto (-33), 3) := by decide +kernel
theorem dX11_begins_64 : decode cX11_begins 64 = .ok (.return_, 1) := by decide +kernel
theorem dX11_takes_0 : decode cX11_takes 0 = .ok (.iload_n 2, 1) := by decide +kernel
theorem dX11_takes_1 : decode cX11_takes 1 = .ok (.i2l, 1) := by decide +kernel
theorem dX11_takes_2 : decode cX11_takes 2 = .ok (.lconst 0, 1) := by decide +kernel
theorem dX11_takes_3 : decode cX11_takes 3 = .ok (.aload_n 0, 1) := by decide +kernel
theorem dX11_takes_4 : decode cX11_takes 4 = .ok (.getfield 91, 3) := by decide +kernel
theorem dX11_takes_7 : decode cX11_takes 7 = .ok (.iconst 1, 1) := by decide +kernel
theorem dX11_takes_8 : decode cX11_takes 8 = .ok (.isub, 1) := by decide +kernel
theorem dX11_takes_9 : decode cX11_takes 9 = .ok (.i2l, 1) := by decide +kernel
theorem dX11_takes_10 : decode cX11_takes 10 = .ok (.invokestatic 58, 3) := by decide +kernel
theorem dX11_takes_13 : decode cX11_takes 13 = .ok (.ifCond .eq 40, 3) := by decide +kernel
theorem dX11_takes_16 : decode cX11_takes 16 = .ok (.aload_n 0, 1) := by decide +kernel
theorem dX11_takes_17 : decode cX11_takes 17 = .ok (.getfield 43, 3) := by decide +kernel
theorem dX11_takes_20 : decode cX11_takes 20 = .ok (.iload_n 2, 1) := by decide +kernel
theorem dX11_takes_21 : decode cX11_takes 21 = .ok (.iaload, 1) := by decide +kernel
theorem dX11_takes_22 : decode cX11_takes 22 = .ok (.ifCond .le 31, 3) := by decide +kernel
theorem dX11_takes_25 : decode cX11_takes 25 = .ok (.aload_n 0, 1) := by decide +kernel
theorem dX11_takes_26 : decode cX11_takes 26 = .ok (.getfield 40, 3) := by decide +kernel
theorem dX11_takes_29 : decode cX11_takes 29 = .ok (.bipush 8, 2) := by decide +kernel
theorem dX11_takes_31 : decode cX11_takes 31 = .ok (.iload_n 2, 1) := by decide +kernel
theorem dX11_takes_32 : decode cX11_takes 32 = .ok (.imul, 1) := by decide +kernel
theorem dX11_takes_33 : decode cX11_takes 33 = .ok (.aload_n 0, 1) := by decide +kernel
theorem dX11_takes_34 : decode cX11_takes 34 = .ok (.getfield 43, 3) := by decide +kernel
theorem dX11_takes_37 : decode cX11_takes 37 = .ok (.iload_n 2, 1) := by decide +kernel
theorem dX11_takes_38 : decode cX11_takes 38 = .ok (.iaload, 1) := by decide +kernel
theorem dX11_takes_39 : decode cX11_takes 39 = .ok (.iadd, 1) := by decide +kernel
theorem dX11_takes_40 : decode cX11_takes 40 = .ok (.iconst 1, 1) := by decide +kernel
theorem dX11_takes_41 : decode cX11_takes 41 = .ok (.isub, 1) := by decide +kernel
theorem dX11_takes_42 : decode cX11_takes 42 = .ok (.iaload, 1) := by decide +kernel
theorem dX11_takes_43 : decode cX11_takes 43 = .ok (.iconst 2, 1) := by decide +kernel
theorem dX11_takes_44 : decode cX11_takes 44 = .ok (.irem, 1) := by decide +kernel
theorem dX11_takes_45 : decode cX11_takes 45 = .ok (.iload_n 1, 1) := by decide +kernel
theorem dX11_takes_46 : decode cX11_takes 46 = .ok (.if_icmp .eq 7, 3) := by decide +kernel
theorem dX11_takes_49 : decode cX11_takes 49 = .ok (.iconst 1, 1) := by decide +kernel
theorem dX11_takes_50 : decode cX11_takes 50 = .ok (.goto 4, 3) := by decide +kernel
theorem dX11_takes_53 : decode cX11_takes 53 = .ok (.iconst 0, 1) := by decide +kernel
theorem dX11_takes_54 : decode cX11_takes 54 = .ok (.istore_n 3, 1) := by decide +kernel
theorem dX11_takes_55 : decode cX11_takes 55 = .ok (.iload_n 3, 1) := by decide +kernel
theorem dX11_takes_56 : decode cX11_takes 56 = .ok (.ifCond .eq 13, 3) := by decide +kernel
theorem dX11_takes_59 : decode cX11_takes 59 = .ok (.aload_n 0, 1) := by decide +kernel
theorem dX11_takes_60 : decode cX11_takes 60 = .ok (.getfield 43, 3) := by decide +kernel
theorem dX11_takes_63 : decode cX11_takes 63 = .ok (.iload_n 2, 1) := by decide +kernel
theorem dX11_takes_64 : decode cX11_takes 64 = .ok (.dup2, 1) := by decide +kernel
theorem dX11_takes_65 : decode cX11_takes 65 = .ok (.iaload, 1) := by decide +kernel
theorem dX11_takes_66 : decode cX11_takes 66 = .ok (.iconst 1, 1) := by decide +kernel
theorem dX11_takes_67 : decode cX11_takes 67 = .ok (.isub, 1) := by decide +kernel
theorem dX11_takes_68 : decode cX11_takes 68 = .ok (.iastore, 1) := by decide +kernel
theorem dX11_takes_69 : decode cX11_takes 69 = .ok (.iload_n 3, 1) := by decide +kernel
theorem dX11_takes_70 : decode cX11_takes 70 = .ok (.ireturn, 1) := by decide +kernel
theorem dX11_lays_0 : decode cX11_lays 0 = .ok (.iload_n 3, 1) := by decide +kernel
theorem dX11_lays_1 : decode cX11_lays 1 = .ok (.i2l, 1) := by decide +kernel
theorem dX11_lays_2 : decode cX11_lays 2 = .ok (.lconst 0, 1) := by decide +kernel
theorem dX11_lays_3 : decode cX11_lays 3 = .ok (.aload_n 0, 1) := by decide +kernel
theorem dX11_lays_4 : decode cX11_lays 4 = .ok (.getfield 91, 3) := by decide +kernel
theorem dX11_lays_7 : decode cX11_lays 7 = .ok (.iconst 1, 1) := by decide +kernel
theorem dX11_lays_8 : decode cX11_lays 8 = .ok (.isub, 1) := by decide +kernel
theorem dX11_lays_9 : decode cX11_lays 9 = .ok (.i2l, 1) := by decide +kernel
theorem dX11_lays_10 : decode cX11_lays 10 = .ok (.invokestatic 58, 3) := by decide +kernel
theorem dX11_lays_13 : decode cX11_lays 13 = .ok (.ifCond .eq 25, 3) := by decide +kernel
theorem dX11_lays_16 : decode cX11_lays 16 = .ok (.aload_n 0, 1) := by decide +kernel
theorem dX11_lays_17 : decode cX11_lays 17 = .ok (.getfield 43, 3) := by decide +kernel
theorem dX11_lays_20 : decode cX11_lays 20 = .ok (.iload_n 3, 1) := by decide +kernel
theorem dX11_lays_21 : decode cX11_lays 21 = .ok (.iaload, 1) := by decide +kernel
theorem dX11_lays_22 : decode cX11_lays 22 = .ok (.bipush 8, 2) := by decide +kernel
theorem dX11_lays_24 : decode cX11_lays 24 = .ok (.if_icmp .ge 14, 3) := by decide +kernel
theorem dX11_lays_27 : decode cX11_lays 27 = .ok (.iload_n 2, 1) := by decide +kernel
theorem dX11_lays_28 : decode cX11_lays 28 = .ok (.iconst 2, 1) := by decide +kernel
theorem dX11_lays_29 : decode cX11_lays 29 = .ok (.irem, 1) := by decide +kernel
theorem dX11_lays_30 : decode cX11_lays 30 = .ok (.iload_n 1, 1) := by decide +kernel
theorem dX11_lays_31 : decode cX11_lays 31 = .ok (.if_icmp .ne 7, 3) := by decide +kernel
theorem dX11_lays_34 : decode cX11_lays 34 = .ok (.iconst 1, 1) := by decide +kernel
theorem dX11_lays_35 : decode cX11_lays 35 = .ok (.goto 4, 3) := by decide +kernel
theorem dX11_lays_38 : decode cX11_lays 38 = .ok (.iconst 0, 1) := by decide +kernel
theorem dX11_lays_39 : decode cX11_lays 39 = .ok (.istore 4, 2) := by decide +kernel
theorem dX11_lays_41 : decode cX11_lays 41 = .ok (.iload 4, 2) := by decide +kernel
theorem dX11_lays_43 : decode cX11_lays 43 = .ok (.ifCond .eq 30, 3) := by decide +kernel
theorem dX11_lays_46 : decode cX11_lays 46 = .ok (.aload_n 0, 1) := by decide +kernel
theorem dX11_lays_47 : decode cX11_lays 47 = .ok (.getfield 40, 3) := by decide +kernel
theorem dX11_lays_50 : decode cX11_lays 50 = .ok (.bipush 8, 2) := by decide +kernel
theorem dX11_lays_52 : decode cX11_lays 52 = .ok (.iload_n 3, 1) := by decide +kernel
theorem dX11_lays_53 : decode cX11_lays 53 = .ok (.imul, 1) := by decide +kernel
theorem dX11_lays_54 : decode cX11_lays 54 = .ok (.aload_n 0, 1) := by decide +kernel
theorem dX11_lays_55 : decode cX11_lays 55 = .ok (.getfield 43, 3) := by decide +kernel
theorem dX11_lays_58 : decode cX11_lays 58 = .ok (.iload_n 3, 1) := by decide +kernel
theorem dX11_lays_59 : decode cX11_lays 59 = .ok (.iaload, 1) := by decide +kernel
theorem dX11_lays_60 : decode cX11_lays 60 = .ok (.iadd, 1) := by decide +kernel
theorem dX11_lays_61 : decode cX11_lays 61 = .ok (.iload_n 2, 1) := by decide +kernel
theorem dX11_lays_62 : decode cX11_lays 62 = .ok (.iastore, 1) := by decide +kernel
theorem dX11_lays_63 : decode cX11_lays 63 = .ok (.aload_n 0, 1) := by decide +kernel
theorem dX11_lays_64 : decode cX11_lays 64 = .ok (.getfield 43, 3) := by decide +kernel
theorem dX11_lays_67 : decode cX11_lays 67 = .ok (.iload_n 3, 1) := by decide +kernel
theorem dX11_lays_68 : decode cX11_lays 68 = .ok (.dup2, 1) := by decide +kernel
theorem dX11_lays_69 : decode cX11_lays 69 = .ok (.iaload, 1) := by decide +kernel
theorem dX11_lays_70 : decode cX11_lays 70 = .ok (.iconst 1, 1) := by decide +kernel
theorem dX11_lays_71 : decode cX11_lays 71 = .ok (.iadd, 1) := by decide +kernel
theorem dX11_lays_72 : decode cX11_lays 72 = .ok (.iastore, 1) := by decide +kernel
theorem dX11_lays_73 : decode cX11_lays 73 = .ok (.iload 4, 2) := by decide +kernel
theorem dX11_lays_75 : decode cX11_lays 75 = .ok (.ireturn, 1) := by decide +kernel
theorem dX11_whoseTurn_0 : decode cX11_whoseTurn 0 = .ok (.aload_n 0, 1) := by decide +kernel
theorem dX11_whoseTurn_1 : decode cX11_whoseTurn 1 = .ok (.getfield 37, 3) := by decide +kernel
theorem dX11_whoseTurn_4 : decode cX11_whoseTurn 4 = .ok (.iconst 0, 1) := by decide +kernel
theorem dX11_whoseTurn_5 : decode cX11_whoseTurn 5 = .ok (.iaload, 1) := by decide +kernel
theorem dX11_whoseTurn_6 : decode cX11_whoseTurn 6 = .ok (.iload_n 1, 1) := by decide +kernel
theorem dX11_whoseTurn_7 : decode cX11_whoseTurn 7 = .ok (.iadd, 1) := by decide +kernel
theorem dX11_whoseTurn_8 : decode cX11_whoseTurn 8 = .ok (.iconst 2, 1) := by decide +kernel
theorem dX11_whoseTurn_9 : decode cX11_whoseTurn 9 = .ok (.irem, 1) := by decide +kernel
theorem dX11_whoseTurn_10 : decode cX11_whoseTurn 10 = .ok (.istore_n 2, 1) := by decide +kernel
theorem dX11_whoseTurn_11 : decode cX11_whoseTurn 11 = .ok (.iload_n 1, 1) := by decide +kernel
theorem dX11_whoseTurn_12 : decode cX11_whoseTurn 12 = .ok (.aload_n 0, 1) := by decide +kernel
theorem dX11_whoseTurn_13 : decode cX11_whoseTurn 13 = .ok (.getfield 52, 3) := by decide +kernel
theorem dX11_whoseTurn_16 : decode cX11_whoseTurn 16 = .ok (.if_icmp .ne 17, 3) := by decide +kernel
theorem dX11_whoseTurn_19 : decode cX11_whoseTurn 19 = .ok (.aload_n 0, 1) := by decide +kernel
theorem dX11_whoseTurn_20 : decode cX11_whoseTurn 20 = .ok (.getfield 129, 3) := by decide +kernel
theorem dX11_whoseTurn_23 : decode cX11_whoseTurn 23 = .ok (.iconst 2, 1) := by decide +kernel
theorem dX11_whoseTurn_24 : decode cX11_whoseTurn 24 = .ok (.if_icmp .ne 9, 3) := by decide +kernel
theorem dX11_whoseTurn_27 : decode cX11_whoseTurn 27 = .ok (.iconst 1, 1) := by decide +kernel
theorem dX11_whoseTurn_28 : decode cX11_whoseTurn 28 = .ok (.iload_n 2, 1) := by decide +kernel
theorem dX11_whoseTurn_29 : decode cX11_whoseTurn 29 = .ok (.isub, 1) := by decide +kernel
theorem dX11_whoseTurn_30 : decode cX11_whoseTurn 30 = .ok (.goto 4, 3) := by decide +kernel
theorem dX11_whoseTurn_33 : decode cX11_whoseTurn 33 = .ok (.iload_n 2, 1) := by decide +kernel
theorem dX11_whoseTurn_34 : decode cX11_whoseTurn 34 = .ok (.ireturn, 1) := by decide +kernel
theorem dX11_goes_0 : decode cX11_goes 0 = .ok (.aload_n 0, 1) := by decide +kernel
theorem dX11_goes_1 : decode cX11_goes 1 = .ok (.iload_n 1, 1) := by decide +kernel
theorem dX11_goes_2 : decode cX11_goes 2 = .ok (.invokevirtual 132, 3) := by decide +kernel
theorem dX11_goes_5 : decode cX11_goes 5 = .ok (.istore_n 2, 1) := by decide +kernel
theorem dX11_goes_6 : decode cX11_goes 6 = .ok (.aload_n 0, 1) := by decide +kernel
theorem dX11_goes_7 : decode cX11_goes 7 = .ok (.aload_n 0, 1) := by decide +kernel
theorem dX11_goes_8 : decode cX11_goes 8 = .ok (.getfield 34, 3) := by decide +kernel
theorem dX11_goes_11 : decode cX11_goes 11 = .ok (.bipush 8, 2) := by decide +kernel
theorem dX11_goes_13 : decode cX11_goes 13 = .ok (.iload_n 1, 1) := by decide +kernel
theorem dX11_goes_14 : decode cX11_goes 14 = .ok (.imul, 1) := by decide +kernel
theorem dX11_goes_15 : decode cX11_goes 15 = .ok (.iaload, 1) := by decide +kernel
theorem dX11_goes_16 : decode cX11_goes 16 = .ok (.iconst (-1), 1) := by decide +kernel
theorem dX11_goes_17 : decode cX11_goes 17 = .ok (.if_icmp .eq 39, 3) := by decide +kernel
theorem dX11_goes_20 : decode cX11_goes 20 = .ok (.iload_n 1, 1) := by decide +kernel
theorem dX11_goes_21 : decode cX11_goes 21 = .ok (.aload_n 0, 1) := by decide +kernel
theorem dX11_goes_22 : decode cX11_goes 22 = .ok (.getfield 52, 3) := by decide +kernel
theorem dX11_goes_25 : decode cX11_goes 25 = .ok (.if_icmp .ne 10, 3) := by decide +kernel
theorem dX11_goes_28 : decode cX11_goes 28 = .ok (.aload_n 0, 1) := by decide +kernel
theorem dX11_goes_29 : decode cX11_goes 29 = .ok (.getfield 129, 3) := by decide +kernel
theorem dX11_goes_32 : decode cX11_goes 32 = .ok (.ifCond .eq 24, 3) := by decide +kernel
theorem dX11_goes_35 : decode cX11_goes 35 = .ok (.aload_n 0, 1) := by decide +kernel
theorem dX11_goes_36 : decode cX11_goes 36 = .ok (.iload_n 2, 1) := by decide +kernel
theorem dX11_goes_37 : decode cX11_goes 37 = .ok (.aload_n 0, 1) := by decide +kernel
theorem dX11_goes_38 : decode cX11_goes 38 = .ok (.getfield 34, 3) := by decide +kernel
theorem dX11_goes_41 : decode cX11_goes 41 = .ok (.bipush 8, 2) := by decide +kernel
theorem dX11_goes_43 : decode cX11_goes 43 = .ok (.iload_n 1, 1) := by decide +kernel
theorem dX11_goes_44 : decode cX11_goes 44 = .ok (.imul, 1) := by decide +kernel
theorem dX11_goes_45 : decode cX11_goes 45 = .ok (.iaload, 1) := by decide +kernel
theorem dX11_goes_46 : decode cX11_goes 46 = .ok (.invokevirtual 135, 3) := by decide +kernel
theorem dX11_goes_49 : decode cX11_goes 49 = .ok (.ifCond .eq 7, 3) := by decide +kernel
theorem dX11_goes_52 : decode cX11_goes 52 = .ok (.iconst 1, 1) := by decide +kernel
theorem dX11_goes_53 : decode cX11_goes 53 = .ok (.goto 4, 3) := by decide +kernel
theorem dX11_goes_56 : decode cX11_goes 56 = .ok (.iconst 0, 1) := by decide +kernel
theorem dX11_goes_57 : decode cX11_goes 57 = .ok (.putfield 139, 3) := by decide +kernel
theorem dX11_goes_60 : decode cX11_goes 60 = .ok (.aload_n 0, 1) := by decide +kernel
theorem dX11_goes_61 : decode cX11_goes 61 = .ok (.iconst 0, 1) := by decide +kernel
theorem dX11_goes_62 : decode cX11_goes 62 = .ok (.putfield 142, 3) := by decide +kernel
theorem dX11_goes_65 : decode cX11_goes 65 = .ok (.iconst 0, 1) := by decide +kernel
theorem dX11_goes_66 : decode cX11_goes 66 = .ok (.istore_n 3, 1) := by decide +kernel
theorem dX11_goes_67 : decode cX11_goes 67 = .ok (.iload_n 3, 1) := by decide +kernel
theorem dX11_goes_68 : decode cX11_goes 68 = .ok (.aload_n 0, 1) := by decide +kernel
theorem dX11_goes_69 : decode cX11_goes 69 = .ok (.getfield 34, 3) := by decide +kernel
theorem dX11_goes_72 : decode cX11_goes 72 = .ok (.bipush 8, 2) := by decide +kernel
theorem dX11_goes_74 : decode cX11_goes 74 = .ok (.iload_n 1, 1) := by decide +kernel
theorem dX11_goes_75 : decode cX11_goes 75 = .ok (.imul, 1) := by decide +kernel
theorem dX11_goes_76 : decode cX11_goes 76 = .ok (.iconst 1, 1) := by decide +kernel
theorem dX11_goes_77 : decode cX11_goes 77 = .ok (.iadd, 1) := by decide +kernel
theorem dX11_goes_78 : decode cX11_goes 78 = .ok (.iaload, 1) := by decide +kernel
theorem dX11_goes_79 : decode cX11_goes 79 = .ok (.if_icmp .ge 89, 3) := by decide +kernel
theorem dX11_goes_82 : decode cX11_goes 82 = .ok (.iload_n 1, 1) := by decide +kernel
theorem dX11_goes_83 : decode cX11_goes 83 = .ok (.aload_n 0, 1) := by decide +kernel
theorem dX11_goes_84 : decode cX11_goes 84 = .ok (.getfield 52, 3) := by decide +kernel
theorem dX11_goes_87 : decode cX11_goes 87 = .ok (.if_icmp .ne 11, 3) := by decide +kernel
theorem dX11_goes_90 : decode cX11_goes 90 = .ok (.aload_n 0, 1) := by decide +kernel
theorem dX11_goes_91 : decode cX11_goes 91 = .ok (.getfield 129, 3) := by decide +kernel
theorem dX11_goes_94 : decode cX11_goes 94 = .ok (.iconst 1, 1) := by decide +kernel
theorem dX11_goes_95 : decode cX11_goes 95 = .ok (.if_icmp .eq 7, 3) := by decide +kernel
theorem dX11_goes_98 : decode cX11_goes 98 = .ok (.iconst 1, 1) := by decide +kernel
theorem dX11_goes_99 : decode cX11_goes 99 = .ok (.goto 4, 3) := by decide +kernel
theorem dX11_goes_102 : decode cX11_goes 102 = .ok (.iconst 0, 1) := by decide +kernel
theorem dX11_goes_103 : decode cX11_goes 103 = .ok (.istore 4, 2) := by decide +kernel
theorem dX11_goes_105 : decode cX11_goes 105 = .ok (.aload_n 0, 1) := by decide +kernel
theorem dX11_goes_106 : decode cX11_goes 106 = .ok (.dup, 1) := by decide +kernel
theorem dX11_goes_107 : decode cX11_goes 107 = .ok (.getfield 142, 3) := by decide +kernel
theorem dX11_goes_110 : decode cX11_goes 110 = .ok (.iload 4, 2) := by decide +kernel
theorem dX11_goes_112 : decode cX11_goes 112 = .ok (.ifCond .eq 45, 3) := by decide +kernel
theorem dX11_goes_115 : decode cX11_goes 115 = .ok (.aload_n 0, 1) := by decide +kernel
theorem dX11_goes_116 : decode cX11_goes 116 = .ok (.iload_n 2, 1) := by decide +kernel
theorem dX11_goes_117 : decode cX11_goes 117 = .ok (.aload_n 0, 1) := by decide +kernel
theorem dX11_goes_118 : decode cX11_goes 118 = .ok (.getfield 34, 3) := by decide +kernel
theorem dX11_goes_121 : decode cX11_goes 121 = .ok (.bipush 8, 2) := by decide +kernel
theorem dX11_goes_123 : decode cX11_goes 123 = .ok (.iload_n 1, 1) := by decide +kernel
theorem dX11_goes_124 : decode cX11_goes 124 = .ok (.imul, 1) := by decide +kernel
theorem dX11_goes_125 : decode cX11_goes 125 = .ok (.iconst 2, 1) := by decide +kernel
theorem dX11_goes_126 : decode cX11_goes 126 = .ok (.iadd, 1) := by decide +kernel
theorem dX11_goes_127 : decode cX11_goes 127 = .ok (.iconst 2, 1) := by decide +kernel
theorem dX11_goes_128 : decode cX11_goes 128 = .ok (.iload_n 3, 1) := by decide +kernel
theorem dX11_goes_129 : decode cX11_goes 129 = .ok (.imul, 1) := by decide +kernel
theorem dX11_goes_130 : decode cX11_goes 130 = .ok (.iadd, 1) := by decide +kernel
theorem dX11_goes_131 : decode cX11_goes 131 = .ok (.iaload, 1) := by decide +kernel
theorem dX11_goes_132 : decode cX11_goes 132 = .ok (.aload_n 0, 1) := by decide +kernel
theorem dX11_goes_133 : decode cX11_goes 133 = .ok (.getfield 34, 3) := by decide +kernel
theorem dX11_goes_136 : decode cX11_goes 136 = .ok (.bipush 8, 2) := by decide +kernel
theorem dX11_goes_138 : decode cX11_goes 138 = .ok (.iload_n 1, 1) := by decide +kernel
theorem dX11_goes_139 : decode cX11_goes 139 = .ok (.imul, 1) := by decide +kernel
theorem dX11_goes_140 : decode cX11_goes 140 = .ok (.iconst 3, 1) := by decide +kernel
theorem dX11_goes_141 : decode cX11_goes 141 = .ok (.iadd, 1) := by decide +kernel
theorem dX11_goes_142 : decode cX11_goes 142 = .ok (.iconst 2, 1) := by decide +kernel
theorem dX11_goes_143 : decode cX11_goes 143 = .ok (.iload_n 3, 1) := by decide +kernel
theorem dX11_goes_144 : decode cX11_goes 144 = .ok (.imul, 1) := by decide +kernel
theorem dX11_goes_145 : decode cX11_goes 145 = .ok (.iadd, 1) := by decide +kernel
theorem dX11_goes_146 : decode cX11_goes 146 = .ok (.iaload, 1) := by decide +kernel
theorem dX11_goes_147 : decode cX11_goes 147 = .ok (.invokevirtual 145, 3) := by decide +kernel
theorem dX11_goes_150 : decode cX11_goes 150 = .ok (.ifCond .eq 7, 3) := by decide +kernel
theorem dX11_goes_153 : decode cX11_goes 153 = .ok (.iconst 1, 1) := by decide +kernel
theorem dX11_goes_154 : decode cX11_goes 154 = .ok (.goto 4, 3) := by decide +kernel
theorem dX11_goes_157 : decode cX11_goes 157 = .ok (.iconst 0, 1) := by decide +kernel
theorem dX11_goes_158 : decode cX11_goes 158 = .ok (.iadd, 1) := by decide +kernel
theorem dX11_goes_159 : decode cX11_goes 159 = .ok (.putfield 142, 3) := by decide +kernel
theorem dX11_goes_162 : decode cX11_goes 162 = .ok (.iinc 3 1, 3) := by decide +kernel
theorem dX11_goes_165 : decode cX11_goes 165 = .ok (.goto (-98), 3) := by decide +kernel
theorem dX11_goes_168 : decode cX11_goes 168 = .ok (.return_, 1) := by decide +kernel
theorem dX11_lives_0 : decode cX11_lives 0 = .ok (.aload_n 0, 1) := by decide +kernel
theorem dX11_lives_1 : decode cX11_lives 1 = .ok (.invokevirtual 149, 3) := by decide +kernel
theorem dX11_lives_4 : decode cX11_lives 4 = .ok (.iconst 0, 1) := by decide +kernel
theorem dX11_lives_5 : decode cX11_lives 5 = .ok (.istore_n 2, 1) := by decide +kernel
theorem dX11_lives_6 : decode cX11_lives 6 = .ok (.iload_n 2, 1) := by decide +kernel
theorem dX11_lives_7 : decode cX11_lives 7 = .ok (.iload_n 1, 1) := by decide +kernel
theorem dX11_lives_8 : decode cX11_lives 8 = .ok (.if_icmp .ge 14, 3) := by decide +kernel
theorem dX11_lives_11 : decode cX11_lives 11 = .ok (.aload_n 0, 1) := by decide +kernel
theorem dX11_lives_12 : decode cX11_lives 12 = .ok (.iload_n 2, 1) := by decide +kernel
theorem dX11_lives_13 : decode cX11_lives 13 = .ok (.invokevirtual 152, 3) := by decide +kernel
theorem dX11_lives_16 : decode cX11_lives 16 = .ok (.iinc 2 1, 3) := by decide +kernel
theorem dX11_lives_19 : decode cX11_lives 19 = .ok (.goto (-13), 3) := by decide +kernel
theorem dX11_lives_22 : decode cX11_lives 22 = .ok (.return_, 1) := by decide +kernel
theorem dX11_weight_0 : decode cX11_weight 0 = .ok (.iconst 1, 1) := by decide +kernel
theorem dX11_weight_1 : decode cX11_weight 1 = .ok (.iload_n 0, 1) := by decide +kernel
theorem dX11_weight_2 : decode cX11_weight 2 = .ok (.iconst 2, 1) := by decide +kernel
theorem dX11_weight_3 : decode cX11_weight 3 = .ok (.idiv, 1) := by decide +kernel
theorem dX11_weight_4 : decode cX11_weight 4 = .ok (.iadd, 1) := by decide +kernel
theorem dX11_weight_5 : decode cX11_weight 5 = .ok (.ireturn, 1) := by decide +kernel
theorem dX11_highOf_0 : decode cX11_highOf 0 = .ok (.iconst 0, 1) := by decide +kernel
theorem dX11_highOf_1 : decode cX11_highOf 1 = .ok (.istore_n 2, 1) := by decide +kernel
theorem dX11_highOf_2 : decode cX11_highOf 2 = .ok (.iconst 0, 1) := by decide +kernel
theorem dX11_highOf_3 : decode cX11_highOf 3 = .ok (.istore_n 3, 1) := by decide +kernel
theorem dX11_highOf_4 : decode cX11_highOf 4 = .ok (.iload_n 3, 1) := by decide +kernel
theorem dX11_highOf_5 : decode cX11_highOf 5 = .ok (.aload_n 0, 1) := by decide +kernel
theorem dX11_highOf_6 : decode cX11_highOf 6 = .ok (.getfield 43, 3) := by decide +kernel
theorem dX11_highOf_9 : decode cX11_highOf 9 = .ok (.iload_n 1, 1) := by decide +kernel
theorem dX11_highOf_10 : decode cX11_highOf 10 = .ok (.iaload, 1) := by decide +kernel
theorem dX11_highOf_11 : decode cX11_highOf 11 = .ok (.if_icmp .ge 26, 3) := by decide +kernel
theorem dX11_highOf_14 : decode cX11_highOf 14 = .ok (.iload_n 2, 1) := by decide +kernel
theorem dX11_highOf_15 : decode cX11_highOf 15 = .ok (.aload_n 0, 1) := by decide +kernel
theorem dX11_highOf_16 : decode cX11_highOf 16 = .ok (.getfield 40, 3) := by decide +kernel
theorem dX11_highOf_19 : decode cX11_highOf 19 = .ok (.bipush 8, 2) := by decide +kernel
theorem dX11_highOf_21 : decode cX11_highOf 21 = .ok (.iload_n 1, 1) := by decide +kernel
theorem dX11_highOf_22 : decode cX11_highOf 22 = .ok (.imul, 1) := by decide +kernel
theorem dX11_highOf_23 : decode cX11_highOf 23 = .ok (.iload_n 3, 1) := by decide +kernel
theorem dX11_highOf_24 : decode cX11_highOf 24 = .ok (.iadd, 1) := by decide +kernel
theorem dX11_highOf_25 : decode cX11_highOf 25 = .ok (.iaload, 1) := by decide +kernel
theorem dX11_highOf_26 : decode cX11_highOf 26 = .ok (.invokestatic 156, 3) := by decide +kernel
theorem dX11_highOf_29 : decode cX11_highOf 29 = .ok (.iadd, 1) := by decide +kernel
theorem dX11_highOf_30 : decode cX11_highOf 30 = .ok (.istore_n 2, 1) := by decide +kernel
theorem dX11_highOf_31 : decode cX11_highOf 31 = .ok (.iinc 3 1, 3) := by decide +kernel
theorem dX11_highOf_34 : decode cX11_highOf 34 = .ok (.goto (-30), 3) := by decide +kernel
theorem dX11_highOf_37 : decode cX11_highOf 37 = .ok (.iload_n 2, 1) := by decide +kernel
theorem dX11_highOf_38 : decode cX11_highOf 38 = .ok (.ireturn, 1) := by decide +kernel
theorem dX11_leanOf_0 : decode cX11_leanOf 0 = .ok (.iconst 0, 1) := by decide +kernel
theorem dX11_leanOf_1 : decode cX11_leanOf 1 = .ok (.istore_n 2, 1) := by decide +kernel
theorem dX11_leanOf_2 : decode cX11_leanOf 2 = .ok (.iconst 0, 1) := by decide +kernel
theorem dX11_leanOf_3 : decode cX11_leanOf 3 = .ok (.istore_n 3, 1) := by decide +kernel
theorem dX11_leanOf_4 : decode cX11_leanOf 4 = .ok (.iload_n 3, 1) := by decide +kernel
theorem dX11_leanOf_5 : decode cX11_leanOf 5 = .ok (.aload_n 0, 1) := by decide +kernel
theorem dX11_leanOf_6 : decode cX11_leanOf 6 = .ok (.getfield 43, 3) := by decide +kernel
theorem dX11_leanOf_9 : decode cX11_leanOf 9 = .ok (.iload_n 1, 1) := by decide +kernel
theorem dX11_leanOf_10 : decode cX11_leanOf 10 = .ok (.iaload, 1) := by decide +kernel
theorem dX11_leanOf_11 : decode cX11_leanOf 11 = .ok (.if_icmp .ge 46, 3) := by decide +kernel
theorem dX11_leanOf_14 : decode cX11_leanOf 14 = .ok (.aload_n 0, 1) := by decide +kernel
theorem dX11_leanOf_15 : decode cX11_leanOf 15 = .ok (.getfield 40, 3) := by decide +kernel
theorem dX11_leanOf_18 : decode cX11_leanOf 18 = .ok (.bipush 8, 2) := by decide +kernel
theorem dX11_leanOf_20 : decode cX11_leanOf 20 = .ok (.iload_n 1, 1) := by decide +kernel
theorem dX11_leanOf_21 : decode cX11_leanOf 21 = .ok (.imul, 1) := by decide +kernel
theorem dX11_leanOf_22 : decode cX11_leanOf 22 = .ok (.iload_n 3, 1) := by decide +kernel
theorem dX11_leanOf_23 : decode cX11_leanOf 23 = .ok (.iadd, 1) := by decide +kernel
theorem dX11_leanOf_24 : decode cX11_leanOf 24 = .ok (.iaload, 1) := by decide +kernel
theorem dX11_leanOf_25 : decode cX11_leanOf 25 = .ok (.istore 4, 2) := by decide +kernel
theorem dX11_leanOf_27 : decode cX11_leanOf 27 = .ok (.iload_n 2, 1) := by decide +kernel
theorem dX11_leanOf_28 : decode cX11_leanOf 28 = .ok (.iload 4, 2) := by decide +kernel
theorem dX11_leanOf_30 : decode cX11_leanOf 30 = .ok (.iconst 2, 1) := by decide +kernel
theorem dX11_leanOf_31 : decode cX11_leanOf 31 = .ok (.irem, 1) := by decide +kernel
theorem dX11_leanOf_32 : decode cX11_leanOf 32 = .ok (.ifCond .ne 11, 3) := by decide +kernel
theorem dX11_leanOf_35 : decode cX11_leanOf 35 = .ok (.iload 4, 2) := by decide +kernel
theorem dX11_leanOf_37 : decode cX11_leanOf 37 = .ok (.invokestatic 156, 3) := by decide +kernel
theorem dX11_leanOf_40 : decode cX11_leanOf 40 = .ok (.goto 9, 3) := by decide +kernel
theorem dX11_leanOf_43 : decode cX11_leanOf 43 = .ok (.iload 4, 2) := by decide +kernel
theorem dX11_leanOf_45 : decode cX11_leanOf 45 = .ok (.invokestatic 156, 3) := by decide +kernel
theorem dX11_leanOf_48 : decode cX11_leanOf 48 = .ok (.ineg, 1) := by decide +kernel
theorem dX11_leanOf_49 : decode cX11_leanOf 49 = .ok (.iadd, 1) := by decide +kernel
theorem dX11_leanOf_50 : decode cX11_leanOf 50 = .ok (.istore_n 2, 1) := by decide +kernel
theorem dX11_leanOf_51 : decode cX11_leanOf 51 = .ok (.iinc 3 1, 3) := by decide +kernel
theorem dX11_leanOf_54 : decode cX11_leanOf 54 = .ok (.goto (-50), 3) := by decide +kernel
theorem dX11_leanOf_57 : decode cX11_leanOf 57 = .ok (.iload_n 2, 1) := by decide +kernel
theorem dX11_leanOf_58 : decode cX11_leanOf 58 = .ok (.ireturn, 1) := by decide +kernel
theorem dX11_beside_0 : decode cX11_beside 0 = .ok (.iload_n 1, 1) := by decide +kernel
theorem dX11_beside_1 : decode cX11_beside 1 = .ok (.ifCond .le 13, 3) := by decide +kernel
theorem dX11_beside_4 : decode cX11_beside 4 = .ok (.aload_n 0, 1) := by decide +kernel
theorem dX11_beside_5 : decode cX11_beside 5 = .ok (.iload_n 1, 1) := by decide +kernel
theorem dX11_beside_6 : decode cX11_beside 6 = .ok (.iconst 1, 1) := by decide +kernel
theorem dX11_beside_7 : decode cX11_beside 7 = .ok (.isub, 1) := by decide +kernel
theorem dX11_beside_8 : decode cX11_beside 8 = .ok (.invokevirtual 159, 3) := by decide +kernel
theorem dX11_beside_11 : decode cX11_beside 11 = .ok (.goto 4, 3) := by decide +kernel
theorem dX11_beside_14 : decode cX11_beside 14 = .ok (.iconst 0, 1) := by decide +kernel
theorem dX11_beside_15 : decode cX11_beside 15 = .ok (.istore_n 2, 1) := by decide +kernel
theorem dX11_beside_16 : decode cX11_beside 16 = .ok (.iload_n 1, 1) := by decide +kernel
theorem dX11_beside_17 : decode cX11_beside 17 = .ok (.iconst 1, 1) := by decide +kernel
theorem dX11_beside_18 : decode cX11_beside 18 = .ok (.iadd, 1) := by decide +kernel
theorem dX11_beside_19 : decode cX11_beside 19 = .ok (.aload_n 0, 1) := by decide +kernel
theorem dX11_beside_20 : decode cX11_beside 20 = .ok (.getfield 91, 3) := by decide +kernel
theorem dX11_beside_23 : decode cX11_beside 23 = .ok (.if_icmp .ge 13, 3) := by decide +kernel
theorem dX11_beside_26 : decode cX11_beside 26 = .ok (.aload_n 0, 1) := by decide +kernel
theorem dX11_beside_27 : decode cX11_beside 27 = .ok (.iload_n 1, 1) := by decide +kernel
theorem dX11_beside_28 : decode cX11_beside 28 = .ok (.iconst 1, 1) := by decide +kernel
theorem dX11_beside_29 : decode cX11_beside 29 = .ok (.iadd, 1) := by decide +kernel
theorem dX11_beside_30 : decode cX11_beside 30 = .ok (.invokevirtual 159, 3) := by decide +kernel
theorem dX11_beside_33 : decode cX11_beside 33 = .ok (.goto 4, 3) := by decide +kernel
theorem dX11_beside_36 : decode cX11_beside 36 = .ok (.iconst 0, 1) := by decide +kernel
theorem dX11_beside_37 : decode cX11_beside 37 = .ok (.istore_n 3, 1) := by decide +kernel
theorem dX11_beside_38 : decode cX11_beside 38 = .ok (.iload_n 2, 1) := by decide +kernel
theorem dX11_beside_39 : decode cX11_beside 39 = .ok (.iload_n 3, 1) := by decide +kernel
theorem dX11_beside_40 : decode cX11_beside 40 = .ok (.if_icmp .le 7, 3) := by decide +kernel
theorem dX11_beside_43 : decode cX11_beside 43 = .ok (.iload_n 2, 1) := by decide +kernel
theorem dX11_beside_44 : decode cX11_beside 44 = .ok (.goto 4, 3) := by decide +kernel
theorem dX11_beside_47 : decode cX11_beside 47 = .ok (.iload_n 3, 1) := by decide +kernel
theorem dX11_beside_48 : decode cX11_beside 48 = .ok (.ireturn, 1) := by decide +kernel
theorem dX11_weakNow_0 : decode cX11_weakNow 0 = .ok (.iconst 0, 1) := by decide +kernel
theorem dX11_weakNow_1 : decode cX11_weakNow 1 = .ok (.istore_n 1, 1) := by decide +kernel
theorem dX11_weakNow_2 : decode cX11_weakNow 2 = .ok (.iconst 0, 1) := by decide +kernel
theorem dX11_weakNow_3 : decode cX11_weakNow 3 = .ok (.istore_n 2, 1) := by decide +kernel
theorem dX11_weakNow_4 : decode cX11_weakNow 4 = .ok (.iload_n 2, 1) := by decide +kernel
theorem dX11_weakNow_5 : decode cX11_weakNow 5 = .ok (.aload_n 0, 1) := by decide +kernel
theorem dX11_weakNow_6 : decode cX11_weakNow 6 = .ok (.getfield 91, 3) := by decide +kernel
theorem dX11_weakNow_9 : decode cX11_weakNow 9 = .ok (.if_icmp .ge 73, 3) := by decide +kernel
theorem dX11_weakNow_12 : decode cX11_weakNow 12 = .ok (.aload_n 0, 1) := by decide +kernel
theorem dX11_weakNow_13 : decode cX11_weakNow 13 = .ok (.iload_n 2, 1) := by decide +kernel
theorem dX11_weakNow_14 : decode cX11_weakNow 14 = .ok (.invokevirtual 159, 3) := by decide +kernel
theorem dX11_weakNow_17 : decode cX11_weakNow 17 = .ok (.aload_n 0, 1) := by decide +kernel
theorem dX11_weakNow_18 : decode cX11_weakNow 18 = .ok (.iload_n 2, 1) := by decide +kernel
theorem dX11_weakNow_19 : decode cX11_weakNow 19 = .ok (.invokevirtual 162, 3) := by decide +kernel
theorem dX11_weakNow_22 : decode cX11_weakNow 22 = .ok (.isub, 1) := by decide +kernel
theorem dX11_weakNow_23 : decode cX11_weakNow 23 = .ok (.aload_n 0, 1) := by decide +kernel
theorem dX11_weakNow_24 : decode cX11_weakNow 24 = .ok (.getfield 37, 3) := by decide +kernel
theorem dX11_weakNow_27 : decode cX11_weakNow 27 = .ok (.iconst 1, 1) := by decide +kernel
theorem dX11_weakNow_28 : decode cX11_weakNow 28 = .ok (.iaload, 1) := by decide +kernel
theorem dX11_weakNow_29 : decode cX11_weakNow 29 = .ok (.aload_n 0, 1) := by decide +kernel
theorem dX11_weakNow_30 : decode cX11_weakNow 30 = .ok (.getfield 37, 3) := by decide +kernel
theorem dX11_weakNow_33 : decode cX11_weakNow 33 = .ok (.iconst 2, 1) := by decide +kernel
theorem dX11_weakNow_34 : decode cX11_weakNow 34 = .ok (.iaload, 1) := by decide +kernel
theorem dX11_weakNow_35 : decode cX11_weakNow 35 = .ok (.isub, 1) := by decide +kernel
theorem dX11_weakNow_36 : decode cX11_weakNow 36 = .ok (.if_icmp .gt 20, 3) := by decide +kernel
theorem dX11_weakNow_39 : decode cX11_weakNow 39 = .ok (.aload_n 0, 1) := by decide +kernel
theorem dX11_weakNow_40 : decode cX11_weakNow 40 = .ok (.iload_n 2, 1) := by decide +kernel
theorem dX11_weakNow_41 : decode cX11_weakNow 41 = .ok (.invokevirtual 165, 3) := by decide +kernel
theorem dX11_weakNow_44 : decode cX11_weakNow 44 = .ok (.invokestatic 168, 3) := by decide +kernel
theorem dX11_weakNow_47 : decode cX11_weakNow 47 = .ok (.aload_n 0, 1) := by decide +kernel
theorem dX11_weakNow_48 : decode cX11_weakNow 48 = .ok (.getfield 37, 3) := by decide +kernel
theorem dX11_weakNow_51 : decode cX11_weakNow 51 = .ok (.iconst 3, 1) := by decide +kernel
theorem dX11_weakNow_52 : decode cX11_weakNow 52 = .ok (.iaload, 1) := by decide +kernel
theorem dX11_weakNow_53 : decode cX11_weakNow 53 = .ok (.if_icmp .le 7, 3) := by decide +kernel
theorem dX11_weakNow_56 : decode cX11_weakNow 56 = .ok (.iconst 1, 1) := by decide +kernel
theorem dX11_weakNow_57 : decode cX11_weakNow 57 = .ok (.goto 4, 3) := by decide +kernel
theorem dX11_weakNow_60 : decode cX11_weakNow 60 = .ok (.iconst 0, 1) := by decide +kernel
theorem dX11_weakNow_61 : decode cX11_weakNow 61 = .ok (.istore_n 3, 1) := by decide +kernel
theorem dX11_weakNow_62 : decode cX11_weakNow 62 = .ok (.iload_n 1, 1) := by decide +kernel
theorem dX11_weakNow_63 : decode cX11_weakNow 63 = .ok (.iload_n 3, 1) := by decide +kernel
theorem dX11_weakNow_64 : decode cX11_weakNow 64 = .ok (.ifCond .eq 9, 3) := by decide +kernel
theorem dX11_weakNow_67 : decode cX11_weakNow 67 = .ok (.iconst 1, 1) := by decide +kernel
theorem dX11_weakNow_68 : decode cX11_weakNow 68 = .ok (.iload_n 2, 1) := by decide +kernel
theorem dX11_weakNow_69 : decode cX11_weakNow 69 = .ok (.ishl, 1) := by decide +kernel
theorem dX11_weakNow_70 : decode cX11_weakNow 70 = .ok (.goto 4, 3) := by decide +kernel
theorem dX11_weakNow_73 : decode cX11_weakNow 73 = .ok (.iconst 0, 1) := by decide +kernel
theorem dX11_weakNow_74 : decode cX11_weakNow 74 = .ok (.ior, 1) := by decide +kernel
theorem dX11_weakNow_75 : decode cX11_weakNow 75 = .ok (.istore_n 1, 1) := by decide +kernel
theorem dX11_weakNow_76 : decode cX11_weakNow 76 = .ok (.iinc 2 1, 3) := by decide +kernel
theorem dX11_weakNow_79 : decode cX11_weakNow 79 = .ok (.goto (-75), 3) := by decide +kernel
theorem dX11_weakNow_82 : decode cX11_weakNow 82 = .ok (.iload_n 1, 1) := by decide +kernel
theorem dX11_weakNow_83 : decode cX11_weakNow 83 = .ok (.ireturn, 1) := by decide +kernel
theorem dX11_pearsNow_0 : decode cX11_pearsNow 0 = .ok (.iconst 0, 1) := by decide +kernel
theorem dX11_pearsNow_1 : decode cX11_pearsNow 1 = .ok (.istore_n 1, 1) := by decide +kernel
theorem dX11_pearsNow_2 : decode cX11_pearsNow 2 = .ok (.iconst 0, 1) := by decide +kernel
theorem dX11_pearsNow_3 : decode cX11_pearsNow 3 = .ok (.istore_n 2, 1) := by decide +kernel
theorem dX11_pearsNow_4 : decode cX11_pearsNow 4 = .ok (.iload_n 2, 1) := by decide +kernel
theorem dX11_pearsNow_5 : decode cX11_pearsNow 5 = .ok (.aload_n 0, 1) := by decide +kernel
theorem dX11_pearsNow_6 : decode cX11_pearsNow 6 = .ok (.getfield 91, 3) := by decide +kernel
theorem dX11_pearsNow_9 : decode cX11_pearsNow 9 = .ok (.if_icmp .ge 44, 3) := by decide +kernel
theorem dX11_pearsNow_12 : decode cX11_pearsNow 12 = .ok (.iload_n 1, 1) := by decide +kernel
theorem dX11_pearsNow_13 : decode cX11_pearsNow 13 = .ok (.aload_n 0, 1) := by decide +kernel
theorem dX11_pearsNow_14 : decode cX11_pearsNow 14 = .ok (.getfield 37, 3) := by decide +kernel
theorem dX11_pearsNow_17 : decode cX11_pearsNow 17 = .ok (.iconst 5, 1) := by decide +kernel
theorem dX11_pearsNow_18 : decode cX11_pearsNow 18 = .ok (.iaload, 1) := by decide +kernel
theorem dX11_pearsNow_19 : decode cX11_pearsNow 19 = .ok (.iload_n 2, 1) := by decide +kernel
theorem dX11_pearsNow_20 : decode cX11_pearsNow 20 = .ok (.invokestatic 171, 3) := by decide +kernel
theorem dX11_pearsNow_23 : decode cX11_pearsNow 23 = .ok (.ifCond .eq 21, 3) := by decide +kernel
theorem dX11_pearsNow_26 : decode cX11_pearsNow 26 = .ok (.aload_n 0, 1) := by decide +kernel
theorem dX11_pearsNow_27 : decode cX11_pearsNow 27 = .ok (.iload_n 2, 1) := by decide +kernel
theorem dX11_pearsNow_28 : decode cX11_pearsNow 28 = .ok (.invokevirtual 159, 3) := by decide +kernel
theorem dX11_pearsNow_31 : decode cX11_pearsNow 31 = .ok (.aload_n 0, 1) := by decide +kernel
theorem dX11_pearsNow_32 : decode cX11_pearsNow 32 = .ok (.getfield 37, 3) := by decide +kernel
theorem dX11_pearsNow_35 : decode cX11_pearsNow 35 = .ok (.iconst 4, 1) := by decide +kernel
theorem dX11_pearsNow_36 : decode cX11_pearsNow 36 = .ok (.iaload, 1) := by decide +kernel
theorem dX11_pearsNow_37 : decode cX11_pearsNow 37 = .ok (.if_icmp .gt 7, 3) := by decide +kernel
theorem dX11_pearsNow_40 : decode cX11_pearsNow 40 = .ok (.iconst 1, 1) := by decide +kernel
theorem dX11_pearsNow_41 : decode cX11_pearsNow 41 = .ok (.goto 4, 3) := by decide +kernel
theorem dX11_pearsNow_44 : decode cX11_pearsNow 44 = .ok (.iconst 0, 1) := by decide +kernel
theorem dX11_pearsNow_45 : decode cX11_pearsNow 45 = .ok (.iadd, 1) := by decide +kernel
theorem dX11_pearsNow_46 : decode cX11_pearsNow 46 = .ok (.istore_n 1, 1) := by decide +kernel
theorem dX11_pearsNow_47 : decode cX11_pearsNow 47 = .ok (.iinc 2 1, 3) := by decide +kernel
theorem dX11_pearsNow_50 : decode cX11_pearsNow 50 = .ok (.goto (-46), 3) := by decide +kernel
theorem dX11_pearsNow_53 : decode cX11_pearsNow 53 = .ok (.iload_n 1, 1) := by decide +kernel
theorem dX11_pearsNow_54 : decode cX11_pearsNow 54 = .ok (.ireturn, 1) := by decide +kernel
theorem dX11_weighs_0 : decode cX11_weighs 0 = .ok (.iconst 0, 1) := by decide +kernel
theorem dX11_weighs_1 : decode cX11_weighs 1 = .ok (.istore_n 2, 1) := by decide +kernel
theorem dX11_weighs_2 : decode cX11_weighs 2 = .ok (.iconst 0, 1) := by decide +kernel
theorem dX11_weighs_3 : decode cX11_weighs 3 = .ok (.istore_n 3, 1) := by decide +kernel
theorem dX11_weighs_4 : decode cX11_weighs 4 = .ok (.iload_n 3, 1) := by decide +kernel
theorem dX11_weighs_5 : decode cX11_weighs 5 = .ok (.aload_n 0, 1) := by decide +kernel
theorem dX11_weighs_6 : decode cX11_weighs 6 = .ok (.getfield 91, 3) := by decide +kernel
theorem dX11_weighs_9 : decode cX11_weighs 9 = .ok (.if_icmp .ge 63, 3) := by decide +kernel
theorem dX11_weighs_12 : decode cX11_weighs 12 = .ok (.iconst 0, 1) := by decide +kernel
theorem dX11_weighs_13 : decode cX11_weighs 13 = .ok (.istore 4, 2) := by decide +kernel
theorem dX11_weighs_15 : decode cX11_weighs 15 = .ok (.iload 4, 2) := by decide +kernel
theorem dX11_weighs_17 : decode cX11_weighs 17 = .ok (.aload_n 0, 1) := by decide +kernel
theorem dX11_weighs_18 : decode cX11_weighs 18 = .ok (.getfield 43, 3) := by decide +kernel
theorem dX11_weighs_21 : decode cX11_weighs 21 = .ok (.iload_n 3, 1) := by decide +kernel
theorem dX11_weighs_22 : decode cX11_weighs 22 = .ok (.iaload, 1) := by decide +kernel
theorem dX11_weighs_23 : decode cX11_weighs 23 = .ok (.if_icmp .ge 43, 3) := by decide +kernel
theorem dX11_weighs_26 : decode cX11_weighs 26 = .ok (.aload_n 0, 1) := by decide +kernel
theorem dX11_weighs_27 : decode cX11_weighs 27 = .ok (.getfield 40, 3) := by decide +kernel
theorem dX11_weighs_30 : decode cX11_weighs 30 = .ok (.bipush 8, 2) := by decide +kernel
theorem dX11_weighs_32 : decode cX11_weighs 32 = .ok (.iload_n 3, 1) := by decide +kernel
theorem dX11_weighs_33 : decode cX11_weighs 33 = .ok (.imul, 1) := by decide +kernel
theorem dX11_weighs_34 : decode cX11_weighs 34 = .ok (.iload 4, 2) := by decide +kernel
theorem dX11_weighs_36 : decode cX11_weighs 36 = .ok (.iadd, 1) := by decide +kernel
theorem dX11_weighs_37 : decode cX11_weighs 37 = .ok (.iaload, 1) := by decide +kernel
theorem dX11_weighs_38 : decode cX11_weighs 38 = .ok (.istore 5, 2) := by decide +kernel
theorem dX11_weighs_40 : decode cX11_weighs 40 = .ok (.iload_n 2, 1) := by decide +kernel
theorem dX11_weighs_41 : decode cX11_weighs 41 = .ok (.iload 5, 2) := by decide +kernel
theorem dX11_weighs_43 : decode cX11_weighs 43 = .ok (.iconst 2, 1) := by decide +kernel
theorem dX11_weighs_44 : decode cX11_weighs 44 = .ok (.irem, 1) := by decide +kernel
theorem dX11_weighs_45 : decode cX11_weighs 45 = .ok (.iload_n 1, 1) := by decide +kernel
theorem dX11_weighs_46 : decode cX11_weighs 46 = .ok (.if_icmp .ne 11, 3) := by decide +kernel
theorem dX11_weighs_49 : decode cX11_weighs 49 = .ok (.iload 5, 2) := by decide +kernel
theorem dX11_weighs_51 : decode cX11_weighs 51 = .ok (.invokestatic 156, 3) := by decide +kernel
theorem dX11_weighs_54 : decode cX11_weighs 54 = .ok (.goto 4, 3) := by decide +kernel
theorem dX11_weighs_57 : decode cX11_weighs 57 = .ok (.iconst 0, 1) := by decide +kernel
theorem dX11_weighs_58 : decode cX11_weighs 58 = .ok (.iadd, 1) := by decide +kernel
theorem dX11_weighs_59 : decode cX11_weighs 59 = .ok (.istore_n 2, 1) := by decide +kernel
theorem dX11_weighs_60 : decode cX11_weighs 60 = .ok (.iinc 4 1, 3) := by decide +kernel
theorem dX11_weighs_63 : decode cX11_weighs 63 = .ok (.goto (-48), 3) := by decide +kernel
theorem dX11_weighs_66 : decode cX11_weighs 66 = .ok (.iinc 3 1, 3) := by decide +kernel
theorem dX11_weighs_69 : decode cX11_weighs 69 = .ok (.goto (-65), 3) := by decide +kernel
theorem dX11_weighs_72 : decode cX11_weighs 72 = .ok (.iload_n 2, 1) := by decide +kernel
theorem dX11_weighs_73 : decode cX11_weighs 73 = .ok (.ireturn, 1) := by decide +kernel
theorem dX11_areTurns_0 : decode cX11_areTurns 0 = .ok (.iload_n 1, 1) := by decide +kernel
theorem dX11_areTurns_1 : decode cX11_areTurns 1 = .ok (.i2l, 1) := by decide +kernel
theorem dX11_areTurns_2 : decode cX11_areTurns 2 = .ok (.lconst 0, 1) := by decide +kernel
theorem dX11_areTurns_3 : decode cX11_areTurns 3 = .ok (.aload_n 0, 1) := by decide +kernel
theorem dX11_areTurns_4 : decode cX11_areTurns 4 = .ok (.getfield 108, 3) := by decide +kernel
theorem dX11_areTurns_7 : decode cX11_areTurns 7 = .ok (.i2l, 1) := by decide +kernel
theorem dX11_areTurns_8 : decode cX11_areTurns 8 = .ok (.invokestatic 58, 3) := by decide +kernel
theorem dX11_areTurns_11 : decode cX11_areTurns 11 = .ok (.ireturn, 1) := by decide +kernel
theorem dX11_isColumn_0 : decode cX11_isColumn 0 = .ok (.iload_n 1, 1) := by decide +kernel
theorem dX11_isColumn_1 : decode cX11_isColumn 1 = .ok (.i2l, 1) := by decide +kernel
theorem dX11_isColumn_2 : decode cX11_isColumn 2 = .ok (.lconst 0, 1) := by decide +kernel
theorem dX11_isColumn_3 : decode cX11_isColumn 3 = .ok (.aload_n 0, 1) := by decide +kernel
theorem dX11_isColumn_4 : decode cX11_isColumn 4 = .ok (.getfield 91, 3) := by decide +kernel
theorem dX11_isColumn_7 : decode cX11_isColumn 7 = .ok (.iconst 1, 1) := by decide +kernel
theorem dX11_isColumn_8 : decode cX11_isColumn 8 = .ok (.isub, 1) := by decide +kernel
theorem dX11_isColumn_9 : decode cX11_isColumn 9 = .ok (.i2l, 1) := by decide +kernel
theorem dX11_isColumn_10 : decode cX11_isColumn 10 = .ok (.invokestatic 58, 3) := by decide +kernel
theorem dX11_isColumn_13 : decode cX11_isColumn 13 = .ok (.ireturn, 1) := by decide +kernel
theorem dX11_heightOf_0 : decode cX11_heightOf 0 = .ok (.aload_n 0, 1) := by decide +kernel
theorem dX11_heightOf_1 : decode cX11_heightOf 1 = .ok (.iload_n 1, 1) := by decide +kernel
theorem dX11_heightOf_2 : decode cX11_heightOf 2 = .ok (.invokevirtual 174, 3) := by decide +kernel
theorem dX11_heightOf_5 : decode cX11_heightOf 5 = .ok (.aload_n 0, 1) := by decide +kernel
theorem dX11_heightOf_6 : decode cX11_heightOf 6 = .ok (.iload_n 2, 1) := by decide +kernel
theorem dX11_heightOf_7 : decode cX11_heightOf 7 = .ok (.invokevirtual 159, 3) := by decide +kernel
theorem dX11_heightOf_10 : decode cX11_heightOf 10 = .ok (.ireturn, 1) := by decide +kernel
theorem dX11_height_0 : decode cX11_height 0 = .ok (.aload_n 0, 1) := by decide +kernel
theorem dX11_height_1 : decode cX11_height 1 = .ok (.invokevirtual 177, 3) := by decide +kernel
theorem dX11_height_4 : decode cX11_height 4 = .ok (.aload_n 0, 1) := by decide +kernel
theorem dX11_height_5 : decode cX11_height 5 = .ok (.iload_n 1, 1) := by decide +kernel
theorem dX11_height_6 : decode cX11_height 6 = .ok (.invokevirtual 180, 3) := by decide +kernel
theorem dX11_height_9 : decode cX11_height 9 = .ok (.ifCond .eq 20, 3) := by decide +kernel
theorem dX11_height_12 : decode cX11_height 12 = .ok (.aload_n 0, 1) := by decide +kernel
theorem dX11_height_13 : decode cX11_height 13 = .ok (.iload_n 2, 1) := by decide +kernel
theorem dX11_height_14 : decode cX11_height 14 = .ok (.invokevirtual 183, 3) := by decide +kernel
theorem dX11_height_17 : decode cX11_height 17 = .ok (.ifCond .eq 12, 3) := by decide +kernel
theorem dX11_height_20 : decode cX11_height 20 = .ok (.aload_n 0, 1) := by decide +kernel
theorem dX11_height_21 : decode cX11_height 21 = .ok (.iload_n 1, 1) := by decide +kernel
theorem dX11_height_22 : decode cX11_height 22 = .ok (.iload_n 2, 1) := by decide +kernel
theorem dX11_height_23 : decode cX11_height 23 = .ok (.invokevirtual 186, 3) := by decide +kernel
theorem dX11_height_26 : decode cX11_height 26 = .ok (.goto 5, 3) := by decide +kernel
theorem dX11_height_29 : decode cX11_height 29 = .ok (.bipush (-2), 2) := by decide +kernel
theorem dX11_height_31 : decode cX11_height 31 = .ok (.ireturn, 1) := by decide +kernel
theorem dX11_leanBehind_0 : decode cX11_leanBehind 0 = .ok (.aload_n 0, 1) := by decide +kernel
theorem dX11_leanBehind_1 : decode cX11_leanBehind 1 = .ok (.iload_n 1, 1) := by decide +kernel
theorem dX11_leanBehind_2 : decode cX11_leanBehind 2 = .ok (.invokevirtual 174, 3) := by decide +kernel
theorem dX11_leanBehind_5 : decode cX11_leanBehind 5 = .ok (.aload_n 0, 1) := by decide +kernel
theorem dX11_leanBehind_6 : decode cX11_leanBehind 6 = .ok (.iload_n 2, 1) := by decide +kernel
theorem dX11_leanBehind_7 : decode cX11_leanBehind 7 = .ok (.invokevirtual 165, 3) := by decide +kernel
theorem dX11_leanBehind_10 : decode cX11_leanBehind 10 = .ok (.ireturn, 1) := by decide +kernel
theorem dX11_lean_0 : decode cX11_lean 0 = .ok (.aload_n 0, 1) := by decide +kernel
theorem dX11_lean_1 : decode cX11_lean 1 = .ok (.invokevirtual 177, 3) := by decide +kernel
theorem dX11_lean_4 : decode cX11_lean 4 = .ok (.aload_n 0, 1) := by decide +kernel
theorem dX11_lean_5 : decode cX11_lean 5 = .ok (.iload_n 1, 1) := by decide +kernel
theorem dX11_lean_6 : decode cX11_lean 6 = .ok (.invokevirtual 180, 3) := by decide +kernel
theorem dX11_lean_9 : decode cX11_lean 9 = .ok (.ifCond .eq 20, 3) := by decide +kernel
theorem dX11_lean_12 : decode cX11_lean 12 = .ok (.aload_n 0, 1) := by decide +kernel
theorem dX11_lean_13 : decode cX11_lean 13 = .ok (.iload_n 2, 1) := by decide +kernel
theorem dX11_lean_14 : decode cX11_lean 14 = .ok (.invokevirtual 183, 3) := by decide +kernel
theorem dX11_lean_17 : decode cX11_lean 17 = .ok (.ifCond .eq 12, 3) := by decide +kernel
theorem dX11_lean_20 : decode cX11_lean 20 = .ok (.aload_n 0, 1) := by decide +kernel
theorem dX11_lean_21 : decode cX11_lean 21 = .ok (.iload_n 1, 1) := by decide +kernel
theorem dX11_lean_22 : decode cX11_lean 22 = .ok (.iload_n 2, 1) := by decide +kernel
theorem dX11_lean_23 : decode cX11_lean 23 = .ok (.invokevirtual 189, 3) := by decide +kernel
theorem dX11_lean_26 : decode cX11_lean 26 = .ok (.goto 6, 3) := by decide +kernel
theorem dX11_lean_29 : decode cX11_lean 29 = .ok (.sipush (-1002), 3) := by decide +kernel
theorem dX11_lean_32 : decode cX11_lean 32 = .ok (.ireturn, 1) := by decide +kernel
theorem dX11_stoneBehind_0 : decode cX11_stoneBehind 0 = .ok (.aload_n 0, 1) := by decide +kernel
theorem dX11_stoneBehind_1 : decode cX11_stoneBehind 1 = .ok (.iload_n 1, 1) := by decide +kernel
theorem dX11_stoneBehind_2 : decode cX11_stoneBehind 2 = .ok (.invokevirtual 174, 3) := by decide +kernel
theorem dX11_stoneBehind_5 : decode cX11_stoneBehind 5 = .ok (.iload_n 3, 1) := by decide +kernel
theorem dX11_stoneBehind_6 : decode cX11_stoneBehind 6 = .ok (.iconst (-1), 1) := by decide +kernel
theorem dX11_stoneBehind_7 : decode cX11_stoneBehind 7 = .ok (.if_icmp .ne 12, 3) := by decide +kernel
theorem dX11_stoneBehind_10 : decode cX11_stoneBehind 10 = .ok (.aload_n 0, 1) := by decide +kernel
theorem dX11_stoneBehind_11 : decode cX11_stoneBehind 11 = .ok (.getfield 43, 3) := by decide +kernel
theorem dX11_stoneBehind_14 : decode cX11_stoneBehind 14 = .ok (.iload_n 2, 1) := by decide +kernel
theorem dX11_stoneBehind_15 : decode cX11_stoneBehind 15 = .ok (.iaload, 1) := by decide +kernel
theorem dX11_stoneBehind_16 : decode cX11_stoneBehind 16 = .ok (.goto 28, 3) := by decide +kernel
theorem dX11_stoneBehind_19 : decode cX11_stoneBehind 19 = .ok (.iload_n 3, 1) := by decide +kernel
theorem dX11_stoneBehind_20 : decode cX11_stoneBehind 20 = .ok (.aload_n 0, 1) := by decide +kernel
theorem dX11_stoneBehind_21 : decode cX11_stoneBehind 21 = .ok (.getfield 43, 3) := by decide +kernel
theorem dX11_stoneBehind_24 : decode cX11_stoneBehind 24 = .ok (.iload_n 2, 1) := by decide +kernel
theorem dX11_stoneBehind_25 : decode cX11_stoneBehind 25 = .ok (.iaload, 1) := by decide +kernel
theorem dX11_stoneBehind_26 : decode cX11_stoneBehind 26 = .ok (.if_icmp .ge 17, 3) := by decide +kernel
theorem dX11_stoneBehind_29 : decode cX11_stoneBehind 29 = .ok (.aload_n 0, 1) := by decide +kernel
theorem dX11_stoneBehind_30 : decode cX11_stoneBehind 30 = .ok (.getfield 40, 3) := by decide +kernel
theorem dX11_stoneBehind_33 : decode cX11_stoneBehind 33 = .ok (.bipush 8, 2) := by decide +kernel
theorem dX11_stoneBehind_35 : decode cX11_stoneBehind 35 = .ok (.iload_n 2, 1) := by decide +kernel
theorem dX11_stoneBehind_36 : decode cX11_stoneBehind 36 = .ok (.imul, 1) := by decide +kernel
theorem dX11_stoneBehind_37 : decode cX11_stoneBehind 37 = .ok (.iload_n 3, 1) := by decide +kernel
theorem dX11_stoneBehind_38 : decode cX11_stoneBehind 38 = .ok (.iadd, 1) := by decide +kernel
theorem dX11_stoneBehind_39 : decode cX11_stoneBehind 39 = .ok (.iaload, 1) := by decide +kernel
theorem dX11_stoneBehind_40 : decode cX11_stoneBehind 40 = .ok (.goto 4, 3) := by decide +kernel
theorem dX11_stoneBehind_43 : decode cX11_stoneBehind 43 = .ok (.iconst (-1), 1) := by decide +kernel
theorem dX11_stoneBehind_44 : decode cX11_stoneBehind 44 = .ok (.ireturn, 1) := by decide +kernel
theorem dX11_stone_0 : decode cX11_stone 0 = .ok (.aload_n 0, 1) := by decide +kernel
theorem dX11_stone_1 : decode cX11_stone 1 = .ok (.invokevirtual 177, 3) := by decide +kernel
theorem dX11_stone_4 : decode cX11_stone 4 = .ok (.aload_n 0, 1) := by decide +kernel
theorem dX11_stone_5 : decode cX11_stone 5 = .ok (.iload_n 1, 1) := by decide +kernel
theorem dX11_stone_6 : decode cX11_stone 6 = .ok (.invokevirtual 180, 3) := by decide +kernel
theorem dX11_stone_9 : decode cX11_stone 9 = .ok (.ifCond .eq 35, 3) := by decide +kernel
theorem dX11_stone_12 : decode cX11_stone 12 = .ok (.aload_n 0, 1) := by decide +kernel
theorem dX11_stone_13 : decode cX11_stone 13 = .ok (.iload_n 2, 1) := by decide +kernel
theorem dX11_stone_14 : decode cX11_stone 14 = .ok (.invokevirtual 183, 3) := by decide +kernel
theorem dX11_stone_17 : decode cX11_stone 17 = .ok (.ifCond .eq 27, 3) := by decide +kernel
theorem dX11_stone_20 : decode cX11_stone 20 = .ok (.iload_n 3, 1) := by decide +kernel
theorem dX11_stone_21 : decode cX11_stone 21 = .ok (.i2l, 1) := by decide +kernel
theorem dX11_stone_22 : decode cX11_stone 22 = .ok (.ldc2_w 192, 3) := by decide +kernel
theorem dX11_stone_25 : decode cX11_stone 25 = .ok (.ldc2_w 194, 3) := by decide +kernel
theorem dX11_stone_28 : decode cX11_stone 28 = .ok (.invokestatic 58, 3) := by decide +kernel
theorem dX11_stone_31 : decode cX11_stone 31 = .ok (.ifCond .eq 13, 3) := by decide +kernel
theorem dX11_stone_34 : decode cX11_stone 34 = .ok (.aload_n 0, 1) := by decide +kernel
theorem dX11_stone_35 : decode cX11_stone 35 = .ok (.iload_n 1, 1) := by decide +kernel
theorem dX11_stone_36 : decode cX11_stone 36 = .ok (.iload_n 2, 1) := by decide +kernel
theorem dX11_stone_37 : decode cX11_stone 37 = .ok (.iload_n 3, 1) := by decide +kernel
theorem dX11_stone_38 : decode cX11_stone 38 = .ok (.invokevirtual 196, 3) := by decide +kernel
theorem dX11_stone_41 : decode cX11_stone 41 = .ok (.goto 5, 3) := by decide +kernel
theorem dX11_stone_44 : decode cX11_stone 44 = .ok (.bipush (-2), 2) := by decide +kernel
theorem dX11_stone_46 : decode cX11_stone 46 = .ok (.ireturn, 1) := by decide +kernel
theorem dX11_behindOf_0 : decode cX11_behindOf 0 = .ok (.aload_n 0, 1) := by decide +kernel
theorem dX11_behindOf_1 : decode cX11_behindOf 1 = .ok (.iload_n 1, 1) := by decide +kernel
theorem dX11_behindOf_2 : decode cX11_behindOf 2 = .ok (.invokevirtual 174, 3) := by decide +kernel
theorem dX11_behindOf_5 : decode cX11_behindOf 5 = .ok (.iload_n 2, 1) := by decide +kernel
theorem dX11_behindOf_6 : decode cX11_behindOf 6 = .ok (.ifCond .ne 10, 3) := by decide +kernel
theorem dX11_behindOf_9 : decode cX11_behindOf 9 = .ok (.aload_n 0, 1) := by decide +kernel
theorem dX11_behindOf_10 : decode cX11_behindOf 10 = .ok (.invokevirtual 199, 3) := by decide +kernel
theorem dX11_behindOf_13 : decode cX11_behindOf 13 = .ok (.goto 22, 3) := by decide +kernel
theorem dX11_behindOf_16 : decode cX11_behindOf 16 = .ok (.iload_n 2, 1) := by decide +kernel
theorem dX11_behindOf_17 : decode cX11_behindOf 17 = .ok (.iconst 1, 1) := by decide +kernel
theorem dX11_behindOf_18 : decode cX11_behindOf 18 = .ok (.if_icmp .ne 10, 3) := by decide +kernel
theorem dX11_behindOf_21 : decode cX11_behindOf 21 = .ok (.aload_n 0, 1) := by decide +kernel
theorem dX11_behindOf_22 : decode cX11_behindOf 22 = .ok (.invokevirtual 202, 3) := by decide +kernel
theorem dX11_behindOf_25 : decode cX11_behindOf 25 = .ok (.goto 10, 3) := by decide +kernel
theorem dX11_behindOf_28 : decode cX11_behindOf 28 = .ok (.aload_n 0, 1) := by decide +kernel
theorem dX11_behindOf_29 : decode cX11_behindOf 29 = .ok (.iload_n 2, 1) := by decide +kernel
theorem dX11_behindOf_30 : decode cX11_behindOf 30 = .ok (.iconst 2, 1) := by decide +kernel
theorem dX11_behindOf_31 : decode cX11_behindOf 31 = .ok (.isub, 1) := by decide +kernel
theorem dX11_behindOf_32 : decode cX11_behindOf 32 = .ok (.invokevirtual 205, 3) := by decide +kernel
theorem dX11_behindOf_35 : decode cX11_behindOf 35 = .ok (.ireturn, 1) := by decide +kernel
theorem dX11_behind_0 : decode cX11_behind 0 = .ok (.aload_n 0, 1) := by decide +kernel
theorem dX11_behind_1 : decode cX11_behind 1 = .ok (.invokevirtual 177, 3) := by decide +kernel
theorem dX11_behind_4 : decode cX11_behind 4 = .ok (.aload_n 0, 1) := by decide +kernel
theorem dX11_behind_5 : decode cX11_behind 5 = .ok (.iload_n 1, 1) := by decide +kernel
theorem dX11_behind_6 : decode cX11_behind 6 = .ok (.invokevirtual 180, 3) := by decide +kernel
theorem dX11_behind_9 : decode cX11_behind 9 = .ok (.ifCond .eq 24, 3) := by decide +kernel
theorem dX11_behind_12 : decode cX11_behind 12 = .ok (.iload_n 2, 1) := by decide +kernel
theorem dX11_behind_13 : decode cX11_behind 13 = .ok (.i2l, 1) := by decide +kernel
theorem dX11_behind_14 : decode cX11_behind 14 = .ok (.lconst 0, 1) := by decide +kernel
theorem dX11_behind_15 : decode cX11_behind 15 = .ok (.ldc2_w 65, 3) := by decide +kernel
theorem dX11_behind_18 : decode cX11_behind 18 = .ok (.invokestatic 58, 3) := by decide +kernel
theorem dX11_behind_21 : decode cX11_behind 21 = .ok (.ifCond .eq 12, 3) := by decide +kernel
theorem dX11_behind_24 : decode cX11_behind 24 = .ok (.aload_n 0, 1) := by decide +kernel
theorem dX11_behind_25 : decode cX11_behind 25 = .ok (.iload_n 1, 1) := by decide +kernel
theorem dX11_behind_26 : decode cX11_behind 26 = .ok (.iload_n 2, 1) := by decide +kernel
theorem dX11_behind_27 : decode cX11_behind 27 = .ok (.invokevirtual 208, 3) := by decide +kernel
theorem dX11_behind_30 : decode cX11_behind 30 = .ok (.goto 5, 3) := by decide +kernel
theorem dX11_behind_33 : decode cX11_behind 33 = .ok (.bipush (-2), 2) := by decide +kernel
theorem dX11_behind_35 : decode cX11_behind 35 = .ok (.ireturn, 1) := by decide +kernel
theorem dX11_turnOf_0 : decode cX11_turnOf 0 = .ok (.aload_n 0, 1) := by decide +kernel
theorem dX11_turnOf_1 : decode cX11_turnOf 1 = .ok (.iload_n 1, 1) := by decide +kernel
theorem dX11_turnOf_2 : decode cX11_turnOf 2 = .ok (.iconst 1, 1) := by decide +kernel
theorem dX11_turnOf_3 : decode cX11_turnOf 3 = .ok (.iadd, 1) := by decide +kernel
theorem dX11_turnOf_4 : decode cX11_turnOf 4 = .ok (.invokevirtual 174, 3) := by decide +kernel
theorem dX11_turnOf_7 : decode cX11_turnOf 7 = .ok (.iload_n 2, 1) := by decide +kernel
theorem dX11_turnOf_8 : decode cX11_turnOf 8 = .ok (.ifCond .ne 11, 3) := by decide +kernel
theorem dX11_turnOf_11 : decode cX11_turnOf 11 = .ok (.aload_n 0, 1) := by decide +kernel
theorem dX11_turnOf_12 : decode cX11_turnOf 12 = .ok (.iload_n 1, 1) := by decide +kernel
theorem dX11_turnOf_13 : decode cX11_turnOf 13 = .ok (.invokevirtual 132, 3) := by decide +kernel
theorem dX11_turnOf_16 : decode cX11_turnOf 16 = .ok (.goto 19, 3) := by decide +kernel
theorem dX11_turnOf_19 : decode cX11_turnOf 19 = .ok (.iload_n 2, 1) := by decide +kernel
theorem dX11_turnOf_20 : decode cX11_turnOf 20 = .ok (.iconst 1, 1) := by decide +kernel
theorem dX11_turnOf_21 : decode cX11_turnOf 21 = .ok (.if_icmp .ne 10, 3) := by decide +kernel
theorem dX11_turnOf_24 : decode cX11_turnOf 24 = .ok (.aload_n 0, 1) := by decide +kernel
theorem dX11_turnOf_25 : decode cX11_turnOf 25 = .ok (.getfield 139, 3) := by decide +kernel
theorem dX11_turnOf_28 : decode cX11_turnOf 28 = .ok (.goto 7, 3) := by decide +kernel
theorem dX11_turnOf_31 : decode cX11_turnOf 31 = .ok (.aload_n 0, 1) := by decide +kernel
theorem dX11_turnOf_32 : decode cX11_turnOf 32 = .ok (.getfield 142, 3) := by decide +kernel
theorem dX11_turnOf_35 : decode cX11_turnOf 35 = .ok (.ireturn, 1) := by decide +kernel
theorem dX11_turn_0 : decode cX11_turn 0 = .ok (.aload_n 0, 1) := by decide +kernel
theorem dX11_turn_1 : decode cX11_turn 1 = .ok (.invokevirtual 177, 3) := by decide +kernel
theorem dX11_turn_4 : decode cX11_turn 4 = .ok (.iload_n 1, 1) := by decide +kernel
theorem dX11_turn_5 : decode cX11_turn 5 = .ok (.i2l, 1) := by decide +kernel
theorem dX11_turn_6 : decode cX11_turn 6 = .ok (.lconst 0, 1) := by decide +kernel
theorem dX11_turn_7 : decode cX11_turn 7 = .ok (.aload_n 0, 1) := by decide +kernel
theorem dX11_turn_8 : decode cX11_turn 8 = .ok (.getfield 108, 3) := by decide +kernel
theorem dX11_turn_11 : decode cX11_turn 11 = .ok (.iconst 1, 1) := by decide +kernel
theorem dX11_turn_12 : decode cX11_turn 12 = .ok (.isub, 1) := by decide +kernel
theorem dX11_turn_13 : decode cX11_turn 13 = .ok (.i2l, 1) := by decide +kernel
theorem dX11_turn_14 : decode cX11_turn 14 = .ok (.invokestatic 58, 3) := by decide +kernel
theorem dX11_turn_17 : decode cX11_turn 17 = .ok (.ifCond .eq 24, 3) := by decide +kernel
theorem dX11_turn_20 : decode cX11_turn 20 = .ok (.iload_n 2, 1) := by decide +kernel
theorem dX11_turn_21 : decode cX11_turn 21 = .ok (.i2l, 1) := by decide +kernel
theorem dX11_turn_22 : decode cX11_turn 22 = .ok (.lconst 0, 1) := by decide +kernel
theorem dX11_turn_23 : decode cX11_turn 23 = .ok (.ldc2_w 71, 3) := by decide +kernel
theorem dX11_turn_26 : decode cX11_turn 26 = .ok (.invokestatic 58, 3) := by decide +kernel
theorem dX11_turn_29 : decode cX11_turn 29 = .ok (.ifCond .eq 12, 3) := by decide +kernel
theorem dX11_turn_32 : decode cX11_turn 32 = .ok (.aload_n 0, 1) := by decide +kernel
theorem dX11_turn_33 : decode cX11_turn 33 = .ok (.iload_n 1, 1) := by decide +kernel
theorem dX11_turn_34 : decode cX11_turn 34 = .ok (.iload_n 2, 1) := by decide +kernel
theorem dX11_turn_35 : decode cX11_turn 35 = .ok (.invokevirtual 211, 3) := by decide +kernel
theorem dX11_turn_38 : decode cX11_turn 38 = .ok (.goto 5, 3) := by decide +kernel
theorem dX11_turn_41 : decode cX11_turn 41 = .ok (.bipush (-2), 2) := by decide +kernel
theorem dX11_turn_43 : decode cX11_turn 43 = .ok (.ireturn, 1) := by decide +kernel
theorem dX11_firstOf_0 : decode cX11_firstOf 0 = .ok (.iconst 0, 1) := by decide +kernel
theorem dX11_firstOf_1 : decode cX11_firstOf 1 = .ok (.istore_n 2, 1) := by decide +kernel
theorem dX11_firstOf_2 : decode cX11_firstOf 2 = .ok (.iload_n 2, 1) := by decide +kernel
theorem dX11_firstOf_3 : decode cX11_firstOf 3 = .ok (.aload_n 0, 1) := by decide +kernel
theorem dX11_firstOf_4 : decode cX11_firstOf 4 = .ok (.getfield 108, 3) := by decide +kernel
theorem dX11_firstOf_7 : decode cX11_firstOf 7 = .ok (.if_icmp .gt 57, 3) := by decide +kernel
theorem dX11_firstOf_10 : decode cX11_firstOf 10 = .ok (.aload_n 0, 1) := by decide +kernel
theorem dX11_firstOf_11 : decode cX11_firstOf 11 = .ok (.iload_n 2, 1) := by decide +kernel
theorem dX11_firstOf_12 : decode cX11_firstOf 12 = .ok (.invokevirtual 174, 3) := by decide +kernel
theorem dX11_firstOf_15 : decode cX11_firstOf 15 = .ok (.aload_n 0, 1) := by decide +kernel
theorem dX11_firstOf_16 : decode cX11_firstOf 16 = .ok (.invokevirtual 199, 3) := by decide +kernel
theorem dX11_firstOf_19 : decode cX11_firstOf 19 = .ok (.istore_n 3, 1) := by decide +kernel
theorem dX11_firstOf_20 : decode cX11_firstOf 20 = .ok (.iconst 0, 1) := by decide +kernel
theorem dX11_firstOf_21 : decode cX11_firstOf 21 = .ok (.istore 4, 2) := by decide +kernel
theorem dX11_firstOf_23 : decode cX11_firstOf 23 = .ok (.iload 4, 2) := by decide +kernel
theorem dX11_firstOf_25 : decode cX11_firstOf 25 = .ok (.aload_n 0, 1) := by decide +kernel
theorem dX11_firstOf_26 : decode cX11_firstOf 26 = .ok (.getfield 91, 3) := by decide +kernel
theorem dX11_firstOf_29 : decode cX11_firstOf 29 = .ok (.if_icmp .ge 29, 3) := by decide +kernel
theorem dX11_firstOf_32 : decode cX11_firstOf 32 = .ok (.iload_n 3, 1) := by decide +kernel
theorem dX11_firstOf_33 : decode cX11_firstOf 33 = .ok (.iload 4, 2) := by decide +kernel
theorem dX11_firstOf_35 : decode cX11_firstOf 35 = .ok (.invokestatic 171, 3) := by decide +kernel
theorem dX11_firstOf_38 : decode cX11_firstOf 38 = .ok (.ifCond .eq 14, 3) := by decide +kernel
theorem dX11_firstOf_41 : decode cX11_firstOf 41 = .ok (.iload_n 1, 1) := by decide +kernel
theorem dX11_firstOf_42 : decode cX11_firstOf 42 = .ok (.ifCond .ne 7, 3) := by decide +kernel
theorem dX11_firstOf_45 : decode cX11_firstOf 45 = .ok (.iload_n 2, 1) := by decide +kernel
theorem dX11_firstOf_46 : decode cX11_firstOf 46 = .ok (.goto 5, 3) := by decide +kernel
theorem dX11_firstOf_49 : decode cX11_firstOf 49 = .ok (.iload 4, 2) := by decide +kernel
theorem dX11_firstOf_51 : decode cX11_firstOf 51 = .ok (.ireturn, 1) := by decide +kernel
theorem dX11_firstOf_52 : decode cX11_firstOf 52 = .ok (.iinc 4 1, 3) := by decide +kernel
theorem dX11_firstOf_55 : decode cX11_firstOf 55 = .ok (.goto (-32), 3) := by decide +kernel
theorem dX11_firstOf_58 : decode cX11_firstOf 58 = .ok (.iinc 2 1, 3) := by decide +kernel
theorem dX11_firstOf_61 : decode cX11_firstOf 61 = .ok (.goto (-59), 3) := by decide +kernel
theorem dX11_firstOf_64 : decode cX11_firstOf 64 = .ok (.iconst (-1), 1) := by decide +kernel
theorem dX11_firstOf_65 : decode cX11_firstOf 65 = .ok (.ireturn, 1) := by decide +kernel
theorem dX11_first_0 : decode cX11_first 0 = .ok (.aload_n 0, 1) := by decide +kernel
theorem dX11_first_1 : decode cX11_first 1 = .ok (.invokevirtual 177, 3) := by decide +kernel
theorem dX11_first_4 : decode cX11_first 4 = .ok (.iload_n 1, 1) := by decide +kernel
theorem dX11_first_5 : decode cX11_first 5 = .ok (.invokestatic 86, 3) := by decide +kernel
theorem dX11_first_8 : decode cX11_first 8 = .ok (.ifCond .eq 11, 3) := by decide +kernel
theorem dX11_first_11 : decode cX11_first 11 = .ok (.aload_n 0, 1) := by decide +kernel
theorem dX11_first_12 : decode cX11_first 12 = .ok (.iload_n 1, 1) := by decide +kernel
theorem dX11_first_13 : decode cX11_first 13 = .ok (.invokevirtual 214, 3) := by decide +kernel
theorem dX11_first_16 : decode cX11_first 16 = .ok (.goto 5, 3) := by decide +kernel
theorem dX11_first_19 : decode cX11_first 19 = .ok (.bipush (-2), 2) := by decide +kernel
theorem dX11_first_21 : decode cX11_first 21 = .ok (.ireturn, 1) := by decide +kernel
theorem dX11_highestNow_0 : decode cX11_highestNow 0 = .ok (.aload_n 0, 1) := by decide +kernel
theorem dX11_highestNow_1 : decode cX11_highestNow 1 = .ok (.aload_n 0, 1) := by decide +kernel
theorem dX11_highestNow_2 : decode cX11_highestNow 2 = .ok (.getfield 108, 3) := by decide +kernel
theorem dX11_highestNow_5 : decode cX11_highestNow 5 = .ok (.invokevirtual 174, 3) := by decide +kernel
theorem dX11_highestNow_8 : decode cX11_highestNow 8 = .ok (.iconst (-1), 1) := by decide +kernel
theorem dX11_highestNow_9 : decode cX11_highestNow 9 = .ok (.istore_n 1, 1) := by decide +kernel
theorem dX11_highestNow_10 : decode cX11_highestNow 10 = .ok (.iconst 0, 1) := by decide +kernel
theorem dX11_highestNow_11 : decode cX11_highestNow 11 = .ok (.istore_n 2, 1) := by decide +kernel
theorem dX11_highestNow_12 : decode cX11_highestNow 12 = .ok (.iload_n 2, 1) := by decide +kernel
theorem dX11_highestNow_13 : decode cX11_highestNow 13 = .ok (.aload_n 0, 1) := by decide +kernel
theorem dX11_highestNow_14 : decode cX11_highestNow 14 = .ok (.getfield 91, 3) := by decide +kernel
theorem dX11_highestNow_17 : decode cX11_highestNow 17 = .ok (.if_icmp .ge 33, 3) := by decide +kernel
theorem dX11_highestNow_20 : decode cX11_highestNow 20 = .ok (.iload_n 1, 1) := by decide +kernel
theorem dX11_highestNow_21 : decode cX11_highestNow 21 = .ok (.iconst (-1), 1) := by decide +kernel
theorem dX11_highestNow_22 : decode cX11_highestNow 22 = .ok (.if_icmp .eq 16, 3) := by decide +kernel
theorem dX11_highestNow_25 : decode cX11_highestNow 25 = .ok (.aload_n 0, 1) := by decide +kernel
theorem dX11_highestNow_26 : decode cX11_highestNow 26 = .ok (.iload_n 2, 1) := by decide +kernel
theorem dX11_highestNow_27 : decode cX11_highestNow 27 = .ok (.invokevirtual 159, 3) := by decide +kernel
theorem dX11_highestNow_30 : decode cX11_highestNow 30 = .ok (.aload_n 0, 1) := by decide +kernel
theorem dX11_highestNow_31 : decode cX11_highestNow 31 = .ok (.iload_n 1, 1) := by decide +kernel
theorem dX11_highestNow_32 : decode cX11_highestNow 32 = .ok (.invokevirtual 159, 3) := by decide +kernel
theorem dX11_highestNow_35 : decode cX11_highestNow 35 = .ok (.if_icmp .le 7, 3) := by decide +kernel
theorem dX11_highestNow_38 : decode cX11_highestNow 38 = .ok (.iload_n 2, 1) := by decide +kernel
theorem dX11_highestNow_39 : decode cX11_highestNow 39 = .ok (.goto 4, 3) := by decide +kernel
theorem dX11_highestNow_42 : decode cX11_highestNow 42 = .ok (.iload_n 1, 1) := by decide +kernel
theorem dX11_highestNow_43 : decode cX11_highestNow 43 = .ok (.istore_n 1, 1) := by decide +kernel
theorem dX11_highestNow_44 : decode cX11_highestNow 44 = .ok (.iinc 2 1, 3) := by decide +kernel
theorem dX11_highestNow_47 : decode cX11_highestNow 47 = .ok (.goto (-35), 3) := by decide +kernel
theorem dX11_highestNow_50 : decode cX11_highestNow 50 = .ok (.iload_n 1, 1) := by decide +kernel
theorem dX11_highestNow_51 : decode cX11_highestNow 51 = .ok (.ireturn, 1) := by decide +kernel
theorem dX11_highest_0 : decode cX11_highest 0 = .ok (.aload_n 0, 1) := by decide +kernel
theorem dX11_highest_1 : decode cX11_highest 1 = .ok (.invokevirtual 177, 3) := by decide +kernel
theorem dX11_highest_4 : decode cX11_highest 4 = .ok (.aload_n 0, 1) := by decide +kernel
theorem dX11_highest_5 : decode cX11_highest 5 = .ok (.invokevirtual 217, 3) := by decide +kernel
theorem dX11_highest_8 : decode cX11_highest 8 = .ok (.ireturn, 1) := by decide +kernel
theorem dX11_goesOn_0 : decode cX11_goesOn 0 = .ok (.iload_n 1, 1) := by decide +kernel
theorem dX11_goesOn_1 : decode cX11_goesOn 1 = .ok (.iconst 1, 1) := by decide +kernel
theorem dX11_goesOn_2 : decode cX11_goesOn 2 = .ok (.isub, 1) := by decide +kernel
theorem dX11_goesOn_3 : decode cX11_goesOn 3 = .ok (.istore_n 3, 1) := by decide +kernel
theorem dX11_goesOn_4 : decode cX11_goesOn 4 = .ok (.iload_n 3, 1) := by decide +kernel
theorem dX11_goesOn_5 : decode cX11_goesOn 5 = .ok (.ifCond .lt 61, 3) := by decide +kernel
theorem dX11_goesOn_8 : decode cX11_goesOn 8 = .ok (.aload_n 0, 1) := by decide +kernel
theorem dX11_goesOn_9 : decode cX11_goesOn 9 = .ok (.getfield 46, 3) := by decide +kernel
theorem dX11_goesOn_12 : decode cX11_goesOn 12 = .ok (.iload_n 3, 1) := by decide +kernel
theorem dX11_goesOn_13 : decode cX11_goesOn 13 = .ok (.iaload, 1) := by decide +kernel
theorem dX11_goesOn_14 : decode cX11_goesOn 14 = .ok (.iload_n 2, 1) := by decide +kernel
theorem dX11_goesOn_15 : decode cX11_goesOn 15 = .ok (.if_icmp .ge 45, 3) := by decide +kernel
theorem dX11_goesOn_18 : decode cX11_goesOn 18 = .ok (.aload_n 0, 1) := by decide +kernel
theorem dX11_goesOn_19 : decode cX11_goesOn 19 = .ok (.getfield 46, 3) := by decide +kernel
theorem dX11_goesOn_22 : decode cX11_goesOn 22 = .ok (.iload_n 3, 1) := by decide +kernel
theorem dX11_goesOn_23 : decode cX11_goesOn 23 = .ok (.dup2, 1) := by decide +kernel
theorem dX11_goesOn_24 : decode cX11_goesOn 24 = .ok (.iaload, 1) := by decide +kernel
theorem dX11_goesOn_25 : decode cX11_goesOn 25 = .ok (.iconst 1, 1) := by decide +kernel
theorem dX11_goesOn_26 : decode cX11_goesOn 26 = .ok (.iadd, 1) := by decide +kernel
theorem dX11_goesOn_27 : decode cX11_goesOn 27 = .ok (.iastore, 1) := by decide +kernel
theorem dX11_goesOn_28 : decode cX11_goesOn 28 = .ok (.iload_n 3, 1) := by decide +kernel
theorem dX11_goesOn_29 : decode cX11_goesOn 29 = .ok (.iconst 1, 1) := by decide +kernel
theorem dX11_goesOn_30 : decode cX11_goesOn 30 = .ok (.iadd, 1) := by decide +kernel
theorem dX11_goesOn_31 : decode cX11_goesOn 31 = .ok (.istore 4, 2) := by decide +kernel
theorem dX11_goesOn_33 : decode cX11_goesOn 33 = .ok (.iload 4, 2) := by decide +kernel
theorem dX11_goesOn_35 : decode cX11_goesOn 35 = .ok (.iload_n 1, 1) := by decide +kernel
theorem dX11_goesOn_36 : decode cX11_goesOn 36 = .ok (.if_icmp .ge 22, 3) := by decide +kernel
theorem dX11_goesOn_39 : decode cX11_goesOn 39 = .ok (.aload_n 0, 1) := by decide +kernel
theorem dX11_goesOn_40 : decode cX11_goesOn 40 = .ok (.getfield 46, 3) := by decide +kernel
theorem dX11_goesOn_43 : decode cX11_goesOn 43 = .ok (.iload 4, 2) := by decide +kernel
theorem dX11_goesOn_45 : decode cX11_goesOn 45 = .ok (.aload_n 0, 1) := by decide +kernel
theorem dX11_goesOn_46 : decode cX11_goesOn 46 = .ok (.getfield 46, 3) := by decide +kernel
theorem dX11_goesOn_49 : decode cX11_goesOn 49 = .ok (.iload_n 3, 1) := by decide +kernel
theorem dX11_goesOn_50 : decode cX11_goesOn 50 = .ok (.iaload, 1) := by decide +kernel
theorem dX11_goesOn_51 : decode cX11_goesOn 51 = .ok (.iastore, 1) := by decide +kernel
theorem dX11_goesOn_52 : decode cX11_goesOn 52 = .ok (.iinc 4 1, 3) := by decide +kernel
theorem dX11_goesOn_55 : decode cX11_goesOn 55 = .ok (.goto (-22), 3) := by decide +kernel
theorem dX11_goesOn_58 : decode cX11_goesOn 58 = .ok (.iconst 1, 1) := by decide +kernel
theorem dX11_goesOn_59 : decode cX11_goesOn 59 = .ok (.ireturn, 1) := by decide +kernel
theorem dX11_goesOn_60 : decode cX11_goesOn 60 = .ok (.iinc 3 (-1), 3) := by decide +kernel
theorem dX11_goesOn_63 : decode cX11_goesOn 63 = .ok (.goto (-59), 3) := by decide +kernel
theorem dX11_goesOn_66 : decode cX11_goesOn 66 = .ok (.iconst 0, 1) := by decide +kernel
theorem dX11_goesOn_67 : decode cX11_goesOn 67 = .ok (.ireturn, 1) := by decide +kernel
theorem dX11_mends_0 : decode cX11_mends 0 = .ok (.aload_n 0, 1) := by decide +kernel
theorem dX11_mends_1 : decode cX11_mends 1 = .ok (.aload_n 0, 1) := by decide +kernel
theorem dX11_mends_2 : decode cX11_mends 2 = .ok (.getfield 108, 3) := by decide +kernel
theorem dX11_mends_5 : decode cX11_mends 5 = .ok (.invokevirtual 174, 3) := by decide +kernel
theorem dX11_mends_8 : decode cX11_mends 8 = .ok (.iconst 1, 1) := by decide +kernel
theorem dX11_mends_9 : decode cX11_mends 9 = .ok (.istore_n 2, 1) := by decide +kernel
theorem dX11_mends_10 : decode cX11_mends 10 = .ok (.iconst 0, 1) := by decide +kernel
theorem dX11_mends_11 : decode cX11_mends 11 = .ok (.istore_n 3, 1) := by decide +kernel
theorem dX11_mends_12 : decode cX11_mends 12 = .ok (.iload_n 3, 1) := by decide +kernel
theorem dX11_mends_13 : decode cX11_mends 13 = .ok (.iload_n 1, 1) := by decide +kernel
theorem dX11_mends_14 : decode cX11_mends 14 = .ok (.if_icmp .ge 53, 3) := by decide +kernel
theorem dX11_mends_17 : decode cX11_mends 17 = .ok (.iload_n 2, 1) := by decide +kernel
theorem dX11_mends_18 : decode cX11_mends 18 = .ok (.ifCond .eq 41, 3) := by decide +kernel
theorem dX11_mends_21 : decode cX11_mends 21 = .ok (.aload_n 0, 1) := by decide +kernel
theorem dX11_mends_22 : decode cX11_mends 22 = .ok (.aload_n 0, 1) := by decide +kernel
theorem dX11_mends_23 : decode cX11_mends 23 = .ok (.getfield 46, 3) := by decide +kernel
theorem dX11_mends_26 : decode cX11_mends 26 = .ok (.iload_n 3, 1) := by decide +kernel
theorem dX11_mends_27 : decode cX11_mends 27 = .ok (.iaload, 1) := by decide +kernel
theorem dX11_mends_28 : decode cX11_mends 28 = .ok (.bipush 8, 2) := by decide +kernel
theorem dX11_mends_30 : decode cX11_mends 30 = .ok (.idiv, 1) := by decide +kernel
theorem dX11_mends_31 : decode cX11_mends 31 = .ok (.aload_n 0, 1) := by decide +kernel
theorem dX11_mends_32 : decode cX11_mends 32 = .ok (.getfield 46, 3) := by decide +kernel
theorem dX11_mends_35 : decode cX11_mends 35 = .ok (.iload_n 3, 1) := by decide +kernel
theorem dX11_mends_36 : decode cX11_mends 36 = .ok (.iaload, 1) := by decide +kernel
theorem dX11_mends_37 : decode cX11_mends 37 = .ok (.bipush 8, 2) := by decide +kernel
theorem dX11_mends_39 : decode cX11_mends 39 = .ok (.idiv, 1) := by decide +kernel
theorem dX11_mends_40 : decode cX11_mends 40 = .ok (.aload_n 0, 1) := by decide +kernel
theorem dX11_mends_41 : decode cX11_mends 41 = .ok (.getfield 46, 3) := by decide +kernel
theorem dX11_mends_44 : decode cX11_mends 44 = .ok (.iload_n 3, 1) := by decide +kernel
theorem dX11_mends_45 : decode cX11_mends 45 = .ok (.iaload, 1) := by decide +kernel
theorem dX11_mends_46 : decode cX11_mends 46 = .ok (.bipush 8, 2) := by decide +kernel
theorem dX11_mends_48 : decode cX11_mends 48 = .ok (.irem, 1) := by decide +kernel
theorem dX11_mends_49 : decode cX11_mends 49 = .ok (.invokevirtual 145, 3) := by decide +kernel
theorem dX11_mends_52 : decode cX11_mends 52 = .ok (.ifCond .eq 7, 3) := by decide +kernel
theorem dX11_mends_55 : decode cX11_mends 55 = .ok (.iconst 1, 1) := by decide +kernel
theorem dX11_mends_56 : decode cX11_mends 56 = .ok (.goto 4, 3) := by decide +kernel
theorem dX11_mends_59 : decode cX11_mends 59 = .ok (.iconst 0, 1) := by decide +kernel
theorem dX11_mends_60 : decode cX11_mends 60 = .ok (.istore_n 2, 1) := by decide +kernel
theorem dX11_mends_61 : decode cX11_mends 61 = .ok (.iinc 3 1, 3) := by decide +kernel
theorem dX11_mends_64 : decode cX11_mends 64 = .ok (.goto (-52), 3) := by decide +kernel
theorem dX11_mends_67 : decode cX11_mends 67 = .ok (.iload_n 2, 1) := by decide +kernel
theorem dX11_mends_68 : decode cX11_mends 68 = .ok (.ifCond .eq 14, 3) := by decide +kernel
theorem dX11_mends_71 : decode cX11_mends 71 = .ok (.aload_n 0, 1) := by decide +kernel
theorem dX11_mends_72 : decode cX11_mends 72 = .ok (.invokevirtual 199, 3) := by decide +kernel
theorem dX11_mends_75 : decode cX11_mends 75 = .ok (.ifCond .ne 7, 3) := by decide +kernel
theorem dX11_mends_78 : decode cX11_mends 78 = .ok (.iconst 1, 1) := by decide +kernel
theorem dX11_mends_79 : decode cX11_mends 79 = .ok (.goto 4, 3) := by decide +kernel
theorem dX11_mends_82 : decode cX11_mends 82 = .ok (.iconst 0, 1) := by decide +kernel
theorem dX11_mends_83 : decode cX11_mends 83 = .ok (.ireturn, 1) := by decide +kernel
theorem dX11_opens_0 : decode cX11_opens 0 = .ok (.aload_n 0, 1) := by decide +kernel
theorem dX11_opens_1 : decode cX11_opens 1 = .ok (.aload_n 0, 1) := by decide +kernel
theorem dX11_opens_2 : decode cX11_opens 2 = .ok (.getfield 108, 3) := by decide +kernel
theorem dX11_opens_5 : decode cX11_opens 5 = .ok (.invokevirtual 174, 3) := by decide +kernel
theorem dX11_opens_8 : decode cX11_opens 8 = .ok (.iconst 1, 1) := by decide +kernel
theorem dX11_opens_9 : decode cX11_opens 9 = .ok (.istore_n 3, 1) := by decide +kernel
theorem dX11_opens_10 : decode cX11_opens 10 = .ok (.iconst 0, 1) := by decide +kernel
theorem dX11_opens_11 : decode cX11_opens 11 = .ok (.istore 4, 2) := by decide +kernel
theorem dX11_opens_13 : decode cX11_opens 13 = .ok (.iload 4, 2) := by decide +kernel
theorem dX11_opens_15 : decode cX11_opens 15 = .ok (.iload_n 1, 1) := by decide +kernel
theorem dX11_opens_16 : decode cX11_opens 16 = .ok (.if_icmp .ge 72, 3) := by decide +kernel
theorem dX11_opens_19 : decode cX11_opens 19 = .ok (.iload_n 3, 1) := by decide +kernel
theorem dX11_opens_20 : decode cX11_opens 20 = .ok (.ifCond .eq 36, 3) := by decide +kernel
theorem dX11_opens_23 : decode cX11_opens 23 = .ok (.aload_n 0, 1) := by decide +kernel
theorem dX11_opens_24 : decode cX11_opens 24 = .ok (.aload_n 0, 1) := by decide +kernel
theorem dX11_opens_25 : decode cX11_opens 25 = .ok (.getfield 46, 3) := by decide +kernel
theorem dX11_opens_28 : decode cX11_opens 28 = .ok (.iload 4, 2) := by decide +kernel
theorem dX11_opens_30 : decode cX11_opens 30 = .ok (.iaload, 1) := by decide +kernel
theorem dX11_opens_31 : decode cX11_opens 31 = .ok (.invokevirtual 183, 3) := by decide +kernel
theorem dX11_opens_34 : decode cX11_opens 34 = .ok (.ifCond .eq 22, 3) := by decide +kernel
theorem dX11_opens_37 : decode cX11_opens 37 = .ok (.aload_n 0, 1) := by decide +kernel
theorem dX11_opens_38 : decode cX11_opens 38 = .ok (.getfield 43, 3) := by decide +kernel
theorem dX11_opens_41 : decode cX11_opens 41 = .ok (.aload_n 0, 1) := by decide +kernel
theorem dX11_opens_42 : decode cX11_opens 42 = .ok (.getfield 46, 3) := by decide +kernel
theorem dX11_opens_45 : decode cX11_opens 45 = .ok (.iload 4, 2) := by decide +kernel
theorem dX11_opens_47 : decode cX11_opens 47 = .ok (.iaload, 1) := by decide +kernel
theorem dX11_opens_48 : decode cX11_opens 48 = .ok (.iaload, 1) := by decide +kernel
theorem dX11_opens_49 : decode cX11_opens 49 = .ok (.ifCond .le 7, 3) := by decide +kernel
theorem dX11_opens_52 : decode cX11_opens 52 = .ok (.iconst 1, 1) := by decide +kernel
theorem dX11_opens_53 : decode cX11_opens 53 = .ok (.goto 4, 3) := by decide +kernel
theorem dX11_opens_56 : decode cX11_opens 56 = .ok (.iconst 0, 1) := by decide +kernel
theorem dX11_opens_57 : decode cX11_opens 57 = .ok (.istore_n 3, 1) := by decide +kernel
theorem dX11_opens_58 : decode cX11_opens 58 = .ok (.aload_n 0, 1) := by decide +kernel
theorem dX11_opens_59 : decode cX11_opens 59 = .ok (.getfield 43, 3) := by decide +kernel
theorem dX11_opens_62 : decode cX11_opens 62 = .ok (.aload_n 0, 1) := by decide +kernel
theorem dX11_opens_63 : decode cX11_opens 63 = .ok (.getfield 46, 3) := by decide +kernel
theorem dX11_opens_66 : decode cX11_opens 66 = .ok (.iload 4, 2) := by decide +kernel
theorem dX11_opens_68 : decode cX11_opens 68 = .ok (.iaload, 1) := by decide +kernel
theorem dX11_opens_69 : decode cX11_opens 69 = .ok (.dup2, 1) := by decide +kernel
theorem dX11_opens_70 : decode cX11_opens 70 = .ok (.iaload, 1) := by decide +kernel
theorem dX11_opens_71 : decode cX11_opens 71 = .ok (.iload_n 3, 1) := by decide +kernel
theorem dX11_opens_72 : decode cX11_opens 72 = .ok (.ifCond .eq 7, 3) := by decide +kernel
theorem dX11_opens_75 : decode cX11_opens 75 = .ok (.iconst 1, 1) := by decide +kernel
theorem dX11_opens_76 : decode cX11_opens 76 = .ok (.goto 4, 3) := by decide +kernel
theorem dX11_opens_79 : decode cX11_opens 79 = .ok (.iconst 0, 1) := by decide +kernel
theorem dX11_opens_80 : decode cX11_opens 80 = .ok (.isub, 1) := by decide +kernel
theorem dX11_opens_81 : decode cX11_opens 81 = .ok (.iastore, 1) := by decide +kernel
theorem dX11_opens_82 : decode cX11_opens 82 = .ok (.iinc 4 1, 3) := by decide +kernel
theorem dX11_opens_85 : decode cX11_opens 85 = .ok (.goto (-72), 3) := by decide +kernel
theorem dX11_opens_88 : decode cX11_opens 88 = .ok (.iload_n 3, 1) := by decide +kernel
theorem dX11_opens_89 : decode cX11_opens 89 = .ok (.ifCond .eq 22, 3) := by decide +kernel
theorem dX11_opens_92 : decode cX11_opens 92 = .ok (.aload_n 0, 1) := by decide +kernel
theorem dX11_opens_93 : decode cX11_opens 93 = .ok (.invokevirtual 199, 3) := by decide +kernel
theorem dX11_opens_96 : decode cX11_opens 96 = .ok (.ifCond .ne 15, 3) := by decide +kernel
theorem dX11_opens_99 : decode cX11_opens 99 = .ok (.aload_n 0, 1) := by decide +kernel
theorem dX11_opens_100 : decode cX11_opens 100 = .ok (.invokevirtual 202, 3) := by decide +kernel
theorem dX11_opens_103 : decode cX11_opens 103 = .ok (.iload_n 2, 1) := by decide +kernel
theorem dX11_opens_104 : decode cX11_opens 104 = .ok (.if_icmp .lt 7, 3) := by decide +kernel
theorem dX11_opens_107 : decode cX11_opens 107 = .ok (.iconst 1, 1) := by decide +kernel
theorem dX11_opens_108 : decode cX11_opens 108 = .ok (.goto 4, 3) := by decide +kernel
theorem dX11_opens_111 : decode cX11_opens 111 = .ok (.iconst 0, 1) := by decide +kernel
theorem dX11_opens_112 : decode cX11_opens 112 = .ok (.ireturn, 1) := by decide +kernel
theorem dX11_planOf_0 : decode cX11_planOf 0 = .ok (.iconst 0, 1) := by decide +kernel
theorem dX11_planOf_1 : decode cX11_planOf 1 = .ok (.istore_n 3, 1) := by decide +kernel
theorem dX11_planOf_2 : decode cX11_planOf 2 = .ok (.iload_n 3, 1) := by decide +kernel
theorem dX11_planOf_3 : decode cX11_planOf 3 = .ok (.iconst 4, 1) := by decide +kernel
theorem dX11_planOf_4 : decode cX11_planOf 4 = .ok (.if_icmp .ge 112, 3) := by decide +kernel
theorem dX11_planOf_7 : decode cX11_planOf 7 = .ok (.iconst 1, 1) := by decide +kernel
theorem dX11_planOf_8 : decode cX11_planOf 8 = .ok (.istore 4, 2) := by decide +kernel
theorem dX11_planOf_10 : decode cX11_planOf 10 = .ok (.iconst 0, 1) := by decide +kernel
theorem dX11_planOf_11 : decode cX11_planOf 11 = .ok (.istore 5, 2) := by decide +kernel
theorem dX11_planOf_13 : decode cX11_planOf 13 = .ok (.iload 5, 2) := by decide +kernel
theorem dX11_planOf_15 : decode cX11_planOf 15 = .ok (.iconst 3, 1) := by decide +kernel
theorem dX11_planOf_16 : decode cX11_planOf 16 = .ok (.if_icmp .ge 17, 3) := by decide +kernel
theorem dX11_planOf_19 : decode cX11_planOf 19 = .ok (.aload_n 0, 1) := by decide +kernel
theorem dX11_planOf_20 : decode cX11_planOf 20 = .ok (.getfield 46, 3) := by decide +kernel
theorem dX11_planOf_23 : decode cX11_planOf 23 = .ok (.iload 5, 2) := by decide +kernel
theorem dX11_planOf_25 : decode cX11_planOf 25 = .ok (.iconst 0, 1) := by decide +kernel
theorem dX11_planOf_26 : decode cX11_planOf 26 = .ok (.iastore, 1) := by decide +kernel
theorem dX11_planOf_27 : decode cX11_planOf 27 = .ok (.iinc 5 1, 3) := by decide +kernel
theorem dX11_planOf_30 : decode cX11_planOf 30 = .ok (.goto (-17), 3) := by decide +kernel
theorem dX11_planOf_33 : decode cX11_planOf 33 = .ok (.iload 4, 2) := by decide +kernel
theorem dX11_planOf_35 : decode cX11_planOf 35 = .ok (.ifCond .eq 75, 3) := by decide +kernel
theorem dX11_planOf_38 : decode cX11_planOf 38 = .ok (.iload_n 1, 1) := by decide +kernel
theorem dX11_planOf_39 : decode cX11_planOf 39 = .ok (.iconst (-1), 1) := by decide +kernel
theorem dX11_planOf_40 : decode cX11_planOf 40 = .ok (.if_icmp .ne 14, 3) := by decide +kernel
theorem dX11_planOf_43 : decode cX11_planOf 43 = .ok (.aload_n 0, 1) := by decide +kernel
theorem dX11_planOf_44 : decode cX11_planOf 44 = .ok (.iload_n 3, 1) := by decide +kernel
theorem dX11_planOf_45 : decode cX11_planOf 45 = .ok (.invokevirtual 220, 3) := by decide +kernel
theorem dX11_planOf_48 : decode cX11_planOf 48 = .ok (.ifCond .eq 40, 3) := by decide +kernel
theorem dX11_planOf_51 : decode cX11_planOf 51 = .ok (.goto 12, 3) := by decide +kernel
theorem dX11_planOf_54 : decode cX11_planOf 54 = .ok (.aload_n 0, 1) := by decide +kernel
theorem dX11_planOf_55 : decode cX11_planOf 55 = .ok (.iload_n 3, 1) := by decide +kernel
theorem dX11_planOf_56 : decode cX11_planOf 56 = .ok (.iload_n 1, 1) := by decide +kernel
theorem dX11_planOf_57 : decode cX11_planOf 57 = .ok (.invokevirtual 223, 3) := by decide +kernel
theorem dX11_planOf_60 : decode cX11_planOf 60 = .ok (.ifCond .eq 28, 3) := by decide +kernel
theorem dX11_planOf_63 : decode cX11_planOf 63 = .ok (.iload_n 2, 1) := by decide +kernel
theorem dX11_planOf_64 : decode cX11_planOf 64 = .ok (.iconst (-1), 1) := by decide +kernel
theorem dX11_planOf_65 : decode cX11_planOf 65 = .ok (.if_icmp .ne 7, 3) := by decide +kernel
theorem dX11_planOf_68 : decode cX11_planOf 68 = .ok (.iload_n 3, 1) := by decide +kernel
theorem dX11_planOf_69 : decode cX11_planOf 69 = .ok (.goto 18, 3) := by decide +kernel
theorem dX11_planOf_72 : decode cX11_planOf 72 = .ok (.iload_n 2, 1) := by decide +kernel
theorem dX11_planOf_73 : decode cX11_planOf 73 = .ok (.iload_n 3, 1) := by decide +kernel
theorem dX11_planOf_74 : decode cX11_planOf 74 = .ok (.if_icmp .ge 12, 3) := by decide +kernel
theorem dX11_planOf_77 : decode cX11_planOf 77 = .ok (.aload_n 0, 1) := by decide +kernel
theorem dX11_planOf_78 : decode cX11_planOf 78 = .ok (.getfield 46, 3) := by decide +kernel
theorem dX11_planOf_81 : decode cX11_planOf 81 = .ok (.iload_n 2, 1) := by decide +kernel
theorem dX11_planOf_82 : decode cX11_planOf 82 = .ok (.iaload, 1) := by decide +kernel
theorem dX11_planOf_83 : decode cX11_planOf 83 = .ok (.goto 4, 3) := by decide +kernel
theorem dX11_planOf_86 : decode cX11_planOf 86 = .ok (.iconst (-1), 1) := by decide +kernel
theorem dX11_planOf_87 : decode cX11_planOf 87 = .ok (.ireturn, 1) := by decide +kernel
theorem dX11_planOf_88 : decode cX11_planOf 88 = .ok (.aload_n 0, 1) := by decide +kernel
theorem dX11_planOf_89 : decode cX11_planOf 89 = .ok (.iload_n 3, 1) := by decide +kernel
theorem dX11_planOf_90 : decode cX11_planOf 90 = .ok (.iload_n 1, 1) := by decide +kernel
theorem dX11_planOf_91 : decode cX11_planOf 91 = .ok (.iconst (-1), 1) := by decide +kernel
theorem dX11_planOf_92 : decode cX11_planOf 92 = .ok (.if_icmp .ne 8, 3) := by decide +kernel
theorem dX11_planOf_95 : decode cX11_planOf 95 = .ok (.bipush 15, 2) := by decide +kernel
theorem dX11_planOf_97 : decode cX11_planOf 97 = .ok (.goto 5, 3) := by decide +kernel
theorem dX11_planOf_100 : decode cX11_planOf 100 = .ok (.bipush 7, 2) := by decide +kernel
theorem dX11_planOf_102 : decode cX11_planOf 102 = .ok (.invokevirtual 226, 3) := by decide +kernel
theorem dX11_planOf_105 : decode cX11_planOf 105 = .ok (.istore 4, 2) := by decide +kernel
theorem dX11_planOf_107 : decode cX11_planOf 107 = .ok (.goto (-74), 3) := by decide +kernel
theorem dX11_planOf_110 : decode cX11_planOf 110 = .ok (.iinc 3 1, 3) := by decide +kernel
theorem dX11_planOf_113 : decode cX11_planOf 113 = .ok (.goto (-111), 3) := by decide +kernel
theorem dX11_planOf_116 : decode cX11_planOf 116 = .ok (.iconst (-1), 1) := by decide +kernel
theorem dX11_planOf_117 : decode cX11_planOf 117 = .ok (.ireturn, 1) := by decide +kernel
theorem dX11_mend_0 : decode cX11_mend 0 = .ok (.aload_n 0, 1) := by decide +kernel
theorem dX11_mend_1 : decode cX11_mend 1 = .ok (.invokevirtual 177, 3) := by decide +kernel
theorem dX11_mend_4 : decode cX11_mend 4 = .ok (.iload_n 1, 1) := by decide +kernel
theorem dX11_mend_5 : decode cX11_mend 5 = .ok (.i2l, 1) := by decide +kernel
theorem dX11_mend_6 : decode cX11_mend 6 = .ok (.ldc2_w 192, 3) := by decide +kernel
theorem dX11_mend_9 : decode cX11_mend 9 = .ok (.ldc2_w 71, 3) := by decide +kernel
theorem dX11_mend_12 : decode cX11_mend 12 = .ok (.invokestatic 58, 3) := by decide +kernel
theorem dX11_mend_15 : decode cX11_mend 15 = .ok (.ifCond .eq 12, 3) := by decide +kernel
theorem dX11_mend_18 : decode cX11_mend 18 = .ok (.aload_n 0, 1) := by decide +kernel
theorem dX11_mend_19 : decode cX11_mend 19 = .ok (.iconst (-1), 1) := by decide +kernel
theorem dX11_mend_20 : decode cX11_mend 20 = .ok (.iload_n 1, 1) := by decide +kernel
theorem dX11_mend_21 : decode cX11_mend 21 = .ok (.invokevirtual 229, 3) := by decide +kernel
theorem dX11_mend_24 : decode cX11_mend 24 = .ok (.goto 5, 3) := by decide +kernel
theorem dX11_mend_27 : decode cX11_mend 27 = .ok (.bipush (-2), 2) := by decide +kernel
theorem dX11_mend_29 : decode cX11_mend 29 = .ok (.ireturn, 1) := by decide +kernel
theorem dX11_open_0 : decode cX11_open 0 = .ok (.aload_n 0, 1) := by decide +kernel
theorem dX11_open_1 : decode cX11_open 1 = .ok (.invokevirtual 177, 3) := by decide +kernel
theorem dX11_open_4 : decode cX11_open 4 = .ok (.iload_n 1, 1) := by decide +kernel
theorem dX11_open_5 : decode cX11_open 5 = .ok (.i2l, 1) := by decide +kernel
theorem dX11_open_6 : decode cX11_open 6 = .ok (.lconst 0, 1) := by decide +kernel
theorem dX11_open_7 : decode cX11_open 7 = .ok (.ldc2_w 232, 3) := by decide +kernel
theorem dX11_open_10 : decode cX11_open 10 = .ok (.invokestatic 58, 3) := by decide +kernel
theorem dX11_open_13 : decode cX11_open 13 = .ok (.ifCond .eq 26, 3) := by decide +kernel
theorem dX11_open_16 : decode cX11_open 16 = .ok (.iload_n 2, 1) := by decide +kernel
theorem dX11_open_17 : decode cX11_open 17 = .ok (.i2l, 1) := by decide +kernel
theorem dX11_open_18 : decode cX11_open 18 = .ok (.ldc2_w 192, 3) := by decide +kernel
theorem dX11_open_21 : decode cX11_open 21 = .ok (.ldc2_w 71, 3) := by decide +kernel
theorem dX11_open_24 : decode cX11_open 24 = .ok (.invokestatic 58, 3) := by decide +kernel
theorem dX11_open_27 : decode cX11_open 27 = .ok (.ifCond .eq 12, 3) := by decide +kernel
theorem dX11_open_30 : decode cX11_open 30 = .ok (.aload_n 0, 1) := by decide +kernel
theorem dX11_open_31 : decode cX11_open 31 = .ok (.iload_n 1, 1) := by decide +kernel
theorem dX11_open_32 : decode cX11_open 32 = .ok (.iload_n 2, 1) := by decide +kernel
theorem dX11_open_33 : decode cX11_open 33 = .ok (.invokevirtual 229, 3) := by decide +kernel
theorem dX11_open_36 : decode cX11_open 36 = .ok (.goto 5, 3) := by decide +kernel
theorem dX11_open_39 : decode cX11_open 39 = .ok (.bipush (-2), 2) := by decide +kernel
theorem dX11_open_41 : decode cX11_open 41 = .ok (.ireturn, 1) := by decide +kernel
theorem dX11_endOf_0 : decode cX11_endOf 0 = .ok (.aload_n 0, 1) := by decide +kernel
theorem dX11_endOf_1 : decode cX11_endOf 1 = .ok (.aload_n 0, 1) := by decide +kernel
theorem dX11_endOf_2 : decode cX11_endOf 2 = .ok (.getfield 108, 3) := by decide +kernel
theorem dX11_endOf_5 : decode cX11_endOf 5 = .ok (.invokevirtual 174, 3) := by decide +kernel
theorem dX11_endOf_8 : decode cX11_endOf 8 = .ok (.iconst 1, 1) := by decide +kernel
theorem dX11_endOf_9 : decode cX11_endOf 9 = .ok (.istore_n 3, 1) := by decide +kernel
theorem dX11_endOf_10 : decode cX11_endOf 10 = .ok (.iload_n 1, 1) := by decide +kernel
theorem dX11_endOf_11 : decode cX11_endOf 11 = .ok (.istore 4, 2) := by decide +kernel
theorem dX11_endOf_13 : decode cX11_endOf 13 = .ok (.iload_n 2, 1) := by decide +kernel
theorem dX11_endOf_14 : decode cX11_endOf 14 = .ok (.iconst 1, 1) := by decide +kernel
theorem dX11_endOf_15 : decode cX11_endOf 15 = .ok (.if_icmp .ne 7, 3) := by decide +kernel
theorem dX11_endOf_18 : decode cX11_endOf 18 = .ok (.iconst 1, 1) := by decide +kernel
theorem dX11_endOf_19 : decode cX11_endOf 19 = .ok (.goto 15, 3) := by decide +kernel
theorem dX11_endOf_22 : decode cX11_endOf 22 = .ok (.iload_n 2, 1) := by decide +kernel
theorem dX11_endOf_23 : decode cX11_endOf 23 = .ok (.iconst 2, 1) := by decide +kernel
theorem dX11_endOf_24 : decode cX11_endOf 24 = .ok (.if_icmp .ne 8, 3) := by decide +kernel
theorem dX11_endOf_27 : decode cX11_endOf 27 = .ok (.bipush 9, 2) := by decide +kernel
theorem dX11_endOf_29 : decode cX11_endOf 29 = .ok (.goto 5, 3) := by decide +kernel
theorem dX11_endOf_32 : decode cX11_endOf 32 = .ok (.bipush 81, 2) := by decide +kernel
theorem dX11_endOf_34 : decode cX11_endOf 34 = .ok (.istore 5, 2) := by decide +kernel
theorem dX11_endOf_36 : decode cX11_endOf 36 = .ok (.iconst 0, 1) := by decide +kernel
theorem dX11_endOf_37 : decode cX11_endOf 37 = .ok (.istore 6, 2) := by decide +kernel
theorem dX11_endOf_39 : decode cX11_endOf 39 = .ok (.iload 6, 2) := by decide +kernel
theorem dX11_endOf_41 : decode cX11_endOf 41 = .ok (.iload_n 2, 1) := by decide +kernel
theorem dX11_endOf_42 : decode cX11_endOf 42 = .ok (.if_icmp .ge 78, 3) := by decide +kernel
theorem dX11_endOf_45 : decode cX11_endOf 45 = .ok (.iload 4, 2) := by decide +kernel
theorem dX11_endOf_47 : decode cX11_endOf 47 = .ok (.iload 5, 2) := by decide +kernel
theorem dX11_endOf_49 : decode cX11_endOf 49 = .ok (.idiv, 1) := by decide +kernel
theorem dX11_endOf_50 : decode cX11_endOf 50 = .ok (.istore 7, 2) := by decide +kernel
theorem dX11_endOf_52 : decode cX11_endOf 52 = .ok (.iload 4, 2) := by decide +kernel
theorem dX11_endOf_54 : decode cX11_endOf 54 = .ok (.iload 5, 2) := by decide +kernel
theorem dX11_endOf_56 : decode cX11_endOf 56 = .ok (.irem, 1) := by decide +kernel
theorem dX11_endOf_57 : decode cX11_endOf 57 = .ok (.istore 4, 2) := by decide +kernel
theorem dX11_endOf_59 : decode cX11_endOf 59 = .ok (.iload 5, 2) := by decide +kernel
theorem dX11_endOf_61 : decode cX11_endOf 61 = .ok (.bipush 9, 2) := by decide +kernel
theorem dX11_endOf_63 : decode cX11_endOf 63 = .ok (.idiv, 1) := by decide +kernel
theorem dX11_endOf_64 : decode cX11_endOf 64 = .ok (.istore 5, 2) := by decide +kernel
theorem dX11_endOf_66 : decode cX11_endOf 66 = .ok (.aload_n 0, 1) := by decide +kernel
theorem dX11_endOf_67 : decode cX11_endOf 67 = .ok (.getfield 37, 3) := by decide +kernel
theorem dX11_endOf_70 : decode cX11_endOf 70 = .ok (.iconst 0, 1) := by decide +kernel
theorem dX11_endOf_71 : decode cX11_endOf 71 = .ok (.iaload, 1) := by decide +kernel
theorem dX11_endOf_72 : decode cX11_endOf 72 = .ok (.aload_n 0, 1) := by decide +kernel
theorem dX11_endOf_73 : decode cX11_endOf 73 = .ok (.getfield 108, 3) := by decide +kernel
theorem dX11_endOf_76 : decode cX11_endOf 76 = .ok (.iadd, 1) := by decide +kernel
theorem dX11_endOf_77 : decode cX11_endOf 77 = .ok (.iload 6, 2) := by decide +kernel
theorem dX11_endOf_79 : decode cX11_endOf 79 = .ok (.iadd, 1) := by decide +kernel
theorem dX11_endOf_80 : decode cX11_endOf 80 = .ok (.iconst 2, 1) := by decide +kernel
theorem dX11_endOf_81 : decode cX11_endOf 81 = .ok (.irem, 1) := by decide +kernel
theorem dX11_endOf_82 : decode cX11_endOf 82 = .ok (.istore 8, 2) := by decide +kernel
theorem dX11_endOf_84 : decode cX11_endOf 84 = .ok (.iload_n 3, 1) := by decide +kernel
theorem dX11_endOf_85 : decode cX11_endOf 85 = .ok (.ifCond .eq 27, 3) := by decide +kernel
theorem dX11_endOf_88 : decode cX11_endOf 88 = .ok (.iload 7, 2) := by decide +kernel
theorem dX11_endOf_90 : decode cX11_endOf 90 = .ok (.bipush 8, 2) := by decide +kernel
theorem dX11_endOf_92 : decode cX11_endOf 92 = .ok (.if_icmp .eq 16, 3) := by decide +kernel
theorem dX11_endOf_95 : decode cX11_endOf 95 = .ok (.aload_n 0, 1) := by decide +kernel
theorem dX11_endOf_96 : decode cX11_endOf 96 = .ok (.iload 8, 2) := by decide +kernel
theorem dX11_endOf_98 : decode cX11_endOf 98 = .ok (.iload 8, 2) := by decide +kernel
theorem dX11_endOf_100 : decode cX11_endOf 100 = .ok (.iload 7, 2) := by decide +kernel
theorem dX11_endOf_102 : decode cX11_endOf 102 = .ok (.invokevirtual 145, 3) := by decide +kernel
theorem dX11_endOf_105 : decode cX11_endOf 105 = .ok (.ifCond .eq 7, 3) := by decide +kernel
theorem dX11_endOf_108 : decode cX11_endOf 108 = .ok (.iconst 1, 1) := by decide +kernel
theorem dX11_endOf_109 : decode cX11_endOf 109 = .ok (.goto 4, 3) := by decide +kernel
theorem dX11_endOf_112 : decode cX11_endOf 112 = .ok (.iconst 0, 1) := by decide +kernel
theorem dX11_endOf_113 : decode cX11_endOf 113 = .ok (.istore_n 3, 1) := by decide +kernel
theorem dX11_endOf_114 : decode cX11_endOf 114 = .ok (.iinc 6 1, 3) := by decide +kernel
theorem dX11_endOf_117 : decode cX11_endOf 117 = .ok (.goto (-78), 3) := by decide +kernel
theorem dX11_endOf_120 : decode cX11_endOf 120 = .ok (.iload_n 3, 1) := by decide +kernel
theorem dX11_endOf_121 : decode cX11_endOf 121 = .ok (.ifCond .ne 8, 3) := by decide +kernel
theorem dX11_endOf_124 : decode cX11_endOf 124 = .ok (.bipush (-9), 2) := by decide +kernel
theorem dX11_endOf_126 : decode cX11_endOf 126 = .ok (.goto 18, 3) := by decide +kernel
theorem dX11_endOf_129 : decode cX11_endOf 129 = .ok (.aload_n 0, 1) := by decide +kernel
theorem dX11_endOf_130 : decode cX11_endOf 130 = .ok (.invokevirtual 199, 3) := by decide +kernel
theorem dX11_endOf_133 : decode cX11_endOf 133 = .ok (.ifCond .ne 10, 3) := by decide +kernel
theorem dX11_endOf_136 : decode cX11_endOf 136 = .ok (.aload_n 0, 1) := by decide +kernel
theorem dX11_endOf_137 : decode cX11_endOf 137 = .ok (.invokevirtual 202, 3) := by decide +kernel
theorem dX11_endOf_140 : decode cX11_endOf 140 = .ok (.goto 4, 3) := by decide +kernel
theorem dX11_endOf_143 : decode cX11_endOf 143 = .ok (.iconst (-1), 1) := by decide +kernel
theorem dX11_endOf_144 : decode cX11_endOf 144 = .ok (.ireturn, 1) := by decide +kernel
theorem dX11_better_0 : decode cX11_better 0 = .ok (.iload_n 1, 1) := by decide +kernel
theorem dX11_better_1 : decode cX11_better 1 = .ok (.bipush (-9), 2) := by decide +kernel
theorem dX11_better_3 : decode cX11_better 3 = .ok (.if_icmp .eq 30, 3) := by decide +kernel
theorem dX11_better_6 : decode cX11_better 6 = .ok (.iload_n 2, 1) := by decide +kernel
theorem dX11_better_7 : decode cX11_better 7 = .ok (.bipush (-9), 2) := by decide +kernel
theorem dX11_better_9 : decode cX11_better 9 = .ok (.if_icmp .eq 20, 3) := by decide +kernel
theorem dX11_better_12 : decode cX11_better 12 = .ok (.iload_n 0, 1) := by decide +kernel
theorem dX11_better_13 : decode cX11_better 13 = .ok (.ifCond .ne 11, 3) := by decide +kernel
theorem dX11_better_16 : decode cX11_better 16 = .ok (.iload_n 1, 1) := by decide +kernel
theorem dX11_better_17 : decode cX11_better 17 = .ok (.iload_n 2, 1) := by decide +kernel
theorem dX11_better_18 : decode cX11_better 18 = .ok (.if_icmp .le 15, 3) := by decide +kernel
theorem dX11_better_21 : decode cX11_better 21 = .ok (.goto 8, 3) := by decide +kernel
theorem dX11_better_24 : decode cX11_better 24 = .ok (.iload_n 1, 1) := by decide +kernel
theorem dX11_better_25 : decode cX11_better 25 = .ok (.iload_n 2, 1) := by decide +kernel
theorem dX11_better_26 : decode cX11_better 26 = .ok (.if_icmp .ge 7, 3) := by decide +kernel
theorem dX11_better_29 : decode cX11_better 29 = .ok (.iconst 1, 1) := by decide +kernel
theorem dX11_better_30 : decode cX11_better 30 = .ok (.goto 4, 3) := by decide +kernel
theorem dX11_better_33 : decode cX11_better 33 = .ok (.iconst 0, 1) := by decide +kernel
theorem dX11_better_34 : decode cX11_better 34 = .ok (.ireturn, 1) := by decide +kernel
theorem dX11_sidesOf_0 : decode cX11_sidesOf 0 = .ok (.bipush (-9), 2) := by decide +kernel
theorem dX11_sidesOf_2 : decode cX11_sidesOf 2 = .ok (.istore_n 3, 1) := by decide +kernel
theorem dX11_sidesOf_3 : decode cX11_sidesOf 3 = .ok (.iconst (-1), 1) := by decide +kernel
theorem dX11_sidesOf_4 : decode cX11_sidesOf 4 = .ok (.istore 4, 2) := by decide +kernel
theorem dX11_sidesOf_6 : decode cX11_sidesOf 6 = .ok (.aload_n 0, 1) := by decide +kernel
theorem dX11_sidesOf_7 : decode cX11_sidesOf 7 = .ok (.getfield 37, 3) := by decide +kernel
theorem dX11_sidesOf_10 : decode cX11_sidesOf 10 = .ok (.iconst 0, 1) := by decide +kernel
theorem dX11_sidesOf_11 : decode cX11_sidesOf 11 = .ok (.iaload, 1) := by decide +kernel
theorem dX11_sidesOf_12 : decode cX11_sidesOf 12 = .ok (.aload_n 0, 1) := by decide +kernel
theorem dX11_sidesOf_13 : decode cX11_sidesOf 13 = .ok (.getfield 108, 3) := by decide +kernel
theorem dX11_sidesOf_16 : decode cX11_sidesOf 16 = .ok (.iadd, 1) := by decide +kernel
theorem dX11_sidesOf_17 : decode cX11_sidesOf 17 = .ok (.iconst 2, 1) := by decide +kernel
theorem dX11_sidesOf_18 : decode cX11_sidesOf 18 = .ok (.irem, 1) := by decide +kernel
theorem dX11_sidesOf_19 : decode cX11_sidesOf 19 = .ok (.istore 5, 2) := by decide +kernel
theorem dX11_sidesOf_21 : decode cX11_sidesOf 21 = .ok (.iconst 0, 1) := by decide +kernel
theorem dX11_sidesOf_22 : decode cX11_sidesOf 22 = .ok (.istore 6, 2) := by decide +kernel
theorem dX11_sidesOf_24 : decode cX11_sidesOf 24 = .ok (.iload 6, 2) := by decide +kernel
theorem dX11_sidesOf_26 : decode cX11_sidesOf 26 = .ok (.bipush 9, 2) := by decide +kernel
theorem dX11_sidesOf_28 : decode cX11_sidesOf 28 = .ok (.if_icmp .ge 191, 3) := by decide +kernel
theorem dX11_sidesOf_31 : decode cX11_sidesOf 31 = .ok (.bipush (-9), 2) := by decide +kernel
theorem dX11_sidesOf_33 : decode cX11_sidesOf 33 = .ok (.istore 7, 2) := by decide +kernel
theorem dX11_sidesOf_35 : decode cX11_sidesOf 35 = .ok (.iconst 0, 1) := by decide +kernel
theorem dX11_sidesOf_36 : decode cX11_sidesOf 36 = .ok (.istore 8, 2) := by decide +kernel
theorem dX11_sidesOf_38 : decode cX11_sidesOf 38 = .ok (.iload 8, 2) := by decide +kernel
theorem dX11_sidesOf_40 : decode cX11_sidesOf 40 = .ok (.bipush 9, 2) := by decide +kernel
theorem dX11_sidesOf_42 : decode cX11_sidesOf 42 = .ok (.if_icmp .ge 153, 3) := by decide +kernel
theorem dX11_sidesOf_45 : decode cX11_sidesOf 45 = .ok (.bipush (-9), 2) := by decide +kernel
theorem dX11_sidesOf_47 : decode cX11_sidesOf 47 = .ok (.istore 9, 2) := by decide +kernel
theorem dX11_sidesOf_49 : decode cX11_sidesOf 49 = .ok (.iconst 0, 1) := by decide +kernel
theorem dX11_sidesOf_50 : decode cX11_sidesOf 50 = .ok (.istore 10, 2) := by decide +kernel
theorem dX11_sidesOf_52 : decode cX11_sidesOf 52 = .ok (.iload 10, 2) := by decide +kernel
theorem dX11_sidesOf_54 : decode cX11_sidesOf 54 = .ok (.bipush 9, 2) := by decide +kernel
theorem dX11_sidesOf_56 : decode cX11_sidesOf 56 = .ok (.if_icmp .ge 110, 3) := by decide +kernel
theorem dX11_sidesOf_59 : decode cX11_sidesOf 59 = .ok (.iload_n 1, 1) := by decide +kernel
theorem dX11_sidesOf_60 : decode cX11_sidesOf 60 = .ok (.iconst 1, 1) := by decide +kernel
theorem dX11_sidesOf_61 : decode cX11_sidesOf 61 = .ok (.if_icmp .ne 8, 3) := by decide +kernel
theorem dX11_sidesOf_64 : decode cX11_sidesOf 64 = .ok (.iload 6, 2) := by decide +kernel
theorem dX11_sidesOf_66 : decode cX11_sidesOf 66 = .ok (.goto 33, 3) := by decide +kernel
theorem dX11_sidesOf_69 : decode cX11_sidesOf 69 = .ok (.iload_n 1, 1) := by decide +kernel
theorem dX11_sidesOf_70 : decode cX11_sidesOf 70 = .ok (.iconst 2, 1) := by decide +kernel
theorem dX11_sidesOf_71 : decode cX11_sidesOf 71 = .ok (.if_icmp .ne 14, 3) := by decide +kernel
theorem dX11_sidesOf_74 : decode cX11_sidesOf 74 = .ok (.bipush 9, 2) := by decide +kernel
theorem dX11_sidesOf_76 : decode cX11_sidesOf 76 = .ok (.iload 6, 2) := by decide +kernel
theorem dX11_sidesOf_78 : decode cX11_sidesOf 78 = .ok (.imul, 1) := by decide +kernel
theorem dX11_sidesOf_79 : decode cX11_sidesOf 79 = .ok (.iload 8, 2) := by decide +kernel
theorem dX11_sidesOf_81 : decode cX11_sidesOf 81 = .ok (.iadd, 1) := by decide +kernel
theorem dX11_sidesOf_82 : decode cX11_sidesOf 82 = .ok (.goto 17, 3) := by decide +kernel
theorem dX11_sidesOf_85 : decode cX11_sidesOf 85 = .ok (.bipush 81, 2) := by decide +kernel
theorem dX11_sidesOf_87 : decode cX11_sidesOf 87 = .ok (.iload 6, 2) := by decide +kernel
theorem dX11_sidesOf_89 : decode cX11_sidesOf 89 = .ok (.imul, 1) := by decide +kernel
theorem dX11_sidesOf_90 : decode cX11_sidesOf 90 = .ok (.bipush 9, 2) := by decide +kernel
theorem dX11_sidesOf_92 : decode cX11_sidesOf 92 = .ok (.iload 8, 2) := by decide +kernel
theorem dX11_sidesOf_94 : decode cX11_sidesOf 94 = .ok (.imul, 1) := by decide +kernel
theorem dX11_sidesOf_95 : decode cX11_sidesOf 95 = .ok (.iadd, 1) := by decide +kernel
theorem dX11_sidesOf_96 : decode cX11_sidesOf 96 = .ok (.iload 10, 2) := by decide +kernel
theorem dX11_sidesOf_98 : decode cX11_sidesOf 98 = .ok (.iadd, 1) := by decide +kernel
theorem dX11_sidesOf_99 : decode cX11_sidesOf 99 = .ok (.istore 11, 2) := by decide +kernel
theorem dX11_sidesOf_101 : decode cX11_sidesOf 101 = .ok (.iload_n 1, 1) := by decide +kernel
theorem dX11_sidesOf_102 : decode cX11_sidesOf 102 = .ok (.iconst 2, 1) := by decide +kernel
theorem dX11_sidesOf_103 : decode cX11_sidesOf 103 = .ok (.if_icmp .ge 10, 3) := by decide +kernel
theorem dX11_sidesOf_106 : decode cX11_sidesOf 106 = .ok (.iload 8, 2) := by decide +kernel
theorem dX11_sidesOf_108 : decode cX11_sidesOf 108 = .ok (.bipush 8, 2) := by decide +kernel
theorem dX11_sidesOf_110 : decode cX11_sidesOf 110 = .ok (.if_icmp .lt 15, 3) := by decide +kernel
theorem dX11_sidesOf_113 : decode cX11_sidesOf 113 = .ok (.iload_n 1, 1) := by decide +kernel
theorem dX11_sidesOf_114 : decode cX11_sidesOf 114 = .ok (.iconst 3, 1) := by decide +kernel
theorem dX11_sidesOf_115 : decode cX11_sidesOf 115 = .ok (.if_icmp .ge 15, 3) := by decide +kernel
theorem dX11_sidesOf_118 : decode cX11_sidesOf 118 = .ok (.iload 10, 2) := by decide +kernel
theorem dX11_sidesOf_120 : decode cX11_sidesOf 120 = .ok (.bipush 8, 2) := by decide +kernel
theorem dX11_sidesOf_122 : decode cX11_sidesOf 122 = .ok (.if_icmp .ge 8, 3) := by decide +kernel
theorem dX11_sidesOf_125 : decode cX11_sidesOf 125 = .ok (.bipush (-9), 2) := by decide +kernel
theorem dX11_sidesOf_127 : decode cX11_sidesOf 127 = .ok (.goto 10, 3) := by decide +kernel
theorem dX11_sidesOf_130 : decode cX11_sidesOf 130 = .ok (.aload_n 0, 1) := by decide +kernel
theorem dX11_sidesOf_131 : decode cX11_sidesOf 131 = .ok (.iload 11, 2) := by decide +kernel
theorem dX11_sidesOf_133 : decode cX11_sidesOf 133 = .ok (.iload_n 1, 1) := by decide +kernel
theorem dX11_sidesOf_134 : decode cX11_sidesOf 134 = .ok (.invokevirtual 234, 3) := by decide +kernel
theorem dX11_sidesOf_137 : decode cX11_sidesOf 137 = .ok (.istore 12, 2) := by decide +kernel
theorem dX11_sidesOf_139 : decode cX11_sidesOf 139 = .ok (.iload 5, 2) := by decide +kernel
theorem dX11_sidesOf_141 : decode cX11_sidesOf 141 = .ok (.iload 12, 2) := by decide +kernel
theorem dX11_sidesOf_143 : decode cX11_sidesOf 143 = .ok (.iload 9, 2) := by decide +kernel
theorem dX11_sidesOf_145 : decode cX11_sidesOf 145 = .ok (.invokestatic 237, 3) := by decide +kernel
theorem dX11_sidesOf_148 : decode cX11_sidesOf 148 = .ok (.ifCond .eq 8, 3) := by decide +kernel
theorem dX11_sidesOf_151 : decode cX11_sidesOf 151 = .ok (.iload 12, 2) := by decide +kernel
theorem dX11_sidesOf_153 : decode cX11_sidesOf 153 = .ok (.goto 5, 3) := by decide +kernel
theorem dX11_sidesOf_156 : decode cX11_sidesOf 156 = .ok (.iload 9, 2) := by decide +kernel
theorem dX11_sidesOf_158 : decode cX11_sidesOf 158 = .ok (.istore 9, 2) := by decide +kernel
theorem dX11_sidesOf_160 : decode cX11_sidesOf 160 = .ok (.iinc 10 1, 3) := by decide +kernel
theorem dX11_sidesOf_163 : decode cX11_sidesOf 163 = .ok (.goto (-111), 3) := by decide +kernel
theorem dX11_sidesOf_166 : decode cX11_sidesOf 166 = .ok (.iconst 1, 1) := by decide +kernel
theorem dX11_sidesOf_167 : decode cX11_sidesOf 167 = .ok (.iload 5, 2) := by decide +kernel
theorem dX11_sidesOf_169 : decode cX11_sidesOf 169 = .ok (.isub, 1) := by decide +kernel
theorem dX11_sidesOf_170 : decode cX11_sidesOf 170 = .ok (.iload 9, 2) := by decide +kernel
theorem dX11_sidesOf_172 : decode cX11_sidesOf 172 = .ok (.iload 7, 2) := by decide +kernel
theorem dX11_sidesOf_174 : decode cX11_sidesOf 174 = .ok (.invokestatic 237, 3) := by decide +kernel
theorem dX11_sidesOf_177 : decode cX11_sidesOf 177 = .ok (.ifCond .eq 8, 3) := by decide +kernel
theorem dX11_sidesOf_180 : decode cX11_sidesOf 180 = .ok (.iload 9, 2) := by decide +kernel
theorem dX11_sidesOf_182 : decode cX11_sidesOf 182 = .ok (.goto 5, 3) := by decide +kernel
theorem dX11_sidesOf_185 : decode cX11_sidesOf 185 = .ok (.iload 7, 2) := by decide +kernel
theorem dX11_sidesOf_187 : decode cX11_sidesOf 187 = .ok (.istore 7, 2) := by decide +kernel
theorem dX11_sidesOf_189 : decode cX11_sidesOf 189 = .ok (.iinc 8 1, 3) := by decide +kernel
theorem dX11_sidesOf_192 : decode cX11_sidesOf 192 = .ok (.goto (-154), 3) := by decide +kernel
theorem dX11_sidesOf_195 : decode cX11_sidesOf 195 = .ok (.iload 5, 2) := by decide +kernel
theorem dX11_sidesOf_197 : decode cX11_sidesOf 197 = .ok (.iload 7, 2) := by decide +kernel
theorem dX11_sidesOf_199 : decode cX11_sidesOf 199 = .ok (.iload_n 3, 1) := by decide +kernel
theorem dX11_sidesOf_200 : decode cX11_sidesOf 200 = .ok (.invokestatic 237, 3) := by decide +kernel
theorem dX11_sidesOf_203 : decode cX11_sidesOf 203 = .ok (.ifCond .eq 10, 3) := by decide +kernel
theorem dX11_sidesOf_206 : decode cX11_sidesOf 206 = .ok (.iload 7, 2) := by decide +kernel
theorem dX11_sidesOf_208 : decode cX11_sidesOf 208 = .ok (.istore_n 3, 1) := by decide +kernel
theorem dX11_sidesOf_209 : decode cX11_sidesOf 209 = .ok (.iload 6, 2) := by decide +kernel
theorem dX11_sidesOf_211 : decode cX11_sidesOf 211 = .ok (.istore 4, 2) := by decide +kernel
theorem dX11_sidesOf_213 : decode cX11_sidesOf 213 = .ok (.iinc 6 1, 3) := by decide +kernel
theorem dX11_sidesOf_216 : decode cX11_sidesOf 216 = .ok (.goto (-192), 3) := by decide +kernel
theorem dX11_sidesOf_219 : decode cX11_sidesOf 219 = .ok (.iload_n 2, 1) := by decide +kernel
theorem dX11_sidesOf_220 : decode cX11_sidesOf 220 = .ok (.ifCond .ne 7, 3) := by decide +kernel
theorem dX11_sidesOf_223 : decode cX11_sidesOf 223 = .ok (.iload_n 3, 1) := by decide +kernel
theorem dX11_sidesOf_224 : decode cX11_sidesOf 224 = .ok (.goto 5, 3) := by decide +kernel
theorem dX11_sidesOf_227 : decode cX11_sidesOf 227 = .ok (.iload 4, 2) := by decide +kernel
theorem dX11_sidesOf_229 : decode cX11_sidesOf 229 = .ok (.ireturn, 1) := by decide +kernel
theorem dX11_sides_0 : decode cX11_sides 0 = .ok (.aload_n 0, 1) := by decide +kernel
theorem dX11_sides_1 : decode cX11_sides 1 = .ok (.invokevirtual 177, 3) := by decide +kernel
theorem dX11_sides_4 : decode cX11_sides 4 = .ok (.iload_n 1, 1) := by decide +kernel
theorem dX11_sides_5 : decode cX11_sides 5 = .ok (.i2l, 1) := by decide +kernel
theorem dX11_sides_6 : decode cX11_sides 6 = .ok (.lconst 1, 1) := by decide +kernel
theorem dX11_sides_7 : decode cX11_sides 7 = .ok (.ldc2_w 65, 3) := by decide +kernel
theorem dX11_sides_10 : decode cX11_sides 10 = .ok (.invokestatic 58, 3) := by decide +kernel
theorem dX11_sides_13 : decode cX11_sides 13 = .ok (.ifCond .eq 19, 3) := by decide +kernel
theorem dX11_sides_16 : decode cX11_sides 16 = .ok (.iload_n 2, 1) := by decide +kernel
theorem dX11_sides_17 : decode cX11_sides 17 = .ok (.invokestatic 86, 3) := by decide +kernel
theorem dX11_sides_20 : decode cX11_sides 20 = .ok (.ifCond .eq 12, 3) := by decide +kernel
theorem dX11_sides_23 : decode cX11_sides 23 = .ok (.aload_n 0, 1) := by decide +kernel
theorem dX11_sides_24 : decode cX11_sides 24 = .ok (.iload_n 1, 1) := by decide +kernel
theorem dX11_sides_25 : decode cX11_sides 25 = .ok (.iload_n 2, 1) := by decide +kernel
theorem dX11_sides_26 : decode cX11_sides 26 = .ok (.invokevirtual 240, 3) := by decide +kernel
theorem dX11_sides_29 : decode cX11_sides 29 = .ok (.goto 5, 3) := by decide +kernel
theorem dX11_sides_32 : decode cX11_sides 32 = .ok (.bipush (-2), 2) := by decide +kernel
theorem dX11_sides_34 : decode cX11_sides 34 = .ok (.ireturn, 1) := by decide +kernel
theorem dX11_seen_0 : decode cX11_seen 0 = .ok (.iload_n 1, 1) := by decide +kernel
theorem dX11_seen_1 : decode cX11_seen 1 = .ok (.i2l, 1) := by decide +kernel
theorem dX11_seen_2 : decode cX11_seen 2 = .ok (.lconst 0, 1) := by decide +kernel
theorem dX11_seen_3 : decode cX11_seen 3 = .ok (.ldc2_w 243, 3) := by decide +kernel
theorem dX11_seen_6 : decode cX11_seen 6 = .ok (.invokestatic 58, 3) := by decide +kernel
theorem dX11_seen_9 : decode cX11_seen 9 = .ok (.ifCond .eq 27, 3) := by decide +kernel
theorem dX11_seen_12 : decode cX11_seen 12 = .ok (.iload_n 2, 1) := by decide +kernel
theorem dX11_seen_13 : decode cX11_seen 13 = .ok (.i2l, 1) := by decide +kernel
theorem dX11_seen_14 : decode cX11_seen 14 = .ok (.lconst 0, 1) := by decide +kernel
theorem dX11_seen_15 : decode cX11_seen 15 = .ok (.ldc2_w 194, 3) := by decide +kernel
theorem dX11_seen_18 : decode cX11_seen 18 = .ok (.invokestatic 58, 3) := by decide +kernel
theorem dX11_seen_21 : decode cX11_seen 21 = .ok (.ifCond .eq 15, 3) := by decide +kernel
theorem dX11_seen_24 : decode cX11_seen 24 = .ok (.iload_n 3, 1) := by decide +kernel
theorem dX11_seen_25 : decode cX11_seen 25 = .ok (.i2l, 1) := by decide +kernel
theorem dX11_seen_26 : decode cX11_seen 26 = .ok (.lconst 0, 1) := by decide +kernel
theorem dX11_seen_27 : decode cX11_seen 27 = .ok (.ldc2_w 245, 3) := by decide +kernel
theorem dX11_seen_30 : decode cX11_seen 30 = .ok (.invokestatic 58, 3) := by decide +kernel
theorem dX11_seen_33 : decode cX11_seen 33 = .ok (.ifCond .ne 6, 3) := by decide +kernel
theorem dX11_seen_36 : decode cX11_seen 36 = .ok (.bipush (-2), 2) := by decide +kernel
theorem dX11_seen_38 : decode cX11_seen 38 = .ok (.ireturn, 1) := by decide +kernel
theorem dX11_seen_39 : decode cX11_seen 39 = .ok (.aload_n 0, 1) := by decide +kernel
theorem dX11_seen_40 : decode cX11_seen 40 = .ok (.getfield 247, 3) := by decide +kernel
theorem dX11_seen_43 : decode cX11_seen 43 = .ok (.bipush 8, 2) := by decide +kernel
theorem dX11_seen_45 : decode cX11_seen 45 = .ok (.if_icmp .ne 6, 3) := by decide +kernel
theorem dX11_seen_48 : decode cX11_seen 48 = .ok (.bipush (-4), 2) := by decide +kernel
theorem dX11_seen_50 : decode cX11_seen 50 = .ok (.ireturn, 1) := by decide +kernel
theorem dX11_seen_51 : decode cX11_seen 51 = .ok (.aload_n 0, 1) := by decide +kernel
theorem dX11_seen_52 : decode cX11_seen 52 = .ok (.getfield 49, 3) := by decide +kernel
theorem dX11_seen_55 : decode cX11_seen 55 = .ok (.iconst 3, 1) := by decide +kernel
theorem dX11_seen_56 : decode cX11_seen 56 = .ok (.aload_n 0, 1) := by decide +kernel
theorem dX11_seen_57 : decode cX11_seen 57 = .ok (.getfield 247, 3) := by decide +kernel
theorem dX11_seen_60 : decode cX11_seen 60 = .ok (.imul, 1) := by decide +kernel
theorem dX11_seen_61 : decode cX11_seen 61 = .ok (.iload_n 1, 1) := by decide +kernel
theorem dX11_seen_62 : decode cX11_seen 62 = .ok (.iastore, 1) := by decide +kernel
theorem dX11_seen_63 : decode cX11_seen 63 = .ok (.aload_n 0, 1) := by decide +kernel
theorem dX11_seen_64 : decode cX11_seen 64 = .ok (.getfield 49, 3) := by decide +kernel
theorem dX11_seen_67 : decode cX11_seen 67 = .ok (.iconst 3, 1) := by decide +kernel
theorem dX11_seen_68 : decode cX11_seen 68 = .ok (.aload_n 0, 1) := by decide +kernel
theorem dX11_seen_69 : decode cX11_seen 69 = .ok (.getfield 247, 3) := by decide +kernel
theorem dX11_seen_72 : decode cX11_seen 72 = .ok (.imul, 1) := by decide +kernel
theorem dX11_seen_73 : decode cX11_seen 73 = .ok (.iconst 1, 1) := by decide +kernel
theorem dX11_seen_74 : decode cX11_seen 74 = .ok (.iadd, 1) := by decide +kernel
theorem dX11_seen_75 : decode cX11_seen 75 = .ok (.iload_n 2, 1) := by decide +kernel
theorem dX11_seen_76 : decode cX11_seen 76 = .ok (.iastore, 1) := by decide +kernel
theorem dX11_seen_77 : decode cX11_seen 77 = .ok (.aload_n 0, 1) := by decide +kernel
theorem dX11_seen_78 : decode cX11_seen 78 = .ok (.getfield 49, 3) := by decide +kernel
theorem dX11_seen_81 : decode cX11_seen 81 = .ok (.iconst 3, 1) := by decide +kernel
theorem dX11_seen_82 : decode cX11_seen 82 = .ok (.aload_n 0, 1) := by decide +kernel
theorem dX11_seen_83 : decode cX11_seen 83 = .ok (.getfield 247, 3) := by decide +kernel
theorem dX11_seen_86 : decode cX11_seen 86 = .ok (.imul, 1) := by decide +kernel
theorem dX11_seen_87 : decode cX11_seen 87 = .ok (.iconst 2, 1) := by decide +kernel
theorem dX11_seen_88 : decode cX11_seen 88 = .ok (.iadd, 1) := by decide +kernel
theorem dX11_seen_89 : decode cX11_seen 89 = .ok (.iload_n 3, 1) := by decide +kernel
theorem dX11_seen_90 : decode cX11_seen 90 = .ok (.iastore, 1) := by decide +kernel
theorem dX11_seen_91 : decode cX11_seen 91 = .ok (.aload_n 0, 1) := by decide +kernel
theorem dX11_seen_92 : decode cX11_seen 92 = .ok (.dup, 1) := by decide +kernel
theorem dX11_seen_93 : decode cX11_seen 93 = .ok (.getfield 247, 3) := by decide +kernel
theorem dX11_seen_96 : decode cX11_seen 96 = .ok (.iconst 1, 1) := by decide +kernel
theorem dX11_seen_97 : decode cX11_seen 97 = .ok (.iadd, 1) := by decide +kernel
theorem dX11_seen_98 : decode cX11_seen 98 = .ok (.putfield 247, 3) := by decide +kernel
theorem dX11_seen_101 : decode cX11_seen 101 = .ok (.aload_n 0, 1) := by decide +kernel
theorem dX11_seen_102 : decode cX11_seen 102 = .ok (.getfield 247, 3) := by decide +kernel
theorem dX11_seen_105 : decode cX11_seen 105 = .ok (.ireturn, 1) := by decide +kernel
theorem dX11_forget_0 : decode cX11_forget 0 = .ok (.aload_n 0, 1) := by decide +kernel
theorem dX11_forget_1 : decode cX11_forget 1 = .ok (.getfield 247, 3) := by decide +kernel
theorem dX11_forget_4 : decode cX11_forget 4 = .ok (.istore_n 1, 1) := by decide +kernel
theorem dX11_forget_5 : decode cX11_forget 5 = .ok (.aload_n 0, 1) := by decide +kernel
theorem dX11_forget_6 : decode cX11_forget 6 = .ok (.iconst 0, 1) := by decide +kernel
theorem dX11_forget_7 : decode cX11_forget 7 = .ok (.putfield 247, 3) := by decide +kernel
theorem dX11_forget_10 : decode cX11_forget 10 = .ok (.iload_n 1, 1) := by decide +kernel
theorem dX11_forget_11 : decode cX11_forget 11 = .ok (.ireturn, 1) := by decide +kernel
theorem dX11_read_0 : decode cX11_read 0 = .ok (.iload_n 1, 1) := by decide +kernel
theorem dX11_read_1 : decode cX11_read 1 = .ok (.invokestatic 67, 3) := by decide +kernel
theorem dX11_read_4 : decode cX11_read 4 = .ok (.ifCond .ne 6, 3) := by decide +kernel
theorem dX11_read_7 : decode cX11_read 7 = .ok (.bipush (-2), 2) := by decide +kernel
theorem dX11_read_9 : decode cX11_read 9 = .ok (.ireturn, 1) := by decide +kernel
theorem dX11_read_10 : decode cX11_read 10 = .ok (.aload_n 0, 1) := by decide +kernel
theorem dX11_read_11 : decode cX11_read 11 = .ok (.getfield 7, 3) := by decide +kernel
theorem dX11_read_14 : decode cX11_read 14 = .ok (.iload_n 1, 1) := by decide +kernel
theorem dX11_read_15 : decode cX11_read 15 = .ok (.iaload, 1) := by decide +kernel
theorem dX11_read_16 : decode cX11_read 16 = .ok (.ifCond .ge 9, 3) := by decide +kernel
theorem dX11_read_19 : decode cX11_read 19 = .ok (.aload_n 0, 1) := by decide +kernel
theorem dX11_read_20 : decode cX11_read 20 = .ok (.iconst 1, 1) := by decide +kernel
theorem dX11_read_21 : decode cX11_read 21 = .ok (.invokevirtual 73, 3) := by decide +kernel
theorem dX11_read_24 : decode cX11_read 24 = .ok (.ireturn, 1) := by decide +kernel
theorem dX11_read_25 : decode cX11_read 25 = .ok (.iconst 0, 1) := by decide +kernel
theorem dX11_read_26 : decode cX11_read 26 = .ok (.istore_n 2, 1) := by decide +kernel
theorem dX11_read_27 : decode cX11_read 27 = .ok (.iconst 1, 1) := by decide +kernel
theorem dX11_read_28 : decode cX11_read 28 = .ok (.istore_n 3, 1) := by decide +kernel
theorem dX11_read_29 : decode cX11_read 29 = .ok (.iload_n 3, 1) := by decide +kernel
theorem dX11_read_30 : decode cX11_read 30 = .ok (.ifCond .eq 80, 3) := by decide +kernel
theorem dX11_read_33 : decode cX11_read 33 = .ok (.iconst 3, 1) := by decide +kernel
theorem dX11_read_34 : decode cX11_read 34 = .ok (.iload_n 2, 1) := by decide +kernel
theorem dX11_read_35 : decode cX11_read 35 = .ok (.imul, 1) := by decide +kernel
theorem dX11_read_36 : decode cX11_read 36 = .ok (.iconst 3, 1) := by decide +kernel
theorem dX11_read_37 : decode cX11_read 37 = .ok (.iadd, 1) := by decide +kernel
theorem dX11_read_38 : decode cX11_read 38 = .ok (.aload_n 0, 1) := by decide +kernel
theorem dX11_read_39 : decode cX11_read 39 = .ok (.getfield 13, 3) := by decide +kernel
theorem dX11_read_42 : decode cX11_read 42 = .ok (.iload_n 1, 1) := by decide +kernel
theorem dX11_read_43 : decode cX11_read 43 = .ok (.iaload, 1) := by decide +kernel
theorem dX11_read_44 : decode cX11_read 44 = .ok (.if_icmp .gt 66, 3) := by decide +kernel
theorem dX11_read_47 : decode cX11_read 47 = .ok (.bipush 60, 2) := by decide +kernel
theorem dX11_read_49 : decode cX11_read 49 = .ok (.iload_n 1, 1) := by decide +kernel
theorem dX11_read_50 : decode cX11_read 50 = .ok (.imul, 1) := by decide +kernel
theorem dX11_read_51 : decode cX11_read 51 = .ok (.iconst 3, 1) := by decide +kernel
theorem dX11_read_52 : decode cX11_read 52 = .ok (.iload_n 2, 1) := by decide +kernel
theorem dX11_read_53 : decode cX11_read 53 = .ok (.imul, 1) := by decide +kernel
theorem dX11_read_54 : decode cX11_read 54 = .ok (.iadd, 1) := by decide +kernel
theorem dX11_read_55 : decode cX11_read 55 = .ok (.istore 4, 2) := by decide +kernel
theorem dX11_read_57 : decode cX11_read 57 = .ok (.aload_n 0, 1) := by decide +kernel
theorem dX11_read_58 : decode cX11_read 58 = .ok (.aload_n 0, 1) := by decide +kernel
theorem dX11_read_59 : decode cX11_read 59 = .ok (.getfield 16, 3) := by decide +kernel
theorem dX11_read_62 : decode cX11_read 62 = .ok (.iload 4, 2) := by decide +kernel
theorem dX11_read_64 : decode cX11_read 64 = .ok (.iaload, 1) := by decide +kernel
theorem dX11_read_65 : decode cX11_read 65 = .ok (.aload_n 0, 1) := by decide +kernel
theorem dX11_read_66 : decode cX11_read 66 = .ok (.getfield 16, 3) := by decide +kernel
theorem dX11_read_69 : decode cX11_read 69 = .ok (.iload 4, 2) := by decide +kernel
theorem dX11_read_71 : decode cX11_read 71 = .ok (.iconst 1, 1) := by decide +kernel
theorem dX11_read_72 : decode cX11_read 72 = .ok (.iadd, 1) := by decide +kernel
theorem dX11_read_73 : decode cX11_read 73 = .ok (.iaload, 1) := by decide +kernel
theorem dX11_read_74 : decode cX11_read 74 = .ok (.aload_n 0, 1) := by decide +kernel
theorem dX11_read_75 : decode cX11_read 75 = .ok (.getfield 16, 3) := by decide +kernel
theorem dX11_read_78 : decode cX11_read 78 = .ok (.iload 4, 2) := by decide +kernel
theorem dX11_read_80 : decode cX11_read 80 = .ok (.iconst 2, 1) := by decide +kernel
theorem dX11_read_81 : decode cX11_read 81 = .ok (.iadd, 1) := by decide +kernel
theorem dX11_read_82 : decode cX11_read 82 = .ok (.iaload, 1) := by decide +kernel
theorem dX11_read_83 : decode cX11_read 83 = .ok (.invokevirtual 250, 3) := by decide +kernel
theorem dX11_read_86 : decode cX11_read 86 = .ok (.ifCond .lt 7, 3) := by decide +kernel
theorem dX11_read_89 : decode cX11_read 89 = .ok (.iconst 1, 1) := by decide +kernel
theorem dX11_read_90 : decode cX11_read 90 = .ok (.goto 4, 3) := by decide +kernel
theorem dX11_read_93 : decode cX11_read 93 = .ok (.iconst 0, 1) := by decide +kernel
theorem dX11_read_94 : decode cX11_read 94 = .ok (.istore_n 3, 1) := by decide +kernel
theorem dX11_read_95 : decode cX11_read 95 = .ok (.iload_n 2, 1) := by decide +kernel
theorem dX11_read_96 : decode cX11_read 96 = .ok (.iload_n 3, 1) := by decide +kernel
theorem dX11_read_97 : decode cX11_read 97 = .ok (.ifCond .eq 7, 3) := by decide +kernel
theorem dX11_read_100 : decode cX11_read 100 = .ok (.iconst 1, 1) := by decide +kernel
theorem dX11_read_101 : decode cX11_read 101 = .ok (.goto 4, 3) := by decide +kernel
theorem dX11_read_104 : decode cX11_read 104 = .ok (.iconst 0, 1) := by decide +kernel
theorem dX11_read_105 : decode cX11_read 105 = .ok (.iadd, 1) := by decide +kernel
theorem dX11_read_106 : decode cX11_read 106 = .ok (.istore_n 2, 1) := by decide +kernel
theorem dX11_read_107 : decode cX11_read 107 = .ok (.goto (-78), 3) := by decide +kernel
theorem dX11_read_110 : decode cX11_read 110 = .ok (.iload_n 2, 1) := by decide +kernel
theorem dX11_read_111 : decode cX11_read 111 = .ok (.ireturn, 1) := by decide +kernel
theorem dX11_isSeen_0 : decode cX11_isSeen 0 = .ok (.iconst 1, 1) := by decide +kernel
theorem dX11_isSeen_1 : decode cX11_isSeen 1 = .ok (.istore_n 1, 1) := by decide +kernel
theorem dX11_isSeen_2 : decode cX11_isSeen 2 = .ok (.iconst 0, 1) := by decide +kernel
theorem dX11_isSeen_3 : decode cX11_isSeen 3 = .ok (.istore_n 2, 1) := by decide +kernel
theorem dX11_isSeen_4 : decode cX11_isSeen 4 = .ok (.iload_n 2, 1) := by decide +kernel
theorem dX11_isSeen_5 : decode cX11_isSeen 5 = .ok (.aload_n 0, 1) := by decide +kernel
theorem dX11_isSeen_6 : decode cX11_isSeen 6 = .ok (.getfield 247, 3) := by decide +kernel
theorem dX11_isSeen_9 : decode cX11_isSeen 9 = .ok (.if_icmp .ge 86, 3) := by decide +kernel
theorem dX11_isSeen_12 : decode cX11_isSeen 12 = .ok (.iload_n 1, 1) := by decide +kernel
theorem dX11_isSeen_13 : decode cX11_isSeen 13 = .ok (.ifCond .eq 82, 3) := by decide +kernel
theorem dX11_isSeen_16 : decode cX11_isSeen 16 = .ok (.aload_n 0, 1) := by decide +kernel
theorem dX11_isSeen_17 : decode cX11_isSeen 17 = .ok (.aload_n 0, 1) := by decide +kernel
theorem dX11_isSeen_18 : decode cX11_isSeen 18 = .ok (.getfield 49, 3) := by decide +kernel
theorem dX11_isSeen_21 : decode cX11_isSeen 21 = .ok (.iconst 3, 1) := by decide +kernel
theorem dX11_isSeen_22 : decode cX11_isSeen 22 = .ok (.iload_n 2, 1) := by decide +kernel
theorem dX11_isSeen_23 : decode cX11_isSeen 23 = .ok (.imul, 1) := by decide +kernel
theorem dX11_isSeen_24 : decode cX11_isSeen 24 = .ok (.iaload, 1) := by decide +kernel
theorem dX11_isSeen_25 : decode cX11_isSeen 25 = .ok (.invokevirtual 180, 3) := by decide +kernel
theorem dX11_isSeen_28 : decode cX11_isSeen 28 = .ok (.ifCond .eq 59, 3) := by decide +kernel
theorem dX11_isSeen_31 : decode cX11_isSeen 31 = .ok (.aload_n 0, 1) := by decide +kernel
theorem dX11_isSeen_32 : decode cX11_isSeen 32 = .ok (.aload_n 0, 1) := by decide +kernel
theorem dX11_isSeen_33 : decode cX11_isSeen 33 = .ok (.getfield 49, 3) := by decide +kernel
theorem dX11_isSeen_36 : decode cX11_isSeen 36 = .ok (.iconst 3, 1) := by decide +kernel
theorem dX11_isSeen_37 : decode cX11_isSeen 37 = .ok (.iload_n 2, 1) := by decide +kernel
theorem dX11_isSeen_38 : decode cX11_isSeen 38 = .ok (.imul, 1) := by decide +kernel
theorem dX11_isSeen_39 : decode cX11_isSeen 39 = .ok (.iconst 1, 1) := by decide +kernel
theorem dX11_isSeen_40 : decode cX11_isSeen 40 = .ok (.iadd, 1) := by decide +kernel
theorem dX11_isSeen_41 : decode cX11_isSeen 41 = .ok (.iaload, 1) := by decide +kernel
theorem dX11_isSeen_42 : decode cX11_isSeen 42 = .ok (.invokevirtual 183, 3) := by decide +kernel
theorem dX11_isSeen_45 : decode cX11_isSeen 45 = .ok (.ifCond .eq 42, 3) := by decide +kernel
theorem dX11_isSeen_48 : decode cX11_isSeen 48 = .ok (.aload_n 0, 1) := by decide +kernel
theorem dX11_isSeen_49 : decode cX11_isSeen 49 = .ok (.aload_n 0, 1) := by decide +kernel
theorem dX11_isSeen_50 : decode cX11_isSeen 50 = .ok (.getfield 49, 3) := by decide +kernel
theorem dX11_isSeen_53 : decode cX11_isSeen 53 = .ok (.iconst 3, 1) := by decide +kernel
theorem dX11_isSeen_54 : decode cX11_isSeen 54 = .ok (.iload_n 2, 1) := by decide +kernel
theorem dX11_isSeen_55 : decode cX11_isSeen 55 = .ok (.imul, 1) := by decide +kernel
theorem dX11_isSeen_56 : decode cX11_isSeen 56 = .ok (.iaload, 1) := by decide +kernel
theorem dX11_isSeen_57 : decode cX11_isSeen 57 = .ok (.aload_n 0, 1) := by decide +kernel
theorem dX11_isSeen_58 : decode cX11_isSeen 58 = .ok (.getfield 49, 3) := by decide +kernel
theorem dX11_isSeen_61 : decode cX11_isSeen 61 = .ok (.iconst 3, 1) := by decide +kernel
theorem dX11_isSeen_62 : decode cX11_isSeen 62 = .ok (.iload_n 2, 1) := by decide +kernel
theorem dX11_isSeen_63 : decode cX11_isSeen 63 = .ok (.imul, 1) := by decide +kernel
theorem dX11_isSeen_64 : decode cX11_isSeen 64 = .ok (.iconst 1, 1) := by decide +kernel
theorem dX11_isSeen_65 : decode cX11_isSeen 65 = .ok (.iadd, 1) := by decide +kernel
theorem dX11_isSeen_66 : decode cX11_isSeen 66 = .ok (.iaload, 1) := by decide +kernel
theorem dX11_isSeen_67 : decode cX11_isSeen 67 = .ok (.invokevirtual 186, 3) := by decide +kernel
theorem dX11_isSeen_70 : decode cX11_isSeen 70 = .ok (.aload_n 0, 1) := by decide +kernel
theorem dX11_isSeen_71 : decode cX11_isSeen 71 = .ok (.getfield 49, 3) := by decide +kernel
theorem dX11_isSeen_74 : decode cX11_isSeen 74 = .ok (.iconst 3, 1) := by decide +kernel
theorem dX11_isSeen_75 : decode cX11_isSeen 75 = .ok (.iload_n 2, 1) := by decide +kernel
theorem dX11_isSeen_76 : decode cX11_isSeen 76 = .ok (.imul, 1) := by decide +kernel
theorem dX11_isSeen_77 : decode cX11_isSeen 77 = .ok (.iconst 2, 1) := by decide +kernel
theorem dX11_isSeen_78 : decode cX11_isSeen 78 = .ok (.iadd, 1) := by decide +kernel
theorem dX11_isSeen_79 : decode cX11_isSeen 79 = .ok (.iaload, 1) := by decide +kernel
theorem dX11_isSeen_80 : decode cX11_isSeen 80 = .ok (.if_icmp .ne 7, 3) := by decide +kernel
theorem dX11_isSeen_83 : decode cX11_isSeen 83 = .ok (.iconst 1, 1) := by decide +kernel
theorem dX11_isSeen_84 : decode cX11_isSeen 84 = .ok (.goto 4, 3) := by decide +kernel
theorem dX11_isSeen_87 : decode cX11_isSeen 87 = .ok (.iconst 0, 1) := by decide +kernel
theorem dX11_isSeen_88 : decode cX11_isSeen 88 = .ok (.istore_n 1, 1) := by decide +kernel
theorem dX11_isSeen_89 : decode cX11_isSeen 89 = .ok (.iinc 2 1, 3) := by decide +kernel
theorem dX11_isSeen_92 : decode cX11_isSeen 92 = .ok (.goto (-88), 3) := by decide +kernel
theorem dX11_isSeen_95 : decode cX11_isSeen 95 = .ok (.iload_n 1, 1) := by decide +kernel
theorem dX11_isSeen_96 : decode cX11_isSeen 96 = .ok (.ireturn, 1) := by decide +kernel
theorem dX11_whoBy_0 : decode cX11_whoBy 0 = .ok (.iconst 0, 1) := by decide +kernel
theorem dX11_whoBy_1 : decode cX11_whoBy 1 = .ok (.istore_n 2, 1) := by decide +kernel
theorem dX11_whoBy_2 : decode cX11_whoBy 2 = .ok (.aload_n 0, 1) := by decide +kernel
theorem dX11_whoBy_3 : decode cX11_whoBy 3 = .ok (.iload_n 1, 1) := by decide +kernel
theorem dX11_whoBy_4 : decode cX11_whoBy 4 = .ok (.putfield 129, 3) := by decide +kernel
theorem dX11_whoBy_7 : decode cX11_whoBy 7 = .ok (.iconst 0, 1) := by decide +kernel
theorem dX11_whoBy_8 : decode cX11_whoBy 8 = .ok (.istore_n 3, 1) := by decide +kernel
theorem dX11_whoBy_9 : decode cX11_whoBy 9 = .ok (.iload_n 3, 1) := by decide +kernel
theorem dX11_whoBy_10 : decode cX11_whoBy 10 = .ok (.aload_n 0, 1) := by decide +kernel
theorem dX11_whoBy_11 : decode cX11_whoBy 11 = .ok (.getfield 108, 3) := by decide +kernel
theorem dX11_whoBy_14 : decode cX11_whoBy 14 = .ok (.if_icmp .ge 31, 3) := by decide +kernel
theorem dX11_whoBy_17 : decode cX11_whoBy 17 = .ok (.aload_n 0, 1) := by decide +kernel
theorem dX11_whoBy_18 : decode cX11_whoBy 18 = .ok (.iload_n 3, 1) := by decide +kernel
theorem dX11_whoBy_19 : decode cX11_whoBy 19 = .ok (.putfield 52, 3) := by decide +kernel
theorem dX11_whoBy_22 : decode cX11_whoBy 22 = .ok (.iload_n 2, 1) := by decide +kernel
theorem dX11_whoBy_23 : decode cX11_whoBy 23 = .ok (.aload_n 0, 1) := by decide +kernel
theorem dX11_whoBy_24 : decode cX11_whoBy 24 = .ok (.invokevirtual 253, 3) := by decide +kernel
theorem dX11_whoBy_27 : decode cX11_whoBy 27 = .ok (.ifCond .eq 9, 3) := by decide +kernel
theorem dX11_whoBy_30 : decode cX11_whoBy 30 = .ok (.iconst 1, 1) := by decide +kernel
theorem dX11_whoBy_31 : decode cX11_whoBy 31 = .ok (.iload_n 3, 1) := by decide +kernel
theorem dX11_whoBy_32 : decode cX11_whoBy 32 = .ok (.ishl, 1) := by decide +kernel
theorem dX11_whoBy_33 : decode cX11_whoBy 33 = .ok (.goto 4, 3) := by decide +kernel
theorem dX11_whoBy_36 : decode cX11_whoBy 36 = .ok (.iconst 0, 1) := by decide +kernel
theorem dX11_whoBy_37 : decode cX11_whoBy 37 = .ok (.ior, 1) := by decide +kernel
theorem dX11_whoBy_38 : decode cX11_whoBy 38 = .ok (.istore_n 2, 1) := by decide +kernel
theorem dX11_whoBy_39 : decode cX11_whoBy 39 = .ok (.iinc 3 1, 3) := by decide +kernel
theorem dX11_whoBy_42 : decode cX11_whoBy 42 = .ok (.goto (-33), 3) := by decide +kernel
theorem dX11_whoBy_45 : decode cX11_whoBy 45 = .ok (.aload_n 0, 1) := by decide +kernel
theorem dX11_whoBy_46 : decode cX11_whoBy 46 = .ok (.iconst (-1), 1) := by decide +kernel
theorem dX11_whoBy_47 : decode cX11_whoBy 47 = .ok (.putfield 52, 3) := by decide +kernel
theorem dX11_whoBy_50 : decode cX11_whoBy 50 = .ok (.iload_n 2, 1) := by decide +kernel
theorem dX11_whoBy_51 : decode cX11_whoBy 51 = .ok (.ireturn, 1) := by decide +kernel
theorem dX11_who_0 : decode cX11_who 0 = .ok (.aload_n 0, 1) := by decide +kernel
theorem dX11_who_1 : decode cX11_who 1 = .ok (.invokevirtual 177, 3) := by decide +kernel
theorem dX11_who_4 : decode cX11_who 4 = .ok (.iload_n 1, 1) := by decide +kernel
theorem dX11_who_5 : decode cX11_who 5 = .ok (.i2l, 1) := by decide +kernel
theorem dX11_who_6 : decode cX11_who 6 = .ok (.lconst 0, 1) := by decide +kernel
theorem dX11_who_7 : decode cX11_who 7 = .ok (.ldc2_w 71, 3) := by decide +kernel
theorem dX11_who_10 : decode cX11_who 10 = .ok (.invokestatic 58, 3) := by decide +kernel
theorem dX11_who_13 : decode cX11_who 13 = .ok (.ifCond .eq 11, 3) := by decide +kernel
theorem dX11_who_16 : decode cX11_who 16 = .ok (.aload_n 0, 1) := by decide +kernel
theorem dX11_who_17 : decode cX11_who 17 = .ok (.iload_n 1, 1) := by decide +kernel
theorem dX11_who_18 : decode cX11_who 18 = .ok (.invokevirtual 256, 3) := by decide +kernel
theorem dX11_who_21 : decode cX11_who 21 = .ok (.goto 5, 3) := by decide +kernel
theorem dX11_who_24 : decode cX11_who 24 = .ok (.bipush (-2), 2) := by decide +kernel
theorem dX11_who_26 : decode cX11_who 26 = .ok (.ireturn, 1) := by decide +kernel
theorem dX11_frostOf_0 : decode cX11_frostOf 0 = .ok (.aload_n 0, 1) := by decide +kernel
theorem dX11_frostOf_1 : decode cX11_frostOf 1 = .ok (.aload_n 0, 1) := by decide +kernel
theorem dX11_frostOf_2 : decode cX11_frostOf 2 = .ok (.getfield 108, 3) := by decide +kernel
theorem dX11_frostOf_5 : decode cX11_frostOf 5 = .ok (.invokevirtual 174, 3) := by decide +kernel
theorem dX11_frostOf_8 : decode cX11_frostOf 8 = .ok (.iconst 0, 1) := by decide +kernel
theorem dX11_frostOf_9 : decode cX11_frostOf 9 = .ok (.istore_n 3, 1) := by decide +kernel
theorem dX11_frostOf_10 : decode cX11_frostOf 10 = .ok (.lconst 1, 1) := by decide +kernel
theorem dX11_frostOf_11 : decode cX11_frostOf 11 = .ok (.lstore 4, 2) := by decide +kernel
theorem dX11_frostOf_13 : decode cX11_frostOf 13 = .ok (.iconst 0, 1) := by decide +kernel
theorem dX11_frostOf_14 : decode cX11_frostOf 14 = .ok (.istore 6, 2) := by decide +kernel
theorem dX11_frostOf_16 : decode cX11_frostOf 16 = .ok (.iload 6, 2) := by decide +kernel
theorem dX11_frostOf_18 : decode cX11_frostOf 18 = .ok (.aload_n 0, 1) := by decide +kernel
theorem dX11_frostOf_19 : decode cX11_frostOf 19 = .ok (.getfield 91, 3) := by decide +kernel
theorem dX11_frostOf_22 : decode cX11_frostOf 22 = .ok (.if_icmp .ge 52, 3) := by decide +kernel
theorem dX11_frostOf_25 : decode cX11_frostOf 25 = .ok (.iload_n 3, 1) := by decide +kernel
theorem dX11_frostOf_26 : decode cX11_frostOf 26 = .ok (.aload_n 0, 1) := by decide +kernel
theorem dX11_frostOf_27 : decode cX11_frostOf 27 = .ok (.getfield 43, 3) := by decide +kernel
theorem dX11_frostOf_30 : decode cX11_frostOf 30 = .ok (.iload 6, 2) := by decide +kernel
theorem dX11_frostOf_32 : decode cX11_frostOf 32 = .ok (.iaload, 1) := by decide +kernel
theorem dX11_frostOf_33 : decode cX11_frostOf 33 = .ok (.ifCond .le 10, 3) := by decide +kernel
theorem dX11_frostOf_36 : decode cX11_frostOf 36 = .ok (.iconst 1, 1) := by decide +kernel
theorem dX11_frostOf_37 : decode cX11_frostOf 37 = .ok (.iload 6, 2) := by decide +kernel
theorem dX11_frostOf_39 : decode cX11_frostOf 39 = .ok (.ishl, 1) := by decide +kernel
theorem dX11_frostOf_40 : decode cX11_frostOf 40 = .ok (.goto 4, 3) := by decide +kernel
theorem dX11_frostOf_43 : decode cX11_frostOf 43 = .ok (.iconst 0, 1) := by decide +kernel
theorem dX11_frostOf_44 : decode cX11_frostOf 44 = .ok (.ior, 1) := by decide +kernel
theorem dX11_frostOf_45 : decode cX11_frostOf 45 = .ok (.istore_n 3, 1) := by decide +kernel
theorem dX11_frostOf_46 : decode cX11_frostOf 46 = .ok (.lload 4, 2) := by decide +kernel
theorem dX11_frostOf_48 : decode cX11_frostOf 48 = .ok (.aload_n 0, 1) := by decide +kernel
theorem dX11_frostOf_49 : decode cX11_frostOf 49 = .ok (.getfield 43, 3) := by decide +kernel
theorem dX11_frostOf_52 : decode cX11_frostOf 52 = .ok (.iload 6, 2) := by decide +kernel
theorem dX11_frostOf_54 : decode cX11_frostOf 54 = .ok (.iaload, 1) := by decide +kernel
theorem dX11_frostOf_55 : decode cX11_frostOf 55 = .ok (.ifCond .le 9, 3) := by decide +kernel
theorem dX11_frostOf_58 : decode cX11_frostOf 58 = .ok (.ldc2_w 245, 3) := by decide +kernel
theorem dX11_frostOf_61 : decode cX11_frostOf 61 = .ok (.goto 4, 3) := by decide +kernel
theorem dX11_frostOf_64 : decode cX11_frostOf 64 = .ok (.lconst 1, 1) := by decide +kernel
theorem dX11_frostOf_65 : decode cX11_frostOf 65 = .ok (.lmul, 1) := by decide +kernel
theorem dX11_frostOf_66 : decode cX11_frostOf 66 = .ok (.lstore 4, 2) := by decide +kernel
theorem dX11_frostOf_68 : decode cX11_frostOf 68 = .ok (.iinc 6 1, 3) := by decide +kernel
theorem dX11_frostOf_71 : decode cX11_frostOf 71 = .ok (.goto (-55), 3) := by decide +kernel
theorem dX11_frostOf_74 : decode cX11_frostOf 74 = .ok (.lconst 0, 1) := by decide +kernel
theorem dX11_frostOf_75 : decode cX11_frostOf 75 = .ok (.lstore 6, 2) := by decide +kernel
theorem dX11_frostOf_77 : decode cX11_frostOf 77 = .ok (.iconst 0, 1) := by decide +kernel
theorem dX11_frostOf_78 : decode cX11_frostOf 78 = .ok (.istore 8, 2) := by decide +kernel
theorem dX11_frostOf_80 : decode cX11_frostOf 80 = .ok (.iload 8, 2) := by decide +kernel
theorem dX11_frostOf_82 : decode cX11_frostOf 82 = .ok (.iconst 1, 1) := by decide +kernel
theorem dX11_frostOf_83 : decode cX11_frostOf 83 = .ok (.aload_n 0, 1) := by decide +kernel
theorem dX11_frostOf_84 : decode cX11_frostOf 84 = .ok (.getfield 91, 3) := by decide +kernel
theorem dX11_frostOf_87 : decode cX11_frostOf 87 = .ok (.ishl, 1) := by decide +kernel
theorem dX11_frostOf_88 : decode cX11_frostOf 88 = .ok (.if_icmp .ge 163, 3) := by decide +kernel
theorem dX11_frostOf_91 : decode cX11_frostOf 91 = .ok (.iload 8, 2) := by decide +kernel
theorem dX11_frostOf_93 : decode cX11_frostOf 93 = .ok (.iload_n 3, 1) := by decide +kernel
theorem dX11_frostOf_94 : decode cX11_frostOf 94 = .ok (.iconst (-1), 1) := by decide +kernel
theorem dX11_frostOf_95 : decode cX11_frostOf 95 = .ok (.ixor, 1) := by decide +kernel
theorem dX11_frostOf_96 : decode cX11_frostOf 96 = .ok (.iand, 1) := by decide +kernel
theorem dX11_frostOf_97 : decode cX11_frostOf 97 = .ok (.ifCond .ne 148, 3) := by decide +kernel
theorem dX11_frostOf_100 : decode cX11_frostOf 100 = .ok (.lconst 1, 1) := by decide +kernel
theorem dX11_frostOf_101 : decode cX11_frostOf 101 = .ok (.lstore 9, 2) := by decide +kernel
theorem dX11_frostOf_103 : decode cX11_frostOf 103 = .ok (.iconst 0, 1) := by decide +kernel
theorem dX11_frostOf_104 : decode cX11_frostOf 104 = .ok (.istore 11, 2) := by decide +kernel
theorem dX11_frostOf_106 : decode cX11_frostOf 106 = .ok (.iload 11, 2) := by decide +kernel
theorem dX11_frostOf_108 : decode cX11_frostOf 108 = .ok (.aload_n 0, 1) := by decide +kernel
theorem dX11_frostOf_109 : decode cX11_frostOf 109 = .ok (.getfield 91, 3) := by decide +kernel
theorem dX11_frostOf_112 : decode cX11_frostOf 112 = .ok (.if_icmp .ge 72, 3) := by decide +kernel
theorem dX11_frostOf_115 : decode cX11_frostOf 115 = .ok (.lload 9, 2) := by decide +kernel
theorem dX11_frostOf_117 : decode cX11_frostOf 117 = .ok (.iload_n 3, 1) := by decide +kernel
theorem dX11_frostOf_118 : decode cX11_frostOf 118 = .ok (.iload 11, 2) := by decide +kernel
theorem dX11_frostOf_120 : decode cX11_frostOf 120 = .ok (.invokestatic 171, 3) := by decide +kernel
theorem dX11_frostOf_123 : decode cX11_frostOf 123 = .ok (.ifCond .ne 7, 3) := by decide +kernel
theorem dX11_frostOf_126 : decode cX11_frostOf 126 = .ok (.lconst 1, 1) := by decide +kernel
theorem dX11_frostOf_127 : decode cX11_frostOf 127 = .ok (.goto 23, 3) := by decide +kernel
theorem dX11_frostOf_130 : decode cX11_frostOf 130 = .ok (.iload 8, 2) := by decide +kernel
theorem dX11_frostOf_132 : decode cX11_frostOf 132 = .ok (.iload 11, 2) := by decide +kernel
theorem dX11_frostOf_134 : decode cX11_frostOf 134 = .ok (.invokestatic 171, 3) := by decide +kernel
theorem dX11_frostOf_137 : decode cX11_frostOf 137 = .ok (.ifCond .eq 8, 3) := by decide +kernel
theorem dX11_frostOf_140 : decode cX11_frostOf 140 = .ok (.iload_n 1, 1) := by decide +kernel
theorem dX11_frostOf_141 : decode cX11_frostOf 141 = .ok (.i2l, 1) := by decide +kernel
theorem dX11_frostOf_142 : decode cX11_frostOf 142 = .ok (.goto 8, 3) := by decide +kernel
theorem dX11_frostOf_145 : decode cX11_frostOf 145 = .ok (.bipush 16, 2) := by decide +kernel
theorem dX11_frostOf_147 : decode cX11_frostOf 147 = .ok (.iload_n 1, 1) := by decide +kernel
theorem dX11_frostOf_148 : decode cX11_frostOf 148 = .ok (.isub, 1) := by decide +kernel
theorem dX11_frostOf_149 : decode cX11_frostOf 149 = .ok (.i2l, 1) := by decide +kernel
theorem dX11_frostOf_150 : decode cX11_frostOf 150 = .ok (.lmul, 1) := by decide +kernel
theorem dX11_frostOf_151 : decode cX11_frostOf 151 = .ok (.lstore 9, 2) := by decide +kernel
theorem dX11_frostOf_153 : decode cX11_frostOf 153 = .ok (.aload_n 0, 1) := by decide +kernel
theorem dX11_frostOf_154 : decode cX11_frostOf 154 = .ok (.getfield 43, 3) := by decide +kernel
theorem dX11_frostOf_157 : decode cX11_frostOf 157 = .ok (.iload 11, 2) := by decide +kernel
theorem dX11_frostOf_159 : decode cX11_frostOf 159 = .ok (.dup2, 1) := by decide +kernel
theorem dX11_frostOf_160 : decode cX11_frostOf 160 = .ok (.iaload, 1) := by decide +kernel
theorem dX11_frostOf_161 : decode cX11_frostOf 161 = .ok (.iload 8, 2) := by decide +kernel
theorem dX11_frostOf_163 : decode cX11_frostOf 163 = .ok (.iload 11, 2) := by decide +kernel
theorem dX11_frostOf_165 : decode cX11_frostOf 165 = .ok (.invokestatic 171, 3) := by decide +kernel
theorem dX11_frostOf_168 : decode cX11_frostOf 168 = .ok (.ifCond .eq 7, 3) := by decide +kernel
theorem dX11_frostOf_171 : decode cX11_frostOf 171 = .ok (.iconst 1, 1) := by decide +kernel
theorem dX11_frostOf_172 : decode cX11_frostOf 172 = .ok (.goto 4, 3) := by decide +kernel
theorem dX11_frostOf_175 : decode cX11_frostOf 175 = .ok (.iconst 0, 1) := by decide +kernel
theorem dX11_frostOf_176 : decode cX11_frostOf 176 = .ok (.isub, 1) := by decide +kernel
theorem dX11_frostOf_177 : decode cX11_frostOf 177 = .ok (.iastore, 1) := by decide +kernel
theorem dX11_frostOf_178 : decode cX11_frostOf 178 = .ok (.iinc 11 1, 3) := by decide +kernel
theorem dX11_frostOf_181 : decode cX11_frostOf 181 = .ok (.goto (-75), 3) := by decide +kernel
theorem dX11_frostOf_184 : decode cX11_frostOf 184 = .ok (.lload 6, 2) := by decide +kernel
theorem dX11_frostOf_186 : decode cX11_frostOf 186 = .ok (.aload_n 0, 1) := by decide +kernel
theorem dX11_frostOf_187 : decode cX11_frostOf 187 = .ok (.invokevirtual 199, 3) := by decide +kernel
theorem dX11_frostOf_190 : decode cX11_frostOf 190 = .ok (.ifCond .ne 8, 3) := by decide +kernel
theorem dX11_frostOf_193 : decode cX11_frostOf 193 = .ok (.lload 9, 2) := by decide +kernel
theorem dX11_frostOf_195 : decode cX11_frostOf 195 = .ok (.goto 4, 3) := by decide +kernel
theorem dX11_frostOf_198 : decode cX11_frostOf 198 = .ok (.lconst 0, 1) := by decide +kernel
theorem dX11_frostOf_199 : decode cX11_frostOf 199 = .ok (.ladd, 1) := by decide +kernel
theorem dX11_frostOf_200 : decode cX11_frostOf 200 = .ok (.lstore 6, 2) := by decide +kernel
theorem dX11_frostOf_202 : decode cX11_frostOf 202 = .ok (.iconst 0, 1) := by decide +kernel
theorem dX11_frostOf_203 : decode cX11_frostOf 203 = .ok (.istore 11, 2) := by decide +kernel
theorem dX11_frostOf_205 : decode cX11_frostOf 205 = .ok (.iload 11, 2) := by decide +kernel
theorem dX11_frostOf_207 : decode cX11_frostOf 207 = .ok (.aload_n 0, 1) := by decide +kernel
theorem dX11_frostOf_208 : decode cX11_frostOf 208 = .ok (.getfield 91, 3) := by decide +kernel
theorem dX11_frostOf_211 : decode cX11_frostOf 211 = .ok (.if_icmp .ge 34, 3) := by decide +kernel
theorem dX11_frostOf_214 : decode cX11_frostOf 214 = .ok (.aload_n 0, 1) := by decide +kernel
theorem dX11_frostOf_215 : decode cX11_frostOf 215 = .ok (.getfield 43, 3) := by decide +kernel
theorem dX11_frostOf_218 : decode cX11_frostOf 218 = .ok (.iload 11, 2) := by decide +kernel
theorem dX11_frostOf_220 : decode cX11_frostOf 220 = .ok (.dup2, 1) := by decide +kernel
theorem dX11_frostOf_221 : decode cX11_frostOf 221 = .ok (.iaload, 1) := by decide +kernel
theorem dX11_frostOf_222 : decode cX11_frostOf 222 = .ok (.iload 8, 2) := by decide +kernel
theorem dX11_frostOf_224 : decode cX11_frostOf 224 = .ok (.iload 11, 2) := by decide +kernel
theorem dX11_frostOf_226 : decode cX11_frostOf 226 = .ok (.invokestatic 171, 3) := by decide +kernel
theorem dX11_frostOf_229 : decode cX11_frostOf 229 = .ok (.ifCond .eq 7, 3) := by decide +kernel
theorem dX11_frostOf_232 : decode cX11_frostOf 232 = .ok (.iconst 1, 1) := by decide +kernel
theorem dX11_frostOf_233 : decode cX11_frostOf 233 = .ok (.goto 4, 3) := by decide +kernel
theorem dX11_frostOf_236 : decode cX11_frostOf 236 = .ok (.iconst 0, 1) := by decide +kernel
theorem dX11_frostOf_237 : decode cX11_frostOf 237 = .ok (.iadd, 1) := by decide +kernel
theorem dX11_frostOf_238 : decode cX11_frostOf 238 = .ok (.iastore, 1) := by decide +kernel
theorem dX11_frostOf_239 : decode cX11_frostOf 239 = .ok (.iinc 11 1, 3) := by decide +kernel
theorem dX11_frostOf_242 : decode cX11_frostOf 242 = .ok (.goto (-37), 3) := by decide +kernel
theorem dX11_frostOf_245 : decode cX11_frostOf 245 = .ok (.iinc 8 1, 3) := by decide +kernel
theorem dX11_frostOf_248 : decode cX11_frostOf 248 = .ok (.goto (-168), 3) := by decide +kernel
theorem dX11_frostOf_251 : decode cX11_frostOf 251 = .ok (.lload 6, 2) := by decide +kernel
theorem dX11_frostOf_253 : decode cX11_frostOf 253 = .ok (.lload 4, 2) := by decide +kernel
theorem dX11_frostOf_255 : decode cX11_frostOf 255 = .ok (.iload_n 2, 1) := by decide +kernel
theorem dX11_frostOf_256 : decode cX11_frostOf 256 = .ok (.invokestatic 259, 3) := by decide +kernel
theorem dX11_frostOf_259 : decode cX11_frostOf 259 = .ok (.lreturn, 1) := by decide +kernel
theorem dX11_frost_0 : decode cX11_frost 0 = .ok (.aload_n 0, 1) := by decide +kernel
theorem dX11_frost_1 : decode cX11_frost 1 = .ok (.invokevirtual 177, 3) := by decide +kernel
theorem dX11_frost_4 : decode cX11_frost 4 = .ok (.iload_n 1, 1) := by decide +kernel
theorem dX11_frost_5 : decode cX11_frost 5 = .ok (.i2l, 1) := by decide +kernel
theorem dX11_frost_6 : decode cX11_frost 6 = .ok (.lconst 0, 1) := by decide +kernel
theorem dX11_frost_7 : decode cX11_frost 7 = .ok (.ldc2_w 245, 3) := by decide +kernel
theorem dX11_frost_10 : decode cX11_frost 10 = .ok (.invokestatic 58, 3) := by decide +kernel
theorem dX11_frost_13 : decode cX11_frost 13 = .ok (.ifCond .eq 19, 3) := by decide +kernel
theorem dX11_frost_16 : decode cX11_frost 16 = .ok (.iload_n 2, 1) := by decide +kernel
theorem dX11_frost_17 : decode cX11_frost 17 = .ok (.invokestatic 86, 3) := by decide +kernel
theorem dX11_frost_20 : decode cX11_frost 20 = .ok (.ifCond .eq 12, 3) := by decide +kernel
theorem dX11_frost_23 : decode cX11_frost 23 = .ok (.aload_n 0, 1) := by decide +kernel
theorem dX11_frost_24 : decode cX11_frost 24 = .ok (.iload_n 1, 1) := by decide +kernel
theorem dX11_frost_25 : decode cX11_frost 25 = .ok (.iload_n 2, 1) := by decide +kernel
theorem dX11_frost_26 : decode cX11_frost 26 = .ok (.invokevirtual 263, 3) := by decide +kernel
theorem dX11_frost_29 : decode cX11_frost 29 = .ok (.goto 8, 3) := by decide +kernel
theorem dX11_frost_32 : decode cX11_frost 32 = .ok (.bipush (-2), 2) := by decide +kernel
theorem dX11_frost_34 : decode cX11_frost 34 = .ok (.invokestatic 267, 3) := by decide +kernel
theorem dX11_frost_37 : decode cX11_frost 37 = .ok (.lreturn, 1) := by decide +kernel
theorem dX11_lot_0 : decode cX11_lot 0 = .ok (.aload_n 0, 1) := by decide +kernel
theorem dX11_lot_1 : decode cX11_lot 1 = .ok (.ldc_w 271, 3) := by decide +kernel
theorem dX11_lot_4 : decode cX11_lot 4 = .ok (.aload_n 0, 1) := by decide +kernel
theorem dX11_lot_5 : decode cX11_lot 5 = .ok (.getfield 272, 3) := by decide +kernel
theorem dX11_lot_8 : decode cX11_lot 8 = .ok (.imul, 1) := by decide +kernel
theorem dX11_lot_9 : decode cX11_lot 9 = .ok (.sipush 12345, 3) := by decide +kernel
theorem dX11_lot_12 : decode cX11_lot 12 = .ok (.iadd, 1) := by decide +kernel
theorem dX11_lot_13 : decode cX11_lot 13 = .ok (.putfield 272, 3) := by decide +kernel
theorem dX11_lot_16 : decode cX11_lot 16 = .ok (.aload_n 0, 1) := by decide +kernel
theorem dX11_lot_17 : decode cX11_lot 17 = .ok (.getfield 272, 3) := by decide +kernel
theorem dX11_lot_20 : decode cX11_lot 20 = .ok (.bipush 16, 2) := by decide +kernel
theorem dX11_lot_22 : decode cX11_lot 22 = .ok (.iushr, 1) := by decide +kernel
theorem dX11_lot_23 : decode cX11_lot 23 = .ok (.iload_n 1, 1) := by decide +kernel
theorem dX11_lot_24 : decode cX11_lot 24 = .ok (.irem, 1) := by decide +kernel
theorem dX11_lot_25 : decode cX11_lot 25 = .ok (.ireturn, 1) := by decide +kernel
theorem dX11_yearsOf_0 : decode cX11_yearsOf 0 = .ok (.aload_n 0, 1) := by decide +kernel
theorem dX11_yearsOf_1 : decode cX11_yearsOf 1 = .ok (.iload_n 1, 1) := by decide +kernel
theorem dX11_yearsOf_2 : decode cX11_yearsOf 2 = .ok (.putfield 272, 3) := by decide +kernel
theorem dX11_yearsOf_5 : decode cX11_yearsOf 5 = .ok (.aload_n 0, 1) := by decide +kernel
theorem dX11_yearsOf_6 : decode cX11_yearsOf 6 = .ok (.aload_n 0, 1) := by decide +kernel
theorem dX11_yearsOf_7 : decode cX11_yearsOf 7 = .ok (.getfield 108, 3) := by decide +kernel
theorem dX11_yearsOf_10 : decode cX11_yearsOf 10 = .ok (.invokevirtual 174, 3) := by decide +kernel
theorem dX11_yearsOf_13 : decode cX11_yearsOf 13 = .ok (.iconst 0, 1) := by decide +kernel
theorem dX11_yearsOf_14 : decode cX11_yearsOf 14 = .ok (.istore 4, 2) := by decide +kernel
theorem dX11_yearsOf_16 : decode cX11_yearsOf 16 = .ok (.iconst 0, 1) := by decide +kernel
theorem dX11_yearsOf_17 : decode cX11_yearsOf 17 = .ok (.istore 5, 2) := by decide +kernel
theorem dX11_yearsOf_19 : decode cX11_yearsOf 19 = .ok (.iload 5, 2) := by decide +kernel
theorem dX11_yearsOf_21 : decode cX11_yearsOf 21 = .ok (.iload_n 2, 1) := by decide +kernel
theorem dX11_yearsOf_22 : decode cX11_yearsOf 22 = .ok (.if_icmp .ge 85, 3) := by decide +kernel
theorem dX11_yearsOf_25 : decode cX11_yearsOf 25 = .ok (.aload_n 0, 1) := by decide +kernel
theorem dX11_yearsOf_26 : decode cX11_yearsOf 26 = .ok (.getfield 37, 3) := by decide +kernel
theorem dX11_yearsOf_29 : decode cX11_yearsOf 29 = .ok (.iconst 0, 1) := by decide +kernel
theorem dX11_yearsOf_30 : decode cX11_yearsOf 30 = .ok (.iaload, 1) := by decide +kernel
theorem dX11_yearsOf_31 : decode cX11_yearsOf 31 = .ok (.aload_n 0, 1) := by decide +kernel
theorem dX11_yearsOf_32 : decode cX11_yearsOf 32 = .ok (.getfield 108, 3) := by decide +kernel
theorem dX11_yearsOf_35 : decode cX11_yearsOf 35 = .ok (.iadd, 1) := by decide +kernel
theorem dX11_yearsOf_36 : decode cX11_yearsOf 36 = .ok (.iload 5, 2) := by decide +kernel
theorem dX11_yearsOf_38 : decode cX11_yearsOf 38 = .ok (.iadd, 1) := by decide +kernel
theorem dX11_yearsOf_39 : decode cX11_yearsOf 39 = .ok (.iconst 2, 1) := by decide +kernel
theorem dX11_yearsOf_40 : decode cX11_yearsOf 40 = .ok (.irem, 1) := by decide +kernel
theorem dX11_yearsOf_41 : decode cX11_yearsOf 41 = .ok (.istore 6, 2) := by decide +kernel
theorem dX11_yearsOf_43 : decode cX11_yearsOf 43 = .ok (.aload_n 0, 1) := by decide +kernel
theorem dX11_yearsOf_44 : decode cX11_yearsOf 44 = .ok (.aload_n 0, 1) := by decide +kernel
theorem dX11_yearsOf_45 : decode cX11_yearsOf 45 = .ok (.getfield 91, 3) := by decide +kernel
theorem dX11_yearsOf_48 : decode cX11_yearsOf 48 = .ok (.invokevirtual 275, 3) := by decide +kernel
theorem dX11_yearsOf_51 : decode cX11_yearsOf 51 = .ok (.istore 7, 2) := by decide +kernel
theorem dX11_yearsOf_53 : decode cX11_yearsOf 53 = .ok (.aload_n 0, 1) := by decide +kernel
theorem dX11_yearsOf_54 : decode cX11_yearsOf 54 = .ok (.iconst 4, 1) := by decide +kernel
theorem dX11_yearsOf_55 : decode cX11_yearsOf 55 = .ok (.invokevirtual 275, 3) := by decide +kernel
theorem dX11_yearsOf_58 : decode cX11_yearsOf 58 = .ok (.ifCond .ne 15, 3) := by decide +kernel
theorem dX11_yearsOf_61 : decode cX11_yearsOf 61 = .ok (.aload_n 0, 1) := by decide +kernel
theorem dX11_yearsOf_62 : decode cX11_yearsOf 62 = .ok (.iload 6, 2) := by decide +kernel
theorem dX11_yearsOf_64 : decode cX11_yearsOf 64 = .ok (.iload 7, 2) := by decide +kernel
theorem dX11_yearsOf_66 : decode cX11_yearsOf 66 = .ok (.invokevirtual 135, 3) := by decide +kernel
theorem dX11_yearsOf_69 : decode cX11_yearsOf 69 = .ok (.pop, 1) := by decide +kernel
theorem dX11_yearsOf_70 : decode cX11_yearsOf 70 = .ok (.goto 14, 3) := by decide +kernel
theorem dX11_yearsOf_73 : decode cX11_yearsOf 73 = .ok (.aload_n 0, 1) := by decide +kernel
theorem dX11_yearsOf_74 : decode cX11_yearsOf 74 = .ok (.iload 6, 2) := by decide +kernel
theorem dX11_yearsOf_76 : decode cX11_yearsOf 76 = .ok (.iload 6, 2) := by decide +kernel
theorem dX11_yearsOf_78 : decode cX11_yearsOf 78 = .ok (.iload 7, 2) := by decide +kernel
theorem dX11_yearsOf_80 : decode cX11_yearsOf 80 = .ok (.invokevirtual 145, 3) := by decide +kernel
theorem dX11_yearsOf_83 : decode cX11_yearsOf 83 = .ok (.pop, 1) := by decide +kernel
theorem dX11_yearsOf_84 : decode cX11_yearsOf 84 = .ok (.iload 4, 2) := by decide +kernel
theorem dX11_yearsOf_86 : decode cX11_yearsOf 86 = .ok (.aload_n 0, 1) := by decide +kernel
theorem dX11_yearsOf_87 : decode cX11_yearsOf 87 = .ok (.invokevirtual 199, 3) := by decide +kernel
theorem dX11_yearsOf_90 : decode cX11_yearsOf 90 = .ok (.ifCond .ne 7, 3) := by decide +kernel
theorem dX11_yearsOf_93 : decode cX11_yearsOf 93 = .ok (.iconst 0, 1) := by decide +kernel
theorem dX11_yearsOf_94 : decode cX11_yearsOf 94 = .ok (.goto 4, 3) := by decide +kernel
theorem dX11_yearsOf_97 : decode cX11_yearsOf 97 = .ok (.iconst 1, 1) := by decide +kernel
theorem dX11_yearsOf_98 : decode cX11_yearsOf 98 = .ok (.iadd, 1) := by decide +kernel
theorem dX11_yearsOf_99 : decode cX11_yearsOf 99 = .ok (.istore 4, 2) := by decide +kernel
theorem dX11_yearsOf_101 : decode cX11_yearsOf 101 = .ok (.iinc 5 1, 3) := by decide +kernel
theorem dX11_yearsOf_104 : decode cX11_yearsOf 104 = .ok (.goto (-85), 3) := by decide +kernel
theorem dX11_yearsOf_107 : decode cX11_yearsOf 107 = .ok (.iload_n 3, 1) := by decide +kernel
theorem dX11_yearsOf_108 : decode cX11_yearsOf 108 = .ok (.iconst (-1), 1) := by decide +kernel
theorem dX11_yearsOf_109 : decode cX11_yearsOf 109 = .ok (.if_icmp .ne 8, 3) := by decide +kernel
theorem dX11_yearsOf_112 : decode cX11_yearsOf 112 = .ok (.iload 4, 2) := by decide +kernel
theorem dX11_yearsOf_114 : decode cX11_yearsOf 114 = .ok (.goto 8, 3) := by decide +kernel
theorem dX11_yearsOf_117 : decode cX11_yearsOf 117 = .ok (.aload_n 0, 1) := by decide +kernel
theorem dX11_yearsOf_118 : decode cX11_yearsOf 118 = .ok (.iload_n 3, 1) := by decide +kernel
theorem dX11_yearsOf_119 : decode cX11_yearsOf 119 = .ok (.invokevirtual 159, 3) := by decide +kernel
theorem dX11_yearsOf_122 : decode cX11_yearsOf 122 = .ok (.ireturn, 1) := by decide +kernel
theorem dX11_years_0 : decode cX11_years 0 = .ok (.aload_n 0, 1) := by decide +kernel
theorem dX11_years_1 : decode cX11_years 1 = .ok (.invokevirtual 177, 3) := by decide +kernel
theorem dX11_years_4 : decode cX11_years 4 = .ok (.iload_n 2, 1) := by decide +kernel
theorem dX11_years_5 : decode cX11_years 5 = .ok (.i2l, 1) := by decide +kernel
theorem dX11_years_6 : decode cX11_years 6 = .ok (.lconst 1, 1) := by decide +kernel
theorem dX11_years_7 : decode cX11_years 7 = .ok (.ldc2_w 278, 3) := by decide +kernel
theorem dX11_years_10 : decode cX11_years 10 = .ok (.invokestatic 58, 3) := by decide +kernel
theorem dX11_years_13 : decode cX11_years 13 = .ok (.ifCond .eq 38, 3) := by decide +kernel
theorem dX11_years_16 : decode cX11_years 16 = .ok (.aload_n 0, 1) := by decide +kernel
theorem dX11_years_17 : decode cX11_years 17 = .ok (.getfield 91, 3) := by decide +kernel
theorem dX11_years_20 : decode cX11_years 20 = .ok (.ifCond .le 31, 3) := by decide +kernel
theorem dX11_years_23 : decode cX11_years 23 = .ok (.iload_n 3, 1) := by decide +kernel
theorem dX11_years_24 : decode cX11_years 24 = .ok (.i2l, 1) := by decide +kernel
theorem dX11_years_25 : decode cX11_years 25 = .ok (.ldc2_w 192, 3) := by decide +kernel
theorem dX11_years_28 : decode cX11_years 28 = .ok (.aload_n 0, 1) := by decide +kernel
theorem dX11_years_29 : decode cX11_years 29 = .ok (.getfield 91, 3) := by decide +kernel
theorem dX11_years_32 : decode cX11_years 32 = .ok (.iconst 1, 1) := by decide +kernel
theorem dX11_years_33 : decode cX11_years 33 = .ok (.isub, 1) := by decide +kernel
theorem dX11_years_34 : decode cX11_years 34 = .ok (.i2l, 1) := by decide +kernel
theorem dX11_years_35 : decode cX11_years 35 = .ok (.invokestatic 58, 3) := by decide +kernel
theorem dX11_years_38 : decode cX11_years 38 = .ok (.ifCond .eq 13, 3) := by decide +kernel
theorem dX11_years_41 : decode cX11_years 41 = .ok (.aload_n 0, 1) := by decide +kernel
theorem dX11_years_42 : decode cX11_years 42 = .ok (.iload_n 1, 1) := by decide +kernel
theorem dX11_years_43 : decode cX11_years 43 = .ok (.iload_n 2, 1) := by decide +kernel
theorem dX11_years_44 : decode cX11_years 44 = .ok (.iload_n 3, 1) := by decide +kernel
theorem dX11_years_45 : decode cX11_years 45 = .ok (.invokevirtual 280, 3) := by decide +kernel
theorem dX11_years_48 : decode cX11_years 48 = .ok (.goto 5, 3) := by decide +kernel
theorem dX11_years_51 : decode cX11_years 51 = .ok (.bipush (-2), 2) := by decide +kernel
theorem dX11_years_53 : decode cX11_years 53 = .ok (.ireturn, 1) := by decide +kernel
theorem dX11_write_0 : decode cX11_write 0 = .ok (.aload_n 0, 1) := by decide +kernel
theorem dX11_write_1 : decode cX11_write 1 = .ok (.invokevirtual 177, 3) := by decide +kernel
theorem dX11_write_4 : decode cX11_write 4 = .ok (.aload_n 0, 1) := by decide +kernel
theorem dX11_write_5 : decode cX11_write 5 = .ok (.iload_n 1, 1) := by decide +kernel
theorem dX11_write_6 : decode cX11_write 6 = .ok (.invokevirtual 180, 3) := by decide +kernel
theorem dX11_write_9 : decode cX11_write 9 = .ok (.ifCond .eq 10, 3) := by decide +kernel
theorem dX11_write_12 : decode cX11_write 12 = .ok (.iload_n 2, 1) := by decide +kernel
theorem dX11_write_13 : decode cX11_write 13 = .ok (.invokestatic 67, 3) := by decide +kernel
theorem dX11_write_16 : decode cX11_write 16 = .ok (.ifCond .ne 6, 3) := by decide +kernel
theorem dX11_write_19 : decode cX11_write 19 = .ok (.bipush (-2), 2) := by decide +kernel
theorem dX11_write_21 : decode cX11_write 21 = .ok (.ireturn, 1) := by decide +kernel
theorem dX11_write_22 : decode cX11_write 22 = .ok (.aload_n 0, 1) := by decide +kernel
theorem dX11_write_23 : decode cX11_write 23 = .ok (.getfield 7, 3) := by decide +kernel
theorem dX11_write_26 : decode cX11_write 26 = .ok (.iload_n 2, 1) := by decide +kernel
theorem dX11_write_27 : decode cX11_write 27 = .ok (.iaload, 1) := by decide +kernel
theorem dX11_write_28 : decode cX11_write 28 = .ok (.ifCond .ge 9, 3) := by decide +kernel
theorem dX11_write_31 : decode cX11_write 31 = .ok (.aload_n 0, 1) := by decide +kernel
theorem dX11_write_32 : decode cX11_write 32 = .ok (.iconst 1, 1) := by decide +kernel
theorem dX11_write_33 : decode cX11_write 33 = .ok (.invokevirtual 73, 3) := by decide +kernel
theorem dX11_write_36 : decode cX11_write 36 = .ok (.ireturn, 1) := by decide +kernel
theorem dX11_write_37 : decode cX11_write 37 = .ok (.aload_n 0, 1) := by decide +kernel
theorem dX11_write_38 : decode cX11_write 38 = .ok (.iload_n 1, 1) := by decide +kernel
theorem dX11_write_39 : decode cX11_write 39 = .ok (.invokevirtual 174, 3) := by decide +kernel
theorem dX11_write_42 : decode cX11_write 42 = .ok (.aload_n 0, 1) := by decide +kernel
theorem dX11_write_43 : decode cX11_write 43 = .ok (.getfield 13, 3) := by decide +kernel
theorem dX11_write_46 : decode cX11_write 46 = .ok (.iload_n 2, 1) := by decide +kernel
theorem dX11_write_47 : decode cX11_write 47 = .ok (.iaload, 1) := by decide +kernel
theorem dX11_write_48 : decode cX11_write 48 = .ok (.aload_n 0, 1) := by decide +kernel
theorem dX11_write_49 : decode cX11_write 49 = .ok (.getfield 91, 3) := by decide +kernel
theorem dX11_write_52 : decode cX11_write 52 = .ok (.invokestatic 283, 3) := by decide +kernel
theorem dX11_write_55 : decode cX11_write 55 = .ok (.istore_n 3, 1) := by decide +kernel
theorem dX11_write_56 : decode cX11_write 56 = .ok (.iconst 0, 1) := by decide +kernel
theorem dX11_write_57 : decode cX11_write 57 = .ok (.istore 4, 2) := by decide +kernel
theorem dX11_write_59 : decode cX11_write 59 = .ok (.iload 4, 2) := by decide +kernel
theorem dX11_write_61 : decode cX11_write 61 = .ok (.iload_n 3, 1) := by decide +kernel
theorem dX11_write_62 : decode cX11_write 62 = .ok (.if_icmp .ge 36, 3) := by decide +kernel
theorem dX11_write_65 : decode cX11_write 65 = .ok (.aload_n 0, 1) := by decide +kernel
theorem dX11_write_66 : decode cX11_write 66 = .ok (.getfield 16, 3) := by decide +kernel
theorem dX11_write_69 : decode cX11_write 69 = .ok (.bipush 60, 2) := by decide +kernel
theorem dX11_write_71 : decode cX11_write 71 = .ok (.iload_n 2, 1) := by decide +kernel
theorem dX11_write_72 : decode cX11_write 72 = .ok (.imul, 1) := by decide +kernel
theorem dX11_write_73 : decode cX11_write 73 = .ok (.iload 4, 2) := by decide +kernel
theorem dX11_write_75 : decode cX11_write 75 = .ok (.iadd, 1) := by decide +kernel
theorem dX11_write_76 : decode cX11_write 76 = .ok (.aload_n 0, 1) := by decide +kernel
theorem dX11_write_77 : decode cX11_write 77 = .ok (.getfield 7, 3) := by decide +kernel
theorem dX11_write_80 : decode cX11_write 80 = .ok (.iload_n 2, 1) := by decide +kernel
theorem dX11_write_81 : decode cX11_write 81 = .ok (.iaload, 1) := by decide +kernel
theorem dX11_write_82 : decode cX11_write 82 = .ok (.aload_n 0, 1) := by decide +kernel
theorem dX11_write_83 : decode cX11_write 83 = .ok (.iload 4, 2) := by decide +kernel
theorem dX11_write_85 : decode cX11_write 85 = .ok (.invokevirtual 159, 3) := by decide +kernel
theorem dX11_write_88 : decode cX11_write 88 = .ok (.invokestatic 81, 3) := by decide +kernel
theorem dX11_write_91 : decode cX11_write 91 = .ok (.iastore, 1) := by decide +kernel
theorem dX11_write_92 : decode cX11_write 92 = .ok (.iinc 4 1, 3) := by decide +kernel
theorem dX11_write_95 : decode cX11_write 95 = .ok (.goto (-36), 3) := by decide +kernel
theorem dX11_write_98 : decode cX11_write 98 = .ok (.iload_n 3, 1) := by decide +kernel
theorem dX11_write_99 : decode cX11_write 99 = .ok (.ireturn, 1) := by decide +kernel
theorem dX11_working_0 : decode cX11_working 0 = .ok (.iconst 0, 1) := by decide +kernel
theorem dX11_working_1 : decode cX11_working 1 = .ok (.istore_n 1, 1) := by decide +kernel
theorem dX11_working_2 : decode cX11_working 2 = .ok (.aload_n 0, 1) := by decide +kernel
theorem dX11_working_3 : decode cX11_working 3 = .ok (.invokevirtual 149, 3) := by decide +kernel
theorem dX11_working_6 : decode cX11_working 6 = .ok (.iconst 0, 1) := by decide +kernel
theorem dX11_working_7 : decode cX11_working 7 = .ok (.istore_n 2, 1) := by decide +kernel
theorem dX11_working_8 : decode cX11_working 8 = .ok (.iload_n 2, 1) := by decide +kernel
theorem dX11_working_9 : decode cX11_working 9 = .ok (.aload_n 0, 1) := by decide +kernel
theorem dX11_working_10 : decode cX11_working 10 = .ok (.getfield 108, 3) := by decide +kernel
theorem dX11_working_13 : decode cX11_working 13 = .ok (.if_icmp .ge 34, 3) := by decide +kernel
theorem dX11_working_16 : decode cX11_working 16 = .ok (.aload_n 0, 1) := by decide +kernel
theorem dX11_working_17 : decode cX11_working 17 = .ok (.iload_n 2, 1) := by decide +kernel
theorem dX11_working_18 : decode cX11_working 18 = .ok (.invokevirtual 152, 3) := by decide +kernel
theorem dX11_working_21 : decode cX11_working 21 = .ok (.iload_n 1, 1) := by decide +kernel
theorem dX11_working_22 : decode cX11_working 22 = .ok (.aload_n 0, 1) := by decide +kernel
theorem dX11_working_23 : decode cX11_working 23 = .ok (.getfield 139, 3) := by decide +kernel
theorem dX11_working_26 : decode cX11_working 26 = .ok (.aload_n 0, 1) := by decide +kernel
theorem dX11_working_27 : decode cX11_working 27 = .ok (.getfield 142, 3) := by decide +kernel
theorem dX11_working_30 : decode cX11_working 30 = .ok (.iadd, 1) := by decide +kernel
theorem dX11_working_31 : decode cX11_working 31 = .ok (.ifCond .le 7, 3) := by decide +kernel
theorem dX11_working_34 : decode cX11_working 34 = .ok (.iconst 1, 1) := by decide +kernel
theorem dX11_working_35 : decode cX11_working 35 = .ok (.goto 4, 3) := by decide +kernel
theorem dX11_working_38 : decode cX11_working 38 = .ok (.iconst 0, 1) := by decide +kernel
theorem dX11_working_39 : decode cX11_working 39 = .ok (.iadd, 1) := by decide +kernel
theorem dX11_working_40 : decode cX11_working 40 = .ok (.istore_n 1, 1) := by decide +kernel
theorem dX11_working_41 : decode cX11_working 41 = .ok (.iinc 2 1, 3) := by decide +kernel
theorem dX11_working_44 : decode cX11_working 44 = .ok (.goto (-36), 3) := by decide +kernel
theorem dX11_working_47 : decode cX11_working 47 = .ok (.iload_n 1, 1) := by decide +kernel
theorem dX11_working_48 : decode cX11_working 48 = .ok (.ireturn, 1) := by decide +kernel
theorem dX11_count_0 : decode cX11_count 0 = .ok (.iconst 0, 1) := by decide +kernel
theorem dX11_count_1 : decode cX11_count 1 = .ok (.istore_n 2, 1) := by decide +kernel
theorem dX11_count_2 : decode cX11_count 2 = .ok (.aload_n 0, 1) := by decide +kernel
theorem dX11_count_3 : decode cX11_count 3 = .ok (.invokevirtual 177, 3) := by decide +kernel
theorem dX11_count_6 : decode cX11_count 6 = .ok (.iload_n 1, 1) := by decide +kernel
theorem dX11_count_7 : decode cX11_count 7 = .ok (.tableswitch 125 0 8 #[49, 54, 59, 59, 68, 73, 108, 113, 120], 49) := by decide +kernel
theorem dX11_count_56 : decode cX11_count 56 = .ok (.aload_n 0, 1) := by decide +kernel
theorem dX11_count_57 : decode cX11_count 57 = .ok (.getfield 91, 3) := by decide +kernel
theorem dX11_count_60 : decode cX11_count 60 = .ok (.ireturn, 1) := by decide +kernel
theorem dX11_count_61 : decode cX11_count 61 = .ok (.aload_n 0, 1) := by decide +kernel
theorem dX11_count_62 : decode cX11_count 62 = .ok (.getfield 108, 3) := by decide +kernel
theorem dX11_count_65 : decode cX11_count 65 = .ok (.ireturn, 1) := by decide +kernel
theorem dX11_count_66 : decode cX11_count 66 = .ok (.aload_n 0, 1) := by decide +kernel
theorem dX11_count_67 : decode cX11_count 67 = .ok (.getfield 25, 3) := by decide +kernel
theorem dX11_count_70 : decode cX11_count 70 = .ok (.iload_n 1, 1) := by decide +kernel
theorem dX11_count_71 : decode cX11_count 71 = .ok (.iconst 2, 1) := by decide +kernel
theorem dX11_count_72 : decode cX11_count 72 = .ok (.isub, 1) := by decide +kernel
theorem dX11_count_73 : decode cX11_count 73 = .ok (.iaload, 1) := by decide +kernel
theorem dX11_count_74 : decode cX11_count 74 = .ok (.ireturn, 1) := by decide +kernel
theorem dX11_count_75 : decode cX11_count 75 = .ok (.aload_n 0, 1) := by decide +kernel
theorem dX11_count_76 : decode cX11_count 76 = .ok (.getfield 247, 3) := by decide +kernel
theorem dX11_count_79 : decode cX11_count 79 = .ok (.ireturn, 1) := by decide +kernel
theorem dX11_count_80 : decode cX11_count 80 = .ok (.aload_n 0, 1) := by decide +kernel
theorem dX11_count_81 : decode cX11_count 81 = .ok (.aload_n 0, 1) := by decide +kernel
theorem dX11_count_82 : decode cX11_count 82 = .ok (.getfield 108, 3) := by decide +kernel
theorem dX11_count_85 : decode cX11_count 85 = .ok (.invokevirtual 174, 3) := by decide +kernel
theorem dX11_count_88 : decode cX11_count 88 = .ok (.iconst 0, 1) := by decide +kernel
theorem dX11_count_89 : decode cX11_count 89 = .ok (.istore_n 3, 1) := by decide +kernel
theorem dX11_count_90 : decode cX11_count 90 = .ok (.iload_n 3, 1) := by decide +kernel
theorem dX11_count_91 : decode cX11_count 91 = .ok (.aload_n 0, 1) := by decide +kernel
theorem dX11_count_92 : decode cX11_count 92 = .ok (.getfield 91, 3) := by decide +kernel
theorem dX11_count_95 : decode cX11_count 95 = .ok (.if_icmp .ge 18, 3) := by decide +kernel
theorem dX11_count_98 : decode cX11_count 98 = .ok (.iload_n 2, 1) := by decide +kernel
theorem dX11_count_99 : decode cX11_count 99 = .ok (.aload_n 0, 1) := by decide +kernel
theorem dX11_count_100 : decode cX11_count 100 = .ok (.getfield 43, 3) := by decide +kernel
theorem dX11_count_103 : decode cX11_count 103 = .ok (.iload_n 3, 1) := by decide +kernel
theorem dX11_count_104 : decode cX11_count 104 = .ok (.iaload, 1) := by decide +kernel
theorem dX11_count_105 : decode cX11_count 105 = .ok (.iadd, 1) := by decide +kernel
theorem dX11_count_106 : decode cX11_count 106 = .ok (.istore_n 2, 1) := by decide +kernel
theorem dX11_count_107 : decode cX11_count 107 = .ok (.iinc 3 1, 3) := by decide +kernel
theorem dX11_count_110 : decode cX11_count 110 = .ok (.goto (-20), 3) := by decide +kernel
theorem dX11_count_113 : decode cX11_count 113 = .ok (.iload_n 2, 1) := by decide +kernel
theorem dX11_count_114 : decode cX11_count 114 = .ok (.ireturn, 1) := by decide +kernel
theorem dX11_count_115 : decode cX11_count 115 = .ok (.aload_n 0, 1) := by decide +kernel
theorem dX11_count_116 : decode cX11_count 116 = .ok (.invokevirtual 286, 3) := by decide +kernel
theorem dX11_count_119 : decode cX11_count 119 = .ok (.ireturn, 1) := by decide +kernel
theorem dX11_count_120 : decode cX11_count 120 = .ok (.aload_n 0, 1) := by decide +kernel
theorem dX11_count_121 : decode cX11_count 121 = .ok (.getfield 37, 3) := by decide +kernel
theorem dX11_count_124 : decode cX11_count 124 = .ok (.iconst 2, 1) := by decide +kernel
theorem dX11_count_125 : decode cX11_count 125 = .ok (.iaload, 1) := by decide +kernel
theorem dX11_count_126 : decode cX11_count 126 = .ok (.ireturn, 1) := by decide +kernel
theorem dX11_count_127 : decode cX11_count 127 = .ok (.aload_n 0, 1) := by decide +kernel
theorem dX11_count_128 : decode cX11_count 128 = .ok (.getfield 62, 3) := by decide +kernel
theorem dX11_count_131 : decode cX11_count 131 = .ok (.ireturn, 1) := by decide +kernel
theorem dX11_count_132 : decode cX11_count 132 = .ok (.bipush (-2), 2) := by decide +kernel
theorem dX11_count_134 : decode cX11_count 134 = .ok (.ireturn, 1) := by decide +kernel
theorem dX11_tellsColumn_0 : decode cX11_tellsColumn 0 = .ok (.ldc2_w 289, 3) := by decide +kernel
theorem dX11_tellsColumn_3 : decode cX11_tellsColumn 3 = .ok (.lload_n 1, 1) := by decide +kernel
theorem dX11_tellsColumn_4 : decode cX11_tellsColumn 4 = .ok (.lmul, 1) := by decide +kernel
theorem dX11_tellsColumn_5 : decode cX11_tellsColumn 5 = .ok (.aload_n 0, 1) := by decide +kernel
theorem dX11_tellsColumn_6 : decode cX11_tellsColumn 6 = .ok (.iload_n 3, 1) := by decide +kernel
theorem dX11_tellsColumn_7 : decode cX11_tellsColumn 7 = .ok (.iload 4, 2) := by decide +kernel
theorem dX11_tellsColumn_9 : decode cX11_tellsColumn 9 = .ok (.invokevirtual 186, 3) := by decide +kernel
theorem dX11_tellsColumn_12 : decode cX11_tellsColumn 12 = .ok (.i2l, 1) := by decide +kernel
theorem dX11_tellsColumn_13 : decode cX11_tellsColumn 13 = .ok (.ladd, 1) := by decide +kernel
theorem dX11_tellsColumn_14 : decode cX11_tellsColumn 14 = .ok (.lstore 5, 2) := by decide +kernel
theorem dX11_tellsColumn_16 : decode cX11_tellsColumn 16 = .ok (.ldc2_w 289, 3) := by decide +kernel
theorem dX11_tellsColumn_19 : decode cX11_tellsColumn 19 = .ok (.lload 5, 2) := by decide +kernel
theorem dX11_tellsColumn_21 : decode cX11_tellsColumn 21 = .ok (.lmul, 1) := by decide +kernel
theorem dX11_tellsColumn_22 : decode cX11_tellsColumn 22 = .ok (.aload_n 0, 1) := by decide +kernel
theorem dX11_tellsColumn_23 : decode cX11_tellsColumn 23 = .ok (.iload 4, 2) := by decide +kernel
theorem dX11_tellsColumn_25 : decode cX11_tellsColumn 25 = .ok (.invokevirtual 165, 3) := by decide +kernel
theorem dX11_tellsColumn_28 : decode cX11_tellsColumn 28 = .ok (.i2l, 1) := by decide +kernel
theorem dX11_tellsColumn_29 : decode cX11_tellsColumn 29 = .ok (.ladd, 1) := by decide +kernel
theorem dX11_tellsColumn_30 : decode cX11_tellsColumn 30 = .ok (.lstore 5, 2) := by decide +kernel
theorem dX11_tellsColumn_32 : decode cX11_tellsColumn 32 = .ok (.ldc2_w 289, 3) := by decide +kernel
theorem dX11_tellsColumn_35 : decode cX11_tellsColumn 35 = .ok (.lload 5, 2) := by decide +kernel
theorem dX11_tellsColumn_37 : decode cX11_tellsColumn 37 = .ok (.lmul, 1) := by decide +kernel
theorem dX11_tellsColumn_38 : decode cX11_tellsColumn 38 = .ok (.aload_n 0, 1) := by decide +kernel
theorem dX11_tellsColumn_39 : decode cX11_tellsColumn 39 = .ok (.iload_n 3, 1) := by decide +kernel
theorem dX11_tellsColumn_40 : decode cX11_tellsColumn 40 = .ok (.iload 4, 2) := by decide +kernel
theorem dX11_tellsColumn_42 : decode cX11_tellsColumn 42 = .ok (.iconst (-1), 1) := by decide +kernel
theorem dX11_tellsColumn_43 : decode cX11_tellsColumn 43 = .ok (.invokevirtual 196, 3) := by decide +kernel
theorem dX11_tellsColumn_46 : decode cX11_tellsColumn 46 = .ok (.i2l, 1) := by decide +kernel
theorem dX11_tellsColumn_47 : decode cX11_tellsColumn 47 = .ok (.ladd, 1) := by decide +kernel
theorem dX11_tellsColumn_48 : decode cX11_tellsColumn 48 = .ok (.lstore 5, 2) := by decide +kernel
theorem dX11_tellsColumn_50 : decode cX11_tellsColumn 50 = .ok (.ldc2_w 289, 3) := by decide +kernel
theorem dX11_tellsColumn_53 : decode cX11_tellsColumn 53 = .ok (.lload 5, 2) := by decide +kernel
theorem dX11_tellsColumn_55 : decode cX11_tellsColumn 55 = .ok (.lmul, 1) := by decide +kernel
theorem dX11_tellsColumn_56 : decode cX11_tellsColumn 56 = .ok (.aload_n 0, 1) := by decide +kernel
theorem dX11_tellsColumn_57 : decode cX11_tellsColumn 57 = .ok (.iload_n 3, 1) := by decide +kernel
theorem dX11_tellsColumn_58 : decode cX11_tellsColumn 58 = .ok (.iload 4, 2) := by decide +kernel
theorem dX11_tellsColumn_60 : decode cX11_tellsColumn 60 = .ok (.iconst 0, 1) := by decide +kernel
theorem dX11_tellsColumn_61 : decode cX11_tellsColumn 61 = .ok (.invokevirtual 196, 3) := by decide +kernel
theorem dX11_tellsColumn_64 : decode cX11_tellsColumn 64 = .ok (.i2l, 1) := by decide +kernel
theorem dX11_tellsColumn_65 : decode cX11_tellsColumn 65 = .ok (.ladd, 1) := by decide +kernel
theorem dX11_tellsColumn_66 : decode cX11_tellsColumn 66 = .ok (.lreturn, 1) := by decide +kernel
theorem dX11_digest_0 : decode cX11_digest 0 = .ok (.ldc2_w 291, 3) := by decide +kernel
theorem dX11_digest_3 : decode cX11_digest 3 = .ok (.lstore_n 1, 1) := by decide +kernel
theorem dX11_digest_4 : decode cX11_digest 4 = .ok (.iconst 0, 1) := by decide +kernel
theorem dX11_digest_5 : decode cX11_digest 5 = .ok (.istore_n 3, 1) := by decide +kernel
theorem dX11_digest_6 : decode cX11_digest 6 = .ok (.iload_n 3, 1) := by decide +kernel
theorem dX11_digest_7 : decode cX11_digest 7 = .ok (.bipush 8, 2) := by decide +kernel
theorem dX11_digest_9 : decode cX11_digest 9 = .ok (.if_icmp .ge 22, 3) := by decide +kernel
theorem dX11_digest_12 : decode cX11_digest 12 = .ok (.ldc2_w 289, 3) := by decide +kernel
theorem dX11_digest_15 : decode cX11_digest 15 = .ok (.lload_n 1, 1) := by decide +kernel
theorem dX11_digest_16 : decode cX11_digest 16 = .ok (.lmul, 1) := by decide +kernel
theorem dX11_digest_17 : decode cX11_digest 17 = .ok (.aload_n 0, 1) := by decide +kernel
theorem dX11_digest_18 : decode cX11_digest 18 = .ok (.iload_n 3, 1) := by decide +kernel
theorem dX11_digest_19 : decode cX11_digest 19 = .ok (.invokevirtual 293, 3) := by decide +kernel
theorem dX11_digest_22 : decode cX11_digest 22 = .ok (.i2l, 1) := by decide +kernel
theorem dX11_digest_23 : decode cX11_digest 23 = .ok (.ladd, 1) := by decide +kernel
theorem dX11_digest_24 : decode cX11_digest 24 = .ok (.lstore_n 1, 1) := by decide +kernel
theorem dX11_digest_25 : decode cX11_digest 25 = .ok (.iinc 3 1, 3) := by decide +kernel
theorem dX11_digest_28 : decode cX11_digest 28 = .ok (.goto (-22), 3) := by decide +kernel
theorem dX11_digest_31 : decode cX11_digest 31 = .ok (.ldc2_w 289, 3) := by decide +kernel
theorem dX11_digest_34 : decode cX11_digest 34 = .ok (.lload_n 1, 1) := by decide +kernel
theorem dX11_digest_35 : decode cX11_digest 35 = .ok (.lmul, 1) := by decide +kernel
theorem dX11_digest_36 : decode cX11_digest 36 = .ok (.aload_n 0, 1) := by decide +kernel
theorem dX11_digest_37 : decode cX11_digest 37 = .ok (.invokevirtual 118, 3) := by decide +kernel
theorem dX11_digest_40 : decode cX11_digest 40 = .ok (.i2l, 1) := by decide +kernel
theorem dX11_digest_41 : decode cX11_digest 41 = .ok (.ladd, 1) := by decide +kernel
theorem dX11_digest_42 : decode cX11_digest 42 = .ok (.lstore_n 1, 1) := by decide +kernel
theorem dX11_digest_43 : decode cX11_digest 43 = .ok (.ldc2_w 289, 3) := by decide +kernel
theorem dX11_digest_46 : decode cX11_digest 46 = .ok (.lload_n 1, 1) := by decide +kernel
theorem dX11_digest_47 : decode cX11_digest 47 = .ok (.lmul, 1) := by decide +kernel
theorem dX11_digest_48 : decode cX11_digest 48 = .ok (.aload_n 0, 1) := by decide +kernel
theorem dX11_digest_49 : decode cX11_digest 49 = .ok (.invokevirtual 121, 3) := by decide +kernel
theorem dX11_digest_52 : decode cX11_digest 52 = .ok (.i2l, 1) := by decide +kernel
theorem dX11_digest_53 : decode cX11_digest 53 = .ok (.ladd, 1) := by decide +kernel
theorem dX11_digest_54 : decode cX11_digest 54 = .ok (.lstore_n 1, 1) := by decide +kernel
theorem dX11_digest_55 : decode cX11_digest 55 = .ok (.iconst 0, 1) := by decide +kernel
theorem dX11_digest_56 : decode cX11_digest 56 = .ok (.istore_n 3, 1) := by decide +kernel
theorem dX11_digest_57 : decode cX11_digest 57 = .ok (.iload_n 3, 1) := by decide +kernel
theorem dX11_digest_58 : decode cX11_digest 58 = .ok (.aload_n 0, 1) := by decide +kernel
theorem dX11_digest_59 : decode cX11_digest 59 = .ok (.getfield 91, 3) := by decide +kernel
theorem dX11_digest_62 : decode cX11_digest 62 = .ok (.if_icmp .ge 26, 3) := by decide +kernel
theorem dX11_digest_65 : decode cX11_digest 65 = .ok (.aload_n 0, 1) := by decide +kernel
theorem dX11_digest_66 : decode cX11_digest 66 = .ok (.aload_n 0, 1) := by decide +kernel
theorem dX11_digest_67 : decode cX11_digest 67 = .ok (.lload_n 1, 1) := by decide +kernel
theorem dX11_digest_68 : decode cX11_digest 68 = .ok (.iconst 0, 1) := by decide +kernel
theorem dX11_digest_69 : decode cX11_digest 69 = .ok (.iload_n 3, 1) := by decide +kernel
theorem dX11_digest_70 : decode cX11_digest 70 = .ok (.invokevirtual 296, 3) := by decide +kernel
theorem dX11_digest_73 : decode cX11_digest 73 = .ok (.aload_n 0, 1) := by decide +kernel
theorem dX11_digest_74 : decode cX11_digest 74 = .ok (.getfield 108, 3) := by decide +kernel
theorem dX11_digest_77 : decode cX11_digest 77 = .ok (.iload_n 3, 1) := by decide +kernel
theorem dX11_digest_78 : decode cX11_digest 78 = .ok (.invokevirtual 296, 3) := by decide +kernel
theorem dX11_digest_81 : decode cX11_digest 81 = .ok (.lstore_n 1, 1) := by decide +kernel
theorem dX11_digest_82 : decode cX11_digest 82 = .ok (.iinc 3 1, 3) := by decide +kernel
theorem dX11_digest_85 : decode cX11_digest 85 = .ok (.goto (-28), 3) := by decide +kernel
theorem dX11_digest_88 : decode cX11_digest 88 = .ok (.iconst 0, 1) := by decide +kernel
theorem dX11_digest_89 : decode cX11_digest 89 = .ok (.istore_n 3, 1) := by decide +kernel
theorem dX11_digest_90 : decode cX11_digest 90 = .ok (.iload_n 3, 1) := by decide +kernel
theorem dX11_digest_91 : decode cX11_digest 91 = .ok (.aload_n 0, 1) := by decide +kernel
theorem dX11_digest_92 : decode cX11_digest 92 = .ok (.getfield 108, 3) := by decide +kernel
theorem dX11_digest_95 : decode cX11_digest 95 = .ok (.if_icmp .ge 39, 3) := by decide +kernel
theorem dX11_digest_98 : decode cX11_digest 98 = .ok (.iconst 0, 1) := by decide +kernel
theorem dX11_digest_99 : decode cX11_digest 99 = .ok (.istore 4, 2) := by decide +kernel
theorem dX11_digest_101 : decode cX11_digest 101 = .ok (.iload 4, 2) := by decide +kernel
theorem dX11_digest_103 : decode cX11_digest 103 = .ok (.iconst 3, 1) := by decide +kernel
theorem dX11_digest_104 : decode cX11_digest 104 = .ok (.if_icmp .ge 24, 3) := by decide +kernel
theorem dX11_digest_107 : decode cX11_digest 107 = .ok (.ldc2_w 289, 3) := by decide +kernel
theorem dX11_digest_110 : decode cX11_digest 110 = .ok (.lload_n 1, 1) := by decide +kernel
theorem dX11_digest_111 : decode cX11_digest 111 = .ok (.lmul, 1) := by decide +kernel
theorem dX11_digest_112 : decode cX11_digest 112 = .ok (.aload_n 0, 1) := by decide +kernel
theorem dX11_digest_113 : decode cX11_digest 113 = .ok (.iload_n 3, 1) := by decide +kernel
theorem dX11_digest_114 : decode cX11_digest 114 = .ok (.iload 4, 2) := by decide +kernel
theorem dX11_digest_116 : decode cX11_digest 116 = .ok (.invokevirtual 211, 3) := by decide +kernel
theorem dX11_digest_119 : decode cX11_digest 119 = .ok (.i2l, 1) := by decide +kernel
theorem dX11_digest_120 : decode cX11_digest 120 = .ok (.ladd, 1) := by decide +kernel
theorem dX11_digest_121 : decode cX11_digest 121 = .ok (.lstore_n 1, 1) := by decide +kernel
theorem dX11_digest_122 : decode cX11_digest 122 = .ok (.iinc 4 1, 3) := by decide +kernel
theorem dX11_digest_125 : decode cX11_digest 125 = .ok (.goto (-24), 3) := by decide +kernel
theorem dX11_digest_128 : decode cX11_digest 128 = .ok (.iinc 3 1, 3) := by decide +kernel
theorem dX11_digest_131 : decode cX11_digest 131 = .ok (.goto (-41), 3) := by decide +kernel
theorem dX11_digest_134 : decode cX11_digest 134 = .ok (.iconst 0, 1) := by decide +kernel
theorem dX11_digest_135 : decode cX11_digest 135 = .ok (.istore_n 3, 1) := by decide +kernel
theorem dX11_digest_136 : decode cX11_digest 136 = .ok (.iload_n 3, 1) := by decide +kernel
theorem dX11_digest_137 : decode cX11_digest 137 = .ok (.iconst 2, 1) := by decide +kernel
theorem dX11_digest_138 : decode cX11_digest 138 = .ok (.if_icmp .ge 50, 3) := by decide +kernel
theorem dX11_digest_141 : decode cX11_digest 141 = .ok (.iconst 0, 1) := by decide +kernel
theorem dX11_digest_142 : decode cX11_digest 142 = .ok (.istore 4, 2) := by decide +kernel
theorem dX11_digest_144 : decode cX11_digest 144 = .ok (.iload 4, 2) := by decide +kernel
theorem dX11_digest_146 : decode cX11_digest 146 = .ok (.iconst 4, 1) := by decide +kernel
theorem dX11_digest_147 : decode cX11_digest 147 = .ok (.if_icmp .ge 35, 3) := by decide +kernel
theorem dX11_digest_150 : decode cX11_digest 150 = .ok (.ldc2_w 289, 3) := by decide +kernel
theorem dX11_digest_153 : decode cX11_digest 153 = .ok (.lload_n 1, 1) := by decide +kernel
theorem dX11_digest_154 : decode cX11_digest 154 = .ok (.lmul, 1) := by decide +kernel
theorem dX11_digest_155 : decode cX11_digest 155 = .ok (.aload_n 0, 1) := by decide +kernel
theorem dX11_digest_156 : decode cX11_digest 156 = .ok (.iload_n 3, 1) := by decide +kernel
theorem dX11_digest_157 : decode cX11_digest 157 = .ok (.ifCond .ne 7, 3) := by decide +kernel
theorem dX11_digest_160 : decode cX11_digest 160 = .ok (.iconst 0, 1) := by decide +kernel
theorem dX11_digest_161 : decode cX11_digest 161 = .ok (.goto 7, 3) := by decide +kernel
theorem dX11_digest_164 : decode cX11_digest 164 = .ok (.aload_n 0, 1) := by decide +kernel
theorem dX11_digest_165 : decode cX11_digest 165 = .ok (.getfield 108, 3) := by decide +kernel
theorem dX11_digest_168 : decode cX11_digest 168 = .ok (.iload 4, 2) := by decide +kernel
theorem dX11_digest_170 : decode cX11_digest 170 = .ok (.invokevirtual 208, 3) := by decide +kernel
theorem dX11_digest_173 : decode cX11_digest 173 = .ok (.i2l, 1) := by decide +kernel
theorem dX11_digest_174 : decode cX11_digest 174 = .ok (.ladd, 1) := by decide +kernel
theorem dX11_digest_175 : decode cX11_digest 175 = .ok (.lstore_n 1, 1) := by decide +kernel
theorem dX11_digest_176 : decode cX11_digest 176 = .ok (.iinc 4 1, 3) := by decide +kernel
theorem dX11_digest_179 : decode cX11_digest 179 = .ok (.goto (-35), 3) := by decide +kernel
theorem dX11_digest_182 : decode cX11_digest 182 = .ok (.iinc 3 1, 3) := by decide +kernel
theorem dX11_digest_185 : decode cX11_digest 185 = .ok (.goto (-49), 3) := by decide +kernel
theorem dX11_digest_188 : decode cX11_digest 188 = .ok (.iconst 0, 1) := by decide +kernel
theorem dX11_digest_189 : decode cX11_digest 189 = .ok (.istore_n 3, 1) := by decide +kernel
theorem dX11_digest_190 : decode cX11_digest 190 = .ok (.iload_n 3, 1) := by decide +kernel
theorem dX11_digest_191 : decode cX11_digest 191 = .ok (.aload_n 0, 1) := by decide +kernel
theorem dX11_digest_192 : decode cX11_digest 192 = .ok (.getfield 91, 3) := by decide +kernel
theorem dX11_digest_195 : decode cX11_digest 195 = .ok (.if_icmp .ge 26, 3) := by decide +kernel
theorem dX11_digest_198 : decode cX11_digest 198 = .ok (.ldc2_w 289, 3) := by decide +kernel
theorem dX11_digest_201 : decode cX11_digest 201 = .ok (.lload_n 1, 1) := by decide +kernel
theorem dX11_digest_202 : decode cX11_digest 202 = .ok (.lmul, 1) := by decide +kernel
theorem dX11_digest_203 : decode cX11_digest 203 = .ok (.aload_n 0, 1) := by decide +kernel
theorem dX11_digest_204 : decode cX11_digest 204 = .ok (.bipush 7, 2) := by decide +kernel
theorem dX11_digest_206 : decode cX11_digest 206 = .ok (.bipush 9, 2) := by decide +kernel
theorem dX11_digest_208 : decode cX11_digest 208 = .ok (.iload_n 3, 1) := by decide +kernel
theorem dX11_digest_209 : decode cX11_digest 209 = .ok (.invokevirtual 280, 3) := by decide +kernel
theorem dX11_digest_212 : decode cX11_digest 212 = .ok (.i2l, 1) := by decide +kernel
theorem dX11_digest_213 : decode cX11_digest 213 = .ok (.ladd, 1) := by decide +kernel
theorem dX11_digest_214 : decode cX11_digest 214 = .ok (.lstore_n 1, 1) := by decide +kernel
theorem dX11_digest_215 : decode cX11_digest 215 = .ok (.iinc 3 1, 3) := by decide +kernel
theorem dX11_digest_218 : decode cX11_digest 218 = .ok (.goto (-28), 3) := by decide +kernel
theorem dX11_digest_221 : decode cX11_digest 221 = .ok (.ldc2_w 289, 3) := by decide +kernel
theorem dX11_digest_224 : decode cX11_digest 224 = .ok (.lload_n 1, 1) := by decide +kernel
theorem dX11_digest_225 : decode cX11_digest 225 = .ok (.lmul, 1) := by decide +kernel
theorem dX11_digest_226 : decode cX11_digest 226 = .ok (.aload_n 0, 1) := by decide +kernel
theorem dX11_digest_227 : decode cX11_digest 227 = .ok (.iconst 0, 1) := by decide +kernel
theorem dX11_digest_228 : decode cX11_digest 228 = .ok (.invokevirtual 214, 3) := by decide +kernel
theorem dX11_digest_231 : decode cX11_digest 231 = .ok (.i2l, 1) := by decide +kernel
theorem dX11_digest_232 : decode cX11_digest 232 = .ok (.ladd, 1) := by decide +kernel
theorem dX11_digest_233 : decode cX11_digest 233 = .ok (.lstore_n 1, 1) := by decide +kernel
theorem dX11_digest_234 : decode cX11_digest 234 = .ok (.ldc2_w 289, 3) := by decide +kernel
theorem dX11_digest_237 : decode cX11_digest 237 = .ok (.lload_n 1, 1) := by decide +kernel
theorem dX11_digest_238 : decode cX11_digest 238 = .ok (.lmul, 1) := by decide +kernel
theorem dX11_digest_239 : decode cX11_digest 239 = .ok (.aload_n 0, 1) := by decide +kernel
theorem dX11_digest_240 : decode cX11_digest 240 = .ok (.iconst 1, 1) := by decide +kernel
theorem dX11_digest_241 : decode cX11_digest 241 = .ok (.invokevirtual 214, 3) := by decide +kernel
theorem dX11_digest_244 : decode cX11_digest 244 = .ok (.i2l, 1) := by decide +kernel
theorem dX11_digest_245 : decode cX11_digest 245 = .ok (.ladd, 1) := by decide +kernel
theorem dX11_digest_246 : decode cX11_digest 246 = .ok (.lstore_n 1, 1) := by decide +kernel
theorem dX11_digest_247 : decode cX11_digest 247 = .ok (.ldc2_w 289, 3) := by decide +kernel
theorem dX11_digest_250 : decode cX11_digest 250 = .ok (.lload_n 1, 1) := by decide +kernel
theorem dX11_digest_251 : decode cX11_digest 251 = .ok (.lmul, 1) := by decide +kernel
theorem dX11_digest_252 : decode cX11_digest 252 = .ok (.aload_n 0, 1) := by decide +kernel
theorem dX11_digest_253 : decode cX11_digest 253 = .ok (.invokevirtual 217, 3) := by decide +kernel
theorem dX11_digest_256 : decode cX11_digest 256 = .ok (.i2l, 1) := by decide +kernel
theorem dX11_digest_257 : decode cX11_digest 257 = .ok (.ladd, 1) := by decide +kernel
theorem dX11_digest_258 : decode cX11_digest 258 = .ok (.lstore_n 1, 1) := by decide +kernel
theorem dX11_digest_259 : decode cX11_digest 259 = .ok (.ldc2_w 289, 3) := by decide +kernel
theorem dX11_digest_262 : decode cX11_digest 262 = .ok (.lload_n 1, 1) := by decide +kernel
theorem dX11_digest_263 : decode cX11_digest 263 = .ok (.lmul, 1) := by decide +kernel
theorem dX11_digest_264 : decode cX11_digest 264 = .ok (.aload_n 0, 1) := by decide +kernel
theorem dX11_digest_265 : decode cX11_digest 265 = .ok (.iconst (-1), 1) := by decide +kernel
theorem dX11_digest_266 : decode cX11_digest 266 = .ok (.iconst (-1), 1) := by decide +kernel
theorem dX11_digest_267 : decode cX11_digest 267 = .ok (.invokevirtual 229, 3) := by decide +kernel
theorem dX11_digest_270 : decode cX11_digest 270 = .ok (.i2l, 1) := by decide +kernel
theorem dX11_digest_271 : decode cX11_digest 271 = .ok (.ladd, 1) := by decide +kernel
theorem dX11_digest_272 : decode cX11_digest 272 = .ok (.lstore_n 1, 1) := by decide +kernel
theorem dX11_digest_273 : decode cX11_digest 273 = .ok (.ldc2_w 289, 3) := by decide +kernel
theorem dX11_digest_276 : decode cX11_digest 276 = .ok (.lload_n 1, 1) := by decide +kernel
theorem dX11_digest_277 : decode cX11_digest 277 = .ok (.lmul, 1) := by decide +kernel
theorem dX11_digest_278 : decode cX11_digest 278 = .ok (.aload_n 0, 1) := by decide +kernel
theorem dX11_digest_279 : decode cX11_digest 279 = .ok (.iconst (-1), 1) := by decide +kernel
theorem dX11_digest_280 : decode cX11_digest 280 = .ok (.iconst 0, 1) := by decide +kernel
theorem dX11_digest_281 : decode cX11_digest 281 = .ok (.invokevirtual 229, 3) := by decide +kernel
theorem dX11_digest_284 : decode cX11_digest 284 = .ok (.i2l, 1) := by decide +kernel
theorem dX11_digest_285 : decode cX11_digest 285 = .ok (.ladd, 1) := by decide +kernel
theorem dX11_digest_286 : decode cX11_digest 286 = .ok (.lstore_n 1, 1) := by decide +kernel
theorem dX11_digest_287 : decode cX11_digest 287 = .ok (.ldc2_w 289, 3) := by decide +kernel
theorem dX11_digest_290 : decode cX11_digest 290 = .ok (.lload_n 1, 1) := by decide +kernel
theorem dX11_digest_291 : decode cX11_digest 291 = .ok (.lmul, 1) := by decide +kernel
theorem dX11_digest_292 : decode cX11_digest 292 = .ok (.aload_n 0, 1) := by decide +kernel
theorem dX11_digest_293 : decode cX11_digest 293 = .ok (.iconst 3, 1) := by decide +kernel
theorem dX11_digest_294 : decode cX11_digest 294 = .ok (.iconst (-1), 1) := by decide +kernel
theorem dX11_digest_295 : decode cX11_digest 295 = .ok (.invokevirtual 229, 3) := by decide +kernel
theorem dX11_digest_298 : decode cX11_digest 298 = .ok (.i2l, 1) := by decide +kernel
theorem dX11_digest_299 : decode cX11_digest 299 = .ok (.ladd, 1) := by decide +kernel
theorem dX11_digest_300 : decode cX11_digest 300 = .ok (.lstore_n 1, 1) := by decide +kernel
theorem dX11_digest_301 : decode cX11_digest 301 = .ok (.ldc2_w 289, 3) := by decide +kernel
theorem dX11_digest_304 : decode cX11_digest 304 = .ok (.lload_n 1, 1) := by decide +kernel
theorem dX11_digest_305 : decode cX11_digest 305 = .ok (.lmul, 1) := by decide +kernel
theorem dX11_digest_306 : decode cX11_digest 306 = .ok (.aload_n 0, 1) := by decide +kernel
theorem dX11_digest_307 : decode cX11_digest 307 = .ok (.iconst 3, 1) := by decide +kernel
theorem dX11_digest_308 : decode cX11_digest 308 = .ok (.iconst 0, 1) := by decide +kernel
theorem dX11_digest_309 : decode cX11_digest 309 = .ok (.invokevirtual 229, 3) := by decide +kernel
theorem dX11_digest_312 : decode cX11_digest 312 = .ok (.i2l, 1) := by decide +kernel
theorem dX11_digest_313 : decode cX11_digest 313 = .ok (.ladd, 1) := by decide +kernel
theorem dX11_digest_314 : decode cX11_digest 314 = .ok (.lstore_n 1, 1) := by decide +kernel
theorem dX11_digest_315 : decode cX11_digest 315 = .ok (.ldc2_w 289, 3) := by decide +kernel
theorem dX11_digest_318 : decode cX11_digest 318 = .ok (.lload_n 1, 1) := by decide +kernel
theorem dX11_digest_319 : decode cX11_digest 319 = .ok (.lmul, 1) := by decide +kernel
theorem dX11_digest_320 : decode cX11_digest 320 = .ok (.aload_n 0, 1) := by decide +kernel
theorem dX11_digest_321 : decode cX11_digest 321 = .ok (.iconst 2, 1) := by decide +kernel
theorem dX11_digest_322 : decode cX11_digest 322 = .ok (.iconst 0, 1) := by decide +kernel
theorem dX11_digest_323 : decode cX11_digest 323 = .ok (.invokevirtual 240, 3) := by decide +kernel
theorem dX11_digest_326 : decode cX11_digest 326 = .ok (.i2l, 1) := by decide +kernel
theorem dX11_digest_327 : decode cX11_digest 327 = .ok (.ladd, 1) := by decide +kernel
theorem dX11_digest_328 : decode cX11_digest 328 = .ok (.lstore_n 1, 1) := by decide +kernel
theorem dX11_digest_329 : decode cX11_digest 329 = .ok (.ldc2_w 289, 3) := by decide +kernel
theorem dX11_digest_332 : decode cX11_digest 332 = .ok (.lload_n 1, 1) := by decide +kernel
theorem dX11_digest_333 : decode cX11_digest 333 = .ok (.lmul, 1) := by decide +kernel
theorem dX11_digest_334 : decode cX11_digest 334 = .ok (.aload_n 0, 1) := by decide +kernel
theorem dX11_digest_335 : decode cX11_digest 335 = .ok (.iconst 2, 1) := by decide +kernel
theorem dX11_digest_336 : decode cX11_digest 336 = .ok (.iconst 1, 1) := by decide +kernel
theorem dX11_digest_337 : decode cX11_digest 337 = .ok (.invokevirtual 240, 3) := by decide +kernel
theorem dX11_digest_340 : decode cX11_digest 340 = .ok (.i2l, 1) := by decide +kernel
theorem dX11_digest_341 : decode cX11_digest 341 = .ok (.ladd, 1) := by decide +kernel
theorem dX11_digest_342 : decode cX11_digest 342 = .ok (.lstore_n 1, 1) := by decide +kernel
theorem dX11_digest_343 : decode cX11_digest 343 = .ok (.iconst 0, 1) := by decide +kernel
theorem dX11_digest_344 : decode cX11_digest 344 = .ok (.istore_n 3, 1) := by decide +kernel
theorem dX11_digest_345 : decode cX11_digest 345 = .ok (.iload_n 3, 1) := by decide +kernel
theorem dX11_digest_346 : decode cX11_digest 346 = .ok (.iconst 3, 1) := by decide +kernel
theorem dX11_digest_347 : decode cX11_digest 347 = .ok (.if_icmp .ge 22, 3) := by decide +kernel
theorem dX11_digest_350 : decode cX11_digest 350 = .ok (.ldc2_w 289, 3) := by decide +kernel
theorem dX11_digest_353 : decode cX11_digest 353 = .ok (.lload_n 1, 1) := by decide +kernel
theorem dX11_digest_354 : decode cX11_digest 354 = .ok (.lmul, 1) := by decide +kernel
theorem dX11_digest_355 : decode cX11_digest 355 = .ok (.aload_n 0, 1) := by decide +kernel
theorem dX11_digest_356 : decode cX11_digest 356 = .ok (.iload_n 3, 1) := by decide +kernel
theorem dX11_digest_357 : decode cX11_digest 357 = .ok (.invokevirtual 256, 3) := by decide +kernel
theorem dX11_digest_360 : decode cX11_digest 360 = .ok (.i2l, 1) := by decide +kernel
theorem dX11_digest_361 : decode cX11_digest 361 = .ok (.ladd, 1) := by decide +kernel
theorem dX11_digest_362 : decode cX11_digest 362 = .ok (.lstore_n 1, 1) := by decide +kernel
theorem dX11_digest_363 : decode cX11_digest 363 = .ok (.iinc 3 1, 3) := by decide +kernel
theorem dX11_digest_366 : decode cX11_digest 366 = .ok (.goto (-21), 3) := by decide +kernel
theorem dX11_digest_369 : decode cX11_digest 369 = .ok (.ldc2_w 289, 3) := by decide +kernel
theorem dX11_digest_372 : decode cX11_digest 372 = .ok (.lload_n 1, 1) := by decide +kernel
theorem dX11_digest_373 : decode cX11_digest 373 = .ok (.lmul, 1) := by decide +kernel
theorem dX11_digest_374 : decode cX11_digest 374 = .ok (.aload_n 0, 1) := by decide +kernel
theorem dX11_digest_375 : decode cX11_digest 375 = .ok (.iconst 5, 1) := by decide +kernel
theorem dX11_digest_376 : decode cX11_digest 376 = .ok (.iconst 0, 1) := by decide +kernel
theorem dX11_digest_377 : decode cX11_digest 377 = .ok (.invokevirtual 263, 3) := by decide +kernel
theorem dX11_digest_380 : decode cX11_digest 380 = .ok (.ladd, 1) := by decide +kernel
theorem dX11_digest_381 : decode cX11_digest 381 = .ok (.lstore_n 1, 1) := by decide +kernel
theorem dX11_digest_382 : decode cX11_digest 382 = .ok (.ldc2_w 289, 3) := by decide +kernel
theorem dX11_digest_385 : decode cX11_digest 385 = .ok (.lload_n 1, 1) := by decide +kernel
theorem dX11_digest_386 : decode cX11_digest 386 = .ok (.lmul, 1) := by decide +kernel
theorem dX11_digest_387 : decode cX11_digest 387 = .ok (.aload_n 0, 1) := by decide +kernel
theorem dX11_digest_388 : decode cX11_digest 388 = .ok (.iconst 5, 1) := by decide +kernel
theorem dX11_digest_389 : decode cX11_digest 389 = .ok (.iconst 1, 1) := by decide +kernel
theorem dX11_digest_390 : decode cX11_digest 390 = .ok (.invokevirtual 263, 3) := by decide +kernel
theorem dX11_digest_393 : decode cX11_digest 393 = .ok (.ladd, 1) := by decide +kernel
theorem dX11_digest_394 : decode cX11_digest 394 = .ok (.lstore_n 1, 1) := by decide +kernel
theorem dX11_digest_395 : decode cX11_digest 395 = .ok (.ldc2_w 289, 3) := by decide +kernel
theorem dX11_digest_398 : decode cX11_digest 398 = .ok (.lload_n 1, 1) := by decide +kernel
theorem dX11_digest_399 : decode cX11_digest 399 = .ok (.lmul, 1) := by decide +kernel
theorem dX11_digest_400 : decode cX11_digest 400 = .ok (.aload_n 0, 1) := by decide +kernel
theorem dX11_digest_401 : decode cX11_digest 401 = .ok (.bipush 7, 2) := by decide +kernel
theorem dX11_digest_403 : decode cX11_digest 403 = .ok (.bipush 9, 2) := by decide +kernel
theorem dX11_digest_405 : decode cX11_digest 405 = .ok (.iconst (-1), 1) := by decide +kernel
theorem dX11_digest_406 : decode cX11_digest 406 = .ok (.invokevirtual 300, 3) := by decide +kernel
theorem dX11_digest_409 : decode cX11_digest 409 = .ok (.i2l, 1) := by decide +kernel
theorem dX11_digest_410 : decode cX11_digest 410 = .ok (.ladd, 1) := by decide +kernel
theorem dX11_digest_411 : decode cX11_digest 411 = .ok (.lreturn, 1) := by decide +kernel
