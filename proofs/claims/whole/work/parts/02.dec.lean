theorem dX0_init_0 : decode cX0_init 0 = .ok (.aload_n 0, 1) := by decide +kernel
theorem dX0_init_1 : decode cX0_init 1 = .ok (.invokespecial 3, 3) := by decide +kernel
theorem dX0_init_4 : decode cX0_init 4 = .ok (.aload_n 0, 1) := by decide +kernel
theorem dX0_init_5 : decode cX0_init 5 = .ok (.new 9, 3) := by decide +kernel
theorem dX0_init_8 : decode cX0_init 8 = .ok (.dup, 1) := by decide +kernel
theorem dX0_init_9 : decode cX0_init 9 = .ok (.invokespecial 11, 3) := by decide +kernel
theorem dX0_init_12 : decode cX0_init 12 = .ok (.putfield 12, 3) := by decide +kernel
theorem dX0_init_15 : decode cX0_init 15 = .ok (.aload_n 0, 1) := by decide +kernel
theorem dX0_init_16 : decode cX0_init 16 = .ok (.lconst 0, 1) := by decide +kernel
theorem dX0_init_17 : decode cX0_init 17 = .ok (.putfield 18, 3) := by decide +kernel
theorem dX0_init_20 : decode cX0_init 20 = .ok (.aload_n 0, 1) := by decide +kernel
theorem dX0_init_21 : decode cX0_init 21 = .ok (.lconst 1, 1) := by decide +kernel
theorem dX0_init_22 : decode cX0_init 22 = .ok (.putfield 22, 3) := by decide +kernel
theorem dX0_init_25 : decode cX0_init 25 = .ok (.aload_n 0, 1) := by decide +kernel
theorem dX0_init_26 : decode cX0_init 26 = .ok (.iconst 0, 1) := by decide +kernel
theorem dX0_init_27 : decode cX0_init 27 = .ok (.putfield 25, 3) := by decide +kernel
theorem dX0_init_30 : decode cX0_init 30 = .ok (.aload_n 0, 1) := by decide +kernel
theorem dX0_init_31 : decode cX0_init 31 = .ok (.iconst 0, 1) := by decide +kernel
theorem dX0_init_32 : decode cX0_init 32 = .ok (.putfield 29, 3) := by decide +kernel
theorem dX0_init_35 : decode cX0_init 35 = .ok (.return_, 1) := by decide +kernel
theorem dX0_above_0 : decode cX0_above 0 = .ok (.aload_n 0, 1) := by decide +kernel
theorem dX0_above_1 : decode cX0_above 1 = .ok (.getfield 18, 3) := by decide +kernel
theorem dX0_above_4 : decode cX0_above 4 = .ok (.lreturn, 1) := by decide +kernel
theorem dX0_below_0 : decode cX0_below 0 = .ok (.aload_n 0, 1) := by decide +kernel
theorem dX0_below_1 : decode cX0_below 1 = .ok (.getfield 22, 3) := by decide +kernel
theorem dX0_below_4 : decode cX0_below 4 = .ok (.lreturn, 1) := by decide +kernel
theorem dX0_freeze_0 : decode cX0_freeze 0 = .ok (.aload_n 0, 1) := by decide +kernel
theorem dX0_freeze_1 : decode cX0_freeze 1 = .ok (.getfield 12, 3) := by decide +kernel
theorem dX0_freeze_4 : decode cX0_freeze 4 = .ok (.aload_n 1, 1) := by decide +kernel
theorem dX0_freeze_5 : decode cX0_freeze 5 = .ok (.invokevirtual 32, 3) := by decide +kernel
theorem dX0_freeze_8 : decode cX0_freeze 8 = .ok (.aload_n 0, 1) := by decide +kernel
theorem dX0_freeze_9 : decode cX0_freeze 9 = .ok (.aload_n 0, 1) := by decide +kernel
theorem dX0_freeze_10 : decode cX0_freeze 10 = .ok (.getfield 12, 3) := by decide +kernel
theorem dX0_freeze_13 : decode cX0_freeze 13 = .ok (.aload_n 2, 1) := by decide +kernel
theorem dX0_freeze_14 : decode cX0_freeze 14 = .ok (.iload_n 3, 1) := by decide +kernel
theorem dX0_freeze_15 : decode cX0_freeze 15 = .ok (.iconst 0, 1) := by decide +kernel
theorem dX0_freeze_16 : decode cX0_freeze 16 = .ok (.invokestatic 36, 3) := by decide +kernel
theorem dX0_freeze_19 : decode cX0_freeze 19 = .ok (.putfield 18, 3) := by decide +kernel
theorem dX0_freeze_22 : decode cX0_freeze 22 = .ok (.aload_n 0, 1) := by decide +kernel
theorem dX0_freeze_23 : decode cX0_freeze 23 = .ok (.lconst 1, 1) := by decide +kernel
theorem dX0_freeze_24 : decode cX0_freeze 24 = .ok (.putfield 22, 3) := by decide +kernel
theorem dX0_freeze_27 : decode cX0_freeze 27 = .ok (.iconst 0, 1) := by decide +kernel
theorem dX0_freeze_28 : decode cX0_freeze 28 = .ok (.istore 4, 2) := by decide +kernel
theorem dX0_freeze_30 : decode cX0_freeze 30 = .ok (.iload 4, 2) := by decide +kernel
theorem dX0_freeze_32 : decode cX0_freeze 32 = .ok (.aload_n 0, 1) := by decide +kernel
theorem dX0_freeze_33 : decode cX0_freeze 33 = .ok (.getfield 12, 3) := by decide +kernel
theorem dX0_freeze_36 : decode cX0_freeze 36 = .ok (.invokevirtual 40, 3) := by decide +kernel
theorem dX0_freeze_39 : decode cX0_freeze 39 = .ok (.if_icmp .ge 33, 3) := by decide +kernel
theorem dX0_freeze_42 : decode cX0_freeze 42 = .ok (.aload_n 0, 1) := by decide +kernel
theorem dX0_freeze_43 : decode cX0_freeze 43 = .ok (.getfield 12, 3) := by decide +kernel
theorem dX0_freeze_46 : decode cX0_freeze 46 = .ok (.iload 4, 2) := by decide +kernel
theorem dX0_freeze_48 : decode cX0_freeze 48 = .ok (.invokevirtual 44, 3) := by decide +kernel
theorem dX0_freeze_51 : decode cX0_freeze 51 = .ok (.ifCond .le 15, 3) := by decide +kernel
theorem dX0_freeze_54 : decode cX0_freeze 54 = .ok (.aload_n 0, 1) := by decide +kernel
theorem dX0_freeze_55 : decode cX0_freeze 55 = .ok (.dup, 1) := by decide +kernel
theorem dX0_freeze_56 : decode cX0_freeze 56 = .ok (.getfield 22, 3) := by decide +kernel
theorem dX0_freeze_59 : decode cX0_freeze 59 = .ok (.ldc2_w 48, 3) := by decide +kernel
theorem dX0_freeze_62 : decode cX0_freeze 62 = .ok (.lmul, 1) := by decide +kernel
theorem dX0_freeze_63 : decode cX0_freeze 63 = .ok (.putfield 22, 3) := by decide +kernel
theorem dX0_freeze_66 : decode cX0_freeze 66 = .ok (.iinc 4 1, 3) := by decide +kernel
theorem dX0_freeze_69 : decode cX0_freeze 69 = .ok (.goto (-39), 3) := by decide +kernel
theorem dX0_freeze_72 : decode cX0_freeze 72 = .ok (.aload_n 0, 1) := by decide +kernel
theorem dX0_freeze_73 : decode cX0_freeze 73 = .ok (.invokevirtual 50, 3) := by decide +kernel
theorem dX0_freeze_76 : decode cX0_freeze 76 = .ok (.return_, 1) := by decide +kernel
theorem dX0_standing_0 : decode cX0_standing 0 = .ok (.iload_n 3, 1) := by decide +kernel
theorem dX0_standing_1 : decode cX0_standing 1 = .ok (.aload_n 0, 1) := by decide +kernel
theorem dX0_standing_2 : decode cX0_standing 2 = .ok (.invokevirtual 40, 3) := by decide +kernel
theorem dX0_standing_5 : decode cX0_standing 5 = .ok (.if_icmp .ge 9, 3) := by decide +kernel
theorem dX0_standing_8 : decode cX0_standing 8 = .ok (.iload_n 3, 1) := by decide +kernel
theorem dX0_standing_9 : decode cX0_standing 9 = .ok (.bipush 8, 2) := by decide +kernel
theorem dX0_standing_11 : decode cX0_standing 11 = .ok (.if_icmp .lt 17, 3) := by decide +kernel
theorem dX0_standing_14 : decode cX0_standing 14 = .ok (.aload_n 0, 1) := by decide +kernel
theorem dX0_standing_15 : decode cX0_standing 15 = .ok (.aload_n 1, 1) := by decide +kernel
theorem dX0_standing_16 : decode cX0_standing 16 = .ok (.invokevirtual 53, 3) := by decide +kernel
theorem dX0_standing_19 : decode cX0_standing 19 = .ok (.ifCond .eq 7, 3) := by decide +kernel
theorem dX0_standing_22 : decode cX0_standing 22 = .ok (.lconst 1, 1) := by decide +kernel
theorem dX0_standing_23 : decode cX0_standing 23 = .ok (.goto 4, 3) := by decide +kernel
theorem dX0_standing_26 : decode cX0_standing 26 = .ok (.lconst 0, 1) := by decide +kernel
theorem dX0_standing_27 : decode cX0_standing 27 = .ok (.lreturn, 1) := by decide +kernel
theorem dX0_standing_28 : decode cX0_standing 28 = .ok (.aload_n 0, 1) := by decide +kernel
theorem dX0_standing_29 : decode cX0_standing 29 = .ok (.iload_n 3, 1) := by decide +kernel
theorem dX0_standing_30 : decode cX0_standing 30 = .ok (.invokevirtual 44, 3) := by decide +kernel
theorem dX0_standing_33 : decode cX0_standing 33 = .ok (.ifCond .ne 13, 3) := by decide +kernel
theorem dX0_standing_36 : decode cX0_standing 36 = .ok (.aload_n 0, 1) := by decide +kernel
theorem dX0_standing_37 : decode cX0_standing 37 = .ok (.aload_n 1, 1) := by decide +kernel
theorem dX0_standing_38 : decode cX0_standing 38 = .ok (.iload_n 2, 1) := by decide +kernel
theorem dX0_standing_39 : decode cX0_standing 39 = .ok (.iload_n 3, 1) := by decide +kernel
theorem dX0_standing_40 : decode cX0_standing 40 = .ok (.iconst 1, 1) := by decide +kernel
theorem dX0_standing_41 : decode cX0_standing 41 = .ok (.iadd, 1) := by decide +kernel
theorem dX0_standing_42 : decode cX0_standing 42 = .ok (.invokestatic 36, 3) := by decide +kernel
theorem dX0_standing_45 : decode cX0_standing 45 = .ok (.lreturn, 1) := by decide +kernel
theorem dX0_standing_46 : decode cX0_standing 46 = .ok (.iload_n 2, 1) := by decide +kernel
theorem dX0_standing_47 : decode cX0_standing 47 = .ok (.bipush 16, 2) := by decide +kernel
theorem dX0_standing_49 : decode cX0_standing 49 = .ok (.if_icmp .ge 21, 3) := by decide +kernel
theorem dX0_standing_52 : decode cX0_standing 52 = .ok (.bipush 16, 2) := by decide +kernel
theorem dX0_standing_54 : decode cX0_standing 54 = .ok (.iload_n 2, 1) := by decide +kernel
theorem dX0_standing_55 : decode cX0_standing 55 = .ok (.isub, 1) := by decide +kernel
theorem dX0_standing_56 : decode cX0_standing 56 = .ok (.i2l, 1) := by decide +kernel
theorem dX0_standing_57 : decode cX0_standing 57 = .ok (.aload_n 0, 1) := by decide +kernel
theorem dX0_standing_58 : decode cX0_standing 58 = .ok (.aload_n 1, 1) := by decide +kernel
theorem dX0_standing_59 : decode cX0_standing 59 = .ok (.iload_n 2, 1) := by decide +kernel
theorem dX0_standing_60 : decode cX0_standing 60 = .ok (.iload_n 3, 1) := by decide +kernel
theorem dX0_standing_61 : decode cX0_standing 61 = .ok (.iconst 1, 1) := by decide +kernel
theorem dX0_standing_62 : decode cX0_standing 62 = .ok (.iadd, 1) := by decide +kernel
theorem dX0_standing_63 : decode cX0_standing 63 = .ok (.invokestatic 36, 3) := by decide +kernel
theorem dX0_standing_66 : decode cX0_standing 66 = .ok (.lmul, 1) := by decide +kernel
theorem dX0_standing_67 : decode cX0_standing 67 = .ok (.goto 4, 3) := by decide +kernel
theorem dX0_standing_70 : decode cX0_standing 70 = .ok (.lconst 0, 1) := by decide +kernel
theorem dX0_standing_71 : decode cX0_standing 71 = .ok (.lstore 4, 2) := by decide +kernel
theorem dX0_standing_73 : decode cX0_standing 73 = .ok (.iload_n 2, 1) := by decide +kernel
theorem dX0_standing_74 : decode cX0_standing 74 = .ok (.ifCond .le 35, 3) := by decide +kernel
theorem dX0_standing_77 : decode cX0_standing 77 = .ok (.aload_n 0, 1) := by decide +kernel
theorem dX0_standing_78 : decode cX0_standing 78 = .ok (.iload_n 3, 1) := by decide +kernel
theorem dX0_standing_79 : decode cX0_standing 79 = .ok (.invokevirtual 57, 3) := by decide +kernel
theorem dX0_standing_82 : decode cX0_standing 82 = .ok (.istore 6, 2) := by decide +kernel
theorem dX0_standing_84 : decode cX0_standing 84 = .ok (.lload 4, 2) := by decide +kernel
theorem dX0_standing_86 : decode cX0_standing 86 = .ok (.iload_n 2, 1) := by decide +kernel
theorem dX0_standing_87 : decode cX0_standing 87 = .ok (.i2l, 1) := by decide +kernel
theorem dX0_standing_88 : decode cX0_standing 88 = .ok (.aload_n 0, 1) := by decide +kernel
theorem dX0_standing_89 : decode cX0_standing 89 = .ok (.aload_n 1, 1) := by decide +kernel
theorem dX0_standing_90 : decode cX0_standing 90 = .ok (.iload_n 2, 1) := by decide +kernel
theorem dX0_standing_91 : decode cX0_standing 91 = .ok (.iload_n 3, 1) := by decide +kernel
theorem dX0_standing_92 : decode cX0_standing 92 = .ok (.iconst 1, 1) := by decide +kernel
theorem dX0_standing_93 : decode cX0_standing 93 = .ok (.iadd, 1) := by decide +kernel
theorem dX0_standing_94 : decode cX0_standing 94 = .ok (.invokestatic 36, 3) := by decide +kernel
theorem dX0_standing_97 : decode cX0_standing 97 = .ok (.lmul, 1) := by decide +kernel
theorem dX0_standing_98 : decode cX0_standing 98 = .ok (.ladd, 1) := by decide +kernel
theorem dX0_standing_99 : decode cX0_standing 99 = .ok (.lstore 4, 2) := by decide +kernel
theorem dX0_standing_101 : decode cX0_standing 101 = .ok (.aload_n 0, 1) := by decide +kernel
theorem dX0_standing_102 : decode cX0_standing 102 = .ok (.iload_n 3, 1) := by decide +kernel
theorem dX0_standing_103 : decode cX0_standing 103 = .ok (.iload 6, 2) := by decide +kernel
theorem dX0_standing_105 : decode cX0_standing 105 = .ok (.invokevirtual 60, 3) := by decide +kernel
theorem dX0_standing_108 : decode cX0_standing 108 = .ok (.pop, 1) := by decide +kernel
theorem dX0_standing_109 : decode cX0_standing 109 = .ok (.lload 4, 2) := by decide +kernel
theorem dX0_standing_111 : decode cX0_standing 111 = .ok (.lreturn, 1) := by decide +kernel
theorem dX0_shorten_0 : decode cX0_shorten 0 = .ok (.iconst 0, 1) := by decide +kernel
theorem dX0_shorten_1 : decode cX0_shorten 1 = .ok (.istore_n 1, 1) := by decide +kernel
theorem dX0_shorten_2 : decode cX0_shorten 2 = .ok (.iload_n 1, 1) := by decide +kernel
theorem dX0_shorten_3 : decode cX0_shorten 3 = .ok (.bipush 32, 2) := by decide +kernel
theorem dX0_shorten_5 : decode cX0_shorten 5 = .ok (.if_icmp .ge 49, 3) := by decide +kernel
theorem dX0_shorten_8 : decode cX0_shorten 8 = .ok (.aload_n 0, 1) := by decide +kernel
theorem dX0_shorten_9 : decode cX0_shorten 9 = .ok (.getfield 22, 3) := by decide +kernel
theorem dX0_shorten_12 : decode cX0_shorten 12 = .ok (.lconst 1, 1) := by decide +kernel
theorem dX0_shorten_13 : decode cX0_shorten 13 = .ok (.lcmp, 1) := by decide +kernel
theorem dX0_shorten_14 : decode cX0_shorten 14 = .ok (.ifCond .le 40, 3) := by decide +kernel
theorem dX0_shorten_17 : decode cX0_shorten 17 = .ok (.aload_n 0, 1) := by decide +kernel
theorem dX0_shorten_18 : decode cX0_shorten 18 = .ok (.getfield 18, 3) := by decide +kernel
theorem dX0_shorten_21 : decode cX0_shorten 21 = .ok (.lconst 1, 1) := by decide +kernel
theorem dX0_shorten_22 : decode cX0_shorten 22 = .ok (.land, 1) := by decide +kernel
theorem dX0_shorten_23 : decode cX0_shorten 23 = .ok (.lconst 0, 1) := by decide +kernel
theorem dX0_shorten_24 : decode cX0_shorten 24 = .ok (.lcmp, 1) := by decide +kernel
theorem dX0_shorten_25 : decode cX0_shorten 25 = .ok (.ifCond .ne 29, 3) := by decide +kernel
theorem dX0_shorten_28 : decode cX0_shorten 28 = .ok (.aload_n 0, 1) := by decide +kernel
theorem dX0_shorten_29 : decode cX0_shorten 29 = .ok (.dup, 1) := by decide +kernel
theorem dX0_shorten_30 : decode cX0_shorten 30 = .ok (.getfield 18, 3) := by decide +kernel
theorem dX0_shorten_33 : decode cX0_shorten 33 = .ok (.iconst 1, 1) := by decide +kernel
theorem dX0_shorten_34 : decode cX0_shorten 34 = .ok (.lshr, 1) := by decide +kernel
theorem dX0_shorten_35 : decode cX0_shorten 35 = .ok (.putfield 18, 3) := by decide +kernel
theorem dX0_shorten_38 : decode cX0_shorten 38 = .ok (.aload_n 0, 1) := by decide +kernel
theorem dX0_shorten_39 : decode cX0_shorten 39 = .ok (.dup, 1) := by decide +kernel
theorem dX0_shorten_40 : decode cX0_shorten 40 = .ok (.getfield 22, 3) := by decide +kernel
theorem dX0_shorten_43 : decode cX0_shorten 43 = .ok (.iconst 1, 1) := by decide +kernel
theorem dX0_shorten_44 : decode cX0_shorten 44 = .ok (.lshr, 1) := by decide +kernel
theorem dX0_shorten_45 : decode cX0_shorten 45 = .ok (.putfield 22, 3) := by decide +kernel
theorem dX0_shorten_48 : decode cX0_shorten 48 = .ok (.iinc 1 1, 3) := by decide +kernel
theorem dX0_shorten_51 : decode cX0_shorten 51 = .ok (.goto (-49), 3) := by decide +kernel
theorem dX0_shorten_54 : decode cX0_shorten 54 = .ok (.return_, 1) := by decide +kernel
theorem dX0_fallenYears_0 : decode cX0_fallenYears 0 = .ok (.aload_n 0, 1) := by decide +kernel
theorem dX0_fallenYears_1 : decode cX0_fallenYears 1 = .ok (.getfield 29, 3) := by decide +kernel
theorem dX0_fallenYears_4 : decode cX0_fallenYears 4 = .ok (.ireturn, 1) := by decide +kernel
theorem dX0_heightOf_0 : decode cX0_heightOf 0 = .ok (.aload_n 0, 1) := by decide +kernel
theorem dX0_heightOf_1 : decode cX0_heightOf 1 = .ok (.getfield 12, 3) := by decide +kernel
theorem dX0_heightOf_4 : decode cX0_heightOf 4 = .ok (.iload_n 1, 1) := by decide +kernel
theorem dX0_heightOf_5 : decode cX0_heightOf 5 = .ok (.invokevirtual 64, 3) := by decide +kernel
theorem dX0_heightOf_8 : decode cX0_heightOf 8 = .ok (.ireturn, 1) := by decide +kernel
theorem dX0_live_0 : decode cX0_live 0 = .ok (.aload_n 0, 1) := by decide +kernel
theorem dX0_live_1 : decode cX0_live 1 = .ok (.getfield 12, 3) := by decide +kernel
theorem dX0_live_4 : decode cX0_live 4 = .ok (.aload_n 1, 1) := by decide +kernel
theorem dX0_live_5 : decode cX0_live 5 = .ok (.invokevirtual 32, 3) := by decide +kernel
theorem dX0_live_8 : decode cX0_live 8 = .ok (.aload_n 0, 1) := by decide +kernel
theorem dX0_live_9 : decode cX0_live 9 = .ok (.iload 4, 2) := by decide +kernel
theorem dX0_live_11 : decode cX0_live 11 = .ok (.putfield 25, 3) := by decide +kernel
theorem dX0_live_14 : decode cX0_live 14 = .ok (.aload_n 0, 1) := by decide +kernel
theorem dX0_live_15 : decode cX0_live 15 = .ok (.iconst 0, 1) := by decide +kernel
theorem dX0_live_16 : decode cX0_live 16 = .ok (.putfield 29, 3) := by decide +kernel
theorem dX0_live_19 : decode cX0_live 19 = .ok (.iconst 0, 1) := by decide +kernel
theorem dX0_live_20 : decode cX0_live 20 = .ok (.istore 6, 2) := by decide +kernel
theorem dX0_live_22 : decode cX0_live 22 = .ok (.iload 6, 2) := by decide +kernel
theorem dX0_live_24 : decode cX0_live 24 = .ok (.iload 5, 2) := by decide +kernel
theorem dX0_live_26 : decode cX0_live 26 = .ok (.if_icmp .ge 49, 3) := by decide +kernel
theorem dX0_live_29 : decode cX0_live 29 = .ok (.iload 6, 2) := by decide +kernel
theorem dX0_live_31 : decode cX0_live 31 = .ok (.bipush 40, 2) := by decide +kernel
theorem dX0_live_33 : decode cX0_live 33 = .ok (.if_icmp .ge 42, 3) := by decide +kernel
theorem dX0_live_36 : decode cX0_live 36 = .ok (.aload_n 0, 1) := by decide +kernel
theorem dX0_live_37 : decode cX0_live 37 = .ok (.aload_n 2, 1) := by decide +kernel
theorem dX0_live_38 : decode cX0_live 38 = .ok (.iload_n 3, 1) := by decide +kernel
theorem dX0_live_39 : decode cX0_live 39 = .ok (.iload 6, 2) := by decide +kernel
theorem dX0_live_41 : decode cX0_live 41 = .ok (.iadd, 1) := by decide +kernel
theorem dX0_live_42 : decode cX0_live 42 = .ok (.invokevirtual 67, 3) := by decide +kernel
theorem dX0_live_45 : decode cX0_live 45 = .ok (.invokevirtual 72, 3) := by decide +kernel
theorem dX0_live_48 : decode cX0_live 48 = .ok (.aload_n 0, 1) := by decide +kernel
theorem dX0_live_49 : decode cX0_live 49 = .ok (.getfield 12, 3) := by decide +kernel
theorem dX0_live_52 : decode cX0_live 52 = .ok (.aload_n 2, 1) := by decide +kernel
theorem dX0_live_53 : decode cX0_live 53 = .ok (.invokevirtual 53, 3) := by decide +kernel
theorem dX0_live_56 : decode cX0_live 56 = .ok (.ifCond .ne 13, 3) := by decide +kernel
theorem dX0_live_59 : decode cX0_live 59 = .ok (.aload_n 0, 1) := by decide +kernel
theorem dX0_live_60 : decode cX0_live 60 = .ok (.dup, 1) := by decide +kernel
theorem dX0_live_61 : decode cX0_live 61 = .ok (.getfield 29, 3) := by decide +kernel
theorem dX0_live_64 : decode cX0_live 64 = .ok (.iconst 1, 1) := by decide +kernel
theorem dX0_live_65 : decode cX0_live 65 = .ok (.iadd, 1) := by decide +kernel
theorem dX0_live_66 : decode cX0_live 66 = .ok (.putfield 29, 3) := by decide +kernel
theorem dX0_live_69 : decode cX0_live 69 = .ok (.iinc 6 1, 3) := by decide +kernel
theorem dX0_live_72 : decode cX0_live 72 = .ok (.goto (-50), 3) := by decide +kernel
theorem dX0_live_75 : decode cX0_live 75 = .ok (.return_, 1) := by decide +kernel
theorem dX0_passYear_0 : decode cX0_passYear 0 = .ok (.aload_n 0, 1) := by decide +kernel
theorem dX0_passYear_1 : decode cX0_passYear 1 = .ok (.aload_n 0, 1) := by decide +kernel
theorem dX0_passYear_2 : decode cX0_passYear 2 = .ok (.getfield 12, 3) := by decide +kernel
theorem dX0_passYear_5 : decode cX0_passYear 5 = .ok (.invokevirtual 40, 3) := by decide +kernel
theorem dX0_passYear_8 : decode cX0_passYear 8 = .ok (.invokevirtual 76, 3) := by decide +kernel
theorem dX0_passYear_11 : decode cX0_passYear 11 = .ok (.istore_n 2, 1) := by decide +kernel
theorem dX0_passYear_12 : decode cX0_passYear 12 = .ok (.aload_n 0, 1) := by decide +kernel
theorem dX0_passYear_13 : decode cX0_passYear 13 = .ok (.iconst 4, 1) := by decide +kernel
theorem dX0_passYear_14 : decode cX0_passYear 14 = .ok (.invokevirtual 76, 3) := by decide +kernel
theorem dX0_passYear_17 : decode cX0_passYear 17 = .ok (.ifCond .ne 16, 3) := by decide +kernel
theorem dX0_passYear_20 : decode cX0_passYear 20 = .ok (.aload_n 0, 1) := by decide +kernel
theorem dX0_passYear_21 : decode cX0_passYear 21 = .ok (.getfield 12, 3) := by decide +kernel
theorem dX0_passYear_24 : decode cX0_passYear 24 = .ok (.iload_n 2, 1) := by decide +kernel
theorem dX0_passYear_25 : decode cX0_passYear 25 = .ok (.iload_n 1, 1) := by decide +kernel
theorem dX0_passYear_26 : decode cX0_passYear 26 = .ok (.invokevirtual 79, 3) := by decide +kernel
theorem dX0_passYear_29 : decode cX0_passYear 29 = .ok (.pop, 1) := by decide +kernel
theorem dX0_passYear_30 : decode cX0_passYear 30 = .ok (.goto 13, 3) := by decide +kernel
theorem dX0_passYear_33 : decode cX0_passYear 33 = .ok (.aload_n 0, 1) := by decide +kernel
theorem dX0_passYear_34 : decode cX0_passYear 34 = .ok (.getfield 12, 3) := by decide +kernel
theorem dX0_passYear_37 : decode cX0_passYear 37 = .ok (.iload_n 2, 1) := by decide +kernel
theorem dX0_passYear_38 : decode cX0_passYear 38 = .ok (.iload_n 1, 1) := by decide +kernel
theorem dX0_passYear_39 : decode cX0_passYear 39 = .ok (.invokevirtual 60, 3) := by decide +kernel
theorem dX0_passYear_42 : decode cX0_passYear 42 = .ok (.pop, 1) := by decide +kernel
theorem dX0_passYear_43 : decode cX0_passYear 43 = .ok (.return_, 1) := by decide +kernel
theorem dX0_lot_0 : decode cX0_lot 0 = .ok (.aload_n 0, 1) := by decide +kernel
theorem dX0_lot_1 : decode cX0_lot 1 = .ok (.ldc 82, 2) := by decide +kernel
theorem dX0_lot_3 : decode cX0_lot 3 = .ok (.aload_n 0, 1) := by decide +kernel
theorem dX0_lot_4 : decode cX0_lot 4 = .ok (.getfield 25, 3) := by decide +kernel
theorem dX0_lot_7 : decode cX0_lot 7 = .ok (.imul, 1) := by decide +kernel
theorem dX0_lot_8 : decode cX0_lot 8 = .ok (.sipush 12345, 3) := by decide +kernel
theorem dX0_lot_11 : decode cX0_lot 11 = .ok (.iadd, 1) := by decide +kernel
theorem dX0_lot_12 : decode cX0_lot 12 = .ok (.putfield 25, 3) := by decide +kernel
theorem dX0_lot_15 : decode cX0_lot 15 = .ok (.iload_n 1, 1) := by decide +kernel
theorem dX0_lot_16 : decode cX0_lot 16 = .ok (.ifCond .le 15, 3) := by decide +kernel
theorem dX0_lot_19 : decode cX0_lot 19 = .ok (.aload_n 0, 1) := by decide +kernel
theorem dX0_lot_20 : decode cX0_lot 20 = .ok (.getfield 25, 3) := by decide +kernel
theorem dX0_lot_23 : decode cX0_lot 23 = .ok (.bipush 16, 2) := by decide +kernel
theorem dX0_lot_25 : decode cX0_lot 25 = .ok (.iushr, 1) := by decide +kernel
theorem dX0_lot_26 : decode cX0_lot 26 = .ok (.iload_n 1, 1) := by decide +kernel
theorem dX0_lot_27 : decode cX0_lot 27 = .ok (.irem, 1) := by decide +kernel
theorem dX0_lot_28 : decode cX0_lot 28 = .ok (.goto 4, 3) := by decide +kernel
theorem dX0_lot_31 : decode cX0_lot 31 = .ok (.iconst 0, 1) := by decide +kernel
theorem dX0_lot_32 : decode cX0_lot 32 = .ok (.ireturn, 1) := by decide +kernel
theorem dX1_init_0 : decode cX1_init 0 = .ok (.aload_n 0, 1) := by decide +kernel
theorem dX1_init_1 : decode cX1_init 1 = .ok (.invokespecial 3, 3) := by decide +kernel
theorem dX1_init_4 : decode cX1_init 4 = .ok (.aload_n 0, 1) := by decide +kernel
theorem dX1_init_5 : decode cX1_init 5 = .ok (.bipush 13, 2) := by decide +kernel
theorem dX1_init_7 : decode cX1_init 7 = .ok (.anewarray 9, 3) := by decide +kernel
theorem dX1_init_10 : decode cX1_init 10 = .ok (.putfield 11, 3) := by decide +kernel
theorem dX1_init_13 : decode cX1_init 13 = .ok (.aload_n 0, 1) := by decide +kernel
theorem dX1_init_14 : decode cX1_init 14 = .ok (.bipush 12, 2) := by decide +kernel
theorem dX1_init_16 : decode cX1_init 16 = .ok (.newarray .int, 2) := by decide +kernel
theorem dX1_init_18 : decode cX1_init 18 = .ok (.putfield 17, 3) := by decide +kernel
theorem dX1_init_21 : decode cX1_init 21 = .ok (.aload_n 0, 1) := by decide +kernel
theorem dX1_init_22 : decode cX1_init 22 = .ok (.bipush 12, 2) := by decide +kernel
theorem dX1_init_24 : decode cX1_init 24 = .ok (.newarray .int, 2) := by decide +kernel
theorem dX1_init_26 : decode cX1_init 26 = .ok (.putfield 21, 3) := by decide +kernel
theorem dX1_init_29 : decode cX1_init 29 = .ok (.aload_n 0, 1) := by decide +kernel
theorem dX1_init_30 : decode cX1_init 30 = .ok (.new 9, 3) := by decide +kernel
theorem dX1_init_33 : decode cX1_init 33 = .ok (.dup, 1) := by decide +kernel
theorem dX1_init_34 : decode cX1_init 34 = .ok (.invokespecial 24, 3) := by decide +kernel
theorem dX1_init_37 : decode cX1_init 37 = .ok (.putfield 25, 3) := by decide +kernel
theorem dX1_init_40 : decode cX1_init 40 = .ok (.aload_n 0, 1) := by decide +kernel
theorem dX1_init_41 : decode cX1_init 41 = .ok (.iconst 0, 1) := by decide +kernel
theorem dX1_init_42 : decode cX1_init 42 = .ok (.putfield 29, 3) := by decide +kernel
theorem dX1_init_45 : decode cX1_init 45 = .ok (.iconst 0, 1) := by decide +kernel
theorem dX1_init_46 : decode cX1_init 46 = .ok (.istore_n 1, 1) := by decide +kernel
theorem dX1_init_47 : decode cX1_init 47 = .ok (.iload_n 1, 1) := by decide +kernel
theorem dX1_init_48 : decode cX1_init 48 = .ok (.bipush 12, 2) := by decide +kernel
theorem dX1_init_50 : decode cX1_init 50 = .ok (.if_icmp .gt 22, 3) := by decide +kernel
theorem dX1_init_53 : decode cX1_init 53 = .ok (.aload_n 0, 1) := by decide +kernel
theorem dX1_init_54 : decode cX1_init 54 = .ok (.getfield 11, 3) := by decide +kernel
theorem dX1_init_57 : decode cX1_init 57 = .ok (.iload_n 1, 1) := by decide +kernel
theorem dX1_init_58 : decode cX1_init 58 = .ok (.new 9, 3) := by decide +kernel
theorem dX1_init_61 : decode cX1_init 61 = .ok (.dup, 1) := by decide +kernel
theorem dX1_init_62 : decode cX1_init 62 = .ok (.invokespecial 24, 3) := by decide +kernel
theorem dX1_init_65 : decode cX1_init 65 = .ok (.aastore, 1) := by decide +kernel
theorem dX1_init_66 : decode cX1_init 66 = .ok (.iinc 1 1, 3) := by decide +kernel
theorem dX1_init_69 : decode cX1_init 69 = .ok (.goto (-22), 3) := by decide +kernel
theorem dX1_init_72 : decode cX1_init 72 = .ok (.return_, 1) := by decide +kernel
theorem dX1_start_0 : decode cX1_start 0 = .ok (.aload_n 0, 1) := by decide +kernel
theorem dX1_start_1 : decode cX1_start 1 = .ok (.getfield 11, 3) := by decide +kernel
theorem dX1_start_4 : decode cX1_start 4 = .ok (.iconst 0, 1) := by decide +kernel
theorem dX1_start_5 : decode cX1_start 5 = .ok (.aaload, 1) := by decide +kernel
theorem dX1_start_6 : decode cX1_start 6 = .ok (.areturn, 1) := by decide +kernel
theorem dX1_last_0 : decode cX1_last 0 = .ok (.aload_n 0, 1) := by decide +kernel
theorem dX1_last_1 : decode cX1_last 1 = .ok (.getfield 11, 3) := by decide +kernel
theorem dX1_last_4 : decode cX1_last 4 = .ok (.iconst 0, 1) := by decide +kernel
theorem dX1_last_5 : decode cX1_last 5 = .ok (.aload_n 0, 1) := by decide +kernel
theorem dX1_last_6 : decode cX1_last 6 = .ok (.getfield 29, 3) := by decide +kernel
theorem dX1_last_9 : decode cX1_last 9 = .ok (.bipush 12, 2) := by decide +kernel
theorem dX1_last_11 : decode cX1_last 11 = .ok (.invokestatic 33, 3) := by decide +kernel
theorem dX1_last_14 : decode cX1_last 14 = .ok (.invokestatic 39, 3) := by decide +kernel
theorem dX1_last_17 : decode cX1_last 17 = .ok (.aaload, 1) := by decide +kernel
theorem dX1_last_18 : decode cX1_last 18 = .ok (.areturn, 1) := by decide +kernel
theorem dX1_turnCount_0 : decode cX1_turnCount 0 = .ok (.aload_n 0, 1) := by decide +kernel
theorem dX1_turnCount_1 : decode cX1_turnCount 1 = .ok (.getfield 29, 3) := by decide +kernel
theorem dX1_turnCount_4 : decode cX1_turnCount 4 = .ok (.ireturn, 1) := by decide +kernel
theorem dX1_hasTurn_0 : decode cX1_hasTurn 0 = .ok (.iload_n 1, 1) := by decide +kernel
theorem dX1_hasTurn_1 : decode cX1_hasTurn 1 = .ok (.ifCond .lt 21, 3) := by decide +kernel
theorem dX1_hasTurn_4 : decode cX1_hasTurn 4 = .ok (.iload_n 1, 1) := by decide +kernel
theorem dX1_hasTurn_5 : decode cX1_hasTurn 5 = .ok (.aload_n 0, 1) := by decide +kernel
theorem dX1_hasTurn_6 : decode cX1_hasTurn 6 = .ok (.getfield 29, 3) := by decide +kernel
theorem dX1_hasTurn_9 : decode cX1_hasTurn 9 = .ok (.if_icmp .ge 13, 3) := by decide +kernel
theorem dX1_hasTurn_12 : decode cX1_hasTurn 12 = .ok (.iload_n 1, 1) := by decide +kernel
theorem dX1_hasTurn_13 : decode cX1_hasTurn 13 = .ok (.bipush 12, 2) := by decide +kernel
theorem dX1_hasTurn_15 : decode cX1_hasTurn 15 = .ok (.if_icmp .ge 7, 3) := by decide +kernel
theorem dX1_hasTurn_18 : decode cX1_hasTurn 18 = .ok (.iconst 1, 1) := by decide +kernel
theorem dX1_hasTurn_19 : decode cX1_hasTurn 19 = .ok (.goto 4, 3) := by decide +kernel
theorem dX1_hasTurn_22 : decode cX1_hasTurn 22 = .ok (.iconst 0, 1) := by decide +kernel
theorem dX1_hasTurn_23 : decode cX1_hasTurn 23 = .ok (.ireturn, 1) := by decide +kernel
theorem dX1_wallBehind_0 : decode cX1_wallBehind 0 = .ok (.iload_n 1, 1) := by decide +kernel
theorem dX1_wallBehind_1 : decode cX1_wallBehind 1 = .ok (.ifCond .lt 26, 3) := by decide +kernel
theorem dX1_wallBehind_4 : decode cX1_wallBehind 4 = .ok (.iload_n 1, 1) := by decide +kernel
theorem dX1_wallBehind_5 : decode cX1_wallBehind 5 = .ok (.aload_n 0, 1) := by decide +kernel
theorem dX1_wallBehind_6 : decode cX1_wallBehind 6 = .ok (.getfield 29, 3) := by decide +kernel
theorem dX1_wallBehind_9 : decode cX1_wallBehind 9 = .ok (.if_icmp .gt 18, 3) := by decide +kernel
theorem dX1_wallBehind_12 : decode cX1_wallBehind 12 = .ok (.iload_n 1, 1) := by decide +kernel
theorem dX1_wallBehind_13 : decode cX1_wallBehind 13 = .ok (.bipush 12, 2) := by decide +kernel
theorem dX1_wallBehind_15 : decode cX1_wallBehind 15 = .ok (.if_icmp .gt 12, 3) := by decide +kernel
theorem dX1_wallBehind_18 : decode cX1_wallBehind 18 = .ok (.aload_n 0, 1) := by decide +kernel
theorem dX1_wallBehind_19 : decode cX1_wallBehind 19 = .ok (.getfield 11, 3) := by decide +kernel
theorem dX1_wallBehind_22 : decode cX1_wallBehind 22 = .ok (.iload_n 1, 1) := by decide +kernel
theorem dX1_wallBehind_23 : decode cX1_wallBehind 23 = .ok (.aaload, 1) := by decide +kernel
theorem dX1_wallBehind_24 : decode cX1_wallBehind 24 = .ok (.goto 4, 3) := by decide +kernel
theorem dX1_wallBehind_27 : decode cX1_wallBehind 27 = .ok (.aconst_null, 1) := by decide +kernel
theorem dX1_wallBehind_28 : decode cX1_wallBehind 28 = .ok (.areturn, 1) := by decide +kernel
theorem dX1_tookIn_0 : decode cX1_tookIn 0 = .ok (.aload_n 0, 1) := by decide +kernel
theorem dX1_tookIn_1 : decode cX1_tookIn 1 = .ok (.iload_n 1, 1) := by decide +kernel
theorem dX1_tookIn_2 : decode cX1_tookIn 2 = .ok (.invokevirtual 42, 3) := by decide +kernel
theorem dX1_tookIn_5 : decode cX1_tookIn 5 = .ok (.ifCond .eq 12, 3) := by decide +kernel
theorem dX1_tookIn_8 : decode cX1_tookIn 8 = .ok (.aload_n 0, 1) := by decide +kernel
theorem dX1_tookIn_9 : decode cX1_tookIn 9 = .ok (.getfield 17, 3) := by decide +kernel
theorem dX1_tookIn_12 : decode cX1_tookIn 12 = .ok (.iload_n 1, 1) := by decide +kernel
theorem dX1_tookIn_13 : decode cX1_tookIn 13 = .ok (.iaload, 1) := by decide +kernel
theorem dX1_tookIn_14 : decode cX1_tookIn 14 = .ok (.goto 4, 3) := by decide +kernel
theorem dX1_tookIn_17 : decode cX1_tookIn 17 = .ok (.iconst 0, 1) := by decide +kernel
theorem dX1_tookIn_18 : decode cX1_tookIn 18 = .ok (.ireturn, 1) := by decide +kernel
theorem dX1_laidIn_0 : decode cX1_laidIn 0 = .ok (.aload_n 0, 1) := by decide +kernel
theorem dX1_laidIn_1 : decode cX1_laidIn 1 = .ok (.iload_n 1, 1) := by decide +kernel
theorem dX1_laidIn_2 : decode cX1_laidIn 2 = .ok (.invokevirtual 42, 3) := by decide +kernel
theorem dX1_laidIn_5 : decode cX1_laidIn 5 = .ok (.ifCond .eq 12, 3) := by decide +kernel
theorem dX1_laidIn_8 : decode cX1_laidIn 8 = .ok (.aload_n 0, 1) := by decide +kernel
theorem dX1_laidIn_9 : decode cX1_laidIn 9 = .ok (.getfield 21, 3) := by decide +kernel
theorem dX1_laidIn_12 : decode cX1_laidIn 12 = .ok (.iload_n 1, 1) := by decide +kernel
theorem dX1_laidIn_13 : decode cX1_laidIn 13 = .ok (.iaload, 1) := by decide +kernel
theorem dX1_laidIn_14 : decode cX1_laidIn 14 = .ok (.goto 4, 3) := by decide +kernel
theorem dX1_laidIn_17 : decode cX1_laidIn 17 = .ok (.iconst 0, 1) := by decide +kernel
theorem dX1_laidIn_18 : decode cX1_laidIn 18 = .ok (.ireturn, 1) := by decide +kernel
theorem dX1_busyTurns_0 : decode cX1_busyTurns 0 = .ok (.iconst 0, 1) := by decide +kernel
theorem dX1_busyTurns_1 : decode cX1_busyTurns 1 = .ok (.istore_n 1, 1) := by decide +kernel
theorem dX1_busyTurns_2 : decode cX1_busyTurns 2 = .ok (.iconst 0, 1) := by decide +kernel
theorem dX1_busyTurns_3 : decode cX1_busyTurns 3 = .ok (.istore_n 2, 1) := by decide +kernel
theorem dX1_busyTurns_4 : decode cX1_busyTurns 4 = .ok (.iload_n 2, 1) := by decide +kernel
theorem dX1_busyTurns_5 : decode cX1_busyTurns 5 = .ok (.aload_n 0, 1) := by decide +kernel
theorem dX1_busyTurns_6 : decode cX1_busyTurns 6 = .ok (.getfield 29, 3) := by decide +kernel
theorem dX1_busyTurns_9 : decode cX1_busyTurns 9 = .ok (.if_icmp .ge 26, 3) := by decide +kernel
theorem dX1_busyTurns_12 : decode cX1_busyTurns 12 = .ok (.aload_n 0, 1) := by decide +kernel
theorem dX1_busyTurns_13 : decode cX1_busyTurns 13 = .ok (.iload_n 2, 1) := by decide +kernel
theorem dX1_busyTurns_14 : decode cX1_busyTurns 14 = .ok (.invokevirtual 46, 3) := by decide +kernel
theorem dX1_busyTurns_17 : decode cX1_busyTurns 17 = .ok (.aload_n 0, 1) := by decide +kernel
theorem dX1_busyTurns_18 : decode cX1_busyTurns 18 = .ok (.iload_n 2, 1) := by decide +kernel
theorem dX1_busyTurns_19 : decode cX1_busyTurns 19 = .ok (.invokevirtual 50, 3) := by decide +kernel
theorem dX1_busyTurns_22 : decode cX1_busyTurns 22 = .ok (.iadd, 1) := by decide +kernel
theorem dX1_busyTurns_23 : decode cX1_busyTurns 23 = .ok (.ifCond .le 6, 3) := by decide +kernel
theorem dX1_busyTurns_26 : decode cX1_busyTurns 26 = .ok (.iinc 1 1, 3) := by decide +kernel
theorem dX1_busyTurns_29 : decode cX1_busyTurns 29 = .ok (.iinc 2 1, 3) := by decide +kernel
theorem dX1_busyTurns_32 : decode cX1_busyTurns 32 = .ok (.goto (-28), 3) := by decide +kernel
theorem dX1_busyTurns_35 : decode cX1_busyTurns 35 = .ok (.iload_n 1, 1) := by decide +kernel
theorem dX1_busyTurns_36 : decode cX1_busyTurns 36 = .ok (.ireturn, 1) := by decide +kernel
theorem dX1_replay_0 : decode cX1_replay 0 = .ok (.aload_n 0, 1) := by decide +kernel
theorem dX1_replay_1 : decode cX1_replay 1 = .ok (.aload_n 1, 1) := by decide +kernel
theorem dX1_replay_2 : decode cX1_replay 2 = .ok (.invokevirtual 53, 3) := by decide +kernel
theorem dX1_replay_5 : decode cX1_replay 5 = .ok (.bipush 12, 2) := by decide +kernel
theorem dX1_replay_7 : decode cX1_replay 7 = .ok (.invokestatic 33, 3) := by decide +kernel
theorem dX1_replay_10 : decode cX1_replay 10 = .ok (.putfield 29, 3) := by decide +kernel
theorem dX1_replay_13 : decode cX1_replay 13 = .ok (.iconst 0, 1) := by decide +kernel
theorem dX1_replay_14 : decode cX1_replay 14 = .ok (.istore_n 3, 1) := by decide +kernel
theorem dX1_replay_15 : decode cX1_replay 15 = .ok (.iload_n 3, 1) := by decide +kernel
theorem dX1_replay_16 : decode cX1_replay 16 = .ok (.aload_n 0, 1) := by decide +kernel
theorem dX1_replay_17 : decode cX1_replay 17 = .ok (.getfield 29, 3) := by decide +kernel
theorem dX1_replay_20 : decode cX1_replay 20 = .ok (.if_icmp .ge 73, 3) := by decide +kernel
theorem dX1_replay_23 : decode cX1_replay 23 = .ok (.iload_n 3, 1) := by decide +kernel
theorem dX1_replay_24 : decode cX1_replay 24 = .ok (.bipush 12, 2) := by decide +kernel
theorem dX1_replay_26 : decode cX1_replay 26 = .ok (.if_icmp .ge 67, 3) := by decide +kernel
theorem dX1_replay_29 : decode cX1_replay 29 = .ok (.aload_n 0, 1) := by decide +kernel
theorem dX1_replay_30 : decode cX1_replay 30 = .ok (.getfield 11, 3) := by decide +kernel
theorem dX1_replay_33 : decode cX1_replay 33 = .ok (.iload_n 3, 1) := by decide +kernel
theorem dX1_replay_34 : decode cX1_replay 34 = .ok (.iconst 1, 1) := by decide +kernel
theorem dX1_replay_35 : decode cX1_replay 35 = .ok (.iadd, 1) := by decide +kernel
theorem dX1_replay_36 : decode cX1_replay 36 = .ok (.aaload, 1) := by decide +kernel
theorem dX1_replay_37 : decode cX1_replay 37 = .ok (.astore 4, 2) := by decide +kernel
theorem dX1_replay_39 : decode cX1_replay 39 = .ok (.aload 4, 2) := by decide +kernel
theorem dX1_replay_41 : decode cX1_replay 41 = .ok (.aload_n 0, 1) := by decide +kernel
theorem dX1_replay_42 : decode cX1_replay 42 = .ok (.getfield 11, 3) := by decide +kernel
theorem dX1_replay_45 : decode cX1_replay 45 = .ok (.iload_n 3, 1) := by decide +kernel
theorem dX1_replay_46 : decode cX1_replay 46 = .ok (.aaload, 1) := by decide +kernel
theorem dX1_replay_47 : decode cX1_replay 47 = .ok (.invokevirtual 59, 3) := by decide +kernel
theorem dX1_replay_50 : decode cX1_replay 50 = .ok (.aload_n 2, 1) := by decide +kernel
theorem dX1_replay_51 : decode cX1_replay 51 = .ok (.iload_n 3, 1) := by decide +kernel
theorem dX1_replay_52 : decode cX1_replay 52 = .ok (.invokevirtual 63, 3) := by decide +kernel
theorem dX1_replay_55 : decode cX1_replay 55 = .ok (.istore 5, 2) := by decide +kernel
theorem dX1_replay_57 : decode cX1_replay 57 = .ok (.aload_n 0, 1) := by decide +kernel
theorem dX1_replay_58 : decode cX1_replay 58 = .ok (.getfield 17, 3) := by decide +kernel
theorem dX1_replay_61 : decode cX1_replay 61 = .ok (.iload_n 3, 1) := by decide +kernel
theorem dX1_replay_62 : decode cX1_replay 62 = .ok (.aload_n 1, 1) := by decide +kernel
theorem dX1_replay_63 : decode cX1_replay 63 = .ok (.iload_n 3, 1) := by decide +kernel
theorem dX1_replay_64 : decode cX1_replay 64 = .ok (.iload 5, 2) := by decide +kernel
theorem dX1_replay_66 : decode cX1_replay 66 = .ok (.aload 4, 2) := by decide +kernel
theorem dX1_replay_68 : decode cX1_replay 68 = .ok (.invokevirtual 68, 3) := by decide +kernel
theorem dX1_replay_71 : decode cX1_replay 71 = .ok (.iastore, 1) := by decide +kernel
theorem dX1_replay_72 : decode cX1_replay 72 = .ok (.aload_n 0, 1) := by decide +kernel
theorem dX1_replay_73 : decode cX1_replay 73 = .ok (.getfield 21, 3) := by decide +kernel
theorem dX1_replay_76 : decode cX1_replay 76 = .ok (.iload_n 3, 1) := by decide +kernel
theorem dX1_replay_77 : decode cX1_replay 77 = .ok (.aload_n 1, 1) := by decide +kernel
theorem dX1_replay_78 : decode cX1_replay 78 = .ok (.iload_n 3, 1) := by decide +kernel
theorem dX1_replay_79 : decode cX1_replay 79 = .ok (.iload 5, 2) := by decide +kernel
theorem dX1_replay_81 : decode cX1_replay 81 = .ok (.aload 4, 2) := by decide +kernel
theorem dX1_replay_83 : decode cX1_replay 83 = .ok (.invokevirtual 72, 3) := by decide +kernel
theorem dX1_replay_86 : decode cX1_replay 86 = .ok (.iastore, 1) := by decide +kernel
theorem dX1_replay_87 : decode cX1_replay 87 = .ok (.iinc 3 1, 3) := by decide +kernel
theorem dX1_replay_90 : decode cX1_replay 90 = .ok (.goto (-75), 3) := by decide +kernel
theorem dX1_replay_93 : decode cX1_replay 93 = .ok (.return_, 1) := by decide +kernel
theorem dX1_wouldFit_0 : decode cX1_wouldFit 0 = .ok (.aload_n 1, 1) := by decide +kernel
theorem dX1_wouldFit_1 : decode cX1_wouldFit 1 = .ok (.aload_n 0, 1) := by decide +kernel
theorem dX1_wouldFit_2 : decode cX1_wouldFit 2 = .ok (.getfield 29, 3) := by decide +kernel
theorem dX1_wouldFit_5 : decode cX1_wouldFit 5 = .ok (.invokevirtual 75, 3) := by decide +kernel
theorem dX1_wouldFit_8 : decode cX1_wouldFit 8 = .ok (.ifCond .eq 5, 3) := by decide +kernel
theorem dX1_wouldFit_11 : decode cX1_wouldFit 11 = .ok (.iconst 0, 1) := by decide +kernel
theorem dX1_wouldFit_12 : decode cX1_wouldFit 12 = .ok (.ireturn, 1) := by decide +kernel
theorem dX1_wouldFit_13 : decode cX1_wouldFit 13 = .ok (.aload_n 0, 1) := by decide +kernel
theorem dX1_wouldFit_14 : decode cX1_wouldFit 14 = .ok (.getfield 25, 3) := by decide +kernel
theorem dX1_wouldFit_17 : decode cX1_wouldFit 17 = .ok (.aload_n 0, 1) := by decide +kernel
theorem dX1_wouldFit_18 : decode cX1_wouldFit 18 = .ok (.getfield 11, 3) := by decide +kernel
theorem dX1_wouldFit_21 : decode cX1_wouldFit 21 = .ok (.iconst 0, 1) := by decide +kernel
theorem dX1_wouldFit_22 : decode cX1_wouldFit 22 = .ok (.aaload, 1) := by decide +kernel
theorem dX1_wouldFit_23 : decode cX1_wouldFit 23 = .ok (.invokevirtual 59, 3) := by decide +kernel
theorem dX1_wouldFit_26 : decode cX1_wouldFit 26 = .ok (.aload_n 1, 1) := by decide +kernel
theorem dX1_wouldFit_27 : decode cX1_wouldFit 27 = .ok (.iconst 0, 1) := by decide +kernel
theorem dX1_wouldFit_28 : decode cX1_wouldFit 28 = .ok (.aload_n 0, 1) := by decide +kernel
theorem dX1_wouldFit_29 : decode cX1_wouldFit 29 = .ok (.getfield 25, 3) := by decide +kernel
theorem dX1_wouldFit_32 : decode cX1_wouldFit 32 = .ok (.invokevirtual 80, 3) := by decide +kernel
theorem dX1_wouldFit_35 : decode cX1_wouldFit 35 = .ok (.istore 6, 2) := by decide +kernel
theorem dX1_wouldFit_37 : decode cX1_wouldFit 37 = .ok (.iconst 0, 1) := by decide +kernel
theorem dX1_wouldFit_38 : decode cX1_wouldFit 38 = .ok (.istore 7, 2) := by decide +kernel
theorem dX1_wouldFit_40 : decode cX1_wouldFit 40 = .ok (.iload 7, 2) := by decide +kernel
theorem dX1_wouldFit_42 : decode cX1_wouldFit 42 = .ok (.aload_n 0, 1) := by decide +kernel
theorem dX1_wouldFit_43 : decode cX1_wouldFit 43 = .ok (.getfield 29, 3) := by decide +kernel
theorem dX1_wouldFit_46 : decode cX1_wouldFit 46 = .ok (.if_icmp .ge 101, 3) := by decide +kernel
theorem dX1_wouldFit_49 : decode cX1_wouldFit 49 = .ok (.iload 6, 2) := by decide +kernel
theorem dX1_wouldFit_51 : decode cX1_wouldFit 51 = .ok (.ifCond .eq 96, 3) := by decide +kernel
theorem dX1_wouldFit_54 : decode cX1_wouldFit 54 = .ok (.iload 7, 2) := by decide +kernel
theorem dX1_wouldFit_56 : decode cX1_wouldFit 56 = .ok (.iload 4, 2) := by decide +kernel
theorem dX1_wouldFit_58 : decode cX1_wouldFit 58 = .ok (.if_icmp .ne 8, 3) := by decide +kernel
theorem dX1_wouldFit_61 : decode cX1_wouldFit 61 = .ok (.iload 5, 2) := by decide +kernel
theorem dX1_wouldFit_63 : decode cX1_wouldFit 63 = .ok (.goto 4, 3) := by decide +kernel
theorem dX1_wouldFit_66 : decode cX1_wouldFit 66 = .ok (.iconst (-1), 1) := by decide +kernel
theorem dX1_wouldFit_67 : decode cX1_wouldFit 67 = .ok (.istore 8, 2) := by decide +kernel
theorem dX1_wouldFit_69 : decode cX1_wouldFit 69 = .ok (.aload_n 3, 1) := by decide +kernel
theorem dX1_wouldFit_70 : decode cX1_wouldFit 70 = .ok (.iload 8, 2) := by decide +kernel
theorem dX1_wouldFit_72 : decode cX1_wouldFit 72 = .ok (.iconst 2, 1) := by decide +kernel
theorem dX1_wouldFit_73 : decode cX1_wouldFit 73 = .ok (.if_icmp .ne 10, 3) := by decide +kernel
theorem dX1_wouldFit_76 : decode cX1_wouldFit 76 = .ok (.iload 7, 2) := by decide +kernel
theorem dX1_wouldFit_78 : decode cX1_wouldFit 78 = .ok (.iconst 1, 1) := by decide +kernel
theorem dX1_wouldFit_79 : decode cX1_wouldFit 79 = .ok (.iadd, 1) := by decide +kernel
theorem dX1_wouldFit_80 : decode cX1_wouldFit 80 = .ok (.goto 5, 3) := by decide +kernel
theorem dX1_wouldFit_83 : decode cX1_wouldFit 83 = .ok (.iload 7, 2) := by decide +kernel
theorem dX1_wouldFit_85 : decode cX1_wouldFit 85 = .ok (.invokevirtual 63, 3) := by decide +kernel
theorem dX1_wouldFit_88 : decode cX1_wouldFit 88 = .ok (.istore 9, 2) := by decide +kernel
theorem dX1_wouldFit_90 : decode cX1_wouldFit 90 = .ok (.iload 8, 2) := by decide +kernel
theorem dX1_wouldFit_92 : decode cX1_wouldFit 92 = .ok (.ifCond .eq 16, 3) := by decide +kernel
theorem dX1_wouldFit_95 : decode cX1_wouldFit 95 = .ok (.aload_n 2, 1) := by decide +kernel
theorem dX1_wouldFit_96 : decode cX1_wouldFit 96 = .ok (.iload 7, 2) := by decide +kernel
theorem dX1_wouldFit_98 : decode cX1_wouldFit 98 = .ok (.iload 9, 2) := by decide +kernel
theorem dX1_wouldFit_100 : decode cX1_wouldFit 100 = .ok (.aload_n 0, 1) := by decide +kernel
theorem dX1_wouldFit_101 : decode cX1_wouldFit 101 = .ok (.getfield 25, 3) := by decide +kernel
theorem dX1_wouldFit_104 : decode cX1_wouldFit 104 = .ok (.invokevirtual 68, 3) := by decide +kernel
theorem dX1_wouldFit_107 : decode cX1_wouldFit 107 = .ok (.pop, 1) := by decide +kernel
theorem dX1_wouldFit_108 : decode cX1_wouldFit 108 = .ok (.iload 8, 2) := by decide +kernel
theorem dX1_wouldFit_110 : decode cX1_wouldFit 110 = .ok (.iconst 1, 1) := by decide +kernel
theorem dX1_wouldFit_111 : decode cX1_wouldFit 111 = .ok (.if_icmp .eq 16, 3) := by decide +kernel
theorem dX1_wouldFit_114 : decode cX1_wouldFit 114 = .ok (.aload_n 2, 1) := by decide +kernel
theorem dX1_wouldFit_115 : decode cX1_wouldFit 115 = .ok (.iload 7, 2) := by decide +kernel
theorem dX1_wouldFit_117 : decode cX1_wouldFit 117 = .ok (.iload 9, 2) := by decide +kernel
theorem dX1_wouldFit_119 : decode cX1_wouldFit 119 = .ok (.aload_n 0, 1) := by decide +kernel
theorem dX1_wouldFit_120 : decode cX1_wouldFit 120 = .ok (.getfield 25, 3) := by decide +kernel
theorem dX1_wouldFit_123 : decode cX1_wouldFit 123 = .ok (.invokevirtual 72, 3) := by decide +kernel
theorem dX1_wouldFit_126 : decode cX1_wouldFit 126 = .ok (.pop, 1) := by decide +kernel
theorem dX1_wouldFit_127 : decode cX1_wouldFit 127 = .ok (.aload_n 1, 1) := by decide +kernel
theorem dX1_wouldFit_128 : decode cX1_wouldFit 128 = .ok (.iload 7, 2) := by decide +kernel
theorem dX1_wouldFit_130 : decode cX1_wouldFit 130 = .ok (.iconst 1, 1) := by decide +kernel
theorem dX1_wouldFit_131 : decode cX1_wouldFit 131 = .ok (.iadd, 1) := by decide +kernel
theorem dX1_wouldFit_132 : decode cX1_wouldFit 132 = .ok (.aload_n 0, 1) := by decide +kernel
theorem dX1_wouldFit_133 : decode cX1_wouldFit 133 = .ok (.getfield 25, 3) := by decide +kernel
theorem dX1_wouldFit_136 : decode cX1_wouldFit 136 = .ok (.invokevirtual 80, 3) := by decide +kernel
theorem dX1_wouldFit_139 : decode cX1_wouldFit 139 = .ok (.istore 6, 2) := by decide +kernel
theorem dX1_wouldFit_141 : decode cX1_wouldFit 141 = .ok (.iinc 7 1, 3) := by decide +kernel
theorem dX1_wouldFit_144 : decode cX1_wouldFit 144 = .ok (.goto (-104), 3) := by decide +kernel
theorem dX1_wouldFit_147 : decode cX1_wouldFit 147 = .ok (.iload 6, 2) := by decide +kernel
theorem dX1_wouldFit_149 : decode cX1_wouldFit 149 = .ok (.ireturn, 1) := by decide +kernel
theorem dX2_init_0 : decode cX2_init 0 = .ok (.aload_n 0, 1) := by decide +kernel
theorem dX2_init_1 : decode cX2_init 1 = .ok (.invokespecial 3, 3) := by decide +kernel
theorem dX2_init_4 : decode cX2_init 4 = .ok (.aload_n 0, 1) := by decide +kernel
theorem dX2_init_5 : decode cX2_init 5 = .ok (.new 9, 3) := by decide +kernel
theorem dX2_init_8 : decode cX2_init 8 = .ok (.dup, 1) := by decide +kernel
theorem dX2_init_9 : decode cX2_init 9 = .ok (.invokespecial 11, 3) := by decide +kernel
theorem dX2_init_12 : decode cX2_init 12 = .ok (.putfield 12, 3) := by decide +kernel
theorem dX2_init_15 : decode cX2_init 15 = .ok (.aload_n 0, 1) := by decide +kernel
theorem dX2_init_16 : decode cX2_init 16 = .ok (.iconst 3, 1) := by decide +kernel
theorem dX2_init_17 : decode cX2_init 17 = .ok (.newarray .int, 2) := by decide +kernel
theorem dX2_init_19 : decode cX2_init 19 = .ok (.putfield 18, 3) := by decide +kernel
theorem dX2_init_22 : decode cX2_init 22 = .ok (.aload_n 0, 1) := by decide +kernel
theorem dX2_init_23 : decode cX2_init 23 = .ok (.iconst 4, 1) := by decide +kernel
theorem dX2_init_24 : decode cX2_init 24 = .ok (.newarray .int, 2) := by decide +kernel
theorem dX2_init_26 : decode cX2_init 26 = .ok (.putfield 22, 3) := by decide +kernel
theorem dX2_init_29 : decode cX2_init 29 = .ok (.aload_n 0, 1) := by decide +kernel
theorem dX2_init_30 : decode cX2_init 30 = .ok (.iconst (-1), 1) := by decide +kernel
theorem dX2_init_31 : decode cX2_init 31 = .ok (.putfield 25, 3) := by decide +kernel
theorem dX2_init_34 : decode cX2_init 34 = .ok (.aload_n 0, 1) := by decide +kernel
theorem dX2_init_35 : decode cX2_init 35 = .ok (.iconst (-1), 1) := by decide +kernel
theorem dX2_init_36 : decode cX2_init 36 = .ok (.putfield 29, 3) := by decide +kernel
theorem dX2_init_39 : decode cX2_init 39 = .ok (.return_, 1) := by decide +kernel
theorem dX2_told_0 : decode cX2_told 0 = .ok (.iload_n 1, 1) := by decide +kernel
theorem dX2_told_1 : decode cX2_told 1 = .ok (.iconst (-1), 1) := by decide +kernel
theorem dX2_told_2 : decode cX2_told 2 = .ok (.if_icmp .ne 8, 3) := by decide +kernel
theorem dX2_told_5 : decode cX2_told 5 = .ok (.aload_n 0, 1) := by decide +kernel
theorem dX2_told_6 : decode cX2_told 6 = .ok (.getfield 25, 3) := by decide +kernel
theorem dX2_told_9 : decode cX2_told 9 = .ok (.ireturn, 1) := by decide +kernel
theorem dX2_told_10 : decode cX2_told 10 = .ok (.iload_n 1, 1) := by decide +kernel
theorem dX2_told_11 : decode cX2_told 11 = .ok (.ifCond .lt 25, 3) := by decide +kernel
theorem dX2_told_14 : decode cX2_told 14 = .ok (.iload_n 1, 1) := by decide +kernel
theorem dX2_told_15 : decode cX2_told 15 = .ok (.aload_n 0, 1) := by decide +kernel
theorem dX2_told_16 : decode cX2_told 16 = .ok (.getfield 25, 3) := by decide +kernel
theorem dX2_told_19 : decode cX2_told 19 = .ok (.if_icmp .ge 17, 3) := by decide +kernel
theorem dX2_told_22 : decode cX2_told 22 = .ok (.iload_n 1, 1) := by decide +kernel
theorem dX2_told_23 : decode cX2_told 23 = .ok (.iconst 3, 1) := by decide +kernel
theorem dX2_told_24 : decode cX2_told 24 = .ok (.if_icmp .ge 12, 3) := by decide +kernel
theorem dX2_told_27 : decode cX2_told 27 = .ok (.aload_n 0, 1) := by decide +kernel
theorem dX2_told_28 : decode cX2_told 28 = .ok (.getfield 18, 3) := by decide +kernel
theorem dX2_told_31 : decode cX2_told 31 = .ok (.iload_n 1, 1) := by decide +kernel
theorem dX2_told_32 : decode cX2_told 32 = .ok (.iaload, 1) := by decide +kernel
theorem dX2_told_33 : decode cX2_told 33 = .ok (.goto 4, 3) := by decide +kernel
theorem dX2_told_36 : decode cX2_told 36 = .ok (.iconst (-1), 1) := by decide +kernel
theorem dX2_told_37 : decode cX2_told 37 = .ok (.ireturn, 1) := by decide +kernel
theorem dX2_searchMend_0 : decode cX2_searchMend 0 = .ok (.aload_n 0, 1) := by decide +kernel
theorem dX2_searchMend_1 : decode cX2_searchMend 1 = .ok (.getfield 12, 3) := by decide +kernel
theorem dX2_searchMend_4 : decode cX2_searchMend 4 = .ok (.aload_n 1, 1) := by decide +kernel
theorem dX2_searchMend_5 : decode cX2_searchMend 5 = .ok (.invokevirtual 32, 3) := by decide +kernel
theorem dX2_searchMend_8 : decode cX2_searchMend 8 = .ok (.aload_n 0, 1) := by decide +kernel
theorem dX2_searchMend_9 : decode cX2_searchMend 9 = .ok (.iconst (-1), 1) := by decide +kernel
theorem dX2_searchMend_10 : decode cX2_searchMend 10 = .ok (.putfield 25, 3) := by decide +kernel
theorem dX2_searchMend_13 : decode cX2_searchMend 13 = .ok (.iconst 0, 1) := by decide +kernel
theorem dX2_searchMend_14 : decode cX2_searchMend 14 = .ok (.istore_n 3, 1) := by decide +kernel
theorem dX2_searchMend_15 : decode cX2_searchMend 15 = .ok (.iload_n 3, 1) := by decide +kernel
theorem dX2_searchMend_16 : decode cX2_searchMend 16 = .ok (.iconst 3, 1) := by decide +kernel
theorem dX2_searchMend_17 : decode cX2_searchMend 17 = .ok (.if_icmp .gt 39, 3) := by decide +kernel
theorem dX2_searchMend_20 : decode cX2_searchMend 20 = .ok (.aload_n 0, 1) := by decide +kernel
theorem dX2_searchMend_21 : decode cX2_searchMend 21 = .ok (.getfield 25, 3) := by decide +kernel
theorem dX2_searchMend_24 : decode cX2_searchMend 24 = .ok (.iconst (-1), 1) := by decide +kernel
theorem dX2_searchMend_25 : decode cX2_searchMend 25 = .ok (.if_icmp .ne 31, 3) := by decide +kernel
theorem dX2_searchMend_28 : decode cX2_searchMend 28 = .ok (.aload_n 0, 1) := by decide +kernel
theorem dX2_searchMend_29 : decode cX2_searchMend 29 = .ok (.getfield 12, 3) := by decide +kernel
theorem dX2_searchMend_32 : decode cX2_searchMend 32 = .ok (.aload_n 2, 1) := by decide +kernel
theorem dX2_searchMend_33 : decode cX2_searchMend 33 = .ok (.aload_n 0, 1) := by decide +kernel
theorem dX2_searchMend_34 : decode cX2_searchMend 34 = .ok (.getfield 18, 3) := by decide +kernel
theorem dX2_searchMend_37 : decode cX2_searchMend 37 = .ok (.iconst 0, 1) := by decide +kernel
theorem dX2_searchMend_38 : decode cX2_searchMend 38 = .ok (.iload_n 3, 1) := by decide +kernel
theorem dX2_searchMend_39 : decode cX2_searchMend 39 = .ok (.invokestatic 36, 3) := by decide +kernel
theorem dX2_searchMend_42 : decode cX2_searchMend 42 = .ok (.ifCond .eq 8, 3) := by decide +kernel
theorem dX2_searchMend_45 : decode cX2_searchMend 45 = .ok (.aload_n 0, 1) := by decide +kernel
theorem dX2_searchMend_46 : decode cX2_searchMend 46 = .ok (.iload_n 3, 1) := by decide +kernel
theorem dX2_searchMend_47 : decode cX2_searchMend 47 = .ok (.putfield 25, 3) := by decide +kernel
theorem dX2_searchMend_50 : decode cX2_searchMend 50 = .ok (.iinc 3 1, 3) := by decide +kernel
theorem dX2_searchMend_53 : decode cX2_searchMend 53 = .ok (.goto (-38), 3) := by decide +kernel
theorem dX2_searchMend_56 : decode cX2_searchMend 56 = .ok (.return_, 1) := by decide +kernel
theorem dX2_canMend_0 : decode cX2_canMend 0 = .ok (.iload_n 3, 1) := by decide +kernel
theorem dX2_canMend_1 : decode cX2_canMend 1 = .ok (.ifCond .lt 15, 3) := by decide +kernel
theorem dX2_canMend_4 : decode cX2_canMend 4 = .ok (.iload_n 3, 1) := by decide +kernel
theorem dX2_canMend_5 : decode cX2_canMend 5 = .ok (.iload 4, 2) := by decide +kernel
theorem dX2_canMend_7 : decode cX2_canMend 7 = .ok (.if_icmp .ge 9, 3) := by decide +kernel
theorem dX2_canMend_10 : decode cX2_canMend 10 = .ok (.iload_n 3, 1) := by decide +kernel
theorem dX2_canMend_11 : decode cX2_canMend 11 = .ok (.aload_n 2, 1) := by decide +kernel
theorem dX2_canMend_12 : decode cX2_canMend 12 = .ok (.arraylength, 1) := by decide +kernel
theorem dX2_canMend_13 : decode cX2_canMend 13 = .ok (.if_icmp .lt 9, 3) := by decide +kernel
theorem dX2_canMend_16 : decode cX2_canMend 16 = .ok (.aload_n 0, 1) := by decide +kernel
theorem dX2_canMend_17 : decode cX2_canMend 17 = .ok (.aload_n 1, 1) := by decide +kernel
theorem dX2_canMend_18 : decode cX2_canMend 18 = .ok (.invokevirtual 40, 3) := by decide +kernel
theorem dX2_canMend_21 : decode cX2_canMend 21 = .ok (.ireturn, 1) := by decide +kernel
theorem dX2_canMend_22 : decode cX2_canMend 22 = .ok (.aload_n 2, 1) := by decide +kernel
theorem dX2_canMend_23 : decode cX2_canMend 23 = .ok (.iload_n 3, 1) := by decide +kernel
theorem dX2_canMend_24 : decode cX2_canMend 24 = .ok (.invokestatic 44, 3) := by decide +kernel
theorem dX2_canMend_27 : decode cX2_canMend 27 = .ok (.istore 5, 2) := by decide +kernel
theorem dX2_canMend_29 : decode cX2_canMend 29 = .ok (.iload 5, 2) := by decide +kernel
theorem dX2_canMend_31 : decode cX2_canMend 31 = .ok (.bipush 16, 2) := by decide +kernel
theorem dX2_canMend_33 : decode cX2_canMend 33 = .ok (.if_icmp .ge 62, 3) := by decide +kernel
theorem dX2_canMend_36 : decode cX2_canMend 36 = .ok (.iload 5, 2) := by decide +kernel
theorem dX2_canMend_38 : decode cX2_canMend 38 = .ok (.bipush 8, 2) := by decide +kernel
theorem dX2_canMend_40 : decode cX2_canMend 40 = .ok (.irem, 1) := by decide +kernel
theorem dX2_canMend_41 : decode cX2_canMend 41 = .ok (.istore 6, 2) := by decide +kernel
theorem dX2_canMend_43 : decode cX2_canMend 43 = .ok (.aload_n 0, 1) := by decide +kernel
theorem dX2_canMend_44 : decode cX2_canMend 44 = .ok (.iload 6, 2) := by decide +kernel
theorem dX2_canMend_46 : decode cX2_canMend 46 = .ok (.iload 5, 2) := by decide +kernel
theorem dX2_canMend_48 : decode cX2_canMend 48 = .ok (.bipush 8, 2) := by decide +kernel
theorem dX2_canMend_50 : decode cX2_canMend 50 = .ok (.idiv, 1) := by decide +kernel
theorem dX2_canMend_51 : decode cX2_canMend 51 = .ok (.invokevirtual 48, 3) := by decide +kernel
theorem dX2_canMend_54 : decode cX2_canMend 54 = .ok (.ifCond .eq 35, 3) := by decide +kernel
theorem dX2_canMend_57 : decode cX2_canMend 57 = .ok (.aload_n 2, 1) := by decide +kernel
theorem dX2_canMend_58 : decode cX2_canMend 58 = .ok (.iload_n 3, 1) := by decide +kernel
theorem dX2_canMend_59 : decode cX2_canMend 59 = .ok (.iload 5, 2) := by decide +kernel
theorem dX2_canMend_61 : decode cX2_canMend 61 = .ok (.iastore, 1) := by decide +kernel
theorem dX2_canMend_62 : decode cX2_canMend 62 = .ok (.aload_n 0, 1) := by decide +kernel
theorem dX2_canMend_63 : decode cX2_canMend 63 = .ok (.aload_n 1, 1) := by decide +kernel
theorem dX2_canMend_64 : decode cX2_canMend 64 = .ok (.aload_n 2, 1) := by decide +kernel
theorem dX2_canMend_65 : decode cX2_canMend 65 = .ok (.iload_n 3, 1) := by decide +kernel
theorem dX2_canMend_66 : decode cX2_canMend 66 = .ok (.iconst 1, 1) := by decide +kernel
theorem dX2_canMend_67 : decode cX2_canMend 67 = .ok (.iadd, 1) := by decide +kernel
theorem dX2_canMend_68 : decode cX2_canMend 68 = .ok (.iload 4, 2) := by decide +kernel
theorem dX2_canMend_70 : decode cX2_canMend 70 = .ok (.invokestatic 36, 3) := by decide +kernel
theorem dX2_canMend_73 : decode cX2_canMend 73 = .ok (.istore 7, 2) := by decide +kernel
theorem dX2_canMend_75 : decode cX2_canMend 75 = .ok (.aload_n 0, 1) := by decide +kernel
theorem dX2_canMend_76 : decode cX2_canMend 76 = .ok (.iload 6, 2) := by decide +kernel
theorem dX2_canMend_78 : decode cX2_canMend 78 = .ok (.invokevirtual 52, 3) := by decide +kernel
theorem dX2_canMend_81 : decode cX2_canMend 81 = .ok (.pop, 1) := by decide +kernel
theorem dX2_canMend_82 : decode cX2_canMend 82 = .ok (.iload 7, 2) := by decide +kernel
theorem dX2_canMend_84 : decode cX2_canMend 84 = .ok (.ifCond .eq 5, 3) := by decide +kernel
theorem dX2_canMend_87 : decode cX2_canMend 87 = .ok (.iconst 1, 1) := by decide +kernel
theorem dX2_canMend_88 : decode cX2_canMend 88 = .ok (.ireturn, 1) := by decide +kernel
theorem dX2_canMend_89 : decode cX2_canMend 89 = .ok (.iinc 5 1, 3) := by decide +kernel
theorem dX2_canMend_92 : decode cX2_canMend 92 = .ok (.goto (-63), 3) := by decide +kernel
theorem dX2_canMend_95 : decode cX2_canMend 95 = .ok (.iconst 0, 1) := by decide +kernel
theorem dX2_canMend_96 : decode cX2_canMend 96 = .ok (.ireturn, 1) := by decide +kernel
theorem dX2_searchOpen_0 : decode cX2_searchOpen 0 = .ok (.aload_n 0, 1) := by decide +kernel
theorem dX2_searchOpen_1 : decode cX2_searchOpen 1 = .ok (.getfield 12, 3) := by decide +kernel
theorem dX2_searchOpen_4 : decode cX2_searchOpen 4 = .ok (.aload_n 1, 1) := by decide +kernel
theorem dX2_searchOpen_5 : decode cX2_searchOpen 5 = .ok (.invokevirtual 32, 3) := by decide +kernel
theorem dX2_searchOpen_8 : decode cX2_searchOpen 8 = .ok (.aload_n 0, 1) := by decide +kernel
theorem dX2_searchOpen_9 : decode cX2_searchOpen 9 = .ok (.iconst (-1), 1) := by decide +kernel
theorem dX2_searchOpen_10 : decode cX2_searchOpen 10 = .ok (.putfield 25, 3) := by decide +kernel
theorem dX2_searchOpen_13 : decode cX2_searchOpen 13 = .ok (.iconst 0, 1) := by decide +kernel
theorem dX2_searchOpen_14 : decode cX2_searchOpen 14 = .ok (.istore 4, 2) := by decide +kernel
theorem dX2_searchOpen_16 : decode cX2_searchOpen 16 = .ok (.iload 4, 2) := by decide +kernel
theorem dX2_searchOpen_18 : decode cX2_searchOpen 18 = .ok (.iconst 3, 1) := by decide +kernel
theorem dX2_searchOpen_19 : decode cX2_searchOpen 19 = .ok (.if_icmp .gt 42, 3) := by decide +kernel
theorem dX2_searchOpen_22 : decode cX2_searchOpen 22 = .ok (.aload_n 0, 1) := by decide +kernel
theorem dX2_searchOpen_23 : decode cX2_searchOpen 23 = .ok (.getfield 25, 3) := by decide +kernel
theorem dX2_searchOpen_26 : decode cX2_searchOpen 26 = .ok (.iconst (-1), 1) := by decide +kernel
theorem dX2_searchOpen_27 : decode cX2_searchOpen 27 = .ok (.if_icmp .ne 34, 3) := by decide +kernel
theorem dX2_searchOpen_30 : decode cX2_searchOpen 30 = .ok (.aload_n 0, 1) := by decide +kernel
theorem dX2_searchOpen_31 : decode cX2_searchOpen 31 = .ok (.getfield 12, 3) := by decide +kernel
theorem dX2_searchOpen_34 : decode cX2_searchOpen 34 = .ok (.aload_n 2, 1) := by decide +kernel
theorem dX2_searchOpen_35 : decode cX2_searchOpen 35 = .ok (.iload_n 3, 1) := by decide +kernel
theorem dX2_searchOpen_36 : decode cX2_searchOpen 36 = .ok (.aload_n 0, 1) := by decide +kernel
theorem dX2_searchOpen_37 : decode cX2_searchOpen 37 = .ok (.getfield 18, 3) := by decide +kernel
theorem dX2_searchOpen_40 : decode cX2_searchOpen 40 = .ok (.iconst 0, 1) := by decide +kernel
theorem dX2_searchOpen_41 : decode cX2_searchOpen 41 = .ok (.iload 4, 2) := by decide +kernel
theorem dX2_searchOpen_43 : decode cX2_searchOpen 43 = .ok (.invokestatic 56, 3) := by decide +kernel
theorem dX2_searchOpen_46 : decode cX2_searchOpen 46 = .ok (.ifCond .eq 9, 3) := by decide +kernel
theorem dX2_searchOpen_49 : decode cX2_searchOpen 49 = .ok (.aload_n 0, 1) := by decide +kernel
theorem dX2_searchOpen_50 : decode cX2_searchOpen 50 = .ok (.iload 4, 2) := by decide +kernel
theorem dX2_searchOpen_52 : decode cX2_searchOpen 52 = .ok (.putfield 25, 3) := by decide +kernel
theorem dX2_searchOpen_55 : decode cX2_searchOpen 55 = .ok (.iinc 4 1, 3) := by decide +kernel
theorem dX2_searchOpen_58 : decode cX2_searchOpen 58 = .ok (.goto (-42), 3) := by decide +kernel
theorem dX2_searchOpen_61 : decode cX2_searchOpen 61 = .ok (.return_, 1) := by decide +kernel
theorem dX2_canOpen_0 : decode cX2_canOpen 0 = .ok (.iload 4, 2) := by decide +kernel
theorem dX2_canOpen_2 : decode cX2_canOpen 2 = .ok (.ifCond .lt 17, 3) := by decide +kernel
theorem dX2_canOpen_5 : decode cX2_canOpen 5 = .ok (.iload 4, 2) := by decide +kernel
theorem dX2_canOpen_7 : decode cX2_canOpen 7 = .ok (.iload 5, 2) := by decide +kernel
theorem dX2_canOpen_9 : decode cX2_canOpen 9 = .ok (.if_icmp .ge 10, 3) := by decide +kernel
theorem dX2_canOpen_12 : decode cX2_canOpen 12 = .ok (.iload 4, 2) := by decide +kernel
theorem dX2_canOpen_14 : decode cX2_canOpen 14 = .ok (.aload_n 3, 1) := by decide +kernel
theorem dX2_canOpen_15 : decode cX2_canOpen 15 = .ok (.arraylength, 1) := by decide +kernel
theorem dX2_canOpen_16 : decode cX2_canOpen 16 = .ok (.if_icmp .lt 26, 3) := by decide +kernel
theorem dX2_canOpen_19 : decode cX2_canOpen 19 = .ok (.aload_n 0, 1) := by decide +kernel
theorem dX2_canOpen_20 : decode cX2_canOpen 20 = .ok (.aload_n 1, 1) := by decide +kernel
theorem dX2_canOpen_21 : decode cX2_canOpen 21 = .ok (.invokevirtual 60, 3) := by decide +kernel
theorem dX2_canOpen_24 : decode cX2_canOpen 24 = .ok (.iload_n 2, 1) := by decide +kernel
theorem dX2_canOpen_25 : decode cX2_canOpen 25 = .ok (.if_icmp .lt 15, 3) := by decide +kernel
theorem dX2_canOpen_28 : decode cX2_canOpen 28 = .ok (.aload_n 0, 1) := by decide +kernel
theorem dX2_canOpen_29 : decode cX2_canOpen 29 = .ok (.aload_n 1, 1) := by decide +kernel
theorem dX2_canOpen_30 : decode cX2_canOpen 30 = .ok (.invokevirtual 40, 3) := by decide +kernel
theorem dX2_canOpen_33 : decode cX2_canOpen 33 = .ok (.ifCond .eq 7, 3) := by decide +kernel
theorem dX2_canOpen_36 : decode cX2_canOpen 36 = .ok (.iconst 1, 1) := by decide +kernel
theorem dX2_canOpen_37 : decode cX2_canOpen 37 = .ok (.goto 4, 3) := by decide +kernel
theorem dX2_canOpen_40 : decode cX2_canOpen 40 = .ok (.iconst 0, 1) := by decide +kernel
theorem dX2_canOpen_41 : decode cX2_canOpen 41 = .ok (.ireturn, 1) := by decide +kernel
theorem dX2_canOpen_42 : decode cX2_canOpen 42 = .ok (.aload_n 3, 1) := by decide +kernel
theorem dX2_canOpen_43 : decode cX2_canOpen 43 = .ok (.iload 4, 2) := by decide +kernel
theorem dX2_canOpen_45 : decode cX2_canOpen 45 = .ok (.invokestatic 44, 3) := by decide +kernel
theorem dX2_canOpen_48 : decode cX2_canOpen 48 = .ok (.istore 6, 2) := by decide +kernel
theorem dX2_canOpen_50 : decode cX2_canOpen 50 = .ok (.iload 6, 2) := by decide +kernel
theorem dX2_canOpen_52 : decode cX2_canOpen 52 = .ok (.aload_n 0, 1) := by decide +kernel
theorem dX2_canOpen_53 : decode cX2_canOpen 53 = .ok (.invokevirtual 64, 3) := by decide +kernel
theorem dX2_canOpen_56 : decode cX2_canOpen 56 = .ok (.if_icmp .ge 60, 3) := by decide +kernel
theorem dX2_canOpen_59 : decode cX2_canOpen 59 = .ok (.aload_n 0, 1) := by decide +kernel
theorem dX2_canOpen_60 : decode cX2_canOpen 60 = .ok (.iload 6, 2) := by decide +kernel
theorem dX2_canOpen_62 : decode cX2_canOpen 62 = .ok (.invokevirtual 52, 3) := by decide +kernel
theorem dX2_canOpen_65 : decode cX2_canOpen 65 = .ok (.istore 7, 2) := by decide +kernel
theorem dX2_canOpen_67 : decode cX2_canOpen 67 = .ok (.iload 7, 2) := by decide +kernel
theorem dX2_canOpen_69 : decode cX2_canOpen 69 = .ok (.iconst (-1), 1) := by decide +kernel
theorem dX2_canOpen_70 : decode cX2_canOpen 70 = .ok (.if_icmp .eq 40, 3) := by decide +kernel
theorem dX2_canOpen_73 : decode cX2_canOpen 73 = .ok (.aload_n 3, 1) := by decide +kernel
theorem dX2_canOpen_74 : decode cX2_canOpen 74 = .ok (.iload 4, 2) := by decide +kernel
theorem dX2_canOpen_76 : decode cX2_canOpen 76 = .ok (.iload 6, 2) := by decide +kernel
theorem dX2_canOpen_78 : decode cX2_canOpen 78 = .ok (.iastore, 1) := by decide +kernel
theorem dX2_canOpen_79 : decode cX2_canOpen 79 = .ok (.aload_n 0, 1) := by decide +kernel
theorem dX2_canOpen_80 : decode cX2_canOpen 80 = .ok (.aload_n 1, 1) := by decide +kernel
theorem dX2_canOpen_81 : decode cX2_canOpen 81 = .ok (.iload_n 2, 1) := by decide +kernel
theorem dX2_canOpen_82 : decode cX2_canOpen 82 = .ok (.aload_n 3, 1) := by decide +kernel
theorem dX2_canOpen_83 : decode cX2_canOpen 83 = .ok (.iload 4, 2) := by decide +kernel
theorem dX2_canOpen_85 : decode cX2_canOpen 85 = .ok (.iconst 1, 1) := by decide +kernel
theorem dX2_canOpen_86 : decode cX2_canOpen 86 = .ok (.iadd, 1) := by decide +kernel
theorem dX2_canOpen_87 : decode cX2_canOpen 87 = .ok (.iload 5, 2) := by decide +kernel
theorem dX2_canOpen_89 : decode cX2_canOpen 89 = .ok (.invokestatic 56, 3) := by decide +kernel
theorem dX2_canOpen_92 : decode cX2_canOpen 92 = .ok (.istore 8, 2) := by decide +kernel
theorem dX2_canOpen_94 : decode cX2_canOpen 94 = .ok (.aload_n 0, 1) := by decide +kernel
theorem dX2_canOpen_95 : decode cX2_canOpen 95 = .ok (.iload 6, 2) := by decide +kernel
theorem dX2_canOpen_97 : decode cX2_canOpen 97 = .ok (.iload 7, 2) := by decide +kernel
theorem dX2_canOpen_99 : decode cX2_canOpen 99 = .ok (.invokevirtual 48, 3) := by decide +kernel
theorem dX2_canOpen_102 : decode cX2_canOpen 102 = .ok (.pop, 1) := by decide +kernel
theorem dX2_canOpen_103 : decode cX2_canOpen 103 = .ok (.iload 8, 2) := by decide +kernel
theorem dX2_canOpen_105 : decode cX2_canOpen 105 = .ok (.ifCond .eq 5, 3) := by decide +kernel
theorem dX2_canOpen_108 : decode cX2_canOpen 108 = .ok (.iconst 1, 1) := by decide +kernel
theorem dX2_canOpen_109 : decode cX2_canOpen 109 = .ok (.ireturn, 1) := by decide +kernel
theorem dX2_canOpen_110 : decode cX2_canOpen 110 = .ok (.iinc 6 1, 3) := by decide +kernel
theorem dX2_canOpen_113 : decode cX2_canOpen 113 = .ok (.goto (-63), 3) := by decide +kernel
theorem dX2_canOpen_116 : decode cX2_canOpen 116 = .ok (.iconst 0, 1) := by decide +kernel
theorem dX2_canOpen_117 : decode cX2_canOpen 117 = .ok (.ireturn, 1) := by decide +kernel
theorem dX2_leastAt_0 : decode cX2_leastAt 0 = .ok (.iload_n 1, 1) := by decide +kernel
theorem dX2_leastAt_1 : decode cX2_leastAt 1 = .ok (.iconst 1, 1) := by decide +kernel
theorem dX2_leastAt_2 : decode cX2_leastAt 2 = .ok (.if_icmp .lt 17, 3) := by decide +kernel
theorem dX2_leastAt_5 : decode cX2_leastAt 5 = .ok (.iload_n 1, 1) := by decide +kernel
theorem dX2_leastAt_6 : decode cX2_leastAt 6 = .ok (.aload_n 0, 1) := by decide +kernel
theorem dX2_leastAt_7 : decode cX2_leastAt 7 = .ok (.arraylength, 1) := by decide +kernel
theorem dX2_leastAt_8 : decode cX2_leastAt 8 = .ok (.if_icmp .gt 11, 3) := by decide +kernel
theorem dX2_leastAt_11 : decode cX2_leastAt 11 = .ok (.aload_n 0, 1) := by decide +kernel
theorem dX2_leastAt_12 : decode cX2_leastAt 12 = .ok (.iload_n 1, 1) := by decide +kernel
theorem dX2_leastAt_13 : decode cX2_leastAt 13 = .ok (.iconst 1, 1) := by decide +kernel
theorem dX2_leastAt_14 : decode cX2_leastAt 14 = .ok (.isub, 1) := by decide +kernel
theorem dX2_leastAt_15 : decode cX2_leastAt 15 = .ok (.iaload, 1) := by decide +kernel
theorem dX2_leastAt_16 : decode cX2_leastAt 16 = .ok (.goto 4, 3) := by decide +kernel
theorem dX2_leastAt_19 : decode cX2_leastAt 19 = .ok (.iconst 0, 1) := by decide +kernel
theorem dX2_leastAt_20 : decode cX2_leastAt 20 = .ok (.ireturn, 1) := by decide +kernel
theorem dX2_playOn_0 : decode cX2_playOn 0 = .ok (.aload_n 0, 1) := by decide +kernel
theorem dX2_playOn_1 : decode cX2_playOn 1 = .ok (.getfield 12, 3) := by decide +kernel
theorem dX2_playOn_4 : decode cX2_playOn 4 = .ok (.aload_n 1, 1) := by decide +kernel
theorem dX2_playOn_5 : decode cX2_playOn 5 = .ok (.invokevirtual 32, 3) := by decide +kernel
theorem dX2_playOn_8 : decode cX2_playOn 8 = .ok (.iload_n 3, 1) := by decide +kernel
theorem dX2_playOn_9 : decode cX2_playOn 9 = .ok (.iconst 3, 1) := by decide +kernel
theorem dX2_playOn_10 : decode cX2_playOn 10 = .ok (.invokestatic 68, 3) := by decide +kernel
theorem dX2_playOn_13 : decode cX2_playOn 13 = .ok (.istore 5, 2) := by decide +kernel
theorem dX2_playOn_15 : decode cX2_playOn 15 = .ok (.aload_n 0, 1) := by decide +kernel
theorem dX2_playOn_16 : decode cX2_playOn 16 = .ok (.getfield 12, 3) := by decide +kernel
theorem dX2_playOn_19 : decode cX2_playOn 19 = .ok (.aload_n 2, 1) := by decide +kernel
theorem dX2_playOn_20 : decode cX2_playOn 20 = .ok (.aload_n 0, 1) := by decide +kernel
theorem dX2_playOn_21 : decode cX2_playOn 21 = .ok (.getfield 22, 3) := by decide +kernel
theorem dX2_playOn_24 : decode cX2_playOn 24 = .ok (.iload 5, 2) := by decide +kernel
theorem dX2_playOn_26 : decode cX2_playOn 26 = .ok (.iload 4, 2) := by decide +kernel
theorem dX2_playOn_28 : decode cX2_playOn 28 = .ok (.invokestatic 74, 3) := by decide +kernel
theorem dX2_playOn_31 : decode cX2_playOn 31 = .ok (.istore 6, 2) := by decide +kernel
theorem dX2_playOn_33 : decode cX2_playOn 33 = .ok (.aload_n 0, 1) := by decide +kernel
theorem dX2_playOn_34 : decode cX2_playOn 34 = .ok (.iload 5, 2) := by decide +kernel
theorem dX2_playOn_36 : decode cX2_playOn 36 = .ok (.ifCond .lt 23, 3) := by decide +kernel
theorem dX2_playOn_39 : decode cX2_playOn 39 = .ok (.iload 5, 2) := by decide +kernel
theorem dX2_playOn_41 : decode cX2_playOn 41 = .ok (.aload_n 0, 1) := by decide +kernel
theorem dX2_playOn_42 : decode cX2_playOn 42 = .ok (.getfield 22, 3) := by decide +kernel
theorem dX2_playOn_45 : decode cX2_playOn 45 = .ok (.arraylength, 1) := by decide +kernel
theorem dX2_playOn_46 : decode cX2_playOn 46 = .ok (.if_icmp .ge 13, 3) := by decide +kernel
theorem dX2_playOn_49 : decode cX2_playOn 49 = .ok (.aload_n 0, 1) := by decide +kernel
theorem dX2_playOn_50 : decode cX2_playOn 50 = .ok (.getfield 22, 3) := by decide +kernel
theorem dX2_playOn_53 : decode cX2_playOn 53 = .ok (.iload 5, 2) := by decide +kernel
theorem dX2_playOn_55 : decode cX2_playOn 55 = .ok (.iaload, 1) := by decide +kernel
theorem dX2_playOn_56 : decode cX2_playOn 56 = .ok (.goto 4, 3) := by decide +kernel
theorem dX2_playOn_59 : decode cX2_playOn 59 = .ok (.iconst (-1), 1) := by decide +kernel
theorem dX2_playOn_60 : decode cX2_playOn 60 = .ok (.putfield 29, 3) := by decide +kernel
theorem dX2_playOn_63 : decode cX2_playOn 63 = .ok (.iload 6, 2) := by decide +kernel
theorem dX2_playOn_65 : decode cX2_playOn 65 = .ok (.ireturn, 1) := by decide +kernel
theorem dX2_firstMove_0 : decode cX2_firstMove 0 = .ok (.aload_n 0, 1) := by decide +kernel
theorem dX2_firstMove_1 : decode cX2_firstMove 1 = .ok (.getfield 29, 3) := by decide +kernel
theorem dX2_firstMove_4 : decode cX2_firstMove 4 = .ok (.ireturn, 1) := by decide +kernel
theorem dX2_bestWorth_0 : decode cX2_bestWorth 0 = .ok (.iload_n 3, 1) := by decide +kernel
theorem dX2_bestWorth_1 : decode cX2_bestWorth 1 = .ok (.ifCond .le 9, 3) := by decide +kernel
theorem dX2_bestWorth_4 : decode cX2_bestWorth 4 = .ok (.iload_n 3, 1) := by decide +kernel
theorem dX2_bestWorth_5 : decode cX2_bestWorth 5 = .ok (.aload_n 2, 1) := by decide +kernel
theorem dX2_bestWorth_6 : decode cX2_bestWorth 6 = .ok (.arraylength, 1) := by decide +kernel
theorem dX2_bestWorth_7 : decode cX2_bestWorth 7 = .ok (.if_icmp .lt 21, 3) := by decide +kernel
theorem dX2_bestWorth_10 : decode cX2_bestWorth 10 = .ok (.aload_n 0, 1) := by decide +kernel
theorem dX2_bestWorth_11 : decode cX2_bestWorth 11 = .ok (.aload_n 1, 1) := by decide +kernel
theorem dX2_bestWorth_12 : decode cX2_bestWorth 12 = .ok (.invokevirtual 40, 3) := by decide +kernel
theorem dX2_bestWorth_15 : decode cX2_bestWorth 15 = .ok (.ifCond .eq 11, 3) := by decide +kernel
theorem dX2_bestWorth_18 : decode cX2_bestWorth 18 = .ok (.aload_n 0, 1) := by decide +kernel
theorem dX2_bestWorth_19 : decode cX2_bestWorth 19 = .ok (.aload_n 1, 1) := by decide +kernel
theorem dX2_bestWorth_20 : decode cX2_bestWorth 20 = .ok (.invokevirtual 60, 3) := by decide +kernel
theorem dX2_bestWorth_23 : decode cX2_bestWorth 23 = .ok (.goto 4, 3) := by decide +kernel
theorem dX2_bestWorth_26 : decode cX2_bestWorth 26 = .ok (.iconst (-1), 1) := by decide +kernel
theorem dX2_bestWorth_27 : decode cX2_bestWorth 27 = .ok (.ireturn, 1) := by decide +kernel
theorem dX2_bestWorth_28 : decode cX2_bestWorth 28 = .ok (.iconst 0, 1) := by decide +kernel
theorem dX2_bestWorth_29 : decode cX2_bestWorth 29 = .ok (.istore 5, 2) := by decide +kernel
theorem dX2_bestWorth_31 : decode cX2_bestWorth 31 = .ok (.iconst (-1), 1) := by decide +kernel
theorem dX2_bestWorth_32 : decode cX2_bestWorth 32 = .ok (.istore 6, 2) := by decide +kernel
theorem dX2_bestWorth_34 : decode cX2_bestWorth 34 = .ok (.iconst 0, 1) := by decide +kernel
theorem dX2_bestWorth_35 : decode cX2_bestWorth 35 = .ok (.istore 7, 2) := by decide +kernel
theorem dX2_bestWorth_37 : decode cX2_bestWorth 37 = .ok (.iload 7, 2) := by decide +kernel
theorem dX2_bestWorth_39 : decode cX2_bestWorth 39 = .ok (.bipush 8, 2) := by decide +kernel
theorem dX2_bestWorth_41 : decode cX2_bestWorth 41 = .ok (.if_icmp .gt 82, 3) := by decide +kernel
theorem dX2_bestWorth_44 : decode cX2_bestWorth 44 = .ok (.iload 7, 2) := by decide +kernel
theorem dX2_bestWorth_46 : decode cX2_bestWorth 46 = .ok (.bipush 8, 2) := by decide +kernel
theorem dX2_bestWorth_48 : decode cX2_bestWorth 48 = .ok (.if_icmp .eq 14, 3) := by decide +kernel
theorem dX2_bestWorth_51 : decode cX2_bestWorth 51 = .ok (.aload_n 0, 1) := by decide +kernel
theorem dX2_bestWorth_52 : decode cX2_bestWorth 52 = .ok (.iload 7, 2) := by decide +kernel
theorem dX2_bestWorth_54 : decode cX2_bestWorth 54 = .ok (.iload 4, 2) := by decide +kernel
theorem dX2_bestWorth_56 : decode cX2_bestWorth 56 = .ok (.invokevirtual 48, 3) := by decide +kernel
theorem dX2_bestWorth_59 : decode cX2_bestWorth 59 = .ok (.ifCond .eq 58, 3) := by decide +kernel
theorem dX2_bestWorth_62 : decode cX2_bestWorth 62 = .ok (.aload_n 0, 1) := by decide +kernel
theorem dX2_bestWorth_63 : decode cX2_bestWorth 63 = .ok (.aload_n 1, 1) := by decide +kernel
theorem dX2_bestWorth_64 : decode cX2_bestWorth 64 = .ok (.aload_n 2, 1) := by decide +kernel
theorem dX2_bestWorth_65 : decode cX2_bestWorth 65 = .ok (.iload_n 3, 1) := by decide +kernel
theorem dX2_bestWorth_66 : decode cX2_bestWorth 66 = .ok (.iconst 1, 1) := by decide +kernel
theorem dX2_bestWorth_67 : decode cX2_bestWorth 67 = .ok (.isub, 1) := by decide +kernel
theorem dX2_bestWorth_68 : decode cX2_bestWorth 68 = .ok (.iconst 1, 1) := by decide +kernel
theorem dX2_bestWorth_69 : decode cX2_bestWorth 69 = .ok (.iload 4, 2) := by decide +kernel
theorem dX2_bestWorth_71 : decode cX2_bestWorth 71 = .ok (.isub, 1) := by decide +kernel
theorem dX2_bestWorth_72 : decode cX2_bestWorth 72 = .ok (.invokestatic 74, 3) := by decide +kernel
theorem dX2_bestWorth_75 : decode cX2_bestWorth 75 = .ok (.istore 8, 2) := by decide +kernel
theorem dX2_bestWorth_77 : decode cX2_bestWorth 77 = .ok (.iload 7, 2) := by decide +kernel
theorem dX2_bestWorth_79 : decode cX2_bestWorth 79 = .ok (.bipush 8, 2) := by decide +kernel
theorem dX2_bestWorth_81 : decode cX2_bestWorth 81 = .ok (.if_icmp .eq 10, 3) := by decide +kernel
theorem dX2_bestWorth_84 : decode cX2_bestWorth 84 = .ok (.aload_n 0, 1) := by decide +kernel
theorem dX2_bestWorth_85 : decode cX2_bestWorth 85 = .ok (.iload 7, 2) := by decide +kernel
theorem dX2_bestWorth_87 : decode cX2_bestWorth 87 = .ok (.invokevirtual 52, 3) := by decide +kernel
theorem dX2_bestWorth_90 : decode cX2_bestWorth 90 = .ok (.pop, 1) := by decide +kernel
theorem dX2_bestWorth_91 : decode cX2_bestWorth 91 = .ok (.iload 6, 2) := by decide +kernel
theorem dX2_bestWorth_93 : decode cX2_bestWorth 93 = .ok (.iconst (-1), 1) := by decide +kernel
theorem dX2_bestWorth_94 : decode cX2_bestWorth 94 = .ok (.if_icmp .eq 15, 3) := by decide +kernel
theorem dX2_bestWorth_97 : decode cX2_bestWorth 97 = .ok (.iload 8, 2) := by decide +kernel
theorem dX2_bestWorth_99 : decode cX2_bestWorth 99 = .ok (.iload 5, 2) := by decide +kernel
theorem dX2_bestWorth_101 : decode cX2_bestWorth 101 = .ok (.iload 4, 2) := by decide +kernel
theorem dX2_bestWorth_103 : decode cX2_bestWorth 103 = .ok (.invokestatic 78, 3) := by decide +kernel
theorem dX2_bestWorth_106 : decode cX2_bestWorth 106 = .ok (.ifCond .eq 11, 3) := by decide +kernel
theorem dX2_bestWorth_109 : decode cX2_bestWorth 109 = .ok (.iload 8, 2) := by decide +kernel
theorem dX2_bestWorth_111 : decode cX2_bestWorth 111 = .ok (.istore 5, 2) := by decide +kernel
theorem dX2_bestWorth_113 : decode cX2_bestWorth 113 = .ok (.iload 7, 2) := by decide +kernel
theorem dX2_bestWorth_115 : decode cX2_bestWorth 115 = .ok (.istore 6, 2) := by decide +kernel
theorem dX2_bestWorth_117 : decode cX2_bestWorth 117 = .ok (.iinc 7 1, 3) := by decide +kernel
theorem dX2_bestWorth_120 : decode cX2_bestWorth 120 = .ok (.goto (-83), 3) := by decide +kernel
theorem dX2_bestWorth_123 : decode cX2_bestWorth 123 = .ok (.aload_n 2, 1) := by decide +kernel
theorem dX2_bestWorth_124 : decode cX2_bestWorth 124 = .ok (.iload_n 3, 1) := by decide +kernel
theorem dX2_bestWorth_125 : decode cX2_bestWorth 125 = .ok (.iload 6, 2) := by decide +kernel
theorem dX2_bestWorth_127 : decode cX2_bestWorth 127 = .ok (.iastore, 1) := by decide +kernel
theorem dX2_bestWorth_128 : decode cX2_bestWorth 128 = .ok (.iload 5, 2) := by decide +kernel
theorem dX2_bestWorth_130 : decode cX2_bestWorth 130 = .ok (.ireturn, 1) := by decide +kernel
theorem dX2_isBetter_0 : decode cX2_isBetter 0 = .ok (.iload_n 2, 1) := by decide +kernel
theorem dX2_isBetter_1 : decode cX2_isBetter 1 = .ok (.ifCond .ne 16, 3) := by decide +kernel
theorem dX2_isBetter_4 : decode cX2_isBetter 4 = .ok (.iload_n 0, 1) := by decide +kernel
theorem dX2_isBetter_5 : decode cX2_isBetter 5 = .ok (.iload_n 1, 1) := by decide +kernel
theorem dX2_isBetter_6 : decode cX2_isBetter 6 = .ok (.if_icmp .le 7, 3) := by decide +kernel
theorem dX2_isBetter_9 : decode cX2_isBetter 9 = .ok (.iconst 1, 1) := by decide +kernel
theorem dX2_isBetter_10 : decode cX2_isBetter 10 = .ok (.goto 17, 3) := by decide +kernel
theorem dX2_isBetter_13 : decode cX2_isBetter 13 = .ok (.iconst 0, 1) := by decide +kernel
theorem dX2_isBetter_14 : decode cX2_isBetter 14 = .ok (.goto 13, 3) := by decide +kernel
theorem dX2_isBetter_17 : decode cX2_isBetter 17 = .ok (.iload_n 0, 1) := by decide +kernel
theorem dX2_isBetter_18 : decode cX2_isBetter 18 = .ok (.iload_n 1, 1) := by decide +kernel
theorem dX2_isBetter_19 : decode cX2_isBetter 19 = .ok (.if_icmp .ge 7, 3) := by decide +kernel
theorem dX2_isBetter_22 : decode cX2_isBetter 22 = .ok (.iconst 1, 1) := by decide +kernel
theorem dX2_isBetter_23 : decode cX2_isBetter 23 = .ok (.goto 4, 3) := by decide +kernel
theorem dX2_isBetter_26 : decode cX2_isBetter 26 = .ok (.iconst 0, 1) := by decide +kernel
theorem dX2_isBetter_27 : decode cX2_isBetter 27 = .ok (.ireturn, 1) := by decide +kernel
theorem dX3_init_0 : decode cX3_init 0 = .ok (.aload_n 0, 1) := by decide +kernel
theorem dX3_init_1 : decode cX3_init 1 = .ok (.invokespecial 1, 3) := by decide +kernel
theorem dX3_init_4 : decode cX3_init 4 = .ok (.aload_n 0, 1) := by decide +kernel
theorem dX3_init_5 : decode cX3_init 5 = .ok (.bipush 6, 2) := by decide +kernel
theorem dX3_init_7 : decode cX3_init 7 = .ok (.newarray .int, 2) := by decide +kernel
theorem dX3_init_9 : decode cX3_init 9 = .ok (.dup, 1) := by decide +kernel
theorem dX3_init_10 : decode cX3_init 10 = .ok (.iconst 0, 1) := by decide +kernel
theorem dX3_init_11 : decode cX3_init 11 = .ok (.iconst 0, 1) := by decide +kernel
theorem dX3_init_12 : decode cX3_init 12 = .ok (.iastore, 1) := by decide +kernel
theorem dX3_init_13 : decode cX3_init 13 = .ok (.dup, 1) := by decide +kernel
theorem dX3_init_14 : decode cX3_init 14 = .ok (.iconst 1, 1) := by decide +kernel
theorem dX3_init_15 : decode cX3_init 15 = .ok (.iconst 3, 1) := by decide +kernel
theorem dX3_init_16 : decode cX3_init 16 = .ok (.iastore, 1) := by decide +kernel
theorem dX3_init_17 : decode cX3_init 17 = .ok (.dup, 1) := by decide +kernel
theorem dX3_init_18 : decode cX3_init 18 = .ok (.iconst 2, 1) := by decide +kernel
theorem dX3_init_19 : decode cX3_init 19 = .ok (.iconst 0, 1) := by decide +kernel
theorem dX3_init_20 : decode cX3_init 20 = .ok (.iastore, 1) := by decide +kernel
theorem dX3_init_21 : decode cX3_init 21 = .ok (.dup, 1) := by decide +kernel
theorem dX3_init_22 : decode cX3_init 22 = .ok (.iconst 3, 1) := by decide +kernel
theorem dX3_init_23 : decode cX3_init 23 = .ok (.bipush 6, 2) := by decide +kernel
theorem dX3_init_25 : decode cX3_init 25 = .ok (.iastore, 1) := by decide +kernel
theorem dX3_init_26 : decode cX3_init 26 = .ok (.dup, 1) := by decide +kernel
theorem dX3_init_27 : decode cX3_init 27 = .ok (.iconst 4, 1) := by decide +kernel
theorem dX3_init_28 : decode cX3_init 28 = .ok (.iconst 4, 1) := by decide +kernel
theorem dX3_init_29 : decode cX3_init 29 = .ok (.iastore, 1) := by decide +kernel
theorem dX3_init_30 : decode cX3_init 30 = .ok (.dup, 1) := by decide +kernel
theorem dX3_init_31 : decode cX3_init 31 = .ok (.iconst 5, 1) := by decide +kernel
theorem dX3_init_32 : decode cX3_init 32 = .ok (.sipush 255, 3) := by decide +kernel
theorem dX3_init_35 : decode cX3_init 35 = .ok (.iastore, 1) := by decide +kernel
theorem dX3_init_36 : decode cX3_init 36 = .ok (.putfield 7, 3) := by decide +kernel
theorem dX3_init_39 : decode cX3_init 39 = .ok (.return_, 1) := by decide +kernel
theorem dX3_allows_0 : decode cX3_allows 0 = .ok (.iload_n 0, 1) := by decide +kernel
theorem dX3_allows_1 : decode cX3_allows 1 = .ok (.ifCond .lt 28, 3) := by decide +kernel
theorem dX3_allows_4 : decode cX3_allows 4 = .ok (.iload_n 0, 1) := by decide +kernel
theorem dX3_allows_5 : decode cX3_allows 5 = .ok (.getstatic 13, 3) := by decide +kernel
theorem dX3_allows_8 : decode cX3_allows 8 = .ok (.arraylength, 1) := by decide +kernel
theorem dX3_allows_9 : decode cX3_allows 9 = .ok (.if_icmp .ge 20, 3) := by decide +kernel
theorem dX3_allows_12 : decode cX3_allows 12 = .ok (.iload_n 1, 1) := by decide +kernel
theorem dX3_allows_13 : decode cX3_allows 13 = .ok (.ifCond .lt 16, 3) := by decide +kernel
theorem dX3_allows_16 : decode cX3_allows 16 = .ok (.iload_n 1, 1) := by decide +kernel
theorem dX3_allows_17 : decode cX3_allows 17 = .ok (.getstatic 13, 3) := by decide +kernel
theorem dX3_allows_20 : decode cX3_allows 20 = .ok (.iload_n 0, 1) := by decide +kernel
theorem dX3_allows_21 : decode cX3_allows 21 = .ok (.iaload, 1) := by decide +kernel
theorem dX3_allows_22 : decode cX3_allows 22 = .ok (.if_icmp .gt 7, 3) := by decide +kernel
theorem dX3_allows_25 : decode cX3_allows 25 = .ok (.iconst 1, 1) := by decide +kernel
theorem dX3_allows_26 : decode cX3_allows 26 = .ok (.goto 4, 3) := by decide +kernel
theorem dX3_allows_29 : decode cX3_allows 29 = .ok (.iconst 0, 1) := by decide +kernel
theorem dX3_allows_30 : decode cX3_allows 30 = .ok (.ireturn, 1) := by decide +kernel
theorem dX3_value_0 : decode cX3_value 0 = .ok (.iload_n 1, 1) := by decide +kernel
theorem dX3_value_1 : decode cX3_value 1 = .ok (.ifCond .lt 21, 3) := by decide +kernel
theorem dX3_value_4 : decode cX3_value 4 = .ok (.iload_n 1, 1) := by decide +kernel
theorem dX3_value_5 : decode cX3_value 5 = .ok (.aload_n 0, 1) := by decide +kernel
theorem dX3_value_6 : decode cX3_value 6 = .ok (.getfield 7, 3) := by decide +kernel
theorem dX3_value_9 : decode cX3_value 9 = .ok (.arraylength, 1) := by decide +kernel
theorem dX3_value_10 : decode cX3_value 10 = .ok (.if_icmp .ge 12, 3) := by decide +kernel
theorem dX3_value_13 : decode cX3_value 13 = .ok (.aload_n 0, 1) := by decide +kernel
theorem dX3_value_14 : decode cX3_value 14 = .ok (.getfield 7, 3) := by decide +kernel
theorem dX3_value_17 : decode cX3_value 17 = .ok (.iload_n 1, 1) := by decide +kernel
theorem dX3_value_18 : decode cX3_value 18 = .ok (.iaload, 1) := by decide +kernel
theorem dX3_value_19 : decode cX3_value 19 = .ok (.goto 4, 3) := by decide +kernel
theorem dX3_value_22 : decode cX3_value 22 = .ok (.iconst 0, 1) := by decide +kernel
theorem dX3_value_23 : decode cX3_value 23 = .ok (.ireturn, 1) := by decide +kernel
theorem dX3_become_0 : decode cX3_become 0 = .ok (.iload_n 1, 1) := by decide +kernel
theorem dX3_become_1 : decode cX3_become 1 = .ok (.iload_n 2, 1) := by decide +kernel
theorem dX3_become_2 : decode cX3_become 2 = .ok (.invokestatic 16, 3) := by decide +kernel
theorem dX3_become_5 : decode cX3_become 5 = .ok (.ifCond .eq 19, 3) := by decide +kernel
theorem dX3_become_8 : decode cX3_become 8 = .ok (.iload_n 1, 1) := by decide +kernel
theorem dX3_become_9 : decode cX3_become 9 = .ok (.aload_n 0, 1) := by decide +kernel
theorem dX3_become_10 : decode cX3_become 10 = .ok (.getfield 7, 3) := by decide +kernel
theorem dX3_become_13 : decode cX3_become 13 = .ok (.arraylength, 1) := by decide +kernel
theorem dX3_become_14 : decode cX3_become 14 = .ok (.if_icmp .ge 10, 3) := by decide +kernel
theorem dX3_become_17 : decode cX3_become 17 = .ok (.aload_n 0, 1) := by decide +kernel
theorem dX3_become_18 : decode cX3_become 18 = .ok (.getfield 7, 3) := by decide +kernel
theorem dX3_become_21 : decode cX3_become 21 = .ok (.iload_n 1, 1) := by decide +kernel
theorem dX3_become_22 : decode cX3_become 22 = .ok (.iload_n 2, 1) := by decide +kernel
theorem dX3_become_23 : decode cX3_become 23 = .ok (.iastore, 1) := by decide +kernel
theorem dX3_become_24 : decode cX3_become 24 = .ok (.return_, 1) := by decide +kernel
theorem dX3_brotherOf_0 : decode cX3_brotherOf 0 = .ok (.aload_n 0, 1) := by decide +kernel
theorem dX3_brotherOf_1 : decode cX3_brotherOf 1 = .ok (.iconst 0, 1) := by decide +kernel
theorem dX3_brotherOf_2 : decode cX3_brotherOf 2 = .ok (.invokevirtual 20, 3) := by decide +kernel
theorem dX3_brotherOf_5 : decode cX3_brotherOf 5 = .ok (.iload_n 1, 1) := by decide +kernel
theorem dX3_brotherOf_6 : decode cX3_brotherOf 6 = .ok (.iadd, 1) := by decide +kernel
theorem dX3_brotherOf_7 : decode cX3_brotherOf 7 = .ok (.iconst 1, 1) := by decide +kernel
theorem dX3_brotherOf_8 : decode cX3_brotherOf 8 = .ok (.iand, 1) := by decide +kernel
theorem dX3_brotherOf_9 : decode cX3_brotherOf 9 = .ok (.ireturn, 1) := by decide +kernel
theorem dX3_mostAbove_0 : decode cX3_mostAbove 0 = .ok (.aload_n 0, 1) := by decide +kernel
theorem dX3_mostAbove_1 : decode cX3_mostAbove 1 = .ok (.getfield 7, 3) := by decide +kernel
theorem dX3_mostAbove_4 : decode cX3_mostAbove 4 = .ok (.iconst 1, 1) := by decide +kernel
theorem dX3_mostAbove_5 : decode cX3_mostAbove 5 = .ok (.iaload, 1) := by decide +kernel
theorem dX3_mostAbove_6 : decode cX3_mostAbove 6 = .ok (.aload_n 0, 1) := by decide +kernel
theorem dX3_mostAbove_7 : decode cX3_mostAbove 7 = .ok (.getfield 7, 3) := by decide +kernel
theorem dX3_mostAbove_10 : decode cX3_mostAbove 10 = .ok (.iconst 2, 1) := by decide +kernel
theorem dX3_mostAbove_11 : decode cX3_mostAbove 11 = .ok (.iaload, 1) := by decide +kernel
theorem dX3_mostAbove_12 : decode cX3_mostAbove 12 = .ok (.isub, 1) := by decide +kernel
theorem dX3_mostAbove_13 : decode cX3_mostAbove 13 = .ok (.ireturn, 1) := by decide +kernel
theorem dX3_wantsSun_0 : decode cX3_wantsSun 0 = .ok (.aload_n 0, 1) := by decide +kernel
theorem dX3_wantsSun_1 : decode cX3_wantsSun 1 = .ok (.iconst 5, 1) := by decide +kernel
theorem dX3_wantsSun_2 : decode cX3_wantsSun 2 = .ok (.invokevirtual 20, 3) := by decide +kernel
theorem dX3_wantsSun_5 : decode cX3_wantsSun 5 = .ok (.iload_n 1, 1) := by decide +kernel
theorem dX3_wantsSun_6 : decode cX3_wantsSun 6 = .ok (.ishr, 1) := by decide +kernel
theorem dX3_wantsSun_7 : decode cX3_wantsSun 7 = .ok (.iconst 1, 1) := by decide +kernel
theorem dX3_wantsSun_8 : decode cX3_wantsSun 8 = .ok (.iand, 1) := by decide +kernel
theorem dX3_wantsSun_9 : decode cX3_wantsSun 9 = .ok (.iconst 1, 1) := by decide +kernel
theorem dX3_wantsSun_10 : decode cX3_wantsSun 10 = .ok (.if_icmp .ne 7, 3) := by decide +kernel
theorem dX3_wantsSun_13 : decode cX3_wantsSun 13 = .ok (.iconst 1, 1) := by decide +kernel
theorem dX3_wantsSun_14 : decode cX3_wantsSun 14 = .ok (.goto 4, 3) := by decide +kernel
theorem dX3_wantsSun_17 : decode cX3_wantsSun 17 = .ok (.iconst 0, 1) := by decide +kernel
theorem dX3_wantsSun_18 : decode cX3_wantsSun 18 = .ok (.ireturn, 1) := by decide +kernel
theorem dX4_init_0 : decode cX4_init 0 = .ok (.aload_n 0, 1) := by decide +kernel
theorem dX4_init_1 : decode cX4_init 1 = .ok (.invokespecial 3, 3) := by decide +kernel
theorem dX4_init_4 : decode cX4_init 4 = .ok (.aload_n 0, 1) := by decide +kernel
theorem dX4_init_5 : decode cX4_init 5 = .ok (.bipush 12, 2) := by decide +kernel
theorem dX4_init_7 : decode cX4_init 7 = .ok (.newarray .int, 2) := by decide +kernel
theorem dX4_init_9 : decode cX4_init 9 = .ok (.putfield 9, 3) := by decide +kernel
theorem dX4_init_12 : decode cX4_init 12 = .ok (.aload_n 0, 1) := by decide +kernel
theorem dX4_init_13 : decode cX4_init 13 = .ok (.bipush 12, 2) := by decide +kernel
theorem dX4_init_15 : decode cX4_init 15 = .ok (.newarray .int, 2) := by decide +kernel
theorem dX4_init_17 : decode cX4_init 17 = .ok (.putfield 15, 3) := by decide +kernel
theorem dX4_init_20 : decode cX4_init 20 = .ok (.aload_n 0, 1) := by decide +kernel
theorem dX4_init_21 : decode cX4_init 21 = .ok (.bipush 36, 2) := by decide +kernel
theorem dX4_init_23 : decode cX4_init 23 = .ok (.newarray .int, 2) := by decide +kernel
theorem dX4_init_25 : decode cX4_init 25 = .ok (.putfield 18, 3) := by decide +kernel
theorem dX4_init_28 : decode cX4_init 28 = .ok (.aload_n 0, 1) := by decide +kernel
theorem dX4_init_29 : decode cX4_init 29 = .ok (.bipush 36, 2) := by decide +kernel
theorem dX4_init_31 : decode cX4_init 31 = .ok (.newarray .int, 2) := by decide +kernel
theorem dX4_init_33 : decode cX4_init 33 = .ok (.putfield 21, 3) := by decide +kernel
theorem dX4_init_36 : decode cX4_init 36 = .ok (.aload_n 0, 1) := by decide +kernel
theorem dX4_init_37 : decode cX4_init 37 = .ok (.iconst 0, 1) := by decide +kernel
theorem dX4_init_38 : decode cX4_init 38 = .ok (.putfield 24, 3) := by decide +kernel
theorem dX4_init_41 : decode cX4_init 41 = .ok (.return_, 1) := by decide +kernel
theorem dX4_turnCount_0 : decode cX4_turnCount 0 = .ok (.aload_n 0, 1) := by decide +kernel
theorem dX4_turnCount_1 : decode cX4_turnCount 1 = .ok (.getfield 24, 3) := by decide +kernel
theorem dX4_turnCount_4 : decode cX4_turnCount 4 = .ok (.ireturn, 1) := by decide +kernel
theorem dX4_parse_0 : decode cX4_parse 0 = .ok (.aload_n 0, 1) := by decide +kernel
theorem dX4_parse_1 : decode cX4_parse 1 = .ok (.iconst 0, 1) := by decide +kernel
theorem dX4_parse_2 : decode cX4_parse 2 = .ok (.putfield 24, 3) := by decide +kernel
theorem dX4_parse_5 : decode cX4_parse 5 = .ok (.iconst 1, 1) := by decide +kernel
theorem dX4_parse_6 : decode cX4_parse 6 = .ok (.istore_n 2, 1) := by decide +kernel
theorem dX4_parse_7 : decode cX4_parse 7 = .ok (.iconst 0, 1) := by decide +kernel
theorem dX4_parse_8 : decode cX4_parse 8 = .ok (.istore_n 3, 1) := by decide +kernel
theorem dX4_parse_9 : decode cX4_parse 9 = .ok (.iload_n 3, 1) := by decide +kernel
theorem dX4_parse_10 : decode cX4_parse 10 = .ok (.aload_n 1, 1) := by decide +kernel
theorem dX4_parse_11 : decode cX4_parse 11 = .ok (.invokevirtual 28, 3) := by decide +kernel
theorem dX4_parse_14 : decode cX4_parse 14 = .ok (.if_icmp .ge 31, 3) := by decide +kernel
theorem dX4_parse_17 : decode cX4_parse 17 = .ok (.aload_n 0, 1) := by decide +kernel
theorem dX4_parse_18 : decode cX4_parse 18 = .ok (.iload_n 2, 1) := by decide +kernel
theorem dX4_parse_19 : decode cX4_parse 19 = .ok (.aload_n 1, 1) := by decide +kernel
theorem dX4_parse_20 : decode cX4_parse 20 = .ok (.iload_n 3, 1) := by decide +kernel
theorem dX4_parse_21 : decode cX4_parse 21 = .ok (.invokevirtual 34, 3) := by decide +kernel
theorem dX4_parse_24 : decode cX4_parse 24 = .ok (.invokevirtual 38, 3) := by decide +kernel
theorem dX4_parse_27 : decode cX4_parse 27 = .ok (.istore_n 2, 1) := by decide +kernel
theorem dX4_parse_28 : decode cX4_parse 28 = .ok (.iload_n 2, 1) := by decide +kernel
theorem dX4_parse_29 : decode cX4_parse 29 = .ok (.ifCond .ne 10, 3) := by decide +kernel
theorem dX4_parse_32 : decode cX4_parse 32 = .ok (.aload_n 0, 1) := by decide +kernel
theorem dX4_parse_33 : decode cX4_parse 33 = .ok (.iconst 0, 1) := by decide +kernel
theorem dX4_parse_34 : decode cX4_parse 34 = .ok (.putfield 24, 3) := by decide +kernel
theorem dX4_parse_37 : decode cX4_parse 37 = .ok (.iload_n 3, 1) := by decide +kernel
theorem dX4_parse_38 : decode cX4_parse 38 = .ok (.ireturn, 1) := by decide +kernel
theorem dX4_parse_39 : decode cX4_parse 39 = .ok (.iinc 3 1, 3) := by decide +kernel
theorem dX4_parse_42 : decode cX4_parse 42 = .ok (.goto (-33), 3) := by decide +kernel
theorem dX4_parse_45 : decode cX4_parse 45 = .ok (.aload_n 1, 1) := by decide +kernel
theorem dX4_parse_46 : decode cX4_parse 46 = .ok (.invokevirtual 28, 3) := by decide +kernel
theorem dX4_parse_49 : decode cX4_parse 49 = .ok (.ifCond .le 18, 3) := by decide +kernel
theorem dX4_parse_52 : decode cX4_parse 52 = .ok (.iload_n 2, 1) := by decide +kernel
theorem dX4_parse_53 : decode cX4_parse 53 = .ok (.iconst 5, 1) := by decide +kernel
theorem dX4_parse_54 : decode cX4_parse 54 = .ok (.if_icmp .eq 13, 3) := by decide +kernel
theorem dX4_parse_57 : decode cX4_parse 57 = .ok (.aload_n 0, 1) := by decide +kernel
theorem dX4_parse_58 : decode cX4_parse 58 = .ok (.iconst 0, 1) := by decide +kernel
theorem dX4_parse_59 : decode cX4_parse 59 = .ok (.putfield 24, 3) := by decide +kernel
theorem dX4_parse_62 : decode cX4_parse 62 = .ok (.aload_n 1, 1) := by decide +kernel
theorem dX4_parse_63 : decode cX4_parse 63 = .ok (.invokevirtual 28, 3) := by decide +kernel
theorem dX4_parse_66 : decode cX4_parse 66 = .ok (.ireturn, 1) := by decide +kernel
theorem dX4_parse_67 : decode cX4_parse 67 = .ok (.iconst (-1), 1) := by decide +kernel
theorem dX4_parse_68 : decode cX4_parse 68 = .ok (.ireturn, 1) := by decide +kernel
theorem dX4_stateBehind_0 : decode cX4_stateBehind 0 = .ok (.iload_n 1, 1) := by decide +kernel
theorem dX4_stateBehind_1 : decode cX4_stateBehind 1 = .ok (.tableswitch 124 1 5 #[35, 66, 78, 90, 102], 35) := by decide +kernel
theorem dX4_stateBehind_36 : decode cX4_stateBehind 36 = .ok (.aload_n 0, 1) := by decide +kernel
theorem dX4_stateBehind_37 : decode cX4_stateBehind 37 = .ok (.invokevirtual 42, 3) := by decide +kernel
theorem dX4_stateBehind_40 : decode cX4_stateBehind 40 = .ok (.ifCond .ne 5, 3) := by decide +kernel
theorem dX4_stateBehind_43 : decode cX4_stateBehind 43 = .ok (.iconst 0, 1) := by decide +kernel
theorem dX4_stateBehind_44 : decode cX4_stateBehind 44 = .ok (.ireturn, 1) := by decide +kernel
theorem dX4_stateBehind_45 : decode cX4_stateBehind 45 = .ok (.iload_n 2, 1) := by decide +kernel
theorem dX4_stateBehind_46 : decode cX4_stateBehind 46 = .ok (.bipush 45, 2) := by decide +kernel
theorem dX4_stateBehind_48 : decode cX4_stateBehind 48 = .ok (.if_icmp .ne 7, 3) := by decide +kernel
theorem dX4_stateBehind_51 : decode cX4_stateBehind 51 = .ok (.iconst 2, 1) := by decide +kernel
theorem dX4_stateBehind_52 : decode cX4_stateBehind 52 = .ok (.goto 14, 3) := by decide +kernel
theorem dX4_stateBehind_55 : decode cX4_stateBehind 55 = .ok (.aload_n 0, 1) := by decide +kernel
theorem dX4_stateBehind_56 : decode cX4_stateBehind 56 = .ok (.aload_n 0, 1) := by decide +kernel
theorem dX4_stateBehind_57 : decode cX4_stateBehind 57 = .ok (.getfield 24, 3) := by decide +kernel
theorem dX4_stateBehind_60 : decode cX4_stateBehind 60 = .ok (.iconst 1, 1) := by decide +kernel
theorem dX4_stateBehind_61 : decode cX4_stateBehind 61 = .ok (.isub, 1) := by decide +kernel
theorem dX4_stateBehind_62 : decode cX4_stateBehind 62 = .ok (.iload_n 2, 1) := by decide +kernel
theorem dX4_stateBehind_63 : decode cX4_stateBehind 63 = .ok (.invokevirtual 46, 3) := by decide +kernel
theorem dX4_stateBehind_66 : decode cX4_stateBehind 66 = .ok (.ireturn, 1) := by decide +kernel
theorem dX4_stateBehind_67 : decode cX4_stateBehind 67 = .ok (.aload_n 0, 1) := by decide +kernel
theorem dX4_stateBehind_68 : decode cX4_stateBehind 68 = .ok (.aload_n 0, 1) := by decide +kernel
theorem dX4_stateBehind_69 : decode cX4_stateBehind 69 = .ok (.getfield 24, 3) := by decide +kernel
theorem dX4_stateBehind_72 : decode cX4_stateBehind 72 = .ok (.iconst 1, 1) := by decide +kernel
theorem dX4_stateBehind_73 : decode cX4_stateBehind 73 = .ok (.isub, 1) := by decide +kernel
theorem dX4_stateBehind_74 : decode cX4_stateBehind 74 = .ok (.iload_n 2, 1) := by decide +kernel
theorem dX4_stateBehind_75 : decode cX4_stateBehind 75 = .ok (.invokevirtual 49, 3) := by decide +kernel
theorem dX4_stateBehind_78 : decode cX4_stateBehind 78 = .ok (.ireturn, 1) := by decide +kernel
theorem dX4_stateBehind_79 : decode cX4_stateBehind 79 = .ok (.aload_n 0, 1) := by decide +kernel
theorem dX4_stateBehind_80 : decode cX4_stateBehind 80 = .ok (.aload_n 0, 1) := by decide +kernel
theorem dX4_stateBehind_81 : decode cX4_stateBehind 81 = .ok (.getfield 24, 3) := by decide +kernel
theorem dX4_stateBehind_84 : decode cX4_stateBehind 84 = .ok (.iconst 1, 1) := by decide +kernel
theorem dX4_stateBehind_85 : decode cX4_stateBehind 85 = .ok (.isub, 1) := by decide +kernel
theorem dX4_stateBehind_86 : decode cX4_stateBehind 86 = .ok (.iload_n 2, 1) := by decide +kernel
theorem dX4_stateBehind_87 : decode cX4_stateBehind 87 = .ok (.invokevirtual 46, 3) := by decide +kernel
theorem dX4_stateBehind_90 : decode cX4_stateBehind 90 = .ok (.ireturn, 1) := by decide +kernel
theorem dX4_stateBehind_91 : decode cX4_stateBehind 91 = .ok (.aload_n 0, 1) := by decide +kernel
theorem dX4_stateBehind_92 : decode cX4_stateBehind 92 = .ok (.aload_n 0, 1) := by decide +kernel
theorem dX4_stateBehind_93 : decode cX4_stateBehind 93 = .ok (.getfield 24, 3) := by decide +kernel
theorem dX4_stateBehind_96 : decode cX4_stateBehind 96 = .ok (.iconst 1, 1) := by decide +kernel
theorem dX4_stateBehind_97 : decode cX4_stateBehind 97 = .ok (.isub, 1) := by decide +kernel
theorem dX4_stateBehind_98 : decode cX4_stateBehind 98 = .ok (.iload_n 2, 1) := by decide +kernel
theorem dX4_stateBehind_99 : decode cX4_stateBehind 99 = .ok (.invokevirtual 52, 3) := by decide +kernel
theorem dX4_stateBehind_102 : decode cX4_stateBehind 102 = .ok (.ireturn, 1) := by decide +kernel
theorem dX4_stateBehind_103 : decode cX4_stateBehind 103 = .ok (.iload_n 2, 1) := by decide +kernel
theorem dX4_stateBehind_104 : decode cX4_stateBehind 104 = .ok (.bipush 59, 2) := by decide +kernel
theorem dX4_stateBehind_106 : decode cX4_stateBehind 106 = .ok (.if_icmp .ne 7, 3) := by decide +kernel
theorem dX4_stateBehind_109 : decode cX4_stateBehind 109 = .ok (.iconst 1, 1) := by decide +kernel
theorem dX4_stateBehind_110 : decode cX4_stateBehind 110 = .ok (.goto 14, 3) := by decide +kernel
theorem dX4_stateBehind_113 : decode cX4_stateBehind 113 = .ok (.aload_n 0, 1) := by decide +kernel
theorem dX4_stateBehind_114 : decode cX4_stateBehind 114 = .ok (.aload_n 0, 1) := by decide +kernel
theorem dX4_stateBehind_115 : decode cX4_stateBehind 115 = .ok (.getfield 24, 3) := by decide +kernel
theorem dX4_stateBehind_118 : decode cX4_stateBehind 118 = .ok (.iconst 1, 1) := by decide +kernel
theorem dX4_stateBehind_119 : decode cX4_stateBehind 119 = .ok (.isub, 1) := by decide +kernel
theorem dX4_stateBehind_120 : decode cX4_stateBehind 120 = .ok (.iload_n 2, 1) := by decide +kernel
theorem dX4_stateBehind_121 : decode cX4_stateBehind 121 = .ok (.invokevirtual 46, 3) := by decide +kernel
theorem dX4_stateBehind_124 : decode cX4_stateBehind 124 = .ok (.ireturn, 1) := by decide +kernel
theorem dX4_stateBehind_125 : decode cX4_stateBehind 125 = .ok (.iconst 0, 1) := by decide +kernel
theorem dX4_stateBehind_126 : decode cX4_stateBehind 126 = .ok (.ireturn, 1) := by decide +kernel
theorem dX4_beginTurn_0 : decode cX4_beginTurn 0 = .ok (.aload_n 0, 1) := by decide +kernel
theorem dX4_beginTurn_1 : decode cX4_beginTurn 1 = .ok (.getfield 24, 3) := by decide +kernel
theorem dX4_beginTurn_4 : decode cX4_beginTurn 4 = .ok (.ifCond .lt 12, 3) := by decide +kernel
theorem dX4_beginTurn_7 : decode cX4_beginTurn 7 = .ok (.aload_n 0, 1) := by decide +kernel
theorem dX4_beginTurn_8 : decode cX4_beginTurn 8 = .ok (.getfield 24, 3) := by decide +kernel
theorem dX4_beginTurn_11 : decode cX4_beginTurn 11 = .ok (.bipush 12, 2) := by decide +kernel
theorem dX4_beginTurn_13 : decode cX4_beginTurn 13 = .ok (.if_icmp .lt 5, 3) := by decide +kernel
theorem dX4_beginTurn_16 : decode cX4_beginTurn 16 = .ok (.iconst 0, 1) := by decide +kernel
theorem dX4_beginTurn_17 : decode cX4_beginTurn 17 = .ok (.ireturn, 1) := by decide +kernel
theorem dX4_beginTurn_18 : decode cX4_beginTurn 18 = .ok (.aload_n 0, 1) := by decide +kernel
theorem dX4_beginTurn_19 : decode cX4_beginTurn 19 = .ok (.getfield 9, 3) := by decide +kernel
theorem dX4_beginTurn_22 : decode cX4_beginTurn 22 = .ok (.aload_n 0, 1) := by decide +kernel
theorem dX4_beginTurn_23 : decode cX4_beginTurn 23 = .ok (.getfield 24, 3) := by decide +kernel
theorem dX4_beginTurn_26 : decode cX4_beginTurn 26 = .ok (.iconst (-1), 1) := by decide +kernel
theorem dX4_beginTurn_27 : decode cX4_beginTurn 27 = .ok (.iastore, 1) := by decide +kernel
theorem dX4_beginTurn_28 : decode cX4_beginTurn 28 = .ok (.aload_n 0, 1) := by decide +kernel
theorem dX4_beginTurn_29 : decode cX4_beginTurn 29 = .ok (.getfield 15, 3) := by decide +kernel
theorem dX4_beginTurn_32 : decode cX4_beginTurn 32 = .ok (.aload_n 0, 1) := by decide +kernel
theorem dX4_beginTurn_33 : decode cX4_beginTurn 33 = .ok (.getfield 24, 3) := by decide +kernel
theorem dX4_beginTurn_36 : decode cX4_beginTurn 36 = .ok (.iconst 0, 1) := by decide +kernel
theorem dX4_beginTurn_37 : decode cX4_beginTurn 37 = .ok (.iastore, 1) := by decide +kernel
theorem dX4_beginTurn_38 : decode cX4_beginTurn 38 = .ok (.aload_n 0, 1) := by decide +kernel
theorem dX4_beginTurn_39 : decode cX4_beginTurn 39 = .ok (.dup, 1) := by decide +kernel
theorem dX4_beginTurn_40 : decode cX4_beginTurn 40 = .ok (.getfield 24, 3) := by decide +kernel
theorem dX4_beginTurn_43 : decode cX4_beginTurn 43 = .ok (.iconst 1, 1) := by decide +kernel
theorem dX4_beginTurn_44 : decode cX4_beginTurn 44 = .ok (.iadd, 1) := by decide +kernel
theorem dX4_beginTurn_45 : decode cX4_beginTurn 45 = .ok (.putfield 24, 3) := by decide +kernel
theorem dX4_beginTurn_48 : decode cX4_beginTurn 48 = .ok (.iconst 1, 1) := by decide +kernel
theorem dX4_beginTurn_49 : decode cX4_beginTurn 49 = .ok (.ireturn, 1) := by decide +kernel
theorem dX4_tellTake_0 : decode cX4_tellTake 0 = .ok (.iload_n 2, 1) := by decide +kernel
theorem dX4_tellTake_1 : decode cX4_tellTake 1 = .ok (.invokestatic 55, 3) := by decide +kernel
theorem dX4_tellTake_4 : decode cX4_tellTake 4 = .ok (.istore_n 3, 1) := by decide +kernel
theorem dX4_tellTake_5 : decode cX4_tellTake 5 = .ok (.aload_n 0, 1) := by decide +kernel
theorem dX4_tellTake_6 : decode cX4_tellTake 6 = .ok (.iload_n 1, 1) := by decide +kernel
theorem dX4_tellTake_7 : decode cX4_tellTake 7 = .ok (.invokevirtual 60, 3) := by decide +kernel
theorem dX4_tellTake_10 : decode cX4_tellTake 10 = .ok (.ifCond .eq 8, 3) := by decide +kernel
theorem dX4_tellTake_13 : decode cX4_tellTake 13 = .ok (.iload_n 3, 1) := by decide +kernel
theorem dX4_tellTake_14 : decode cX4_tellTake 14 = .ok (.iconst (-1), 1) := by decide +kernel
theorem dX4_tellTake_15 : decode cX4_tellTake 15 = .ok (.if_icmp .ne 5, 3) := by decide +kernel
theorem dX4_tellTake_18 : decode cX4_tellTake 18 = .ok (.iconst 0, 1) := by decide +kernel
theorem dX4_tellTake_19 : decode cX4_tellTake 19 = .ok (.ireturn, 1) := by decide +kernel
theorem dX4_tellTake_20 : decode cX4_tellTake 20 = .ok (.aload_n 0, 1) := by decide +kernel
theorem dX4_tellTake_21 : decode cX4_tellTake 21 = .ok (.getfield 9, 3) := by decide +kernel
theorem dX4_tellTake_24 : decode cX4_tellTake 24 = .ok (.iload_n 1, 1) := by decide +kernel
theorem dX4_tellTake_25 : decode cX4_tellTake 25 = .ok (.iload_n 3, 1) := by decide +kernel
theorem dX4_tellTake_26 : decode cX4_tellTake 26 = .ok (.iastore, 1) := by decide +kernel
theorem dX4_tellTake_27 : decode cX4_tellTake 27 = .ok (.iconst 3, 1) := by decide +kernel
theorem dX4_tellTake_28 : decode cX4_tellTake 28 = .ok (.ireturn, 1) := by decide +kernel
theorem dX4_tellLetter_0 : decode cX4_tellLetter 0 = .ok (.iload_n 2, 1) := by decide +kernel
theorem dX4_tellLetter_1 : decode cX4_tellLetter 1 = .ok (.invokestatic 64, 3) := by decide +kernel
theorem dX4_tellLetter_4 : decode cX4_tellLetter 4 = .ok (.istore_n 3, 1) := by decide +kernel
theorem dX4_tellLetter_5 : decode cX4_tellLetter 5 = .ok (.aload_n 0, 1) := by decide +kernel
theorem dX4_tellLetter_6 : decode cX4_tellLetter 6 = .ok (.iload_n 1, 1) := by decide +kernel
theorem dX4_tellLetter_7 : decode cX4_tellLetter 7 = .ok (.invokevirtual 67, 3) := by decide +kernel
theorem dX4_tellLetter_10 : decode cX4_tellLetter 10 = .ok (.istore 4, 2) := by decide +kernel
theorem dX4_tellLetter_12 : decode cX4_tellLetter 12 = .ok (.iload_n 3, 1) := by decide +kernel
theorem dX4_tellLetter_13 : decode cX4_tellLetter 13 = .ok (.iconst (-1), 1) := by decide +kernel
theorem dX4_tellLetter_14 : decode cX4_tellLetter 14 = .ok (.if_icmp .eq 9, 3) := by decide +kernel
theorem dX4_tellLetter_17 : decode cX4_tellLetter 17 = .ok (.iload 4, 2) := by decide +kernel
theorem dX4_tellLetter_19 : decode cX4_tellLetter 19 = .ok (.iconst (-1), 1) := by decide +kernel
theorem dX4_tellLetter_20 : decode cX4_tellLetter 20 = .ok (.if_icmp .ne 5, 3) := by decide +kernel
theorem dX4_tellLetter_23 : decode cX4_tellLetter 23 = .ok (.iconst 0, 1) := by decide +kernel
theorem dX4_tellLetter_24 : decode cX4_tellLetter 24 = .ok (.ireturn, 1) := by decide +kernel
theorem dX4_tellLetter_25 : decode cX4_tellLetter 25 = .ok (.aload_n 0, 1) := by decide +kernel
theorem dX4_tellLetter_26 : decode cX4_tellLetter 26 = .ok (.getfield 18, 3) := by decide +kernel
theorem dX4_tellLetter_29 : decode cX4_tellLetter 29 = .ok (.iload 4, 2) := by decide +kernel
theorem dX4_tellLetter_31 : decode cX4_tellLetter 31 = .ok (.iload_n 3, 1) := by decide +kernel
theorem dX4_tellLetter_32 : decode cX4_tellLetter 32 = .ok (.iastore, 1) := by decide +kernel
theorem dX4_tellLetter_33 : decode cX4_tellLetter 33 = .ok (.iconst 4, 1) := by decide +kernel
theorem dX4_tellLetter_34 : decode cX4_tellLetter 34 = .ok (.ireturn, 1) := by decide +kernel
theorem dX4_tellPlace_0 : decode cX4_tellPlace 0 = .ok (.iload_n 2, 1) := by decide +kernel
theorem dX4_tellPlace_1 : decode cX4_tellPlace 1 = .ok (.invokestatic 55, 3) := by decide +kernel
theorem dX4_tellPlace_4 : decode cX4_tellPlace 4 = .ok (.istore_n 3, 1) := by decide +kernel
theorem dX4_tellPlace_5 : decode cX4_tellPlace 5 = .ok (.aload_n 0, 1) := by decide +kernel
theorem dX4_tellPlace_6 : decode cX4_tellPlace 6 = .ok (.iload_n 1, 1) := by decide +kernel
theorem dX4_tellPlace_7 : decode cX4_tellPlace 7 = .ok (.invokevirtual 67, 3) := by decide +kernel
theorem dX4_tellPlace_10 : decode cX4_tellPlace 10 = .ok (.istore 4, 2) := by decide +kernel
theorem dX4_tellPlace_12 : decode cX4_tellPlace 12 = .ok (.iload_n 3, 1) := by decide +kernel
theorem dX4_tellPlace_13 : decode cX4_tellPlace 13 = .ok (.iconst (-1), 1) := by decide +kernel
theorem dX4_tellPlace_14 : decode cX4_tellPlace 14 = .ok (.if_icmp .eq 9, 3) := by decide +kernel
theorem dX4_tellPlace_17 : decode cX4_tellPlace 17 = .ok (.iload 4, 2) := by decide +kernel
theorem dX4_tellPlace_19 : decode cX4_tellPlace 19 = .ok (.iconst (-1), 1) := by decide +kernel
theorem dX4_tellPlace_20 : decode cX4_tellPlace 20 = .ok (.if_icmp .ne 5, 3) := by decide +kernel
theorem dX4_tellPlace_23 : decode cX4_tellPlace 23 = .ok (.iconst 0, 1) := by decide +kernel
theorem dX4_tellPlace_24 : decode cX4_tellPlace 24 = .ok (.ireturn, 1) := by decide +kernel
theorem dX4_tellPlace_25 : decode cX4_tellPlace 25 = .ok (.aload_n 0, 1) := by decide +kernel
theorem dX4_tellPlace_26 : decode cX4_tellPlace 26 = .ok (.getfield 21, 3) := by decide +kernel
theorem dX4_tellPlace_29 : decode cX4_tellPlace 29 = .ok (.iload 4, 2) := by decide +kernel
theorem dX4_tellPlace_31 : decode cX4_tellPlace 31 = .ok (.iload_n 3, 1) := by decide +kernel
theorem dX4_tellPlace_32 : decode cX4_tellPlace 32 = .ok (.iastore, 1) := by decide +kernel
theorem dX4_tellPlace_33 : decode cX4_tellPlace 33 = .ok (.aload_n 0, 1) := by decide +kernel
theorem dX4_tellPlace_34 : decode cX4_tellPlace 34 = .ok (.getfield 15, 3) := by decide +kernel
theorem dX4_tellPlace_37 : decode cX4_tellPlace 37 = .ok (.iload_n 1, 1) := by decide +kernel
theorem dX4_tellPlace_38 : decode cX4_tellPlace 38 = .ok (.dup2, 1) := by decide +kernel
theorem dX4_tellPlace_39 : decode cX4_tellPlace 39 = .ok (.iaload, 1) := by decide +kernel
theorem dX4_tellPlace_40 : decode cX4_tellPlace 40 = .ok (.iconst 1, 1) := by decide +kernel
theorem dX4_tellPlace_41 : decode cX4_tellPlace 41 = .ok (.iadd, 1) := by decide +kernel
theorem dX4_tellPlace_42 : decode cX4_tellPlace 42 = .ok (.iastore, 1) := by decide +kernel
theorem dX4_tellPlace_43 : decode cX4_tellPlace 43 = .ok (.iconst 5, 1) := by decide +kernel
theorem dX4_tellPlace_44 : decode cX4_tellPlace 44 = .ok (.ireturn, 1) := by decide +kernel
theorem dX4_isTurn_0 : decode cX4_isTurn 0 = .ok (.iload_n 1, 1) := by decide +kernel
theorem dX4_isTurn_1 : decode cX4_isTurn 1 = .ok (.ifCond .lt 21, 3) := by decide +kernel
theorem dX4_isTurn_4 : decode cX4_isTurn 4 = .ok (.iload_n 1, 1) := by decide +kernel
theorem dX4_isTurn_5 : decode cX4_isTurn 5 = .ok (.aload_n 0, 1) := by decide +kernel
theorem dX4_isTurn_6 : decode cX4_isTurn 6 = .ok (.getfield 24, 3) := by decide +kernel
theorem dX4_isTurn_9 : decode cX4_isTurn 9 = .ok (.if_icmp .ge 13, 3) := by decide +kernel
theorem dX4_isTurn_12 : decode cX4_isTurn 12 = .ok (.iload_n 1, 1) := by decide +kernel
theorem dX4_isTurn_13 : decode cX4_isTurn 13 = .ok (.bipush 12, 2) := by decide +kernel
theorem dX4_isTurn_15 : decode cX4_isTurn 15 = .ok (.if_icmp .ge 7, 3) := by decide +kernel
theorem dX4_isTurn_18 : decode cX4_isTurn 18 = .ok (.iconst 1, 1) := by decide +kernel
theorem dX4_isTurn_19 : decode cX4_isTurn 19 = .ok (.goto 4, 3) := by decide +kernel
theorem dX4_isTurn_22 : decode cX4_isTurn 22 = .ok (.iconst 0, 1) := by decide +kernel
theorem dX4_isTurn_23 : decode cX4_isTurn 23 = .ok (.ireturn, 1) := by decide +kernel
theorem dX4_nextPart_0 : decode cX4_nextPart 0 = .ok (.aload_n 0, 1) := by decide +kernel
theorem dX4_nextPart_1 : decode cX4_nextPart 1 = .ok (.iload_n 1, 1) := by decide +kernel
theorem dX4_nextPart_2 : decode cX4_nextPart 2 = .ok (.invokevirtual 60, 3) := by decide +kernel
theorem dX4_nextPart_5 : decode cX4_nextPart 5 = .ok (.ifCond .eq 22, 3) := by decide +kernel
theorem dX4_nextPart_8 : decode cX4_nextPart 8 = .ok (.aload_n 0, 1) := by decide +kernel
theorem dX4_nextPart_9 : decode cX4_nextPart 9 = .ok (.getfield 15, 3) := by decide +kernel
theorem dX4_nextPart_12 : decode cX4_nextPart 12 = .ok (.iload_n 1, 1) := by decide +kernel
theorem dX4_nextPart_13 : decode cX4_nextPart 13 = .ok (.iaload, 1) := by decide +kernel
theorem dX4_nextPart_14 : decode cX4_nextPart 14 = .ok (.ifCond .lt 13, 3) := by decide +kernel
theorem dX4_nextPart_17 : decode cX4_nextPart 17 = .ok (.aload_n 0, 1) := by decide +kernel
theorem dX4_nextPart_18 : decode cX4_nextPart 18 = .ok (.getfield 15, 3) := by decide +kernel
theorem dX4_nextPart_21 : decode cX4_nextPart 21 = .ok (.iload_n 1, 1) := by decide +kernel
theorem dX4_nextPart_22 : decode cX4_nextPart 22 = .ok (.iaload, 1) := by decide +kernel
theorem dX4_nextPart_23 : decode cX4_nextPart 23 = .ok (.iconst 3, 1) := by decide +kernel
theorem dX4_nextPart_24 : decode cX4_nextPart 24 = .ok (.if_icmp .lt 5, 3) := by decide +kernel
theorem dX4_nextPart_27 : decode cX4_nextPart 27 = .ok (.iconst (-1), 1) := by decide +kernel
theorem dX4_nextPart_28 : decode cX4_nextPart 28 = .ok (.ireturn, 1) := by decide +kernel
theorem dX4_nextPart_29 : decode cX4_nextPart 29 = .ok (.iload_n 1, 1) := by decide +kernel
theorem dX4_nextPart_30 : decode cX4_nextPart 30 = .ok (.iconst 3, 1) := by decide +kernel
theorem dX4_nextPart_31 : decode cX4_nextPart 31 = .ok (.imul, 1) := by decide +kernel
theorem dX4_nextPart_32 : decode cX4_nextPart 32 = .ok (.aload_n 0, 1) := by decide +kernel
theorem dX4_nextPart_33 : decode cX4_nextPart 33 = .ok (.getfield 15, 3) := by decide +kernel
theorem dX4_nextPart_36 : decode cX4_nextPart 36 = .ok (.iload_n 1, 1) := by decide +kernel
theorem dX4_nextPart_37 : decode cX4_nextPart 37 = .ok (.iaload, 1) := by decide +kernel
theorem dX4_nextPart_38 : decode cX4_nextPart 38 = .ok (.iadd, 1) := by decide +kernel
theorem dX4_nextPart_39 : decode cX4_nextPart 39 = .ok (.ireturn, 1) := by decide +kernel
theorem dX4_doTake_0 : decode cX4_doTake 0 = .ok (.aload_n 0, 1) := by decide +kernel
theorem dX4_doTake_1 : decode cX4_doTake 1 = .ok (.iload_n 1, 1) := by decide +kernel
theorem dX4_doTake_2 : decode cX4_doTake 2 = .ok (.invokevirtual 60, 3) := by decide +kernel
theorem dX4_doTake_5 : decode cX4_doTake 5 = .ok (.ifCond .eq 21, 3) := by decide +kernel
theorem dX4_doTake_8 : decode cX4_doTake 8 = .ok (.aload_n 3, 1) := by decide +kernel
theorem dX4_doTake_9 : decode cX4_doTake 9 = .ok (.aload_n 0, 1) := by decide +kernel
theorem dX4_doTake_10 : decode cX4_doTake 10 = .ok (.getfield 9, 3) := by decide +kernel
theorem dX4_doTake_13 : decode cX4_doTake 13 = .ok (.iload_n 1, 1) := by decide +kernel
theorem dX4_doTake_14 : decode cX4_doTake 14 = .ok (.iaload, 1) := by decide +kernel
theorem dX4_doTake_15 : decode cX4_doTake 15 = .ok (.iload_n 2, 1) := by decide +kernel
theorem dX4_doTake_16 : decode cX4_doTake 16 = .ok (.invokevirtual 70, 3) := by decide +kernel
theorem dX4_doTake_19 : decode cX4_doTake 19 = .ok (.ifCond .eq 7, 3) := by decide +kernel
theorem dX4_doTake_22 : decode cX4_doTake 22 = .ok (.iconst 1, 1) := by decide +kernel
theorem dX4_doTake_23 : decode cX4_doTake 23 = .ok (.goto 4, 3) := by decide +kernel
theorem dX4_doTake_26 : decode cX4_doTake 26 = .ok (.iconst 0, 1) := by decide +kernel
theorem dX4_doTake_27 : decode cX4_doTake 27 = .ok (.ireturn, 1) := by decide +kernel
theorem dX4_doLays_0 : decode cX4_doLays 0 = .ok (.aload_n 0, 1) := by decide +kernel
theorem dX4_doLays_1 : decode cX4_doLays 1 = .ok (.iload_n 1, 1) := by decide +kernel
theorem dX4_doLays_2 : decode cX4_doLays 2 = .ok (.invokevirtual 60, 3) := by decide +kernel
theorem dX4_doLays_5 : decode cX4_doLays 5 = .ok (.ifCond .ne 5, 3) := by decide +kernel
theorem dX4_doLays_8 : decode cX4_doLays 8 = .ok (.iconst 0, 1) := by decide +kernel
theorem dX4_doLays_9 : decode cX4_doLays 9 = .ok (.ireturn, 1) := by decide +kernel
theorem dX4_doLays_10 : decode cX4_doLays 10 = .ok (.iconst 0, 1) := by decide +kernel
theorem dX4_doLays_11 : decode cX4_doLays 11 = .ok (.istore 4, 2) := by decide +kernel
theorem dX4_doLays_13 : decode cX4_doLays 13 = .ok (.iconst 0, 1) := by decide +kernel
theorem dX4_doLays_14 : decode cX4_doLays 14 = .ok (.istore 5, 2) := by decide +kernel
theorem dX4_doLays_16 : decode cX4_doLays 16 = .ok (.iload 5, 2) := by decide +kernel
theorem dX4_doLays_18 : decode cX4_doLays 18 = .ok (.aload_n 0, 1) := by decide +kernel
theorem dX4_doLays_19 : decode cX4_doLays 19 = .ok (.getfield 15, 3) := by decide +kernel
theorem dX4_doLays_22 : decode cX4_doLays 22 = .ok (.iload_n 1, 1) := by decide +kernel
theorem dX4_doLays_23 : decode cX4_doLays 23 = .ok (.iaload, 1) := by decide +kernel
theorem dX4_doLays_24 : decode cX4_doLays 24 = .ok (.if_icmp .ge 60, 3) := by decide +kernel
theorem dX4_doLays_27 : decode cX4_doLays 27 = .ok (.iload 5, 2) := by decide +kernel
theorem dX4_doLays_29 : decode cX4_doLays 29 = .ok (.iconst 3, 1) := by decide +kernel
theorem dX4_doLays_30 : decode cX4_doLays 30 = .ok (.if_icmp .ge 54, 3) := by decide +kernel
theorem dX4_doLays_33 : decode cX4_doLays 33 = .ok (.aload_n 0, 1) := by decide +kernel
theorem dX4_doLays_34 : decode cX4_doLays 34 = .ok (.getfield 18, 3) := by decide +kernel
theorem dX4_doLays_37 : decode cX4_doLays 37 = .ok (.iload_n 1, 1) := by decide +kernel
theorem dX4_doLays_38 : decode cX4_doLays 38 = .ok (.iconst 3, 1) := by decide +kernel
theorem dX4_doLays_39 : decode cX4_doLays 39 = .ok (.imul, 1) := by decide +kernel
theorem dX4_doLays_40 : decode cX4_doLays 40 = .ok (.iload 5, 2) := by decide +kernel
theorem dX4_doLays_42 : decode cX4_doLays 42 = .ok (.iadd, 1) := by decide +kernel
theorem dX4_doLays_43 : decode cX4_doLays 43 = .ok (.iaload, 1) := by decide +kernel
theorem dX4_doLays_44 : decode cX4_doLays 44 = .ok (.istore 6, 2) := by decide +kernel
theorem dX4_doLays_46 : decode cX4_doLays 46 = .ok (.iload 6, 2) := by decide +kernel
theorem dX4_doLays_48 : decode cX4_doLays 48 = .ok (.invokestatic 76, 3) := by decide +kernel
theorem dX4_doLays_51 : decode cX4_doLays 51 = .ok (.iload_n 2, 1) := by decide +kernel
theorem dX4_doLays_52 : decode cX4_doLays 52 = .ok (.if_icmp .ne 26, 3) := by decide +kernel
theorem dX4_doLays_55 : decode cX4_doLays 55 = .ok (.aload_n 3, 1) := by decide +kernel
theorem dX4_doLays_56 : decode cX4_doLays 56 = .ok (.aload_n 0, 1) := by decide +kernel
theorem dX4_doLays_57 : decode cX4_doLays 57 = .ok (.getfield 21, 3) := by decide +kernel
theorem dX4_doLays_60 : decode cX4_doLays 60 = .ok (.iload_n 1, 1) := by decide +kernel
theorem dX4_doLays_61 : decode cX4_doLays 61 = .ok (.iconst 3, 1) := by decide +kernel
theorem dX4_doLays_62 : decode cX4_doLays 62 = .ok (.imul, 1) := by decide +kernel
theorem dX4_doLays_63 : decode cX4_doLays 63 = .ok (.iload 5, 2) := by decide +kernel
theorem dX4_doLays_65 : decode cX4_doLays 65 = .ok (.iadd, 1) := by decide +kernel
theorem dX4_doLays_66 : decode cX4_doLays 66 = .ok (.iaload, 1) := by decide +kernel
theorem dX4_doLays_67 : decode cX4_doLays 67 = .ok (.iload 6, 2) := by decide +kernel
theorem dX4_doLays_69 : decode cX4_doLays 69 = .ok (.invokevirtual 79, 3) := by decide +kernel
theorem dX4_doLays_72 : decode cX4_doLays 72 = .ok (.ifCond .eq 6, 3) := by decide +kernel
theorem dX4_doLays_75 : decode cX4_doLays 75 = .ok (.iinc 4 1, 3) := by decide +kernel
theorem dX4_doLays_78 : decode cX4_doLays 78 = .ok (.iinc 5 1, 3) := by decide +kernel
theorem dX4_doLays_81 : decode cX4_doLays 81 = .ok (.goto (-65), 3) := by decide +kernel
theorem dX4_doLays_84 : decode cX4_doLays 84 = .ok (.iload 4, 2) := by decide +kernel
theorem dX4_doLays_86 : decode cX4_doLays 86 = .ok (.ireturn, 1) := by decide +kernel
theorem dX5_init_0 : decode cX5_init 0 = .ok (.aload_n 0, 1) := by decide +kernel
theorem dX5_init_1 : decode cX5_init 1 = .ok (.invokespecial 3, 3) := by decide +kernel
theorem dX5_init_4 : decode cX5_init 4 = .ok (.aload_n 0, 1) := by decide +kernel
theorem dX5_init_5 : decode cX5_init 5 = .ok (.iconst 4, 1) := by decide +kernel
theorem dX5_init_6 : decode cX5_init 6 = .ok (.bipush 60, 2) := by decide +kernel
theorem dX5_init_8 : decode cX5_init 8 = .ok (.multianewarray 11 2, 4) := by decide +kernel
theorem dX5_init_12 : decode cX5_init 12 = .ok (.putfield 13, 3) := by decide +kernel
theorem dX5_init_15 : decode cX5_init 15 = .ok (.aload_n 0, 1) := by decide +kernel
theorem dX5_init_16 : decode cX5_init 16 = .ok (.iconst 4, 1) := by decide +kernel
theorem dX5_init_17 : decode cX5_init 17 = .ok (.newarray .int, 2) := by decide +kernel
theorem dX5_init_19 : decode cX5_init 19 = .ok (.putfield 16, 3) := by decide +kernel
theorem dX5_init_22 : decode cX5_init 22 = .ok (.aload_n 0, 1) := by decide +kernel
theorem dX5_init_23 : decode cX5_init 23 = .ok (.iconst 4, 1) := by decide +kernel
theorem dX5_init_24 : decode cX5_init 24 = .ok (.newarray .int, 2) := by decide +kernel
theorem dX5_init_26 : decode cX5_init 26 = .ok (.dup, 1) := by decide +kernel
theorem dX5_init_27 : decode cX5_init 27 = .ok (.iconst 0, 1) := by decide +kernel
theorem dX5_init_28 : decode cX5_init 28 = .ok (.iconst (-1), 1) := by decide +kernel
theorem dX5_init_29 : decode cX5_init 29 = .ok (.iastore, 1) := by decide +kernel
theorem dX5_init_30 : decode cX5_init 30 = .ok (.dup, 1) := by decide +kernel
theorem dX5_init_31 : decode cX5_init 31 = .ok (.iconst 1, 1) := by decide +kernel
theorem dX5_init_32 : decode cX5_init 32 = .ok (.iconst (-1), 1) := by decide +kernel
theorem dX5_init_33 : decode cX5_init 33 = .ok (.iastore, 1) := by decide +kernel
theorem dX5_init_34 : decode cX5_init 34 = .ok (.dup, 1) := by decide +kernel
theorem dX5_init_35 : decode cX5_init 35 = .ok (.iconst 2, 1) := by decide +kernel
theorem dX5_init_36 : decode cX5_init 36 = .ok (.iconst (-1), 1) := by decide +kernel
theorem dX5_init_37 : decode cX5_init 37 = .ok (.iastore, 1) := by decide +kernel
theorem dX5_init_38 : decode cX5_init 38 = .ok (.dup, 1) := by decide +kernel
theorem dX5_init_39 : decode cX5_init 39 = .ok (.iconst 3, 1) := by decide +kernel
theorem dX5_init_40 : decode cX5_init 40 = .ok (.iconst (-1), 1) := by decide +kernel
theorem dX5_init_41 : decode cX5_init 41 = .ok (.iastore, 1) := by decide +kernel
theorem dX5_init_42 : decode cX5_init 42 = .ok (.putfield 20, 3) := by decide +kernel
theorem dX5_init_45 : decode cX5_init 45 = .ok (.aload_n 0, 1) := by decide +kernel
theorem dX5_init_46 : decode cX5_init 46 = .ok (.iconst 0, 1) := by decide +kernel
theorem dX5_init_47 : decode cX5_init 47 = .ok (.putfield 23, 3) := by decide +kernel
theorem dX5_init_50 : decode cX5_init 50 = .ok (.return_, 1) := by decide +kernel
theorem dX5_isSheet_0 : decode cX5_isSheet 0 = .ok (.iload_n 0, 1) := by decide +kernel
theorem dX5_isSheet_1 : decode cX5_isSheet 1 = .ok (.ifCond .lt 12, 3) := by decide +kernel
theorem dX5_isSheet_4 : decode cX5_isSheet 4 = .ok (.iload_n 0, 1) := by decide +kernel
theorem dX5_isSheet_5 : decode cX5_isSheet 5 = .ok (.iconst 4, 1) := by decide +kernel
theorem dX5_isSheet_6 : decode cX5_isSheet 6 = .ok (.if_icmp .ge 7, 3) := by decide +kernel
theorem dX5_isSheet_9 : decode cX5_isSheet 9 = .ok (.iconst 1, 1) := by decide +kernel
theorem dX5_isSheet_10 : decode cX5_isSheet 10 = .ok (.goto 4, 3) := by decide +kernel
theorem dX5_isSheet_13 : decode cX5_isSheet 13 = .ok (.iconst 0, 1) := by decide +kernel
theorem dX5_isSheet_14 : decode cX5_isSheet 14 = .ok (.ireturn, 1) := by decide +kernel
theorem dX5_isForm_0 : decode cX5_isForm 0 = .ok (.iload_n 0, 1) := by decide +kernel
theorem dX5_isForm_1 : decode cX5_isForm 1 = .ok (.ifCond .lt 12, 3) := by decide +kernel
theorem dX5_isForm_4 : decode cX5_isForm 4 = .ok (.iload_n 0, 1) := by decide +kernel
theorem dX5_isForm_5 : decode cX5_isForm 5 = .ok (.iconst 2, 1) := by decide +kernel
theorem dX5_isForm_6 : decode cX5_isForm 6 = .ok (.if_icmp .gt 7, 3) := by decide +kernel
theorem dX5_isForm_9 : decode cX5_isForm 9 = .ok (.iconst 1, 1) := by decide +kernel
theorem dX5_isForm_10 : decode cX5_isForm 10 = .ok (.goto 4, 3) := by decide +kernel
theorem dX5_isForm_13 : decode cX5_isForm 13 = .ok (.iconst 0, 1) := by decide +kernel
theorem dX5_isForm_14 : decode cX5_isForm 14 = .ok (.ireturn, 1) := by decide +kernel
theorem dX5_find_0 : decode cX5_find 0 = .ok (.aload_n 0, 1) := by decide +kernel
theorem dX5_find_1 : decode cX5_find 1 = .ok (.iload_n 1, 1) := by decide +kernel
theorem dX5_find_2 : decode cX5_find 2 = .ok (.putfield 23, 3) := by decide +kernel
theorem dX5_find_5 : decode cX5_find 5 = .ok (.bipush (-10), 2) := by decide +kernel
theorem dX5_find_7 : decode cX5_find 7 = .ok (.iload_n 1, 1) := by decide +kernel
theorem dX5_find_8 : decode cX5_find 8 = .ok (.isub, 1) := by decide +kernel
theorem dX5_find_9 : decode cX5_find 9 = .ok (.ireturn, 1) := by decide +kernel
theorem dX5_latestFinding_0 : decode cX5_latestFinding 0 = .ok (.aload_n 0, 1) := by decide +kernel
theorem dX5_latestFinding_1 : decode cX5_latestFinding 1 = .ok (.getfield 23, 3) := by decide +kernel
theorem dX5_latestFinding_4 : decode cX5_latestFinding 4 = .ok (.ireturn, 1) := by decide +kernel
theorem dX5_isLost_0 : decode cX5_isLost 0 = .ok (.iload_n 1, 1) := by decide +kernel
theorem dX5_isLost_1 : decode cX5_isLost 1 = .ok (.invokestatic 27, 3) := by decide +kernel
theorem dX5_isLost_4 : decode cX5_isLost 4 = .ok (.ifCond .eq 13, 3) := by decide +kernel
theorem dX5_isLost_7 : decode cX5_isLost 7 = .ok (.aload_n 0, 1) := by decide +kernel
theorem dX5_isLost_8 : decode cX5_isLost 8 = .ok (.getfield 20, 3) := by decide +kernel
theorem dX5_isLost_11 : decode cX5_isLost 11 = .ok (.iload_n 1, 1) := by decide +kernel
theorem dX5_isLost_12 : decode cX5_isLost 12 = .ok (.iaload, 1) := by decide +kernel
theorem dX5_isLost_13 : decode cX5_isLost 13 = .ok (.iconst (-1), 1) := by decide +kernel
theorem dX5_isLost_14 : decode cX5_isLost 14 = .ok (.if_icmp .ne 7, 3) := by decide +kernel
theorem dX5_isLost_17 : decode cX5_isLost 17 = .ok (.iconst 1, 1) := by decide +kernel
theorem dX5_isLost_18 : decode cX5_isLost 18 = .ok (.goto 4, 3) := by decide +kernel
theorem dX5_isLost_21 : decode cX5_isLost 21 = .ok (.iconst 0, 1) := by decide +kernel
theorem dX5_isLost_22 : decode cX5_isLost 22 = .ok (.ireturn, 1) := by decide +kernel
theorem dX5_sizeOf_0 : decode cX5_sizeOf 0 = .ok (.aload_n 0, 1) := by decide +kernel
theorem dX5_sizeOf_1 : decode cX5_sizeOf 1 = .ok (.iload_n 1, 1) := by decide +kernel
theorem dX5_sizeOf_2 : decode cX5_sizeOf 2 = .ok (.invokevirtual 31, 3) := by decide +kernel
theorem dX5_sizeOf_5 : decode cX5_sizeOf 5 = .ok (.ifCond .eq 7, 3) := by decide +kernel
theorem dX5_sizeOf_8 : decode cX5_sizeOf 8 = .ok (.iconst 0, 1) := by decide +kernel
theorem dX5_sizeOf_9 : decode cX5_sizeOf 9 = .ok (.goto 9, 3) := by decide +kernel
theorem dX5_sizeOf_12 : decode cX5_sizeOf 12 = .ok (.aload_n 0, 1) := by decide +kernel
theorem dX5_sizeOf_13 : decode cX5_sizeOf 13 = .ok (.getfield 20, 3) := by decide +kernel
theorem dX5_sizeOf_16 : decode cX5_sizeOf 16 = .ok (.iload_n 1, 1) := by decide +kernel
theorem dX5_sizeOf_17 : decode cX5_sizeOf 17 = .ok (.iaload, 1) := by decide +kernel
theorem dX5_sizeOf_18 : decode cX5_sizeOf 18 = .ok (.ireturn, 1) := by decide +kernel
theorem dX5_formOf_0 : decode cX5_formOf 0 = .ok (.iload_n 1, 1) := by decide +kernel
theorem dX5_formOf_1 : decode cX5_formOf 1 = .ok (.invokestatic 27, 3) := by decide +kernel
theorem dX5_formOf_4 : decode cX5_formOf 4 = .ok (.ifCond .eq 12, 3) := by decide +kernel
theorem dX5_formOf_7 : decode cX5_formOf 7 = .ok (.aload_n 0, 1) := by decide +kernel
theorem dX5_formOf_8 : decode cX5_formOf 8 = .ok (.getfield 16, 3) := by decide +kernel
theorem dX5_formOf_11 : decode cX5_formOf 11 = .ok (.iload_n 1, 1) := by decide +kernel
theorem dX5_formOf_12 : decode cX5_formOf 12 = .ok (.iaload, 1) := by decide +kernel
theorem dX5_formOf_13 : decode cX5_formOf 13 = .ok (.goto 4, 3) := by decide +kernel
theorem dX5_formOf_16 : decode cX5_formOf 16 = .ok (.iconst (-1), 1) := by decide +kernel
theorem dX5_formOf_17 : decode cX5_formOf 17 = .ok (.ireturn, 1) := by decide +kernel
theorem dX5_make_0 : decode cX5_make 0 = .ok (.iload_n 1, 1) := by decide +kernel
theorem dX5_make_1 : decode cX5_make 1 = .ok (.invokestatic 27, 3) := by decide +kernel
theorem dX5_make_4 : decode cX5_make 4 = .ok (.ifCond .eq 20, 3) := by decide +kernel
theorem dX5_make_7 : decode cX5_make 7 = .ok (.iload_n 2, 1) := by decide +kernel
theorem dX5_make_8 : decode cX5_make 8 = .ok (.invokestatic 34, 3) := by decide +kernel
theorem dX5_make_11 : decode cX5_make 11 = .ok (.ifCond .eq 13, 3) := by decide +kernel
theorem dX5_make_14 : decode cX5_make 14 = .ok (.iload_n 3, 1) := by decide +kernel
theorem dX5_make_15 : decode cX5_make 15 = .ok (.ifCond .lt 9, 3) := by decide +kernel
theorem dX5_make_18 : decode cX5_make 18 = .ok (.iload_n 3, 1) := by decide +kernel
theorem dX5_make_19 : decode cX5_make 19 = .ok (.bipush 60, 2) := by decide +kernel
theorem dX5_make_21 : decode cX5_make 21 = .ok (.if_icmp .le 4, 3) := by decide +kernel
theorem dX5_make_24 : decode cX5_make 24 = .ok (.return_, 1) := by decide +kernel
theorem dX5_make_25 : decode cX5_make 25 = .ok (.aload_n 0, 1) := by decide +kernel
theorem dX5_make_26 : decode cX5_make 26 = .ok (.getfield 16, 3) := by decide +kernel
theorem dX5_make_29 : decode cX5_make 29 = .ok (.iload_n 1, 1) := by decide +kernel
theorem dX5_make_30 : decode cX5_make 30 = .ok (.iload_n 2, 1) := by decide +kernel
theorem dX5_make_31 : decode cX5_make 31 = .ok (.iastore, 1) := by decide +kernel
theorem dX5_make_32 : decode cX5_make 32 = .ok (.aload_n 0, 1) := by decide +kernel
theorem dX5_make_33 : decode cX5_make 33 = .ok (.getfield 20, 3) := by decide +kernel
theorem dX5_make_36 : decode cX5_make 36 = .ok (.iload_n 1, 1) := by decide +kernel
theorem dX5_make_37 : decode cX5_make 37 = .ok (.iload_n 3, 1) := by decide +kernel
theorem dX5_make_38 : decode cX5_make 38 = .ok (.iastore, 1) := by decide +kernel
theorem dX5_make_39 : decode cX5_make 39 = .ok (.iconst 0, 1) := by decide +kernel
theorem dX5_make_40 : decode cX5_make 40 = .ok (.istore 4, 2) := by decide +kernel
theorem dX5_make_42 : decode cX5_make 42 = .ok (.iload 4, 2) := by decide +kernel
theorem dX5_make_44 : decode cX5_make 44 = .ok (.bipush 60, 2) := by decide +kernel
theorem dX5_make_46 : decode cX5_make 46 = .ok (.if_icmp .ge 19, 3) := by decide +kernel
theorem dX5_make_49 : decode cX5_make 49 = .ok (.aload_n 0, 1) := by decide +kernel
theorem dX5_make_50 : decode cX5_make 50 = .ok (.getfield 13, 3) := by decide +kernel
theorem dX5_make_53 : decode cX5_make 53 = .ok (.iload_n 1, 1) := by decide +kernel
theorem dX5_make_54 : decode cX5_make 54 = .ok (.aaload, 1) := by decide +kernel
theorem dX5_make_55 : decode cX5_make 55 = .ok (.iload 4, 2) := by decide +kernel
theorem dX5_make_57 : decode cX5_make 57 = .ok (.iconst 0, 1) := by decide +kernel
theorem dX5_make_58 : decode cX5_make 58 = .ok (.iastore, 1) := by decide +kernel
theorem dX5_make_59 : decode cX5_make 59 = .ok (.iinc 4 1, 3) := by decide +kernel
theorem dX5_make_62 : decode cX5_make 62 = .ok (.goto (-20), 3) := by decide +kernel
theorem dX5_make_65 : decode cX5_make 65 = .ok (.return_, 1) := by decide +kernel
theorem dX5_drop_0 : decode cX5_drop 0 = .ok (.iload_n 1, 1) := by decide +kernel
theorem dX5_drop_1 : decode cX5_drop 1 = .ok (.invokestatic 27, 3) := by decide +kernel
theorem dX5_drop_4 : decode cX5_drop 4 = .ok (.ifCond .eq 10, 3) := by decide +kernel
theorem dX5_drop_7 : decode cX5_drop 7 = .ok (.aload_n 0, 1) := by decide +kernel
theorem dX5_drop_8 : decode cX5_drop 8 = .ok (.getfield 20, 3) := by decide +kernel
theorem dX5_drop_11 : decode cX5_drop 11 = .ok (.iload_n 1, 1) := by decide +kernel
theorem dX5_drop_12 : decode cX5_drop 12 = .ok (.iconst (-1), 1) := by decide +kernel
theorem dX5_drop_13 : decode cX5_drop 13 = .ok (.iastore, 1) := by decide +kernel
theorem dX5_drop_14 : decode cX5_drop 14 = .ok (.return_, 1) := by decide +kernel
theorem dX5_refusalOf_0 : decode cX5_refusalOf 0 = .ok (.iload_n 1, 1) := by decide +kernel
theorem dX5_refusalOf_1 : decode cX5_refusalOf 1 = .ok (.invokestatic 27, 3) := by decide +kernel
theorem dX5_refusalOf_4 : decode cX5_refusalOf 4 = .ok (.ifCond .eq 10, 3) := by decide +kernel
theorem dX5_refusalOf_7 : decode cX5_refusalOf 7 = .ok (.iload_n 2, 1) := by decide +kernel
theorem dX5_refusalOf_8 : decode cX5_refusalOf 8 = .ok (.invokestatic 34, 3) := by decide +kernel
theorem dX5_refusalOf_11 : decode cX5_refusalOf 11 = .ok (.ifCond .ne 6, 3) := by decide +kernel
theorem dX5_refusalOf_14 : decode cX5_refusalOf 14 = .ok (.bipush (-2), 2) := by decide +kernel
theorem dX5_refusalOf_16 : decode cX5_refusalOf 16 = .ok (.ireturn, 1) := by decide +kernel
theorem dX5_refusalOf_17 : decode cX5_refusalOf 17 = .ok (.aload_n 0, 1) := by decide +kernel
theorem dX5_refusalOf_18 : decode cX5_refusalOf 18 = .ok (.iload_n 1, 1) := by decide +kernel
theorem dX5_refusalOf_19 : decode cX5_refusalOf 19 = .ok (.invokevirtual 31, 3) := by decide +kernel
theorem dX5_refusalOf_22 : decode cX5_refusalOf 22 = .ok (.ifCond .eq 9, 3) := by decide +kernel
theorem dX5_refusalOf_25 : decode cX5_refusalOf 25 = .ok (.aload_n 0, 1) := by decide +kernel
theorem dX5_refusalOf_26 : decode cX5_refusalOf 26 = .ok (.iconst 1, 1) := by decide +kernel
theorem dX5_refusalOf_27 : decode cX5_refusalOf 27 = .ok (.invokevirtual 37, 3) := by decide +kernel
theorem dX5_refusalOf_30 : decode cX5_refusalOf 30 = .ok (.ireturn, 1) := by decide +kernel
theorem dX5_refusalOf_31 : decode cX5_refusalOf 31 = .ok (.aload_n 0, 1) := by decide +kernel
theorem dX5_refusalOf_32 : decode cX5_refusalOf 32 = .ok (.getfield 16, 3) := by decide +kernel
theorem dX5_refusalOf_35 : decode cX5_refusalOf 35 = .ok (.iload_n 1, 1) := by decide +kernel
theorem dX5_refusalOf_36 : decode cX5_refusalOf 36 = .ok (.iaload, 1) := by decide +kernel
theorem dX5_refusalOf_37 : decode cX5_refusalOf 37 = .ok (.iload_n 2, 1) := by decide +kernel
theorem dX5_refusalOf_38 : decode cX5_refusalOf 38 = .ok (.if_icmp .eq 9, 3) := by decide +kernel
theorem dX5_refusalOf_41 : decode cX5_refusalOf 41 = .ok (.aload_n 0, 1) := by decide +kernel
theorem dX5_refusalOf_42 : decode cX5_refusalOf 42 = .ok (.iconst 3, 1) := by decide +kernel
theorem dX5_refusalOf_43 : decode cX5_refusalOf 43 = .ok (.invokevirtual 37, 3) := by decide +kernel
theorem dX5_refusalOf_46 : decode cX5_refusalOf 46 = .ok (.ireturn, 1) := by decide +kernel
theorem dX5_refusalOf_47 : decode cX5_refusalOf 47 = .ok (.aload_n 0, 1) := by decide +kernel
theorem dX5_refusalOf_48 : decode cX5_refusalOf 48 = .ok (.iload_n 1, 1) := by decide +kernel
theorem dX5_refusalOf_49 : decode cX5_refusalOf 49 = .ok (.iload_n 3, 1) := by decide +kernel
theorem dX5_refusalOf_50 : decode cX5_refusalOf 50 = .ok (.invokevirtual 41, 3) := by decide +kernel
theorem dX5_refusalOf_53 : decode cX5_refusalOf 53 = .ok (.ifCond .eq 7, 3) := by decide +kernel
theorem dX5_refusalOf_56 : decode cX5_refusalOf 56 = .ok (.iconst 0, 1) := by decide +kernel
theorem dX5_refusalOf_57 : decode cX5_refusalOf 57 = .ok (.goto 8, 3) := by decide +kernel
theorem dX5_refusalOf_60 : decode cX5_refusalOf 60 = .ok (.aload_n 0, 1) := by decide +kernel
theorem dX5_refusalOf_61 : decode cX5_refusalOf 61 = .ok (.iconst 2, 1) := by decide +kernel
theorem dX5_refusalOf_62 : decode cX5_refusalOf 62 = .ok (.invokevirtual 37, 3) := by decide +kernel
theorem dX5_refusalOf_65 : decode cX5_refusalOf 65 = .ok (.ireturn, 1) := by decide +kernel
theorem dX5_isItem_0 : decode cX5_isItem 0 = .ok (.iload_n 2, 1) := by decide +kernel
theorem dX5_isItem_1 : decode cX5_isItem 1 = .ok (.ifCond .lt 22, 3) := by decide +kernel
theorem dX5_isItem_4 : decode cX5_isItem 4 = .ok (.iload_n 2, 1) := by decide +kernel
theorem dX5_isItem_5 : decode cX5_isItem 5 = .ok (.aload_n 0, 1) := by decide +kernel
theorem dX5_isItem_6 : decode cX5_isItem 6 = .ok (.iload_n 1, 1) := by decide +kernel
theorem dX5_isItem_7 : decode cX5_isItem 7 = .ok (.invokevirtual 45, 3) := by decide +kernel
theorem dX5_isItem_10 : decode cX5_isItem 10 = .ok (.if_icmp .ge 13, 3) := by decide +kernel
theorem dX5_isItem_13 : decode cX5_isItem 13 = .ok (.iload_n 2, 1) := by decide +kernel
theorem dX5_isItem_14 : decode cX5_isItem 14 = .ok (.bipush 60, 2) := by decide +kernel
theorem dX5_isItem_16 : decode cX5_isItem 16 = .ok (.if_icmp .ge 7, 3) := by decide +kernel
theorem dX5_isItem_19 : decode cX5_isItem 19 = .ok (.iconst 1, 1) := by decide +kernel
theorem dX5_isItem_20 : decode cX5_isItem 20 = .ok (.goto 4, 3) := by decide +kernel
theorem dX5_isItem_23 : decode cX5_isItem 23 = .ok (.iconst 0, 1) := by decide +kernel
theorem dX5_isItem_24 : decode cX5_isItem 24 = .ok (.ireturn, 1) := by decide +kernel
theorem dX5_itemAt_0 : decode cX5_itemAt 0 = .ok (.aload_n 0, 1) := by decide +kernel
theorem dX5_itemAt_1 : decode cX5_itemAt 1 = .ok (.iload_n 1, 1) := by decide +kernel
theorem dX5_itemAt_2 : decode cX5_itemAt 2 = .ok (.iload_n 2, 1) := by decide +kernel
theorem dX5_itemAt_3 : decode cX5_itemAt 3 = .ok (.invokevirtual 41, 3) := by decide +kernel
theorem dX5_itemAt_6 : decode cX5_itemAt 6 = .ok (.ifCond .eq 14, 3) := by decide +kernel
theorem dX5_itemAt_9 : decode cX5_itemAt 9 = .ok (.aload_n 0, 1) := by decide +kernel
theorem dX5_itemAt_10 : decode cX5_itemAt 10 = .ok (.getfield 13, 3) := by decide +kernel
theorem dX5_itemAt_13 : decode cX5_itemAt 13 = .ok (.iload_n 1, 1) := by decide +kernel
theorem dX5_itemAt_14 : decode cX5_itemAt 14 = .ok (.aaload, 1) := by decide +kernel
theorem dX5_itemAt_15 : decode cX5_itemAt 15 = .ok (.iload_n 2, 1) := by decide +kernel
theorem dX5_itemAt_16 : decode cX5_itemAt 16 = .ok (.iaload, 1) := by decide +kernel
theorem dX5_itemAt_17 : decode cX5_itemAt 17 = .ok (.goto 4, 3) := by decide +kernel
theorem dX5_itemAt_20 : decode cX5_itemAt 20 = .ok (.iconst 0, 1) := by decide +kernel
theorem dX5_itemAt_21 : decode cX5_itemAt 21 = .ok (.ireturn, 1) := by decide +kernel
theorem dX5_put_0 : decode cX5_put 0 = .ok (.aload_n 0, 1) := by decide +kernel
theorem dX5_put_1 : decode cX5_put 1 = .ok (.iload_n 1, 1) := by decide +kernel
theorem dX5_put_2 : decode cX5_put 2 = .ok (.iload_n 2, 1) := by decide +kernel
theorem dX5_put_3 : decode cX5_put 3 = .ok (.invokevirtual 41, 3) := by decide +kernel
theorem dX5_put_6 : decode cX5_put 6 = .ok (.ifCond .eq 21, 3) := by decide +kernel
theorem dX5_put_9 : decode cX5_put 9 = .ok (.aload_n 0, 1) := by decide +kernel
theorem dX5_put_10 : decode cX5_put 10 = .ok (.getfield 13, 3) := by decide +kernel
theorem dX5_put_13 : decode cX5_put 13 = .ok (.iload_n 1, 1) := by decide +kernel
theorem dX5_put_14 : decode cX5_put 14 = .ok (.aaload, 1) := by decide +kernel
theorem dX5_put_15 : decode cX5_put 15 = .ok (.iload_n 2, 1) := by decide +kernel
theorem dX5_put_16 : decode cX5_put 16 = .ok (.aload_n 0, 1) := by decide +kernel
theorem dX5_put_17 : decode cX5_put 17 = .ok (.getfield 16, 3) := by decide +kernel
theorem dX5_put_20 : decode cX5_put 20 = .ok (.iload_n 1, 1) := by decide +kernel
theorem dX5_put_21 : decode cX5_put 21 = .ok (.iaload, 1) := by decide +kernel
theorem dX5_put_22 : decode cX5_put 22 = .ok (.iload_n 3, 1) := by decide +kernel
theorem dX5_put_23 : decode cX5_put 23 = .ok (.invokestatic 48, 3) := by decide +kernel
theorem dX5_put_26 : decode cX5_put 26 = .ok (.iastore, 1) := by decide +kernel
theorem dX5_put_27 : decode cX5_put 27 = .ok (.return_, 1) := by decide +kernel
theorem dX5_asForm_0 : decode cX5_asForm 0 = .ok (.iload_n 0, 1) := by decide +kernel
theorem dX5_asForm_1 : decode cX5_asForm 1 = .ok (.ifCond .ne 8, 3) := by decide +kernel
theorem dX5_asForm_4 : decode cX5_asForm 4 = .ok (.iload_n 1, 1) := by decide +kernel
theorem dX5_asForm_5 : decode cX5_asForm 5 = .ok (.i2b, 1) := by decide +kernel
theorem dX5_asForm_6 : decode cX5_asForm 6 = .ok (.goto 14, 3) := by decide +kernel
theorem dX5_asForm_9 : decode cX5_asForm 9 = .ok (.iload_n 0, 1) := by decide +kernel
theorem dX5_asForm_10 : decode cX5_asForm 10 = .ok (.iconst 1, 1) := by decide +kernel
theorem dX5_asForm_11 : decode cX5_asForm 11 = .ok (.if_icmp .ne 8, 3) := by decide +kernel
theorem dX5_asForm_14 : decode cX5_asForm 14 = .ok (.iload_n 1, 1) := by decide +kernel
theorem dX5_asForm_15 : decode cX5_asForm 15 = .ok (.i2s, 1) := by decide +kernel
theorem dX5_asForm_16 : decode cX5_asForm 16 = .ok (.goto 4, 3) := by decide +kernel
theorem dX5_asForm_19 : decode cX5_asForm 19 = .ok (.iload_n 1, 1) := by decide +kernel
theorem dX5_asForm_20 : decode cX5_asForm 20 = .ok (.ireturn, 1) := by decide +kernel
theorem dX5_holds_0 : decode cX5_holds 0 = .ok (.iload_n 2, 1) := by decide +kernel
theorem dX5_holds_1 : decode cX5_holds 1 = .ok (.ifCond .lt 28, 3) := by decide +kernel
theorem dX5_holds_4 : decode cX5_holds 4 = .ok (.iload_n 3, 1) := by decide +kernel
theorem dX5_holds_5 : decode cX5_holds 5 = .ok (.ifCond .lt 24, 3) := by decide +kernel
theorem dX5_holds_8 : decode cX5_holds 8 = .ok (.iload_n 3, 1) := by decide +kernel
theorem dX5_holds_9 : decode cX5_holds 9 = .ok (.bipush 60, 2) := by decide +kernel
theorem dX5_holds_11 : decode cX5_holds 11 = .ok (.if_icmp .gt 18, 3) := by decide +kernel
theorem dX5_holds_14 : decode cX5_holds 14 = .ok (.iload_n 2, 1) := by decide +kernel
theorem dX5_holds_15 : decode cX5_holds 15 = .ok (.aload_n 0, 1) := by decide +kernel
theorem dX5_holds_16 : decode cX5_holds 16 = .ok (.iload_n 1, 1) := by decide +kernel
theorem dX5_holds_17 : decode cX5_holds 17 = .ok (.invokevirtual 45, 3) := by decide +kernel
theorem dX5_holds_20 : decode cX5_holds 20 = .ok (.iload_n 3, 1) := by decide +kernel
theorem dX5_holds_21 : decode cX5_holds 21 = .ok (.isub, 1) := by decide +kernel
theorem dX5_holds_22 : decode cX5_holds 22 = .ok (.if_icmp .gt 7, 3) := by decide +kernel
theorem dX5_holds_25 : decode cX5_holds 25 = .ok (.iconst 1, 1) := by decide +kernel
theorem dX5_holds_26 : decode cX5_holds 26 = .ok (.goto 4, 3) := by decide +kernel
theorem dX5_holds_29 : decode cX5_holds 29 = .ok (.iconst 0, 1) := by decide +kernel
theorem dX5_holds_30 : decode cX5_holds 30 = .ok (.ireturn, 1) := by decide +kernel
theorem dX5_move_0 : decode cX5_move 0 = .ok (.iload_n 1, 1) := by decide +kernel
theorem dX5_move_1 : decode cX5_move 1 = .ok (.invokestatic 27, 3) := by decide +kernel
theorem dX5_move_4 : decode cX5_move 4 = .ok (.ifCond .eq 53, 3) := by decide +kernel
theorem dX5_move_7 : decode cX5_move 7 = .ok (.iload_n 3, 1) := by decide +kernel
theorem dX5_move_8 : decode cX5_move 8 = .ok (.invokestatic 27, 3) := by decide +kernel
theorem dX5_move_11 : decode cX5_move 11 = .ok (.ifCond .eq 46, 3) := by decide +kernel
theorem dX5_move_14 : decode cX5_move 14 = .ok (.aload_n 0, 1) := by decide +kernel
theorem dX5_move_15 : decode cX5_move 15 = .ok (.iload_n 1, 1) := by decide +kernel
theorem dX5_move_16 : decode cX5_move 16 = .ok (.iload_n 2, 1) := by decide +kernel
theorem dX5_move_17 : decode cX5_move 17 = .ok (.iload 5, 2) := by decide +kernel
theorem dX5_move_19 : decode cX5_move 19 = .ok (.invokevirtual 52, 3) := by decide +kernel
theorem dX5_move_22 : decode cX5_move 22 = .ok (.ifCond .eq 35, 3) := by decide +kernel
theorem dX5_move_25 : decode cX5_move 25 = .ok (.aload_n 0, 1) := by decide +kernel
theorem dX5_move_26 : decode cX5_move 26 = .ok (.iload_n 3, 1) := by decide +kernel
theorem dX5_move_27 : decode cX5_move 27 = .ok (.iload 4, 2) := by decide +kernel
theorem dX5_move_29 : decode cX5_move 29 = .ok (.iload 5, 2) := by decide +kernel
theorem dX5_move_31 : decode cX5_move 31 = .ok (.invokevirtual 52, 3) := by decide +kernel
theorem dX5_move_34 : decode cX5_move 34 = .ok (.ifCond .eq 23, 3) := by decide +kernel
theorem dX5_move_37 : decode cX5_move 37 = .ok (.aload_n 0, 1) := by decide +kernel
theorem dX5_move_38 : decode cX5_move 38 = .ok (.getfield 13, 3) := by decide +kernel
theorem dX5_move_41 : decode cX5_move 41 = .ok (.iload_n 1, 1) := by decide +kernel
theorem dX5_move_42 : decode cX5_move 42 = .ok (.aaload, 1) := by decide +kernel
theorem dX5_move_43 : decode cX5_move 43 = .ok (.iload_n 2, 1) := by decide +kernel
theorem dX5_move_44 : decode cX5_move 44 = .ok (.aload_n 0, 1) := by decide +kernel
theorem dX5_move_45 : decode cX5_move 45 = .ok (.getfield 13, 3) := by decide +kernel
theorem dX5_move_48 : decode cX5_move 48 = .ok (.iload_n 3, 1) := by decide +kernel
theorem dX5_move_49 : decode cX5_move 49 = .ok (.aaload, 1) := by decide +kernel
theorem dX5_move_50 : decode cX5_move 50 = .ok (.iload 4, 2) := by decide +kernel
theorem dX5_move_52 : decode cX5_move 52 = .ok (.iload 5, 2) := by decide +kernel
theorem dX5_move_54 : decode cX5_move 54 = .ok (.invokestatic 56, 3) := by decide +kernel
theorem dX5_move_57 : decode cX5_move 57 = .ok (.return_, 1) := by decide +kernel
theorem dX6_init_0 : decode cX6_init 0 = .ok (.aload_n 0, 1) := by decide +kernel
theorem dX6_init_1 : decode cX6_init 1 = .ok (.invokespecial 3, 3) := by decide +kernel
theorem dX6_init_4 : decode cX6_init 4 = .ok (.aload_n 0, 1) := by decide +kernel
theorem dX6_init_5 : decode cX6_init 5 = .ok (.bipush 8, 2) := by decide +kernel
theorem dX6_init_7 : decode cX6_init 7 = .ok (.newarray .int, 2) := by decide +kernel
theorem dX6_init_9 : decode cX6_init 9 = .ok (.putfield 9, 3) := by decide +kernel
theorem dX6_init_12 : decode cX6_init 12 = .ok (.aload_n 0, 1) := by decide +kernel
theorem dX6_init_13 : decode cX6_init 13 = .ok (.bipush 8, 2) := by decide +kernel
theorem dX6_init_15 : decode cX6_init 15 = .ok (.newarray .int, 2) := by decide +kernel
theorem dX6_init_17 : decode cX6_init 17 = .ok (.putfield 15, 3) := by decide +kernel
theorem dX6_init_20 : decode cX6_init 20 = .ok (.aload_n 0, 1) := by decide +kernel
theorem dX6_init_21 : decode cX6_init 21 = .ok (.bipush 8, 2) := by decide +kernel
theorem dX6_init_23 : decode cX6_init 23 = .ok (.newarray .int, 2) := by decide +kernel
theorem dX6_init_25 : decode cX6_init 25 = .ok (.putfield 18, 3) := by decide +kernel
theorem dX6_init_28 : decode cX6_init 28 = .ok (.aload_n 0, 1) := by decide +kernel
theorem dX6_init_29 : decode cX6_init 29 = .ok (.iconst 0, 1) := by decide +kernel
theorem dX6_init_30 : decode cX6_init 30 = .ok (.putfield 21, 3) := by decide +kernel
theorem dX6_init_33 : decode cX6_init 33 = .ok (.return_, 1) := by decide +kernel
theorem dX6_allows_0 : decode cX6_allows 0 = .ok (.iload_n 0, 1) := by decide +kernel
theorem dX6_allows_1 : decode cX6_allows 1 = .ok (.iconst 0, 1) := by decide +kernel
theorem dX6_allows_2 : decode cX6_allows 2 = .ok (.bipush 12, 2) := by decide +kernel
theorem dX6_allows_4 : decode cX6_allows 4 = .ok (.invokestatic 25, 3) := by decide +kernel
theorem dX6_allows_7 : decode cX6_allows 7 = .ok (.ifCond .eq 27, 3) := by decide +kernel
theorem dX6_allows_10 : decode cX6_allows 10 = .ok (.iload_n 1, 1) := by decide +kernel
theorem dX6_allows_11 : decode cX6_allows 11 = .ok (.iconst 0, 1) := by decide +kernel
theorem dX6_allows_12 : decode cX6_allows 12 = .ok (.bipush 7, 2) := by decide +kernel
theorem dX6_allows_14 : decode cX6_allows 14 = .ok (.invokestatic 25, 3) := by decide +kernel
theorem dX6_allows_17 : decode cX6_allows 17 = .ok (.ifCond .eq 17, 3) := by decide +kernel
theorem dX6_allows_20 : decode cX6_allows 20 = .ok (.iload_n 2, 1) := by decide +kernel
theorem dX6_allows_21 : decode cX6_allows 21 = .ok (.iconst 0, 1) := by decide +kernel
theorem dX6_allows_22 : decode cX6_allows 22 = .ok (.bipush 16, 2) := by decide +kernel
theorem dX6_allows_24 : decode cX6_allows 24 = .ok (.invokestatic 25, 3) := by decide +kernel
theorem dX6_allows_27 : decode cX6_allows 27 = .ok (.ifCond .eq 7, 3) := by decide +kernel
theorem dX6_allows_30 : decode cX6_allows 30 = .ok (.iconst 1, 1) := by decide +kernel
theorem dX6_allows_31 : decode cX6_allows 31 = .ok (.goto 4, 3) := by decide +kernel
theorem dX6_allows_34 : decode cX6_allows 34 = .ok (.iconst 0, 1) := by decide +kernel
theorem dX6_allows_35 : decode cX6_allows 35 = .ok (.ireturn, 1) := by decide +kernel
theorem dX6_size_0 : decode cX6_size 0 = .ok (.aload_n 0, 1) := by decide +kernel
theorem dX6_size_1 : decode cX6_size 1 = .ok (.getfield 21, 3) := by decide +kernel
theorem dX6_size_4 : decode cX6_size 4 = .ok (.ireturn, 1) := by decide +kernel
theorem dX6_isFull_0 : decode cX6_isFull 0 = .ok (.aload_n 0, 1) := by decide +kernel
theorem dX6_isFull_1 : decode cX6_isFull 1 = .ok (.getfield 21, 3) := by decide +kernel
theorem dX6_isFull_4 : decode cX6_isFull 4 = .ok (.bipush 8, 2) := by decide +kernel
theorem dX6_isFull_6 : decode cX6_isFull 6 = .ok (.if_icmp .lt 7, 3) := by decide +kernel
theorem dX6_isFull_9 : decode cX6_isFull 9 = .ok (.iconst 1, 1) := by decide +kernel
theorem dX6_isFull_10 : decode cX6_isFull 10 = .ok (.goto 4, 3) := by decide +kernel
theorem dX6_isFull_13 : decode cX6_isFull 13 = .ok (.iconst 0, 1) := by decide +kernel
theorem dX6_isFull_14 : decode cX6_isFull 14 = .ok (.ireturn, 1) := by decide +kernel
theorem dX6_add_0 : decode cX6_add 0 = .ok (.aload_n 0, 1) := by decide +kernel
theorem dX6_add_1 : decode cX6_add 1 = .ok (.getfield 21, 3) := by decide +kernel
theorem dX6_add_4 : decode cX6_add 4 = .ok (.ifCond .lt 52, 3) := by decide +kernel
theorem dX6_add_7 : decode cX6_add 7 = .ok (.aload_n 0, 1) := by decide +kernel
theorem dX6_add_8 : decode cX6_add 8 = .ok (.getfield 21, 3) := by decide +kernel
theorem dX6_add_11 : decode cX6_add 11 = .ok (.bipush 8, 2) := by decide +kernel
theorem dX6_add_13 : decode cX6_add 13 = .ok (.if_icmp .ge 43, 3) := by decide +kernel
theorem dX6_add_16 : decode cX6_add 16 = .ok (.aload_n 0, 1) := by decide +kernel
theorem dX6_add_17 : decode cX6_add 17 = .ok (.getfield 9, 3) := by decide +kernel
theorem dX6_add_20 : decode cX6_add 20 = .ok (.aload_n 0, 1) := by decide +kernel
theorem dX6_add_21 : decode cX6_add 21 = .ok (.getfield 21, 3) := by decide +kernel
theorem dX6_add_24 : decode cX6_add 24 = .ok (.iload_n 1, 1) := by decide +kernel
theorem dX6_add_25 : decode cX6_add 25 = .ok (.iastore, 1) := by decide +kernel
theorem dX6_add_26 : decode cX6_add 26 = .ok (.aload_n 0, 1) := by decide +kernel
theorem dX6_add_27 : decode cX6_add 27 = .ok (.getfield 15, 3) := by decide +kernel
theorem dX6_add_30 : decode cX6_add 30 = .ok (.aload_n 0, 1) := by decide +kernel
theorem dX6_add_31 : decode cX6_add 31 = .ok (.getfield 21, 3) := by decide +kernel
theorem dX6_add_34 : decode cX6_add 34 = .ok (.iload_n 2, 1) := by decide +kernel
theorem dX6_add_35 : decode cX6_add 35 = .ok (.iastore, 1) := by decide +kernel
theorem dX6_add_36 : decode cX6_add 36 = .ok (.aload_n 0, 1) := by decide +kernel
theorem dX6_add_37 : decode cX6_add 37 = .ok (.getfield 18, 3) := by decide +kernel
theorem dX6_add_40 : decode cX6_add 40 = .ok (.aload_n 0, 1) := by decide +kernel
theorem dX6_add_41 : decode cX6_add 41 = .ok (.getfield 21, 3) := by decide +kernel
theorem dX6_add_44 : decode cX6_add 44 = .ok (.iload_n 3, 1) := by decide +kernel
theorem dX6_add_45 : decode cX6_add 45 = .ok (.iastore, 1) := by decide +kernel
theorem dX6_add_46 : decode cX6_add 46 = .ok (.aload_n 0, 1) := by decide +kernel
theorem dX6_add_47 : decode cX6_add 47 = .ok (.dup, 1) := by decide +kernel
theorem dX6_add_48 : decode cX6_add 48 = .ok (.getfield 21, 3) := by decide +kernel
theorem dX6_add_51 : decode cX6_add 51 = .ok (.iconst 1, 1) := by decide +kernel
theorem dX6_add_52 : decode cX6_add 52 = .ok (.iadd, 1) := by decide +kernel
theorem dX6_add_53 : decode cX6_add 53 = .ok (.putfield 21, 3) := by decide +kernel
theorem dX6_add_56 : decode cX6_add 56 = .ok (.return_, 1) := by decide +kernel
theorem dX6_clear_0 : decode cX6_clear 0 = .ok (.aload_n 0, 1) := by decide +kernel
theorem dX6_clear_1 : decode cX6_clear 1 = .ok (.iconst 0, 1) := by decide +kernel
theorem dX6_clear_2 : decode cX6_clear 2 = .ok (.putfield 21, 3) := by decide +kernel
theorem dX6_clear_5 : decode cX6_clear 5 = .ok (.return_, 1) := by decide +kernel
theorem dX6_looksBeyond_0 : decode cX6_looksBeyond 0 = .ok (.iconst 0, 1) := by decide +kernel
theorem dX6_looksBeyond_1 : decode cX6_looksBeyond 1 = .ok (.istore_n 2, 1) := by decide +kernel
theorem dX6_looksBeyond_2 : decode cX6_looksBeyond 2 = .ok (.iload_n 2, 1) := by decide +kernel
theorem dX6_looksBeyond_3 : decode cX6_looksBeyond 3 = .ok (.aload_n 0, 1) := by decide +kernel
theorem dX6_looksBeyond_4 : decode cX6_looksBeyond 4 = .ok (.getfield 21, 3) := by decide +kernel
theorem dX6_looksBeyond_7 : decode cX6_looksBeyond 7 = .ok (.if_icmp .ge 27, 3) := by decide +kernel
theorem dX6_looksBeyond_10 : decode cX6_looksBeyond 10 = .ok (.iload_n 2, 1) := by decide +kernel
theorem dX6_looksBeyond_11 : decode cX6_looksBeyond 11 = .ok (.bipush 8, 2) := by decide +kernel
theorem dX6_looksBeyond_13 : decode cX6_looksBeyond 13 = .ok (.if_icmp .ge 21, 3) := by decide +kernel
theorem dX6_looksBeyond_16 : decode cX6_looksBeyond 16 = .ok (.aload_n 0, 1) := by decide +kernel
theorem dX6_looksBeyond_17 : decode cX6_looksBeyond 17 = .ok (.getfield 9, 3) := by decide +kernel
theorem dX6_looksBeyond_20 : decode cX6_looksBeyond 20 = .ok (.iload_n 2, 1) := by decide +kernel
theorem dX6_looksBeyond_21 : decode cX6_looksBeyond 21 = .ok (.iaload, 1) := by decide +kernel
theorem dX6_looksBeyond_22 : decode cX6_looksBeyond 22 = .ok (.iload_n 1, 1) := by decide +kernel
theorem dX6_looksBeyond_23 : decode cX6_looksBeyond 23 = .ok (.if_icmp .le 5, 3) := by decide +kernel
theorem dX6_looksBeyond_26 : decode cX6_looksBeyond 26 = .ok (.iconst 1, 1) := by decide +kernel
theorem dX6_looksBeyond_27 : decode cX6_looksBeyond 27 = .ok (.ireturn, 1) := by decide +kernel
theorem dX6_looksBeyond_28 : decode cX6_looksBeyond 28 = .ok (.iinc 2 1, 3) := by decide +kernel
theorem dX6_looksBeyond_31 : decode cX6_looksBeyond 31 = .ok (.goto (-29), 3) := by decide +kernel
theorem dX6_looksBeyond_34 : decode cX6_looksBeyond 34 = .ok (.iconst 0, 1) := by decide +kernel
theorem dX6_looksBeyond_35 : decode cX6_looksBeyond 35 = .ok (.ireturn, 1) := by decide +kernel
theorem dX6_fit_0 : decode cX6_fit 0 = .ok (.iconst 0, 1) := by decide +kernel
theorem dX6_fit_1 : decode cX6_fit 1 = .ok (.istore_n 3, 1) := by decide +kernel
theorem dX6_fit_2 : decode cX6_fit 2 = .ok (.iload_n 3, 1) := by decide +kernel
theorem dX6_fit_3 : decode cX6_fit 3 = .ok (.aload_n 0, 1) := by decide +kernel
theorem dX6_fit_4 : decode cX6_fit 4 = .ok (.getfield 21, 3) := by decide +kernel
theorem dX6_fit_7 : decode cX6_fit 7 = .ok (.if_icmp .ge 36, 3) := by decide +kernel
theorem dX6_fit_10 : decode cX6_fit 10 = .ok (.iload_n 3, 1) := by decide +kernel
theorem dX6_fit_11 : decode cX6_fit 11 = .ok (.bipush 8, 2) := by decide +kernel
theorem dX6_fit_13 : decode cX6_fit 13 = .ok (.if_icmp .ge 30, 3) := by decide +kernel
theorem dX6_fit_16 : decode cX6_fit 16 = .ok (.aload_n 0, 1) := by decide +kernel
theorem dX6_fit_17 : decode cX6_fit 17 = .ok (.getfield 9, 3) := by decide +kernel
theorem dX6_fit_20 : decode cX6_fit 20 = .ok (.iload_n 3, 1) := by decide +kernel
theorem dX6_fit_21 : decode cX6_fit 21 = .ok (.iaload, 1) := by decide +kernel
theorem dX6_fit_22 : decode cX6_fit 22 = .ok (.iload_n 1, 1) := by decide +kernel
theorem dX6_fit_23 : decode cX6_fit 23 = .ok (.if_icmp .ne 14, 3) := by decide +kernel
theorem dX6_fit_26 : decode cX6_fit 26 = .ok (.aload_n 0, 1) := by decide +kernel
theorem dX6_fit_27 : decode cX6_fit 27 = .ok (.iload_n 3, 1) := by decide +kernel
theorem dX6_fit_28 : decode cX6_fit 28 = .ok (.aload_n 2, 1) := by decide +kernel
theorem dX6_fit_29 : decode cX6_fit 29 = .ok (.invokevirtual 29, 3) := by decide +kernel
theorem dX6_fit_32 : decode cX6_fit 32 = .ok (.ifCond .ne 5, 3) := by decide +kernel
theorem dX6_fit_35 : decode cX6_fit 35 = .ok (.iconst 0, 1) := by decide +kernel
theorem dX6_fit_36 : decode cX6_fit 36 = .ok (.ireturn, 1) := by decide +kernel
theorem dX6_fit_37 : decode cX6_fit 37 = .ok (.iinc 3 1, 3) := by decide +kernel
theorem dX6_fit_40 : decode cX6_fit 40 = .ok (.goto (-38), 3) := by decide +kernel
theorem dX6_fit_43 : decode cX6_fit 43 = .ok (.iconst 1, 1) := by decide +kernel
theorem dX6_fit_44 : decode cX6_fit 44 = .ok (.ireturn, 1) := by decide +kernel
theorem dX6_isSo_0 : decode cX6_isSo 0 = .ok (.aload_n 2, 1) := by decide +kernel
theorem dX6_isSo_1 : decode cX6_isSo 1 = .ok (.aload_n 0, 1) := by decide +kernel
theorem dX6_isSo_2 : decode cX6_isSo 2 = .ok (.getfield 15, 3) := by decide +kernel
theorem dX6_isSo_5 : decode cX6_isSo 5 = .ok (.iload_n 1, 1) := by decide +kernel
theorem dX6_isSo_6 : decode cX6_isSo 6 = .ok (.iaload, 1) := by decide +kernel
theorem dX6_isSo_7 : decode cX6_isSo 7 = .ok (.invokevirtual 33, 3) := by decide +kernel
theorem dX6_isSo_10 : decode cX6_isSo 10 = .ok (.ifCond .eq 26, 3) := by decide +kernel
theorem dX6_isSo_13 : decode cX6_isSo 13 = .ok (.aload_n 2, 1) := by decide +kernel
theorem dX6_isSo_14 : decode cX6_isSo 14 = .ok (.aload_n 0, 1) := by decide +kernel
theorem dX6_isSo_15 : decode cX6_isSo 15 = .ok (.getfield 15, 3) := by decide +kernel
theorem dX6_isSo_18 : decode cX6_isSo 18 = .ok (.iload_n 1, 1) := by decide +kernel
theorem dX6_isSo_19 : decode cX6_isSo 19 = .ok (.iaload, 1) := by decide +kernel
theorem dX6_isSo_20 : decode cX6_isSo 20 = .ok (.invokevirtual 39, 3) := by decide +kernel
theorem dX6_isSo_23 : decode cX6_isSo 23 = .ok (.aload_n 0, 1) := by decide +kernel
theorem dX6_isSo_24 : decode cX6_isSo 24 = .ok (.getfield 18, 3) := by decide +kernel
theorem dX6_isSo_27 : decode cX6_isSo 27 = .ok (.iload_n 1, 1) := by decide +kernel
theorem dX6_isSo_28 : decode cX6_isSo 28 = .ok (.iaload, 1) := by decide +kernel
theorem dX6_isSo_29 : decode cX6_isSo 29 = .ok (.if_icmp .ne 7, 3) := by decide +kernel
theorem dX6_isSo_32 : decode cX6_isSo 32 = .ok (.iconst 1, 1) := by decide +kernel
theorem dX6_isSo_33 : decode cX6_isSo 33 = .ok (.goto 4, 3) := by decide +kernel
theorem dX6_isSo_36 : decode cX6_isSo 36 = .ok (.iconst 0, 1) := by decide +kernel
theorem dX6_isSo_37 : decode cX6_isSo 37 = .ok (.ireturn, 1) := by decide +kernel
theorem dX7_ofLetter_0 : decode cX7_ofLetter 0 = .ok (.iload_n 0, 1) := by decide +kernel
theorem dX7_ofLetter_1 : decode cX7_ofLetter 1 = .ok (.lookupswitch 51 #[(78, 47), (83, 49), (110, 43), (115, 45)], 43) := by decide +kernel
theorem dX7_ofLetter_44 : decode cX7_ofLetter 44 = .ok (.iconst 0, 1) := by decide +kernel
theorem dX7_ofLetter_45 : decode cX7_ofLetter 45 = .ok (.ireturn, 1) := by decide +kernel
theorem dX7_ofLetter_46 : decode cX7_ofLetter 46 = .ok (.iconst 1, 1) := by decide +kernel
theorem dX7_ofLetter_47 : decode cX7_ofLetter 47 = .ok (.ireturn, 1) := by decide +kernel
theorem dX7_ofLetter_48 : decode cX7_ofLetter 48 = .ok (.iconst 2, 1) := by decide +kernel
theorem dX7_ofLetter_49 : decode cX7_ofLetter 49 = .ok (.ireturn, 1) := by decide +kernel
theorem dX7_ofLetter_50 : decode cX7_ofLetter 50 = .ok (.iconst 3, 1) := by decide +kernel
theorem dX7_ofLetter_51 : decode cX7_ofLetter 51 = .ok (.ireturn, 1) := by decide +kernel
theorem dX7_ofLetter_52 : decode cX7_ofLetter 52 = .ok (.iconst (-1), 1) := by decide +kernel
theorem dX7_ofLetter_53 : decode cX7_ofLetter 53 = .ok (.ireturn, 1) := by decide +kernel
theorem dX7_columnOf_0 : decode cX7_columnOf 0 = .ok (.iload_n 0, 1) := by decide +kernel
theorem dX7_columnOf_1 : decode cX7_columnOf 1 = .ok (.bipush 48, 2) := by decide +kernel
theorem dX7_columnOf_3 : decode cX7_columnOf 3 = .ok (.if_icmp .lt 16, 3) := by decide +kernel
theorem dX7_columnOf_6 : decode cX7_columnOf 6 = .ok (.iload_n 0, 1) := by decide +kernel
theorem dX7_columnOf_7 : decode cX7_columnOf 7 = .ok (.bipush 55, 2) := by decide +kernel
theorem dX7_columnOf_9 : decode cX7_columnOf 9 = .ok (.if_icmp .gt 10, 3) := by decide +kernel
theorem dX7_columnOf_12 : decode cX7_columnOf 12 = .ok (.iload_n 0, 1) := by decide +kernel
theorem dX7_columnOf_13 : decode cX7_columnOf 13 = .ok (.bipush 48, 2) := by decide +kernel
theorem dX7_columnOf_15 : decode cX7_columnOf 15 = .ok (.isub, 1) := by decide +kernel
theorem dX7_columnOf_16 : decode cX7_columnOf 16 = .ok (.goto 4, 3) := by decide +kernel
theorem dX7_columnOf_19 : decode cX7_columnOf 19 = .ok (.iconst (-1), 1) := by decide +kernel
theorem dX7_columnOf_20 : decode cX7_columnOf 20 = .ok (.ireturn, 1) := by decide +kernel
theorem dX7_ownerOf_0 : decode cX7_ownerOf 0 = .ok (.iload_n 0, 1) := by decide +kernel
theorem dX7_ownerOf_1 : decode cX7_ownerOf 1 = .ok (.iconst 1, 1) := by decide +kernel
theorem dX7_ownerOf_2 : decode cX7_ownerOf 2 = .ok (.iand, 1) := by decide +kernel
theorem dX7_ownerOf_3 : decode cX7_ownerOf 3 = .ok (.ireturn, 1) := by decide +kernel
theorem dX7_weightOf_0 : decode cX7_weightOf 0 = .ok (.iload_n 0, 1) := by decide +kernel
theorem dX7_weightOf_1 : decode cX7_weightOf 1 = .ok (.iconst 2, 1) := by decide +kernel
theorem dX7_weightOf_2 : decode cX7_weightOf 2 = .ok (.if_icmp .lt 7, 3) := by decide +kernel
theorem dX7_weightOf_5 : decode cX7_weightOf 5 = .ok (.iconst 2, 1) := by decide +kernel
theorem dX7_weightOf_6 : decode cX7_weightOf 6 = .ok (.goto 4, 3) := by decide +kernel
theorem dX7_weightOf_9 : decode cX7_weightOf 9 = .ok (.iconst 1, 1) := by decide +kernel
theorem dX7_weightOf_10 : decode cX7_weightOf 10 = .ok (.ireturn, 1) := by decide +kernel
theorem dX7_pullOf_0 : decode cX7_pullOf 0 = .ok (.iload_n 0, 1) := by decide +kernel
theorem dX7_pullOf_1 : decode cX7_pullOf 1 = .ok (.iconst 2, 1) := by decide +kernel
theorem dX7_pullOf_2 : decode cX7_pullOf 2 = .ok (.if_icmp .lt 7, 3) := by decide +kernel
theorem dX7_pullOf_5 : decode cX7_pullOf 5 = .ok (.iconst 2, 1) := by decide +kernel
theorem dX7_pullOf_6 : decode cX7_pullOf 6 = .ok (.goto 4, 3) := by decide +kernel
theorem dX7_pullOf_9 : decode cX7_pullOf 9 = .ok (.iconst 1, 1) := by decide +kernel
theorem dX7_pullOf_10 : decode cX7_pullOf 10 = .ok (.istore_n 1, 1) := by decide +kernel
theorem dX7_pullOf_11 : decode cX7_pullOf 11 = .ok (.iload_n 0, 1) := by decide +kernel
theorem dX7_pullOf_12 : decode cX7_pullOf 12 = .ok (.iconst 1, 1) := by decide +kernel
theorem dX7_pullOf_13 : decode cX7_pullOf 13 = .ok (.iand, 1) := by decide +kernel
theorem dX7_pullOf_14 : decode cX7_pullOf 14 = .ok (.ifCond .ne 7, 3) := by decide +kernel
theorem dX7_pullOf_17 : decode cX7_pullOf 17 = .ok (.iload_n 1, 1) := by decide +kernel
theorem dX7_pullOf_18 : decode cX7_pullOf 18 = .ok (.goto 5, 3) := by decide +kernel
theorem dX7_pullOf_21 : decode cX7_pullOf 21 = .ok (.iload_n 1, 1) := by decide +kernel
theorem dX7_pullOf_22 : decode cX7_pullOf 22 = .ok (.ineg, 1) := by decide +kernel
theorem dX7_pullOf_23 : decode cX7_pullOf 23 = .ok (.ireturn, 1) := by decide +kernel
theorem dX8_init_0 : decode cX8_init 0 = .ok (.aload_n 0, 1) := by decide +kernel
theorem dX8_init_1 : decode cX8_init 1 = .ok (.invokespecial 3, 3) := by decide +kernel
theorem dX8_init_4 : decode cX8_init 4 = .ok (.aload_n 0, 1) := by decide +kernel
theorem dX8_init_5 : decode cX8_init 5 = .ok (.bipush 63, 2) := by decide +kernel
theorem dX8_init_7 : decode cX8_init 7 = .ok (.newarray .int, 2) := by decide +kernel
theorem dX8_init_9 : decode cX8_init 9 = .ok (.putfield 9, 3) := by decide +kernel
theorem dX8_init_12 : decode cX8_init 12 = .ok (.aload_n 0, 1) := by decide +kernel
theorem dX8_init_13 : decode cX8_init 13 = .ok (.iconst 0, 1) := by decide +kernel
theorem dX8_init_14 : decode cX8_init 14 = .ok (.putfield 15, 3) := by decide +kernel
theorem dX8_init_17 : decode cX8_init 17 = .ok (.aload_n 0, 1) := by decide +kernel
theorem dX8_init_18 : decode cX8_init 18 = .ok (.iload_n 1, 1) := by decide +kernel
theorem dX8_init_19 : decode cX8_init 19 = .ok (.bipush 63, 2) := by decide +kernel
theorem dX8_init_21 : decode cX8_init 21 = .ok (.invokestatic 19, 3) := by decide +kernel
theorem dX8_init_24 : decode cX8_init 24 = .ok (.putfield 25, 3) := by decide +kernel
theorem dX8_init_27 : decode cX8_init 27 = .ok (.return_, 1) := by decide +kernel
theorem dX8_size_0 : decode cX8_size 0 = .ok (.aload_n 0, 1) := by decide +kernel
theorem dX8_size_1 : decode cX8_size 1 = .ok (.getfield 15, 3) := by decide +kernel
theorem dX8_size_4 : decode cX8_size 4 = .ok (.ireturn, 1) := by decide +kernel
theorem dX8_isFull_0 : decode cX8_isFull 0 = .ok (.aload_n 0, 1) := by decide +kernel
theorem dX8_isFull_1 : decode cX8_isFull 1 = .ok (.getfield 15, 3) := by decide +kernel
theorem dX8_isFull_4 : decode cX8_isFull 4 = .ok (.aload_n 0, 1) := by decide +kernel
theorem dX8_isFull_5 : decode cX8_isFull 5 = .ok (.getfield 25, 3) := by decide +kernel
theorem dX8_isFull_8 : decode cX8_isFull 8 = .ok (.if_icmp .lt 7, 3) := by decide +kernel
theorem dX8_isFull_11 : decode cX8_isFull 11 = .ok (.iconst 1, 1) := by decide +kernel
theorem dX8_isFull_12 : decode cX8_isFull 12 = .ok (.goto 4, 3) := by decide +kernel
theorem dX8_isFull_15 : decode cX8_isFull 15 = .ok (.iconst 0, 1) := by decide +kernel
theorem dX8_isFull_16 : decode cX8_isFull 16 = .ok (.ireturn, 1) := by decide +kernel
theorem dX8_add_0 : decode cX8_add 0 = .ok (.aload_n 0, 1) := by decide +kernel
theorem dX8_add_1 : decode cX8_add 1 = .ok (.getfield 15, 3) := by decide +kernel
theorem dX8_add_4 : decode cX8_add 4 = .ok (.ifCond .lt 34, 3) := by decide +kernel
theorem dX8_add_7 : decode cX8_add 7 = .ok (.aload_n 0, 1) := by decide +kernel
theorem dX8_add_8 : decode cX8_add 8 = .ok (.getfield 15, 3) := by decide +kernel
theorem dX8_add_11 : decode cX8_add 11 = .ok (.aload_n 0, 1) := by decide +kernel
theorem dX8_add_12 : decode cX8_add 12 = .ok (.getfield 25, 3) := by decide +kernel
theorem dX8_add_15 : decode cX8_add 15 = .ok (.if_icmp .ge 23, 3) := by decide +kernel
theorem dX8_add_18 : decode cX8_add 18 = .ok (.aload_n 0, 1) := by decide +kernel
theorem dX8_add_19 : decode cX8_add 19 = .ok (.getfield 9, 3) := by decide +kernel
theorem dX8_add_22 : decode cX8_add 22 = .ok (.aload_n 0, 1) := by decide +kernel
theorem dX8_add_23 : decode cX8_add 23 = .ok (.getfield 15, 3) := by decide +kernel
theorem dX8_add_26 : decode cX8_add 26 = .ok (.iload_n 1, 1) := by decide +kernel
theorem dX8_add_27 : decode cX8_add 27 = .ok (.iastore, 1) := by decide +kernel
theorem dX8_add_28 : decode cX8_add 28 = .ok (.aload_n 0, 1) := by decide +kernel
theorem dX8_add_29 : decode cX8_add 29 = .ok (.dup, 1) := by decide +kernel
theorem dX8_add_30 : decode cX8_add 30 = .ok (.getfield 15, 3) := by decide +kernel
theorem dX8_add_33 : decode cX8_add 33 = .ok (.iconst 1, 1) := by decide +kernel
theorem dX8_add_34 : decode cX8_add 34 = .ok (.iadd, 1) := by decide +kernel
theorem dX8_add_35 : decode cX8_add 35 = .ok (.putfield 15, 3) := by decide +kernel
theorem dX8_add_38 : decode cX8_add 38 = .ok (.return_, 1) := by decide +kernel
theorem dX8_cut_0 : decode cX8_cut 0 = .ok (.aload_n 0, 1) := by decide +kernel
theorem dX8_cut_1 : decode cX8_cut 1 = .ok (.getfield 15, 3) := by decide +kernel
theorem dX8_cut_4 : decode cX8_cut 4 = .ok (.ifCond .le 13, 3) := by decide +kernel
theorem dX8_cut_7 : decode cX8_cut 7 = .ok (.aload_n 0, 1) := by decide +kernel
theorem dX8_cut_8 : decode cX8_cut 8 = .ok (.dup, 1) := by decide +kernel
theorem dX8_cut_9 : decode cX8_cut 9 = .ok (.getfield 15, 3) := by decide +kernel
theorem dX8_cut_12 : decode cX8_cut 12 = .ok (.iconst 1, 1) := by decide +kernel
theorem dX8_cut_13 : decode cX8_cut 13 = .ok (.isub, 1) := by decide +kernel
theorem dX8_cut_14 : decode cX8_cut 14 = .ok (.putfield 15, 3) := by decide +kernel
theorem dX8_cut_17 : decode cX8_cut 17 = .ok (.return_, 1) := by decide +kernel
theorem dX8_clear_0 : decode cX8_clear 0 = .ok (.aload_n 0, 1) := by decide +kernel
theorem dX8_clear_1 : decode cX8_clear 1 = .ok (.iconst 0, 1) := by decide +kernel
theorem dX8_clear_2 : decode cX8_clear 2 = .ok (.putfield 15, 3) := by decide +kernel
theorem dX8_clear_5 : decode cX8_clear 5 = .ok (.return_, 1) := by decide +kernel
theorem dX8_byteAt_0 : decode cX8_byteAt 0 = .ok (.iload_n 1, 1) := by decide +kernel
theorem dX8_byteAt_1 : decode cX8_byteAt 1 = .ok (.ifCond .lt 20, 3) := by decide +kernel
theorem dX8_byteAt_4 : decode cX8_byteAt 4 = .ok (.iload_n 1, 1) := by decide +kernel
theorem dX8_byteAt_5 : decode cX8_byteAt 5 = .ok (.aload_n 0, 1) := by decide +kernel
theorem dX8_byteAt_6 : decode cX8_byteAt 6 = .ok (.getfield 15, 3) := by decide +kernel
theorem dX8_byteAt_9 : decode cX8_byteAt 9 = .ok (.if_icmp .ge 12, 3) := by decide +kernel
theorem dX8_byteAt_12 : decode cX8_byteAt 12 = .ok (.aload_n 0, 1) := by decide +kernel
theorem dX8_byteAt_13 : decode cX8_byteAt 13 = .ok (.getfield 9, 3) := by decide +kernel
theorem dX8_byteAt_16 : decode cX8_byteAt 16 = .ok (.iload_n 1, 1) := by decide +kernel
theorem dX8_byteAt_17 : decode cX8_byteAt 17 = .ok (.iaload, 1) := by decide +kernel
theorem dX8_byteAt_18 : decode cX8_byteAt 18 = .ok (.goto 4, 3) := by decide +kernel
theorem dX8_byteAt_21 : decode cX8_byteAt 21 = .ok (.iconst (-1), 1) := by decide +kernel
theorem dX8_byteAt_22 : decode cX8_byteAt 22 = .ok (.ireturn, 1) := by decide +kernel
theorem dX9_init_0 : decode cX9_init 0 = .ok (.aload_n 0, 1) := by decide +kernel
theorem dX9_init_1 : decode cX9_init 1 = .ok (.invokespecial 3, 3) := by decide +kernel
theorem dX9_init_4 : decode cX9_init 4 = .ok (.aload_n 0, 1) := by decide +kernel
theorem dX9_init_5 : decode cX9_init 5 = .ok (.bipush 64, 2) := by decide +kernel
theorem dX9_init_7 : decode cX9_init 7 = .ok (.newarray .int, 2) := by decide +kernel
theorem dX9_init_9 : decode cX9_init 9 = .ok (.putfield 9, 3) := by decide +kernel
theorem dX9_init_12 : decode cX9_init 12 = .ok (.aload_n 0, 1) := by decide +kernel
theorem dX9_init_13 : decode cX9_init 13 = .ok (.bipush 8, 2) := by decide +kernel
theorem dX9_init_15 : decode cX9_init 15 = .ok (.newarray .int, 2) := by decide +kernel
theorem dX9_init_17 : decode cX9_init 17 = .ok (.putfield 15, 3) := by decide +kernel
theorem dX9_init_20 : decode cX9_init 20 = .ok (.aload_n 0, 1) := by decide +kernel
theorem dX9_init_21 : decode cX9_init 21 = .ok (.bipush 8, 2) := by decide +kernel
theorem dX9_init_23 : decode cX9_init 23 = .ok (.newarray .int, 2) := by decide +kernel
theorem dX9_init_25 : decode cX9_init 25 = .ok (.putfield 18, 3) := by decide +kernel
theorem dX9_init_28 : decode cX9_init 28 = .ok (.aload_n 0, 1) := by decide +kernel
theorem dX9_init_29 : decode cX9_init 29 = .ok (.bipush 8, 2) := by decide +kernel
theorem dX9_init_31 : decode cX9_init 31 = .ok (.newarray .int, 2) := by decide +kernel
theorem dX9_init_33 : decode cX9_init 33 = .ok (.putfield 21, 3) := by decide +kernel
theorem dX9_init_36 : decode cX9_init 36 = .ok (.aload_n 0, 1) := by decide +kernel
theorem dX9_init_37 : decode cX9_init 37 = .ok (.iconst 0, 1) := by decide +kernel
theorem dX9_init_38 : decode cX9_init 38 = .ok (.putfield 24, 3) := by decide +kernel
theorem dX9_init_41 : decode cX9_init 41 = .ok (.return_, 1) := by decide +kernel
theorem dX9_parse_0 : decode cX9_parse 0 = .ok (.aload_n 0, 1) := by decide +kernel
theorem dX9_parse_1 : decode cX9_parse 1 = .ok (.invokevirtual 28, 3) := by decide +kernel
theorem dX9_parse_4 : decode cX9_parse 4 = .ok (.aload_n 1, 1) := by decide +kernel
theorem dX9_parse_5 : decode cX9_parse 5 = .ok (.invokevirtual 31, 3) := by decide +kernel
theorem dX9_parse_8 : decode cX9_parse 8 = .ok (.ifCond .le 8, 3) := by decide +kernel
theorem dX9_parse_11 : decode cX9_parse 11 = .ok (.aload_n 0, 1) := by decide +kernel
theorem dX9_parse_12 : decode cX9_parse 12 = .ok (.iconst 1, 1) := by decide +kernel
theorem dX9_parse_13 : decode cX9_parse 13 = .ok (.putfield 24, 3) := by decide +kernel
theorem dX9_parse_16 : decode cX9_parse 16 = .ok (.iconst 0, 1) := by decide +kernel
theorem dX9_parse_17 : decode cX9_parse 17 = .ok (.istore_n 2, 1) := by decide +kernel
theorem dX9_parse_18 : decode cX9_parse 18 = .ok (.iload_n 2, 1) := by decide +kernel
theorem dX9_parse_19 : decode cX9_parse 19 = .ok (.aload_n 1, 1) := by decide +kernel
theorem dX9_parse_20 : decode cX9_parse 20 = .ok (.invokevirtual 31, 3) := by decide +kernel
theorem dX9_parse_23 : decode cX9_parse 23 = .ok (.if_icmp .ge 27, 3) := by decide +kernel
theorem dX9_parse_26 : decode cX9_parse 26 = .ok (.aload_n 0, 1) := by decide +kernel
theorem dX9_parse_27 : decode cX9_parse 27 = .ok (.aload_n 1, 1) := by decide +kernel
theorem dX9_parse_28 : decode cX9_parse 28 = .ok (.iload_n 2, 1) := by decide +kernel
theorem dX9_parse_29 : decode cX9_parse 29 = .ok (.invokevirtual 37, 3) := by decide +kernel
theorem dX9_parse_32 : decode cX9_parse 32 = .ok (.invokevirtual 41, 3) := by decide +kernel
theorem dX9_parse_35 : decode cX9_parse 35 = .ok (.ifCond .ne 9, 3) := by decide +kernel
theorem dX9_parse_38 : decode cX9_parse 38 = .ok (.aload_n 0, 1) := by decide +kernel
theorem dX9_parse_39 : decode cX9_parse 39 = .ok (.invokevirtual 28, 3) := by decide +kernel
theorem dX9_parse_42 : decode cX9_parse 42 = .ok (.iload_n 2, 1) := by decide +kernel
theorem dX9_parse_43 : decode cX9_parse 43 = .ok (.ireturn, 1) := by decide +kernel
theorem dX9_parse_44 : decode cX9_parse 44 = .ok (.iinc 2 1, 3) := by decide +kernel
theorem dX9_parse_47 : decode cX9_parse 47 = .ok (.goto (-29), 3) := by decide +kernel
theorem dX9_parse_50 : decode cX9_parse 50 = .ok (.iconst (-1), 1) := by decide +kernel
theorem dX9_parse_51 : decode cX9_parse 51 = .ok (.ireturn, 1) := by decide +kernel
theorem dX9_grow_0 : decode cX9_grow 0 = .ok (.iload_n 1, 1) := by decide +kernel
theorem dX9_grow_1 : decode cX9_grow 1 = .ok (.bipush 59, 2) := by decide +kernel
theorem dX9_grow_3 : decode cX9_grow 3 = .ok (.if_icmp .ne 26, 3) := by decide +kernel
theorem dX9_grow_6 : decode cX9_grow 6 = .ok (.aload_n 0, 1) := by decide +kernel
theorem dX9_grow_7 : decode cX9_grow 7 = .ok (.getfield 24, 3) := by decide +kernel
theorem dX9_grow_10 : decode cX9_grow 10 = .ok (.bipush 8, 2) := by decide +kernel
theorem dX9_grow_12 : decode cX9_grow 12 = .ok (.if_icmp .lt 5, 3) := by decide +kernel
theorem dX9_grow_15 : decode cX9_grow 15 = .ok (.iconst 0, 1) := by decide +kernel
theorem dX9_grow_16 : decode cX9_grow 16 = .ok (.ireturn, 1) := by decide +kernel
theorem dX9_grow_17 : decode cX9_grow 17 = .ok (.aload_n 0, 1) := by decide +kernel
theorem dX9_grow_18 : decode cX9_grow 18 = .ok (.dup, 1) := by decide +kernel
theorem dX9_grow_19 : decode cX9_grow 19 = .ok (.getfield 24, 3) := by decide +kernel
theorem dX9_grow_22 : decode cX9_grow 22 = .ok (.iconst 1, 1) := by decide +kernel
theorem dX9_grow_23 : decode cX9_grow 23 = .ok (.iadd, 1) := by decide +kernel
theorem dX9_grow_24 : decode cX9_grow 24 = .ok (.putfield 24, 3) := by decide +kernel
theorem dX9_grow_27 : decode cX9_grow 27 = .ok (.iconst 1, 1) := by decide +kernel
theorem dX9_grow_28 : decode cX9_grow 28 = .ok (.ireturn, 1) := by decide +kernel
theorem dX9_grow_29 : decode cX9_grow 29 = .ok (.iload_n 1, 1) := by decide +kernel
theorem dX9_grow_30 : decode cX9_grow 30 = .ok (.invokestatic 45, 3) := by decide +kernel
theorem dX9_grow_33 : decode cX9_grow 33 = .ok (.istore_n 2, 1) := by decide +kernel
theorem dX9_grow_34 : decode cX9_grow 34 = .ok (.iload_n 2, 1) := by decide +kernel
theorem dX9_grow_35 : decode cX9_grow 35 = .ok (.iconst (-1), 1) := by decide +kernel
theorem dX9_grow_36 : decode cX9_grow 36 = .ok (.if_icmp .eq 21, 3) := by decide +kernel
theorem dX9_grow_39 : decode cX9_grow 39 = .ok (.aload_n 0, 1) := by decide +kernel
theorem dX9_grow_40 : decode cX9_grow 40 = .ok (.aload_n 0, 1) := by decide +kernel
theorem dX9_grow_41 : decode cX9_grow 41 = .ok (.getfield 24, 3) := by decide +kernel
theorem dX9_grow_44 : decode cX9_grow 44 = .ok (.iconst 1, 1) := by decide +kernel
theorem dX9_grow_45 : decode cX9_grow 45 = .ok (.isub, 1) := by decide +kernel
theorem dX9_grow_46 : decode cX9_grow 46 = .ok (.iload_n 2, 1) := by decide +kernel
theorem dX9_grow_47 : decode cX9_grow 47 = .ok (.invokevirtual 50, 3) := by decide +kernel
theorem dX9_grow_50 : decode cX9_grow 50 = .ok (.ifCond .eq 7, 3) := by decide +kernel
theorem dX9_grow_53 : decode cX9_grow 53 = .ok (.iconst 1, 1) := by decide +kernel
theorem dX9_grow_54 : decode cX9_grow 54 = .ok (.goto 4, 3) := by decide +kernel
theorem dX9_grow_57 : decode cX9_grow 57 = .ok (.iconst 0, 1) := by decide +kernel
theorem dX9_grow_58 : decode cX9_grow 58 = .ok (.ireturn, 1) := by decide +kernel
theorem dX9_raze_0 : decode cX9_raze 0 = .ok (.aload_n 0, 1) := by decide +kernel
theorem dX9_raze_1 : decode cX9_raze 1 = .ok (.iconst 0, 1) := by decide +kernel
theorem dX9_raze_2 : decode cX9_raze 2 = .ok (.putfield 24, 3) := by decide +kernel
theorem dX9_raze_5 : decode cX9_raze 5 = .ok (.iconst 0, 1) := by decide +kernel
theorem dX9_raze_6 : decode cX9_raze 6 = .ok (.istore_n 1, 1) := by decide +kernel
theorem dX9_raze_7 : decode cX9_raze 7 = .ok (.iload_n 1, 1) := by decide +kernel
theorem dX9_raze_8 : decode cX9_raze 8 = .ok (.bipush 8, 2) := by decide +kernel
theorem dX9_raze_10 : decode cX9_raze 10 = .ok (.if_icmp .ge 30, 3) := by decide +kernel
theorem dX9_raze_13 : decode cX9_raze 13 = .ok (.aload_n 0, 1) := by decide +kernel
theorem dX9_raze_14 : decode cX9_raze 14 = .ok (.getfield 15, 3) := by decide +kernel
theorem dX9_raze_17 : decode cX9_raze 17 = .ok (.iload_n 1, 1) := by decide +kernel
theorem dX9_raze_18 : decode cX9_raze 18 = .ok (.iconst 0, 1) := by decide +kernel
theorem dX9_raze_19 : decode cX9_raze 19 = .ok (.iastore, 1) := by decide +kernel
theorem dX9_raze_20 : decode cX9_raze 20 = .ok (.aload_n 0, 1) := by decide +kernel
theorem dX9_raze_21 : decode cX9_raze 21 = .ok (.getfield 18, 3) := by decide +kernel
theorem dX9_raze_24 : decode cX9_raze 24 = .ok (.iload_n 1, 1) := by decide +kernel
theorem dX9_raze_25 : decode cX9_raze 25 = .ok (.iconst 0, 1) := by decide +kernel
theorem dX9_raze_26 : decode cX9_raze 26 = .ok (.iastore, 1) := by decide +kernel
theorem dX9_raze_27 : decode cX9_raze 27 = .ok (.aload_n 0, 1) := by decide +kernel
theorem dX9_raze_28 : decode cX9_raze 28 = .ok (.getfield 21, 3) := by decide +kernel
theorem dX9_raze_31 : decode cX9_raze 31 = .ok (.iload_n 1, 1) := by decide +kernel
theorem dX9_raze_32 : decode cX9_raze 32 = .ok (.iconst 0, 1) := by decide +kernel
theorem dX9_raze_33 : decode cX9_raze 33 = .ok (.iastore, 1) := by decide +kernel
theorem dX9_raze_34 : decode cX9_raze 34 = .ok (.iinc 1 1, 3) := by decide +kernel
theorem dX9_raze_37 : decode cX9_raze 37 = .ok (.goto (-30), 3) := by decide +kernel
theorem dX9_raze_40 : decode cX9_raze 40 = .ok (.return_, 1) := by decide +kernel
theorem dX9_become_0 : decode cX9_become 0 = .ok (.aload_n 0, 1) := by decide +kernel
theorem dX9_become_1 : decode cX9_become 1 = .ok (.aload_n 1, 1) := by decide +kernel
theorem dX9_become_2 : decode cX9_become 2 = .ok (.getfield 24, 3) := by decide +kernel
theorem dX9_become_5 : decode cX9_become 5 = .ok (.putfield 24, 3) := by decide +kernel
theorem dX9_become_8 : decode cX9_become 8 = .ok (.aload_n 1, 1) := by decide +kernel
theorem dX9_become_9 : decode cX9_become 9 = .ok (.getfield 9, 3) := by decide +kernel
theorem dX9_become_12 : decode cX9_become 12 = .ok (.iconst 0, 1) := by decide +kernel
theorem dX9_become_13 : decode cX9_become 13 = .ok (.aload_n 0, 1) := by decide +kernel
theorem dX9_become_14 : decode cX9_become 14 = .ok (.getfield 9, 3) := by decide +kernel
theorem dX9_become_17 : decode cX9_become 17 = .ok (.iconst 0, 1) := by decide +kernel
theorem dX9_become_18 : decode cX9_become 18 = .ok (.bipush 64, 2) := by decide +kernel
theorem dX9_become_20 : decode cX9_become 20 = .ok (.invokestatic 54, 3) := by decide +kernel
theorem dX9_become_23 : decode cX9_become 23 = .ok (.aload_n 1, 1) := by decide +kernel
theorem dX9_become_24 : decode cX9_become 24 = .ok (.getfield 15, 3) := by decide +kernel
theorem dX9_become_27 : decode cX9_become 27 = .ok (.iconst 0, 1) := by decide +kernel
theorem dX9_become_28 : decode cX9_become 28 = .ok (.aload_n 0, 1) := by decide +kernel
theorem dX9_become_29 : decode cX9_become 29 = .ok (.getfield 15, 3) := by decide +kernel
theorem dX9_become_32 : decode cX9_become 32 = .ok (.iconst 0, 1) := by decide +kernel
theorem dX9_become_33 : decode cX9_become 33 = .ok (.bipush 8, 2) := by decide +kernel
theorem dX9_become_35 : decode cX9_become 35 = .ok (.invokestatic 54, 3) := by decide +kernel
theorem dX9_become_38 : decode cX9_become 38 = .ok (.aload_n 1, 1) := by decide +kernel
theorem dX9_become_39 : decode cX9_become 39 = .ok (.getfield 18, 3) := by decide +kernel
theorem dX9_become_42 : decode cX9_become 42 = .ok (.iconst 0, 1) := by decide +kernel
theorem dX9_become_43 : decode cX9_become 43 = .ok (.aload_n 0, 1) := by decide +kernel
theorem dX9_become_44 : decode cX9_become 44 = .ok (.getfield 18, 3) := by decide +kernel
theorem dX9_become_47 : decode cX9_become 47 = .ok (.iconst 0, 1) := by decide +kernel
theorem dX9_become_48 : decode cX9_become 48 = .ok (.bipush 8, 2) := by decide +kernel
theorem dX9_become_50 : decode cX9_become 50 = .ok (.invokestatic 54, 3) := by decide +kernel
theorem dX9_become_53 : decode cX9_become 53 = .ok (.aload_n 1, 1) := by decide +kernel
theorem dX9_become_54 : decode cX9_become 54 = .ok (.getfield 21, 3) := by decide +kernel
theorem dX9_become_57 : decode cX9_become 57 = .ok (.iconst 0, 1) := by decide +kernel
theorem dX9_become_58 : decode cX9_become 58 = .ok (.aload_n 0, 1) := by decide +kernel
theorem dX9_become_59 : decode cX9_become 59 = .ok (.getfield 21, 3) := by decide +kernel
theorem dX9_become_62 : decode cX9_become 62 = .ok (.iconst 0, 1) := by decide +kernel
theorem dX9_become_63 : decode cX9_become 63 = .ok (.bipush 8, 2) := by decide +kernel
theorem dX9_become_65 : decode cX9_become 65 = .ok (.invokestatic 54, 3) := by decide +kernel
theorem dX9_become_68 : decode cX9_become 68 = .ok (.return_, 1) := by decide +kernel
theorem dX9_has_0 : decode cX9_has 0 = .ok (.iload_n 1, 1) := by decide +kernel
theorem dX9_has_1 : decode cX9_has 1 = .ok (.ifCond .lt 21, 3) := by decide +kernel
theorem dX9_has_4 : decode cX9_has 4 = .ok (.iload_n 1, 1) := by decide +kernel
theorem dX9_has_5 : decode cX9_has 5 = .ok (.aload_n 0, 1) := by decide +kernel
theorem dX9_has_6 : decode cX9_has 6 = .ok (.getfield 24, 3) := by decide +kernel
theorem dX9_has_9 : decode cX9_has 9 = .ok (.if_icmp .ge 13, 3) := by decide +kernel
theorem dX9_has_12 : decode cX9_has 12 = .ok (.iload_n 1, 1) := by decide +kernel
theorem dX9_has_13 : decode cX9_has 13 = .ok (.bipush 8, 2) := by decide +kernel
theorem dX9_has_15 : decode cX9_has 15 = .ok (.if_icmp .ge 7, 3) := by decide +kernel
theorem dX9_has_18 : decode cX9_has 18 = .ok (.iconst 1, 1) := by decide +kernel
theorem dX9_has_19 : decode cX9_has 19 = .ok (.goto 4, 3) := by decide +kernel
theorem dX9_has_22 : decode cX9_has 22 = .ok (.iconst 0, 1) := by decide +kernel
theorem dX9_has_23 : decode cX9_has 23 = .ok (.ireturn, 1) := by decide +kernel
theorem dX9_columnCount_0 : decode cX9_columnCount 0 = .ok (.aload_n 0, 1) := by decide +kernel
theorem dX9_columnCount_1 : decode cX9_columnCount 1 = .ok (.getfield 24, 3) := by decide +kernel
theorem dX9_columnCount_4 : decode cX9_columnCount 4 = .ok (.ireturn, 1) := by decide +kernel
theorem dX9_sizeOf_0 : decode cX9_sizeOf 0 = .ok (.aload_n 0, 1) := by decide +kernel
theorem dX9_sizeOf_1 : decode cX9_sizeOf 1 = .ok (.iload_n 1, 1) := by decide +kernel
theorem dX9_sizeOf_2 : decode cX9_sizeOf 2 = .ok (.invokevirtual 60, 3) := by decide +kernel
theorem dX9_sizeOf_5 : decode cX9_sizeOf 5 = .ok (.ifCond .eq 12, 3) := by decide +kernel
theorem dX9_sizeOf_8 : decode cX9_sizeOf 8 = .ok (.aload_n 0, 1) := by decide +kernel
theorem dX9_sizeOf_9 : decode cX9_sizeOf 9 = .ok (.getfield 15, 3) := by decide +kernel
theorem dX9_sizeOf_12 : decode cX9_sizeOf 12 = .ok (.iload_n 1, 1) := by decide +kernel
theorem dX9_sizeOf_13 : decode cX9_sizeOf 13 = .ok (.iaload, 1) := by decide +kernel
theorem dX9_sizeOf_14 : decode cX9_sizeOf 14 = .ok (.goto 4, 3) := by decide +kernel
theorem dX9_sizeOf_17 : decode cX9_sizeOf 17 = .ok (.iconst 0, 1) := by decide +kernel
theorem dX9_sizeOf_18 : decode cX9_sizeOf 18 = .ok (.ireturn, 1) := by decide +kernel
theorem dX9_heightOf_0 : decode cX9_heightOf 0 = .ok (.iload_n 1, 1) := by decide +kernel
theorem dX9_heightOf_1 : decode cX9_heightOf 1 = .ok (.ifCond .lt 26, 3) := by decide +kernel
theorem dX9_heightOf_4 : decode cX9_heightOf 4 = .ok (.iload_n 1, 1) := by decide +kernel
theorem dX9_heightOf_5 : decode cX9_heightOf 5 = .ok (.aload_n 0, 1) := by decide +kernel
theorem dX9_heightOf_6 : decode cX9_heightOf 6 = .ok (.getfield 24, 3) := by decide +kernel
theorem dX9_heightOf_9 : decode cX9_heightOf 9 = .ok (.if_icmp .ge 18, 3) := by decide +kernel
theorem dX9_heightOf_12 : decode cX9_heightOf 12 = .ok (.iload_n 1, 1) := by decide +kernel
theorem dX9_heightOf_13 : decode cX9_heightOf 13 = .ok (.bipush 8, 2) := by decide +kernel
theorem dX9_heightOf_15 : decode cX9_heightOf 15 = .ok (.if_icmp .ge 12, 3) := by decide +kernel
theorem dX9_heightOf_18 : decode cX9_heightOf 18 = .ok (.aload_n 0, 1) := by decide +kernel
theorem dX9_heightOf_19 : decode cX9_heightOf 19 = .ok (.getfield 18, 3) := by decide +kernel
theorem dX9_heightOf_22 : decode cX9_heightOf 22 = .ok (.iload_n 1, 1) := by decide +kernel
theorem dX9_heightOf_23 : decode cX9_heightOf 23 = .ok (.iaload, 1) := by decide +kernel
theorem dX9_heightOf_24 : decode cX9_heightOf 24 = .ok (.goto 4, 3) := by decide +kernel
theorem dX9_heightOf_27 : decode cX9_heightOf 27 = .ok (.iconst 0, 1) := by decide +kernel
theorem dX9_heightOf_28 : decode cX9_heightOf 28 = .ok (.ireturn, 1) := by decide +kernel
theorem dX9_leanOf_0 : decode cX9_leanOf 0 = .ok (.iload_n 1, 1) := by decide +kernel
theorem dX9_leanOf_1 : decode cX9_leanOf 1 = .ok (.ifCond .lt 26, 3) := by decide +kernel
theorem dX9_leanOf_4 : decode cX9_leanOf 4 = .ok (.iload_n 1, 1) := by decide +kernel
theorem dX9_leanOf_5 : decode cX9_leanOf 5 = .ok (.aload_n 0, 1) := by decide +kernel
theorem dX9_leanOf_6 : decode cX9_leanOf 6 = .ok (.getfield 24, 3) := by decide +kernel
theorem dX9_leanOf_9 : decode cX9_leanOf 9 = .ok (.if_icmp .ge 18, 3) := by decide +kernel
theorem dX9_leanOf_12 : decode cX9_leanOf 12 = .ok (.iload_n 1, 1) := by decide +kernel
theorem dX9_leanOf_13 : decode cX9_leanOf 13 = .ok (.bipush 8, 2) := by decide +kernel
theorem dX9_leanOf_15 : decode cX9_leanOf 15 = .ok (.if_icmp .ge 12, 3) := by decide +kernel
theorem dX9_leanOf_18 : decode cX9_leanOf 18 = .ok (.aload_n 0, 1) := by decide +kernel
theorem dX9_leanOf_19 : decode cX9_leanOf 19 = .ok (.getfield 21, 3) := by decide +kernel
theorem dX9_leanOf_22 : decode cX9_leanOf 22 = .ok (.iload_n 1, 1) := by decide +kernel
theorem dX9_leanOf_23 : decode cX9_leanOf 23 = .ok (.iaload, 1) := by decide +kernel
theorem dX9_leanOf_24 : decode cX9_leanOf 24 = .ok (.goto 4, 3) := by decide +kernel
theorem dX9_leanOf_27 : decode cX9_leanOf 27 = .ok (.iconst 0, 1) := by decide +kernel
theorem dX9_leanOf_28 : decode cX9_leanOf 28 = .ok (.ireturn, 1) := by decide +kernel
theorem dX9_stoneAt_0 : decode cX9_stoneAt 0 = .ok (.iload_n 2, 1) := by decide +kernel
theorem dX9_stoneAt_1 : decode cX9_stoneAt 1 = .ok (.ifCond .lt 32, 3) := by decide +kernel
theorem dX9_stoneAt_4 : decode cX9_stoneAt 4 = .ok (.iload_n 2, 1) := by decide +kernel
theorem dX9_stoneAt_5 : decode cX9_stoneAt 5 = .ok (.aload_n 0, 1) := by decide +kernel
theorem dX9_stoneAt_6 : decode cX9_stoneAt 6 = .ok (.iload_n 1, 1) := by decide +kernel
theorem dX9_stoneAt_7 : decode cX9_stoneAt 7 = .ok (.invokevirtual 63, 3) := by decide +kernel
theorem dX9_stoneAt_10 : decode cX9_stoneAt 10 = .ok (.if_icmp .ge 23, 3) := by decide +kernel
theorem dX9_stoneAt_13 : decode cX9_stoneAt 13 = .ok (.iload_n 2, 1) := by decide +kernel
theorem dX9_stoneAt_14 : decode cX9_stoneAt 14 = .ok (.bipush 8, 2) := by decide +kernel
theorem dX9_stoneAt_16 : decode cX9_stoneAt 16 = .ok (.if_icmp .ge 17, 3) := by decide +kernel
theorem dX9_stoneAt_19 : decode cX9_stoneAt 19 = .ok (.aload_n 0, 1) := by decide +kernel
theorem dX9_stoneAt_20 : decode cX9_stoneAt 20 = .ok (.getfield 9, 3) := by decide +kernel
theorem dX9_stoneAt_23 : decode cX9_stoneAt 23 = .ok (.iload_n 1, 1) := by decide +kernel
theorem dX9_stoneAt_24 : decode cX9_stoneAt 24 = .ok (.bipush 8, 2) := by decide +kernel
theorem dX9_stoneAt_26 : decode cX9_stoneAt 26 = .ok (.imul, 1) := by decide +kernel
theorem dX9_stoneAt_27 : decode cX9_stoneAt 27 = .ok (.iload_n 2, 1) := by decide +kernel
theorem dX9_stoneAt_28 : decode cX9_stoneAt 28 = .ok (.iadd, 1) := by decide +kernel
theorem dX9_stoneAt_29 : decode cX9_stoneAt 29 = .ok (.iaload, 1) := by decide +kernel
theorem dX9_stoneAt_30 : decode cX9_stoneAt 30 = .ok (.goto 4, 3) := by decide +kernel
theorem dX9_stoneAt_33 : decode cX9_stoneAt 33 = .ok (.iconst (-1), 1) := by decide +kernel
theorem dX9_stoneAt_34 : decode cX9_stoneAt 34 = .ok (.ireturn, 1) := by decide +kernel
theorem dX9_uppermost_0 : decode cX9_uppermost 0 = .ok (.iload_n 1, 1) := by decide +kernel
theorem dX9_uppermost_1 : decode cX9_uppermost 1 = .ok (.ifCond .lt 17, 3) := by decide +kernel
theorem dX9_uppermost_4 : decode cX9_uppermost 4 = .ok (.iload_n 1, 1) := by decide +kernel
theorem dX9_uppermost_5 : decode cX9_uppermost 5 = .ok (.aload_n 0, 1) := by decide +kernel
theorem dX9_uppermost_6 : decode cX9_uppermost 6 = .ok (.getfield 24, 3) := by decide +kernel
theorem dX9_uppermost_9 : decode cX9_uppermost 9 = .ok (.if_icmp .ge 9, 3) := by decide +kernel
theorem dX9_uppermost_12 : decode cX9_uppermost 12 = .ok (.iload_n 1, 1) := by decide +kernel
theorem dX9_uppermost_13 : decode cX9_uppermost 13 = .ok (.bipush 8, 2) := by decide +kernel
theorem dX9_uppermost_15 : decode cX9_uppermost 15 = .ok (.if_icmp .lt 5, 3) := by decide +kernel
theorem dX9_uppermost_18 : decode cX9_uppermost 18 = .ok (.iconst (-1), 1) := by decide +kernel
theorem dX9_uppermost_19 : decode cX9_uppermost 19 = .ok (.ireturn, 1) := by decide +kernel
theorem dX9_uppermost_20 : decode cX9_uppermost 20 = .ok (.aload_n 0, 1) := by decide +kernel
theorem dX9_uppermost_21 : decode cX9_uppermost 21 = .ok (.getfield 15, 3) := by decide +kernel
theorem dX9_uppermost_24 : decode cX9_uppermost 24 = .ok (.iload_n 1, 1) := by decide +kernel
theorem dX9_uppermost_25 : decode cX9_uppermost 25 = .ok (.iaload, 1) := by decide +kernel
theorem dX9_uppermost_26 : decode cX9_uppermost 26 = .ok (.iconst 1, 1) := by decide +kernel
theorem dX9_uppermost_27 : decode cX9_uppermost 27 = .ok (.isub, 1) := by decide +kernel
theorem dX9_uppermost_28 : decode cX9_uppermost 28 = .ok (.istore_n 2, 1) := by decide +kernel
theorem dX9_uppermost_29 : decode cX9_uppermost 29 = .ok (.iload_n 2, 1) := by decide +kernel
theorem dX9_uppermost_30 : decode cX9_uppermost 30 = .ok (.ifCond .lt 23, 3) := by decide +kernel
theorem dX9_uppermost_33 : decode cX9_uppermost 33 = .ok (.iload_n 2, 1) := by decide +kernel
theorem dX9_uppermost_34 : decode cX9_uppermost 34 = .ok (.bipush 8, 2) := by decide +kernel
theorem dX9_uppermost_36 : decode cX9_uppermost 36 = .ok (.if_icmp .ge 17, 3) := by decide +kernel
theorem dX9_uppermost_39 : decode cX9_uppermost 39 = .ok (.aload_n 0, 1) := by decide +kernel
theorem dX9_uppermost_40 : decode cX9_uppermost 40 = .ok (.getfield 9, 3) := by decide +kernel
theorem dX9_uppermost_43 : decode cX9_uppermost 43 = .ok (.iload_n 1, 1) := by decide +kernel
theorem dX9_uppermost_44 : decode cX9_uppermost 44 = .ok (.bipush 8, 2) := by decide +kernel
theorem dX9_uppermost_46 : decode cX9_uppermost 46 = .ok (.imul, 1) := by decide +kernel
theorem dX9_uppermost_47 : decode cX9_uppermost 47 = .ok (.iload_n 2, 1) := by decide +kernel
theorem dX9_uppermost_48 : decode cX9_uppermost 48 = .ok (.iadd, 1) := by decide +kernel
theorem dX9_uppermost_49 : decode cX9_uppermost 49 = .ok (.iaload, 1) := by decide +kernel
theorem dX9_uppermost_50 : decode cX9_uppermost 50 = .ok (.goto 4, 3) := by decide +kernel
theorem dX9_uppermost_53 : decode cX9_uppermost 53 = .ok (.iconst (-1), 1) := by decide +kernel
theorem dX9_uppermost_54 : decode cX9_uppermost 54 = .ok (.ireturn, 1) := by decide +kernel
theorem dX9_put_0 : decode cX9_put 0 = .ok (.aload_n 0, 1) := by decide +kernel
theorem dX9_put_1 : decode cX9_put 1 = .ok (.iload_n 1, 1) := by decide +kernel
theorem dX9_put_2 : decode cX9_put 2 = .ok (.invokevirtual 60, 3) := by decide +kernel
theorem dX9_put_5 : decode cX9_put 5 = .ok (.ifCond .eq 23, 3) := by decide +kernel
theorem dX9_put_8 : decode cX9_put 8 = .ok (.aload_n 0, 1) := by decide +kernel
theorem dX9_put_9 : decode cX9_put 9 = .ok (.getfield 15, 3) := by decide +kernel
theorem dX9_put_12 : decode cX9_put 12 = .ok (.iload_n 1, 1) := by decide +kernel
theorem dX9_put_13 : decode cX9_put 13 = .ok (.iaload, 1) := by decide +kernel
theorem dX9_put_14 : decode cX9_put 14 = .ok (.bipush 8, 2) := by decide +kernel
theorem dX9_put_16 : decode cX9_put 16 = .ok (.if_icmp .ge 12, 3) := by decide +kernel
theorem dX9_put_19 : decode cX9_put 19 = .ok (.aload_n 0, 1) := by decide +kernel
theorem dX9_put_20 : decode cX9_put 20 = .ok (.getfield 15, 3) := by decide +kernel
theorem dX9_put_23 : decode cX9_put 23 = .ok (.iload_n 1, 1) := by decide +kernel
theorem dX9_put_24 : decode cX9_put 24 = .ok (.iaload, 1) := by decide +kernel
theorem dX9_put_25 : decode cX9_put 25 = .ok (.ifCond .ge 5, 3) := by decide +kernel
theorem dX9_put_28 : decode cX9_put 28 = .ok (.iconst 0, 1) := by decide +kernel
theorem dX9_put_29 : decode cX9_put 29 = .ok (.ireturn, 1) := by decide +kernel
theorem dX9_put_30 : decode cX9_put 30 = .ok (.aload_n 0, 1) := by decide +kernel
theorem dX9_put_31 : decode cX9_put 31 = .ok (.getfield 9, 3) := by decide +kernel
theorem dX9_put_34 : decode cX9_put 34 = .ok (.iload_n 1, 1) := by decide +kernel
theorem dX9_put_35 : decode cX9_put 35 = .ok (.bipush 8, 2) := by decide +kernel
theorem dX9_put_37 : decode cX9_put 37 = .ok (.imul, 1) := by decide +kernel
theorem dX9_put_38 : decode cX9_put 38 = .ok (.aload_n 0, 1) := by decide +kernel
theorem dX9_put_39 : decode cX9_put 39 = .ok (.getfield 15, 3) := by decide +kernel
theorem dX9_put_42 : decode cX9_put 42 = .ok (.iload_n 1, 1) := by decide +kernel
theorem dX9_put_43 : decode cX9_put 43 = .ok (.iaload, 1) := by decide +kernel
theorem dX9_put_44 : decode cX9_put 44 = .ok (.iadd, 1) := by decide +kernel
theorem dX9_put_45 : decode cX9_put 45 = .ok (.iload_n 2, 1) := by decide +kernel
theorem dX9_put_46 : decode cX9_put 46 = .ok (.iastore, 1) := by decide +kernel
theorem dX9_put_47 : decode cX9_put 47 = .ok (.aload_n 0, 1) := by decide +kernel
theorem dX9_put_48 : decode cX9_put 48 = .ok (.getfield 15, 3) := by decide +kernel
theorem dX9_put_51 : decode cX9_put 51 = .ok (.iload_n 1, 1) := by decide +kernel
theorem dX9_put_52 : decode cX9_put 52 = .ok (.dup2, 1) := by decide +kernel
theorem dX9_put_53 : decode cX9_put 53 = .ok (.iaload, 1) := by decide +kernel
theorem dX9_put_54 : decode cX9_put 54 = .ok (.iconst 1, 1) := by decide +kernel
theorem dX9_put_55 : decode cX9_put 55 = .ok (.iadd, 1) := by decide +kernel
theorem dX9_put_56 : decode cX9_put 56 = .ok (.iastore, 1) := by decide +kernel
theorem dX9_put_57 : decode cX9_put 57 = .ok (.aload_n 0, 1) := by decide +kernel
theorem dX9_put_58 : decode cX9_put 58 = .ok (.getfield 18, 3) := by decide +kernel
theorem dX9_put_61 : decode cX9_put 61 = .ok (.iload_n 1, 1) := by decide +kernel
theorem dX9_put_62 : decode cX9_put 62 = .ok (.dup2, 1) := by decide +kernel
theorem dX9_put_63 : decode cX9_put 63 = .ok (.iaload, 1) := by decide +kernel
theorem dX9_put_64 : decode cX9_put 64 = .ok (.iload_n 2, 1) := by decide +kernel
theorem dX9_put_65 : decode cX9_put 65 = .ok (.invokestatic 66, 3) := by decide +kernel
theorem dX9_put_68 : decode cX9_put 68 = .ok (.iadd, 1) := by decide +kernel
theorem dX9_put_69 : decode cX9_put 69 = .ok (.iastore, 1) := by decide +kernel
theorem dX9_put_70 : decode cX9_put 70 = .ok (.aload_n 0, 1) := by decide +kernel
theorem dX9_put_71 : decode cX9_put 71 = .ok (.getfield 21, 3) := by decide +kernel
theorem dX9_put_74 : decode cX9_put 74 = .ok (.iload_n 1, 1) := by decide +kernel
theorem dX9_put_75 : decode cX9_put 75 = .ok (.dup2, 1) := by decide +kernel
theorem dX9_put_76 : decode cX9_put 76 = .ok (.iaload, 1) := by decide +kernel
theorem dX9_put_77 : decode cX9_put 77 = .ok (.iload_n 2, 1) := by decide +kernel
theorem dX9_put_78 : decode cX9_put 78 = .ok (.invokestatic 69, 3) := by decide +kernel
theorem dX9_put_81 : decode cX9_put 81 = .ok (.iadd, 1) := by decide +kernel
theorem dX9_put_82 : decode cX9_put 82 = .ok (.iastore, 1) := by decide +kernel
theorem dX9_put_83 : decode cX9_put 83 = .ok (.iconst 1, 1) := by decide +kernel
theorem dX9_put_84 : decode cX9_put 84 = .ok (.ireturn, 1) := by decide +kernel
theorem dX9_take_0 : decode cX9_take 0 = .ok (.aload_n 0, 1) := by decide +kernel
theorem dX9_take_1 : decode cX9_take 1 = .ok (.iload_n 1, 1) := by decide +kernel
theorem dX9_take_2 : decode cX9_take 2 = .ok (.invokevirtual 72, 3) := by decide +kernel
theorem dX9_take_5 : decode cX9_take 5 = .ok (.istore_n 2, 1) := by decide +kernel
theorem dX9_take_6 : decode cX9_take 6 = .ok (.iload_n 2, 1) := by decide +kernel
theorem dX9_take_7 : decode cX9_take 7 = .ok (.iconst (-1), 1) := by decide +kernel
theorem dX9_take_8 : decode cX9_take 8 = .ok (.if_icmp .eq 39, 3) := by decide +kernel
theorem dX9_take_11 : decode cX9_take 11 = .ok (.aload_n 0, 1) := by decide +kernel
theorem dX9_take_12 : decode cX9_take 12 = .ok (.getfield 15, 3) := by decide +kernel
theorem dX9_take_15 : decode cX9_take 15 = .ok (.iload_n 1, 1) := by decide +kernel
theorem dX9_take_16 : decode cX9_take 16 = .ok (.dup2, 1) := by decide +kernel
theorem dX9_take_17 : decode cX9_take 17 = .ok (.iaload, 1) := by decide +kernel
theorem dX9_take_18 : decode cX9_take 18 = .ok (.iconst 1, 1) := by decide +kernel
theorem dX9_take_19 : decode cX9_take 19 = .ok (.isub, 1) := by decide +kernel
theorem dX9_take_20 : decode cX9_take 20 = .ok (.iastore, 1) := by decide +kernel
theorem dX9_take_21 : decode cX9_take 21 = .ok (.aload_n 0, 1) := by decide +kernel
theorem dX9_take_22 : decode cX9_take 22 = .ok (.getfield 18, 3) := by decide +kernel
theorem dX9_take_25 : decode cX9_take 25 = .ok (.iload_n 1, 1) := by decide +kernel
theorem dX9_take_26 : decode cX9_take 26 = .ok (.dup2, 1) := by decide +kernel
theorem dX9_take_27 : decode cX9_take 27 = .ok (.iaload, 1) := by decide +kernel
theorem dX9_take_28 : decode cX9_take 28 = .ok (.iload_n 2, 1) := by decide +kernel
theorem dX9_take_29 : decode cX9_take 29 = .ok (.invokestatic 66, 3) := by decide +kernel
theorem dX9_take_32 : decode cX9_take 32 = .ok (.isub, 1) := by decide +kernel
theorem dX9_take_33 : decode cX9_take 33 = .ok (.iastore, 1) := by decide +kernel
theorem dX9_take_34 : decode cX9_take 34 = .ok (.aload_n 0, 1) := by decide +kernel
theorem dX9_take_35 : decode cX9_take 35 = .ok (.getfield 21, 3) := by decide +kernel
theorem dX9_take_38 : decode cX9_take 38 = .ok (.iload_n 1, 1) := by decide +kernel
theorem dX9_take_39 : decode cX9_take 39 = .ok (.dup2, 1) := by decide +kernel
theorem dX9_take_40 : decode cX9_take 40 = .ok (.iaload, 1) := by decide +kernel
theorem dX9_take_41 : decode cX9_take 41 = .ok (.iload_n 2, 1) := by decide +kernel
theorem dX9_take_42 : decode cX9_take 42 = .ok (.invokestatic 69, 3) := by decide +kernel
theorem dX9_take_45 : decode cX9_take 45 = .ok (.isub, 1) := by decide +kernel
theorem dX9_take_46 : decode cX9_take 46 = .ok (.iastore, 1) := by decide +kernel
theorem dX9_take_47 : decode cX9_take 47 = .ok (.iload_n 2, 1) := by decide +kernel
theorem dX9_take_48 : decode cX9_take 48 = .ok (.ireturn, 1) := by decide +kernel
theorem dX9_takeFromOther_0 : decode cX9_takeFromOther 0 = .ok (.aload_n 0, 1) := by decide +kernel
theorem dX9_takeFromOther_1 : decode cX9_takeFromOther 1 = .ok (.iload_n 1, 1) := by decide +kernel
theorem dX9_takeFromOther_2 : decode cX9_takeFromOther 2 = .ok (.invokevirtual 72, 3) := by decide +kernel
theorem dX9_takeFromOther_5 : decode cX9_takeFromOther 5 = .ok (.istore_n 3, 1) := by decide +kernel
theorem dX9_takeFromOther_6 : decode cX9_takeFromOther 6 = .ok (.iload_n 3, 1) := by decide +kernel
theorem dX9_takeFromOther_7 : decode cX9_takeFromOther 7 = .ok (.iconst (-1), 1) := by decide +kernel
theorem dX9_takeFromOther_8 : decode cX9_takeFromOther 8 = .ok (.if_icmp .eq 11, 3) := by decide +kernel
theorem dX9_takeFromOther_11 : decode cX9_takeFromOther 11 = .ok (.iload_n 3, 1) := by decide +kernel
theorem dX9_takeFromOther_12 : decode cX9_takeFromOther 12 = .ok (.invokestatic 75, 3) := by decide +kernel
theorem dX9_takeFromOther_15 : decode cX9_takeFromOther 15 = .ok (.iload_n 2, 1) := by decide +kernel
theorem dX9_takeFromOther_16 : decode cX9_takeFromOther 16 = .ok (.if_icmp .ne 5, 3) := by decide +kernel
theorem dX9_takeFromOther_19 : decode cX9_takeFromOther 19 = .ok (.iconst 0, 1) := by decide +kernel
theorem dX9_takeFromOther_20 : decode cX9_takeFromOther 20 = .ok (.ireturn, 1) := by decide +kernel
theorem dX9_takeFromOther_21 : decode cX9_takeFromOther 21 = .ok (.aload_n 0, 1) := by decide +kernel
theorem dX9_takeFromOther_22 : decode cX9_takeFromOther 22 = .ok (.iload_n 1, 1) := by decide +kernel
theorem dX9_takeFromOther_23 : decode cX9_takeFromOther 23 = .ok (.invokevirtual 78, 3) := by decide +kernel
theorem dX9_takeFromOther_26 : decode cX9_takeFromOther 26 = .ok (.pop, 1) := by decide +kernel
theorem dX9_takeFromOther_27 : decode cX9_takeFromOther 27 = .ok (.iconst 1, 1) := by decide +kernel
theorem dX9_takeFromOther_28 : decode cX9_takeFromOther 28 = .ok (.ireturn, 1) := by decide +kernel
theorem dX9_isWeak_0 : decode cX9_isWeak 0 = .ok (.aload_n 0, 1) := by decide +kernel
theorem dX9_isWeak_1 : decode cX9_isWeak 1 = .ok (.iload_n 1, 1) := by decide +kernel
theorem dX9_isWeak_2 : decode cX9_isWeak 2 = .ok (.iconst 1, 1) := by decide +kernel
theorem dX9_isWeak_3 : decode cX9_isWeak 3 = .ok (.isub, 1) := by decide +kernel
theorem dX9_isWeak_4 : decode cX9_isWeak 4 = .ok (.invokevirtual 81, 3) := by decide +kernel
theorem dX9_isWeak_7 : decode cX9_isWeak 7 = .ok (.aload_n 0, 1) := by decide +kernel
theorem dX9_isWeak_8 : decode cX9_isWeak 8 = .ok (.iload_n 1, 1) := by decide +kernel
theorem dX9_isWeak_9 : decode cX9_isWeak 9 = .ok (.iconst 1, 1) := by decide +kernel
theorem dX9_isWeak_10 : decode cX9_isWeak 10 = .ok (.iadd, 1) := by decide +kernel
theorem dX9_isWeak_11 : decode cX9_isWeak 11 = .ok (.invokevirtual 81, 3) := by decide +kernel
theorem dX9_isWeak_14 : decode cX9_isWeak 14 = .ok (.invokestatic 84, 3) := by decide +kernel
theorem dX9_isWeak_17 : decode cX9_isWeak 17 = .ok (.istore 4, 2) := by decide +kernel
theorem dX9_isWeak_19 : decode cX9_isWeak 19 = .ok (.aload_n 0, 1) := by decide +kernel
theorem dX9_isWeak_20 : decode cX9_isWeak 20 = .ok (.iload_n 1, 1) := by decide +kernel
theorem dX9_isWeak_21 : decode cX9_isWeak 21 = .ok (.invokevirtual 81, 3) := by decide +kernel
theorem dX9_isWeak_24 : decode cX9_isWeak 24 = .ok (.iload 4, 2) := by decide +kernel
theorem dX9_isWeak_26 : decode cX9_isWeak 26 = .ok (.isub, 1) := by decide +kernel
theorem dX9_isWeak_27 : decode cX9_isWeak 27 = .ok (.iload_n 2, 1) := by decide +kernel
theorem dX9_isWeak_28 : decode cX9_isWeak 28 = .ok (.if_icmp .gt 15, 3) := by decide +kernel
theorem dX9_isWeak_31 : decode cX9_isWeak 31 = .ok (.aload_n 0, 1) := by decide +kernel
theorem dX9_isWeak_32 : decode cX9_isWeak 32 = .ok (.iload_n 1, 1) := by decide +kernel
theorem dX9_isWeak_33 : decode cX9_isWeak 33 = .ok (.invokevirtual 90, 3) := by decide +kernel
theorem dX9_isWeak_36 : decode cX9_isWeak 36 = .ok (.invokestatic 93, 3) := by decide +kernel
theorem dX9_isWeak_39 : decode cX9_isWeak 39 = .ok (.iload_n 3, 1) := by decide +kernel
theorem dX9_isWeak_40 : decode cX9_isWeak 40 = .ok (.if_icmp .le 7, 3) := by decide +kernel
theorem dX9_isWeak_43 : decode cX9_isWeak 43 = .ok (.iconst 1, 1) := by decide +kernel
theorem dX9_isWeak_44 : decode cX9_isWeak 44 = .ok (.goto 4, 3) := by decide +kernel
theorem dX9_isWeak_47 : decode cX9_isWeak 47 = .ok (.iconst 0, 1) := by decide +kernel
theorem dX9_isWeak_48 : decode cX9_isWeak 48 = .ok (.ireturn, 1) := by decide +kernel
theorem dX9_stands_0 : decode cX9_stands 0 = .ok (.aload_n 1, 1) := by decide +kernel
theorem dX9_stands_1 : decode cX9_stands 1 = .ok (.invokevirtual 96, 3) := by decide +kernel
theorem dX9_stands_4 : decode cX9_stands 4 = .ok (.istore_n 2, 1) := by decide +kernel
theorem dX9_stands_5 : decode cX9_stands 5 = .ok (.aload_n 1, 1) := by decide +kernel
theorem dX9_stands_6 : decode cX9_stands 6 = .ok (.iconst 3, 1) := by decide +kernel
theorem dX9_stands_7 : decode cX9_stands 7 = .ok (.invokevirtual 101, 3) := by decide +kernel
theorem dX9_stands_10 : decode cX9_stands 10 = .ok (.istore_n 3, 1) := by decide +kernel
theorem dX9_stands_11 : decode cX9_stands 11 = .ok (.iconst 0, 1) := by decide +kernel
theorem dX9_stands_12 : decode cX9_stands 12 = .ok (.istore 4, 2) := by decide +kernel
theorem dX9_stands_14 : decode cX9_stands 14 = .ok (.iload 4, 2) := by decide +kernel
theorem dX9_stands_16 : decode cX9_stands 16 = .ok (.aload_n 0, 1) := by decide +kernel
theorem dX9_stands_17 : decode cX9_stands 17 = .ok (.getfield 24, 3) := by decide +kernel
theorem dX9_stands_20 : decode cX9_stands 20 = .ok (.if_icmp .ge 22, 3) := by decide +kernel
theorem dX9_stands_23 : decode cX9_stands 23 = .ok (.aload_n 0, 1) := by decide +kernel
theorem dX9_stands_24 : decode cX9_stands 24 = .ok (.iload 4, 2) := by decide +kernel
theorem dX9_stands_26 : decode cX9_stands 26 = .ok (.iload_n 2, 1) := by decide +kernel
theorem dX9_stands_27 : decode cX9_stands 27 = .ok (.iload_n 3, 1) := by decide +kernel
theorem dX9_stands_28 : decode cX9_stands 28 = .ok (.invokevirtual 104, 3) := by decide +kernel
theorem dX9_stands_31 : decode cX9_stands 31 = .ok (.ifCond .eq 5, 3) := by decide +kernel
theorem dX9_stands_34 : decode cX9_stands 34 = .ok (.iconst 0, 1) := by decide +kernel
theorem dX9_stands_35 : decode cX9_stands 35 = .ok (.ireturn, 1) := by decide +kernel
theorem dX9_stands_36 : decode cX9_stands 36 = .ok (.iinc 4 1, 3) := by decide +kernel
theorem dX9_stands_39 : decode cX9_stands 39 = .ok (.goto (-25), 3) := by decide +kernel
theorem dX9_stands_42 : decode cX9_stands 42 = .ok (.iconst 1, 1) := by decide +kernel
theorem dX9_stands_43 : decode cX9_stands 43 = .ok (.ireturn, 1) := by decide +kernel
theorem dX9_weakBits_0 : decode cX9_weakBits 0 = .ok (.aload_n 1, 1) := by decide +kernel
theorem dX9_weakBits_1 : decode cX9_weakBits 1 = .ok (.invokevirtual 96, 3) := by decide +kernel
theorem dX9_weakBits_4 : decode cX9_weakBits 4 = .ok (.istore_n 2, 1) := by decide +kernel
theorem dX9_weakBits_5 : decode cX9_weakBits 5 = .ok (.aload_n 1, 1) := by decide +kernel
theorem dX9_weakBits_6 : decode cX9_weakBits 6 = .ok (.iconst 3, 1) := by decide +kernel
theorem dX9_weakBits_7 : decode cX9_weakBits 7 = .ok (.invokevirtual 101, 3) := by decide +kernel
theorem dX9_weakBits_10 : decode cX9_weakBits 10 = .ok (.istore_n 3, 1) := by decide +kernel
theorem dX9_weakBits_11 : decode cX9_weakBits 11 = .ok (.iconst 0, 1) := by decide +kernel
theorem dX9_weakBits_12 : decode cX9_weakBits 12 = .ok (.istore 4, 2) := by decide +kernel
theorem dX9_weakBits_14 : decode cX9_weakBits 14 = .ok (.iconst 0, 1) := by decide +kernel
theorem dX9_weakBits_15 : decode cX9_weakBits 15 = .ok (.istore 5, 2) := by decide +kernel
theorem dX9_weakBits_17 : decode cX9_weakBits 17 = .ok (.iload 5, 2) := by decide +kernel
theorem dX9_weakBits_19 : decode cX9_weakBits 19 = .ok (.aload_n 0, 1) := by decide +kernel
theorem dX9_weakBits_20 : decode cX9_weakBits 20 = .ok (.getfield 24, 3) := by decide +kernel
theorem dX9_weakBits_23 : decode cX9_weakBits 23 = .ok (.if_icmp .ge 29, 3) := by decide +kernel
theorem dX9_weakBits_26 : decode cX9_weakBits 26 = .ok (.aload_n 0, 1) := by decide +kernel
theorem dX9_weakBits_27 : decode cX9_weakBits 27 = .ok (.iload 5, 2) := by decide +kernel
theorem dX9_weakBits_29 : decode cX9_weakBits 29 = .ok (.iload_n 2, 1) := by decide +kernel
theorem dX9_weakBits_30 : decode cX9_weakBits 30 = .ok (.iload_n 3, 1) := by decide +kernel
theorem dX9_weakBits_31 : decode cX9_weakBits 31 = .ok (.invokevirtual 104, 3) := by decide +kernel
theorem dX9_weakBits_34 : decode cX9_weakBits 34 = .ok (.ifCond .eq 12, 3) := by decide +kernel
theorem dX9_weakBits_37 : decode cX9_weakBits 37 = .ok (.iload 4, 2) := by decide +kernel
theorem dX9_weakBits_39 : decode cX9_weakBits 39 = .ok (.iconst 1, 1) := by decide +kernel
theorem dX9_weakBits_40 : decode cX9_weakBits 40 = .ok (.iload 5, 2) := by decide +kernel
theorem dX9_weakBits_42 : decode cX9_weakBits 42 = .ok (.ishl, 1) := by decide +kernel
theorem dX9_weakBits_43 : decode cX9_weakBits 43 = .ok (.ior, 1) := by decide +kernel
theorem dX9_weakBits_44 : decode cX9_weakBits 44 = .ok (.istore 4, 2) := by decide +kernel
theorem dX9_weakBits_46 : decode cX9_weakBits 46 = .ok (.iinc 5 1, 3) := by decide +kernel
theorem dX9_weakBits_49 : decode cX9_weakBits 49 = .ok (.goto (-32), 3) := by decide +kernel
theorem dX9_weakBits_52 : decode cX9_weakBits 52 = .ok (.iload 4, 2) := by decide +kernel
theorem dX9_weakBits_54 : decode cX9_weakBits 54 = .ok (.ireturn, 1) := by decide +kernel
theorem dX9_sunny_0 : decode cX9_sunny 0 = .ok (.aload_n 1, 1) := by decide +kernel
theorem dX9_sunny_1 : decode cX9_sunny 1 = .ok (.iconst 4, 1) := by decide +kernel
theorem dX9_sunny_2 : decode cX9_sunny 2 = .ok (.invokevirtual 101, 3) := by decide +kernel
theorem dX9_sunny_5 : decode cX9_sunny 5 = .ok (.istore_n 2, 1) := by decide +kernel
theorem dX9_sunny_6 : decode cX9_sunny 6 = .ok (.iconst 0, 1) := by decide +kernel
theorem dX9_sunny_7 : decode cX9_sunny 7 = .ok (.istore_n 3, 1) := by decide +kernel
theorem dX9_sunny_8 : decode cX9_sunny 8 = .ok (.iconst 0, 1) := by decide +kernel
theorem dX9_sunny_9 : decode cX9_sunny 9 = .ok (.istore 4, 2) := by decide +kernel
theorem dX9_sunny_11 : decode cX9_sunny 11 = .ok (.iload 4, 2) := by decide +kernel
theorem dX9_sunny_13 : decode cX9_sunny 13 = .ok (.aload_n 0, 1) := by decide +kernel
theorem dX9_sunny_14 : decode cX9_sunny 14 = .ok (.getfield 24, 3) := by decide +kernel
theorem dX9_sunny_17 : decode cX9_sunny 17 = .ok (.if_icmp .ge 31, 3) := by decide +kernel
theorem dX9_sunny_20 : decode cX9_sunny 20 = .ok (.aload_n 1, 1) := by decide +kernel
theorem dX9_sunny_21 : decode cX9_sunny 21 = .ok (.iload 4, 2) := by decide +kernel
theorem dX9_sunny_23 : decode cX9_sunny 23 = .ok (.invokevirtual 108, 3) := by decide +kernel
theorem dX9_sunny_26 : decode cX9_sunny 26 = .ok (.ifCond .eq 16, 3) := by decide +kernel
theorem dX9_sunny_29 : decode cX9_sunny 29 = .ok (.aload_n 0, 1) := by decide +kernel
theorem dX9_sunny_30 : decode cX9_sunny 30 = .ok (.iload 4, 2) := by decide +kernel
theorem dX9_sunny_32 : decode cX9_sunny 32 = .ok (.invokevirtual 81, 3) := by decide +kernel
theorem dX9_sunny_35 : decode cX9_sunny 35 = .ok (.iload_n 2, 1) := by decide +kernel
theorem dX9_sunny_36 : decode cX9_sunny 36 = .ok (.if_icmp .gt 6, 3) := by decide +kernel
theorem dX9_sunny_39 : decode cX9_sunny 39 = .ok (.iinc 3 1, 3) := by decide +kernel
theorem dX9_sunny_42 : decode cX9_sunny 42 = .ok (.iinc 4 1, 3) := by decide +kernel
theorem dX9_sunny_45 : decode cX9_sunny 45 = .ok (.goto (-34), 3) := by decide +kernel
theorem dX9_sunny_48 : decode cX9_sunny 48 = .ok (.iload_n 3, 1) := by decide +kernel
theorem dX9_sunny_49 : decode cX9_sunny 49 = .ok (.ireturn, 1) := by decide +kernel
theorem dX9_weightOf_0 : decode cX9_weightOf 0 = .ok (.iconst 0, 1) := by decide +kernel
theorem dX9_weightOf_1 : decode cX9_weightOf 1 = .ok (.istore_n 2, 1) := by decide +kernel
theorem dX9_weightOf_2 : decode cX9_weightOf 2 = .ok (.iconst 0, 1) := by decide +kernel
theorem dX9_weightOf_3 : decode cX9_weightOf 3 = .ok (.istore_n 3, 1) := by decide +kernel
theorem dX9_weightOf_4 : decode cX9_weightOf 4 = .ok (.iload_n 3, 1) := by decide +kernel
theorem dX9_weightOf_5 : decode cX9_weightOf 5 = .ok (.aload_n 0, 1) := by decide +kernel
theorem dX9_weightOf_6 : decode cX9_weightOf 6 = .ok (.getfield 24, 3) := by decide +kernel
theorem dX9_weightOf_9 : decode cX9_weightOf 9 = .ok (.if_icmp .ge 47, 3) := by decide +kernel
theorem dX9_weightOf_12 : decode cX9_weightOf 12 = .ok (.iload_n 1, 1) := by decide +kernel
theorem dX9_weightOf_13 : decode cX9_weightOf 13 = .ok (.ifCond .ne 17, 3) := by decide +kernel
theorem dX9_weightOf_16 : decode cX9_weightOf 16 = .ok (.aload_n 0, 1) := by decide +kernel
theorem dX9_weightOf_17 : decode cX9_weightOf 17 = .ok (.iload_n 3, 1) := by decide +kernel
theorem dX9_weightOf_18 : decode cX9_weightOf 18 = .ok (.invokevirtual 81, 3) := by decide +kernel
theorem dX9_weightOf_21 : decode cX9_weightOf 21 = .ok (.aload_n 0, 1) := by decide +kernel
theorem dX9_weightOf_22 : decode cX9_weightOf 22 = .ok (.iload_n 3, 1) := by decide +kernel
theorem dX9_weightOf_23 : decode cX9_weightOf 23 = .ok (.invokevirtual 90, 3) := by decide +kernel
theorem dX9_weightOf_26 : decode cX9_weightOf 26 = .ok (.iadd, 1) := by decide +kernel
theorem dX9_weightOf_27 : decode cX9_weightOf 27 = .ok (.goto 14, 3) := by decide +kernel
theorem dX9_weightOf_30 : decode cX9_weightOf 30 = .ok (.aload_n 0, 1) := by decide +kernel
theorem dX9_weightOf_31 : decode cX9_weightOf 31 = .ok (.iload_n 3, 1) := by decide +kernel
theorem dX9_weightOf_32 : decode cX9_weightOf 32 = .ok (.invokevirtual 81, 3) := by decide +kernel
theorem dX9_weightOf_35 : decode cX9_weightOf 35 = .ok (.aload_n 0, 1) := by decide +kernel
theorem dX9_weightOf_36 : decode cX9_weightOf 36 = .ok (.iload_n 3, 1) := by decide +kernel
theorem dX9_weightOf_37 : decode cX9_weightOf 37 = .ok (.invokevirtual 90, 3) := by decide +kernel
theorem dX9_weightOf_40 : decode cX9_weightOf 40 = .ok (.isub, 1) := by decide +kernel
theorem dX9_weightOf_41 : decode cX9_weightOf 41 = .ok (.istore 4, 2) := by decide +kernel
theorem dX9_weightOf_43 : decode cX9_weightOf 43 = .ok (.iload_n 2, 1) := by decide +kernel
theorem dX9_weightOf_44 : decode cX9_weightOf 44 = .ok (.iload 4, 2) := by decide +kernel
theorem dX9_weightOf_46 : decode cX9_weightOf 46 = .ok (.iconst 2, 1) := by decide +kernel
theorem dX9_weightOf_47 : decode cX9_weightOf 47 = .ok (.idiv, 1) := by decide +kernel
theorem dX9_weightOf_48 : decode cX9_weightOf 48 = .ok (.iadd, 1) := by decide +kernel
theorem dX9_weightOf_49 : decode cX9_weightOf 49 = .ok (.istore_n 2, 1) := by decide +kernel
theorem dX9_weightOf_50 : decode cX9_weightOf 50 = .ok (.iinc 3 1, 3) := by decide +kernel
theorem dX9_weightOf_53 : decode cX9_weightOf 53 = .ok (.goto (-49), 3) := by decide +kernel
theorem dX9_weightOf_56 : decode cX9_weightOf 56 = .ok (.iload_n 2, 1) := by decide +kernel
theorem dX9_weightOf_57 : decode cX9_weightOf 57 = .ok (.ireturn, 1) := by decide +kernel
theorem dX9_stoneCount_0 : decode cX9_stoneCount 0 = .ok (.iconst 0, 1) := by decide +kernel
theorem dX9_stoneCount_1 : decode cX9_stoneCount 1 = .ok (.istore_n 1, 1) := by decide +kernel
theorem dX9_stoneCount_2 : decode cX9_stoneCount 2 = .ok (.iconst 0, 1) := by decide +kernel
theorem dX9_stoneCount_3 : decode cX9_stoneCount 3 = .ok (.istore_n 2, 1) := by decide +kernel
theorem dX9_stoneCount_4 : decode cX9_stoneCount 4 = .ok (.iload_n 2, 1) := by decide +kernel
theorem dX9_stoneCount_5 : decode cX9_stoneCount 5 = .ok (.aload_n 0, 1) := by decide +kernel
theorem dX9_stoneCount_6 : decode cX9_stoneCount 6 = .ok (.getfield 24, 3) := by decide +kernel
theorem dX9_stoneCount_9 : decode cX9_stoneCount 9 = .ok (.if_icmp .ge 17, 3) := by decide +kernel
theorem dX9_stoneCount_12 : decode cX9_stoneCount 12 = .ok (.iload_n 1, 1) := by decide +kernel
theorem dX9_stoneCount_13 : decode cX9_stoneCount 13 = .ok (.aload_n 0, 1) := by decide +kernel
theorem dX9_stoneCount_14 : decode cX9_stoneCount 14 = .ok (.iload_n 2, 1) := by decide +kernel
theorem dX9_stoneCount_15 : decode cX9_stoneCount 15 = .ok (.invokevirtual 63, 3) := by decide +kernel
theorem dX9_stoneCount_18 : decode cX9_stoneCount 18 = .ok (.iadd, 1) := by decide +kernel
theorem dX9_stoneCount_19 : decode cX9_stoneCount 19 = .ok (.istore_n 1, 1) := by decide +kernel
theorem dX9_stoneCount_20 : decode cX9_stoneCount 20 = .ok (.iinc 2 1, 3) := by decide +kernel
theorem dX9_stoneCount_23 : decode cX9_stoneCount 23 = .ok (.goto (-19), 3) := by decide +kernel
theorem dX9_stoneCount_26 : decode cX9_stoneCount 26 = .ok (.iload_n 1, 1) := by decide +kernel
theorem dX9_stoneCount_27 : decode cX9_stoneCount 27 = .ok (.ireturn, 1) := by decide +kernel
theorem dX9_highestColumn_0 : decode cX9_highestColumn 0 = .ok (.aload_n 0, 1) := by decide +kernel
theorem dX9_highestColumn_1 : decode cX9_highestColumn 1 = .ok (.getfield 24, 3) := by decide +kernel
theorem dX9_highestColumn_4 : decode cX9_highestColumn 4 = .ok (.ifCond .le 7, 3) := by decide +kernel
theorem dX9_highestColumn_7 : decode cX9_highestColumn 7 = .ok (.iconst 0, 1) := by decide +kernel
theorem dX9_highestColumn_8 : decode cX9_highestColumn 8 = .ok (.goto 4, 3) := by decide +kernel
theorem dX9_highestColumn_11 : decode cX9_highestColumn 11 = .ok (.iconst (-1), 1) := by decide +kernel
theorem dX9_highestColumn_12 : decode cX9_highestColumn 12 = .ok (.istore_n 1, 1) := by decide +kernel
theorem dX9_highestColumn_13 : decode cX9_highestColumn 13 = .ok (.iconst 1, 1) := by decide +kernel
theorem dX9_highestColumn_14 : decode cX9_highestColumn 14 = .ok (.istore_n 2, 1) := by decide +kernel
theorem dX9_highestColumn_15 : decode cX9_highestColumn 15 = .ok (.iload_n 2, 1) := by decide +kernel
theorem dX9_highestColumn_16 : decode cX9_highestColumn 16 = .ok (.aload_n 0, 1) := by decide +kernel
theorem dX9_highestColumn_17 : decode cX9_highestColumn 17 = .ok (.getfield 24, 3) := by decide +kernel
theorem dX9_highestColumn_20 : decode cX9_highestColumn 20 = .ok (.if_icmp .ge 24, 3) := by decide +kernel
theorem dX9_highestColumn_23 : decode cX9_highestColumn 23 = .ok (.aload_n 0, 1) := by decide +kernel
theorem dX9_highestColumn_24 : decode cX9_highestColumn 24 = .ok (.iload_n 2, 1) := by decide +kernel
theorem dX9_highestColumn_25 : decode cX9_highestColumn 25 = .ok (.invokevirtual 81, 3) := by decide +kernel
theorem dX9_highestColumn_28 : decode cX9_highestColumn 28 = .ok (.aload_n 0, 1) := by decide +kernel
theorem dX9_highestColumn_29 : decode cX9_highestColumn 29 = .ok (.iload_n 1, 1) := by decide +kernel
theorem dX9_highestColumn_30 : decode cX9_highestColumn 30 = .ok (.invokevirtual 81, 3) := by decide +kernel
theorem dX9_highestColumn_33 : decode cX9_highestColumn 33 = .ok (.if_icmp .le 5, 3) := by decide +kernel
theorem dX9_highestColumn_36 : decode cX9_highestColumn 36 = .ok (.iload_n 2, 1) := by decide +kernel
theorem dX9_highestColumn_37 : decode cX9_highestColumn 37 = .ok (.istore_n 1, 1) := by decide +kernel
theorem dX9_highestColumn_38 : decode cX9_highestColumn 38 = .ok (.iinc 2 1, 3) := by decide +kernel
theorem dX9_highestColumn_41 : decode cX9_highestColumn 41 = .ok (.goto (-26), 3) := by decide +kernel
theorem dX9_highestColumn_44 : decode cX9_highestColumn 44 = .ok (.iload_n 1, 1) := by decide +kernel
theorem dX9_highestColumn_45 : decode cX9_highestColumn 45 = .ok (.ireturn, 1) := by decide +kernel
