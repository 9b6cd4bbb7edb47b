theorem dX5_init_0 : decode cX5_init 0 = .ok (.aload_n 0, 1) := by decide +kernel
theorem dX5_init_1 : decode cX5_init 1 = .ok (.invokespecial 3, 3) := by decide +kernel
theorem dX5_init_4 : decode cX5_init 4 = .ok (.aload_n 0, 1) := by decide +kernel
theorem dX5_init_5 : decode cX5_init 5 = .ok (.bipush 6, 2) := by decide +kernel
theorem dX5_init_7 : decode cX5_init 7 = .ok (.newarray .int, 2) := by decide +kernel
theorem dX5_init_9 : decode cX5_init 9 = .ok (.putfield 9, 3) := by decide +kernel
theorem dX5_init_12 : decode cX5_init 12 = .ok (.aload_n 0, 1) := by decide +kernel
theorem dX5_init_13 : decode cX5_init 13 = .ok (.bipush 6, 2) := by decide +kernel
theorem dX5_init_15 : decode cX5_init 15 = .ok (.newarray .int, 2) := by decide +kernel
theorem dX5_init_17 : decode cX5_init 17 = .ok (.putfield 15, 3) := by decide +kernel
theorem dX5_init_20 : decode cX5_init 20 = .ok (.aload_n 0, 1) := by decide +kernel
theorem dX5_init_21 : decode cX5_init 21 = .ok (.bipush 48, 2) := by decide +kernel
theorem dX5_init_23 : decode cX5_init 23 = .ok (.newarray .int, 2) := by decide +kernel
theorem dX5_init_25 : decode cX5_init 25 = .ok (.putfield 18, 3) := by decide +kernel
theorem dX5_init_28 : decode cX5_init 28 = .ok (.aload_n 0, 1) := by decide +kernel
theorem dX5_init_29 : decode cX5_init 29 = .ok (.bipush 6, 2) := by decide +kernel
theorem dX5_init_31 : decode cX5_init 31 = .ok (.newarray .int, 2) := by decide +kernel
theorem dX5_init_33 : decode cX5_init 33 = .ok (.putfield 21, 3) := by decide +kernel
theorem dX5_init_36 : decode cX5_init 36 = .ok (.aload_n 0, 1) := by decide +kernel
theorem dX5_init_37 : decode cX5_init 37 = .ok (.bipush 64, 2) := by decide +kernel
theorem dX5_init_39 : decode cX5_init 39 = .ok (.newarray .long, 2) := by decide +kernel
theorem dX5_init_41 : decode cX5_init 41 = .ok (.putfield 24, 3) := by decide +kernel
theorem dX5_init_44 : decode cX5_init 44 = .ok (.aload_n 0, 1) := by decide +kernel
theorem dX5_init_45 : decode cX5_init 45 = .ok (.bipush 64, 2) := by decide +kernel
theorem dX5_init_47 : decode cX5_init 47 = .ok (.newarray .long, 2) := by decide +kernel
theorem dX5_init_49 : decode cX5_init 49 = .ok (.putfield 28, 3) := by decide +kernel
theorem dX5_init_52 : decode cX5_init 52 = .ok (.aload_n 0, 1) := by decide +kernel
theorem dX5_init_53 : decode cX5_init 53 = .ok (.iconst (-1), 1) := by decide +kernel
theorem dX5_init_54 : decode cX5_init 54 = .ok (.putfield 31, 3) := by decide +kernel
theorem dX5_init_57 : decode cX5_init 57 = .ok (.aload_n 0, 1) := by decide +kernel
theorem dX5_init_58 : decode cX5_init 58 = .ok (.aload_n 1, 1) := by decide +kernel
theorem dX5_init_59 : decode cX5_init 59 = .ok (.putfield 35, 3) := by decide +kernel
theorem dX5_init_62 : decode cX5_init 62 = .ok (.aload_n 0, 1) := by decide +kernel
theorem dX5_init_63 : decode cX5_init 63 = .ok (.aload_n 2, 1) := by decide +kernel
theorem dX5_init_64 : decode cX5_init 64 = .ok (.putfield 39, 3) := by decide +kernel
theorem dX5_init_67 : decode cX5_init 67 = .ok (.aload_n 0, 1) := by decide +kernel
theorem dX5_init_68 : decode cX5_init 68 = .ok (.aload_n 3, 1) := by decide +kernel
theorem dX5_init_69 : decode cX5_init 69 = .ok (.putfield 43, 3) := by decide +kernel
theorem dX5_init_72 : decode cX5_init 72 = .ok (.return_, 1) := by decide +kernel
theorem dX5_pagesRead_0 : decode cX5_pagesRead 0 = .ok (.aload_n 0, 1) := by decide +kernel
theorem dX5_pagesRead_1 : decode cX5_pagesRead 1 = .ok (.getfield 47, 3) := by decide +kernel
theorem dX5_pagesRead_4 : decode cX5_pagesRead 4 = .ok (.ireturn, 1) := by decide +kernel
theorem dX5_waxSaved_0 : decode cX5_waxSaved 0 = .ok (.aload_n 0, 1) := by decide +kernel
theorem dX5_waxSaved_1 : decode cX5_waxSaved 1 = .ok (.getfield 50, 3) := by decide +kernel
theorem dX5_waxSaved_4 : decode cX5_waxSaved 4 = .ok (.ireturn, 1) := by decide +kernel
theorem dX5_tableOf_0 : decode cX5_tableOf 0 = .ok (.aload_n 0, 1) := by decide +kernel
theorem dX5_tableOf_1 : decode cX5_tableOf 1 = .ok (.getfield 35, 3) := by decide +kernel
theorem dX5_tableOf_4 : decode cX5_tableOf 4 = .ok (.getfield 53, 3) := by decide +kernel
theorem dX5_tableOf_7 : decode cX5_tableOf 7 = .ok (.getfield 59, 3) := by decide +kernel
theorem dX5_tableOf_10 : decode cX5_tableOf 10 = .ok (.iconst 3, 1) := by decide +kernel
theorem dX5_tableOf_11 : decode cX5_tableOf 11 = .ok (.iaload, 1) := by decide +kernel
theorem dX5_tableOf_12 : decode cX5_tableOf 12 = .ok (.istore_n 2, 1) := by decide +kernel
theorem dX5_tableOf_13 : decode cX5_tableOf 13 = .ok (.iload_n 2, 1) := by decide +kernel
theorem dX5_tableOf_14 : decode cX5_tableOf 14 = .ok (.ifCond .le 28, 3) := by decide +kernel
theorem dX5_tableOf_17 : decode cX5_tableOf 17 = .ok (.aload_n 0, 1) := by decide +kernel
theorem dX5_tableOf_18 : decode cX5_tableOf 18 = .ok (.getfield 21, 3) := by decide +kernel
theorem dX5_tableOf_21 : decode cX5_tableOf 21 = .ok (.iload_n 1, 1) := by decide +kernel
theorem dX5_tableOf_22 : decode cX5_tableOf 22 = .ok (.iaload, 1) := by decide +kernel
theorem dX5_tableOf_23 : decode cX5_tableOf 23 = .ok (.ifCond .le 19, 3) := by decide +kernel
theorem dX5_tableOf_26 : decode cX5_tableOf 26 = .ok (.aload_n 0, 1) := by decide +kernel
theorem dX5_tableOf_27 : decode cX5_tableOf 27 = .ok (.getfield 64, 3) := by decide +kernel
theorem dX5_tableOf_30 : decode cX5_tableOf 30 = .ok (.aload_n 0, 1) := by decide +kernel
theorem dX5_tableOf_31 : decode cX5_tableOf 31 = .ok (.getfield 21, 3) := by decide +kernel
theorem dX5_tableOf_34 : decode cX5_tableOf 34 = .ok (.iload_n 1, 1) := by decide +kernel
theorem dX5_tableOf_35 : decode cX5_tableOf 35 = .ok (.iaload, 1) := by decide +kernel
theorem dX5_tableOf_36 : decode cX5_tableOf 36 = .ok (.idiv, 1) := by decide +kernel
theorem dX5_tableOf_37 : decode cX5_tableOf 37 = .ok (.iload_n 2, 1) := by decide +kernel
theorem dX5_tableOf_38 : decode cX5_tableOf 38 = .ok (.irem, 1) := by decide +kernel
theorem dX5_tableOf_39 : decode cX5_tableOf 39 = .ok (.goto 4, 3) := by decide +kernel
theorem dX5_tableOf_42 : decode cX5_tableOf 42 = .ok (.iconst 0, 1) := by decide +kernel
theorem dX5_tableOf_43 : decode cX5_tableOf 43 = .ok (.ireturn, 1) := by decide +kernel
theorem dX5_find_0 : decode cX5_find 0 = .ok (.aload_n 0, 1) := by decide +kernel
theorem dX5_find_1 : decode cX5_find 1 = .ok (.getfield 31, 3) := by decide +kernel
theorem dX5_find_4 : decode cX5_find 4 = .ok (.aload_n 0, 1) := by decide +kernel
theorem dX5_find_5 : decode cX5_find 5 = .ok (.getfield 35, 3) := by decide +kernel
theorem dX5_find_8 : decode cX5_find 8 = .ok (.getfield 67, 3) := by decide +kernel
theorem dX5_find_11 : decode cX5_find 11 = .ok (.if_icmp .ne 4, 3) := by decide +kernel
theorem dX5_find_14 : decode cX5_find 14 = .ok (.return_, 1) := by decide +kernel
theorem dX5_find_15 : decode cX5_find 15 = .ok (.aload_n 0, 1) := by decide +kernel
theorem dX5_find_16 : decode cX5_find 16 = .ok (.aload_n 0, 1) := by decide +kernel
theorem dX5_find_17 : decode cX5_find 17 = .ok (.getfield 35, 3) := by decide +kernel
theorem dX5_find_20 : decode cX5_find 20 = .ok (.getfield 67, 3) := by decide +kernel
theorem dX5_find_23 : decode cX5_find 23 = .ok (.putfield 31, 3) := by decide +kernel
theorem dX5_find_26 : decode cX5_find 26 = .ok (.aload_n 0, 1) := by decide +kernel
theorem dX5_find_27 : decode cX5_find 27 = .ok (.getfield 35, 3) := by decide +kernel
theorem dX5_find_30 : decode cX5_find 30 = .ok (.getfield 53, 3) := by decide +kernel
theorem dX5_find_33 : decode cX5_find 33 = .ok (.getfield 59, 3) := by decide +kernel
theorem dX5_find_36 : decode cX5_find 36 = .ok (.iconst 3, 1) := by decide +kernel
theorem dX5_find_37 : decode cX5_find 37 = .ok (.iaload, 1) := by decide +kernel
theorem dX5_find_38 : decode cX5_find 38 = .ok (.istore_n 1, 1) := by decide +kernel
theorem dX5_find_39 : decode cX5_find 39 = .ok (.aload_n 0, 1) := by decide +kernel
theorem dX5_find_40 : decode cX5_find 40 = .ok (.getfield 35, 3) := by decide +kernel
theorem dX5_find_43 : decode cX5_find 43 = .ok (.getfield 53, 3) := by decide +kernel
theorem dX5_find_46 : decode cX5_find 46 = .ok (.getfield 59, 3) := by decide +kernel
theorem dX5_find_49 : decode cX5_find 49 = .ok (.iconst 2, 1) := by decide +kernel
theorem dX5_find_50 : decode cX5_find 50 = .ok (.iaload, 1) := by decide +kernel
theorem dX5_find_51 : decode cX5_find 51 = .ok (.istore_n 2, 1) := by decide +kernel
theorem dX5_find_52 : decode cX5_find 52 = .ok (.iconst 1, 1) := by decide +kernel
theorem dX5_find_53 : decode cX5_find 53 = .ok (.istore_n 3, 1) := by decide +kernel
theorem dX5_find_54 : decode cX5_find 54 = .ok (.iload_n 2, 1) := by decide +kernel
theorem dX5_find_55 : decode cX5_find 55 = .ok (.iconst 1, 1) := by decide +kernel
theorem dX5_find_56 : decode cX5_find 56 = .ok (.isub, 1) := by decide +kernel
theorem dX5_find_57 : decode cX5_find 57 = .ok (.istore 4, 2) := by decide +kernel
theorem dX5_find_59 : decode cX5_find 59 = .ok (.iload 4, 2) := by decide +kernel
theorem dX5_find_61 : decode cX5_find 61 = .ok (.ifCond .lt 21, 3) := by decide +kernel
theorem dX5_find_64 : decode cX5_find 64 = .ok (.aload_n 0, 1) := by decide +kernel
theorem dX5_find_65 : decode cX5_find 65 = .ok (.getfield 21, 3) := by decide +kernel
theorem dX5_find_68 : decode cX5_find 68 = .ok (.iload 4, 2) := by decide +kernel
theorem dX5_find_70 : decode cX5_find 70 = .ok (.iload_n 3, 1) := by decide +kernel
theorem dX5_find_71 : decode cX5_find 71 = .ok (.iastore, 1) := by decide +kernel
theorem dX5_find_72 : decode cX5_find 72 = .ok (.iload_n 3, 1) := by decide +kernel
theorem dX5_find_73 : decode cX5_find 73 = .ok (.iload_n 1, 1) := by decide +kernel
theorem dX5_find_74 : decode cX5_find 74 = .ok (.imul, 1) := by decide +kernel
theorem dX5_find_75 : decode cX5_find 75 = .ok (.istore_n 3, 1) := by decide +kernel
theorem dX5_find_76 : decode cX5_find 76 = .ok (.iinc 4 (-1), 3) := by decide +kernel
theorem dX5_find_79 : decode cX5_find 79 = .ok (.goto (-20), 3) := by decide +kernel
theorem dX5_find_82 : decode cX5_find 82 = .ok (.aload_n 0, 1) := by decide +kernel
theorem dX5_find_83 : decode cX5_find 83 = .ok (.getfield 28, 3) := by decide +kernel
theorem dX5_find_86 : decode cX5_find 86 = .ok (.ldc2_w 68, 3) := by decide +kernel
theorem dX5_find_89 : decode cX5_find 89 = .ok (.invokestatic 70, 3) := by decide +kernel
theorem dX5_find_92 : decode cX5_find 92 = .ok (.aload_n 0, 1) := by decide +kernel
theorem dX5_find_93 : decode cX5_find 93 = .ok (.getfield 28, 3) := by decide +kernel
theorem dX5_find_96 : decode cX5_find 96 = .ok (.iconst 0, 1) := by decide +kernel
theorem dX5_find_97 : decode cX5_find 97 = .ok (.lconst 0, 1) := by decide +kernel
theorem dX5_find_98 : decode cX5_find 98 = .ok (.lastore, 1) := by decide +kernel
theorem dX5_find_99 : decode cX5_find 99 = .ok (.iconst 0, 1) := by decide +kernel
theorem dX5_find_100 : decode cX5_find 100 = .ok (.istore 4, 2) := by decide +kernel
theorem dX5_find_102 : decode cX5_find 102 = .ok (.iload 4, 2) := by decide +kernel
theorem dX5_find_104 : decode cX5_find 104 = .ok (.iload_n 1, 1) := by decide +kernel
theorem dX5_find_105 : decode cX5_find 105 = .ok (.if_icmp .ge 25, 3) := by decide +kernel
theorem dX5_find_108 : decode cX5_find 108 = .ok (.aload_n 0, 1) := by decide +kernel
theorem dX5_find_109 : decode cX5_find 109 = .ok (.iload 4, 2) := by decide +kernel
theorem dX5_find_111 : decode cX5_find 111 = .ok (.iload_n 2, 1) := by decide +kernel
theorem dX5_find_112 : decode cX5_find 112 = .ok (.invokevirtual 76, 3) := by decide +kernel
theorem dX5_find_115 : decode cX5_find 115 = .ok (.aload_n 0, 1) := by decide +kernel
theorem dX5_find_116 : decode cX5_find 116 = .ok (.iconst 1, 1) := by decide +kernel
theorem dX5_find_117 : decode cX5_find 117 = .ok (.iload_n 2, 1) := by decide +kernel
theorem dX5_find_118 : decode cX5_find 118 = .ok (.ishl, 1) := by decide +kernel
theorem dX5_find_119 : decode cX5_find 119 = .ok (.iconst 1, 1) := by decide +kernel
theorem dX5_find_120 : decode cX5_find 120 = .ok (.isub, 1) := by decide +kernel
theorem dX5_find_121 : decode cX5_find 121 = .ok (.invokevirtual 80, 3) := by decide +kernel
theorem dX5_find_124 : decode cX5_find 124 = .ok (.iinc 4 1, 3) := by decide +kernel
theorem dX5_find_127 : decode cX5_find 127 = .ok (.goto (-25), 3) := by decide +kernel
theorem dX5_find_130 : decode cX5_find 130 = .ok (.aload_n 0, 1) := by decide +kernel
theorem dX5_find_131 : decode cX5_find 131 = .ok (.aload_n 0, 1) := by decide +kernel
theorem dX5_find_132 : decode cX5_find 132 = .ok (.getfield 28, 3) := by decide +kernel
theorem dX5_find_135 : decode cX5_find 135 = .ok (.iconst 1, 1) := by decide +kernel
theorem dX5_find_136 : decode cX5_find 136 = .ok (.iload_n 2, 1) := by decide +kernel
theorem dX5_find_137 : decode cX5_find 137 = .ok (.ishl, 1) := by decide +kernel
theorem dX5_find_138 : decode cX5_find 138 = .ok (.iconst 1, 1) := by decide +kernel
theorem dX5_find_139 : decode cX5_find 139 = .ok (.isub, 1) := by decide +kernel
theorem dX5_find_140 : decode cX5_find 140 = .ok (.laload, 1) := by decide +kernel
theorem dX5_find_141 : decode cX5_find 141 = .ok (.invokevirtual 84, 3) := by decide +kernel
theorem dX5_find_144 : decode cX5_find 144 = .ok (.return_, 1) := by decide +kernel
theorem dX5_tellFound_0 : decode cX5_tellFound 0 = .ok (.lload_n 1, 1) := by decide +kernel
theorem dX5_tellFound_1 : decode cX5_tellFound 1 = .ok (.lneg, 1) := by decide +kernel
theorem dX5_tellFound_2 : decode cX5_tellFound 2 = .ok (.ldc2_w 88, 3) := by decide +kernel
theorem dX5_tellFound_5 : decode cX5_tellFound 5 = .ok (.invokestatic 90, 3) := by decide +kernel
theorem dX5_tellFound_8 : decode cX5_tellFound 8 = .ok (.lstore_n 3, 1) := by decide +kernel
theorem dX5_tellFound_9 : decode cX5_tellFound 9 = .ok (.lload_n 1, 1) := by decide +kernel
theorem dX5_tellFound_10 : decode cX5_tellFound 10 = .ok (.lload_n 3, 1) := by decide +kernel
theorem dX5_tellFound_11 : decode cX5_tellFound 11 = .ok (.ladd, 1) := by decide +kernel
theorem dX5_tellFound_12 : decode cX5_tellFound 12 = .ok (.ldc2_w 88, 3) := by decide +kernel
theorem dX5_tellFound_15 : decode cX5_tellFound 15 = .ok (.ldiv, 1) := by decide +kernel
theorem dX5_tellFound_16 : decode cX5_tellFound 16 = .ok (.lstore 5, 2) := by decide +kernel
theorem dX5_tellFound_18 : decode cX5_tellFound 18 = .ok (.aload_n 0, 1) := by decide +kernel
theorem dX5_tellFound_19 : decode cX5_tellFound 19 = .ok (.lload_n 3, 1) := by decide +kernel
theorem dX5_tellFound_20 : decode cX5_tellFound 20 = .ok (.l2i, 1) := by decide +kernel
theorem dX5_tellFound_21 : decode cX5_tellFound 21 = .ok (.putfield 64, 3) := by decide +kernel
theorem dX5_tellFound_24 : decode cX5_tellFound 24 = .ok (.aload_n 0, 1) := by decide +kernel
theorem dX5_tellFound_25 : decode cX5_tellFound 25 = .ok (.lload 5, 2) := by decide +kernel
theorem dX5_tellFound_27 : decode cX5_tellFound 27 = .ok (.ldc2_w 96, 3) := by decide +kernel
theorem dX5_tellFound_30 : decode cX5_tellFound 30 = .ok (.lrem, 1) := by decide +kernel
theorem dX5_tellFound_31 : decode cX5_tellFound 31 = .ok (.l2i, 1) := by decide +kernel
theorem dX5_tellFound_32 : decode cX5_tellFound 32 = .ok (.putfield 50, 3) := by decide +kernel
theorem dX5_tellFound_35 : decode cX5_tellFound 35 = .ok (.aload_n 0, 1) := by decide +kernel
theorem dX5_tellFound_36 : decode cX5_tellFound 36 = .ok (.lload 5, 2) := by decide +kernel
theorem dX5_tellFound_38 : decode cX5_tellFound 38 = .ok (.ldc2_w 96, 3) := by decide +kernel
theorem dX5_tellFound_41 : decode cX5_tellFound 41 = .ok (.ldiv, 1) := by decide +kernel
theorem dX5_tellFound_42 : decode cX5_tellFound 42 = .ok (.l2i, 1) := by decide +kernel
theorem dX5_tellFound_43 : decode cX5_tellFound 43 = .ok (.putfield 47, 3) := by decide +kernel
theorem dX5_tellFound_46 : decode cX5_tellFound 46 = .ok (.return_, 1) := by decide +kernel
theorem dX5_weighTable_0 : decode cX5_weighTable 0 = .ok (.aload_n 0, 1) := by decide +kernel
theorem dX5_weighTable_1 : decode cX5_weighTable 1 = .ok (.getfield 24, 3) := by decide +kernel
theorem dX5_weighTable_4 : decode cX5_weighTable 4 = .ok (.iconst 0, 1) := by decide +kernel
theorem dX5_weighTable_5 : decode cX5_weighTable 5 = .ok (.lconst 0, 1) := by decide +kernel
theorem dX5_weighTable_6 : decode cX5_weighTable 6 = .ok (.lastore, 1) := by decide +kernel
theorem dX5_weighTable_7 : decode cX5_weighTable 7 = .ok (.iconst 1, 1) := by decide +kernel
theorem dX5_weighTable_8 : decode cX5_weighTable 8 = .ok (.istore_n 3, 1) := by decide +kernel
theorem dX5_weighTable_9 : decode cX5_weighTable 9 = .ok (.iload_n 3, 1) := by decide +kernel
theorem dX5_weighTable_10 : decode cX5_weighTable 10 = .ok (.iload_n 2, 1) := by decide +kernel
theorem dX5_weighTable_11 : decode cX5_weighTable 11 = .ok (.if_icmp .gt 172, 3) := by decide +kernel
theorem dX5_weighTable_14 : decode cX5_weighTable 14 = .ok (.iconst 0, 1) := by decide +kernel
theorem dX5_weighTable_15 : decode cX5_weighTable 15 = .ok (.istore 4, 2) := by decide +kernel
theorem dX5_weighTable_17 : decode cX5_weighTable 17 = .ok (.iload 4, 2) := by decide +kernel
theorem dX5_weighTable_19 : decode cX5_weighTable 19 = .ok (.iload_n 2, 1) := by decide +kernel
theorem dX5_weighTable_20 : decode cX5_weighTable 20 = .ok (.if_icmp .ge 116, 3) := by decide +kernel
theorem dX5_weighTable_23 : decode cX5_weighTable 23 = .ok (.aload_n 0, 1) := by decide +kernel
theorem dX5_weighTable_24 : decode cX5_weighTable 24 = .ok (.getfield 39, 3) := by decide +kernel
theorem dX5_weighTable_27 : decode cX5_weighTable 27 = .ok (.iload 4, 2) := by decide +kernel
theorem dX5_weighTable_29 : decode cX5_weighTable 29 = .ok (.aload_n 0, 1) := by decide +kernel
theorem dX5_weighTable_30 : decode cX5_weighTable 30 = .ok (.getfield 35, 3) := by decide +kernel
theorem dX5_weighTable_33 : decode cX5_weighTable 33 = .ok (.getfield 53, 3) := by decide +kernel
theorem dX5_weighTable_36 : decode cX5_weighTable 36 = .ok (.getfield 98, 3) := by decide +kernel
theorem dX5_weighTable_39 : decode cX5_weighTable 39 = .ok (.iload_n 1, 1) := by decide +kernel
theorem dX5_weighTable_40 : decode cX5_weighTable 40 = .ok (.iaload, 1) := by decide +kernel
theorem dX5_weighTable_41 : decode cX5_weighTable 41 = .ok (.iload_n 3, 1) := by decide +kernel
theorem dX5_weighTable_42 : decode cX5_weighTable 42 = .ok (.aload_n 0, 1) := by decide +kernel
theorem dX5_weighTable_43 : decode cX5_weighTable 43 = .ok (.getfield 35, 3) := by decide +kernel
theorem dX5_weighTable_46 : decode cX5_weighTable 46 = .ok (.iload 4, 2) := by decide +kernel
theorem dX5_weighTable_48 : decode cX5_weighTable 48 = .ok (.invokevirtual 101, 3) := by decide +kernel
theorem dX5_weighTable_51 : decode cX5_weighTable 51 = .ok (.invokestatic 105, 3) := by decide +kernel
theorem dX5_weighTable_54 : decode cX5_weighTable 54 = .ok (.invokevirtual 110, 3) := by decide +kernel
theorem dX5_weighTable_57 : decode cX5_weighTable 57 = .ok (.aload_n 0, 1) := by decide +kernel
theorem dX5_weighTable_58 : decode cX5_weighTable 58 = .ok (.getfield 9, 3) := by decide +kernel
theorem dX5_weighTable_61 : decode cX5_weighTable 61 = .ok (.iload 4, 2) := by decide +kernel
theorem dX5_weighTable_63 : decode cX5_weighTable 63 = .ok (.aload_n 0, 1) := by decide +kernel
theorem dX5_weighTable_64 : decode cX5_weighTable 64 = .ok (.getfield 39, 3) := by decide +kernel
theorem dX5_weighTable_67 : decode cX5_weighTable 67 = .ok (.invokevirtual 116, 3) := by decide +kernel
theorem dX5_weighTable_70 : decode cX5_weighTable 70 = .ok (.iastore, 1) := by decide +kernel
theorem dX5_weighTable_71 : decode cX5_weighTable 71 = .ok (.aload_n 0, 1) := by decide +kernel
theorem dX5_weighTable_72 : decode cX5_weighTable 72 = .ok (.getfield 43, 3) := by decide +kernel
theorem dX5_weighTable_75 : decode cX5_weighTable 75 = .ok (.iload 4, 2) := by decide +kernel
theorem dX5_weighTable_77 : decode cX5_weighTable 77 = .ok (.aload_n 0, 1) := by decide +kernel
theorem dX5_weighTable_78 : decode cX5_weighTable 78 = .ok (.getfield 35, 3) := by decide +kernel
theorem dX5_weighTable_81 : decode cX5_weighTable 81 = .ok (.getfield 53, 3) := by decide +kernel
theorem dX5_weighTable_84 : decode cX5_weighTable 84 = .ok (.getfield 98, 3) := by decide +kernel
theorem dX5_weighTable_87 : decode cX5_weighTable 87 = .ok (.iload_n 1, 1) := by decide +kernel
theorem dX5_weighTable_88 : decode cX5_weighTable 88 = .ok (.iaload, 1) := by decide +kernel
theorem dX5_weighTable_89 : decode cX5_weighTable 89 = .ok (.iload_n 3, 1) := by decide +kernel
theorem dX5_weighTable_90 : decode cX5_weighTable 90 = .ok (.iconst 0, 1) := by decide +kernel
theorem dX5_weighTable_91 : decode cX5_weighTable 91 = .ok (.invokevirtual 120, 3) := by decide +kernel
theorem dX5_weighTable_94 : decode cX5_weighTable 94 = .ok (.aload_n 0, 1) := by decide +kernel
theorem dX5_weighTable_95 : decode cX5_weighTable 95 = .ok (.getfield 15, 3) := by decide +kernel
theorem dX5_weighTable_98 : decode cX5_weighTable 98 = .ok (.iload 4, 2) := by decide +kernel
theorem dX5_weighTable_100 : decode cX5_weighTable 100 = .ok (.aload_n 0, 1) := by decide +kernel
theorem dX5_weighTable_101 : decode cX5_weighTable 101 = .ok (.getfield 43, 3) := by decide +kernel
theorem dX5_weighTable_104 : decode cX5_weighTable 104 = .ok (.getfield 126, 3) := by decide +kernel
theorem dX5_weighTable_107 : decode cX5_weighTable 107 = .ok (.iastore, 1) := by decide +kernel
theorem dX5_weighTable_108 : decode cX5_weighTable 108 = .ok (.aload_n 0, 1) := by decide +kernel
theorem dX5_weighTable_109 : decode cX5_weighTable 109 = .ok (.getfield 43, 3) := by decide +kernel
theorem dX5_weighTable_112 : decode cX5_weighTable 112 = .ok (.getfield 129, 3) := by decide +kernel
theorem dX5_weighTable_115 : decode cX5_weighTable 115 = .ok (.iconst 0, 1) := by decide +kernel
theorem dX5_weighTable_116 : decode cX5_weighTable 116 = .ok (.aload_n 0, 1) := by decide +kernel
theorem dX5_weighTable_117 : decode cX5_weighTable 117 = .ok (.getfield 18, 3) := by decide +kernel
theorem dX5_weighTable_120 : decode cX5_weighTable 120 = .ok (.iload 4, 2) := by decide +kernel
theorem dX5_weighTable_122 : decode cX5_weighTable 122 = .ok (.bipush 8, 2) := by decide +kernel
theorem dX5_weighTable_124 : decode cX5_weighTable 124 = .ok (.imul, 1) := by decide +kernel
theorem dX5_weighTable_125 : decode cX5_weighTable 125 = .ok (.bipush 8, 2) := by decide +kernel
theorem dX5_weighTable_127 : decode cX5_weighTable 127 = .ok (.invokestatic 130, 3) := by decide +kernel
theorem dX5_weighTable_130 : decode cX5_weighTable 130 = .ok (.iinc 4 1, 3) := by decide +kernel
theorem dX5_weighTable_133 : decode cX5_weighTable 133 = .ok (.goto (-116), 3) := by decide +kernel
theorem dX5_weighTable_136 : decode cX5_weighTable 136 = .ok (.iconst 1, 1) := by decide +kernel
theorem dX5_weighTable_137 : decode cX5_weighTable 137 = .ok (.istore 4, 2) := by decide +kernel
theorem dX5_weighTable_139 : decode cX5_weighTable 139 = .ok (.iload 4, 2) := by decide +kernel
theorem dX5_weighTable_141 : decode cX5_weighTable 141 = .ok (.iconst 1, 1) := by decide +kernel
theorem dX5_weighTable_142 : decode cX5_weighTable 142 = .ok (.iload_n 2, 1) := by decide +kernel
theorem dX5_weighTable_143 : decode cX5_weighTable 143 = .ok (.ishl, 1) := by decide +kernel
theorem dX5_weighTable_144 : decode cX5_weighTable 144 = .ok (.if_icmp .ge 33, 3) := by decide +kernel
theorem dX5_weighTable_147 : decode cX5_weighTable 147 = .ok (.iload 4, 2) := by decide +kernel
theorem dX5_weighTable_149 : decode cX5_weighTable 149 = .ok (.invokestatic 105, 3) := by decide +kernel
theorem dX5_weighTable_152 : decode cX5_weighTable 152 = .ok (.iload_n 3, 1) := by decide +kernel
theorem dX5_weighTable_153 : decode cX5_weighTable 153 = .ok (.if_icmp .ne 18, 3) := by decide +kernel
theorem dX5_weighTable_156 : decode cX5_weighTable 156 = .ok (.aload_n 0, 1) := by decide +kernel
theorem dX5_weighTable_157 : decode cX5_weighTable 157 = .ok (.getfield 24, 3) := by decide +kernel
theorem dX5_weighTable_160 : decode cX5_weighTable 160 = .ok (.iload 4, 2) := by decide +kernel
theorem dX5_weighTable_162 : decode cX5_weighTable 162 = .ok (.aload_n 0, 1) := by decide +kernel
theorem dX5_weighTable_163 : decode cX5_weighTable 163 = .ok (.iload_n 1, 1) := by decide +kernel
theorem dX5_weighTable_164 : decode cX5_weighTable 164 = .ok (.iload 4, 2) := by decide +kernel
theorem dX5_weighTable_166 : decode cX5_weighTable 166 = .ok (.iload_n 2, 1) := by decide +kernel
theorem dX5_weighTable_167 : decode cX5_weighTable 167 = .ok (.invokevirtual 136, 3) := by decide +kernel
theorem dX5_weighTable_170 : decode cX5_weighTable 170 = .ok (.lastore, 1) := by decide +kernel
theorem dX5_weighTable_171 : decode cX5_weighTable 171 = .ok (.iinc 4 1, 3) := by decide +kernel
theorem dX5_weighTable_174 : decode cX5_weighTable 174 = .ok (.goto (-35), 3) := by decide +kernel
theorem dX5_weighTable_177 : decode cX5_weighTable 177 = .ok (.iinc 3 1, 3) := by decide +kernel
theorem dX5_weighTable_180 : decode cX5_weighTable 180 = .ok (.goto (-171), 3) := by decide +kernel
theorem dX5_weighTable_183 : decode cX5_weighTable 183 = .ok (.return_, 1) := by decide +kernel
theorem dX5_weigh_0 : decode cX5_weigh 0 = .ok (.iconst 0, 1) := by decide +kernel
theorem dX5_weigh_1 : decode cX5_weigh 1 = .ok (.istore 4, 2) := by decide +kernel
theorem dX5_weigh_3 : decode cX5_weigh 3 = .ok (.iconst 0, 1) := by decide +kernel
theorem dX5_weigh_4 : decode cX5_weigh 4 = .ok (.istore 5, 2) := by decide +kernel
theorem dX5_weigh_6 : decode cX5_weigh 6 = .ok (.iconst 0, 1) := by decide +kernel
theorem dX5_weigh_7 : decode cX5_weigh 7 = .ok (.istore 6, 2) := by decide +kernel
theorem dX5_weigh_9 : decode cX5_weigh 9 = .ok (.iload 6, 2) := by decide +kernel
theorem dX5_weigh_11 : decode cX5_weigh 11 = .ok (.iload_n 3, 1) := by decide +kernel
theorem dX5_weigh_12 : decode cX5_weigh 12 = .ok (.if_icmp .ge 44, 3) := by decide +kernel
theorem dX5_weigh_15 : decode cX5_weigh 15 = .ok (.iload_n 2, 1) := by decide +kernel
theorem dX5_weigh_16 : decode cX5_weigh 16 = .ok (.iconst 1, 1) := by decide +kernel
theorem dX5_weigh_17 : decode cX5_weigh 17 = .ok (.iload 6, 2) := by decide +kernel
theorem dX5_weigh_19 : decode cX5_weigh 19 = .ok (.ishl, 1) := by decide +kernel
theorem dX5_weigh_20 : decode cX5_weigh 20 = .ok (.iand, 1) := by decide +kernel
theorem dX5_weigh_21 : decode cX5_weigh 21 = .ok (.ifCond .eq 29, 3) := by decide +kernel
theorem dX5_weigh_24 : decode cX5_weigh 24 = .ok (.iload 4, 2) := by decide +kernel
theorem dX5_weigh_26 : decode cX5_weigh 26 = .ok (.aload_n 0, 1) := by decide +kernel
theorem dX5_weigh_27 : decode cX5_weigh 27 = .ok (.getfield 9, 3) := by decide +kernel
theorem dX5_weigh_30 : decode cX5_weigh 30 = .ok (.iload 6, 2) := by decide +kernel
theorem dX5_weigh_32 : decode cX5_weigh 32 = .ok (.iaload, 1) := by decide +kernel
theorem dX5_weigh_33 : decode cX5_weigh 33 = .ok (.iadd, 1) := by decide +kernel
theorem dX5_weigh_34 : decode cX5_weigh 34 = .ok (.istore 4, 2) := by decide +kernel
theorem dX5_weigh_36 : decode cX5_weigh 36 = .ok (.iload 5, 2) := by decide +kernel
theorem dX5_weigh_38 : decode cX5_weigh 38 = .ok (.iload_n 1, 1) := by decide +kernel
theorem dX5_weigh_39 : decode cX5_weigh 39 = .ok (.aload_n 0, 1) := by decide +kernel
theorem dX5_weigh_40 : decode cX5_weigh 40 = .ok (.getfield 21, 3) := by decide +kernel
theorem dX5_weigh_43 : decode cX5_weigh 43 = .ok (.iload 6, 2) := by decide +kernel
theorem dX5_weigh_45 : decode cX5_weigh 45 = .ok (.iaload, 1) := by decide +kernel
theorem dX5_weigh_46 : decode cX5_weigh 46 = .ok (.imul, 1) := by decide +kernel
theorem dX5_weigh_47 : decode cX5_weigh 47 = .ok (.iadd, 1) := by decide +kernel
theorem dX5_weigh_48 : decode cX5_weigh 48 = .ok (.istore 5, 2) := by decide +kernel
theorem dX5_weigh_50 : decode cX5_weigh 50 = .ok (.iinc 6 1, 3) := by decide +kernel
theorem dX5_weigh_53 : decode cX5_weigh 53 = .ok (.goto (-44), 3) := by decide +kernel
theorem dX5_weigh_56 : decode cX5_weigh 56 = .ok (.lconst 0, 1) := by decide +kernel
theorem dX5_weigh_57 : decode cX5_weigh 57 = .ok (.lstore 6, 2) := by decide +kernel
theorem dX5_weigh_59 : decode cX5_weigh 59 = .ok (.iconst 0, 1) := by decide +kernel
theorem dX5_weigh_60 : decode cX5_weigh 60 = .ok (.istore 8, 2) := by decide +kernel
theorem dX5_weigh_62 : decode cX5_weigh 62 = .ok (.iconst 0, 1) := by decide +kernel
theorem dX5_weigh_63 : decode cX5_weigh 63 = .ok (.istore 9, 2) := by decide +kernel
theorem dX5_weigh_65 : decode cX5_weigh 65 = .ok (.iload 9, 2) := by decide +kernel
theorem dX5_weigh_67 : decode cX5_weigh 67 = .ok (.iload_n 3, 1) := by decide +kernel
theorem dX5_weigh_68 : decode cX5_weigh 68 = .ok (.if_icmp .ge 95, 3) := by decide +kernel
theorem dX5_weigh_71 : decode cX5_weigh 71 = .ok (.iload_n 2, 1) := by decide +kernel
theorem dX5_weigh_72 : decode cX5_weigh 72 = .ok (.iconst 1, 1) := by decide +kernel
theorem dX5_weigh_73 : decode cX5_weigh 73 = .ok (.iload 9, 2) := by decide +kernel
theorem dX5_weigh_75 : decode cX5_weigh 75 = .ok (.ishl, 1) := by decide +kernel
theorem dX5_weigh_76 : decode cX5_weigh 76 = .ok (.iand, 1) := by decide +kernel
theorem dX5_weigh_77 : decode cX5_weigh 77 = .ok (.ifCond .eq 80, 3) := by decide +kernel
theorem dX5_weigh_80 : decode cX5_weigh 80 = .ok (.iconst 0, 1) := by decide +kernel
theorem dX5_weigh_81 : decode cX5_weigh 81 = .ok (.istore 10, 2) := by decide +kernel
theorem dX5_weigh_83 : decode cX5_weigh 83 = .ok (.iload 10, 2) := by decide +kernel
theorem dX5_weigh_85 : decode cX5_weigh 85 = .ok (.aload_n 0, 1) := by decide +kernel
theorem dX5_weigh_86 : decode cX5_weigh 86 = .ok (.getfield 15, 3) := by decide +kernel
theorem dX5_weigh_89 : decode cX5_weigh 89 = .ok (.iload 9, 2) := by decide +kernel
theorem dX5_weigh_91 : decode cX5_weigh 91 = .ok (.iaload, 1) := by decide +kernel
theorem dX5_weigh_92 : decode cX5_weigh 92 = .ok (.if_icmp .ge 27, 3) := by decide +kernel
theorem dX5_weigh_95 : decode cX5_weigh 95 = .ok (.aload_n 0, 1) := by decide +kernel
theorem dX5_weigh_96 : decode cX5_weigh 96 = .ok (.getfield 18, 3) := by decide +kernel
theorem dX5_weigh_99 : decode cX5_weigh 99 = .ok (.iload 9, 2) := by decide +kernel
theorem dX5_weigh_101 : decode cX5_weigh 101 = .ok (.bipush 8, 2) := by decide +kernel
theorem dX5_weigh_103 : decode cX5_weigh 103 = .ok (.imul, 1) := by decide +kernel
theorem dX5_weigh_104 : decode cX5_weigh 104 = .ok (.iload 10, 2) := by decide +kernel
theorem dX5_weigh_106 : decode cX5_weigh 106 = .ok (.iadd, 1) := by decide +kernel
theorem dX5_weigh_107 : decode cX5_weigh 107 = .ok (.iaload, 1) := by decide +kernel
theorem dX5_weigh_108 : decode cX5_weigh 108 = .ok (.iload 4, 2) := by decide +kernel
theorem dX5_weigh_110 : decode cX5_weigh 110 = .ok (.if_icmp .gt 9, 3) := by decide +kernel
theorem dX5_weigh_113 : decode cX5_weigh 113 = .ok (.iinc 10 1, 3) := by decide +kernel
theorem dX5_weigh_116 : decode cX5_weigh 116 = .ok (.goto (-33), 3) := by decide +kernel
theorem dX5_weigh_119 : decode cX5_weigh 119 = .ok (.lload 6, 2) := by decide +kernel
theorem dX5_weigh_121 : decode cX5_weigh 121 = .ok (.iload 10, 2) := by decide +kernel
theorem dX5_weigh_123 : decode cX5_weigh 123 = .ok (.i2l, 1) := by decide +kernel
theorem dX5_weigh_124 : decode cX5_weigh 124 = .ok (.ladd, 1) := by decide +kernel
theorem dX5_weigh_125 : decode cX5_weigh 125 = .ok (.lstore 6, 2) := by decide +kernel
theorem dX5_weigh_127 : decode cX5_weigh 127 = .ok (.iload 8, 2) := by decide +kernel
theorem dX5_weigh_129 : decode cX5_weigh 129 = .ok (.iload 10, 2) := by decide +kernel
theorem dX5_weigh_131 : decode cX5_weigh 131 = .ok (.aload_n 0, 1) := by decide +kernel
theorem dX5_weigh_132 : decode cX5_weigh 132 = .ok (.getfield 15, 3) := by decide +kernel
theorem dX5_weigh_135 : decode cX5_weigh 135 = .ok (.iload 9, 2) := by decide +kernel
theorem dX5_weigh_137 : decode cX5_weigh 137 = .ok (.iaload, 1) := by decide +kernel
theorem dX5_weigh_138 : decode cX5_weigh 138 = .ok (.if_icmp .ge 8, 3) := by decide +kernel
theorem dX5_weigh_141 : decode cX5_weigh 141 = .ok (.iload 4, 2) := by decide +kernel
theorem dX5_weigh_143 : decode cX5_weigh 143 = .ok (.goto 9, 3) := by decide +kernel
theorem dX5_weigh_146 : decode cX5_weigh 146 = .ok (.aload_n 0, 1) := by decide +kernel
theorem dX5_weigh_147 : decode cX5_weigh 147 = .ok (.iload 9, 2) := by decide +kernel
theorem dX5_weigh_149 : decode cX5_weigh 149 = .ok (.invokevirtual 140, 3) := by decide +kernel
theorem dX5_weigh_152 : decode cX5_weigh 152 = .ok (.invokestatic 143, 3) := by decide +kernel
theorem dX5_weigh_155 : decode cX5_weigh 155 = .ok (.istore 8, 2) := by decide +kernel
theorem dX5_weigh_157 : decode cX5_weigh 157 = .ok (.iinc 9 1, 3) := by decide +kernel
theorem dX5_weigh_160 : decode cX5_weigh 160 = .ok (.goto (-95), 3) := by decide +kernel
theorem dX5_weigh_163 : decode cX5_weigh 163 = .ok (.lload 6, 2) := by decide +kernel
theorem dX5_weigh_165 : decode cX5_weigh 165 = .ok (.ldc2_w 96, 3) := by decide +kernel
theorem dX5_weigh_168 : decode cX5_weigh 168 = .ok (.lmul, 1) := by decide +kernel
theorem dX5_weigh_169 : decode cX5_weigh 169 = .ok (.iload 4, 2) := by decide +kernel
theorem dX5_weigh_171 : decode cX5_weigh 171 = .ok (.i2l, 1) := by decide +kernel
theorem dX5_weigh_172 : decode cX5_weigh 172 = .ok (.ladd, 1) := by decide +kernel
theorem dX5_weigh_173 : decode cX5_weigh 173 = .ok (.iload 8, 2) := by decide +kernel
theorem dX5_weigh_175 : decode cX5_weigh 175 = .ok (.i2l, 1) := by decide +kernel
theorem dX5_weigh_176 : decode cX5_weigh 176 = .ok (.lsub, 1) := by decide +kernel
theorem dX5_weigh_177 : decode cX5_weigh 177 = .ok (.ldc2_w 88, 3) := by decide +kernel
theorem dX5_weigh_180 : decode cX5_weigh 180 = .ok (.lmul, 1) := by decide +kernel
theorem dX5_weigh_181 : decode cX5_weigh 181 = .ok (.iload 5, 2) := by decide +kernel
theorem dX5_weigh_183 : decode cX5_weigh 183 = .ok (.i2l, 1) := by decide +kernel
theorem dX5_weigh_184 : decode cX5_weigh 184 = .ok (.lsub, 1) := by decide +kernel
theorem dX5_weigh_185 : decode cX5_weigh 185 = .ok (.lreturn, 1) := by decide +kernel
theorem dX5_lastEnd_0 : decode cX5_lastEnd 0 = .ok (.aload_n 0, 1) := by decide +kernel
theorem dX5_lastEnd_1 : decode cX5_lastEnd 1 = .ok (.getfield 15, 3) := by decide +kernel
theorem dX5_lastEnd_4 : decode cX5_lastEnd 4 = .ok (.iload_n 1, 1) := by decide +kernel
theorem dX5_lastEnd_5 : decode cX5_lastEnd 5 = .ok (.iaload, 1) := by decide +kernel
theorem dX5_lastEnd_6 : decode cX5_lastEnd 6 = .ok (.ifCond .ne 7, 3) := by decide +kernel
theorem dX5_lastEnd_9 : decode cX5_lastEnd 9 = .ok (.iconst 0, 1) := by decide +kernel
theorem dX5_lastEnd_10 : decode cX5_lastEnd 10 = .ok (.goto 21, 3) := by decide +kernel
theorem dX5_lastEnd_13 : decode cX5_lastEnd 13 = .ok (.aload_n 0, 1) := by decide +kernel
theorem dX5_lastEnd_14 : decode cX5_lastEnd 14 = .ok (.getfield 18, 3) := by decide +kernel
theorem dX5_lastEnd_17 : decode cX5_lastEnd 17 = .ok (.iload_n 1, 1) := by decide +kernel
theorem dX5_lastEnd_18 : decode cX5_lastEnd 18 = .ok (.bipush 8, 2) := by decide +kernel
theorem dX5_lastEnd_20 : decode cX5_lastEnd 20 = .ok (.imul, 1) := by decide +kernel
theorem dX5_lastEnd_21 : decode cX5_lastEnd 21 = .ok (.aload_n 0, 1) := by decide +kernel
theorem dX5_lastEnd_22 : decode cX5_lastEnd 22 = .ok (.getfield 15, 3) := by decide +kernel
theorem dX5_lastEnd_25 : decode cX5_lastEnd 25 = .ok (.iload_n 1, 1) := by decide +kernel
theorem dX5_lastEnd_26 : decode cX5_lastEnd 26 = .ok (.iaload, 1) := by decide +kernel
theorem dX5_lastEnd_27 : decode cX5_lastEnd 27 = .ok (.iadd, 1) := by decide +kernel
theorem dX5_lastEnd_28 : decode cX5_lastEnd 28 = .ok (.iconst 1, 1) := by decide +kernel
theorem dX5_lastEnd_29 : decode cX5_lastEnd 29 = .ok (.isub, 1) := by decide +kernel
theorem dX5_lastEnd_30 : decode cX5_lastEnd 30 = .ok (.iaload, 1) := by decide +kernel
theorem dX5_lastEnd_31 : decode cX5_lastEnd 31 = .ok (.ireturn, 1) := by decide +kernel
theorem dX5_joinTable_0 : decode cX5_joinTable 0 = .ok (.iload_n 1, 1) := by decide +kernel
theorem dX5_joinTable_1 : decode cX5_joinTable 1 = .ok (.istore_n 2, 1) := by decide +kernel
theorem dX5_joinTable_2 : decode cX5_joinTable 2 = .ok (.iload_n 2, 1) := by decide +kernel
theorem dX5_joinTable_3 : decode cX5_joinTable 3 = .ok (.ifCond .le 66, 3) := by decide +kernel
theorem dX5_joinTable_6 : decode cX5_joinTable 6 = .ok (.aload_n 0, 1) := by decide +kernel
theorem dX5_joinTable_7 : decode cX5_joinTable 7 = .ok (.getfield 28, 3) := by decide +kernel
theorem dX5_joinTable_10 : decode cX5_joinTable 10 = .ok (.iload_n 2, 1) := by decide +kernel
theorem dX5_joinTable_11 : decode cX5_joinTable 11 = .ok (.laload, 1) := by decide +kernel
theorem dX5_joinTable_12 : decode cX5_joinTable 12 = .ok (.lstore_n 3, 1) := by decide +kernel
theorem dX5_joinTable_13 : decode cX5_joinTable 13 = .ok (.iload_n 2, 1) := by decide +kernel
theorem dX5_joinTable_14 : decode cX5_joinTable 14 = .ok (.istore 5, 2) := by decide +kernel
theorem dX5_joinTable_16 : decode cX5_joinTable 16 = .ok (.iload 5, 2) := by decide +kernel
theorem dX5_joinTable_18 : decode cX5_joinTable 18 = .ok (.ifCond .le 38, 3) := by decide +kernel
theorem dX5_joinTable_21 : decode cX5_joinTable 21 = .ok (.lload_n 3, 1) := by decide +kernel
theorem dX5_joinTable_22 : decode cX5_joinTable 22 = .ok (.aload_n 0, 1) := by decide +kernel
theorem dX5_joinTable_23 : decode cX5_joinTable 23 = .ok (.getfield 28, 3) := by decide +kernel
theorem dX5_joinTable_26 : decode cX5_joinTable 26 = .ok (.iload_n 2, 1) := by decide +kernel
theorem dX5_joinTable_27 : decode cX5_joinTable 27 = .ok (.iload 5, 2) := by decide +kernel
theorem dX5_joinTable_29 : decode cX5_joinTable 29 = .ok (.iconst (-1), 1) := by decide +kernel
theorem dX5_joinTable_30 : decode cX5_joinTable 30 = .ok (.ixor, 1) := by decide +kernel
theorem dX5_joinTable_31 : decode cX5_joinTable 31 = .ok (.iand, 1) := by decide +kernel
theorem dX5_joinTable_32 : decode cX5_joinTable 32 = .ok (.laload, 1) := by decide +kernel
theorem dX5_joinTable_33 : decode cX5_joinTable 33 = .ok (.aload_n 0, 1) := by decide +kernel
theorem dX5_joinTable_34 : decode cX5_joinTable 34 = .ok (.getfield 24, 3) := by decide +kernel
theorem dX5_joinTable_37 : decode cX5_joinTable 37 = .ok (.iload 5, 2) := by decide +kernel
theorem dX5_joinTable_39 : decode cX5_joinTable 39 = .ok (.laload, 1) := by decide +kernel
theorem dX5_joinTable_40 : decode cX5_joinTable 40 = .ok (.ladd, 1) := by decide +kernel
theorem dX5_joinTable_41 : decode cX5_joinTable 41 = .ok (.invokestatic 147, 3) := by decide +kernel
theorem dX5_joinTable_44 : decode cX5_joinTable 44 = .ok (.lstore_n 3, 1) := by decide +kernel
theorem dX5_joinTable_45 : decode cX5_joinTable 45 = .ok (.iload 5, 2) := by decide +kernel
theorem dX5_joinTable_47 : decode cX5_joinTable 47 = .ok (.iconst 1, 1) := by decide +kernel
theorem dX5_joinTable_48 : decode cX5_joinTable 48 = .ok (.isub, 1) := by decide +kernel
theorem dX5_joinTable_49 : decode cX5_joinTable 49 = .ok (.iload_n 2, 1) := by decide +kernel
theorem dX5_joinTable_50 : decode cX5_joinTable 50 = .ok (.iand, 1) := by decide +kernel
theorem dX5_joinTable_51 : decode cX5_joinTable 51 = .ok (.istore 5, 2) := by decide +kernel
theorem dX5_joinTable_53 : decode cX5_joinTable 53 = .ok (.goto (-37), 3) := by decide +kernel
theorem dX5_joinTable_56 : decode cX5_joinTable 56 = .ok (.aload_n 0, 1) := by decide +kernel
theorem dX5_joinTable_57 : decode cX5_joinTable 57 = .ok (.getfield 28, 3) := by decide +kernel
theorem dX5_joinTable_60 : decode cX5_joinTable 60 = .ok (.iload_n 2, 1) := by decide +kernel
theorem dX5_joinTable_61 : decode cX5_joinTable 61 = .ok (.lload_n 3, 1) := by decide +kernel
theorem dX5_joinTable_62 : decode cX5_joinTable 62 = .ok (.lastore, 1) := by decide +kernel
theorem dX5_joinTable_63 : decode cX5_joinTable 63 = .ok (.iinc 2 (-1), 3) := by decide +kernel
theorem dX5_joinTable_66 : decode cX5_joinTable 66 = .ok (.goto (-64), 3) := by decide +kernel
theorem dX5_joinTable_69 : decode cX5_joinTable 69 = .ok (.return_, 1) := by decide +kernel
theorem dX6_init_0 : decode cX6_init 0 = .ok (.aload_n 0, 1) := by decide +kernel
theorem dX6_init_1 : decode cX6_init 1 = .ok (.invokespecial 3, 3) := by decide +kernel
theorem dX6_init_4 : decode cX6_init 4 = .ok (.aload_n 0, 1) := by decide +kernel
theorem dX6_init_5 : decode cX6_init 5 = .ok (.iconst (-1), 1) := by decide +kernel
theorem dX6_init_6 : decode cX6_init 6 = .ok (.putfield 9, 3) := by decide +kernel
theorem dX6_init_9 : decode cX6_init 9 = .ok (.aload_n 0, 1) := by decide +kernel
theorem dX6_init_10 : decode cX6_init 10 = .ok (.bipush 8, 2) := by decide +kernel
theorem dX6_init_12 : decode cX6_init 12 = .ok (.newarray .int, 2) := by decide +kernel
theorem dX6_init_14 : decode cX6_init 14 = .ok (.putfield 15, 3) := by decide +kernel
theorem dX6_init_17 : decode cX6_init 17 = .ok (.aload_n 0, 1) := by decide +kernel
theorem dX6_init_18 : decode cX6_init 18 = .ok (.bipush 8, 2) := by decide +kernel
theorem dX6_init_20 : decode cX6_init 20 = .ok (.newarray .int, 2) := by decide +kernel
theorem dX6_init_22 : decode cX6_init 22 = .ok (.putfield 19, 3) := by decide +kernel
theorem dX6_init_25 : decode cX6_init 25 = .ok (.aload_n 0, 1) := by decide +kernel
theorem dX6_init_26 : decode cX6_init 26 = .ok (.bipush 8, 2) := by decide +kernel
theorem dX6_init_28 : decode cX6_init 28 = .ok (.newarray .int, 2) := by decide +kernel
theorem dX6_init_30 : decode cX6_init 30 = .ok (.putfield 22, 3) := by decide +kernel
theorem dX6_init_33 : decode cX6_init 33 = .ok (.aload_n 0, 1) := by decide +kernel
theorem dX6_init_34 : decode cX6_init 34 = .ok (.iconst 3, 1) := by decide +kernel
theorem dX6_init_35 : decode cX6_init 35 = .ok (.newarray .int, 2) := by decide +kernel
theorem dX6_init_37 : decode cX6_init 37 = .ok (.putfield 25, 3) := by decide +kernel
theorem dX6_init_40 : decode cX6_init 40 = .ok (.aload_n 0, 1) := by decide +kernel
theorem dX6_init_41 : decode cX6_init 41 = .ok (.bipush 42, 2) := by decide +kernel
theorem dX6_init_43 : decode cX6_init 43 = .ok (.newarray .int, 2) := by decide +kernel
theorem dX6_init_45 : decode cX6_init 45 = .ok (.putfield 28, 3) := by decide +kernel
theorem dX6_init_48 : decode cX6_init 48 = .ok (.aload_n 0, 1) := by decide +kernel
theorem dX6_init_49 : decode cX6_init 49 = .ok (.bipush 24, 2) := by decide +kernel
theorem dX6_init_51 : decode cX6_init 51 = .ok (.newarray .int, 2) := by decide +kernel
theorem dX6_init_53 : decode cX6_init 53 = .ok (.putfield 31, 3) := by decide +kernel
theorem dX6_init_56 : decode cX6_init 56 = .ok (.aload_n 0, 1) := by decide +kernel
theorem dX6_init_57 : decode cX6_init 57 = .ok (.iconst 3, 1) := by decide +kernel
theorem dX6_init_58 : decode cX6_init 58 = .ok (.newarray .int, 2) := by decide +kernel
theorem dX6_init_60 : decode cX6_init 60 = .ok (.putfield 34, 3) := by decide +kernel
theorem dX6_init_63 : decode cX6_init 63 = .ok (.aload_n 0, 1) := by decide +kernel
theorem dX6_init_64 : decode cX6_init 64 = .ok (.iconst 3, 1) := by decide +kernel
theorem dX6_init_65 : decode cX6_init 65 = .ok (.newarray .int, 2) := by decide +kernel
theorem dX6_init_67 : decode cX6_init 67 = .ok (.putfield 37, 3) := by decide +kernel
theorem dX6_init_70 : decode cX6_init 70 = .ok (.aload_n 0, 1) := by decide +kernel
theorem dX6_init_71 : decode cX6_init 71 = .ok (.aload_n 1, 1) := by decide +kernel
theorem dX6_init_72 : decode cX6_init 72 = .ok (.putfield 40, 3) := by decide +kernel
theorem dX6_init_75 : decode cX6_init 75 = .ok (.aload_n 0, 1) := by decide +kernel
theorem dX6_init_76 : decode cX6_init 76 = .ok (.aload_n 2, 1) := by decide +kernel
theorem dX6_init_77 : decode cX6_init 77 = .ok (.putfield 44, 3) := by decide +kernel
theorem dX6_init_80 : decode cX6_init 80 = .ok (.aload_n 0, 1) := by decide +kernel
theorem dX6_init_81 : decode cX6_init 81 = .ok (.aload_n 3, 1) := by decide +kernel
theorem dX6_init_82 : decode cX6_init 82 = .ok (.putfield 48, 3) := by decide +kernel
theorem dX6_init_85 : decode cX6_init 85 = .ok (.return_, 1) := by decide +kernel
theorem dX6_readerOf_0 : decode cX6_readerOf 0 = .ok (.iconst 0, 1) := by decide +kernel
theorem dX6_readerOf_1 : decode cX6_readerOf 1 = .ok (.istore_n 2, 1) := by decide +kernel
theorem dX6_readerOf_2 : decode cX6_readerOf 2 = .ok (.iload_n 2, 1) := by decide +kernel
theorem dX6_readerOf_3 : decode cX6_readerOf 3 = .ok (.aload_n 0, 1) := by decide +kernel
theorem dX6_readerOf_4 : decode cX6_readerOf 4 = .ok (.getfield 52, 3) := by decide +kernel
theorem dX6_readerOf_7 : decode cX6_readerOf 7 = .ok (.if_icmp .ge 26, 3) := by decide +kernel
theorem dX6_readerOf_10 : decode cX6_readerOf 10 = .ok (.aload_n 0, 1) := by decide +kernel
theorem dX6_readerOf_11 : decode cX6_readerOf 11 = .ok (.getfield 15, 3) := by decide +kernel
theorem dX6_readerOf_14 : decode cX6_readerOf 14 = .ok (.iload_n 2, 1) := by decide +kernel
theorem dX6_readerOf_15 : decode cX6_readerOf 15 = .ok (.iaload, 1) := by decide +kernel
theorem dX6_readerOf_16 : decode cX6_readerOf 16 = .ok (.iload_n 1, 1) := by decide +kernel
theorem dX6_readerOf_17 : decode cX6_readerOf 17 = .ok (.if_icmp .ne 10, 3) := by decide +kernel
theorem dX6_readerOf_20 : decode cX6_readerOf 20 = .ok (.aload_n 0, 1) := by decide +kernel
theorem dX6_readerOf_21 : decode cX6_readerOf 21 = .ok (.getfield 22, 3) := by decide +kernel
theorem dX6_readerOf_24 : decode cX6_readerOf 24 = .ok (.iload_n 2, 1) := by decide +kernel
theorem dX6_readerOf_25 : decode cX6_readerOf 25 = .ok (.iaload, 1) := by decide +kernel
theorem dX6_readerOf_26 : decode cX6_readerOf 26 = .ok (.ireturn, 1) := by decide +kernel
theorem dX6_readerOf_27 : decode cX6_readerOf 27 = .ok (.iinc 2 1, 3) := by decide +kernel
theorem dX6_readerOf_30 : decode cX6_readerOf 30 = .ok (.goto (-28), 3) := by decide +kernel
theorem dX6_readerOf_33 : decode cX6_readerOf 33 = .ok (.iconst (-1), 1) := by decide +kernel
theorem dX6_readerOf_34 : decode cX6_readerOf 34 = .ok (.ireturn, 1) := by decide +kernel
theorem dX6_find_0 : decode cX6_find 0 = .ok (.aload_n 0, 1) := by decide +kernel
theorem dX6_find_1 : decode cX6_find 1 = .ok (.getfield 9, 3) := by decide +kernel
theorem dX6_find_4 : decode cX6_find 4 = .ok (.aload_n 0, 1) := by decide +kernel
theorem dX6_find_5 : decode cX6_find 5 = .ok (.getfield 40, 3) := by decide +kernel
theorem dX6_find_8 : decode cX6_find 8 = .ok (.getfield 55, 3) := by decide +kernel
theorem dX6_find_11 : decode cX6_find 11 = .ok (.if_icmp .ne 12, 3) := by decide +kernel
theorem dX6_find_14 : decode cX6_find 14 = .ok (.aload_n 0, 1) := by decide +kernel
theorem dX6_find_15 : decode cX6_find 15 = .ok (.getfield 58, 3) := by decide +kernel
theorem dX6_find_18 : decode cX6_find 18 = .ok (.iload_n 1, 1) := by decide +kernel
theorem dX6_find_19 : decode cX6_find 19 = .ok (.if_icmp .ne 4, 3) := by decide +kernel
theorem dX6_find_22 : decode cX6_find 22 = .ok (.return_, 1) := by decide +kernel
theorem dX6_find_23 : decode cX6_find 23 = .ok (.aload_n 0, 1) := by decide +kernel
theorem dX6_find_24 : decode cX6_find 24 = .ok (.aload_n 0, 1) := by decide +kernel
theorem dX6_find_25 : decode cX6_find 25 = .ok (.getfield 40, 3) := by decide +kernel
theorem dX6_find_28 : decode cX6_find 28 = .ok (.getfield 55, 3) := by decide +kernel
theorem dX6_find_31 : decode cX6_find 31 = .ok (.putfield 9, 3) := by decide +kernel
theorem dX6_find_34 : decode cX6_find 34 = .ok (.aload_n 0, 1) := by decide +kernel
theorem dX6_find_35 : decode cX6_find 35 = .ok (.iload_n 1, 1) := by decide +kernel
theorem dX6_find_36 : decode cX6_find 36 = .ok (.putfield 58, 3) := by decide +kernel
theorem dX6_find_39 : decode cX6_find 39 = .ok (.aload_n 0, 1) := by decide +kernel
theorem dX6_find_40 : decode cX6_find 40 = .ok (.iconst 0, 1) := by decide +kernel
theorem dX6_find_41 : decode cX6_find 41 = .ok (.putfield 52, 3) := by decide +kernel
theorem dX6_find_44 : decode cX6_find 44 = .ok (.iconst 0, 1) := by decide +kernel
theorem dX6_find_45 : decode cX6_find 45 = .ok (.istore_n 2, 1) := by decide +kernel
theorem dX6_find_46 : decode cX6_find 46 = .ok (.iload_n 2, 1) := by decide +kernel
theorem dX6_find_47 : decode cX6_find 47 = .ok (.aload_n 0, 1) := by decide +kernel
theorem dX6_find_48 : decode cX6_find 48 = .ok (.getfield 40, 3) := by decide +kernel
theorem dX6_find_51 : decode cX6_find 51 = .ok (.getfield 61, 3) := by decide +kernel
theorem dX6_find_54 : decode cX6_find 54 = .ok (.getfield 65, 3) := by decide +kernel
theorem dX6_find_57 : decode cX6_find 57 = .ok (.iconst 1, 1) := by decide +kernel
theorem dX6_find_58 : decode cX6_find 58 = .ok (.iaload, 1) := by decide +kernel
theorem dX6_find_59 : decode cX6_find 59 = .ok (.if_icmp .ge 46, 3) := by decide +kernel
theorem dX6_find_62 : decode cX6_find 62 = .ok (.aload_n 0, 1) := by decide +kernel
theorem dX6_find_63 : decode cX6_find 63 = .ok (.getfield 52, 3) := by decide +kernel
theorem dX6_find_66 : decode cX6_find 66 = .ok (.bipush 8, 2) := by decide +kernel
theorem dX6_find_68 : decode cX6_find 68 = .ok (.if_icmp .ge 37, 3) := by decide +kernel
theorem dX6_find_71 : decode cX6_find 71 = .ok (.iload_n 1, 1) := by decide +kernel
theorem dX6_find_72 : decode cX6_find 72 = .ok (.iconst 1, 1) := by decide +kernel
theorem dX6_find_73 : decode cX6_find 73 = .ok (.iload_n 2, 1) := by decide +kernel
theorem dX6_find_74 : decode cX6_find 74 = .ok (.ishl, 1) := by decide +kernel
theorem dX6_find_75 : decode cX6_find 75 = .ok (.iand, 1) := by decide +kernel
theorem dX6_find_76 : decode cX6_find 76 = .ok (.ifCond .eq 23, 3) := by decide +kernel
theorem dX6_find_79 : decode cX6_find 79 = .ok (.aload_n 0, 1) := by decide +kernel
theorem dX6_find_80 : decode cX6_find 80 = .ok (.getfield 15, 3) := by decide +kernel
theorem dX6_find_83 : decode cX6_find 83 = .ok (.aload_n 0, 1) := by decide +kernel
theorem dX6_find_84 : decode cX6_find 84 = .ok (.getfield 52, 3) := by decide +kernel
theorem dX6_find_87 : decode cX6_find 87 = .ok (.iload_n 2, 1) := by decide +kernel
theorem dX6_find_88 : decode cX6_find 88 = .ok (.iastore, 1) := by decide +kernel
theorem dX6_find_89 : decode cX6_find 89 = .ok (.aload_n 0, 1) := by decide +kernel
theorem dX6_find_90 : decode cX6_find 90 = .ok (.dup, 1) := by decide +kernel
theorem dX6_find_91 : decode cX6_find 91 = .ok (.getfield 52, 3) := by decide +kernel
theorem dX6_find_94 : decode cX6_find 94 = .ok (.iconst 1, 1) := by decide +kernel
theorem dX6_find_95 : decode cX6_find 95 = .ok (.iadd, 1) := by decide +kernel
theorem dX6_find_96 : decode cX6_find 96 = .ok (.putfield 52, 3) := by decide +kernel
theorem dX6_find_99 : decode cX6_find 99 = .ok (.iinc 2 1, 3) := by decide +kernel
theorem dX6_find_102 : decode cX6_find 102 = .ok (.goto (-56), 3) := by decide +kernel
theorem dX6_find_105 : decode cX6_find 105 = .ok (.aload_n 0, 1) := by decide +kernel
theorem dX6_find_106 : decode cX6_find 106 = .ok (.iconst 3, 1) := by decide +kernel
theorem dX6_find_107 : decode cX6_find 107 = .ok (.aload_n 0, 1) := by decide +kernel
theorem dX6_find_108 : decode cX6_find 108 = .ok (.getfield 40, 3) := by decide +kernel
theorem dX6_find_111 : decode cX6_find 111 = .ok (.getfield 61, 3) := by decide +kernel
theorem dX6_find_114 : decode cX6_find 114 = .ok (.getfield 65, 3) := by decide +kernel
theorem dX6_find_117 : decode cX6_find 117 = .ok (.iconst 2, 1) := by decide +kernel
theorem dX6_find_118 : decode cX6_find 118 = .ok (.iaload, 1) := by decide +kernel
theorem dX6_find_119 : decode cX6_find 119 = .ok (.invokestatic 70, 3) := by decide +kernel
theorem dX6_find_122 : decode cX6_find 122 = .ok (.putfield 76, 3) := by decide +kernel
theorem dX6_find_125 : decode cX6_find 125 = .ok (.iconst 0, 1) := by decide +kernel
theorem dX6_find_126 : decode cX6_find 126 = .ok (.istore_n 2, 1) := by decide +kernel
theorem dX6_find_127 : decode cX6_find 127 = .ok (.iload_n 2, 1) := by decide +kernel
theorem dX6_find_128 : decode cX6_find 128 = .ok (.aload_n 0, 1) := by decide +kernel
theorem dX6_find_129 : decode cX6_find 129 = .ok (.getfield 76, 3) := by decide +kernel
theorem dX6_find_132 : decode cX6_find 132 = .ok (.if_icmp .ge 14, 3) := by decide +kernel
theorem dX6_find_135 : decode cX6_find 135 = .ok (.aload_n 0, 1) := by decide +kernel
theorem dX6_find_136 : decode cX6_find 136 = .ok (.iload_n 2, 1) := by decide +kernel
theorem dX6_find_137 : decode cX6_find 137 = .ok (.invokevirtual 79, 3) := by decide +kernel
theorem dX6_find_140 : decode cX6_find 140 = .ok (.iinc 2 1, 3) := by decide +kernel
theorem dX6_find_143 : decode cX6_find 143 = .ok (.goto (-16), 3) := by decide +kernel
theorem dX6_find_146 : decode cX6_find 146 = .ok (.aload_n 0, 1) := by decide +kernel
theorem dX6_find_147 : decode cX6_find 147 = .ok (.iconst (-1), 1) := by decide +kernel
theorem dX6_find_148 : decode cX6_find 148 = .ok (.putfield 83, 3) := by decide +kernel
theorem dX6_find_151 : decode cX6_find 151 = .ok (.aload_n 0, 1) := by decide +kernel
theorem dX6_find_152 : decode cX6_find 152 = .ok (.iconst 0, 1) := by decide +kernel
theorem dX6_find_153 : decode cX6_find 153 = .ok (.putfield 86, 3) := by decide +kernel
theorem dX6_find_156 : decode cX6_find 156 = .ok (.aload_n 0, 1) := by decide +kernel
theorem dX6_find_157 : decode cX6_find 157 = .ok (.iconst 0, 1) := by decide +kernel
theorem dX6_find_158 : decode cX6_find 158 = .ok (.iconst 0, 1) := by decide +kernel
theorem dX6_find_159 : decode cX6_find 159 = .ok (.iconst 0, 1) := by decide +kernel
theorem dX6_find_160 : decode cX6_find 160 = .ok (.invokestatic 89, 3) := by decide +kernel
theorem dX6_find_163 : decode cX6_find 163 = .ok (.return_, 1) := by decide +kernel
theorem dX6_measure_0 : decode cX6_measure 0 = .ok (.aload_n 0, 1) := by decide +kernel
theorem dX6_measure_1 : decode cX6_measure 1 = .ok (.getfield 40, 3) := by decide +kernel
theorem dX6_measure_4 : decode cX6_measure 4 = .ok (.iload_n 1, 1) := by decide +kernel
theorem dX6_measure_5 : decode cX6_measure 5 = .ok (.iconst 0, 1) := by decide +kernel
theorem dX6_measure_6 : decode cX6_measure 6 = .ok (.invokevirtual 93, 3) := by decide +kernel
theorem dX6_measure_9 : decode cX6_measure 9 = .ok (.istore_n 2, 1) := by decide +kernel
theorem dX6_measure_10 : decode cX6_measure 10 = .ok (.aload_n 0, 1) := by decide +kernel
theorem dX6_measure_11 : decode cX6_measure 11 = .ok (.getfield 25, 3) := by decide +kernel
theorem dX6_measure_14 : decode cX6_measure 14 = .ok (.iload_n 1, 1) := by decide +kernel
theorem dX6_measure_15 : decode cX6_measure 15 = .ok (.aload_n 0, 1) := by decide +kernel
theorem dX6_measure_16 : decode cX6_measure 16 = .ok (.getfield 44, 3) := by decide +kernel
theorem dX6_measure_19 : decode cX6_measure 19 = .ok (.iload_n 2, 1) := by decide +kernel
theorem dX6_measure_20 : decode cX6_measure 20 = .ok (.aload_n 0, 1) := by decide +kernel
theorem dX6_measure_21 : decode cX6_measure 21 = .ok (.getfield 40, 3) := by decide +kernel
theorem dX6_measure_24 : decode cX6_measure 24 = .ok (.getfield 61, 3) := by decide +kernel
theorem dX6_measure_27 : decode cX6_measure 27 = .ok (.getfield 96, 3) := by decide +kernel
theorem dX6_measure_30 : decode cX6_measure 30 = .ok (.iload_n 2, 1) := by decide +kernel
theorem dX6_measure_31 : decode cX6_measure 31 = .ok (.iaload, 1) := by decide +kernel
theorem dX6_measure_32 : decode cX6_measure 32 = .ok (.invokevirtual 99, 3) := by decide +kernel
theorem dX6_measure_35 : decode cX6_measure 35 = .ok (.iastore, 1) := by decide +kernel
theorem dX6_measure_36 : decode cX6_measure 36 = .ok (.aload_n 0, 1) := by decide +kernel
theorem dX6_measure_37 : decode cX6_measure 37 = .ok (.getfield 34, 3) := by decide +kernel
theorem dX6_measure_40 : decode cX6_measure 40 = .ok (.iload_n 1, 1) := by decide +kernel
theorem dX6_measure_41 : decode cX6_measure 41 = .ok (.iconst 0, 1) := by decide +kernel
theorem dX6_measure_42 : decode cX6_measure 42 = .ok (.iastore, 1) := by decide +kernel
theorem dX6_measure_43 : decode cX6_measure 43 = .ok (.aload_n 0, 1) := by decide +kernel
theorem dX6_measure_44 : decode cX6_measure 44 = .ok (.getfield 37, 3) := by decide +kernel
theorem dX6_measure_47 : decode cX6_measure 47 = .ok (.iload_n 1, 1) := by decide +kernel
theorem dX6_measure_48 : decode cX6_measure 48 = .ok (.iconst 0, 1) := by decide +kernel
theorem dX6_measure_49 : decode cX6_measure 49 = .ok (.iastore, 1) := by decide +kernel
theorem dX6_measure_50 : decode cX6_measure 50 = .ok (.aload_n 0, 1) := by decide +kernel
theorem dX6_measure_51 : decode cX6_measure 51 = .ok (.getfield 44, 3) := by decide +kernel
theorem dX6_measure_54 : decode cX6_measure 54 = .ok (.iload_n 1, 1) := by decide +kernel
theorem dX6_measure_55 : decode cX6_measure 55 = .ok (.invokevirtual 104, 3) := by decide +kernel
theorem dX6_measure_58 : decode cX6_measure 58 = .ok (.iconst 0, 1) := by decide +kernel
theorem dX6_measure_59 : decode cX6_measure 59 = .ok (.istore_n 3, 1) := by decide +kernel
theorem dX6_measure_60 : decode cX6_measure 60 = .ok (.iload_n 3, 1) := by decide +kernel
theorem dX6_measure_61 : decode cX6_measure 61 = .ok (.aload_n 0, 1) := by decide +kernel
theorem dX6_measure_62 : decode cX6_measure 62 = .ok (.getfield 40, 3) := by decide +kernel
theorem dX6_measure_65 : decode cX6_measure 65 = .ok (.getfield 61, 3) := by decide +kernel
theorem dX6_measure_68 : decode cX6_measure 68 = .ok (.getfield 65, 3) := by decide +kernel
theorem dX6_measure_71 : decode cX6_measure 71 = .ok (.iconst 1, 1) := by decide +kernel
theorem dX6_measure_72 : decode cX6_measure 72 = .ok (.iaload, 1) := by decide +kernel
theorem dX6_measure_73 : decode cX6_measure 73 = .ok (.if_icmp .ge 28, 3) := by decide +kernel
theorem dX6_measure_76 : decode cX6_measure 76 = .ok (.aload_n 0, 1) := by decide +kernel
theorem dX6_measure_77 : decode cX6_measure 77 = .ok (.getfield 28, 3) := by decide +kernel
theorem dX6_measure_80 : decode cX6_measure 80 = .ok (.iload_n 1, 1) := by decide +kernel
theorem dX6_measure_81 : decode cX6_measure 81 = .ok (.bipush 14, 2) := by decide +kernel
theorem dX6_measure_83 : decode cX6_measure 83 = .ok (.imul, 1) := by decide +kernel
theorem dX6_measure_84 : decode cX6_measure 84 = .ok (.iload_n 3, 1) := by decide +kernel
theorem dX6_measure_85 : decode cX6_measure 85 = .ok (.iadd, 1) := by decide +kernel
theorem dX6_measure_86 : decode cX6_measure 86 = .ok (.aload_n 0, 1) := by decide +kernel
theorem dX6_measure_87 : decode cX6_measure 87 = .ok (.getfield 44, 3) := by decide +kernel
theorem dX6_measure_90 : decode cX6_measure 90 = .ok (.iload_n 3, 1) := by decide +kernel
theorem dX6_measure_91 : decode cX6_measure 91 = .ok (.invokevirtual 107, 3) := by decide +kernel
theorem dX6_measure_94 : decode cX6_measure 94 = .ok (.iastore, 1) := by decide +kernel
theorem dX6_measure_95 : decode cX6_measure 95 = .ok (.iinc 3 1, 3) := by decide +kernel
theorem dX6_measure_98 : decode cX6_measure 98 = .ok (.goto (-38), 3) := by decide +kernel
theorem dX6_measure_101 : decode cX6_measure 101 = .ok (.iconst 0, 1) := by decide +kernel
theorem dX6_measure_102 : decode cX6_measure 102 = .ok (.istore_n 3, 1) := by decide +kernel
theorem dX6_measure_103 : decode cX6_measure 103 = .ok (.iload_n 3, 1) := by decide +kernel
theorem dX6_measure_104 : decode cX6_measure 104 = .ok (.aload_n 0, 1) := by decide +kernel
theorem dX6_measure_105 : decode cX6_measure 105 = .ok (.getfield 52, 3) := by decide +kernel
theorem dX6_measure_108 : decode cX6_measure 108 = .ok (.if_icmp .ge 37, 3) := by decide +kernel
theorem dX6_measure_111 : decode cX6_measure 111 = .ok (.aload_n 0, 1) := by decide +kernel
theorem dX6_measure_112 : decode cX6_measure 112 = .ok (.getfield 31, 3) := by decide +kernel
theorem dX6_measure_115 : decode cX6_measure 115 = .ok (.iload_n 1, 1) := by decide +kernel
theorem dX6_measure_116 : decode cX6_measure 116 = .ok (.bipush 8, 2) := by decide +kernel
theorem dX6_measure_118 : decode cX6_measure 118 = .ok (.imul, 1) := by decide +kernel
theorem dX6_measure_119 : decode cX6_measure 119 = .ok (.iload_n 3, 1) := by decide +kernel
theorem dX6_measure_120 : decode cX6_measure 120 = .ok (.iadd, 1) := by decide +kernel
theorem dX6_measure_121 : decode cX6_measure 121 = .ok (.aload_n 0, 1) := by decide +kernel
theorem dX6_measure_122 : decode cX6_measure 122 = .ok (.getfield 48, 3) := by decide +kernel
theorem dX6_measure_125 : decode cX6_measure 125 = .ok (.iload_n 1, 1) := by decide +kernel
theorem dX6_measure_126 : decode cX6_measure 126 = .ok (.iconst 1, 1) := by decide +kernel
theorem dX6_measure_127 : decode cX6_measure 127 = .ok (.aload_n 0, 1) := by decide +kernel
theorem dX6_measure_128 : decode cX6_measure 128 = .ok (.getfield 15, 3) := by decide +kernel
theorem dX6_measure_131 : decode cX6_measure 131 = .ok (.iload_n 3, 1) := by decide +kernel
theorem dX6_measure_132 : decode cX6_measure 132 = .ok (.iaload, 1) := by decide +kernel
theorem dX6_measure_133 : decode cX6_measure 133 = .ok (.ishl, 1) := by decide +kernel
theorem dX6_measure_134 : decode cX6_measure 134 = .ok (.iconst (-1), 1) := by decide +kernel
theorem dX6_measure_135 : decode cX6_measure 135 = .ok (.invokevirtual 111, 3) := by decide +kernel
theorem dX6_measure_138 : decode cX6_measure 138 = .ok (.iastore, 1) := by decide +kernel
theorem dX6_measure_139 : decode cX6_measure 139 = .ok (.iinc 3 1, 3) := by decide +kernel
theorem dX6_measure_142 : decode cX6_measure 142 = .ok (.goto (-39), 3) := by decide +kernel
theorem dX6_measure_145 : decode cX6_measure 145 = .ok (.return_, 1) := by decide +kernel
theorem dX6_share_0 : decode cX6_share 0 = .ok (.aload_n 0, 1) := by decide +kernel
theorem dX6_share_1 : decode cX6_share 1 = .ok (.iload_n 2, 1) := by decide +kernel
theorem dX6_share_2 : decode cX6_share 2 = .ok (.iload_n 3, 1) := by decide +kernel
theorem dX6_share_3 : decode cX6_share 3 = .ok (.invokevirtual 117, 3) := by decide +kernel
theorem dX6_share_6 : decode cX6_share 6 = .ok (.ifCond .eq 4, 3) := by decide +kernel
theorem dX6_share_9 : decode cX6_share 9 = .ok (.return_, 1) := by decide +kernel
theorem dX6_share_10 : decode cX6_share 10 = .ok (.iload_n 1, 1) := by decide +kernel
theorem dX6_share_11 : decode cX6_share 11 = .ok (.aload_n 0, 1) := by decide +kernel
theorem dX6_share_12 : decode cX6_share 12 = .ok (.getfield 52, 3) := by decide +kernel
theorem dX6_share_15 : decode cX6_share 15 = .ok (.if_icmp .lt 10, 3) := by decide +kernel
theorem dX6_share_18 : decode cX6_share 18 = .ok (.aload_n 0, 1) := by decide +kernel
theorem dX6_share_19 : decode cX6_share 19 = .ok (.iload_n 2, 1) := by decide +kernel
theorem dX6_share_20 : decode cX6_share 20 = .ok (.iload_n 3, 1) := by decide +kernel
theorem dX6_share_21 : decode cX6_share 21 = .ok (.invokevirtual 121, 3) := by decide +kernel
theorem dX6_share_24 : decode cX6_share 24 = .ok (.return_, 1) := by decide +kernel
theorem dX6_share_25 : decode cX6_share 25 = .ok (.iconst 0, 1) := by decide +kernel
theorem dX6_share_26 : decode cX6_share 26 = .ok (.istore 4, 2) := by decide +kernel
theorem dX6_share_28 : decode cX6_share 28 = .ok (.iload 4, 2) := by decide +kernel
theorem dX6_share_30 : decode cX6_share 30 = .ok (.aload_n 0, 1) := by decide +kernel
theorem dX6_share_31 : decode cX6_share 31 = .ok (.getfield 76, 3) := by decide +kernel
theorem dX6_share_34 : decode cX6_share 34 = .ok (.if_icmp .ge 146, 3) := by decide +kernel
theorem dX6_share_37 : decode cX6_share 37 = .ok (.aload_n 0, 1) := by decide +kernel
theorem dX6_share_38 : decode cX6_share 38 = .ok (.getfield 34, 3) := by decide +kernel
theorem dX6_share_41 : decode cX6_share 41 = .ok (.iload 4, 2) := by decide +kernel
theorem dX6_share_43 : decode cX6_share 43 = .ok (.iaload, 1) := by decide +kernel
theorem dX6_share_44 : decode cX6_share 44 = .ok (.istore 5, 2) := by decide +kernel
theorem dX6_share_46 : decode cX6_share 46 = .ok (.aload_n 0, 1) := by decide +kernel
theorem dX6_share_47 : decode cX6_share 47 = .ok (.getfield 37, 3) := by decide +kernel
theorem dX6_share_50 : decode cX6_share 50 = .ok (.iload 4, 2) := by decide +kernel
theorem dX6_share_52 : decode cX6_share 52 = .ok (.iaload, 1) := by decide +kernel
theorem dX6_share_53 : decode cX6_share 53 = .ok (.istore 6, 2) := by decide +kernel
theorem dX6_share_55 : decode cX6_share 55 = .ok (.aload_n 0, 1) := by decide +kernel
theorem dX6_share_56 : decode cX6_share 56 = .ok (.getfield 31, 3) := by decide +kernel
theorem dX6_share_59 : decode cX6_share 59 = .ok (.iload 4, 2) := by decide +kernel
theorem dX6_share_61 : decode cX6_share 61 = .ok (.bipush 8, 2) := by decide +kernel
theorem dX6_share_63 : decode cX6_share 63 = .ok (.imul, 1) := by decide +kernel
theorem dX6_share_64 : decode cX6_share 64 = .ok (.iload_n 1, 1) := by decide +kernel
theorem dX6_share_65 : decode cX6_share 65 = .ok (.iadd, 1) := by decide +kernel
theorem dX6_share_66 : decode cX6_share 66 = .ok (.iaload, 1) := by decide +kernel
theorem dX6_share_67 : decode cX6_share 67 = .ok (.iload 5, 2) := by decide +kernel
theorem dX6_share_69 : decode cX6_share 69 = .ok (.iconst (-1), 1) := by decide +kernel
theorem dX6_share_70 : decode cX6_share 70 = .ok (.ixor, 1) := by decide +kernel
theorem dX6_share_71 : decode cX6_share 71 = .ok (.iand, 1) := by decide +kernel
theorem dX6_share_72 : decode cX6_share 72 = .ok (.istore 7, 2) := by decide +kernel
theorem dX6_share_74 : decode cX6_share 74 = .ok (.aload_n 0, 1) := by decide +kernel
theorem dX6_share_75 : decode cX6_share 75 = .ok (.iload 4, 2) := by decide +kernel
theorem dX6_share_77 : decode cX6_share 77 = .ok (.iload 7, 2) := by decide +kernel
theorem dX6_share_79 : decode cX6_share 79 = .ok (.invokevirtual 125, 3) := by decide +kernel
theorem dX6_share_82 : decode cX6_share 82 = .ok (.istore 8, 2) := by decide +kernel
theorem dX6_share_84 : decode cX6_share 84 = .ok (.iload 6, 2) := by decide +kernel
theorem dX6_share_86 : decode cX6_share 86 = .ok (.iload 8, 2) := by decide +kernel
theorem dX6_share_88 : decode cX6_share 88 = .ok (.iadd, 1) := by decide +kernel
theorem dX6_share_89 : decode cX6_share 89 = .ok (.aload_n 0, 1) := by decide +kernel
theorem dX6_share_90 : decode cX6_share 90 = .ok (.getfield 25, 3) := by decide +kernel
theorem dX6_share_93 : decode cX6_share 93 = .ok (.iload 4, 2) := by decide +kernel
theorem dX6_share_95 : decode cX6_share 95 = .ok (.iaload, 1) := by decide +kernel
theorem dX6_share_96 : decode cX6_share 96 = .ok (.invokestatic 128, 3) := by decide +kernel
theorem dX6_share_99 : decode cX6_share 99 = .ok (.istore 9, 2) := by decide +kernel
theorem dX6_share_101 : decode cX6_share 101 = .ok (.iload 9, 2) := by decide +kernel
theorem dX6_share_103 : decode cX6_share 103 = .ok (.iconst (-1), 1) := by decide +kernel
theorem dX6_share_104 : decode cX6_share 104 = .ok (.if_icmp .eq 70, 3) := by decide +kernel
theorem dX6_share_107 : decode cX6_share 107 = .ok (.aload_n 0, 1) := by decide +kernel
theorem dX6_share_108 : decode cX6_share 108 = .ok (.getfield 19, 3) := by decide +kernel
theorem dX6_share_111 : decode cX6_share 111 = .ok (.iload_n 1, 1) := by decide +kernel
theorem dX6_share_112 : decode cX6_share 112 = .ok (.iload 4, 2) := by decide +kernel
theorem dX6_share_114 : decode cX6_share 114 = .ok (.iastore, 1) := by decide +kernel
theorem dX6_share_115 : decode cX6_share 115 = .ok (.aload_n 0, 1) := by decide +kernel
theorem dX6_share_116 : decode cX6_share 116 = .ok (.getfield 34, 3) := by decide +kernel
theorem dX6_share_119 : decode cX6_share 119 = .ok (.iload 4, 2) := by decide +kernel
theorem dX6_share_121 : decode cX6_share 121 = .ok (.iload 5, 2) := by decide +kernel
theorem dX6_share_123 : decode cX6_share 123 = .ok (.iload 7, 2) := by decide +kernel
theorem dX6_share_125 : decode cX6_share 125 = .ok (.ior, 1) := by decide +kernel
theorem dX6_share_126 : decode cX6_share 126 = .ok (.iastore, 1) := by decide +kernel
theorem dX6_share_127 : decode cX6_share 127 = .ok (.aload_n 0, 1) := by decide +kernel
theorem dX6_share_128 : decode cX6_share 128 = .ok (.getfield 37, 3) := by decide +kernel
theorem dX6_share_131 : decode cX6_share 131 = .ok (.iload 4, 2) := by decide +kernel
theorem dX6_share_133 : decode cX6_share 133 = .ok (.iload 6, 2) := by decide +kernel
theorem dX6_share_135 : decode cX6_share 135 = .ok (.iload 8, 2) := by decide +kernel
theorem dX6_share_137 : decode cX6_share 137 = .ok (.iadd, 1) := by decide +kernel
theorem dX6_share_138 : decode cX6_share 138 = .ok (.iastore, 1) := by decide +kernel
theorem dX6_share_139 : decode cX6_share 139 = .ok (.aload_n 0, 1) := by decide +kernel
theorem dX6_share_140 : decode cX6_share 140 = .ok (.iload_n 1, 1) := by decide +kernel
theorem dX6_share_141 : decode cX6_share 141 = .ok (.iconst 1, 1) := by decide +kernel
theorem dX6_share_142 : decode cX6_share 142 = .ok (.iadd, 1) := by decide +kernel
theorem dX6_share_143 : decode cX6_share 143 = .ok (.iload_n 2, 1) := by decide +kernel
theorem dX6_share_144 : decode cX6_share 144 = .ok (.iload 9, 2) := by decide +kernel
theorem dX6_share_146 : decode cX6_share 146 = .ok (.invokestatic 131, 3) := by decide +kernel
theorem dX6_share_149 : decode cX6_share 149 = .ok (.iload_n 3, 1) := by decide +kernel
theorem dX6_share_150 : decode cX6_share 150 = .ok (.iload 8, 2) := by decide +kernel
theorem dX6_share_152 : decode cX6_share 152 = .ok (.iadd, 1) := by decide +kernel
theorem dX6_share_153 : decode cX6_share 153 = .ok (.invokestatic 89, 3) := by decide +kernel
theorem dX6_share_156 : decode cX6_share 156 = .ok (.aload_n 0, 1) := by decide +kernel
theorem dX6_share_157 : decode cX6_share 157 = .ok (.getfield 34, 3) := by decide +kernel
theorem dX6_share_160 : decode cX6_share 160 = .ok (.iload 4, 2) := by decide +kernel
theorem dX6_share_162 : decode cX6_share 162 = .ok (.iload 5, 2) := by decide +kernel
theorem dX6_share_164 : decode cX6_share 164 = .ok (.iastore, 1) := by decide +kernel
theorem dX6_share_165 : decode cX6_share 165 = .ok (.aload_n 0, 1) := by decide +kernel
theorem dX6_share_166 : decode cX6_share 166 = .ok (.getfield 37, 3) := by decide +kernel
theorem dX6_share_169 : decode cX6_share 169 = .ok (.iload 4, 2) := by decide +kernel
theorem dX6_share_171 : decode cX6_share 171 = .ok (.iload 6, 2) := by decide +kernel
theorem dX6_share_173 : decode cX6_share 173 = .ok (.iastore, 1) := by decide +kernel
theorem dX6_share_174 : decode cX6_share 174 = .ok (.iinc 4 1, 3) := by decide +kernel
theorem dX6_share_177 : decode cX6_share 177 = .ok (.goto (-149), 3) := by decide +kernel
theorem dX6_share_180 : decode cX6_share 180 = .ok (.return_, 1) := by decide +kernel
theorem dX6_isNoBetter_0 : decode cX6_isNoBetter 0 = .ok (.aload_n 0, 1) := by decide +kernel
theorem dX6_isNoBetter_1 : decode cX6_isNoBetter 1 = .ok (.getfield 83, 3) := by decide +kernel
theorem dX6_isNoBetter_4 : decode cX6_isNoBetter 4 = .ok (.iconst (-1), 1) := by decide +kernel
theorem dX6_isNoBetter_5 : decode cX6_isNoBetter 5 = .ok (.if_icmp .eq 31, 3) := by decide +kernel
theorem dX6_isNoBetter_8 : decode cX6_isNoBetter 8 = .ok (.iload_n 1, 1) := by decide +kernel
theorem dX6_isNoBetter_9 : decode cX6_isNoBetter 9 = .ok (.aload_n 0, 1) := by decide +kernel
theorem dX6_isNoBetter_10 : decode cX6_isNoBetter 10 = .ok (.getfield 83, 3) := by decide +kernel
theorem dX6_isNoBetter_13 : decode cX6_isNoBetter 13 = .ok (.if_icmp .gt 19, 3) := by decide +kernel
theorem dX6_isNoBetter_16 : decode cX6_isNoBetter 16 = .ok (.iload_n 1, 1) := by decide +kernel
theorem dX6_isNoBetter_17 : decode cX6_isNoBetter 17 = .ok (.aload_n 0, 1) := by decide +kernel
theorem dX6_isNoBetter_18 : decode cX6_isNoBetter 18 = .ok (.getfield 83, 3) := by decide +kernel
theorem dX6_isNoBetter_21 : decode cX6_isNoBetter 21 = .ok (.if_icmp .ne 15, 3) := by decide +kernel
theorem dX6_isNoBetter_24 : decode cX6_isNoBetter 24 = .ok (.iload_n 2, 1) := by decide +kernel
theorem dX6_isNoBetter_25 : decode cX6_isNoBetter 25 = .ok (.aload_n 0, 1) := by decide +kernel
theorem dX6_isNoBetter_26 : decode cX6_isNoBetter 26 = .ok (.getfield 86, 3) := by decide +kernel
theorem dX6_isNoBetter_29 : decode cX6_isNoBetter 29 = .ok (.if_icmp .lt 7, 3) := by decide +kernel
theorem dX6_isNoBetter_32 : decode cX6_isNoBetter 32 = .ok (.iconst 1, 1) := by decide +kernel
theorem dX6_isNoBetter_33 : decode cX6_isNoBetter 33 = .ok (.goto 4, 3) := by decide +kernel
theorem dX6_isNoBetter_36 : decode cX6_isNoBetter 36 = .ok (.iconst 0, 1) := by decide +kernel
theorem dX6_isNoBetter_37 : decode cX6_isNoBetter 37 = .ok (.ireturn, 1) := by decide +kernel
theorem dX6_take_0 : decode cX6_take 0 = .ok (.aload_n 0, 1) := by decide +kernel
theorem dX6_take_1 : decode cX6_take 1 = .ok (.iload_n 1, 1) := by decide +kernel
theorem dX6_take_2 : decode cX6_take 2 = .ok (.putfield 83, 3) := by decide +kernel
theorem dX6_take_5 : decode cX6_take 5 = .ok (.aload_n 0, 1) := by decide +kernel
theorem dX6_take_6 : decode cX6_take 6 = .ok (.iload_n 2, 1) := by decide +kernel
theorem dX6_take_7 : decode cX6_take 7 = .ok (.putfield 86, 3) := by decide +kernel
theorem dX6_take_10 : decode cX6_take 10 = .ok (.aload_n 0, 1) := by decide +kernel
theorem dX6_take_11 : decode cX6_take 11 = .ok (.getfield 19, 3) := by decide +kernel
theorem dX6_take_14 : decode cX6_take 14 = .ok (.iconst 0, 1) := by decide +kernel
theorem dX6_take_15 : decode cX6_take 15 = .ok (.aload_n 0, 1) := by decide +kernel
theorem dX6_take_16 : decode cX6_take 16 = .ok (.getfield 22, 3) := by decide +kernel
theorem dX6_take_19 : decode cX6_take 19 = .ok (.iconst 0, 1) := by decide +kernel
theorem dX6_take_20 : decode cX6_take 20 = .ok (.bipush 8, 2) := by decide +kernel
theorem dX6_take_22 : decode cX6_take 22 = .ok (.invokestatic 134, 3) := by decide +kernel
theorem dX6_take_25 : decode cX6_take 25 = .ok (.return_, 1) := by decide +kernel
theorem dX6_minutesOf_0 : decode cX6_minutesOf 0 = .ok (.iconst 0, 1) := by decide +kernel
theorem dX6_minutesOf_1 : decode cX6_minutesOf 1 = .ok (.istore_n 3, 1) := by decide +kernel
theorem dX6_minutesOf_2 : decode cX6_minutesOf 2 = .ok (.iconst 0, 1) := by decide +kernel
theorem dX6_minutesOf_3 : decode cX6_minutesOf 3 = .ok (.istore 4, 2) := by decide +kernel
theorem dX6_minutesOf_5 : decode cX6_minutesOf 5 = .ok (.iload 4, 2) := by decide +kernel
theorem dX6_minutesOf_7 : decode cX6_minutesOf 7 = .ok (.aload_n 0, 1) := by decide +kernel
theorem dX6_minutesOf_8 : decode cX6_minutesOf 8 = .ok (.getfield 40, 3) := by decide +kernel
theorem dX6_minutesOf_11 : decode cX6_minutesOf 11 = .ok (.getfield 61, 3) := by decide +kernel
theorem dX6_minutesOf_14 : decode cX6_minutesOf 14 = .ok (.getfield 65, 3) := by decide +kernel
theorem dX6_minutesOf_17 : decode cX6_minutesOf 17 = .ok (.iconst 1, 1) := by decide +kernel
theorem dX6_minutesOf_18 : decode cX6_minutesOf 18 = .ok (.iaload, 1) := by decide +kernel
theorem dX6_minutesOf_19 : decode cX6_minutesOf 19 = .ok (.if_icmp .ge 33, 3) := by decide +kernel
theorem dX6_minutesOf_22 : decode cX6_minutesOf 22 = .ok (.iload_n 2, 1) := by decide +kernel
theorem dX6_minutesOf_23 : decode cX6_minutesOf 23 = .ok (.iconst 1, 1) := by decide +kernel
theorem dX6_minutesOf_24 : decode cX6_minutesOf 24 = .ok (.iload 4, 2) := by decide +kernel
theorem dX6_minutesOf_26 : decode cX6_minutesOf 26 = .ok (.ishl, 1) := by decide +kernel
theorem dX6_minutesOf_27 : decode cX6_minutesOf 27 = .ok (.iand, 1) := by decide +kernel
theorem dX6_minutesOf_28 : decode cX6_minutesOf 28 = .ok (.ifCond .eq 18, 3) := by decide +kernel
theorem dX6_minutesOf_31 : decode cX6_minutesOf 31 = .ok (.iload_n 3, 1) := by decide +kernel
theorem dX6_minutesOf_32 : decode cX6_minutesOf 32 = .ok (.aload_n 0, 1) := by decide +kernel
theorem dX6_minutesOf_33 : decode cX6_minutesOf 33 = .ok (.getfield 28, 3) := by decide +kernel
theorem dX6_minutesOf_36 : decode cX6_minutesOf 36 = .ok (.iload_n 1, 1) := by decide +kernel
theorem dX6_minutesOf_37 : decode cX6_minutesOf 37 = .ok (.bipush 14, 2) := by decide +kernel
theorem dX6_minutesOf_39 : decode cX6_minutesOf 39 = .ok (.imul, 1) := by decide +kernel
theorem dX6_minutesOf_40 : decode cX6_minutesOf 40 = .ok (.iload 4, 2) := by decide +kernel
theorem dX6_minutesOf_42 : decode cX6_minutesOf 42 = .ok (.iadd, 1) := by decide +kernel
theorem dX6_minutesOf_43 : decode cX6_minutesOf 43 = .ok (.iaload, 1) := by decide +kernel
theorem dX6_minutesOf_44 : decode cX6_minutesOf 44 = .ok (.iadd, 1) := by decide +kernel
theorem dX6_minutesOf_45 : decode cX6_minutesOf 45 = .ok (.istore_n 3, 1) := by decide +kernel
theorem dX6_minutesOf_46 : decode cX6_minutesOf 46 = .ok (.iinc 4 1, 3) := by decide +kernel
theorem dX6_minutesOf_49 : decode cX6_minutesOf 49 = .ok (.goto (-44), 3) := by decide +kernel
theorem dX6_minutesOf_52 : decode cX6_minutesOf 52 = .ok (.iload_n 3, 1) := by decide +kernel
theorem dX6_minutesOf_53 : decode cX6_minutesOf 53 = .ok (.ireturn, 1) := by decide +kernel
theorem dX7_init_0 : decode cX7_init 0 = .ok (.aload_n 0, 1) := by decide +kernel
theorem dX7_init_1 : decode cX7_init 1 = .ok (.invokespecial 3, 3) := by decide +kernel
theorem dX7_init_4 : decode cX7_init 4 = .ok (.aload_n 0, 1) := by decide +kernel
theorem dX7_init_5 : decode cX7_init 5 = .ok (.iconst 4, 1) := by decide +kernel
theorem dX7_init_6 : decode cX7_init 6 = .ok (.newarray .int, 2) := by decide +kernel
theorem dX7_init_8 : decode cX7_init 8 = .ok (.putfield 9, 3) := by decide +kernel
theorem dX7_init_11 : decode cX7_init 11 = .ok (.aload_n 0, 1) := by decide +kernel
theorem dX7_init_12 : decode cX7_init 12 = .ok (.sipush 180, 3) := by decide +kernel
theorem dX7_init_15 : decode cX7_init 15 = .ok (.newarray .int, 2) := by decide +kernel
theorem dX7_init_17 : decode cX7_init 17 = .ok (.putfield 15, 3) := by decide +kernel
theorem dX7_init_20 : decode cX7_init 20 = .ok (.aload_n 0, 1) := by decide +kernel
theorem dX7_init_21 : decode cX7_init 21 = .ok (.bipush 14, 2) := by decide +kernel
theorem dX7_init_23 : decode cX7_init 23 = .ok (.newarray .int, 2) := by decide +kernel
theorem dX7_init_25 : decode cX7_init 25 = .ok (.putfield 18, 3) := by decide +kernel
theorem dX7_init_28 : decode cX7_init 28 = .ok (.aload_n 0, 1) := by decide +kernel
theorem dX7_init_29 : decode cX7_init 29 = .ok (.bipush 14, 2) := by decide +kernel
theorem dX7_init_31 : decode cX7_init 31 = .ok (.newarray .int, 2) := by decide +kernel
theorem dX7_init_33 : decode cX7_init 33 = .ok (.putfield 21, 3) := by decide +kernel
theorem dX7_init_36 : decode cX7_init 36 = .ok (.aload_n 0, 1) := by decide +kernel
theorem dX7_init_37 : decode cX7_init 37 = .ok (.bipush 14, 2) := by decide +kernel
theorem dX7_init_39 : decode cX7_init 39 = .ok (.newarray .int, 2) := by decide +kernel
theorem dX7_init_41 : decode cX7_init 41 = .ok (.putfield 24, 3) := by decide +kernel
theorem dX7_init_44 : decode cX7_init 44 = .ok (.aload_n 0, 1) := by decide +kernel
theorem dX7_init_45 : decode cX7_init 45 = .ok (.bipush 14, 2) := by decide +kernel
theorem dX7_init_47 : decode cX7_init 47 = .ok (.newarray .int, 2) := by decide +kernel
theorem dX7_init_49 : decode cX7_init 49 = .ok (.putfield 27, 3) := by decide +kernel
theorem dX7_init_52 : decode cX7_init 52 = .ok (.aload_n 0, 1) := by decide +kernel
theorem dX7_init_53 : decode cX7_init 53 = .ok (.bipush 14, 2) := by decide +kernel
theorem dX7_init_55 : decode cX7_init 55 = .ok (.newarray .int, 2) := by decide +kernel
theorem dX7_init_57 : decode cX7_init 57 = .ok (.putfield 30, 3) := by decide +kernel
theorem dX7_init_60 : decode cX7_init 60 = .ok (.aload_n 0, 1) := by decide +kernel
theorem dX7_init_61 : decode cX7_init 61 = .ok (.bipush 6, 2) := by decide +kernel
theorem dX7_init_63 : decode cX7_init 63 = .ok (.newarray .int, 2) := by decide +kernel
theorem dX7_init_65 : decode cX7_init 65 = .ok (.putfield 33, 3) := by decide +kernel
theorem dX7_init_68 : decode cX7_init 68 = .ok (.aload_n 0, 1) := by decide +kernel
theorem dX7_init_69 : decode cX7_init 69 = .ok (.bipush 6, 2) := by decide +kernel
theorem dX7_init_71 : decode cX7_init 71 = .ok (.newarray .int, 2) := by decide +kernel
theorem dX7_init_73 : decode cX7_init 73 = .ok (.putfield 36, 3) := by decide +kernel
theorem dX7_init_76 : decode cX7_init 76 = .ok (.aload_n 0, 1) := by decide +kernel
theorem dX7_init_77 : decode cX7_init 77 = .ok (.iconst 5, 1) := by decide +kernel
theorem dX7_init_78 : decode cX7_init 78 = .ok (.newarray .int, 2) := by decide +kernel
theorem dX7_init_80 : decode cX7_init 80 = .ok (.putfield 39, 3) := by decide +kernel
theorem dX7_init_83 : decode cX7_init 83 = .ok (.aload_n 0, 1) := by decide +kernel
theorem dX7_init_84 : decode cX7_init 84 = .ok (.sipush 1600, 3) := by decide +kernel
theorem dX7_init_87 : decode cX7_init 87 = .ok (.newarray .int, 2) := by decide +kernel
theorem dX7_init_89 : decode cX7_init 89 = .ok (.putfield 42, 3) := by decide +kernel
theorem dX7_init_92 : decode cX7_init 92 = .ok (.aload_n 0, 1) := by decide +kernel
theorem dX7_init_93 : decode cX7_init 93 = .ok (.iconst 3, 1) := by decide +kernel
theorem dX7_init_94 : decode cX7_init 94 = .ok (.newarray .int, 2) := by decide +kernel
theorem dX7_init_96 : decode cX7_init 96 = .ok (.putfield 45, 3) := by decide +kernel
theorem dX7_init_99 : decode cX7_init 99 = .ok (.aload_n 0, 1) := by decide +kernel
theorem dX7_init_100 : decode cX7_init 100 = .ok (.iconst 3, 1) := by decide +kernel
theorem dX7_init_101 : decode cX7_init 101 = .ok (.newarray .int, 2) := by decide +kernel
theorem dX7_init_103 : decode cX7_init 103 = .ok (.putfield 48, 3) := by decide +kernel
theorem dX7_init_106 : decode cX7_init 106 = .ok (.aload_n 0, 1) := by decide +kernel
theorem dX7_init_107 : decode cX7_init 107 = .ok (.invokevirtual 51, 3) := by decide +kernel
theorem dX7_init_110 : decode cX7_init 110 = .ok (.return_, 1) := by decide +kernel
theorem dX7_clear_0 : decode cX7_clear 0 = .ok (.aload_n 0, 1) := by decide +kernel
theorem dX7_clear_1 : decode cX7_clear 1 = .ok (.getfield 9, 3) := by decide +kernel
theorem dX7_clear_4 : decode cX7_clear 4 = .ok (.iconst 0, 1) := by decide +kernel
theorem dX7_clear_5 : decode cX7_clear 5 = .ok (.invokestatic 54, 3) := by decide +kernel
theorem dX7_clear_8 : decode cX7_clear 8 = .ok (.aload_n 0, 1) := by decide +kernel
theorem dX7_clear_9 : decode cX7_clear 9 = .ok (.getfield 15, 3) := by decide +kernel
theorem dX7_clear_12 : decode cX7_clear 12 = .ok (.iconst 0, 1) := by decide +kernel
theorem dX7_clear_13 : decode cX7_clear 13 = .ok (.invokestatic 54, 3) := by decide +kernel
theorem dX7_clear_16 : decode cX7_clear 16 = .ok (.aload_n 0, 1) := by decide +kernel
theorem dX7_clear_17 : decode cX7_clear 17 = .ok (.getfield 24, 3) := by decide +kernel
theorem dX7_clear_20 : decode cX7_clear 20 = .ok (.iconst 0, 1) := by decide +kernel
theorem dX7_clear_21 : decode cX7_clear 21 = .ok (.invokestatic 54, 3) := by decide +kernel
theorem dX7_clear_24 : decode cX7_clear 24 = .ok (.aload_n 0, 1) := by decide +kernel
theorem dX7_clear_25 : decode cX7_clear 25 = .ok (.getfield 27, 3) := by decide +kernel
theorem dX7_clear_28 : decode cX7_clear 28 = .ok (.iconst 0, 1) := by decide +kernel
theorem dX7_clear_29 : decode cX7_clear 29 = .ok (.invokestatic 54, 3) := by decide +kernel
theorem dX7_clear_32 : decode cX7_clear 32 = .ok (.aload_n 0, 1) := by decide +kernel
theorem dX7_clear_33 : decode cX7_clear 33 = .ok (.getfield 48, 3) := by decide +kernel
theorem dX7_clear_36 : decode cX7_clear 36 = .ok (.iconst 0, 1) := by decide +kernel
theorem dX7_clear_37 : decode cX7_clear 37 = .ok (.invokestatic 54, 3) := by decide +kernel
theorem dX7_clear_40 : decode cX7_clear 40 = .ok (.aload_n 0, 1) := by decide +kernel
theorem dX7_clear_41 : decode cX7_clear 41 = .ok (.iconst 0, 1) := by decide +kernel
theorem dX7_clear_42 : decode cX7_clear 42 = .ok (.putfield 60, 3) := by decide +kernel
theorem dX7_clear_45 : decode cX7_clear 45 = .ok (.aload_n 0, 1) := by decide +kernel
theorem dX7_clear_46 : decode cX7_clear 46 = .ok (.iconst 0, 1) := by decide +kernel
theorem dX7_clear_47 : decode cX7_clear 47 = .ok (.putfield 64, 3) := by decide +kernel
theorem dX7_clear_50 : decode cX7_clear 50 = .ok (.aload_n 0, 1) := by decide +kernel
theorem dX7_clear_51 : decode cX7_clear 51 = .ok (.bipush 60, 2) := by decide +kernel
theorem dX7_clear_53 : decode cX7_clear 53 = .ok (.putfield 67, 3) := by decide +kernel
theorem dX7_clear_56 : decode cX7_clear 56 = .ok (.return_, 1) := by decide +kernel
theorem dX7_holds_0 : decode cX7_holds 0 = .ok (.iload_n 2, 1) := by decide +kernel
theorem dX7_holds_1 : decode cX7_holds 1 = .ok (.ifCond .lt 17, 3) := by decide +kernel
theorem dX7_holds_4 : decode cX7_holds 4 = .ok (.iload_n 2, 1) := by decide +kernel
theorem dX7_holds_5 : decode cX7_holds 5 = .ok (.aload_n 0, 1) := by decide +kernel
theorem dX7_holds_6 : decode cX7_holds 6 = .ok (.getfield 9, 3) := by decide +kernel
theorem dX7_holds_9 : decode cX7_holds 9 = .ok (.iload_n 1, 1) := by decide +kernel
theorem dX7_holds_10 : decode cX7_holds 10 = .ok (.iaload, 1) := by decide +kernel
theorem dX7_holds_11 : decode cX7_holds 11 = .ok (.if_icmp .ge 7, 3) := by decide +kernel
theorem dX7_holds_14 : decode cX7_holds 14 = .ok (.iconst 1, 1) := by decide +kernel
theorem dX7_holds_15 : decode cX7_holds 15 = .ok (.goto 4, 3) := by decide +kernel
theorem dX7_holds_18 : decode cX7_holds 18 = .ok (.iconst 0, 1) := by decide +kernel
theorem dX7_holds_19 : decode cX7_holds 19 = .ok (.ireturn, 1) := by decide +kernel
theorem dX7_isQuestion_0 : decode cX7_isQuestion 0 = .ok (.iload_n 1, 1) := by decide +kernel
theorem dX7_isQuestion_1 : decode cX7_isQuestion 1 = .ok (.ifCond .lt 19, 3) := by decide +kernel
theorem dX7_isQuestion_4 : decode cX7_isQuestion 4 = .ok (.iload_n 1, 1) := by decide +kernel
theorem dX7_isQuestion_5 : decode cX7_isQuestion 5 = .ok (.iconst 1, 1) := by decide +kernel
theorem dX7_isQuestion_6 : decode cX7_isQuestion 6 = .ok (.aload_n 0, 1) := by decide +kernel
theorem dX7_isQuestion_7 : decode cX7_isQuestion 7 = .ok (.getfield 9, 3) := by decide +kernel
theorem dX7_isQuestion_10 : decode cX7_isQuestion 10 = .ok (.iconst 1, 1) := by decide +kernel
theorem dX7_isQuestion_11 : decode cX7_isQuestion 11 = .ok (.iaload, 1) := by decide +kernel
theorem dX7_isQuestion_12 : decode cX7_isQuestion 12 = .ok (.ishl, 1) := by decide +kernel
theorem dX7_isQuestion_13 : decode cX7_isQuestion 13 = .ok (.if_icmp .ge 7, 3) := by decide +kernel
theorem dX7_isQuestion_16 : decode cX7_isQuestion 16 = .ok (.iconst 1, 1) := by decide +kernel
theorem dX7_isQuestion_17 : decode cX7_isQuestion 17 = .ok (.goto 4, 3) := by decide +kernel
theorem dX7_isQuestion_20 : decode cX7_isQuestion 20 = .ok (.iconst 0, 1) := by decide +kernel
theorem dX7_isQuestion_21 : decode cX7_isQuestion 21 = .ok (.ireturn, 1) := by decide +kernel
theorem dX7_mayRead_0 : decode cX7_mayRead 0 = .ok (.aload_n 0, 1) := by decide +kernel
theorem dX7_mayRead_1 : decode cX7_mayRead 1 = .ok (.getfield 27, 3) := by decide +kernel
theorem dX7_mayRead_4 : decode cX7_mayRead 4 = .ok (.iload_n 2, 1) := by decide +kernel
theorem dX7_mayRead_5 : decode cX7_mayRead 5 = .ok (.iaload, 1) := by decide +kernel
theorem dX7_mayRead_6 : decode cX7_mayRead 6 = .ok (.iload_n 1, 1) := by decide +kernel
theorem dX7_mayRead_7 : decode cX7_mayRead 7 = .ok (.iconst (-1), 1) := by decide +kernel
theorem dX7_mayRead_8 : decode cX7_mayRead 8 = .ok (.ixor, 1) := by decide +kernel
theorem dX7_mayRead_9 : decode cX7_mayRead 9 = .ok (.iand, 1) := by decide +kernel
theorem dX7_mayRead_10 : decode cX7_mayRead 10 = .ok (.ifCond .ne 7, 3) := by decide +kernel
theorem dX7_mayRead_13 : decode cX7_mayRead 13 = .ok (.iconst 1, 1) := by decide +kernel
theorem dX7_mayRead_14 : decode cX7_mayRead 14 = .ok (.goto 4, 3) := by decide +kernel
theorem dX7_mayRead_17 : decode cX7_mayRead 17 = .ok (.iconst 0, 1) := by decide +kernel
theorem dX7_mayRead_18 : decode cX7_mayRead 18 = .ok (.ireturn, 1) := by decide +kernel
theorem dX7_hasRule_0 : decode cX7_hasRule 0 = .ok (.aload_n 0, 1) := by decide +kernel
theorem dX7_hasRule_1 : decode cX7_hasRule 1 = .ok (.getfield 48, 3) := by decide +kernel
theorem dX7_hasRule_4 : decode cX7_hasRule 4 = .ok (.iload_n 1, 1) := by decide +kernel
theorem dX7_hasRule_5 : decode cX7_hasRule 5 = .ok (.iaload, 1) := by decide +kernel
theorem dX7_hasRule_6 : decode cX7_hasRule 6 = .ok (.ifCond .le 7, 3) := by decide +kernel
theorem dX7_hasRule_9 : decode cX7_hasRule 9 = .ok (.iconst 1, 1) := by decide +kernel
theorem dX7_hasRule_10 : decode cX7_hasRule 10 = .ok (.goto 4, 3) := by decide +kernel
theorem dX7_hasRule_13 : decode cX7_hasRule 13 = .ok (.iconst 0, 1) := by decide +kernel
theorem dX7_hasRule_14 : decode cX7_hasRule 14 = .ok (.ireturn, 1) := by decide +kernel
theorem dX7_emit_0 : decode cX7_emit 0 = .ok (.aload_n 0, 1) := by decide +kernel
theorem dX7_emit_1 : decode cX7_emit 1 = .ok (.getfield 60, 3) := by decide +kernel
theorem dX7_emit_4 : decode cX7_emit 4 = .ok (.sipush 1600, 3) := by decide +kernel
theorem dX7_emit_7 : decode cX7_emit 7 = .ok (.if_icmp .ge 23, 3) := by decide +kernel
theorem dX7_emit_10 : decode cX7_emit 10 = .ok (.aload_n 0, 1) := by decide +kernel
theorem dX7_emit_11 : decode cX7_emit 11 = .ok (.getfield 42, 3) := by decide +kernel
theorem dX7_emit_14 : decode cX7_emit 14 = .ok (.aload_n 0, 1) := by decide +kernel
theorem dX7_emit_15 : decode cX7_emit 15 = .ok (.getfield 60, 3) := by decide +kernel
theorem dX7_emit_18 : decode cX7_emit 18 = .ok (.iload_n 1, 1) := by decide +kernel
theorem dX7_emit_19 : decode cX7_emit 19 = .ok (.iastore, 1) := by decide +kernel
theorem dX7_emit_20 : decode cX7_emit 20 = .ok (.aload_n 0, 1) := by decide +kernel
theorem dX7_emit_21 : decode cX7_emit 21 = .ok (.dup, 1) := by decide +kernel
theorem dX7_emit_22 : decode cX7_emit 22 = .ok (.getfield 60, 3) := by decide +kernel
theorem dX7_emit_25 : decode cX7_emit 25 = .ok (.iconst 1, 1) := by decide +kernel
theorem dX7_emit_26 : decode cX7_emit 26 = .ok (.iadd, 1) := by decide +kernel
theorem dX7_emit_27 : decode cX7_emit 27 = .ok (.putfield 60, 3) := by decide +kernel
theorem dX7_emit_30 : decode cX7_emit 30 = .ok (.return_, 1) := by decide +kernel
theorem dX7_giveName_0 : decode cX7_giveName 0 = .ok (.getstatic 70, 3) := by decide +kernel
theorem dX7_giveName_3 : decode cX7_giveName 3 = .ok (.iload_n 1, 1) := by decide +kernel
theorem dX7_giveName_4 : decode cX7_giveName 4 = .ok (.iaload, 1) := by decide +kernel
theorem dX7_giveName_5 : decode cX7_giveName 5 = .ok (.aload_n 0, 1) := by decide +kernel
theorem dX7_giveName_6 : decode cX7_giveName 6 = .ok (.getfield 9, 3) := by decide +kernel
theorem dX7_giveName_9 : decode cX7_giveName 9 = .ok (.iload_n 1, 1) := by decide +kernel
theorem dX7_giveName_10 : decode cX7_giveName 10 = .ok (.iaload, 1) := by decide +kernel
theorem dX7_giveName_11 : decode cX7_giveName 11 = .ok (.iadd, 1) := by decide +kernel
theorem dX7_giveName_12 : decode cX7_giveName 12 = .ok (.bipush 6, 2) := by decide +kernel
theorem dX7_giveName_14 : decode cX7_giveName 14 = .ok (.imul, 1) := by decide +kernel
theorem dX7_giveName_15 : decode cX7_giveName 15 = .ok (.istore_n 3, 1) := by decide +kernel
theorem dX7_giveName_16 : decode cX7_giveName 16 = .ok (.iconst 0, 1) := by decide +kernel
theorem dX7_giveName_17 : decode cX7_giveName 17 = .ok (.istore 4, 2) := by decide +kernel
theorem dX7_giveName_19 : decode cX7_giveName 19 = .ok (.iload 4, 2) := by decide +kernel
theorem dX7_giveName_21 : decode cX7_giveName 21 = .ok (.bipush 6, 2) := by decide +kernel
theorem dX7_giveName_23 : decode cX7_giveName 23 = .ok (.if_icmp .ge 24, 3) := by decide +kernel
theorem dX7_giveName_26 : decode cX7_giveName 26 = .ok (.aload_n 0, 1) := by decide +kernel
theorem dX7_giveName_27 : decode cX7_giveName 27 = .ok (.getfield 15, 3) := by decide +kernel
theorem dX7_giveName_30 : decode cX7_giveName 30 = .ok (.iload_n 3, 1) := by decide +kernel
theorem dX7_giveName_31 : decode cX7_giveName 31 = .ok (.iload 4, 2) := by decide +kernel
theorem dX7_giveName_33 : decode cX7_giveName 33 = .ok (.iadd, 1) := by decide +kernel
theorem dX7_giveName_34 : decode cX7_giveName 34 = .ok (.aload_n 2, 1) := by decide +kernel
theorem dX7_giveName_35 : decode cX7_giveName 35 = .ok (.iload 4, 2) := by decide +kernel
theorem dX7_giveName_37 : decode cX7_giveName 37 = .ok (.invokestatic 73, 3) := by decide +kernel
theorem dX7_giveName_40 : decode cX7_giveName 40 = .ok (.iastore, 1) := by decide +kernel
theorem dX7_giveName_41 : decode cX7_giveName 41 = .ok (.iinc 4 1, 3) := by decide +kernel
theorem dX7_giveName_44 : decode cX7_giveName 44 = .ok (.goto (-25), 3) := by decide +kernel
theorem dX7_giveName_47 : decode cX7_giveName 47 = .ok (.aload_n 0, 1) := by decide +kernel
theorem dX7_giveName_48 : decode cX7_giveName 48 = .ok (.getfield 9, 3) := by decide +kernel
theorem dX7_giveName_51 : decode cX7_giveName 51 = .ok (.iload_n 1, 1) := by decide +kernel
theorem dX7_giveName_52 : decode cX7_giveName 52 = .ok (.dup2, 1) := by decide +kernel
theorem dX7_giveName_53 : decode cX7_giveName 53 = .ok (.iaload, 1) := by decide +kernel
theorem dX7_giveName_54 : decode cX7_giveName 54 = .ok (.iconst 1, 1) := by decide +kernel
theorem dX7_giveName_55 : decode cX7_giveName 55 = .ok (.iadd, 1) := by decide +kernel
theorem dX7_giveName_56 : decode cX7_giveName 56 = .ok (.iastore, 1) := by decide +kernel
theorem dX7_giveName_57 : decode cX7_giveName 57 = .ok (.return_, 1) := by decide +kernel
theorem dX7_findName_0 : decode cX7_findName 0 = .ok (.iconst 0, 1) := by decide +kernel
theorem dX7_findName_1 : decode cX7_findName 1 = .ok (.istore_n 3, 1) := by decide +kernel
theorem dX7_findName_2 : decode cX7_findName 2 = .ok (.iload_n 3, 1) := by decide +kernel
theorem dX7_findName_3 : decode cX7_findName 3 = .ok (.aload_n 0, 1) := by decide +kernel
theorem dX7_findName_4 : decode cX7_findName 4 = .ok (.getfield 9, 3) := by decide +kernel
theorem dX7_findName_7 : decode cX7_findName 7 = .ok (.iload_n 1, 1) := by decide +kernel
theorem dX7_findName_8 : decode cX7_findName 8 = .ok (.iaload, 1) := by decide +kernel
theorem dX7_findName_9 : decode cX7_findName 9 = .ok (.if_icmp .ge 65, 3) := by decide +kernel
theorem dX7_findName_12 : decode cX7_findName 12 = .ok (.getstatic 70, 3) := by decide +kernel
theorem dX7_findName_15 : decode cX7_findName 15 = .ok (.iload_n 1, 1) := by decide +kernel
theorem dX7_findName_16 : decode cX7_findName 16 = .ok (.iaload, 1) := by decide +kernel
theorem dX7_findName_17 : decode cX7_findName 17 = .ok (.iload_n 3, 1) := by decide +kernel
theorem dX7_findName_18 : decode cX7_findName 18 = .ok (.iadd, 1) := by decide +kernel
theorem dX7_findName_19 : decode cX7_findName 19 = .ok (.bipush 6, 2) := by decide +kernel
theorem dX7_findName_21 : decode cX7_findName 21 = .ok (.imul, 1) := by decide +kernel
theorem dX7_findName_22 : decode cX7_findName 22 = .ok (.istore 4, 2) := by decide +kernel
theorem dX7_findName_24 : decode cX7_findName 24 = .ok (.iconst 0, 1) := by decide +kernel
theorem dX7_findName_25 : decode cX7_findName 25 = .ok (.istore 5, 2) := by decide +kernel
theorem dX7_findName_27 : decode cX7_findName 27 = .ok (.iload 5, 2) := by decide +kernel
theorem dX7_findName_29 : decode cX7_findName 29 = .ok (.bipush 6, 2) := by decide +kernel
theorem dX7_findName_31 : decode cX7_findName 31 = .ok (.if_icmp .ge 28, 3) := by decide +kernel
theorem dX7_findName_34 : decode cX7_findName 34 = .ok (.aload_n 0, 1) := by decide +kernel
theorem dX7_findName_35 : decode cX7_findName 35 = .ok (.getfield 15, 3) := by decide +kernel
theorem dX7_findName_38 : decode cX7_findName 38 = .ok (.iload 4, 2) := by decide +kernel
theorem dX7_findName_40 : decode cX7_findName 40 = .ok (.iload 5, 2) := by decide +kernel
theorem dX7_findName_42 : decode cX7_findName 42 = .ok (.iadd, 1) := by decide +kernel
theorem dX7_findName_43 : decode cX7_findName 43 = .ok (.iaload, 1) := by decide +kernel
theorem dX7_findName_44 : decode cX7_findName 44 = .ok (.aload_n 2, 1) := by decide +kernel
theorem dX7_findName_45 : decode cX7_findName 45 = .ok (.iload 5, 2) := by decide +kernel
theorem dX7_findName_47 : decode cX7_findName 47 = .ok (.invokestatic 73, 3) := by decide +kernel
theorem dX7_findName_50 : decode cX7_findName 50 = .ok (.if_icmp .ne 9, 3) := by decide +kernel
theorem dX7_findName_53 : decode cX7_findName 53 = .ok (.iinc 5 1, 3) := by decide +kernel
theorem dX7_findName_56 : decode cX7_findName 56 = .ok (.goto (-29), 3) := by decide +kernel
theorem dX7_findName_59 : decode cX7_findName 59 = .ok (.iload 5, 2) := by decide +kernel
theorem dX7_findName_61 : decode cX7_findName 61 = .ok (.bipush 6, 2) := by decide +kernel
theorem dX7_findName_63 : decode cX7_findName 63 = .ok (.if_icmp .ne 5, 3) := by decide +kernel
theorem dX7_findName_66 : decode cX7_findName 66 = .ok (.iload_n 3, 1) := by decide +kernel
theorem dX7_findName_67 : decode cX7_findName 67 = .ok (.ireturn, 1) := by decide +kernel
theorem dX7_findName_68 : decode cX7_findName 68 = .ok (.iinc 3 1, 3) := by decide +kernel
theorem dX7_findName_71 : decode cX7_findName 71 = .ok (.goto (-69), 3) := by decide +kernel
theorem dX7_findName_74 : decode cX7_findName 74 = .ok (.iconst (-1), 1) := by decide +kernel
theorem dX7_findName_75 : decode cX7_findName 75 = .ok (.ireturn, 1) := by decide +kernel
theorem dX7_letterAt_0 : decode cX7_letterAt 0 = .ok (.aload_n 0, 1) := by decide +kernel
theorem dX7_letterAt_1 : decode cX7_letterAt 1 = .ok (.getfield 77, 3) := by decide +kernel
theorem dX7_letterAt_4 : decode cX7_letterAt 4 = .ok (.iload_n 1, 1) := by decide +kernel
theorem dX7_letterAt_5 : decode cX7_letterAt 5 = .ok (.iadd, 1) := by decide +kernel
theorem dX7_letterAt_6 : decode cX7_letterAt 6 = .ok (.aload_n 0, 1) := by decide +kernel
theorem dX7_letterAt_7 : decode cX7_letterAt 7 = .ok (.getfield 82, 3) := by decide +kernel
theorem dX7_letterAt_10 : decode cX7_letterAt 10 = .ok (.if_icmp .ge 21, 3) := by decide +kernel
theorem dX7_letterAt_13 : decode cX7_letterAt 13 = .ok (.aload_n 0, 1) := by decide +kernel
theorem dX7_letterAt_14 : decode cX7_letterAt 14 = .ok (.aload_n 0, 1) := by decide +kernel
theorem dX7_letterAt_15 : decode cX7_letterAt 15 = .ok (.getfield 77, 3) := by decide +kernel
theorem dX7_letterAt_18 : decode cX7_letterAt 18 = .ok (.iload_n 1, 1) := by decide +kernel
theorem dX7_letterAt_19 : decode cX7_letterAt 19 = .ok (.iadd, 1) := by decide +kernel
theorem dX7_letterAt_20 : decode cX7_letterAt 20 = .ok (.invokevirtual 85, 3) := by decide +kernel
theorem dX7_letterAt_23 : decode cX7_letterAt 23 = .ok (.bipush 97, 2) := by decide +kernel
theorem dX7_letterAt_25 : decode cX7_letterAt 25 = .ok (.isub, 1) := by decide +kernel
theorem dX7_letterAt_26 : decode cX7_letterAt 26 = .ok (.iconst 1, 1) := by decide +kernel
theorem dX7_letterAt_27 : decode cX7_letterAt 27 = .ok (.iadd, 1) := by decide +kernel
theorem dX7_letterAt_28 : decode cX7_letterAt 28 = .ok (.goto 4, 3) := by decide +kernel
theorem dX7_letterAt_31 : decode cX7_letterAt 31 = .ok (.iconst 0, 1) := by decide +kernel
theorem dX7_letterAt_32 : decode cX7_letterAt 32 = .ok (.ireturn, 1) := by decide +kernel
theorem dX7_gatherNeeds_0 : decode cX7_gatherNeeds 0 = .ok (.iconst 0, 1) := by decide +kernel
theorem dX7_gatherNeeds_1 : decode cX7_gatherNeeds 1 = .ok (.istore_n 1, 1) := by decide +kernel
theorem dX7_gatherNeeds_2 : decode cX7_gatherNeeds 2 = .ok (.iload_n 1, 1) := by decide +kernel
theorem dX7_gatherNeeds_3 : decode cX7_gatherNeeds 3 = .ok (.aload_n 0, 1) := by decide +kernel
theorem dX7_gatherNeeds_4 : decode cX7_gatherNeeds 4 = .ok (.getfield 9, 3) := by decide +kernel
theorem dX7_gatherNeeds_7 : decode cX7_gatherNeeds 7 = .ok (.iconst 1, 1) := by decide +kernel
theorem dX7_gatherNeeds_8 : decode cX7_gatherNeeds 8 = .ok (.iaload, 1) := by decide +kernel
theorem dX7_gatherNeeds_9 : decode cX7_gatherNeeds 9 = .ok (.if_icmp .ge 58, 3) := by decide +kernel
theorem dX7_gatherNeeds_12 : decode cX7_gatherNeeds 12 = .ok (.aload_n 0, 1) := by decide +kernel
theorem dX7_gatherNeeds_13 : decode cX7_gatherNeeds 13 = .ok (.getfield 27, 3) := by decide +kernel
theorem dX7_gatherNeeds_16 : decode cX7_gatherNeeds 16 = .ok (.iload_n 1, 1) := by decide +kernel
theorem dX7_gatherNeeds_17 : decode cX7_gatherNeeds 17 = .ok (.iaload, 1) := by decide +kernel
theorem dX7_gatherNeeds_18 : decode cX7_gatherNeeds 18 = .ok (.istore_n 2, 1) := by decide +kernel
theorem dX7_gatherNeeds_19 : decode cX7_gatherNeeds 19 = .ok (.iconst 0, 1) := by decide +kernel
theorem dX7_gatherNeeds_20 : decode cX7_gatherNeeds 20 = .ok (.istore_n 3, 1) := by decide +kernel
theorem dX7_gatherNeeds_21 : decode cX7_gatherNeeds 21 = .ok (.iload_n 3, 1) := by decide +kernel
theorem dX7_gatherNeeds_22 : decode cX7_gatherNeeds 22 = .ok (.iload_n 1, 1) := by decide +kernel
theorem dX7_gatherNeeds_23 : decode cX7_gatherNeeds 23 = .ok (.if_icmp .ge 31, 3) := by decide +kernel
theorem dX7_gatherNeeds_26 : decode cX7_gatherNeeds 26 = .ok (.aload_n 0, 1) := by decide +kernel
theorem dX7_gatherNeeds_27 : decode cX7_gatherNeeds 27 = .ok (.getfield 27, 3) := by decide +kernel
theorem dX7_gatherNeeds_30 : decode cX7_gatherNeeds 30 = .ok (.iload_n 1, 1) := by decide +kernel
theorem dX7_gatherNeeds_31 : decode cX7_gatherNeeds 31 = .ok (.iaload, 1) := by decide +kernel
theorem dX7_gatherNeeds_32 : decode cX7_gatherNeeds 32 = .ok (.iconst 1, 1) := by decide +kernel
theorem dX7_gatherNeeds_33 : decode cX7_gatherNeeds 33 = .ok (.iload_n 3, 1) := by decide +kernel
theorem dX7_gatherNeeds_34 : decode cX7_gatherNeeds 34 = .ok (.ishl, 1) := by decide +kernel
theorem dX7_gatherNeeds_35 : decode cX7_gatherNeeds 35 = .ok (.iand, 1) := by decide +kernel
theorem dX7_gatherNeeds_36 : decode cX7_gatherNeeds 36 = .ok (.ifCond .eq 12, 3) := by decide +kernel
theorem dX7_gatherNeeds_39 : decode cX7_gatherNeeds 39 = .ok (.iload_n 2, 1) := by decide +kernel
theorem dX7_gatherNeeds_40 : decode cX7_gatherNeeds 40 = .ok (.aload_n 0, 1) := by decide +kernel
theorem dX7_gatherNeeds_41 : decode cX7_gatherNeeds 41 = .ok (.getfield 30, 3) := by decide +kernel
theorem dX7_gatherNeeds_44 : decode cX7_gatherNeeds 44 = .ok (.iload_n 3, 1) := by decide +kernel
theorem dX7_gatherNeeds_45 : decode cX7_gatherNeeds 45 = .ok (.iaload, 1) := by decide +kernel
theorem dX7_gatherNeeds_46 : decode cX7_gatherNeeds 46 = .ok (.ior, 1) := by decide +kernel
theorem dX7_gatherNeeds_47 : decode cX7_gatherNeeds 47 = .ok (.istore_n 2, 1) := by decide +kernel
theorem dX7_gatherNeeds_48 : decode cX7_gatherNeeds 48 = .ok (.iinc 3 1, 3) := by decide +kernel
theorem dX7_gatherNeeds_51 : decode cX7_gatherNeeds 51 = .ok (.goto (-30), 3) := by decide +kernel
theorem dX7_gatherNeeds_54 : decode cX7_gatherNeeds 54 = .ok (.aload_n 0, 1) := by decide +kernel
theorem dX7_gatherNeeds_55 : decode cX7_gatherNeeds 55 = .ok (.getfield 30, 3) := by decide +kernel
theorem dX7_gatherNeeds_58 : decode cX7_gatherNeeds 58 = .ok (.iload_n 1, 1) := by decide +kernel
theorem dX7_gatherNeeds_59 : decode cX7_gatherNeeds 59 = .ok (.iload_n 2, 1) := by decide +kernel
theorem dX7_gatherNeeds_60 : decode cX7_gatherNeeds 60 = .ok (.iastore, 1) := by decide +kernel
theorem dX7_gatherNeeds_61 : decode cX7_gatherNeeds 61 = .ok (.iinc 1 1, 3) := by decide +kernel
theorem dX7_gatherNeeds_64 : decode cX7_gatherNeeds 64 = .ok (.goto (-62), 3) := by decide +kernel
theorem dX7_gatherNeeds_67 : decode cX7_gatherNeeds 67 = .ok (.return_, 1) := by decide +kernel
theorem dX8_init_0 : decode cX8_init 0 = .ok (.aload_n 0, 1) := by decide +kernel
theorem dX8_init_1 : decode cX8_init 1 = .ok (.invokespecial 3, 3) := by decide +kernel
theorem dX8_init_4 : decode cX8_init 4 = .ok (.aload_n 0, 1) := by decide +kernel
theorem dX8_init_5 : decode cX8_init 5 = .ok (.bipush 14, 2) := by decide +kernel
theorem dX8_init_7 : decode cX8_init 7 = .ok (.newarray .int, 2) := by decide +kernel
theorem dX8_init_9 : decode cX8_init 9 = .ok (.putfield 9, 3) := by decide +kernel
theorem dX8_init_12 : decode cX8_init 12 = .ok (.aload_n 0, 1) := by decide +kernel
theorem dX8_init_13 : decode cX8_init 13 = .ok (.bipush 15, 2) := by decide +kernel
theorem dX8_init_15 : decode cX8_init 15 = .ok (.newarray .int, 2) := by decide +kernel
theorem dX8_init_17 : decode cX8_init 17 = .ok (.putfield 15, 3) := by decide +kernel
theorem dX8_init_20 : decode cX8_init 20 = .ok (.aload_n 0, 1) := by decide +kernel
theorem dX8_init_21 : decode cX8_init 21 = .ok (.iconst (-1), 1) := by decide +kernel
theorem dX8_init_22 : decode cX8_init 22 = .ok (.putfield 18, 3) := by decide +kernel
theorem dX8_init_25 : decode cX8_init 25 = .ok (.aload_n 0, 1) := by decide +kernel
theorem dX8_init_26 : decode cX8_init 26 = .ok (.iconst (-1), 1) := by decide +kernel
theorem dX8_init_27 : decode cX8_init 27 = .ok (.putfield 22, 3) := by decide +kernel
theorem dX8_init_30 : decode cX8_init 30 = .ok (.aload_n 0, 1) := by decide +kernel
theorem dX8_init_31 : decode cX8_init 31 = .ok (.aload_n 1, 1) := by decide +kernel
theorem dX8_init_32 : decode cX8_init 32 = .ok (.putfield 25, 3) := by decide +kernel
theorem dX8_init_35 : decode cX8_init 35 = .ok (.aload_n 0, 1) := by decide +kernel
theorem dX8_init_36 : decode cX8_init 36 = .ok (.aload_n 2, 1) := by decide +kernel
theorem dX8_init_37 : decode cX8_init 37 = .ok (.putfield 29, 3) := by decide +kernel
theorem dX8_init_40 : decode cX8_init 40 = .ok (.return_, 1) := by decide +kernel
theorem dX8_lightOf_0 : decode cX8_lightOf 0 = .ok (.aload_n 0, 1) := by decide +kernel
theorem dX8_lightOf_1 : decode cX8_lightOf 1 = .ok (.getfield 25, 3) := by decide +kernel
theorem dX8_lightOf_4 : decode cX8_lightOf 4 = .ok (.iload_n 1, 1) := by decide +kernel
theorem dX8_lightOf_5 : decode cX8_lightOf 5 = .ok (.iconst 0, 1) := by decide +kernel
theorem dX8_lightOf_6 : decode cX8_lightOf 6 = .ok (.invokevirtual 33, 3) := by decide +kernel
theorem dX8_lightOf_9 : decode cX8_lightOf 9 = .ok (.istore_n 2, 1) := by decide +kernel
theorem dX8_lightOf_10 : decode cX8_lightOf 10 = .ok (.aload_n 0, 1) := by decide +kernel
theorem dX8_lightOf_11 : decode cX8_lightOf 11 = .ok (.getfield 29, 3) := by decide +kernel
theorem dX8_lightOf_14 : decode cX8_lightOf 14 = .ok (.iload_n 2, 1) := by decide +kernel
theorem dX8_lightOf_15 : decode cX8_lightOf 15 = .ok (.aload_n 0, 1) := by decide +kernel
theorem dX8_lightOf_16 : decode cX8_lightOf 16 = .ok (.getfield 25, 3) := by decide +kernel
theorem dX8_lightOf_19 : decode cX8_lightOf 19 = .ok (.getfield 39, 3) := by decide +kernel
theorem dX8_lightOf_22 : decode cX8_lightOf 22 = .ok (.getfield 43, 3) := by decide +kernel
theorem dX8_lightOf_25 : decode cX8_lightOf 25 = .ok (.iload_n 2, 1) := by decide +kernel
theorem dX8_lightOf_26 : decode cX8_lightOf 26 = .ok (.iaload, 1) := by decide +kernel
theorem dX8_lightOf_27 : decode cX8_lightOf 27 = .ok (.invokevirtual 48, 3) := by decide +kernel
theorem dX8_lightOf_30 : decode cX8_lightOf 30 = .ok (.ireturn, 1) := by decide +kernel
theorem dX8_pagesOf_0 : decode cX8_pagesOf 0 = .ok (.aload_n 0, 1) := by decide +kernel
theorem dX8_pagesOf_1 : decode cX8_pagesOf 1 = .ok (.getfield 25, 3) := by decide +kernel
theorem dX8_pagesOf_4 : decode cX8_pagesOf 4 = .ok (.iload_n 1, 1) := by decide +kernel
theorem dX8_pagesOf_5 : decode cX8_pagesOf 5 = .ok (.invokevirtual 53, 3) := by decide +kernel
theorem dX8_pagesOf_8 : decode cX8_pagesOf 8 = .ok (.iconst (-1), 1) := by decide +kernel
theorem dX8_pagesOf_9 : decode cX8_pagesOf 9 = .ok (.ixor, 1) := by decide +kernel
theorem dX8_pagesOf_10 : decode cX8_pagesOf 10 = .ok (.istore 4, 2) := by decide +kernel
theorem dX8_pagesOf_12 : decode cX8_pagesOf 12 = .ok (.iload_n 2, 1) := by decide +kernel
theorem dX8_pagesOf_13 : decode cX8_pagesOf 13 = .ok (.iload 4, 2) := by decide +kernel
theorem dX8_pagesOf_15 : decode cX8_pagesOf 15 = .ok (.iand, 1) := by decide +kernel
theorem dX8_pagesOf_16 : decode cX8_pagesOf 16 = .ok (.istore 5, 2) := by decide +kernel
theorem dX8_pagesOf_18 : decode cX8_pagesOf 18 = .ok (.iload_n 3, 1) := by decide +kernel
theorem dX8_pagesOf_19 : decode cX8_pagesOf 19 = .ok (.iconst (-1), 1) := by decide +kernel
theorem dX8_pagesOf_20 : decode cX8_pagesOf 20 = .ok (.if_icmp .ne 8, 3) := by decide +kernel
theorem dX8_pagesOf_23 : decode cX8_pagesOf 23 = .ok (.iload 4, 2) := by decide +kernel
theorem dX8_pagesOf_25 : decode cX8_pagesOf 25 = .ok (.goto 11, 3) := by decide +kernel
theorem dX8_pagesOf_28 : decode cX8_pagesOf 28 = .ok (.iload 4, 2) := by decide +kernel
theorem dX8_pagesOf_30 : decode cX8_pagesOf 30 = .ok (.iconst 1, 1) := by decide +kernel
theorem dX8_pagesOf_31 : decode cX8_pagesOf 31 = .ok (.iload_n 3, 1) := by decide +kernel
theorem dX8_pagesOf_32 : decode cX8_pagesOf 32 = .ok (.ishl, 1) := by decide +kernel
theorem dX8_pagesOf_33 : decode cX8_pagesOf 33 = .ok (.iconst (-1), 1) := by decide +kernel
theorem dX8_pagesOf_34 : decode cX8_pagesOf 34 = .ok (.ixor, 1) := by decide +kernel
theorem dX8_pagesOf_35 : decode cX8_pagesOf 35 = .ok (.iand, 1) := by decide +kernel
theorem dX8_pagesOf_36 : decode cX8_pagesOf 36 = .ok (.istore 6, 2) := by decide +kernel
theorem dX8_pagesOf_38 : decode cX8_pagesOf 38 = .ok (.aload_n 0, 1) := by decide +kernel
theorem dX8_pagesOf_39 : decode cX8_pagesOf 39 = .ok (.getfield 25, 3) := by decide +kernel
theorem dX8_pagesOf_42 : decode cX8_pagesOf 42 = .ok (.getfield 39, 3) := by decide +kernel
theorem dX8_pagesOf_45 : decode cX8_pagesOf 45 = .ok (.getfield 57, 3) := by decide +kernel
theorem dX8_pagesOf_48 : decode cX8_pagesOf 48 = .ok (.iconst 1, 1) := by decide +kernel
theorem dX8_pagesOf_49 : decode cX8_pagesOf 49 = .ok (.iaload, 1) := by decide +kernel
theorem dX8_pagesOf_50 : decode cX8_pagesOf 50 = .ok (.iconst 1, 1) := by decide +kernel
theorem dX8_pagesOf_51 : decode cX8_pagesOf 51 = .ok (.isub, 1) := by decide +kernel
theorem dX8_pagesOf_52 : decode cX8_pagesOf 52 = .ok (.istore 7, 2) := by decide +kernel
theorem dX8_pagesOf_54 : decode cX8_pagesOf 54 = .ok (.iload 7, 2) := by decide +kernel
theorem dX8_pagesOf_56 : decode cX8_pagesOf 56 = .ok (.ifCond .lt 40, 3) := by decide +kernel
theorem dX8_pagesOf_59 : decode cX8_pagesOf 59 = .ok (.iload 5, 2) := by decide +kernel
theorem dX8_pagesOf_61 : decode cX8_pagesOf 61 = .ok (.iconst 1, 1) := by decide +kernel
theorem dX8_pagesOf_62 : decode cX8_pagesOf 62 = .ok (.iload 7, 2) := by decide +kernel
theorem dX8_pagesOf_64 : decode cX8_pagesOf 64 = .ok (.ishl, 1) := by decide +kernel
theorem dX8_pagesOf_65 : decode cX8_pagesOf 65 = .ok (.iand, 1) := by decide +kernel
theorem dX8_pagesOf_66 : decode cX8_pagesOf 66 = .ok (.ifCond .eq 24, 3) := by decide +kernel
theorem dX8_pagesOf_69 : decode cX8_pagesOf 69 = .ok (.iload 5, 2) := by decide +kernel
theorem dX8_pagesOf_71 : decode cX8_pagesOf 71 = .ok (.aload_n 0, 1) := by decide +kernel
theorem dX8_pagesOf_72 : decode cX8_pagesOf 72 = .ok (.getfield 25, 3) := by decide +kernel
theorem dX8_pagesOf_75 : decode cX8_pagesOf 75 = .ok (.getfield 39, 3) := by decide +kernel
theorem dX8_pagesOf_78 : decode cX8_pagesOf 78 = .ok (.getfield 60, 3) := by decide +kernel
theorem dX8_pagesOf_81 : decode cX8_pagesOf 81 = .ok (.iload 7, 2) := by decide +kernel
theorem dX8_pagesOf_83 : decode cX8_pagesOf 83 = .ok (.iaload, 1) := by decide +kernel
theorem dX8_pagesOf_84 : decode cX8_pagesOf 84 = .ok (.iload 6, 2) := by decide +kernel
theorem dX8_pagesOf_86 : decode cX8_pagesOf 86 = .ok (.iand, 1) := by decide +kernel
theorem dX8_pagesOf_87 : decode cX8_pagesOf 87 = .ok (.ior, 1) := by decide +kernel
theorem dX8_pagesOf_88 : decode cX8_pagesOf 88 = .ok (.istore 5, 2) := by decide +kernel
theorem dX8_pagesOf_90 : decode cX8_pagesOf 90 = .ok (.iinc 7 (-1), 3) := by decide +kernel
theorem dX8_pagesOf_93 : decode cX8_pagesOf 93 = .ok (.goto (-39), 3) := by decide +kernel
theorem dX8_pagesOf_96 : decode cX8_pagesOf 96 = .ok (.iload 5, 2) := by decide +kernel
theorem dX8_pagesOf_98 : decode cX8_pagesOf 98 = .ok (.ireturn, 1) := by decide +kernel
theorem dX8_workOf_0 : decode cX8_workOf 0 = .ok (.aload_n 0, 1) := by decide +kernel
theorem dX8_workOf_1 : decode cX8_workOf 1 = .ok (.iload_n 1, 1) := by decide +kernel
theorem dX8_workOf_2 : decode cX8_workOf 2 = .ok (.iload_n 2, 1) := by decide +kernel
theorem dX8_workOf_3 : decode cX8_workOf 3 = .ok (.iload_n 3, 1) := by decide +kernel
theorem dX8_workOf_4 : decode cX8_workOf 4 = .ok (.invokevirtual 63, 3) := by decide +kernel
theorem dX8_workOf_7 : decode cX8_workOf 7 = .ok (.istore 4, 2) := by decide +kernel
theorem dX8_workOf_9 : decode cX8_workOf 9 = .ok (.aload_n 0, 1) := by decide +kernel
theorem dX8_workOf_10 : decode cX8_workOf 10 = .ok (.getfield 29, 3) := by decide +kernel
theorem dX8_workOf_13 : decode cX8_workOf 13 = .ok (.iload_n 1, 1) := by decide +kernel
theorem dX8_workOf_14 : decode cX8_workOf 14 = .ok (.invokevirtual 67, 3) := by decide +kernel
theorem dX8_workOf_17 : decode cX8_workOf 17 = .ok (.iconst 0, 1) := by decide +kernel
theorem dX8_workOf_18 : decode cX8_workOf 18 = .ok (.istore 5, 2) := by decide +kernel
theorem dX8_workOf_20 : decode cX8_workOf 20 = .ok (.iconst 0, 1) := by decide +kernel
theorem dX8_workOf_21 : decode cX8_workOf 21 = .ok (.istore 6, 2) := by decide +kernel
theorem dX8_workOf_23 : decode cX8_workOf 23 = .ok (.iload 6, 2) := by decide +kernel
theorem dX8_workOf_25 : decode cX8_workOf 25 = .ok (.aload_n 0, 1) := by decide +kernel
theorem dX8_workOf_26 : decode cX8_workOf 26 = .ok (.getfield 25, 3) := by decide +kernel
theorem dX8_workOf_29 : decode cX8_workOf 29 = .ok (.getfield 39, 3) := by decide +kernel
theorem dX8_workOf_32 : decode cX8_workOf 32 = .ok (.getfield 57, 3) := by decide +kernel
theorem dX8_workOf_35 : decode cX8_workOf 35 = .ok (.iconst 1, 1) := by decide +kernel
theorem dX8_workOf_36 : decode cX8_workOf 36 = .ok (.iaload, 1) := by decide +kernel
theorem dX8_workOf_37 : decode cX8_workOf 37 = .ok (.if_icmp .ge 33, 3) := by decide +kernel
theorem dX8_workOf_40 : decode cX8_workOf 40 = .ok (.iload 4, 2) := by decide +kernel
theorem dX8_workOf_42 : decode cX8_workOf 42 = .ok (.iconst 1, 1) := by decide +kernel
theorem dX8_workOf_43 : decode cX8_workOf 43 = .ok (.iload 6, 2) := by decide +kernel
theorem dX8_workOf_45 : decode cX8_workOf 45 = .ok (.ishl, 1) := by decide +kernel
theorem dX8_workOf_46 : decode cX8_workOf 46 = .ok (.iand, 1) := by decide +kernel
theorem dX8_workOf_47 : decode cX8_workOf 47 = .ok (.ifCond .eq 17, 3) := by decide +kernel
theorem dX8_workOf_50 : decode cX8_workOf 50 = .ok (.iload 5, 2) := by decide +kernel
theorem dX8_workOf_52 : decode cX8_workOf 52 = .ok (.aload_n 0, 1) := by decide +kernel
theorem dX8_workOf_53 : decode cX8_workOf 53 = .ok (.getfield 29, 3) := by decide +kernel
theorem dX8_workOf_56 : decode cX8_workOf 56 = .ok (.iload 6, 2) := by decide +kernel
theorem dX8_workOf_58 : decode cX8_workOf 58 = .ok (.invokevirtual 71, 3) := by decide +kernel
theorem dX8_workOf_61 : decode cX8_workOf 61 = .ok (.iadd, 1) := by decide +kernel
theorem dX8_workOf_62 : decode cX8_workOf 62 = .ok (.istore 5, 2) := by decide +kernel
theorem dX8_workOf_64 : decode cX8_workOf 64 = .ok (.iinc 6 1, 3) := by decide +kernel
theorem dX8_workOf_67 : decode cX8_workOf 67 = .ok (.goto (-44), 3) := by decide +kernel
theorem dX8_workOf_70 : decode cX8_workOf 70 = .ok (.iload 5, 2) := by decide +kernel
theorem dX8_workOf_72 : decode cX8_workOf 72 = .ok (.ireturn, 1) := by decide +kernel
theorem dX8_workOfAll_0 : decode cX8_workOfAll 0 = .ok (.iconst 0, 1) := by decide +kernel
theorem dX8_workOfAll_1 : decode cX8_workOfAll 1 = .ok (.istore_n 3, 1) := by decide +kernel
theorem dX8_workOfAll_2 : decode cX8_workOfAll 2 = .ok (.iconst 0, 1) := by decide +kernel
theorem dX8_workOfAll_3 : decode cX8_workOfAll 3 = .ok (.istore 4, 2) := by decide +kernel
theorem dX8_workOfAll_5 : decode cX8_workOfAll 5 = .ok (.iload 4, 2) := by decide +kernel
theorem dX8_workOfAll_7 : decode cX8_workOfAll 7 = .ok (.aload_n 0, 1) := by decide +kernel
theorem dX8_workOfAll_8 : decode cX8_workOfAll 8 = .ok (.getfield 25, 3) := by decide +kernel
theorem dX8_workOfAll_11 : decode cX8_workOfAll 11 = .ok (.getfield 39, 3) := by decide +kernel
theorem dX8_workOfAll_14 : decode cX8_workOfAll 14 = .ok (.getfield 57, 3) := by decide +kernel
theorem dX8_workOfAll_17 : decode cX8_workOfAll 17 = .ok (.iconst 2, 1) := by decide +kernel
theorem dX8_workOfAll_18 : decode cX8_workOfAll 18 = .ok (.iaload, 1) := by decide +kernel
theorem dX8_workOfAll_19 : decode cX8_workOfAll 19 = .ok (.if_icmp .ge 20, 3) := by decide +kernel
theorem dX8_workOfAll_22 : decode cX8_workOfAll 22 = .ok (.iload_n 3, 1) := by decide +kernel
theorem dX8_workOfAll_23 : decode cX8_workOfAll 23 = .ok (.aload_n 0, 1) := by decide +kernel
theorem dX8_workOfAll_24 : decode cX8_workOfAll 24 = .ok (.iload 4, 2) := by decide +kernel
theorem dX8_workOfAll_26 : decode cX8_workOfAll 26 = .ok (.iload_n 1, 1) := by decide +kernel
theorem dX8_workOfAll_27 : decode cX8_workOfAll 27 = .ok (.iload_n 2, 1) := by decide +kernel
theorem dX8_workOfAll_28 : decode cX8_workOfAll 28 = .ok (.invokevirtual 74, 3) := by decide +kernel
theorem dX8_workOfAll_31 : decode cX8_workOfAll 31 = .ok (.iadd, 1) := by decide +kernel
theorem dX8_workOfAll_32 : decode cX8_workOfAll 32 = .ok (.istore_n 3, 1) := by decide +kernel
theorem dX8_workOfAll_33 : decode cX8_workOfAll 33 = .ok (.iinc 4 1, 3) := by decide +kernel
theorem dX8_workOfAll_36 : decode cX8_workOfAll 36 = .ok (.goto (-31), 3) := by decide +kernel
theorem dX8_workOfAll_39 : decode cX8_workOfAll 39 = .ok (.iload_n 3, 1) := by decide +kernel
theorem dX8_workOfAll_40 : decode cX8_workOfAll 40 = .ok (.ireturn, 1) := by decide +kernel
theorem dX8_nightsOf_0 : decode cX8_nightsOf 0 = .ok (.aload_n 0, 1) := by decide +kernel
theorem dX8_nightsOf_1 : decode cX8_nightsOf 1 = .ok (.iload_n 1, 1) := by decide +kernel
theorem dX8_nightsOf_2 : decode cX8_nightsOf 2 = .ok (.iload_n 2, 1) := by decide +kernel
theorem dX8_nightsOf_3 : decode cX8_nightsOf 3 = .ok (.iconst (-1), 1) := by decide +kernel
theorem dX8_nightsOf_4 : decode cX8_nightsOf 4 = .ok (.invokevirtual 74, 3) := by decide +kernel
theorem dX8_nightsOf_7 : decode cX8_nightsOf 7 = .ok (.aload_n 0, 1) := by decide +kernel
theorem dX8_nightsOf_8 : decode cX8_nightsOf 8 = .ok (.iload_n 1, 1) := by decide +kernel
theorem dX8_nightsOf_9 : decode cX8_nightsOf 9 = .ok (.invokevirtual 77, 3) := by decide +kernel
theorem dX8_nightsOf_12 : decode cX8_nightsOf 12 = .ok (.invokestatic 80, 3) := by decide +kernel
theorem dX8_nightsOf_15 : decode cX8_nightsOf 15 = .ok (.ireturn, 1) := by decide +kernel
theorem dX8_nightsFor_0 : decode cX8_nightsFor 0 = .ok (.iload_n 0, 1) := by decide +kernel
theorem dX8_nightsFor_1 : decode cX8_nightsFor 1 = .ok (.ifCond .ne 5, 3) := by decide +kernel
theorem dX8_nightsFor_4 : decode cX8_nightsFor 4 = .ok (.iconst 0, 1) := by decide +kernel
theorem dX8_nightsFor_5 : decode cX8_nightsFor 5 = .ok (.ireturn, 1) := by decide +kernel
theorem dX8_nightsFor_6 : decode cX8_nightsFor 6 = .ok (.iload_n 1, 1) := by decide +kernel
theorem dX8_nightsFor_7 : decode cX8_nightsFor 7 = .ok (.ifCond .le 13, 3) := by decide +kernel
theorem dX8_nightsFor_10 : decode cX8_nightsFor 10 = .ok (.iload_n 0, 1) := by decide +kernel
theorem dX8_nightsFor_11 : decode cX8_nightsFor 11 = .ok (.iload_n 1, 1) := by decide +kernel
theorem dX8_nightsFor_12 : decode cX8_nightsFor 12 = .ok (.iadd, 1) := by decide +kernel
theorem dX8_nightsFor_13 : decode cX8_nightsFor 13 = .ok (.iconst 1, 1) := by decide +kernel
theorem dX8_nightsFor_14 : decode cX8_nightsFor 14 = .ok (.isub, 1) := by decide +kernel
theorem dX8_nightsFor_15 : decode cX8_nightsFor 15 = .ok (.iload_n 1, 1) := by decide +kernel
theorem dX8_nightsFor_16 : decode cX8_nightsFor 16 = .ok (.idiv, 1) := by decide +kernel
theorem dX8_nightsFor_17 : decode cX8_nightsFor 17 = .ok (.goto 4, 3) := by decide +kernel
theorem dX8_nightsFor_20 : decode cX8_nightsFor 20 = .ok (.iconst (-1), 1) := by decide +kernel
theorem dX8_nightsFor_21 : decode cX8_nightsFor 21 = .ok (.ireturn, 1) := by decide +kernel
theorem dX8_findMost_0 : decode cX8_findMost 0 = .ok (.aload_n 0, 1) := by decide +kernel
theorem dX8_findMost_1 : decode cX8_findMost 1 = .ok (.getfield 18, 3) := by decide +kernel
theorem dX8_findMost_4 : decode cX8_findMost 4 = .ok (.aload_n 0, 1) := by decide +kernel
theorem dX8_findMost_5 : decode cX8_findMost 5 = .ok (.getfield 25, 3) := by decide +kernel
theorem dX8_findMost_8 : decode cX8_findMost 8 = .ok (.getfield 83, 3) := by decide +kernel
theorem dX8_findMost_11 : decode cX8_findMost 11 = .ok (.if_icmp .ne 20, 3) := by decide +kernel
theorem dX8_findMost_14 : decode cX8_findMost 14 = .ok (.aload_n 0, 1) := by decide +kernel
theorem dX8_findMost_15 : decode cX8_findMost 15 = .ok (.getfield 86, 3) := by decide +kernel
theorem dX8_findMost_18 : decode cX8_findMost 18 = .ok (.iload_n 1, 1) := by decide +kernel
theorem dX8_findMost_19 : decode cX8_findMost 19 = .ok (.if_icmp .ne 12, 3) := by decide +kernel
theorem dX8_findMost_22 : decode cX8_findMost 22 = .ok (.aload_n 0, 1) := by decide +kernel
theorem dX8_findMost_23 : decode cX8_findMost 23 = .ok (.getfield 89, 3) := by decide +kernel
theorem dX8_findMost_26 : decode cX8_findMost 26 = .ok (.iload_n 2, 1) := by decide +kernel
theorem dX8_findMost_27 : decode cX8_findMost 27 = .ok (.if_icmp .ne 4, 3) := by decide +kernel
theorem dX8_findMost_30 : decode cX8_findMost 30 = .ok (.return_, 1) := by decide +kernel
theorem dX8_findMost_31 : decode cX8_findMost 31 = .ok (.aload_n 0, 1) := by decide +kernel
theorem dX8_findMost_32 : decode cX8_findMost 32 = .ok (.aload_n 0, 1) := by decide +kernel
theorem dX8_findMost_33 : decode cX8_findMost 33 = .ok (.getfield 25, 3) := by decide +kernel
theorem dX8_findMost_36 : decode cX8_findMost 36 = .ok (.getfield 83, 3) := by decide +kernel
theorem dX8_findMost_39 : decode cX8_findMost 39 = .ok (.putfield 18, 3) := by decide +kernel
theorem dX8_findMost_42 : decode cX8_findMost 42 = .ok (.aload_n 0, 1) := by decide +kernel
theorem dX8_findMost_43 : decode cX8_findMost 43 = .ok (.iload_n 1, 1) := by decide +kernel
theorem dX8_findMost_44 : decode cX8_findMost 44 = .ok (.putfield 86, 3) := by decide +kernel
theorem dX8_findMost_47 : decode cX8_findMost 47 = .ok (.aload_n 0, 1) := by decide +kernel
theorem dX8_findMost_48 : decode cX8_findMost 48 = .ok (.iload_n 2, 1) := by decide +kernel
theorem dX8_findMost_49 : decode cX8_findMost 49 = .ok (.putfield 89, 3) := by decide +kernel
theorem dX8_findMost_52 : decode cX8_findMost 52 = .ok (.aload_n 0, 1) := by decide +kernel
theorem dX8_findMost_53 : decode cX8_findMost 53 = .ok (.iload_n 2, 1) := by decide +kernel
theorem dX8_findMost_54 : decode cX8_findMost 54 = .ok (.aload_n 0, 1) := by decide +kernel
theorem dX8_findMost_55 : decode cX8_findMost 55 = .ok (.iload_n 1, 1) := by decide +kernel
theorem dX8_findMost_56 : decode cX8_findMost 56 = .ok (.invokevirtual 77, 3) := by decide +kernel
theorem dX8_findMost_59 : decode cX8_findMost 59 = .ok (.imul, 1) := by decide +kernel
theorem dX8_findMost_60 : decode cX8_findMost 60 = .ok (.putfield 92, 3) := by decide +kernel
theorem dX8_findMost_63 : decode cX8_findMost 63 = .ok (.aload_n 0, 1) := by decide +kernel
theorem dX8_findMost_64 : decode cX8_findMost 64 = .ok (.getfield 29, 3) := by decide +kernel
theorem dX8_findMost_67 : decode cX8_findMost 67 = .ok (.iload_n 1, 1) := by decide +kernel
theorem dX8_findMost_68 : decode cX8_findMost 68 = .ok (.invokevirtual 67, 3) := by decide +kernel
theorem dX8_findMost_71 : decode cX8_findMost 71 = .ok (.aload_n 0, 1) := by decide +kernel
theorem dX8_findMost_72 : decode cX8_findMost 72 = .ok (.invokevirtual 95, 3) := by decide +kernel
theorem dX8_findMost_75 : decode cX8_findMost 75 = .ok (.aload_n 0, 1) := by decide +kernel
theorem dX8_findMost_76 : decode cX8_findMost 76 = .ok (.iconst (-1), 1) := by decide +kernel
theorem dX8_findMost_77 : decode cX8_findMost 77 = .ok (.putfield 98, 3) := by decide +kernel
theorem dX8_findMost_80 : decode cX8_findMost 80 = .ok (.aload_n 0, 1) := by decide +kernel
theorem dX8_findMost_81 : decode cX8_findMost 81 = .ok (.iconst 0, 1) := by decide +kernel
theorem dX8_findMost_82 : decode cX8_findMost 82 = .ok (.putfield 101, 3) := by decide +kernel
theorem dX8_findMost_85 : decode cX8_findMost 85 = .ok (.aload_n 0, 1) := by decide +kernel
theorem dX8_findMost_86 : decode cX8_findMost 86 = .ok (.iconst 0, 1) := by decide +kernel
theorem dX8_findMost_87 : decode cX8_findMost 87 = .ok (.putfield 104, 3) := by decide +kernel
theorem dX8_findMost_90 : decode cX8_findMost 90 = .ok (.aload_n 0, 1) := by decide +kernel
theorem dX8_findMost_91 : decode cX8_findMost 91 = .ok (.iconst 0, 1) := by decide +kernel
theorem dX8_findMost_92 : decode cX8_findMost 92 = .ok (.iconst 0, 1) := by decide +kernel
theorem dX8_findMost_93 : decode cX8_findMost 93 = .ok (.iconst 0, 1) := by decide +kernel
theorem dX8_findMost_94 : decode cX8_findMost 94 = .ok (.iconst 0, 1) := by decide +kernel
theorem dX8_findMost_95 : decode cX8_findMost 95 = .ok (.invokestatic 107, 3) := by decide +kernel
theorem dX8_findMost_98 : decode cX8_findMost 98 = .ok (.return_, 1) := by decide +kernel
theorem dX8_measurePages_0 : decode cX8_measurePages 0 = .ok (.aload_n 0, 1) := by decide +kernel
theorem dX8_measurePages_1 : decode cX8_measurePages 1 = .ok (.getfield 25, 3) := by decide +kernel
theorem dX8_measurePages_4 : decode cX8_measurePages 4 = .ok (.getfield 39, 3) := by decide +kernel
theorem dX8_measurePages_7 : decode cX8_measurePages 7 = .ok (.getfield 57, 3) := by decide +kernel
theorem dX8_measurePages_10 : decode cX8_measurePages 10 = .ok (.iconst 1, 1) := by decide +kernel
theorem dX8_measurePages_11 : decode cX8_measurePages 11 = .ok (.iaload, 1) := by decide +kernel
theorem dX8_measurePages_12 : decode cX8_measurePages 12 = .ok (.istore_n 1, 1) := by decide +kernel
theorem dX8_measurePages_13 : decode cX8_measurePages 13 = .ok (.aload_n 0, 1) := by decide +kernel
theorem dX8_measurePages_14 : decode cX8_measurePages 14 = .ok (.getfield 15, 3) := by decide +kernel
theorem dX8_measurePages_17 : decode cX8_measurePages 17 = .ok (.iload_n 1, 1) := by decide +kernel
theorem dX8_measurePages_18 : decode cX8_measurePages 18 = .ok (.iconst 0, 1) := by decide +kernel
theorem dX8_measurePages_19 : decode cX8_measurePages 19 = .ok (.iastore, 1) := by decide +kernel
theorem dX8_measurePages_20 : decode cX8_measurePages 20 = .ok (.iload_n 1, 1) := by decide +kernel
theorem dX8_measurePages_21 : decode cX8_measurePages 21 = .ok (.iconst 1, 1) := by decide +kernel
theorem dX8_measurePages_22 : decode cX8_measurePages 22 = .ok (.isub, 1) := by decide +kernel
theorem dX8_measurePages_23 : decode cX8_measurePages 23 = .ok (.istore_n 2, 1) := by decide +kernel
theorem dX8_measurePages_24 : decode cX8_measurePages 24 = .ok (.iload_n 2, 1) := by decide +kernel
theorem dX8_measurePages_25 : decode cX8_measurePages 25 = .ok (.ifCond .lt 44, 3) := by decide +kernel
theorem dX8_measurePages_28 : decode cX8_measurePages 28 = .ok (.aload_n 0, 1) := by decide +kernel
theorem dX8_measurePages_29 : decode cX8_measurePages 29 = .ok (.getfield 9, 3) := by decide +kernel
theorem dX8_measurePages_32 : decode cX8_measurePages 32 = .ok (.iload_n 2, 1) := by decide +kernel
theorem dX8_measurePages_33 : decode cX8_measurePages 33 = .ok (.aload_n 0, 1) := by decide +kernel
theorem dX8_measurePages_34 : decode cX8_measurePages 34 = .ok (.getfield 29, 3) := by decide +kernel
theorem dX8_measurePages_37 : decode cX8_measurePages 37 = .ok (.iload_n 2, 1) := by decide +kernel
theorem dX8_measurePages_38 : decode cX8_measurePages 38 = .ok (.invokevirtual 71, 3) := by decide +kernel
theorem dX8_measurePages_41 : decode cX8_measurePages 41 = .ok (.iastore, 1) := by decide +kernel
theorem dX8_measurePages_42 : decode cX8_measurePages 42 = .ok (.aload_n 0, 1) := by decide +kernel
theorem dX8_measurePages_43 : decode cX8_measurePages 43 = .ok (.getfield 15, 3) := by decide +kernel
theorem dX8_measurePages_46 : decode cX8_measurePages 46 = .ok (.iload_n 2, 1) := by decide +kernel
theorem dX8_measurePages_47 : decode cX8_measurePages 47 = .ok (.aload_n 0, 1) := by decide +kernel
theorem dX8_measurePages_48 : decode cX8_measurePages 48 = .ok (.getfield 15, 3) := by decide +kernel
theorem dX8_measurePages_51 : decode cX8_measurePages 51 = .ok (.iload_n 2, 1) := by decide +kernel
theorem dX8_measurePages_52 : decode cX8_measurePages 52 = .ok (.iconst 1, 1) := by decide +kernel
theorem dX8_measurePages_53 : decode cX8_measurePages 53 = .ok (.iadd, 1) := by decide +kernel
theorem dX8_measurePages_54 : decode cX8_measurePages 54 = .ok (.iaload, 1) := by decide +kernel
theorem dX8_measurePages_55 : decode cX8_measurePages 55 = .ok (.aload_n 0, 1) := by decide +kernel
theorem dX8_measurePages_56 : decode cX8_measurePages 56 = .ok (.getfield 9, 3) := by decide +kernel
theorem dX8_measurePages_59 : decode cX8_measurePages 59 = .ok (.iload_n 2, 1) := by decide +kernel
theorem dX8_measurePages_60 : decode cX8_measurePages 60 = .ok (.iaload, 1) := by decide +kernel
theorem dX8_measurePages_61 : decode cX8_measurePages 61 = .ok (.iadd, 1) := by decide +kernel
theorem dX8_measurePages_62 : decode cX8_measurePages 62 = .ok (.iastore, 1) := by decide +kernel
theorem dX8_measurePages_63 : decode cX8_measurePages 63 = .ok (.iinc 2 (-1), 3) := by decide +kernel
theorem dX8_measurePages_66 : decode cX8_measurePages 66 = .ok (.goto (-42), 3) := by decide +kernel
theorem dX8_measurePages_69 : decode cX8_measurePages 69 = .ok (.return_, 1) := by decide +kernel
theorem dX8_chooseMost_0 : decode cX8_chooseMost 0 = .ok (.aload_n 0, 1) := by decide +kernel
theorem dX8_chooseMost_1 : decode cX8_chooseMost 1 = .ok (.getfield 25, 3) := by decide +kernel
theorem dX8_chooseMost_4 : decode cX8_chooseMost 4 = .ok (.getfield 39, 3) := by decide +kernel
theorem dX8_chooseMost_7 : decode cX8_chooseMost 7 = .ok (.astore 5, 2) := by decide +kernel
theorem dX8_chooseMost_9 : decode cX8_chooseMost 9 = .ok (.aload 5, 2) := by decide +kernel
theorem dX8_chooseMost_11 : decode cX8_chooseMost 11 = .ok (.getfield 57, 3) := by decide +kernel
theorem dX8_chooseMost_14 : decode cX8_chooseMost 14 = .ok (.iconst 1, 1) := by decide +kernel
theorem dX8_chooseMost_15 : decode cX8_chooseMost 15 = .ok (.iaload, 1) := by decide +kernel
theorem dX8_chooseMost_16 : decode cX8_chooseMost 16 = .ok (.istore 6, 2) := by decide +kernel
theorem dX8_chooseMost_18 : decode cX8_chooseMost 18 = .ok (.iload_n 3, 1) := by decide +kernel
theorem dX8_chooseMost_19 : decode cX8_chooseMost 19 = .ok (.iload 6, 2) := by decide +kernel
theorem dX8_chooseMost_21 : decode cX8_chooseMost 21 = .ok (.iadd, 1) := by decide +kernel
theorem dX8_chooseMost_22 : decode cX8_chooseMost 22 = .ok (.iload_n 1, 1) := by decide +kernel
theorem dX8_chooseMost_23 : decode cX8_chooseMost 23 = .ok (.isub, 1) := by decide +kernel
theorem dX8_chooseMost_24 : decode cX8_chooseMost 24 = .ok (.istore 7, 2) := by decide +kernel
theorem dX8_chooseMost_26 : decode cX8_chooseMost 26 = .ok (.iload 7, 2) := by decide +kernel
theorem dX8_chooseMost_28 : decode cX8_chooseMost 28 = .ok (.aload_n 0, 1) := by decide +kernel
theorem dX8_chooseMost_29 : decode cX8_chooseMost 29 = .ok (.getfield 98, 3) := by decide +kernel
theorem dX8_chooseMost_32 : decode cX8_chooseMost 32 = .ok (.if_icmp .lt 21, 3) := by decide +kernel
theorem dX8_chooseMost_35 : decode cX8_chooseMost 35 = .ok (.iload 7, 2) := by decide +kernel
theorem dX8_chooseMost_37 : decode cX8_chooseMost 37 = .ok (.aload_n 0, 1) := by decide +kernel
theorem dX8_chooseMost_38 : decode cX8_chooseMost 38 = .ok (.getfield 98, 3) := by decide +kernel
theorem dX8_chooseMost_41 : decode cX8_chooseMost 41 = .ok (.if_icmp .ne 13, 3) := by decide +kernel
theorem dX8_chooseMost_44 : decode cX8_chooseMost 44 = .ok (.iload 4, 2) := by decide +kernel
theorem dX8_chooseMost_46 : decode cX8_chooseMost 46 = .ok (.aload_n 0, 1) := by decide +kernel
theorem dX8_chooseMost_47 : decode cX8_chooseMost 47 = .ok (.getfield 104, 3) := by decide +kernel
theorem dX8_chooseMost_50 : decode cX8_chooseMost 50 = .ok (.if_icmp .le 4, 3) := by decide +kernel
theorem dX8_chooseMost_53 : decode cX8_chooseMost 53 = .ok (.return_, 1) := by decide +kernel
theorem dX8_chooseMost_54 : decode cX8_chooseMost 54 = .ok (.iload_n 1, 1) := by decide +kernel
theorem dX8_chooseMost_55 : decode cX8_chooseMost 55 = .ok (.iload 6, 2) := by decide +kernel
theorem dX8_chooseMost_57 : decode cX8_chooseMost 57 = .ok (.if_icmp .lt 12, 3) := by decide +kernel
theorem dX8_chooseMost_60 : decode cX8_chooseMost 60 = .ok (.aload_n 0, 1) := by decide +kernel
theorem dX8_chooseMost_61 : decode cX8_chooseMost 61 = .ok (.iload_n 2, 1) := by decide +kernel
theorem dX8_chooseMost_62 : decode cX8_chooseMost 62 = .ok (.iload_n 3, 1) := by decide +kernel
theorem dX8_chooseMost_63 : decode cX8_chooseMost 63 = .ok (.iload 4, 2) := by decide +kernel
theorem dX8_chooseMost_65 : decode cX8_chooseMost 65 = .ok (.invokevirtual 111, 3) := by decide +kernel
theorem dX8_chooseMost_68 : decode cX8_chooseMost 68 = .ok (.return_, 1) := by decide +kernel
theorem dX8_chooseMost_69 : decode cX8_chooseMost 69 = .ok (.aload_n 0, 1) := by decide +kernel
theorem dX8_chooseMost_70 : decode cX8_chooseMost 70 = .ok (.getfield 25, 3) := by decide +kernel
theorem dX8_chooseMost_73 : decode cX8_chooseMost 73 = .ok (.aload_n 0, 1) := by decide +kernel
theorem dX8_chooseMost_74 : decode cX8_chooseMost 74 = .ok (.getfield 86, 3) := by decide +kernel
theorem dX8_chooseMost_77 : decode cX8_chooseMost 77 = .ok (.invokevirtual 53, 3) := by decide +kernel
theorem dX8_chooseMost_80 : decode cX8_chooseMost 80 = .ok (.istore 8, 2) := by decide +kernel
theorem dX8_chooseMost_82 : decode cX8_chooseMost 82 = .ok (.iload 4, 2) := by decide +kernel
theorem dX8_chooseMost_84 : decode cX8_chooseMost 84 = .ok (.aload_n 0, 1) := by decide +kernel
theorem dX8_chooseMost_85 : decode cX8_chooseMost 85 = .ok (.getfield 9, 3) := by decide +kernel
theorem dX8_chooseMost_88 : decode cX8_chooseMost 88 = .ok (.iload_n 1, 1) := by decide +kernel
theorem dX8_chooseMost_89 : decode cX8_chooseMost 89 = .ok (.iaload, 1) := by decide +kernel
theorem dX8_chooseMost_90 : decode cX8_chooseMost 90 = .ok (.iadd, 1) := by decide +kernel
theorem dX8_chooseMost_91 : decode cX8_chooseMost 91 = .ok (.istore 9, 2) := by decide +kernel
theorem dX8_chooseMost_93 : decode cX8_chooseMost 93 = .ok (.iload 8, 2) := by decide +kernel
theorem dX8_chooseMost_95 : decode cX8_chooseMost 95 = .ok (.iconst 1, 1) := by decide +kernel
theorem dX8_chooseMost_96 : decode cX8_chooseMost 96 = .ok (.iload_n 1, 1) := by decide +kernel
theorem dX8_chooseMost_97 : decode cX8_chooseMost 97 = .ok (.ishl, 1) := by decide +kernel
theorem dX8_chooseMost_98 : decode cX8_chooseMost 98 = .ok (.iand, 1) := by decide +kernel
theorem dX8_chooseMost_99 : decode cX8_chooseMost 99 = .ok (.ifCond .ne 42, 3) := by decide +kernel
theorem dX8_chooseMost_102 : decode cX8_chooseMost 102 = .ok (.iload 9, 2) := by decide +kernel
theorem dX8_chooseMost_104 : decode cX8_chooseMost 104 = .ok (.aload_n 0, 1) := by decide +kernel
theorem dX8_chooseMost_105 : decode cX8_chooseMost 105 = .ok (.getfield 92, 3) := by decide +kernel
theorem dX8_chooseMost_108 : decode cX8_chooseMost 108 = .ok (.if_icmp .gt 33, 3) := by decide +kernel
theorem dX8_chooseMost_111 : decode cX8_chooseMost 111 = .ok (.aload 5, 2) := by decide +kernel
theorem dX8_chooseMost_113 : decode cX8_chooseMost 113 = .ok (.iload 8, 2) := by decide +kernel
theorem dX8_chooseMost_115 : decode cX8_chooseMost 115 = .ok (.iload_n 2, 1) := by decide +kernel
theorem dX8_chooseMost_116 : decode cX8_chooseMost 116 = .ok (.ior, 1) := by decide +kernel
theorem dX8_chooseMost_117 : decode cX8_chooseMost 117 = .ok (.iload_n 1, 1) := by decide +kernel
theorem dX8_chooseMost_118 : decode cX8_chooseMost 118 = .ok (.invokevirtual 115, 3) := by decide +kernel
theorem dX8_chooseMost_121 : decode cX8_chooseMost 121 = .ok (.ifCond .eq 20, 3) := by decide +kernel
theorem dX8_chooseMost_124 : decode cX8_chooseMost 124 = .ok (.aload_n 0, 1) := by decide +kernel
theorem dX8_chooseMost_125 : decode cX8_chooseMost 125 = .ok (.iload_n 1, 1) := by decide +kernel
theorem dX8_chooseMost_126 : decode cX8_chooseMost 126 = .ok (.iconst 1, 1) := by decide +kernel
theorem dX8_chooseMost_127 : decode cX8_chooseMost 127 = .ok (.iadd, 1) := by decide +kernel
theorem dX8_chooseMost_128 : decode cX8_chooseMost 128 = .ok (.iload_n 2, 1) := by decide +kernel
theorem dX8_chooseMost_129 : decode cX8_chooseMost 129 = .ok (.iconst 1, 1) := by decide +kernel
theorem dX8_chooseMost_130 : decode cX8_chooseMost 130 = .ok (.iload_n 1, 1) := by decide +kernel
theorem dX8_chooseMost_131 : decode cX8_chooseMost 131 = .ok (.ishl, 1) := by decide +kernel
theorem dX8_chooseMost_132 : decode cX8_chooseMost 132 = .ok (.ior, 1) := by decide +kernel
theorem dX8_chooseMost_133 : decode cX8_chooseMost 133 = .ok (.iload_n 3, 1) := by decide +kernel
theorem dX8_chooseMost_134 : decode cX8_chooseMost 134 = .ok (.iconst 1, 1) := by decide +kernel
theorem dX8_chooseMost_135 : decode cX8_chooseMost 135 = .ok (.iadd, 1) := by decide +kernel
theorem dX8_chooseMost_136 : decode cX8_chooseMost 136 = .ok (.iload 9, 2) := by decide +kernel
theorem dX8_chooseMost_138 : decode cX8_chooseMost 138 = .ok (.invokestatic 107, 3) := by decide +kernel
theorem dX8_chooseMost_141 : decode cX8_chooseMost 141 = .ok (.aload_n 0, 1) := by decide +kernel
theorem dX8_chooseMost_142 : decode cX8_chooseMost 142 = .ok (.iload_n 1, 1) := by decide +kernel
theorem dX8_chooseMost_143 : decode cX8_chooseMost 143 = .ok (.iconst 1, 1) := by decide +kernel
theorem dX8_chooseMost_144 : decode cX8_chooseMost 144 = .ok (.iadd, 1) := by decide +kernel
theorem dX8_chooseMost_145 : decode cX8_chooseMost 145 = .ok (.iload_n 2, 1) := by decide +kernel
theorem dX8_chooseMost_146 : decode cX8_chooseMost 146 = .ok (.iload_n 3, 1) := by decide +kernel
theorem dX8_chooseMost_147 : decode cX8_chooseMost 147 = .ok (.iload 4, 2) := by decide +kernel
theorem dX8_chooseMost_149 : decode cX8_chooseMost 149 = .ok (.invokestatic 107, 3) := by decide +kernel
theorem dX8_chooseMost_152 : decode cX8_chooseMost 152 = .ok (.return_, 1) := by decide +kernel
theorem dX8_tryMost_0 : decode cX8_tryMost 0 = .ok (.iload_n 2, 1) := by decide +kernel
theorem dX8_tryMost_1 : decode cX8_tryMost 1 = .ok (.aload_n 0, 1) := by decide +kernel
theorem dX8_tryMost_2 : decode cX8_tryMost 2 = .ok (.getfield 98, 3) := by decide +kernel
theorem dX8_tryMost_5 : decode cX8_tryMost 5 = .ok (.if_icmp .gt 19, 3) := by decide +kernel
theorem dX8_tryMost_8 : decode cX8_tryMost 8 = .ok (.iload_n 3, 1) := by decide +kernel
theorem dX8_tryMost_9 : decode cX8_tryMost 9 = .ok (.aload_n 0, 1) := by decide +kernel
theorem dX8_tryMost_10 : decode cX8_tryMost 10 = .ok (.getfield 104, 3) := by decide +kernel
theorem dX8_tryMost_13 : decode cX8_tryMost 13 = .ok (.if_icmp .lt 11, 3) := by decide +kernel
theorem dX8_tryMost_16 : decode cX8_tryMost 16 = .ok (.iload_n 1, 1) := by decide +kernel
theorem dX8_tryMost_17 : decode cX8_tryMost 17 = .ok (.aload_n 0, 1) := by decide +kernel
theorem dX8_tryMost_18 : decode cX8_tryMost 18 = .ok (.getfield 101, 3) := by decide +kernel
theorem dX8_tryMost_21 : decode cX8_tryMost 21 = .ok (.if_icmp .ge 18, 3) := by decide +kernel
theorem dX8_tryMost_24 : decode cX8_tryMost 24 = .ok (.aload_n 0, 1) := by decide +kernel
theorem dX8_tryMost_25 : decode cX8_tryMost 25 = .ok (.iload_n 2, 1) := by decide +kernel
theorem dX8_tryMost_26 : decode cX8_tryMost 26 = .ok (.putfield 98, 3) := by decide +kernel
theorem dX8_tryMost_29 : decode cX8_tryMost 29 = .ok (.aload_n 0, 1) := by decide +kernel
theorem dX8_tryMost_30 : decode cX8_tryMost 30 = .ok (.iload_n 1, 1) := by decide +kernel
theorem dX8_tryMost_31 : decode cX8_tryMost 31 = .ok (.putfield 101, 3) := by decide +kernel
theorem dX8_tryMost_34 : decode cX8_tryMost 34 = .ok (.aload_n 0, 1) := by decide +kernel
theorem dX8_tryMost_35 : decode cX8_tryMost 35 = .ok (.iload_n 3, 1) := by decide +kernel
theorem dX8_tryMost_36 : decode cX8_tryMost 36 = .ok (.putfield 104, 3) := by decide +kernel
theorem dX8_tryMost_39 : decode cX8_tryMost 39 = .ok (.return_, 1) := by decide +kernel
theorem dX8_findSets_0 : decode cX8_findSets 0 = .ok (.aload_n 0, 1) := by decide +kernel
theorem dX8_findSets_1 : decode cX8_findSets 1 = .ok (.getfield 22, 3) := by decide +kernel
theorem dX8_findSets_4 : decode cX8_findSets 4 = .ok (.aload_n 0, 1) := by decide +kernel
theorem dX8_findSets_5 : decode cX8_findSets 5 = .ok (.getfield 25, 3) := by decide +kernel
theorem dX8_findSets_8 : decode cX8_findSets 8 = .ok (.getfield 83, 3) := by decide +kernel
theorem dX8_findSets_11 : decode cX8_findSets 11 = .ok (.if_icmp .ne 20, 3) := by decide +kernel
theorem dX8_findSets_14 : decode cX8_findSets 14 = .ok (.aload_n 0, 1) := by decide +kernel
theorem dX8_findSets_15 : decode cX8_findSets 15 = .ok (.getfield 119, 3) := by decide +kernel
theorem dX8_findSets_18 : decode cX8_findSets 18 = .ok (.iload_n 1, 1) := by decide +kernel
theorem dX8_findSets_19 : decode cX8_findSets 19 = .ok (.if_icmp .ne 12, 3) := by decide +kernel
theorem dX8_findSets_22 : decode cX8_findSets 22 = .ok (.aload_n 0, 1) := by decide +kernel
theorem dX8_findSets_23 : decode cX8_findSets 23 = .ok (.getfield 122, 3) := by decide +kernel
theorem dX8_findSets_26 : decode cX8_findSets 26 = .ok (.iload_n 2, 1) := by decide +kernel
theorem dX8_findSets_27 : decode cX8_findSets 27 = .ok (.if_icmp .ne 4, 3) := by decide +kernel
theorem dX8_findSets_30 : decode cX8_findSets 30 = .ok (.return_, 1) := by decide +kernel
theorem dX8_findSets_31 : decode cX8_findSets 31 = .ok (.aload_n 0, 1) := by decide +kernel
theorem dX8_findSets_32 : decode cX8_findSets 32 = .ok (.aload_n 0, 1) := by decide +kernel
theorem dX8_findSets_33 : decode cX8_findSets 33 = .ok (.getfield 25, 3) := by decide +kernel
theorem dX8_findSets_36 : decode cX8_findSets 36 = .ok (.getfield 83, 3) := by decide +kernel
theorem dX8_findSets_39 : decode cX8_findSets 39 = .ok (.putfield 22, 3) := by decide +kernel
theorem dX8_findSets_42 : decode cX8_findSets 42 = .ok (.aload_n 0, 1) := by decide +kernel
theorem dX8_findSets_43 : decode cX8_findSets 43 = .ok (.iload_n 1, 1) := by decide +kernel
theorem dX8_findSets_44 : decode cX8_findSets 44 = .ok (.putfield 119, 3) := by decide +kernel
theorem dX8_findSets_47 : decode cX8_findSets 47 = .ok (.aload_n 0, 1) := by decide +kernel
theorem dX8_findSets_48 : decode cX8_findSets 48 = .ok (.iload_n 2, 1) := by decide +kernel
theorem dX8_findSets_49 : decode cX8_findSets 49 = .ok (.putfield 122, 3) := by decide +kernel
theorem dX8_findSets_52 : decode cX8_findSets 52 = .ok (.aload_n 0, 1) := by decide +kernel
theorem dX8_findSets_53 : decode cX8_findSets 53 = .ok (.getfield 25, 3) := by decide +kernel
theorem dX8_findSets_56 : decode cX8_findSets 56 = .ok (.iload_n 1, 1) := by decide +kernel
theorem dX8_findSets_57 : decode cX8_findSets 57 = .ok (.iconst 0, 1) := by decide +kernel
theorem dX8_findSets_58 : decode cX8_findSets 58 = .ok (.invokevirtual 33, 3) := by decide +kernel
theorem dX8_findSets_61 : decode cX8_findSets 61 = .ok (.istore_n 3, 1) := by decide +kernel
theorem dX8_findSets_62 : decode cX8_findSets 62 = .ok (.aload_n 0, 1) := by decide +kernel
theorem dX8_findSets_63 : decode cX8_findSets 63 = .ok (.getfield 29, 3) := by decide +kernel
theorem dX8_findSets_66 : decode cX8_findSets 66 = .ok (.iload_n 1, 1) := by decide +kernel
theorem dX8_findSets_67 : decode cX8_findSets 67 = .ok (.aload_n 0, 1) := by decide +kernel
theorem dX8_findSets_68 : decode cX8_findSets 68 = .ok (.getfield 25, 3) := by decide +kernel
theorem dX8_findSets_71 : decode cX8_findSets 71 = .ok (.getfield 39, 3) := by decide +kernel
theorem dX8_findSets_74 : decode cX8_findSets 74 = .ok (.getfield 43, 3) := by decide +kernel
theorem dX8_findSets_77 : decode cX8_findSets 77 = .ok (.iload_n 3, 1) := by decide +kernel
theorem dX8_findSets_78 : decode cX8_findSets 78 = .ok (.iaload, 1) := by decide +kernel
theorem dX8_findSets_79 : decode cX8_findSets 79 = .ok (.aload_n 0, 1) := by decide +kernel
theorem dX8_findSets_80 : decode cX8_findSets 80 = .ok (.getfield 25, 3) := by decide +kernel
theorem dX8_findSets_83 : decode cX8_findSets 83 = .ok (.iload_n 3, 1) := by decide +kernel
theorem dX8_findSets_84 : decode cX8_findSets 84 = .ok (.invokevirtual 125, 3) := by decide +kernel
theorem dX8_findSets_87 : decode cX8_findSets 87 = .ok (.iconst 0, 1) := by decide +kernel
theorem dX8_findSets_88 : decode cX8_findSets 88 = .ok (.invokevirtual 128, 3) := by decide +kernel
theorem dX8_findSets_91 : decode cX8_findSets 91 = .ok (.aload_n 0, 1) := by decide +kernel
theorem dX8_findSets_92 : decode cX8_findSets 92 = .ok (.invokevirtual 95, 3) := by decide +kernel
theorem dX8_findSets_95 : decode cX8_findSets 95 = .ok (.aload_n 0, 1) := by decide +kernel
theorem dX8_findSets_96 : decode cX8_findSets 96 = .ok (.iconst 0, 1) := by decide +kernel
theorem dX8_findSets_97 : decode cX8_findSets 97 = .ok (.putfield 132, 3) := by decide +kernel
theorem dX8_findSets_100 : decode cX8_findSets 100 = .ok (.aload_n 0, 1) := by decide +kernel
theorem dX8_findSets_101 : decode cX8_findSets 101 = .ok (.iconst (-1), 1) := by decide +kernel
theorem dX8_findSets_102 : decode cX8_findSets 102 = .ok (.putfield 135, 3) := by decide +kernel
theorem dX8_findSets_105 : decode cX8_findSets 105 = .ok (.aload_n 0, 1) := by decide +kernel
theorem dX8_findSets_106 : decode cX8_findSets 106 = .ok (.iconst 0, 1) := by decide +kernel
theorem dX8_findSets_107 : decode cX8_findSets 107 = .ok (.putfield 138, 3) := by decide +kernel
theorem dX8_findSets_110 : decode cX8_findSets 110 = .ok (.aload_n 0, 1) := by decide +kernel
theorem dX8_findSets_111 : decode cX8_findSets 111 = .ok (.iconst 0, 1) := by decide +kernel
theorem dX8_findSets_112 : decode cX8_findSets 112 = .ok (.iconst 0, 1) := by decide +kernel
theorem dX8_findSets_113 : decode cX8_findSets 113 = .ok (.iload_n 2, 1) := by decide +kernel
theorem dX8_findSets_114 : decode cX8_findSets 114 = .ok (.invokestatic 141, 3) := by decide +kernel
theorem dX8_findSets_117 : decode cX8_findSets 117 = .ok (.return_, 1) := by decide +kernel
theorem dX8_chooseSets_0 : decode cX8_chooseSets 0 = .ok (.aload_n 0, 1) := by decide +kernel
theorem dX8_chooseSets_1 : decode cX8_chooseSets 1 = .ok (.getfield 25, 3) := by decide +kernel
theorem dX8_chooseSets_4 : decode cX8_chooseSets 4 = .ok (.getfield 39, 3) := by decide +kernel
theorem dX8_chooseSets_7 : decode cX8_chooseSets 7 = .ok (.astore 4, 2) := by decide +kernel
theorem dX8_chooseSets_9 : decode cX8_chooseSets 9 = .ok (.iload_n 1, 1) := by decide +kernel
theorem dX8_chooseSets_10 : decode cX8_chooseSets 10 = .ok (.aload 4, 2) := by decide +kernel
theorem dX8_chooseSets_12 : decode cX8_chooseSets 12 = .ok (.getfield 57, 3) := by decide +kernel
theorem dX8_chooseSets_15 : decode cX8_chooseSets 15 = .ok (.iconst 1, 1) := by decide +kernel
theorem dX8_chooseSets_16 : decode cX8_chooseSets 16 = .ok (.iaload, 1) := by decide +kernel
theorem dX8_chooseSets_17 : decode cX8_chooseSets 17 = .ok (.if_icmp .lt 13, 3) := by decide +kernel
theorem dX8_chooseSets_20 : decode cX8_chooseSets 20 = .ok (.iload_n 3, 1) := by decide +kernel
theorem dX8_chooseSets_21 : decode cX8_chooseSets 21 = .ok (.ifCond .ne 8, 3) := by decide +kernel
theorem dX8_chooseSets_24 : decode cX8_chooseSets 24 = .ok (.aload_n 0, 1) := by decide +kernel
theorem dX8_chooseSets_25 : decode cX8_chooseSets 25 = .ok (.iload_n 2, 1) := by decide +kernel
theorem dX8_chooseSets_26 : decode cX8_chooseSets 26 = .ok (.invokevirtual 145, 3) := by decide +kernel
theorem dX8_chooseSets_29 : decode cX8_chooseSets 29 = .ok (.return_, 1) := by decide +kernel
theorem dX8_chooseSets_30 : decode cX8_chooseSets 30 = .ok (.iload_n 3, 1) := by decide +kernel
theorem dX8_chooseSets_31 : decode cX8_chooseSets 31 = .ok (.aload_n 0, 1) := by decide +kernel
theorem dX8_chooseSets_32 : decode cX8_chooseSets 32 = .ok (.getfield 15, 3) := by decide +kernel
theorem dX8_chooseSets_35 : decode cX8_chooseSets 35 = .ok (.iload_n 1, 1) := by decide +kernel
theorem dX8_chooseSets_36 : decode cX8_chooseSets 36 = .ok (.iaload, 1) := by decide +kernel
theorem dX8_chooseSets_37 : decode cX8_chooseSets 37 = .ok (.if_icmp .le 4, 3) := by decide +kernel
theorem dX8_chooseSets_40 : decode cX8_chooseSets 40 = .ok (.return_, 1) := by decide +kernel
theorem dX8_chooseSets_41 : decode cX8_chooseSets 41 = .ok (.aload_n 0, 1) := by decide +kernel
theorem dX8_chooseSets_42 : decode cX8_chooseSets 42 = .ok (.getfield 9, 3) := by decide +kernel
theorem dX8_chooseSets_45 : decode cX8_chooseSets 45 = .ok (.iload_n 1, 1) := by decide +kernel
theorem dX8_chooseSets_46 : decode cX8_chooseSets 46 = .ok (.iaload, 1) := by decide +kernel
theorem dX8_chooseSets_47 : decode cX8_chooseSets 47 = .ok (.iload_n 3, 1) := by decide +kernel
theorem dX8_chooseSets_48 : decode cX8_chooseSets 48 = .ok (.if_icmp .gt 33, 3) := by decide +kernel
theorem dX8_chooseSets_51 : decode cX8_chooseSets 51 = .ok (.aload 4, 2) := by decide +kernel
theorem dX8_chooseSets_53 : decode cX8_chooseSets 53 = .ok (.iload_n 2, 1) := by decide +kernel
theorem dX8_chooseSets_54 : decode cX8_chooseSets 54 = .ok (.iload_n 1, 1) := by decide +kernel
theorem dX8_chooseSets_55 : decode cX8_chooseSets 55 = .ok (.invokevirtual 115, 3) := by decide +kernel
theorem dX8_chooseSets_58 : decode cX8_chooseSets 58 = .ok (.ifCond .eq 23, 3) := by decide +kernel
theorem dX8_chooseSets_61 : decode cX8_chooseSets 61 = .ok (.aload_n 0, 1) := by decide +kernel
theorem dX8_chooseSets_62 : decode cX8_chooseSets 62 = .ok (.iload_n 1, 1) := by decide +kernel
theorem dX8_chooseSets_63 : decode cX8_chooseSets 63 = .ok (.iconst 1, 1) := by decide +kernel
theorem dX8_chooseSets_64 : decode cX8_chooseSets 64 = .ok (.iadd, 1) := by decide +kernel
theorem dX8_chooseSets_65 : decode cX8_chooseSets 65 = .ok (.iload_n 2, 1) := by decide +kernel
theorem dX8_chooseSets_66 : decode cX8_chooseSets 66 = .ok (.iconst 1, 1) := by decide +kernel
theorem dX8_chooseSets_67 : decode cX8_chooseSets 67 = .ok (.iload_n 1, 1) := by decide +kernel
theorem dX8_chooseSets_68 : decode cX8_chooseSets 68 = .ok (.ishl, 1) := by decide +kernel
theorem dX8_chooseSets_69 : decode cX8_chooseSets 69 = .ok (.ior, 1) := by decide +kernel
theorem dX8_chooseSets_70 : decode cX8_chooseSets 70 = .ok (.iload_n 3, 1) := by decide +kernel
theorem dX8_chooseSets_71 : decode cX8_chooseSets 71 = .ok (.aload_n 0, 1) := by decide +kernel
theorem dX8_chooseSets_72 : decode cX8_chooseSets 72 = .ok (.getfield 9, 3) := by decide +kernel
theorem dX8_chooseSets_75 : decode cX8_chooseSets 75 = .ok (.iload_n 1, 1) := by decide +kernel
theorem dX8_chooseSets_76 : decode cX8_chooseSets 76 = .ok (.iaload, 1) := by decide +kernel
theorem dX8_chooseSets_77 : decode cX8_chooseSets 77 = .ok (.isub, 1) := by decide +kernel
theorem dX8_chooseSets_78 : decode cX8_chooseSets 78 = .ok (.invokestatic 141, 3) := by decide +kernel
theorem dX8_chooseSets_81 : decode cX8_chooseSets 81 = .ok (.aload_n 0, 1) := by decide +kernel
theorem dX8_chooseSets_82 : decode cX8_chooseSets 82 = .ok (.iload_n 1, 1) := by decide +kernel
theorem dX8_chooseSets_83 : decode cX8_chooseSets 83 = .ok (.iconst 1, 1) := by decide +kernel
theorem dX8_chooseSets_84 : decode cX8_chooseSets 84 = .ok (.iadd, 1) := by decide +kernel
theorem dX8_chooseSets_85 : decode cX8_chooseSets 85 = .ok (.iload_n 2, 1) := by decide +kernel
theorem dX8_chooseSets_86 : decode cX8_chooseSets 86 = .ok (.iload_n 3, 1) := by decide +kernel
theorem dX8_chooseSets_87 : decode cX8_chooseSets 87 = .ok (.invokestatic 141, 3) := by decide +kernel
theorem dX8_chooseSets_90 : decode cX8_chooseSets 90 = .ok (.return_, 1) := by decide +kernel
theorem dX8_addSet_0 : decode cX8_addSet 0 = .ok (.aload_n 0, 1) := by decide +kernel
theorem dX8_addSet_1 : decode cX8_addSet 1 = .ok (.dup, 1) := by decide +kernel
theorem dX8_addSet_2 : decode cX8_addSet 2 = .ok (.getfield 132, 3) := by decide +kernel
theorem dX8_addSet_5 : decode cX8_addSet 5 = .ok (.iconst 1, 1) := by decide +kernel
theorem dX8_addSet_6 : decode cX8_addSet 6 = .ok (.iadd, 1) := by decide +kernel
theorem dX8_addSet_7 : decode cX8_addSet 7 = .ok (.putfield 132, 3) := by decide +kernel
theorem dX8_addSet_10 : decode cX8_addSet 10 = .ok (.aload_n 0, 1) := by decide +kernel
theorem dX8_addSet_11 : decode cX8_addSet 11 = .ok (.dup, 1) := by decide +kernel
theorem dX8_addSet_12 : decode cX8_addSet 12 = .ok (.getfield 135, 3) := by decide +kernel
theorem dX8_addSet_15 : decode cX8_addSet 15 = .ok (.iload_n 1, 1) := by decide +kernel
theorem dX8_addSet_16 : decode cX8_addSet 16 = .ok (.iand, 1) := by decide +kernel
theorem dX8_addSet_17 : decode cX8_addSet 17 = .ok (.putfield 135, 3) := by decide +kernel
theorem dX8_addSet_20 : decode cX8_addSet 20 = .ok (.aload_n 0, 1) := by decide +kernel
theorem dX8_addSet_21 : decode cX8_addSet 21 = .ok (.dup, 1) := by decide +kernel
theorem dX8_addSet_22 : decode cX8_addSet 22 = .ok (.getfield 138, 3) := by decide +kernel
theorem dX8_addSet_25 : decode cX8_addSet 25 = .ok (.iload_n 1, 1) := by decide +kernel
theorem dX8_addSet_26 : decode cX8_addSet 26 = .ok (.ior, 1) := by decide +kernel
theorem dX8_addSet_27 : decode cX8_addSet 27 = .ok (.putfield 138, 3) := by decide +kernel
theorem dX8_addSet_30 : decode cX8_addSet 30 = .ok (.return_, 1) := by decide +kernel
theorem dX9_init_0 : decode cX9_init 0 = .ok (.aload_n 0, 1) := by decide +kernel
theorem dX9_init_1 : decode cX9_init 1 = .ok (.invokespecial 3, 3) := by decide +kernel
theorem dX9_init_4 : decode cX9_init 4 = .ok (.aload_n 0, 1) := by decide +kernel
theorem dX9_init_5 : decode cX9_init 5 = .ok (.bipush 64, 2) := by decide +kernel
theorem dX9_init_7 : decode cX9_init 7 = .ok (.newarray .int, 2) := by decide +kernel
theorem dX9_init_9 : decode cX9_init 9 = .ok (.putfield 9, 3) := by decide +kernel
theorem dX9_init_12 : decode cX9_init 12 = .ok (.aload_n 0, 1) := by decide +kernel
theorem dX9_init_13 : decode cX9_init 13 = .ok (.bipush 25, 2) := by decide +kernel
theorem dX9_init_15 : decode cX9_init 15 = .ok (.newarray .int, 2) := by decide +kernel
theorem dX9_init_17 : decode cX9_init 17 = .ok (.putfield 15, 3) := by decide +kernel
theorem dX9_init_20 : decode cX9_init 20 = .ok (.aload_n 0, 1) := by decide +kernel
theorem dX9_init_21 : decode cX9_init 21 = .ok (.aload_n 1, 1) := by decide +kernel
theorem dX9_init_22 : decode cX9_init 22 = .ok (.putfield 18, 3) := by decide +kernel
theorem dX9_init_25 : decode cX9_init 25 = .ok (.return_, 1) := by decide +kernel
theorem dX9_setNow_0 : decode cX9_setNow 0 = .ok (.aload_n 0, 1) := by decide +kernel
theorem dX9_setNow_1 : decode cX9_setNow 1 = .ok (.getfield 18, 3) := by decide +kernel
theorem dX9_setNow_4 : decode cX9_setNow 4 = .ok (.iload_n 1, 1) := by decide +kernel
theorem dX9_setNow_5 : decode cX9_setNow 5 = .ok (.iconst 0, 1) := by decide +kernel
theorem dX9_setNow_6 : decode cX9_setNow 6 = .ok (.invokevirtual 22, 3) := by decide +kernel
theorem dX9_setNow_9 : decode cX9_setNow 9 = .ok (.istore_n 2, 1) := by decide +kernel
theorem dX9_setNow_10 : decode cX9_setNow 10 = .ok (.aload_n 0, 1) := by decide +kernel
theorem dX9_setNow_11 : decode cX9_setNow 11 = .ok (.iload_n 1, 1) := by decide +kernel
theorem dX9_setNow_12 : decode cX9_setNow 12 = .ok (.aload_n 0, 1) := by decide +kernel
theorem dX9_setNow_13 : decode cX9_setNow 13 = .ok (.getfield 18, 3) := by decide +kernel
theorem dX9_setNow_16 : decode cX9_setNow 16 = .ok (.getfield 28, 3) := by decide +kernel
theorem dX9_setNow_19 : decode cX9_setNow 19 = .ok (.getfield 32, 3) := by decide +kernel
theorem dX9_setNow_22 : decode cX9_setNow 22 = .ok (.iload_n 2, 1) := by decide +kernel
theorem dX9_setNow_23 : decode cX9_setNow 23 = .ok (.iaload, 1) := by decide +kernel
theorem dX9_setNow_24 : decode cX9_setNow 24 = .ok (.aload_n 0, 1) := by decide +kernel
theorem dX9_setNow_25 : decode cX9_setNow 25 = .ok (.getfield 18, 3) := by decide +kernel
theorem dX9_setNow_28 : decode cX9_setNow 28 = .ok (.iload_n 2, 1) := by decide +kernel
theorem dX9_setNow_29 : decode cX9_setNow 29 = .ok (.invokevirtual 37, 3) := by decide +kernel
theorem dX9_setNow_32 : decode cX9_setNow 32 = .ok (.aload_n 0, 1) := by decide +kernel
theorem dX9_setNow_33 : decode cX9_setNow 33 = .ok (.getfield 18, 3) := by decide +kernel
theorem dX9_setNow_36 : decode cX9_setNow 36 = .ok (.iload_n 1, 1) := by decide +kernel
theorem dX9_setNow_37 : decode cX9_setNow 37 = .ok (.invokevirtual 41, 3) := by decide +kernel
theorem dX9_setNow_40 : decode cX9_setNow 40 = .ok (.invokestatic 44, 3) := by decide +kernel
theorem dX9_setNow_43 : decode cX9_setNow 43 = .ok (.invokevirtual 49, 3) := by decide +kernel
theorem dX9_setNow_46 : decode cX9_setNow 46 = .ok (.return_, 1) := by decide +kernel
theorem dX9_setAt_0 : decode cX9_setAt 0 = .ok (.aload_n 0, 1) := by decide +kernel
theorem dX9_setAt_1 : decode cX9_setAt 1 = .ok (.getfield 15, 3) := by decide +kernel
theorem dX9_setAt_4 : decode cX9_setAt 4 = .ok (.bipush 7, 2) := by decide +kernel
theorem dX9_setAt_6 : decode cX9_setAt 6 = .ok (.aload_n 0, 1) := by decide +kernel
theorem dX9_setAt_7 : decode cX9_setAt 7 = .ok (.getfield 18, 3) := by decide +kernel
theorem dX9_setAt_10 : decode cX9_setAt 10 = .ok (.getfield 28, 3) := by decide +kernel
theorem dX9_setAt_13 : decode cX9_setAt 13 = .ok (.getfield 53, 3) := by decide +kernel
theorem dX9_setAt_16 : decode cX9_setAt 16 = .ok (.iload_n 1, 1) := by decide +kernel
theorem dX9_setAt_17 : decode cX9_setAt 17 = .ok (.iaload, 1) := by decide +kernel
theorem dX9_setAt_18 : decode cX9_setAt 18 = .ok (.iastore, 1) := by decide +kernel
theorem dX9_setAt_19 : decode cX9_setAt 19 = .ok (.aload_n 0, 1) := by decide +kernel
theorem dX9_setAt_20 : decode cX9_setAt 20 = .ok (.getfield 15, 3) := by decide +kernel
theorem dX9_setAt_23 : decode cX9_setAt 23 = .ok (.bipush 8, 2) := by decide +kernel
theorem dX9_setAt_25 : decode cX9_setAt 25 = .ok (.aload_n 0, 1) := by decide +kernel
theorem dX9_setAt_26 : decode cX9_setAt 26 = .ok (.getfield 18, 3) := by decide +kernel
theorem dX9_setAt_29 : decode cX9_setAt 29 = .ok (.getfield 28, 3) := by decide +kernel
theorem dX9_setAt_32 : decode cX9_setAt 32 = .ok (.getfield 56, 3) := by decide +kernel
theorem dX9_setAt_35 : decode cX9_setAt 35 = .ok (.iload_n 1, 1) := by decide +kernel
theorem dX9_setAt_36 : decode cX9_setAt 36 = .ok (.iaload, 1) := by decide +kernel
theorem dX9_setAt_37 : decode cX9_setAt 37 = .ok (.iastore, 1) := by decide +kernel
theorem dX9_setAt_38 : decode cX9_setAt 38 = .ok (.aload_n 0, 1) := by decide +kernel
theorem dX9_setAt_39 : decode cX9_setAt 39 = .ok (.getfield 15, 3) := by decide +kernel
theorem dX9_setAt_42 : decode cX9_setAt 42 = .ok (.bipush 16, 2) := by decide +kernel
theorem dX9_setAt_44 : decode cX9_setAt 44 = .ok (.iload 4, 2) := by decide +kernel
theorem dX9_setAt_46 : decode cX9_setAt 46 = .ok (.iastore, 1) := by decide +kernel
theorem dX9_setAt_47 : decode cX9_setAt 47 = .ok (.aload_n 0, 1) := by decide +kernel
theorem dX9_setAt_48 : decode cX9_setAt 48 = .ok (.getfield 15, 3) := by decide +kernel
theorem dX9_setAt_51 : decode cX9_setAt 51 = .ok (.bipush 10, 2) := by decide +kernel
theorem dX9_setAt_53 : decode cX9_setAt 53 = .ok (.iload_n 2, 1) := by decide +kernel
theorem dX9_setAt_54 : decode cX9_setAt 54 = .ok (.iastore, 1) := by decide +kernel
theorem dX9_setAt_55 : decode cX9_setAt 55 = .ok (.aload_n 0, 1) := by decide +kernel
theorem dX9_setAt_56 : decode cX9_setAt 56 = .ok (.getfield 15, 3) := by decide +kernel
theorem dX9_setAt_59 : decode cX9_setAt 59 = .ok (.bipush 17, 2) := by decide +kernel
theorem dX9_setAt_61 : decode cX9_setAt 61 = .ok (.iload_n 3, 1) := by decide +kernel
theorem dX9_setAt_62 : decode cX9_setAt 62 = .ok (.iastore, 1) := by decide +kernel
theorem dX9_setAt_63 : decode cX9_setAt 63 = .ok (.aload_n 0, 1) := by decide +kernel
theorem dX9_setAt_64 : decode cX9_setAt 64 = .ok (.getfield 15, 3) := by decide +kernel
theorem dX9_setAt_67 : decode cX9_setAt 67 = .ok (.bipush 11, 2) := by decide +kernel
theorem dX9_setAt_69 : decode cX9_setAt 69 = .ok (.aload_n 0, 1) := by decide +kernel
theorem dX9_setAt_70 : decode cX9_setAt 70 = .ok (.getfield 18, 3) := by decide +kernel
theorem dX9_setAt_73 : decode cX9_setAt 73 = .ok (.getfield 28, 3) := by decide +kernel
theorem dX9_setAt_76 : decode cX9_setAt 76 = .ok (.getfield 59, 3) := by decide +kernel
theorem dX9_setAt_79 : decode cX9_setAt 79 = .ok (.iastore, 1) := by decide +kernel
theorem dX9_setAt_80 : decode cX9_setAt 80 = .ok (.aload_n 0, 1) := by decide +kernel
theorem dX9_setAt_81 : decode cX9_setAt 81 = .ok (.getfield 15, 3) := by decide +kernel
theorem dX9_setAt_84 : decode cX9_setAt 84 = .ok (.bipush 18, 2) := by decide +kernel
theorem dX9_setAt_86 : decode cX9_setAt 86 = .ok (.aload_n 0, 1) := by decide +kernel
theorem dX9_setAt_87 : decode cX9_setAt 87 = .ok (.getfield 18, 3) := by decide +kernel
theorem dX9_setAt_90 : decode cX9_setAt 90 = .ok (.getfield 63, 3) := by decide +kernel
theorem dX9_setAt_93 : decode cX9_setAt 93 = .ok (.iconst 0, 1) := by decide +kernel
theorem dX9_setAt_94 : decode cX9_setAt 94 = .ok (.iaload, 1) := by decide +kernel
theorem dX9_setAt_95 : decode cX9_setAt 95 = .ok (.iastore, 1) := by decide +kernel
theorem dX9_setAt_96 : decode cX9_setAt 96 = .ok (.return_, 1) := by decide +kernel
theorem dX9_inchMinutes_0 : decode cX9_inchMinutes 0 = .ok (.aload_n 0, 1) := by decide +kernel
theorem dX9_inchMinutes_1 : decode cX9_inchMinutes 1 = .ok (.getfield 18, 3) := by decide +kernel
theorem dX9_inchMinutes_4 : decode cX9_inchMinutes 4 = .ok (.getfield 28, 3) := by decide +kernel
theorem dX9_inchMinutes_7 : decode cX9_inchMinutes 7 = .ok (.iconst 0, 1) := by decide +kernel
theorem dX9_inchMinutes_8 : decode cX9_inchMinutes 8 = .ok (.invokevirtual 66, 3) := by decide +kernel
theorem dX9_inchMinutes_11 : decode cX9_inchMinutes 11 = .ok (.ifCond .ne 14, 3) := by decide +kernel
theorem dX9_inchMinutes_14 : decode cX9_inchMinutes 14 = .ok (.aload_n 0, 1) := by decide +kernel
theorem dX9_inchMinutes_15 : decode cX9_inchMinutes 15 = .ok (.getfield 18, 3) := by decide +kernel
theorem dX9_inchMinutes_18 : decode cX9_inchMinutes 18 = .ok (.getfield 28, 3) := by decide +kernel
theorem dX9_inchMinutes_21 : decode cX9_inchMinutes 21 = .ok (.getfield 59, 3) := by decide +kernel
theorem dX9_inchMinutes_24 : decode cX9_inchMinutes 24 = .ok (.ireturn, 1) := by decide +kernel
theorem dX9_inchMinutes_25 : decode cX9_inchMinutes 25 = .ok (.aload_n 0, 1) := by decide +kernel
theorem dX9_inchMinutes_26 : decode cX9_inchMinutes 26 = .ok (.getfield 15, 3) := by decide +kernel
theorem dX9_inchMinutes_29 : decode cX9_inchMinutes 29 = .ok (.iconst 3, 1) := by decide +kernel
theorem dX9_inchMinutes_30 : decode cX9_inchMinutes 30 = .ok (.iconst 0, 1) := by decide +kernel
theorem dX9_inchMinutes_31 : decode cX9_inchMinutes 31 = .ok (.iastore, 1) := by decide +kernel
theorem dX9_inchMinutes_32 : decode cX9_inchMinutes 32 = .ok (.aload_n 0, 1) := by decide +kernel
theorem dX9_inchMinutes_33 : decode cX9_inchMinutes 33 = .ok (.getfield 15, 3) := by decide +kernel
theorem dX9_inchMinutes_36 : decode cX9_inchMinutes 36 = .ok (.bipush 15, 2) := by decide +kernel
theorem dX9_inchMinutes_38 : decode cX9_inchMinutes 38 = .ok (.iconst 0, 1) := by decide +kernel
theorem dX9_inchMinutes_39 : decode cX9_inchMinutes 39 = .ok (.iastore, 1) := by decide +kernel
theorem dX9_inchMinutes_40 : decode cX9_inchMinutes 40 = .ok (.iconst 0, 1) := by decide +kernel
theorem dX9_inchMinutes_41 : decode cX9_inchMinutes 41 = .ok (.sipush 500, 3) := by decide +kernel
theorem dX9_inchMinutes_44 : decode cX9_inchMinutes 44 = .ok (.aload_n 0, 1) := by decide +kernel
theorem dX9_inchMinutes_45 : decode cX9_inchMinutes 45 = .ok (.iconst 0, 1) := by decide +kernel
theorem dX9_inchMinutes_46 : decode cX9_inchMinutes 46 = .ok (.invokevirtual 70, 3) := by decide +kernel
theorem dX9_inchMinutes_49 : decode cX9_inchMinutes 49 = .ok (.invokestatic 73, 3) := by decide +kernel
theorem dX9_inchMinutes_52 : decode cX9_inchMinutes 52 = .ok (.invokestatic 78, 3) := by decide +kernel
theorem dX9_inchMinutes_55 : decode cX9_inchMinutes 55 = .ok (.ireturn, 1) := by decide +kernel
theorem dX9_pageMinutes_0 : decode cX9_pageMinutes 0 = .ok (.aload_n 0, 1) := by decide +kernel
theorem dX9_pageMinutes_1 : decode cX9_pageMinutes 1 = .ok (.getfield 18, 3) := by decide +kernel
theorem dX9_pageMinutes_4 : decode cX9_pageMinutes 4 = .ok (.getfield 28, 3) := by decide +kernel
theorem dX9_pageMinutes_7 : decode cX9_pageMinutes 7 = .ok (.iconst 1, 1) := by decide +kernel
theorem dX9_pageMinutes_8 : decode cX9_pageMinutes 8 = .ok (.invokevirtual 66, 3) := by decide +kernel
theorem dX9_pageMinutes_11 : decode cX9_pageMinutes 11 = .ok (.ifCond .ne 16, 3) := by decide +kernel
theorem dX9_pageMinutes_14 : decode cX9_pageMinutes 14 = .ok (.aload_n 0, 1) := by decide +kernel
theorem dX9_pageMinutes_15 : decode cX9_pageMinutes 15 = .ok (.getfield 18, 3) := by decide +kernel
theorem dX9_pageMinutes_18 : decode cX9_pageMinutes 18 = .ok (.getfield 28, 3) := by decide +kernel
theorem dX9_pageMinutes_21 : decode cX9_pageMinutes 21 = .ok (.getfield 81, 3) := by decide +kernel
theorem dX9_pageMinutes_24 : decode cX9_pageMinutes 24 = .ok (.iload_n 1, 1) := by decide +kernel
theorem dX9_pageMinutes_25 : decode cX9_pageMinutes 25 = .ok (.iaload, 1) := by decide +kernel
theorem dX9_pageMinutes_26 : decode cX9_pageMinutes 26 = .ok (.ireturn, 1) := by decide +kernel
theorem dX9_pageMinutes_27 : decode cX9_pageMinutes 27 = .ok (.aload_n 0, 1) := by decide +kernel
theorem dX9_pageMinutes_28 : decode cX9_pageMinutes 28 = .ok (.iload_n 1, 1) := by decide +kernel
theorem dX9_pageMinutes_29 : decode cX9_pageMinutes 29 = .ok (.invokevirtual 84, 3) := by decide +kernel
theorem dX9_pageMinutes_32 : decode cX9_pageMinutes 32 = .ok (.iconst 1, 1) := by decide +kernel
theorem dX9_pageMinutes_33 : decode cX9_pageMinutes 33 = .ok (.sipush 500, 3) := by decide +kernel
theorem dX9_pageMinutes_36 : decode cX9_pageMinutes 36 = .ok (.aload_n 0, 1) := by decide +kernel
theorem dX9_pageMinutes_37 : decode cX9_pageMinutes 37 = .ok (.iconst 1, 1) := by decide +kernel
theorem dX9_pageMinutes_38 : decode cX9_pageMinutes 38 = .ok (.invokevirtual 70, 3) := by decide +kernel
theorem dX9_pageMinutes_41 : decode cX9_pageMinutes 41 = .ok (.invokestatic 73, 3) := by decide +kernel
theorem dX9_pageMinutes_44 : decode cX9_pageMinutes 44 = .ok (.invokestatic 78, 3) := by decide +kernel
theorem dX9_pageMinutes_47 : decode cX9_pageMinutes 47 = .ok (.ireturn, 1) := by decide +kernel
theorem dX9_mayHear_0 : decode cX9_mayHear 0 = .ok (.aload_n 0, 1) := by decide +kernel
theorem dX9_mayHear_1 : decode cX9_mayHear 1 = .ok (.getfield 18, 3) := by decide +kernel
theorem dX9_mayHear_4 : decode cX9_mayHear 4 = .ok (.getfield 28, 3) := by decide +kernel
theorem dX9_mayHear_7 : decode cX9_mayHear 7 = .ok (.iconst 2, 1) := by decide +kernel
theorem dX9_mayHear_8 : decode cX9_mayHear 8 = .ok (.invokevirtual 66, 3) := by decide +kernel
theorem dX9_mayHear_11 : decode cX9_mayHear 11 = .ok (.ifCond .ne 5, 3) := by decide +kernel
theorem dX9_mayHear_14 : decode cX9_mayHear 14 = .ok (.iconst 1, 1) := by decide +kernel
theorem dX9_mayHear_15 : decode cX9_mayHear 15 = .ok (.ireturn, 1) := by decide +kernel
theorem dX9_mayHear_16 : decode cX9_mayHear 16 = .ok (.aload_n 0, 1) := by decide +kernel
theorem dX9_mayHear_17 : decode cX9_mayHear 17 = .ok (.iload_n 1, 1) := by decide +kernel
theorem dX9_mayHear_18 : decode cX9_mayHear 18 = .ok (.invokevirtual 84, 3) := by decide +kernel
theorem dX9_mayHear_21 : decode cX9_mayHear 21 = .ok (.aload_n 0, 1) := by decide +kernel
theorem dX9_mayHear_22 : decode cX9_mayHear 22 = .ok (.iconst 2, 1) := by decide +kernel
theorem dX9_mayHear_23 : decode cX9_mayHear 23 = .ok (.invokevirtual 70, 3) := by decide +kernel
theorem dX9_mayHear_26 : decode cX9_mayHear 26 = .ok (.ifCond .eq 7, 3) := by decide +kernel
theorem dX9_mayHear_29 : decode cX9_mayHear 29 = .ok (.iconst 1, 1) := by decide +kernel
theorem dX9_mayHear_30 : decode cX9_mayHear 30 = .ok (.goto 4, 3) := by decide +kernel
theorem dX9_mayHear_33 : decode cX9_mayHear 33 = .ok (.iconst 0, 1) := by decide +kernel
theorem dX9_mayHear_34 : decode cX9_mayHear 34 = .ok (.ireturn, 1) := by decide +kernel
theorem dX9_lightAt_0 : decode cX9_lightAt 0 = .ok (.iconst 0, 1) := by decide +kernel
theorem dX9_lightAt_1 : decode cX9_lightAt 1 = .ok (.istore_n 3, 1) := by decide +kernel
theorem dX9_lightAt_2 : decode cX9_lightAt 2 = .ok (.aload_n 0, 1) := by decide +kernel
theorem dX9_lightAt_3 : decode cX9_lightAt 3 = .ok (.getfield 18, 3) := by decide +kernel
theorem dX9_lightAt_6 : decode cX9_lightAt 6 = .ok (.iload_n 1, 1) := by decide +kernel
theorem dX9_lightAt_7 : decode cX9_lightAt 7 = .ok (.invokevirtual 37, 3) := by decide +kernel
theorem dX9_lightAt_10 : decode cX9_lightAt 10 = .ok (.istore 4, 2) := by decide +kernel
theorem dX9_lightAt_12 : decode cX9_lightAt 12 = .ok (.iconst 0, 1) := by decide +kernel
theorem dX9_lightAt_13 : decode cX9_lightAt 13 = .ok (.istore 5, 2) := by decide +kernel
theorem dX9_lightAt_15 : decode cX9_lightAt 15 = .ok (.iload 5, 2) := by decide +kernel
theorem dX9_lightAt_17 : decode cX9_lightAt 17 = .ok (.aload_n 0, 1) := by decide +kernel
theorem dX9_lightAt_18 : decode cX9_lightAt 18 = .ok (.getfield 18, 3) := by decide +kernel
theorem dX9_lightAt_21 : decode cX9_lightAt 21 = .ok (.getfield 28, 3) := by decide +kernel
theorem dX9_lightAt_24 : decode cX9_lightAt 24 = .ok (.getfield 88, 3) := by decide +kernel
theorem dX9_lightAt_27 : decode cX9_lightAt 27 = .ok (.iconst 2, 1) := by decide +kernel
theorem dX9_lightAt_28 : decode cX9_lightAt 28 = .ok (.iaload, 1) := by decide +kernel
theorem dX9_lightAt_29 : decode cX9_lightAt 29 = .ok (.if_icmp .ge 51, 3) := by decide +kernel
theorem dX9_lightAt_32 : decode cX9_lightAt 32 = .ok (.aload_n 0, 1) := by decide +kernel
theorem dX9_lightAt_33 : decode cX9_lightAt 33 = .ok (.getfield 18, 3) := by decide +kernel
theorem dX9_lightAt_36 : decode cX9_lightAt 36 = .ok (.iload 5, 2) := by decide +kernel
theorem dX9_lightAt_38 : decode cX9_lightAt 38 = .ok (.iconst 0, 1) := by decide +kernel
theorem dX9_lightAt_39 : decode cX9_lightAt 39 = .ok (.invokevirtual 22, 3) := by decide +kernel
theorem dX9_lightAt_42 : decode cX9_lightAt 42 = .ok (.iload_n 1, 1) := by decide +kernel
theorem dX9_lightAt_43 : decode cX9_lightAt 43 = .ok (.if_icmp .ne 31, 3) := by decide +kernel
theorem dX9_lightAt_46 : decode cX9_lightAt 46 = .ok (.aload_n 0, 1) := by decide +kernel
theorem dX9_lightAt_47 : decode cX9_lightAt 47 = .ok (.iload 5, 2) := by decide +kernel
theorem dX9_lightAt_49 : decode cX9_lightAt 49 = .ok (.iload_n 2, 1) := by decide +kernel
theorem dX9_lightAt_50 : decode cX9_lightAt 50 = .ok (.iload 4, 2) := by decide +kernel
theorem dX9_lightAt_52 : decode cX9_lightAt 52 = .ok (.aload_n 0, 1) := by decide +kernel
theorem dX9_lightAt_53 : decode cX9_lightAt 53 = .ok (.getfield 18, 3) := by decide +kernel
theorem dX9_lightAt_56 : decode cX9_lightAt 56 = .ok (.iload 5, 2) := by decide +kernel
theorem dX9_lightAt_58 : decode cX9_lightAt 58 = .ok (.invokevirtual 41, 3) := by decide +kernel
theorem dX9_lightAt_61 : decode cX9_lightAt 61 = .ok (.invokestatic 44, 3) := by decide +kernel
theorem dX9_lightAt_64 : decode cX9_lightAt 64 = .ok (.invokevirtual 49, 3) := by decide +kernel
theorem dX9_lightAt_67 : decode cX9_lightAt 67 = .ok (.iload_n 3, 1) := by decide +kernel
theorem dX9_lightAt_68 : decode cX9_lightAt 68 = .ok (.aload_n 0, 1) := by decide +kernel
theorem dX9_lightAt_69 : decode cX9_lightAt 69 = .ok (.invokevirtual 91, 3) := by decide +kernel
theorem dX9_lightAt_72 : decode cX9_lightAt 72 = .ok (.iadd, 1) := by decide +kernel
theorem dX9_lightAt_73 : decode cX9_lightAt 73 = .ok (.istore_n 3, 1) := by decide +kernel
theorem dX9_lightAt_74 : decode cX9_lightAt 74 = .ok (.iinc 5 1, 3) := by decide +kernel
theorem dX9_lightAt_77 : decode cX9_lightAt 77 = .ok (.goto (-62), 3) := by decide +kernel
theorem dX9_lightAt_80 : decode cX9_lightAt 80 = .ok (.iload_n 3, 1) := by decide +kernel
theorem dX9_lightAt_81 : decode cX9_lightAt 81 = .ok (.ireturn, 1) := by decide +kernel
theorem dX9_setPage_0 : decode cX9_setPage 0 = .ok (.aload_n 0, 1) := by decide +kernel
theorem dX9_setPage_1 : decode cX9_setPage 1 = .ok (.getfield 15, 3) := by decide +kernel
theorem dX9_setPage_4 : decode cX9_setPage 4 = .ok (.iconst 3, 1) := by decide +kernel
theorem dX9_setPage_5 : decode cX9_setPage 5 = .ok (.aload_n 0, 1) := by decide +kernel
theorem dX9_setPage_6 : decode cX9_setPage 6 = .ok (.getfield 18, 3) := by decide +kernel
theorem dX9_setPage_9 : decode cX9_setPage 9 = .ok (.getfield 28, 3) := by decide +kernel
theorem dX9_setPage_12 : decode cX9_setPage 12 = .ok (.getfield 81, 3) := by decide +kernel
theorem dX9_setPage_15 : decode cX9_setPage 15 = .ok (.iload_n 1, 1) := by decide +kernel
theorem dX9_setPage_16 : decode cX9_setPage 16 = .ok (.iaload, 1) := by decide +kernel
theorem dX9_setPage_17 : decode cX9_setPage 17 = .ok (.iastore, 1) := by decide +kernel
theorem dX9_setPage_18 : decode cX9_setPage 18 = .ok (.aload_n 0, 1) := by decide +kernel
theorem dX9_setPage_19 : decode cX9_setPage 19 = .ok (.getfield 15, 3) := by decide +kernel
theorem dX9_setPage_22 : decode cX9_setPage 22 = .ok (.bipush 15, 2) := by decide +kernel
theorem dX9_setPage_24 : decode cX9_setPage 24 = .ok (.aload_n 0, 1) := by decide +kernel
theorem dX9_setPage_25 : decode cX9_setPage 25 = .ok (.getfield 18, 3) := by decide +kernel
theorem dX9_setPage_28 : decode cX9_setPage 28 = .ok (.getfield 28, 3) := by decide +kernel
theorem dX9_setPage_31 : decode cX9_setPage 31 = .ok (.getfield 95, 3) := by decide +kernel
theorem dX9_setPage_34 : decode cX9_setPage 34 = .ok (.iload_n 1, 1) := by decide +kernel
theorem dX9_setPage_35 : decode cX9_setPage 35 = .ok (.iaload, 1) := by decide +kernel
theorem dX9_setPage_36 : decode cX9_setPage 36 = .ok (.iastore, 1) := by decide +kernel
theorem dX9_setPage_37 : decode cX9_setPage 37 = .ok (.return_, 1) := by decide +kernel
theorem dX9_run_0 : decode cX9_run 0 = .ok (.aload_n 0, 1) := by decide +kernel
theorem dX9_run_1 : decode cX9_run 1 = .ok (.getfield 18, 3) := by decide +kernel
theorem dX9_run_4 : decode cX9_run 4 = .ok (.getfield 28, 3) := by decide +kernel
theorem dX9_run_7 : decode cX9_run 7 = .ok (.getfield 98, 3) := by decide +kernel
theorem dX9_run_10 : decode cX9_run 10 = .ok (.astore_n 2, 1) := by decide +kernel
theorem dX9_run_11 : decode cX9_run 11 = .ok (.aload_n 0, 1) := by decide +kernel
theorem dX9_run_12 : decode cX9_run 12 = .ok (.getfield 18, 3) := by decide +kernel
theorem dX9_run_15 : decode cX9_run 15 = .ok (.getfield 28, 3) := by decide +kernel
theorem dX9_run_18 : decode cX9_run 18 = .ok (.getfield 101, 3) := by decide +kernel
theorem dX9_run_21 : decode cX9_run 21 = .ok (.iload_n 1, 1) := by decide +kernel
theorem dX9_run_22 : decode cX9_run 22 = .ok (.iaload, 1) := by decide +kernel
theorem dX9_run_23 : decode cX9_run 23 = .ok (.aload_n 2, 1) := by decide +kernel
theorem dX9_run_24 : decode cX9_run 24 = .ok (.arraylength, 1) := by decide +kernel
theorem dX9_run_25 : decode cX9_run 25 = .ok (.invokestatic 73, 3) := by decide +kernel
theorem dX9_run_28 : decode cX9_run 28 = .ok (.istore_n 3, 1) := by decide +kernel
theorem dX9_run_29 : decode cX9_run 29 = .ok (.iconst 0, 1) := by decide +kernel
theorem dX9_run_30 : decode cX9_run 30 = .ok (.istore 4, 2) := by decide +kernel
theorem dX9_run_32 : decode cX9_run 32 = .ok (.aload_n 0, 1) := by decide +kernel
theorem dX9_run_33 : decode cX9_run 33 = .ok (.getfield 9, 3) := by decide +kernel
theorem dX9_run_36 : decode cX9_run 36 = .ok (.iconst 0, 1) := by decide +kernel
theorem dX9_run_37 : decode cX9_run 37 = .ok (.iconst 0, 1) := by decide +kernel
theorem dX9_run_38 : decode cX9_run 38 = .ok (.iastore, 1) := by decide +kernel
theorem dX9_run_39 : decode cX9_run 39 = .ok (.aload_n 0, 1) := by decide +kernel
theorem dX9_run_40 : decode cX9_run 40 = .ok (.getfield 18, 3) := by decide +kernel
theorem dX9_run_43 : decode cX9_run 43 = .ok (.getfield 28, 3) := by decide +kernel
theorem dX9_run_46 : decode cX9_run 46 = .ok (.getfield 104, 3) := by decide +kernel
theorem dX9_run_49 : decode cX9_run 49 = .ok (.iload_n 1, 1) := by decide +kernel
theorem dX9_run_50 : decode cX9_run 50 = .ok (.iaload, 1) := by decide +kernel
theorem dX9_run_51 : decode cX9_run 51 = .ok (.istore 5, 2) := by decide +kernel
theorem dX9_run_53 : decode cX9_run 53 = .ok (.iload 5, 2) := by decide +kernel
theorem dX9_run_55 : decode cX9_run 55 = .ok (.iload_n 3, 1) := by decide +kernel
theorem dX9_run_56 : decode cX9_run 56 = .ok (.if_icmp .ge 147, 3) := by decide +kernel
theorem dX9_run_59 : decode cX9_run 59 = .ok (.aload_n 2, 1) := by decide +kernel
theorem dX9_run_60 : decode cX9_run 60 = .ok (.iload 5, 2) := by decide +kernel
theorem dX9_run_62 : decode cX9_run 62 = .ok (.iaload, 1) := by decide +kernel
theorem dX9_run_63 : decode cX9_run 63 = .ok (.istore 6, 2) := by decide +kernel
theorem dX9_run_65 : decode cX9_run 65 = .ok (.iload 6, 2) := by decide +kernel
theorem dX9_run_67 : decode cX9_run 67 = .ok (.sipush 10100, 3) := by decide +kernel
theorem dX9_run_70 : decode cX9_run 70 = .ok (.if_icmp .ge 50, 3) := by decide +kernel
theorem dX9_run_73 : decode cX9_run 73 = .ok (.iload 4, 2) := by decide +kernel
theorem dX9_run_75 : decode cX9_run 75 = .ok (.aload_n 0, 1) := by decide +kernel
theorem dX9_run_76 : decode cX9_run 76 = .ok (.getfield 9, 3) := by decide +kernel
theorem dX9_run_79 : decode cX9_run 79 = .ok (.arraylength, 1) := by decide +kernel
theorem dX9_run_80 : decode cX9_run 80 = .ok (.if_icmp .ge 117, 3) := by decide +kernel
theorem dX9_run_83 : decode cX9_run 83 = .ok (.aload_n 0, 1) := by decide +kernel
theorem dX9_run_84 : decode cX9_run 84 = .ok (.getfield 9, 3) := by decide +kernel
theorem dX9_run_87 : decode cX9_run 87 = .ok (.iload 4, 2) := by decide +kernel
theorem dX9_run_89 : decode cX9_run 89 = .ok (.iload 6, 2) := by decide +kernel
theorem dX9_run_91 : decode cX9_run 91 = .ok (.sipush 10000, 3) := by decide +kernel
theorem dX9_run_94 : decode cX9_run 94 = .ok (.if_icmp .ge 8, 3) := by decide +kernel
theorem dX9_run_97 : decode cX9_run 97 = .ok (.iload 6, 2) := by decide +kernel
theorem dX9_run_99 : decode cX9_run 99 = .ok (.goto 14, 3) := by decide +kernel
theorem dX9_run_102 : decode cX9_run 102 = .ok (.aload_n 0, 1) := by decide +kernel
theorem dX9_run_103 : decode cX9_run 103 = .ok (.getfield 15, 3) := by decide +kernel
theorem dX9_run_106 : decode cX9_run 106 = .ok (.iload 6, 2) := by decide +kernel
theorem dX9_run_108 : decode cX9_run 108 = .ok (.sipush 10000, 3) := by decide +kernel
theorem dX9_run_111 : decode cX9_run 111 = .ok (.isub, 1) := by decide +kernel
theorem dX9_run_112 : decode cX9_run 112 = .ok (.iaload, 1) := by decide +kernel
theorem dX9_run_113 : decode cX9_run 113 = .ok (.iastore, 1) := by decide +kernel
theorem dX9_run_114 : decode cX9_run 114 = .ok (.iinc 4 1, 3) := by decide +kernel
theorem dX9_run_117 : decode cX9_run 117 = .ok (.goto 80, 3) := by decide +kernel
theorem dX9_run_120 : decode cX9_run 120 = .ok (.iload 6, 2) := by decide +kernel
theorem dX9_run_122 : decode cX9_run 122 = .ok (.sipush 10112, 3) := by decide +kernel
theorem dX9_run_125 : decode cX9_run 125 = .ok (.if_icmp .ne 31, 3) := by decide +kernel
theorem dX9_run_128 : decode cX9_run 128 = .ok (.iload 4, 2) := by decide +kernel
theorem dX9_run_130 : decode cX9_run 130 = .ok (.ifCond .le 67, 3) := by decide +kernel
theorem dX9_run_133 : decode cX9_run 133 = .ok (.aload_n 0, 1) := by decide +kernel
theorem dX9_run_134 : decode cX9_run 134 = .ok (.getfield 9, 3) := by decide +kernel
theorem dX9_run_137 : decode cX9_run 137 = .ok (.iload 4, 2) := by decide +kernel
theorem dX9_run_139 : decode cX9_run 139 = .ok (.iconst 1, 1) := by decide +kernel
theorem dX9_run_140 : decode cX9_run 140 = .ok (.isub, 1) := by decide +kernel
theorem dX9_run_141 : decode cX9_run 141 = .ok (.iconst 1, 1) := by decide +kernel
theorem dX9_run_142 : decode cX9_run 142 = .ok (.aload_n 0, 1) := by decide +kernel
theorem dX9_run_143 : decode cX9_run 143 = .ok (.getfield 9, 3) := by decide +kernel
theorem dX9_run_146 : decode cX9_run 146 = .ok (.iload 4, 2) := by decide +kernel
theorem dX9_run_148 : decode cX9_run 148 = .ok (.iconst 1, 1) := by decide +kernel
theorem dX9_run_149 : decode cX9_run 149 = .ok (.isub, 1) := by decide +kernel
theorem dX9_run_150 : decode cX9_run 150 = .ok (.iaload, 1) := by decide +kernel
theorem dX9_run_151 : decode cX9_run 151 = .ok (.isub, 1) := by decide +kernel
theorem dX9_run_152 : decode cX9_run 152 = .ok (.iastore, 1) := by decide +kernel
theorem dX9_run_153 : decode cX9_run 153 = .ok (.goto 44, 3) := by decide +kernel
theorem dX9_run_156 : decode cX9_run 156 = .ok (.iload 4, 2) := by decide +kernel
theorem dX9_run_158 : decode cX9_run 158 = .ok (.iconst 1, 1) := by decide +kernel
theorem dX9_run_159 : decode cX9_run 159 = .ok (.if_icmp .le 38, 3) := by decide +kernel
theorem dX9_run_162 : decode cX9_run 162 = .ok (.iinc 4 (-1), 3) := by decide +kernel
theorem dX9_run_165 : decode cX9_run 165 = .ok (.aload_n 0, 1) := by decide +kernel
theorem dX9_run_166 : decode cX9_run 166 = .ok (.getfield 9, 3) := by decide +kernel
theorem dX9_run_169 : decode cX9_run 169 = .ok (.iload 4, 2) := by decide +kernel
theorem dX9_run_171 : decode cX9_run 171 = .ok (.iconst 1, 1) := by decide +kernel
theorem dX9_run_172 : decode cX9_run 172 = .ok (.isub, 1) := by decide +kernel
theorem dX9_run_173 : decode cX9_run 173 = .ok (.iload 6, 2) := by decide +kernel
theorem dX9_run_175 : decode cX9_run 175 = .ok (.aload_n 0, 1) := by decide +kernel
theorem dX9_run_176 : decode cX9_run 176 = .ok (.getfield 9, 3) := by decide +kernel
theorem dX9_run_179 : decode cX9_run 179 = .ok (.iload 4, 2) := by decide +kernel
theorem dX9_run_181 : decode cX9_run 181 = .ok (.iconst 1, 1) := by decide +kernel
theorem dX9_run_182 : decode cX9_run 182 = .ok (.isub, 1) := by decide +kernel
theorem dX9_run_183 : decode cX9_run 183 = .ok (.iaload, 1) := by decide +kernel
theorem dX9_run_184 : decode cX9_run 184 = .ok (.i2l, 1) := by decide +kernel
theorem dX9_run_185 : decode cX9_run 185 = .ok (.aload_n 0, 1) := by decide +kernel
theorem dX9_run_186 : decode cX9_run 186 = .ok (.getfield 9, 3) := by decide +kernel
theorem dX9_run_189 : decode cX9_run 189 = .ok (.iload 4, 2) := by decide +kernel
theorem dX9_run_191 : decode cX9_run 191 = .ok (.iaload, 1) := by decide +kernel
theorem dX9_run_192 : decode cX9_run 192 = .ok (.i2l, 1) := by decide +kernel
theorem dX9_run_193 : decode cX9_run 193 = .ok (.invokestatic 107, 3) := by decide +kernel
theorem dX9_run_196 : decode cX9_run 196 = .ok (.iastore, 1) := by decide +kernel
theorem dX9_run_197 : decode cX9_run 197 = .ok (.iinc 5 1, 3) := by decide +kernel
theorem dX9_run_200 : decode cX9_run 200 = .ok (.goto (-147), 3) := by decide +kernel
theorem dX9_run_203 : decode cX9_run 203 = .ok (.aload_n 0, 1) := by decide +kernel
theorem dX9_run_204 : decode cX9_run 204 = .ok (.getfield 9, 3) := by decide +kernel
theorem dX9_run_207 : decode cX9_run 207 = .ok (.iconst 0, 1) := by decide +kernel
theorem dX9_run_208 : decode cX9_run 208 = .ok (.iaload, 1) := by decide +kernel
theorem dX9_run_209 : decode cX9_run 209 = .ok (.ireturn, 1) := by decide +kernel
theorem dX9_join_0 : decode cX9_join 0 = .ok (.iload_n 0, 1) := by decide +kernel
theorem dX9_join_1 : decode cX9_join 1 = .ok (.tableswitch 191 10100 10110 #[59, 66, 73, 80, 99, 118, 133, 148, 160, 172, 184], 59) := by decide +kernel
theorem dX9_join_60 : decode cX9_join 60 = .ok (.lload_n 1, 1) := by decide +kernel
theorem dX9_join_61 : decode cX9_join 61 = .ok (.lload_n 3, 1) := by decide +kernel
theorem dX9_join_62 : decode cX9_join 62 = .ok (.ladd, 1) := by decide +kernel
theorem dX9_join_63 : decode cX9_join 63 = .ok (.invokestatic 111, 3) := by decide +kernel
theorem dX9_join_66 : decode cX9_join 66 = .ok (.ireturn, 1) := by decide +kernel
theorem dX9_join_67 : decode cX9_join 67 = .ok (.lload_n 1, 1) := by decide +kernel
theorem dX9_join_68 : decode cX9_join 68 = .ok (.lload_n 3, 1) := by decide +kernel
theorem dX9_join_69 : decode cX9_join 69 = .ok (.lsub, 1) := by decide +kernel
theorem dX9_join_70 : decode cX9_join 70 = .ok (.invokestatic 111, 3) := by decide +kernel
theorem dX9_join_73 : decode cX9_join 73 = .ok (.ireturn, 1) := by decide +kernel
theorem dX9_join_74 : decode cX9_join 74 = .ok (.lload_n 1, 1) := by decide +kernel
theorem dX9_join_75 : decode cX9_join 75 = .ok (.lload_n 3, 1) := by decide +kernel
theorem dX9_join_76 : decode cX9_join 76 = .ok (.lmul, 1) := by decide +kernel
theorem dX9_join_77 : decode cX9_join 77 = .ok (.invokestatic 111, 3) := by decide +kernel
theorem dX9_join_80 : decode cX9_join 80 = .ok (.ireturn, 1) := by decide +kernel
theorem dX9_join_81 : decode cX9_join 81 = .ok (.lload_n 3, 1) := by decide +kernel
theorem dX9_join_82 : decode cX9_join 82 = .ok (.lconst 0, 1) := by decide +kernel
theorem dX9_join_83 : decode cX9_join 83 = .ok (.lcmp, 1) := by decide +kernel
theorem dX9_join_84 : decode cX9_join 84 = .ok (.ifCond .ne 7, 3) := by decide +kernel
theorem dX9_join_87 : decode cX9_join 87 = .ok (.iconst 0, 1) := by decide +kernel
theorem dX9_join_88 : decode cX9_join 88 = .ok (.goto 11, 3) := by decide +kernel
theorem dX9_join_91 : decode cX9_join 91 = .ok (.lload_n 1, 1) := by decide +kernel
theorem dX9_join_92 : decode cX9_join 92 = .ok (.lload_n 3, 1) := by decide +kernel
theorem dX9_join_93 : decode cX9_join 93 = .ok (.invokestatic 115, 3) := by decide +kernel
theorem dX9_join_96 : decode cX9_join 96 = .ok (.invokestatic 111, 3) := by decide +kernel
theorem dX9_join_99 : decode cX9_join 99 = .ok (.ireturn, 1) := by decide +kernel
theorem dX9_join_100 : decode cX9_join 100 = .ok (.lload_n 3, 1) := by decide +kernel
theorem dX9_join_101 : decode cX9_join 101 = .ok (.lconst 0, 1) := by decide +kernel
theorem dX9_join_102 : decode cX9_join 102 = .ok (.lcmp, 1) := by decide +kernel
theorem dX9_join_103 : decode cX9_join 103 = .ok (.ifCond .ne 7, 3) := by decide +kernel
theorem dX9_join_106 : decode cX9_join 106 = .ok (.iconst 0, 1) := by decide +kernel
theorem dX9_join_107 : decode cX9_join 107 = .ok (.goto 11, 3) := by decide +kernel
theorem dX9_join_110 : decode cX9_join 110 = .ok (.lload_n 1, 1) := by decide +kernel
theorem dX9_join_111 : decode cX9_join 111 = .ok (.lload_n 3, 1) := by decide +kernel
theorem dX9_join_112 : decode cX9_join 112 = .ok (.invokestatic 119, 3) := by decide +kernel
theorem dX9_join_115 : decode cX9_join 115 = .ok (.invokestatic 111, 3) := by decide +kernel
theorem dX9_join_118 : decode cX9_join 118 = .ok (.ireturn, 1) := by decide +kernel
theorem dX9_join_119 : decode cX9_join 119 = .ok (.lload_n 1, 1) := by decide +kernel
theorem dX9_join_120 : decode cX9_join 120 = .ok (.lload_n 3, 1) := by decide +kernel
theorem dX9_join_121 : decode cX9_join 121 = .ok (.lcmp, 1) := by decide +kernel
theorem dX9_join_122 : decode cX9_join 122 = .ok (.ifCond .ge 7, 3) := by decide +kernel
theorem dX9_join_125 : decode cX9_join 125 = .ok (.lload_n 1, 1) := by decide +kernel
theorem dX9_join_126 : decode cX9_join 126 = .ok (.goto 4, 3) := by decide +kernel
theorem dX9_join_129 : decode cX9_join 129 = .ok (.lload_n 3, 1) := by decide +kernel
theorem dX9_join_130 : decode cX9_join 130 = .ok (.invokestatic 111, 3) := by decide +kernel
theorem dX9_join_133 : decode cX9_join 133 = .ok (.ireturn, 1) := by decide +kernel
theorem dX9_join_134 : decode cX9_join 134 = .ok (.lload_n 1, 1) := by decide +kernel
theorem dX9_join_135 : decode cX9_join 135 = .ok (.lload_n 3, 1) := by decide +kernel
theorem dX9_join_136 : decode cX9_join 136 = .ok (.lcmp, 1) := by decide +kernel
theorem dX9_join_137 : decode cX9_join 137 = .ok (.ifCond .le 7, 3) := by decide +kernel
theorem dX9_join_140 : decode cX9_join 140 = .ok (.lload_n 1, 1) := by decide +kernel
theorem dX9_join_141 : decode cX9_join 141 = .ok (.goto 4, 3) := by decide +kernel
theorem dX9_join_144 : decode cX9_join 144 = .ok (.lload_n 3, 1) := by decide +kernel
theorem dX9_join_145 : decode cX9_join 145 = .ok (.invokestatic 111, 3) := by decide +kernel
theorem dX9_join_148 : decode cX9_join 148 = .ok (.ireturn, 1) := by decide +kernel
theorem dX9_join_149 : decode cX9_join 149 = .ok (.lload_n 1, 1) := by decide +kernel
theorem dX9_join_150 : decode cX9_join 150 = .ok (.lload_n 3, 1) := by decide +kernel
theorem dX9_join_151 : decode cX9_join 151 = .ok (.lcmp, 1) := by decide +kernel
theorem dX9_join_152 : decode cX9_join 152 = .ok (.ifCond .ge 7, 3) := by decide +kernel
theorem dX9_join_155 : decode cX9_join 155 = .ok (.iconst 1, 1) := by decide +kernel
theorem dX9_join_156 : decode cX9_join 156 = .ok (.goto 4, 3) := by decide +kernel
theorem dX9_join_159 : decode cX9_join 159 = .ok (.iconst 0, 1) := by decide +kernel
theorem dX9_join_160 : decode cX9_join 160 = .ok (.ireturn, 1) := by decide +kernel
theorem dX9_join_161 : decode cX9_join 161 = .ok (.lload_n 1, 1) := by decide +kernel
theorem dX9_join_162 : decode cX9_join 162 = .ok (.lload_n 3, 1) := by decide +kernel
theorem dX9_join_163 : decode cX9_join 163 = .ok (.lcmp, 1) := by decide +kernel
theorem dX9_join_164 : decode cX9_join 164 = .ok (.ifCond .le 7, 3) := by decide +kernel
theorem dX9_join_167 : decode cX9_join 167 = .ok (.iconst 1, 1) := by decide +kernel
theorem dX9_join_168 : decode cX9_join 168 = .ok (.goto 4, 3) := by decide +kernel
theorem dX9_join_171 : decode cX9_join 171 = .ok (.iconst 0, 1) := by decide +kernel
theorem dX9_join_172 : decode cX9_join 172 = .ok (.ireturn, 1) := by decide +kernel
theorem dX9_join_173 : decode cX9_join 173 = .ok (.lload_n 1, 1) := by decide +kernel
theorem dX9_join_174 : decode cX9_join 174 = .ok (.lload_n 3, 1) := by decide +kernel
theorem dX9_join_175 : decode cX9_join 175 = .ok (.lcmp, 1) := by decide +kernel
theorem dX9_join_176 : decode cX9_join 176 = .ok (.ifCond .ne 7, 3) := by decide +kernel
theorem dX9_join_179 : decode cX9_join 179 = .ok (.iconst 1, 1) := by decide +kernel
theorem dX9_join_180 : decode cX9_join 180 = .ok (.goto 4, 3) := by decide +kernel
theorem dX9_join_183 : decode cX9_join 183 = .ok (.iconst 0, 1) := by decide +kernel
theorem dX9_join_184 : decode cX9_join 184 = .ok (.ireturn, 1) := by decide +kernel
theorem dX9_join_185 : decode cX9_join 185 = .ok (.lload_n 1, 1) := by decide +kernel
theorem dX9_join_186 : decode cX9_join 186 = .ok (.lload_n 3, 1) := by decide +kernel
theorem dX9_join_187 : decode cX9_join 187 = .ok (.land, 1) := by decide +kernel
theorem dX9_join_188 : decode cX9_join 188 = .ok (.invokestatic 111, 3) := by decide +kernel
theorem dX9_join_191 : decode cX9_join 191 = .ok (.ireturn, 1) := by decide +kernel
theorem dX9_join_192 : decode cX9_join 192 = .ok (.lload_n 1, 1) := by decide +kernel
theorem dX9_join_193 : decode cX9_join 193 = .ok (.lload_n 3, 1) := by decide +kernel
theorem dX9_join_194 : decode cX9_join 194 = .ok (.lor, 1) := by decide +kernel
theorem dX9_join_195 : decode cX9_join 195 = .ok (.invokestatic 111, 3) := by decide +kernel
theorem dX9_join_198 : decode cX9_join 198 = .ok (.ireturn, 1) := by decide +kernel
theorem dX9_bounded_0 : decode cX9_bounded 0 = .ok (.lload_n 0, 1) := by decide +kernel
theorem dX9_bounded_1 : decode cX9_bounded 1 = .ok (.ldc2_w 122, 3) := by decide +kernel
theorem dX9_bounded_4 : decode cX9_bounded 4 = .ok (.lcmp, 1) := by decide +kernel
theorem dX9_bounded_5 : decode cX9_bounded 5 = .ok (.ifCond .le 6, 3) := by decide +kernel
theorem dX9_bounded_8 : decode cX9_bounded 8 = .ok (.ldc 124, 2) := by decide +kernel
theorem dX9_bounded_10 : decode cX9_bounded 10 = .ok (.ireturn, 1) := by decide +kernel
theorem dX9_bounded_11 : decode cX9_bounded 11 = .ok (.lload_n 0, 1) := by decide +kernel
theorem dX9_bounded_12 : decode cX9_bounded 12 = .ok (.ldc2_w 125, 3) := by decide +kernel
theorem dX9_bounded_15 : decode cX9_bounded 15 = .ok (.lcmp, 1) := by decide +kernel
theorem dX9_bounded_16 : decode cX9_bounded 16 = .ok (.ifCond .ge 8, 3) := by decide +kernel
theorem dX9_bounded_19 : decode cX9_bounded 19 = .ok (.ldc 127, 2) := by decide +kernel
theorem dX9_bounded_21 : decode cX9_bounded 21 = .ok (.goto 5, 3) := by decide +kernel
theorem dX9_bounded_24 : decode cX9_bounded 24 = .ok (.lload_n 0, 1) := by decide +kernel
theorem dX9_bounded_25 : decode cX9_bounded 25 = .ok (.l2i, 1) := by decide +kernel
theorem dX9_bounded_26 : decode cX9_bounded 26 = .ok (.ireturn, 1) := by decide +kernel
theorem dX10_init_0 : decode cX10_init 0 = .ok (.aload_n 0, 1) := by decide +kernel
theorem dX10_init_1 : decode cX10_init 1 = .ok (.invokespecial 3, 3) := by decide +kernel
theorem dX10_init_4 : decode cX10_init 4 = .ok (.aload_n 0, 1) := by decide +kernel
theorem dX10_init_5 : decode cX10_init 5 = .ok (.sipush 1600, 3) := by decide +kernel
theorem dX10_init_8 : decode cX10_init 8 = .ok (.newarray .int, 2) := by decide +kernel
theorem dX10_init_10 : decode cX10_init 10 = .ok (.putfield 9, 3) := by decide +kernel
theorem dX10_init_13 : decode cX10_init 13 = .ok (.return_, 1) := by decide +kernel
theorem dX10_put_0 : decode cX10_put 0 = .ok (.bipush 24, 2) := by decide +kernel
theorem dX10_put_2 : decode cX10_put 2 = .ok (.istore_n 2, 1) := by decide +kernel
theorem dX10_put_3 : decode cX10_put 3 = .ok (.iload_n 2, 1) := by decide +kernel
theorem dX10_put_4 : decode cX10_put 4 = .ok (.ifCond .lt 45, 3) := by decide +kernel
theorem dX10_put_7 : decode cX10_put 7 = .ok (.aload_n 0, 1) := by decide +kernel
theorem dX10_put_8 : decode cX10_put 8 = .ok (.getfield 15, 3) := by decide +kernel
theorem dX10_put_11 : decode cX10_put 11 = .ok (.sipush 1600, 3) := by decide +kernel
theorem dX10_put_14 : decode cX10_put 14 = .ok (.if_icmp .ge 35, 3) := by decide +kernel
theorem dX10_put_17 : decode cX10_put 17 = .ok (.aload_n 0, 1) := by decide +kernel
theorem dX10_put_18 : decode cX10_put 18 = .ok (.getfield 9, 3) := by decide +kernel
theorem dX10_put_21 : decode cX10_put 21 = .ok (.aload_n 0, 1) := by decide +kernel
theorem dX10_put_22 : decode cX10_put 22 = .ok (.getfield 15, 3) := by decide +kernel
theorem dX10_put_25 : decode cX10_put 25 = .ok (.iload_n 1, 1) := by decide +kernel
theorem dX10_put_26 : decode cX10_put 26 = .ok (.iload_n 2, 1) := by decide +kernel
theorem dX10_put_27 : decode cX10_put 27 = .ok (.iushr, 1) := by decide +kernel
theorem dX10_put_28 : decode cX10_put 28 = .ok (.sipush 255, 3) := by decide +kernel
theorem dX10_put_31 : decode cX10_put 31 = .ok (.iand, 1) := by decide +kernel
theorem dX10_put_32 : decode cX10_put 32 = .ok (.iastore, 1) := by decide +kernel
theorem dX10_put_33 : decode cX10_put 33 = .ok (.aload_n 0, 1) := by decide +kernel
theorem dX10_put_34 : decode cX10_put 34 = .ok (.dup, 1) := by decide +kernel
theorem dX10_put_35 : decode cX10_put 35 = .ok (.getfield 15, 3) := by decide +kernel
theorem dX10_put_38 : decode cX10_put 38 = .ok (.iconst 1, 1) := by decide +kernel
theorem dX10_put_39 : decode cX10_put 39 = .ok (.iadd, 1) := by decide +kernel
theorem dX10_put_40 : decode cX10_put 40 = .ok (.putfield 15, 3) := by decide +kernel
theorem dX10_put_43 : decode cX10_put 43 = .ok (.iinc 2 (-8), 3) := by decide +kernel
theorem dX10_put_46 : decode cX10_put 46 = .ok (.goto (-43), 3) := by decide +kernel
theorem dX10_put_49 : decode cX10_put 49 = .ok (.return_, 1) := by decide +kernel
theorem dX10_byteAt_0 : decode cX10_byteAt 0 = .ok (.iload_n 1, 1) := by decide +kernel
theorem dX10_byteAt_1 : decode cX10_byteAt 1 = .ok (.ifCond .lt 20, 3) := by decide +kernel
theorem dX10_byteAt_4 : decode cX10_byteAt 4 = .ok (.iload_n 1, 1) := by decide +kernel
theorem dX10_byteAt_5 : decode cX10_byteAt 5 = .ok (.aload_n 0, 1) := by decide +kernel
theorem dX10_byteAt_6 : decode cX10_byteAt 6 = .ok (.getfield 15, 3) := by decide +kernel
theorem dX10_byteAt_9 : decode cX10_byteAt 9 = .ok (.if_icmp .ge 12, 3) := by decide +kernel
theorem dX10_byteAt_12 : decode cX10_byteAt 12 = .ok (.aload_n 0, 1) := by decide +kernel
theorem dX10_byteAt_13 : decode cX10_byteAt 13 = .ok (.getfield 9, 3) := by decide +kernel
theorem dX10_byteAt_16 : decode cX10_byteAt 16 = .ok (.iload_n 1, 1) := by decide +kernel
theorem dX10_byteAt_17 : decode cX10_byteAt 17 = .ok (.iaload, 1) := by decide +kernel
theorem dX10_byteAt_18 : decode cX10_byteAt 18 = .ok (.goto 4, 3) := by decide +kernel
theorem dX10_byteAt_21 : decode cX10_byteAt 21 = .ok (.iconst (-1), 1) := by decide +kernel
theorem dX10_byteAt_22 : decode cX10_byteAt 22 = .ok (.ireturn, 1) := by decide +kernel
theorem dX10_rewind_0 : decode cX10_rewind 0 = .ok (.aload_n 0, 1) := by decide +kernel
theorem dX10_rewind_1 : decode cX10_rewind 1 = .ok (.iconst 0, 1) := by decide +kernel
theorem dX10_rewind_2 : decode cX10_rewind 2 = .ok (.putfield 19, 3) := by decide +kernel
theorem dX10_rewind_5 : decode cX10_rewind 5 = .ok (.aload_n 0, 1) := by decide +kernel
theorem dX10_rewind_6 : decode cX10_rewind 6 = .ok (.iconst 0, 1) := by decide +kernel
theorem dX10_rewind_7 : decode cX10_rewind 7 = .ok (.putfield 22, 3) := by decide +kernel
theorem dX10_rewind_10 : decode cX10_rewind 10 = .ok (.aload_n 0, 1) := by decide +kernel
theorem dX10_rewind_11 : decode cX10_rewind 11 = .ok (.invokevirtual 25, 3) := by decide +kernel
theorem dX10_rewind_14 : decode cX10_rewind 14 = .ok (.return_, 1) := by decide +kernel
theorem dX10_step_0 : decode cX10_step 0 = .ok (.aload_n 0, 1) := by decide +kernel
theorem dX10_step_1 : decode cX10_step 1 = .ok (.getfield 22, 3) := by decide +kernel
theorem dX10_step_4 : decode cX10_step 4 = .ok (.iconst 1, 1) := by decide +kernel
theorem dX10_step_5 : decode cX10_step 5 = .ok (.if_icmp .eq 19, 3) := by decide +kernel
theorem dX10_step_8 : decode cX10_step 8 = .ok (.aload_n 0, 1) := by decide +kernel
theorem dX10_step_9 : decode cX10_step 9 = .ok (.getfield 22, 3) := by decide +kernel
theorem dX10_step_12 : decode cX10_step 12 = .ok (.iconst 2, 1) := by decide +kernel
theorem dX10_step_13 : decode cX10_step 13 = .ok (.if_icmp .eq 11, 3) := by decide +kernel
theorem dX10_step_16 : decode cX10_step 16 = .ok (.aload_n 0, 1) := by decide +kernel
theorem dX10_step_17 : decode cX10_step 17 = .ok (.getfield 22, 3) := by decide +kernel
theorem dX10_step_20 : decode cX10_step 20 = .ok (.iconst 3, 1) := by decide +kernel
theorem dX10_step_21 : decode cX10_step 21 = .ok (.if_icmp .ne 7, 3) := by decide +kernel
theorem dX10_step_24 : decode cX10_step 24 = .ok (.iconst 1, 1) := by decide +kernel
theorem dX10_step_25 : decode cX10_step 25 = .ok (.goto 4, 3) := by decide +kernel
theorem dX10_step_28 : decode cX10_step 28 = .ok (.iconst 0, 1) := by decide +kernel
theorem dX10_step_29 : decode cX10_step 29 = .ok (.istore_n 1, 1) := by decide +kernel
theorem dX10_step_30 : decode cX10_step 30 = .ok (.aload_n 0, 1) := by decide +kernel
theorem dX10_step_31 : decode cX10_step 31 = .ok (.aload_n 0, 1) := by decide +kernel
theorem dX10_step_32 : decode cX10_step 32 = .ok (.getfield 19, 3) := by decide +kernel
theorem dX10_step_35 : decode cX10_step 35 = .ok (.putfield 28, 3) := by decide +kernel
theorem dX10_step_38 : decode cX10_step 38 = .ok (.aload_n 0, 1) := by decide +kernel
theorem dX10_step_39 : decode cX10_step 39 = .ok (.getfield 28, 3) := by decide +kernel
theorem dX10_step_42 : decode cX10_step 42 = .ok (.aload_n 0, 1) := by decide +kernel
theorem dX10_step_43 : decode cX10_step 43 = .ok (.getfield 15, 3) := by decide +kernel
theorem dX10_step_46 : decode cX10_step 46 = .ok (.if_icmp .ge 44, 3) := by decide +kernel
theorem dX10_step_49 : decode cX10_step 49 = .ok (.aload_n 0, 1) := by decide +kernel
theorem dX10_step_50 : decode cX10_step 50 = .ok (.getfield 9, 3) := by decide +kernel
theorem dX10_step_53 : decode cX10_step 53 = .ok (.aload_n 0, 1) := by decide +kernel
theorem dX10_step_54 : decode cX10_step 54 = .ok (.getfield 28, 3) := by decide +kernel
theorem dX10_step_57 : decode cX10_step 57 = .ok (.iaload, 1) := by decide +kernel
theorem dX10_step_58 : decode cX10_step 58 = .ok (.bipush 10, 2) := by decide +kernel
theorem dX10_step_60 : decode cX10_step 60 = .ok (.if_icmp .eq 17, 3) := by decide +kernel
theorem dX10_step_63 : decode cX10_step 63 = .ok (.aload_n 0, 1) := by decide +kernel
theorem dX10_step_64 : decode cX10_step 64 = .ok (.getfield 9, 3) := by decide +kernel
theorem dX10_step_67 : decode cX10_step 67 = .ok (.aload_n 0, 1) := by decide +kernel
theorem dX10_step_68 : decode cX10_step 68 = .ok (.getfield 28, 3) := by decide +kernel
theorem dX10_step_71 : decode cX10_step 71 = .ok (.iaload, 1) := by decide +kernel
theorem dX10_step_72 : decode cX10_step 72 = .ok (.bipush 32, 2) := by decide +kernel
theorem dX10_step_74 : decode cX10_step 74 = .ok (.if_icmp .ne 16, 3) := by decide +kernel
theorem dX10_step_77 : decode cX10_step 77 = .ok (.aload_n 0, 1) := by decide +kernel
theorem dX10_step_78 : decode cX10_step 78 = .ok (.dup, 1) := by decide +kernel
theorem dX10_step_79 : decode cX10_step 79 = .ok (.getfield 28, 3) := by decide +kernel
theorem dX10_step_82 : decode cX10_step 82 = .ok (.iconst 1, 1) := by decide +kernel
theorem dX10_step_83 : decode cX10_step 83 = .ok (.iadd, 1) := by decide +kernel
theorem dX10_step_84 : decode cX10_step 84 = .ok (.putfield 28, 3) := by decide +kernel
theorem dX10_step_87 : decode cX10_step 87 = .ok (.goto (-49), 3) := by decide +kernel
theorem dX10_step_90 : decode cX10_step 90 = .ok (.iload_n 1, 1) := by decide +kernel
theorem dX10_step_91 : decode cX10_step 91 = .ok (.ifCond .eq 18, 3) := by decide +kernel
theorem dX10_step_94 : decode cX10_step 94 = .ok (.aload_n 0, 1) := by decide +kernel
theorem dX10_step_95 : decode cX10_step 95 = .ok (.getfield 28, 3) := by decide +kernel
theorem dX10_step_98 : decode cX10_step 98 = .ok (.aload_n 0, 1) := by decide +kernel
theorem dX10_step_99 : decode cX10_step 99 = .ok (.getfield 19, 3) := by decide +kernel
theorem dX10_step_102 : decode cX10_step 102 = .ok (.if_icmp .ne 7, 3) := by decide +kernel
theorem dX10_step_105 : decode cX10_step 105 = .ok (.iconst 1, 1) := by decide +kernel
theorem dX10_step_106 : decode cX10_step 106 = .ok (.goto 4, 3) := by decide +kernel
theorem dX10_step_109 : decode cX10_step 109 = .ok (.iconst 0, 1) := by decide +kernel
theorem dX10_step_110 : decode cX10_step 110 = .ok (.istore_n 2, 1) := by decide +kernel
theorem dX10_step_111 : decode cX10_step 111 = .ok (.aload_n 0, 1) := by decide +kernel
theorem dX10_step_112 : decode cX10_step 112 = .ok (.aload_n 0, 1) := by decide +kernel
theorem dX10_step_113 : decode cX10_step 113 = .ok (.getfield 28, 3) := by decide +kernel
theorem dX10_step_116 : decode cX10_step 116 = .ok (.invokevirtual 31, 3) := by decide +kernel
theorem dX10_step_119 : decode cX10_step 119 = .ok (.istore_n 3, 1) := by decide +kernel
theorem dX10_step_120 : decode cX10_step 120 = .ok (.iconst 1, 1) := by decide +kernel
theorem dX10_step_121 : decode cX10_step 121 = .ok (.istore 4, 2) := by decide +kernel
theorem dX10_step_123 : decode cX10_step 123 = .ok (.aload_n 0, 1) := by decide +kernel
theorem dX10_step_124 : decode cX10_step 124 = .ok (.iload_n 3, 1) := by decide +kernel
theorem dX10_step_125 : decode cX10_step 125 = .ok (.iconst (-1), 1) := by decide +kernel
theorem dX10_step_126 : decode cX10_step 126 = .ok (.if_icmp .ne 7, 3) := by decide +kernel
theorem dX10_step_129 : decode cX10_step 129 = .ok (.iconst 0, 1) := by decide +kernel
theorem dX10_step_130 : decode cX10_step 130 = .ok (.goto 4, 3) := by decide +kernel
theorem dX10_step_133 : decode cX10_step 133 = .ok (.iconst 4, 1) := by decide +kernel
theorem dX10_step_134 : decode cX10_step 134 = .ok (.putfield 22, 3) := by decide +kernel
theorem dX10_step_137 : decode cX10_step 137 = .ok (.aload_n 0, 1) := by decide +kernel
theorem dX10_step_138 : decode cX10_step 138 = .ok (.iload_n 3, 1) := by decide +kernel
theorem dX10_step_139 : decode cX10_step 139 = .ok (.putfield 35, 3) := by decide +kernel
theorem dX10_step_142 : decode cX10_step 142 = .ok (.aload_n 0, 1) := by decide +kernel
theorem dX10_step_143 : decode cX10_step 143 = .ok (.iload_n 3, 1) := by decide +kernel
theorem dX10_step_144 : decode cX10_step 144 = .ok (.iconst (-1), 1) := by decide +kernel
theorem dX10_step_145 : decode cX10_step 145 = .ok (.if_icmp .ne 10, 3) := by decide +kernel
theorem dX10_step_148 : decode cX10_step 148 = .ok (.aload_n 0, 1) := by decide +kernel
theorem dX10_step_149 : decode cX10_step 149 = .ok (.getfield 28, 3) := by decide +kernel
theorem dX10_step_152 : decode cX10_step 152 = .ok (.goto 9, 3) := by decide +kernel
theorem dX10_step_155 : decode cX10_step 155 = .ok (.aload_n 0, 1) := by decide +kernel
theorem dX10_step_156 : decode cX10_step 156 = .ok (.getfield 28, 3) := by decide +kernel
theorem dX10_step_159 : decode cX10_step 159 = .ok (.iconst 1, 1) := by decide +kernel
theorem dX10_step_160 : decode cX10_step 160 = .ok (.iadd, 1) := by decide +kernel
theorem dX10_step_161 : decode cX10_step 161 = .ok (.putfield 19, 3) := by decide +kernel
theorem dX10_step_164 : decode cX10_step 164 = .ok (.iload_n 3, 1) := by decide +kernel
theorem dX10_step_165 : decode cX10_step 165 = .ok (.invokestatic 38, 3) := by decide +kernel
theorem dX10_step_168 : decode cX10_step 168 = .ok (.ifCond .eq 56, 3) := by decide +kernel
theorem dX10_step_171 : decode cX10_step 171 = .ok (.aload_n 0, 1) := by decide +kernel
theorem dX10_step_172 : decode cX10_step 172 = .ok (.aload_n 0, 1) := by decide +kernel
theorem dX10_step_173 : decode cX10_step 173 = .ok (.invokevirtual 42, 3) := by decide +kernel
theorem dX10_step_176 : decode cX10_step 176 = .ok (.putfield 19, 3) := by decide +kernel
theorem dX10_step_179 : decode cX10_step 179 = .ok (.aload_n 0, 1) := by decide +kernel
theorem dX10_step_180 : decode cX10_step 180 = .ok (.aload_n 0, 1) := by decide +kernel
theorem dX10_step_181 : decode cX10_step 181 = .ok (.invokevirtual 46, 3) := by decide +kernel
theorem dX10_step_184 : decode cX10_step 184 = .ok (.putfield 35, 3) := by decide +kernel
theorem dX10_step_187 : decode cX10_step 187 = .ok (.aload_n 0, 1) := by decide +kernel
theorem dX10_step_188 : decode cX10_step 188 = .ok (.aload_n 0, 1) := by decide +kernel
theorem dX10_step_189 : decode cX10_step 189 = .ok (.getfield 35, 3) := by decide +kernel
theorem dX10_step_192 : decode cX10_step 192 = .ok (.iconst (-1), 1) := by decide +kernel
theorem dX10_step_193 : decode cX10_step 193 = .ok (.if_icmp .ne 7, 3) := by decide +kernel
theorem dX10_step_196 : decode cX10_step 196 = .ok (.iconst 1, 1) := by decide +kernel
theorem dX10_step_197 : decode cX10_step 197 = .ok (.goto 4, 3) := by decide +kernel
theorem dX10_step_200 : decode cX10_step 200 = .ok (.iconst 2, 1) := by decide +kernel
theorem dX10_step_201 : decode cX10_step 201 = .ok (.putfield 22, 3) := by decide +kernel
theorem dX10_step_204 : decode cX10_step 204 = .ok (.aload_n 0, 1) := by decide +kernel
theorem dX10_step_205 : decode cX10_step 205 = .ok (.getfield 35, 3) := by decide +kernel
theorem dX10_step_208 : decode cX10_step 208 = .ok (.iconst (-1), 1) := by decide +kernel
theorem dX10_step_209 : decode cX10_step 209 = .ok (.if_icmp .ne 8, 3) := by decide +kernel
theorem dX10_step_212 : decode cX10_step 212 = .ok (.bipush 6, 2) := by decide +kernel
theorem dX10_step_214 : decode cX10_step 214 = .ok (.goto 5, 3) := by decide +kernel
theorem dX10_step_217 : decode cX10_step 217 = .ok (.bipush 7, 2) := by decide +kernel
theorem dX10_step_219 : decode cX10_step 219 = .ok (.istore 4, 2) := by decide +kernel
theorem dX10_step_221 : decode cX10_step 221 = .ok (.goto 34, 3) := by decide +kernel
theorem dX10_step_224 : decode cX10_step 224 = .ok (.iload_n 3, 1) := by decide +kernel
theorem dX10_step_225 : decode cX10_step 225 = .ok (.invokestatic 49, 3) := by decide +kernel
theorem dX10_step_228 : decode cX10_step 228 = .ok (.ifCond .eq 27, 3) := by decide +kernel
theorem dX10_step_231 : decode cX10_step 231 = .ok (.aload_n 0, 1) := by decide +kernel
theorem dX10_step_232 : decode cX10_step 232 = .ok (.aload_n 0, 1) := by decide +kernel
theorem dX10_step_233 : decode cX10_step 233 = .ok (.invokevirtual 52, 3) := by decide +kernel
theorem dX10_step_236 : decode cX10_step 236 = .ok (.putfield 19, 3) := by decide +kernel
theorem dX10_step_239 : decode cX10_step 239 = .ok (.aload_n 0, 1) := by decide +kernel
theorem dX10_step_240 : decode cX10_step 240 = .ok (.aload_n 0, 1) := by decide +kernel
theorem dX10_step_241 : decode cX10_step 241 = .ok (.invokevirtual 55, 3) := by decide +kernel
theorem dX10_step_244 : decode cX10_step 244 = .ok (.putfield 35, 3) := by decide +kernel
theorem dX10_step_247 : decode cX10_step 247 = .ok (.aload_n 0, 1) := by decide +kernel
theorem dX10_step_248 : decode cX10_step 248 = .ok (.iconst 3, 1) := by decide +kernel
theorem dX10_step_249 : decode cX10_step 249 = .ok (.putfield 22, 3) := by decide +kernel
theorem dX10_step_252 : decode cX10_step 252 = .ok (.iconst 4, 1) := by decide +kernel
theorem dX10_step_253 : decode cX10_step 253 = .ok (.istore 4, 2) := by decide +kernel
theorem dX10_step_255 : decode cX10_step 255 = .ok (.aload_n 0, 1) := by decide +kernel
theorem dX10_step_256 : decode cX10_step 256 = .ok (.aload_n 0, 1) := by decide +kernel
theorem dX10_step_257 : decode cX10_step 257 = .ok (.getfield 28, 3) := by decide +kernel
theorem dX10_step_260 : decode cX10_step 260 = .ok (.putfield 58, 3) := by decide +kernel
theorem dX10_step_263 : decode cX10_step 263 = .ok (.iload_n 2, 1) := by decide +kernel
theorem dX10_step_264 : decode cX10_step 264 = .ok (.ifCond .eq 26, 3) := by decide +kernel
theorem dX10_step_267 : decode cX10_step 267 = .ok (.aload_n 0, 1) := by decide +kernel
theorem dX10_step_268 : decode cX10_step 268 = .ok (.getfield 22, 3) := by decide +kernel
theorem dX10_step_271 : decode cX10_step 271 = .ok (.iconst 4, 1) := by decide +kernel
theorem dX10_step_272 : decode cX10_step 272 = .ok (.if_icmp .eq 18, 3) := by decide +kernel
theorem dX10_step_275 : decode cX10_step 275 = .ok (.aload_n 0, 1) := by decide +kernel
theorem dX10_step_276 : decode cX10_step 276 = .ok (.getfield 22, 3) := by decide +kernel
theorem dX10_step_279 : decode cX10_step 279 = .ok (.ifCond .eq 11, 3) := by decide +kernel
theorem dX10_step_282 : decode cX10_step 282 = .ok (.aload_n 0, 1) := by decide +kernel
theorem dX10_step_283 : decode cX10_step 283 = .ok (.iconst 5, 1) := by decide +kernel
theorem dX10_step_284 : decode cX10_step 284 = .ok (.putfield 22, 3) := by decide +kernel
theorem dX10_step_287 : decode cX10_step 287 = .ok (.goto 33, 3) := by decide +kernel
theorem dX10_step_290 : decode cX10_step 290 = .ok (.aload_n 0, 1) := by decide +kernel
theorem dX10_step_291 : decode cX10_step 291 = .ok (.getfield 19, 3) := by decide +kernel
theorem dX10_step_294 : decode cX10_step 294 = .ok (.aload_n 0, 1) := by decide +kernel
theorem dX10_step_295 : decode cX10_step 295 = .ok (.getfield 28, 3) := by decide +kernel
theorem dX10_step_298 : decode cX10_step 298 = .ok (.isub, 1) := by decide +kernel
theorem dX10_step_299 : decode cX10_step 299 = .ok (.iload 4, 2) := by decide +kernel
theorem dX10_step_301 : decode cX10_step 301 = .ok (.if_icmp .le 19, 3) := by decide +kernel
theorem dX10_step_304 : decode cX10_step 304 = .ok (.aload_n 0, 1) := by decide +kernel
theorem dX10_step_305 : decode cX10_step 305 = .ok (.iconst 5, 1) := by decide +kernel
theorem dX10_step_306 : decode cX10_step 306 = .ok (.putfield 22, 3) := by decide +kernel
theorem dX10_step_309 : decode cX10_step 309 = .ok (.aload_n 0, 1) := by decide +kernel
theorem dX10_step_310 : decode cX10_step 310 = .ok (.aload_n 0, 1) := by decide +kernel
theorem dX10_step_311 : decode cX10_step 311 = .ok (.getfield 28, 3) := by decide +kernel
theorem dX10_step_314 : decode cX10_step 314 = .ok (.iload 4, 2) := by decide +kernel
theorem dX10_step_316 : decode cX10_step 316 = .ok (.iadd, 1) := by decide +kernel
theorem dX10_step_317 : decode cX10_step 317 = .ok (.putfield 58, 3) := by decide +kernel
theorem dX10_step_320 : decode cX10_step 320 = .ok (.return_, 1) := by decide +kernel
theorem dX10_endOfWord_0 : decode cX10_endOfWord 0 = .ok (.aload_n 0, 1) := by decide +kernel
theorem dX10_endOfWord_1 : decode cX10_endOfWord 1 = .ok (.getfield 28, 3) := by decide +kernel
theorem dX10_endOfWord_4 : decode cX10_endOfWord 4 = .ok (.istore_n 1, 1) := by decide +kernel
theorem dX10_endOfWord_5 : decode cX10_endOfWord 5 = .ok (.iload_n 1, 1) := by decide +kernel
theorem dX10_endOfWord_6 : decode cX10_endOfWord 6 = .ok (.aload_n 0, 1) := by decide +kernel
theorem dX10_endOfWord_7 : decode cX10_endOfWord 7 = .ok (.getfield 15, 3) := by decide +kernel
theorem dX10_endOfWord_10 : decode cX10_endOfWord 10 = .ok (.if_icmp .ge 21, 3) := by decide +kernel
theorem dX10_endOfWord_13 : decode cX10_endOfWord 13 = .ok (.aload_n 0, 1) := by decide +kernel
theorem dX10_endOfWord_14 : decode cX10_endOfWord 14 = .ok (.getfield 9, 3) := by decide +kernel
theorem dX10_endOfWord_17 : decode cX10_endOfWord 17 = .ok (.iload_n 1, 1) := by decide +kernel
theorem dX10_endOfWord_18 : decode cX10_endOfWord 18 = .ok (.iaload, 1) := by decide +kernel
theorem dX10_endOfWord_19 : decode cX10_endOfWord 19 = .ok (.invokestatic 38, 3) := by decide +kernel
theorem dX10_endOfWord_22 : decode cX10_endOfWord 22 = .ok (.ifCond .eq 9, 3) := by decide +kernel
theorem dX10_endOfWord_25 : decode cX10_endOfWord 25 = .ok (.iinc 1 1, 3) := by decide +kernel
theorem dX10_endOfWord_28 : decode cX10_endOfWord 28 = .ok (.goto (-23), 3) := by decide +kernel
theorem dX10_endOfWord_31 : decode cX10_endOfWord 31 = .ok (.iload_n 1, 1) := by decide +kernel
theorem dX10_endOfWord_32 : decode cX10_endOfWord 32 = .ok (.ireturn, 1) := by decide +kernel
theorem dX10_endOfNumber_0 : decode cX10_endOfNumber 0 = .ok (.aload_n 0, 1) := by decide +kernel
theorem dX10_endOfNumber_1 : decode cX10_endOfNumber 1 = .ok (.getfield 28, 3) := by decide +kernel
theorem dX10_endOfNumber_4 : decode cX10_endOfNumber 4 = .ok (.istore_n 1, 1) := by decide +kernel
theorem dX10_endOfNumber_5 : decode cX10_endOfNumber 5 = .ok (.iload_n 1, 1) := by decide +kernel
theorem dX10_endOfNumber_6 : decode cX10_endOfNumber 6 = .ok (.aload_n 0, 1) := by decide +kernel
theorem dX10_endOfNumber_7 : decode cX10_endOfNumber 7 = .ok (.getfield 15, 3) := by decide +kernel
theorem dX10_endOfNumber_10 : decode cX10_endOfNumber 10 = .ok (.if_icmp .ge 21, 3) := by decide +kernel
theorem dX10_endOfNumber_13 : decode cX10_endOfNumber 13 = .ok (.aload_n 0, 1) := by decide +kernel
theorem dX10_endOfNumber_14 : decode cX10_endOfNumber 14 = .ok (.getfield 9, 3) := by decide +kernel
theorem dX10_endOfNumber_17 : decode cX10_endOfNumber 17 = .ok (.iload_n 1, 1) := by decide +kernel
theorem dX10_endOfNumber_18 : decode cX10_endOfNumber 18 = .ok (.iaload, 1) := by decide +kernel
theorem dX10_endOfNumber_19 : decode cX10_endOfNumber 19 = .ok (.invokestatic 49, 3) := by decide +kernel
theorem dX10_endOfNumber_22 : decode cX10_endOfNumber 22 = .ok (.ifCond .eq 9, 3) := by decide +kernel
theorem dX10_endOfNumber_25 : decode cX10_endOfNumber 25 = .ok (.iinc 1 1, 3) := by decide +kernel
theorem dX10_endOfNumber_28 : decode cX10_endOfNumber 28 = .ok (.goto (-23), 3) := by decide +kernel
theorem dX10_endOfNumber_31 : decode cX10_endOfNumber 31 = .ok (.iload_n 1, 1) := by decide +kernel
theorem dX10_endOfNumber_32 : decode cX10_endOfNumber 32 = .ok (.ireturn, 1) := by decide +kernel
theorem dX10_number_0 : decode cX10_number 0 = .ok (.iconst 0, 1) := by decide +kernel
theorem dX10_number_1 : decode cX10_number 1 = .ok (.istore_n 1, 1) := by decide +kernel
theorem dX10_number_2 : decode cX10_number 2 = .ok (.aload_n 0, 1) := by decide +kernel
theorem dX10_number_3 : decode cX10_number 3 = .ok (.getfield 28, 3) := by decide +kernel
theorem dX10_number_6 : decode cX10_number 6 = .ok (.istore_n 2, 1) := by decide +kernel
theorem dX10_number_7 : decode cX10_number 7 = .ok (.iload_n 2, 1) := by decide +kernel
theorem dX10_number_8 : decode cX10_number 8 = .ok (.aload_n 0, 1) := by decide +kernel
theorem dX10_number_9 : decode cX10_number 9 = .ok (.getfield 19, 3) := by decide +kernel
theorem dX10_number_12 : decode cX10_number 12 = .ok (.if_icmp .ge 34, 3) := by decide +kernel
theorem dX10_number_15 : decode cX10_number 15 = .ok (.iload_n 2, 1) := by decide +kernel
theorem dX10_number_16 : decode cX10_number 16 = .ok (.aload_n 0, 1) := by decide +kernel
theorem dX10_number_17 : decode cX10_number 17 = .ok (.getfield 28, 3) := by decide +kernel
theorem dX10_number_20 : decode cX10_number 20 = .ok (.iconst 4, 1) := by decide +kernel
theorem dX10_number_21 : decode cX10_number 21 = .ok (.iadd, 1) := by decide +kernel
theorem dX10_number_22 : decode cX10_number 22 = .ok (.if_icmp .ge 24, 3) := by decide +kernel
theorem dX10_number_25 : decode cX10_number 25 = .ok (.iload_n 1, 1) := by decide +kernel
theorem dX10_number_26 : decode cX10_number 26 = .ok (.bipush 10, 2) := by decide +kernel
theorem dX10_number_28 : decode cX10_number 28 = .ok (.imul, 1) := by decide +kernel
theorem dX10_number_29 : decode cX10_number 29 = .ok (.aload_n 0, 1) := by decide +kernel
theorem dX10_number_30 : decode cX10_number 30 = .ok (.getfield 9, 3) := by decide +kernel
theorem dX10_number_33 : decode cX10_number 33 = .ok (.iload_n 2, 1) := by decide +kernel
theorem dX10_number_34 : decode cX10_number 34 = .ok (.iaload, 1) := by decide +kernel
theorem dX10_number_35 : decode cX10_number 35 = .ok (.iadd, 1) := by decide +kernel
theorem dX10_number_36 : decode cX10_number 36 = .ok (.bipush 48, 2) := by decide +kernel
theorem dX10_number_38 : decode cX10_number 38 = .ok (.isub, 1) := by decide +kernel
theorem dX10_number_39 : decode cX10_number 39 = .ok (.istore_n 1, 1) := by decide +kernel
theorem dX10_number_40 : decode cX10_number 40 = .ok (.iinc 2 1, 3) := by decide +kernel
theorem dX10_number_43 : decode cX10_number 43 = .ok (.goto (-36), 3) := by decide +kernel
theorem dX10_number_46 : decode cX10_number 46 = .ok (.iload_n 1, 1) := by decide +kernel
theorem dX10_number_47 : decode cX10_number 47 = .ok (.ireturn, 1) := by decide +kernel
theorem dX10_ownWord_0 : decode cX10_ownWord 0 = .ok (.aload_n 0, 1) := by decide +kernel
theorem dX10_ownWord_1 : decode cX10_ownWord 1 = .ok (.getfield 19, 3) := by decide +kernel
theorem dX10_ownWord_4 : decode cX10_ownWord 4 = .ok (.aload_n 0, 1) := by decide +kernel
theorem dX10_ownWord_5 : decode cX10_ownWord 5 = .ok (.getfield 28, 3) := by decide +kernel
theorem dX10_ownWord_8 : decode cX10_ownWord 8 = .ok (.isub, 1) := by decide +kernel
theorem dX10_ownWord_9 : decode cX10_ownWord 9 = .ok (.istore_n 1, 1) := by decide +kernel
theorem dX10_ownWord_10 : decode cX10_ownWord 10 = .ok (.iload_n 1, 1) := by decide +kernel
theorem dX10_ownWord_11 : decode cX10_ownWord 11 = .ok (.bipush 7, 2) := by decide +kernel
theorem dX10_ownWord_13 : decode cX10_ownWord 13 = .ok (.if_icmp .le 5, 3) := by decide +kernel
theorem dX10_ownWord_16 : decode cX10_ownWord 16 = .ok (.iconst (-1), 1) := by decide +kernel
theorem dX10_ownWord_17 : decode cX10_ownWord 17 = .ok (.ireturn, 1) := by decide +kernel
theorem dX10_ownWord_18 : decode cX10_ownWord 18 = .ok (.iconst 0, 1) := by decide +kernel
theorem dX10_ownWord_19 : decode cX10_ownWord 19 = .ok (.istore_n 2, 1) := by decide +kernel
theorem dX10_ownWord_20 : decode cX10_ownWord 20 = .ok (.iload_n 2, 1) := by decide +kernel
theorem dX10_ownWord_21 : decode cX10_ownWord 21 = .ok (.bipush 25, 2) := by decide +kernel
theorem dX10_ownWord_23 : decode cX10_ownWord 23 = .ok (.if_icmp .ge 80, 3) := by decide +kernel
theorem dX10_ownWord_26 : decode cX10_ownWord 26 = .ok (.iload_n 2, 1) := by decide +kernel
theorem dX10_ownWord_27 : decode cX10_ownWord 27 = .ok (.bipush 7, 2) := by decide +kernel
theorem dX10_ownWord_29 : decode cX10_ownWord 29 = .ok (.imul, 1) := by decide +kernel
theorem dX10_ownWord_30 : decode cX10_ownWord 30 = .ok (.istore_n 3, 1) := by decide +kernel
theorem dX10_ownWord_31 : decode cX10_ownWord 31 = .ok (.iconst 0, 1) := by decide +kernel
theorem dX10_ownWord_32 : decode cX10_ownWord 32 = .ok (.istore 4, 2) := by decide +kernel
theorem dX10_ownWord_34 : decode cX10_ownWord 34 = .ok (.iload 4, 2) := by decide +kernel
theorem dX10_ownWord_36 : decode cX10_ownWord 36 = .ok (.iload_n 1, 1) := by decide +kernel
theorem dX10_ownWord_37 : decode cX10_ownWord 37 = .ok (.if_icmp .ge 33, 3) := by decide +kernel
theorem dX10_ownWord_40 : decode cX10_ownWord 40 = .ok (.ldc 61, 2) := by decide +kernel
theorem dX10_ownWord_42 : decode cX10_ownWord 42 = .ok (.iload_n 3, 1) := by decide +kernel
theorem dX10_ownWord_43 : decode cX10_ownWord 43 = .ok (.iload 4, 2) := by decide +kernel
theorem dX10_ownWord_45 : decode cX10_ownWord 45 = .ok (.iadd, 1) := by decide +kernel
theorem dX10_ownWord_46 : decode cX10_ownWord 46 = .ok (.invokevirtual 63, 3) := by decide +kernel
theorem dX10_ownWord_49 : decode cX10_ownWord 49 = .ok (.aload_n 0, 1) := by decide +kernel
theorem dX10_ownWord_50 : decode cX10_ownWord 50 = .ok (.getfield 9, 3) := by decide +kernel
theorem dX10_ownWord_53 : decode cX10_ownWord 53 = .ok (.aload_n 0, 1) := by decide +kernel
theorem dX10_ownWord_54 : decode cX10_ownWord 54 = .ok (.getfield 28, 3) := by decide +kernel
theorem dX10_ownWord_57 : decode cX10_ownWord 57 = .ok (.iload 4, 2) := by decide +kernel
theorem dX10_ownWord_59 : decode cX10_ownWord 59 = .ok (.iadd, 1) := by decide +kernel
theorem dX10_ownWord_60 : decode cX10_ownWord 60 = .ok (.iaload, 1) := by decide +kernel
theorem dX10_ownWord_61 : decode cX10_ownWord 61 = .ok (.if_icmp .ne 9, 3) := by decide +kernel
theorem dX10_ownWord_64 : decode cX10_ownWord 64 = .ok (.iinc 4 1, 3) := by decide +kernel
theorem dX10_ownWord_67 : decode cX10_ownWord 67 = .ok (.goto (-33), 3) := by decide +kernel
theorem dX10_ownWord_70 : decode cX10_ownWord 70 = .ok (.iload 4, 2) := by decide +kernel
theorem dX10_ownWord_72 : decode cX10_ownWord 72 = .ok (.iload_n 1, 1) := by decide +kernel
theorem dX10_ownWord_73 : decode cX10_ownWord 73 = .ok (.if_icmp .ne 24, 3) := by decide +kernel
theorem dX10_ownWord_76 : decode cX10_ownWord 76 = .ok (.iload_n 1, 1) := by decide +kernel
theorem dX10_ownWord_77 : decode cX10_ownWord 77 = .ok (.bipush 7, 2) := by decide +kernel
theorem dX10_ownWord_79 : decode cX10_ownWord 79 = .ok (.if_icmp .eq 16, 3) := by decide +kernel
theorem dX10_ownWord_82 : decode cX10_ownWord 82 = .ok (.ldc 61, 2) := by decide +kernel
theorem dX10_ownWord_84 : decode cX10_ownWord 84 = .ok (.iload_n 3, 1) := by decide +kernel
theorem dX10_ownWord_85 : decode cX10_ownWord 85 = .ok (.iload_n 1, 1) := by decide +kernel
theorem dX10_ownWord_86 : decode cX10_ownWord 86 = .ok (.iadd, 1) := by decide +kernel
theorem dX10_ownWord_87 : decode cX10_ownWord 87 = .ok (.invokevirtual 63, 3) := by decide +kernel
theorem dX10_ownWord_90 : decode cX10_ownWord 90 = .ok (.bipush 32, 2) := by decide +kernel
theorem dX10_ownWord_92 : decode cX10_ownWord 92 = .ok (.if_icmp .ne 5, 3) := by decide +kernel
theorem dX10_ownWord_95 : decode cX10_ownWord 95 = .ok (.iload_n 2, 1) := by decide +kernel
theorem dX10_ownWord_96 : decode cX10_ownWord 96 = .ok (.ireturn, 1) := by decide +kernel
theorem dX10_ownWord_97 : decode cX10_ownWord 97 = .ok (.iinc 2 1, 3) := by decide +kernel
theorem dX10_ownWord_100 : decode cX10_ownWord 100 = .ok (.goto (-80), 3) := by decide +kernel
theorem dX10_ownWord_103 : decode cX10_ownWord 103 = .ok (.iconst (-1), 1) := by decide +kernel
theorem dX10_ownWord_104 : decode cX10_ownWord 104 = .ok (.ireturn, 1) := by decide +kernel
theorem dX10_isOwn_0 : decode cX10_isOwn 0 = .ok (.aload_n 0, 1) := by decide +kernel
theorem dX10_isOwn_1 : decode cX10_isOwn 1 = .ok (.getfield 22, 3) := by decide +kernel
theorem dX10_isOwn_4 : decode cX10_isOwn 4 = .ok (.iconst 2, 1) := by decide +kernel
theorem dX10_isOwn_5 : decode cX10_isOwn 5 = .ok (.if_icmp .ne 15, 3) := by decide +kernel
theorem dX10_isOwn_8 : decode cX10_isOwn 8 = .ok (.aload_n 0, 1) := by decide +kernel
theorem dX10_isOwn_9 : decode cX10_isOwn 9 = .ok (.getfield 35, 3) := by decide +kernel
theorem dX10_isOwn_12 : decode cX10_isOwn 12 = .ok (.iload_n 1, 1) := by decide +kernel
theorem dX10_isOwn_13 : decode cX10_isOwn 13 = .ok (.if_icmp .ne 7, 3) := by decide +kernel
theorem dX10_isOwn_16 : decode cX10_isOwn 16 = .ok (.iconst 1, 1) := by decide +kernel
theorem dX10_isOwn_17 : decode cX10_isOwn 17 = .ok (.goto 4, 3) := by decide +kernel
theorem dX10_isOwn_20 : decode cX10_isOwn 20 = .ok (.iconst 0, 1) := by decide +kernel
theorem dX10_isOwn_21 : decode cX10_isOwn 21 = .ok (.ireturn, 1) := by decide +kernel
theorem dX10_isSign_0 : decode cX10_isSign 0 = .ok (.aload_n 0, 1) := by decide +kernel
theorem dX10_isSign_1 : decode cX10_isSign 1 = .ok (.getfield 22, 3) := by decide +kernel
theorem dX10_isSign_4 : decode cX10_isSign 4 = .ok (.iconst 4, 1) := by decide +kernel
theorem dX10_isSign_5 : decode cX10_isSign 5 = .ok (.if_icmp .ne 15, 3) := by decide +kernel
theorem dX10_isSign_8 : decode cX10_isSign 8 = .ok (.aload_n 0, 1) := by decide +kernel
theorem dX10_isSign_9 : decode cX10_isSign 9 = .ok (.getfield 35, 3) := by decide +kernel
theorem dX10_isSign_12 : decode cX10_isSign 12 = .ok (.iload_n 1, 1) := by decide +kernel
theorem dX10_isSign_13 : decode cX10_isSign 13 = .ok (.if_icmp .ne 7, 3) := by decide +kernel
theorem dX10_isSign_16 : decode cX10_isSign 16 = .ok (.iconst 1, 1) := by decide +kernel
theorem dX10_isSign_17 : decode cX10_isSign 17 = .ok (.goto 4, 3) := by decide +kernel
theorem dX10_isSign_20 : decode cX10_isSign 20 = .ok (.iconst 0, 1) := by decide +kernel
theorem dX10_isSign_21 : decode cX10_isSign 21 = .ok (.ireturn, 1) := by decide +kernel
theorem dX10_isLetter_0 : decode cX10_isLetter 0 = .ok (.iload_n 0, 1) := by decide +kernel
theorem dX10_isLetter_1 : decode cX10_isLetter 1 = .ok (.bipush 97, 2) := by decide +kernel
theorem dX10_isLetter_3 : decode cX10_isLetter 3 = .ok (.if_icmp .lt 13, 3) := by decide +kernel
theorem dX10_isLetter_6 : decode cX10_isLetter 6 = .ok (.iload_n 0, 1) := by decide +kernel
theorem dX10_isLetter_7 : decode cX10_isLetter 7 = .ok (.bipush 122, 2) := by decide +kernel
theorem dX10_isLetter_9 : decode cX10_isLetter 9 = .ok (.if_icmp .gt 7, 3) := by decide +kernel
theorem dX10_isLetter_12 : decode cX10_isLetter 12 = .ok (.iconst 1, 1) := by decide +kernel
theorem dX10_isLetter_13 : decode cX10_isLetter 13 = .ok (.goto 4, 3) := by decide +kernel
theorem dX10_isLetter_16 : decode cX10_isLetter 16 = .ok (.iconst 0, 1) := by decide +kernel
theorem dX10_isLetter_17 : decode cX10_isLetter 17 = .ok (.ireturn, 1) := by decide +kernel
theorem dX10_isDigit_0 : decode cX10_isDigit 0 = .ok (.iload_n 0, 1) := by decide +kernel
theorem dX10_isDigit_1 : decode cX10_isDigit 1 = .ok (.bipush 48, 2) := by decide +kernel
theorem dX10_isDigit_3 : decode cX10_isDigit 3 = .ok (.if_icmp .lt 13, 3) := by decide +kernel
theorem dX10_isDigit_6 : decode cX10_isDigit 6 = .ok (.iload_n 0, 1) := by decide +kernel
theorem dX10_isDigit_7 : decode cX10_isDigit 7 = .ok (.bipush 57, 2) := by decide +kernel
theorem dX10_isDigit_9 : decode cX10_isDigit 9 = .ok (.if_icmp .gt 7, 3) := by decide +kernel
theorem dX10_isDigit_12 : decode cX10_isDigit 12 = .ok (.iconst 1, 1) := by decide +kernel
theorem dX10_isDigit_13 : decode cX10_isDigit 13 = .ok (.goto 4, 3) := by decide +kernel
theorem dX10_isDigit_16 : decode cX10_isDigit 16 = .ok (.iconst 0, 1) := by decide +kernel
theorem dX10_isDigit_17 : decode cX10_isDigit 17 = .ok (.ireturn, 1) := by decide +kernel
