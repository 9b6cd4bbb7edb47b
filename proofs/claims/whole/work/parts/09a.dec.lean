theorem dX0_init_0 : decode cX0_init 0 = .ok (.aload_n 0, 1) := by decide +kernel
theorem dX0_init_1 : decode cX0_init 1 = .ok (.invokespecial 3, 3) := by decide +kernel
theorem dX0_init_4 : decode cX0_init 4 = .ok (.aload_n 0, 1) := by decide +kernel
theorem dX0_init_5 : decode cX0_init 5 = .ok (.bipush 8, 2) := by decide +kernel
theorem dX0_init_7 : decode cX0_init 7 = .ok (.newarray .int, 2) := by decide +kernel
theorem dX0_init_9 : decode cX0_init 9 = .ok (.putfield 9, 3) := by decide +kernel
theorem dX0_init_12 : decode cX0_init 12 = .ok (.aload_n 0, 1) := by decide +kernel
theorem dX0_init_13 : decode cX0_init 13 = .ok (.bipush 8, 2) := by decide +kernel
theorem dX0_init_15 : decode cX0_init 15 = .ok (.newarray .int, 2) := by decide +kernel
theorem dX0_init_17 : decode cX0_init 17 = .ok (.putfield 15, 3) := by decide +kernel
theorem dX0_init_20 : decode cX0_init 20 = .ok (.aload_n 0, 1) := by decide +kernel
theorem dX0_init_21 : decode cX0_init 21 = .ok (.aload_n 1, 1) := by decide +kernel
theorem dX0_init_22 : decode cX0_init 22 = .ok (.putfield 18, 3) := by decide +kernel
theorem dX0_init_25 : decode cX0_init 25 = .ok (.aload_n 0, 1) := by decide +kernel
theorem dX0_init_26 : decode cX0_init 26 = .ok (.aload_n 2, 1) := by decide +kernel
theorem dX0_init_27 : decode cX0_init 27 = .ok (.putfield 22, 3) := by decide +kernel
theorem dX0_init_30 : decode cX0_init 30 = .ok (.return_, 1) := by decide +kernel
theorem dX0_lay_0 : decode cX0_lay 0 = .ok (.aload_n 0, 1) := by decide +kernel
theorem dX0_lay_1 : decode cX0_lay 1 = .ok (.getfield 18, 3) := by decide +kernel
theorem dX0_lay_4 : decode cX0_lay 4 = .ok (.iload_n 1, 1) := by decide +kernel
theorem dX0_lay_5 : decode cX0_lay 5 = .ok (.invokevirtual 26, 3) := by decide +kernel
theorem dX0_lay_8 : decode cX0_lay 8 = .ok (.istore 5, 2) := by decide +kernel
theorem dX0_lay_10 : decode cX0_lay 10 = .ok (.iload 4, 2) := by decide +kernel
theorem dX0_lay_12 : decode cX0_lay 12 = .ok (.ifCond .eq 15, 3) := by decide +kernel
theorem dX0_lay_15 : decode cX0_lay 15 = .ok (.aload_n 0, 1) := by decide +kernel
theorem dX0_lay_16 : decode cX0_lay 16 = .ok (.getfield 18, 3) := by decide +kernel
theorem dX0_lay_19 : decode cX0_lay 19 = .ok (.iload_n 1, 1) := by decide +kernel
theorem dX0_lay_20 : decode cX0_lay 20 = .ok (.iconst 3, 1) := by decide +kernel
theorem dX0_lay_21 : decode cX0_lay 21 = .ok (.invokevirtual 32, 3) := by decide +kernel
theorem dX0_lay_24 : decode cX0_lay 24 = .ok (.goto 4, 3) := by decide +kernel
theorem dX0_lay_27 : decode cX0_lay 27 = .ok (.iconst (-1), 1) := by decide +kernel
theorem dX0_lay_28 : decode cX0_lay 28 = .ok (.istore 6, 2) := by decide +kernel
theorem dX0_lay_30 : decode cX0_lay 30 = .ok (.iload 6, 2) := by decide +kernel
theorem dX0_lay_32 : decode cX0_lay 32 = .ok (.iconst (-1), 1) := by decide +kernel
theorem dX0_lay_33 : decode cX0_lay 33 = .ok (.if_icmp .eq 25, 3) := by decide +kernel
theorem dX0_lay_36 : decode cX0_lay 36 = .ok (.aload_n 0, 1) := by decide +kernel
theorem dX0_lay_37 : decode cX0_lay 37 = .ok (.getfield 18, 3) := by decide +kernel
theorem dX0_lay_40 : decode cX0_lay 40 = .ok (.getfield 36, 3) := by decide +kernel
theorem dX0_lay_43 : decode cX0_lay 43 = .ok (.iload 5, 2) := by decide +kernel
theorem dX0_lay_45 : decode cX0_lay 45 = .ok (.iload 6, 2) := by decide +kernel
theorem dX0_lay_47 : decode cX0_lay 47 = .ok (.invokevirtual 40, 3) := by decide +kernel
theorem dX0_lay_50 : decode cX0_lay 50 = .ok (.ifCond .eq 8, 3) := by decide +kernel
theorem dX0_lay_53 : decode cX0_lay 53 = .ok (.iload 6, 2) := by decide +kernel
theorem dX0_lay_55 : decode cX0_lay 55 = .ok (.goto 10, 3) := by decide +kernel
theorem dX0_lay_58 : decode cX0_lay 58 = .ok (.aload_n 0, 1) := by decide +kernel
theorem dX0_lay_59 : decode cX0_lay 59 = .ok (.iload_n 1, 1) := by decide +kernel
theorem dX0_lay_60 : decode cX0_lay 60 = .ok (.iload 5, 2) := by decide +kernel
theorem dX0_lay_62 : decode cX0_lay 62 = .ok (.invokevirtual 46, 3) := by decide +kernel
theorem dX0_lay_65 : decode cX0_lay 65 = .ok (.istore 7, 2) := by decide +kernel
theorem dX0_lay_67 : decode cX0_lay 67 = .ok (.aload_n 0, 1) := by decide +kernel
theorem dX0_lay_68 : decode cX0_lay 68 = .ok (.iload 7, 2) := by decide +kernel
theorem dX0_lay_70 : decode cX0_lay 70 = .ok (.iconst (-1), 1) := by decide +kernel
theorem dX0_lay_71 : decode cX0_lay 71 = .ok (.if_icmp .eq 22, 3) := by decide +kernel
theorem dX0_lay_74 : decode cX0_lay 74 = .ok (.iload 7, 2) := by decide +kernel
theorem dX0_lay_76 : decode cX0_lay 76 = .ok (.iload 6, 2) := by decide +kernel
theorem dX0_lay_78 : decode cX0_lay 78 = .ok (.if_icmp .ne 15, 3) := by decide +kernel
theorem dX0_lay_81 : decode cX0_lay 81 = .ok (.aload_n 0, 1) := by decide +kernel
theorem dX0_lay_82 : decode cX0_lay 82 = .ok (.getfield 18, 3) := by decide +kernel
theorem dX0_lay_85 : decode cX0_lay 85 = .ok (.iload_n 1, 1) := by decide +kernel
theorem dX0_lay_86 : decode cX0_lay 86 = .ok (.iconst 4, 1) := by decide +kernel
theorem dX0_lay_87 : decode cX0_lay 87 = .ok (.invokevirtual 32, 3) := by decide +kernel
theorem dX0_lay_90 : decode cX0_lay 90 = .ok (.goto 4, 3) := by decide +kernel
theorem dX0_lay_93 : decode cX0_lay 93 = .ok (.iconst 0, 1) := by decide +kernel
theorem dX0_lay_94 : decode cX0_lay 94 = .ok (.putfield 49, 3) := by decide +kernel
theorem dX0_lay_97 : decode cX0_lay 97 = .ok (.aload_n 0, 1) := by decide +kernel
theorem dX0_lay_98 : decode cX0_lay 98 = .ok (.iconst 0, 1) := by decide +kernel
theorem dX0_lay_99 : decode cX0_lay 99 = .ok (.putfield 53, 3) := by decide +kernel
theorem dX0_lay_102 : decode cX0_lay 102 = .ok (.aload_n 0, 1) := by decide +kernel
theorem dX0_lay_103 : decode cX0_lay 103 = .ok (.getfield 49, 3) := by decide +kernel
theorem dX0_lay_106 : decode cX0_lay 106 = .ok (.ineg, 1) := by decide +kernel
theorem dX0_lay_107 : decode cX0_lay 107 = .ok (.istore 8, 2) := by decide +kernel
theorem dX0_lay_109 : decode cX0_lay 109 = .ok (.iload 7, 2) := by decide +kernel
theorem dX0_lay_111 : decode cX0_lay 111 = .ok (.iconst (-1), 1) := by decide +kernel
theorem dX0_lay_112 : decode cX0_lay 112 = .ok (.if_icmp .eq 98, 3) := by decide +kernel
theorem dX0_lay_115 : decode cX0_lay 115 = .ok (.aload_n 0, 1) := by decide +kernel
theorem dX0_lay_116 : decode cX0_lay 116 = .ok (.getfield 53, 3) := by decide +kernel
theorem dX0_lay_119 : decode cX0_lay 119 = .ok (.bipush 8, 2) := by decide +kernel
theorem dX0_lay_121 : decode cX0_lay 121 = .ok (.if_icmp .ge 89, 3) := by decide +kernel
theorem dX0_lay_124 : decode cX0_lay 124 = .ok (.aload_n 0, 1) := by decide +kernel
theorem dX0_lay_125 : decode cX0_lay 125 = .ok (.getfield 22, 3) := by decide +kernel
theorem dX0_lay_128 : decode cX0_lay 128 = .ok (.iload_n 1, 1) := by decide +kernel
theorem dX0_lay_129 : decode cX0_lay 129 = .ok (.iload_n 2, 1) := by decide +kernel
theorem dX0_lay_130 : decode cX0_lay 130 = .ok (.iload_n 3, 1) := by decide +kernel
theorem dX0_lay_131 : decode cX0_lay 131 = .ok (.iload 5, 2) := by decide +kernel
theorem dX0_lay_133 : decode cX0_lay 133 = .ok (.invokestatic 56, 3) := by decide +kernel
theorem dX0_lay_136 : decode cX0_lay 136 = .ok (.invokevirtual 61, 3) := by decide +kernel
theorem dX0_lay_139 : decode cX0_lay 139 = .ok (.iconst 0, 1) := by decide +kernel
theorem dX0_lay_140 : decode cX0_lay 140 = .ok (.iload 8, 2) := by decide +kernel
theorem dX0_lay_142 : decode cX0_lay 142 = .ok (.aload_n 0, 1) := by decide +kernel
theorem dX0_lay_143 : decode cX0_lay 143 = .ok (.getfield 22, 3) := by decide +kernel
theorem dX0_lay_146 : decode cX0_lay 146 = .ok (.iload 7, 2) := by decide +kernel
theorem dX0_lay_148 : decode cX0_lay 148 = .ok (.invokevirtual 67, 3) := by decide +kernel
theorem dX0_lay_151 : decode cX0_lay 151 = .ok (.iadd, 1) := by decide +kernel
theorem dX0_lay_152 : decode cX0_lay 152 = .ok (.invokestatic 70, 3) := by decide +kernel
theorem dX0_lay_155 : decode cX0_lay 155 = .ok (.istore 8, 2) := by decide +kernel
theorem dX0_lay_157 : decode cX0_lay 157 = .ok (.aload_n 0, 1) := by decide +kernel
theorem dX0_lay_158 : decode cX0_lay 158 = .ok (.getfield 9, 3) := by decide +kernel
theorem dX0_lay_161 : decode cX0_lay 161 = .ok (.aload_n 0, 1) := by decide +kernel
theorem dX0_lay_162 : decode cX0_lay 162 = .ok (.getfield 53, 3) := by decide +kernel
theorem dX0_lay_165 : decode cX0_lay 165 = .ok (.iload 7, 2) := by decide +kernel
theorem dX0_lay_167 : decode cX0_lay 167 = .ok (.iastore, 1) := by decide +kernel
theorem dX0_lay_168 : decode cX0_lay 168 = .ok (.aload_n 0, 1) := by decide +kernel
theorem dX0_lay_169 : decode cX0_lay 169 = .ok (.getfield 15, 3) := by decide +kernel
theorem dX0_lay_172 : decode cX0_lay 172 = .ok (.aload_n 0, 1) := by decide +kernel
theorem dX0_lay_173 : decode cX0_lay 173 = .ok (.getfield 53, 3) := by decide +kernel
theorem dX0_lay_176 : decode cX0_lay 176 = .ok (.iload 8, 2) := by decide +kernel
theorem dX0_lay_178 : decode cX0_lay 178 = .ok (.iastore, 1) := by decide +kernel
theorem dX0_lay_179 : decode cX0_lay 179 = .ok (.aload_n 0, 1) := by decide +kernel
theorem dX0_lay_180 : decode cX0_lay 180 = .ok (.dup, 1) := by decide +kernel
theorem dX0_lay_181 : decode cX0_lay 181 = .ok (.getfield 53, 3) := by decide +kernel
theorem dX0_lay_184 : decode cX0_lay 184 = .ok (.iconst 1, 1) := by decide +kernel
theorem dX0_lay_185 : decode cX0_lay 185 = .ok (.iadd, 1) := by decide +kernel
theorem dX0_lay_186 : decode cX0_lay 186 = .ok (.putfield 53, 3) := by decide +kernel
theorem dX0_lay_189 : decode cX0_lay 189 = .ok (.iload 5, 2) := by decide +kernel
theorem dX0_lay_191 : decode cX0_lay 191 = .ok (.iconst 1, 1) := by decide +kernel
theorem dX0_lay_192 : decode cX0_lay 192 = .ok (.iload 7, 2) := by decide +kernel
theorem dX0_lay_194 : decode cX0_lay 194 = .ok (.ishl, 1) := by decide +kernel
theorem dX0_lay_195 : decode cX0_lay 195 = .ok (.ior, 1) := by decide +kernel
theorem dX0_lay_196 : decode cX0_lay 196 = .ok (.istore 5, 2) := by decide +kernel
theorem dX0_lay_198 : decode cX0_lay 198 = .ok (.aload_n 0, 1) := by decide +kernel
theorem dX0_lay_199 : decode cX0_lay 199 = .ok (.iload_n 1, 1) := by decide +kernel
theorem dX0_lay_200 : decode cX0_lay 200 = .ok (.iload 5, 2) := by decide +kernel
theorem dX0_lay_202 : decode cX0_lay 202 = .ok (.invokevirtual 46, 3) := by decide +kernel
theorem dX0_lay_205 : decode cX0_lay 205 = .ok (.istore 7, 2) := by decide +kernel
theorem dX0_lay_207 : decode cX0_lay 207 = .ok (.goto (-98), 3) := by decide +kernel
theorem dX0_lay_210 : decode cX0_lay 210 = .ok (.return_, 1) := by decide +kernel
theorem dX0_nextPage_0 : decode cX0_nextPage 0 = .ok (.aload_n 0, 1) := by decide +kernel
theorem dX0_nextPage_1 : decode cX0_nextPage 1 = .ok (.getfield 18, 3) := by decide +kernel
theorem dX0_nextPage_4 : decode cX0_nextPage 4 = .ok (.iload_n 1, 1) := by decide +kernel
theorem dX0_nextPage_5 : decode cX0_nextPage 5 = .ok (.iconst 5, 1) := by decide +kernel
theorem dX0_nextPage_6 : decode cX0_nextPage 6 = .ok (.invokevirtual 32, 3) := by decide +kernel
theorem dX0_nextPage_9 : decode cX0_nextPage 9 = .ok (.istore_n 3, 1) := by decide +kernel
theorem dX0_nextPage_10 : decode cX0_nextPage 10 = .ok (.iconst 0, 1) := by decide +kernel
theorem dX0_nextPage_11 : decode cX0_nextPage 11 = .ok (.istore 4, 2) := by decide +kernel
theorem dX0_nextPage_13 : decode cX0_nextPage 13 = .ok (.iload 4, 2) := by decide +kernel
theorem dX0_nextPage_15 : decode cX0_nextPage 15 = .ok (.iload_n 3, 1) := by decide +kernel
theorem dX0_nextPage_16 : decode cX0_nextPage 16 = .ok (.if_icmp .ge 55, 3) := by decide +kernel
theorem dX0_nextPage_19 : decode cX0_nextPage 19 = .ok (.aload_n 0, 1) := by decide +kernel
theorem dX0_nextPage_20 : decode cX0_nextPage 20 = .ok (.getfield 18, 3) := by decide +kernel
theorem dX0_nextPage_23 : decode cX0_nextPage 23 = .ok (.iload_n 1, 1) := by decide +kernel
theorem dX0_nextPage_24 : decode cX0_nextPage 24 = .ok (.iload 4, 2) := by decide +kernel
theorem dX0_nextPage_26 : decode cX0_nextPage 26 = .ok (.invokevirtual 75, 3) := by decide +kernel
theorem dX0_nextPage_29 : decode cX0_nextPage 29 = .ok (.istore 5, 2) := by decide +kernel
theorem dX0_nextPage_31 : decode cX0_nextPage 31 = .ok (.iload 5, 2) := by decide +kernel
theorem dX0_nextPage_33 : decode cX0_nextPage 33 = .ok (.iconst (-1), 1) := by decide +kernel
theorem dX0_nextPage_34 : decode cX0_nextPage 34 = .ok (.if_icmp .eq 31, 3) := by decide +kernel
theorem dX0_nextPage_37 : decode cX0_nextPage 37 = .ok (.iload_n 2, 1) := by decide +kernel
theorem dX0_nextPage_38 : decode cX0_nextPage 38 = .ok (.iconst 1, 1) := by decide +kernel
theorem dX0_nextPage_39 : decode cX0_nextPage 39 = .ok (.iload 5, 2) := by decide +kernel
theorem dX0_nextPage_41 : decode cX0_nextPage 41 = .ok (.ishl, 1) := by decide +kernel
theorem dX0_nextPage_42 : decode cX0_nextPage 42 = .ok (.iand, 1) := by decide +kernel
theorem dX0_nextPage_43 : decode cX0_nextPage 43 = .ok (.ifCond .ne 22, 3) := by decide +kernel
theorem dX0_nextPage_46 : decode cX0_nextPage 46 = .ok (.aload_n 0, 1) := by decide +kernel
theorem dX0_nextPage_47 : decode cX0_nextPage 47 = .ok (.getfield 18, 3) := by decide +kernel
theorem dX0_nextPage_50 : decode cX0_nextPage 50 = .ok (.getfield 36, 3) := by decide +kernel
theorem dX0_nextPage_53 : decode cX0_nextPage 53 = .ok (.iload_n 2, 1) := by decide +kernel
theorem dX0_nextPage_54 : decode cX0_nextPage 54 = .ok (.iload 5, 2) := by decide +kernel
theorem dX0_nextPage_56 : decode cX0_nextPage 56 = .ok (.invokevirtual 40, 3) := by decide +kernel
theorem dX0_nextPage_59 : decode cX0_nextPage 59 = .ok (.ifCond .eq 6, 3) := by decide +kernel
theorem dX0_nextPage_62 : decode cX0_nextPage 62 = .ok (.iload 5, 2) := by decide +kernel
theorem dX0_nextPage_64 : decode cX0_nextPage 64 = .ok (.ireturn, 1) := by decide +kernel
theorem dX0_nextPage_65 : decode cX0_nextPage 65 = .ok (.iinc 4 1, 3) := by decide +kernel
theorem dX0_nextPage_68 : decode cX0_nextPage 68 = .ok (.goto (-55), 3) := by decide +kernel
theorem dX0_nextPage_71 : decode cX0_nextPage 71 = .ok (.iconst (-1), 1) := by decide +kernel
theorem dX0_nextPage_72 : decode cX0_nextPage 72 = .ok (.ireturn, 1) := by decide +kernel
theorem dX0_readBy_0 : decode cX0_readBy 0 = .ok (.iconst 0, 1) := by decide +kernel
theorem dX0_readBy_1 : decode cX0_readBy 1 = .ok (.istore_n 2, 1) := by decide +kernel
theorem dX0_readBy_2 : decode cX0_readBy 2 = .ok (.iload_n 1, 1) := by decide +kernel
theorem dX0_readBy_3 : decode cX0_readBy 3 = .ok (.ifCond .le 27, 3) := by decide +kernel
theorem dX0_readBy_6 : decode cX0_readBy 6 = .ok (.iload_n 2, 1) := by decide +kernel
theorem dX0_readBy_7 : decode cX0_readBy 7 = .ok (.aload_n 0, 1) := by decide +kernel
theorem dX0_readBy_8 : decode cX0_readBy 8 = .ok (.getfield 53, 3) := by decide +kernel
theorem dX0_readBy_11 : decode cX0_readBy 11 = .ok (.if_icmp .ge 19, 3) := by decide +kernel
theorem dX0_readBy_14 : decode cX0_readBy 14 = .ok (.aload_n 0, 1) := by decide +kernel
theorem dX0_readBy_15 : decode cX0_readBy 15 = .ok (.getfield 15, 3) := by decide +kernel
theorem dX0_readBy_18 : decode cX0_readBy 18 = .ok (.iload_n 2, 1) := by decide +kernel
theorem dX0_readBy_19 : decode cX0_readBy 19 = .ok (.iaload, 1) := by decide +kernel
theorem dX0_readBy_20 : decode cX0_readBy 20 = .ok (.iload_n 1, 1) := by decide +kernel
theorem dX0_readBy_21 : decode cX0_readBy 21 = .ok (.if_icmp .gt 9, 3) := by decide +kernel
theorem dX0_readBy_24 : decode cX0_readBy 24 = .ok (.iinc 2 1, 3) := by decide +kernel
theorem dX0_readBy_27 : decode cX0_readBy 27 = .ok (.goto (-25), 3) := by decide +kernel
theorem dX0_readBy_30 : decode cX0_readBy 30 = .ok (.iload_n 2, 1) := by decide +kernel
theorem dX0_readBy_31 : decode cX0_readBy 31 = .ok (.ireturn, 1) := by decide +kernel
theorem dX0_stopBy_0 : decode cX0_stopBy 0 = .ok (.aload_n 0, 1) := by decide +kernel
theorem dX0_stopBy_1 : decode cX0_stopBy 1 = .ok (.getfield 53, 3) := by decide +kernel
theorem dX0_stopBy_4 : decode cX0_stopBy 4 = .ok (.ifCond .ne 7, 3) := by decide +kernel
theorem dX0_stopBy_7 : decode cX0_stopBy 7 = .ok (.iconst 0, 1) := by decide +kernel
theorem dX0_stopBy_8 : decode cX0_stopBy 8 = .ok (.goto 18, 3) := by decide +kernel
theorem dX0_stopBy_11 : decode cX0_stopBy 11 = .ok (.iload_n 1, 1) := by decide +kernel
theorem dX0_stopBy_12 : decode cX0_stopBy 12 = .ok (.aload_n 0, 1) := by decide +kernel
theorem dX0_stopBy_13 : decode cX0_stopBy 13 = .ok (.getfield 15, 3) := by decide +kernel
theorem dX0_stopBy_16 : decode cX0_stopBy 16 = .ok (.aload_n 0, 1) := by decide +kernel
theorem dX0_stopBy_17 : decode cX0_stopBy 17 = .ok (.getfield 53, 3) := by decide +kernel
theorem dX0_stopBy_20 : decode cX0_stopBy 20 = .ok (.iconst 1, 1) := by decide +kernel
theorem dX0_stopBy_21 : decode cX0_stopBy 21 = .ok (.isub, 1) := by decide +kernel
theorem dX0_stopBy_22 : decode cX0_stopBy 22 = .ok (.iaload, 1) := by decide +kernel
theorem dX0_stopBy_23 : decode cX0_stopBy 23 = .ok (.invokestatic 78, 3) := by decide +kernel
theorem dX0_stopBy_26 : decode cX0_stopBy 26 = .ok (.ireturn, 1) := by decide +kernel
theorem dX0_beginOf_0 : decode cX0_beginOf 0 = .ok (.iload_n 1, 1) := by decide +kernel
theorem dX0_beginOf_1 : decode cX0_beginOf 1 = .ok (.ifCond .ne 7, 3) := by decide +kernel
theorem dX0_beginOf_4 : decode cX0_beginOf 4 = .ok (.iconst 0, 1) := by decide +kernel
theorem dX0_beginOf_5 : decode cX0_beginOf 5 = .ok (.goto 11, 3) := by decide +kernel
theorem dX0_beginOf_8 : decode cX0_beginOf 8 = .ok (.aload_n 0, 1) := by decide +kernel
theorem dX0_beginOf_9 : decode cX0_beginOf 9 = .ok (.getfield 15, 3) := by decide +kernel
theorem dX0_beginOf_12 : decode cX0_beginOf 12 = .ok (.iload_n 1, 1) := by decide +kernel
theorem dX0_beginOf_13 : decode cX0_beginOf 13 = .ok (.iconst 1, 1) := by decide +kernel
theorem dX0_beginOf_14 : decode cX0_beginOf 14 = .ok (.isub, 1) := by decide +kernel
theorem dX0_beginOf_15 : decode cX0_beginOf 15 = .ok (.iaload, 1) := by decide +kernel
theorem dX0_beginOf_16 : decode cX0_beginOf 16 = .ok (.ireturn, 1) := by decide +kernel
theorem dX1_init_0 : decode cX1_init 0 = .ok (.aload_n 0, 1) := by decide +kernel
theorem dX1_init_1 : decode cX1_init 1 = .ok (.invokespecial 3, 3) := by decide +kernel
theorem dX1_init_4 : decode cX1_init 4 = .ok (.aload_n 0, 1) := by decide +kernel
theorem dX1_init_5 : decode cX1_init 5 = .ok (.iconst 5, 1) := by decide +kernel
theorem dX1_init_6 : decode cX1_init 6 = .ok (.newarray .int, 2) := by decide +kernel
theorem dX1_init_8 : decode cX1_init 8 = .ok (.putfield 9, 3) := by decide +kernel
theorem dX1_init_11 : decode cX1_init 11 = .ok (.aload_n 0, 1) := by decide +kernel
theorem dX1_init_12 : decode cX1_init 12 = .ok (.iconst 5, 1) := by decide +kernel
theorem dX1_init_13 : decode cX1_init 13 = .ok (.newarray .int, 2) := by decide +kernel
theorem dX1_init_15 : decode cX1_init 15 = .ok (.putfield 15, 3) := by decide +kernel
theorem dX1_init_18 : decode cX1_init 18 = .ok (.aload_n 0, 1) := by decide +kernel
theorem dX1_init_19 : decode cX1_init 19 = .ok (.bipush 6, 2) := by decide +kernel
theorem dX1_init_21 : decode cX1_init 21 = .ok (.newarray .int, 2) := by decide +kernel
theorem dX1_init_23 : decode cX1_init 23 = .ok (.putfield 18, 3) := by decide +kernel
theorem dX1_init_26 : decode cX1_init 26 = .ok (.aload_n 0, 1) := by decide +kernel
theorem dX1_init_27 : decode cX1_init 27 = .ok (.bipush 6, 2) := by decide +kernel
theorem dX1_init_29 : decode cX1_init 29 = .ok (.newarray .int, 2) := by decide +kernel
theorem dX1_init_31 : decode cX1_init 31 = .ok (.putfield 21, 3) := by decide +kernel
theorem dX1_init_34 : decode cX1_init 34 = .ok (.aload_n 0, 1) := by decide +kernel
theorem dX1_init_35 : decode cX1_init 35 = .ok (.bipush 6, 2) := by decide +kernel
theorem dX1_init_37 : decode cX1_init 37 = .ok (.newarray .int, 2) := by decide +kernel
theorem dX1_init_39 : decode cX1_init 39 = .ok (.putfield 24, 3) := by decide +kernel
theorem dX1_init_42 : decode cX1_init 42 = .ok (.aload_n 0, 1) := by decide +kernel
theorem dX1_init_43 : decode cX1_init 43 = .ok (.bipush 6, 2) := by decide +kernel
theorem dX1_init_45 : decode cX1_init 45 = .ok (.newarray .int, 2) := by decide +kernel
theorem dX1_init_47 : decode cX1_init 47 = .ok (.putfield 27, 3) := by decide +kernel
theorem dX1_init_50 : decode cX1_init 50 = .ok (.aload_n 0, 1) := by decide +kernel
theorem dX1_init_51 : decode cX1_init 51 = .ok (.bipush 6, 2) := by decide +kernel
theorem dX1_init_53 : decode cX1_init 53 = .ok (.newarray .int, 2) := by decide +kernel
theorem dX1_init_55 : decode cX1_init 55 = .ok (.putfield 30, 3) := by decide +kernel
theorem dX1_init_58 : decode cX1_init 58 = .ok (.aload_n 0, 1) := by decide +kernel
theorem dX1_init_59 : decode cX1_init 59 = .ok (.bipush 48, 2) := by decide +kernel
theorem dX1_init_61 : decode cX1_init 61 = .ok (.newarray .int, 2) := by decide +kernel
theorem dX1_init_63 : decode cX1_init 63 = .ok (.putfield 33, 3) := by decide +kernel
theorem dX1_init_66 : decode cX1_init 66 = .ok (.aload_n 0, 1) := by decide +kernel
theorem dX1_init_67 : decode cX1_init 67 = .ok (.aload_n 1, 1) := by decide +kernel
theorem dX1_init_68 : decode cX1_init 68 = .ok (.putfield 36, 3) := by decide +kernel
theorem dX1_init_71 : decode cX1_init 71 = .ok (.aload_n 0, 1) := by decide +kernel
theorem dX1_init_72 : decode cX1_init 72 = .ok (.aload_n 2, 1) := by decide +kernel
theorem dX1_init_73 : decode cX1_init 73 = .ok (.putfield 40, 3) := by decide +kernel
theorem dX1_init_76 : decode cX1_init 76 = .ok (.aload_n 0, 1) := by decide +kernel
theorem dX1_init_77 : decode cX1_init 77 = .ok (.aload_n 3, 1) := by decide +kernel
theorem dX1_init_78 : decode cX1_init 78 = .ok (.putfield 44, 3) := by decide +kernel
theorem dX1_init_81 : decode cX1_init 81 = .ok (.return_, 1) := by decide +kernel
theorem dX1_foresee_0 : decode cX1_foresee 0 = .ok (.iconst 0, 1) := by decide +kernel
theorem dX1_foresee_1 : decode cX1_foresee 1 = .ok (.istore_n 2, 1) := by decide +kernel
theorem dX1_foresee_2 : decode cX1_foresee 2 = .ok (.iload_n 2, 1) := by decide +kernel
theorem dX1_foresee_3 : decode cX1_foresee 3 = .ok (.aload_n 0, 1) := by decide +kernel
theorem dX1_foresee_4 : decode cX1_foresee 4 = .ok (.getfield 36, 3) := by decide +kernel
theorem dX1_foresee_7 : decode cX1_foresee 7 = .ok (.getfield 48, 3) := by decide +kernel
theorem dX1_foresee_10 : decode cX1_foresee 10 = .ok (.getfield 54, 3) := by decide +kernel
theorem dX1_foresee_13 : decode cX1_foresee 13 = .ok (.iconst 3, 1) := by decide +kernel
theorem dX1_foresee_14 : decode cX1_foresee 14 = .ok (.iaload, 1) := by decide +kernel
theorem dX1_foresee_15 : decode cX1_foresee 15 = .ok (.if_icmp .ge 36, 3) := by decide +kernel
theorem dX1_foresee_18 : decode cX1_foresee 18 = .ok (.aload_n 0, 1) := by decide +kernel
theorem dX1_foresee_19 : decode cX1_foresee 19 = .ok (.getfield 9, 3) := by decide +kernel
theorem dX1_foresee_22 : decode cX1_foresee 22 = .ok (.iload_n 2, 1) := by decide +kernel
theorem dX1_foresee_23 : decode cX1_foresee 23 = .ok (.aload_n 0, 1) := by decide +kernel
theorem dX1_foresee_24 : decode cX1_foresee 24 = .ok (.getfield 40, 3) := by decide +kernel
theorem dX1_foresee_27 : decode cX1_foresee 27 = .ok (.iload_n 2, 1) := by decide +kernel
theorem dX1_foresee_28 : decode cX1_foresee 28 = .ok (.aload_n 0, 1) := by decide +kernel
theorem dX1_foresee_29 : decode cX1_foresee 29 = .ok (.iload_n 2, 1) := by decide +kernel
theorem dX1_foresee_30 : decode cX1_foresee 30 = .ok (.iload_n 1, 1) := by decide +kernel
theorem dX1_foresee_31 : decode cX1_foresee 31 = .ok (.invokevirtual 57, 3) := by decide +kernel
theorem dX1_foresee_34 : decode cX1_foresee 34 = .ok (.invokevirtual 61, 3) := by decide +kernel
theorem dX1_foresee_37 : decode cX1_foresee 37 = .ok (.iastore, 1) := by decide +kernel
theorem dX1_foresee_38 : decode cX1_foresee 38 = .ok (.aload_n 0, 1) := by decide +kernel
theorem dX1_foresee_39 : decode cX1_foresee 39 = .ok (.getfield 15, 3) := by decide +kernel
theorem dX1_foresee_42 : decode cX1_foresee 42 = .ok (.iload_n 2, 1) := by decide +kernel
theorem dX1_foresee_43 : decode cX1_foresee 43 = .ok (.iconst 0, 1) := by decide +kernel
theorem dX1_foresee_44 : decode cX1_foresee 44 = .ok (.iastore, 1) := by decide +kernel
theorem dX1_foresee_45 : decode cX1_foresee 45 = .ok (.iinc 2 1, 3) := by decide +kernel
theorem dX1_foresee_48 : decode cX1_foresee 48 = .ok (.goto (-46), 3) := by decide +kernel
theorem dX1_foresee_51 : decode cX1_foresee 51 = .ok (.iconst 0, 1) := by decide +kernel
theorem dX1_foresee_52 : decode cX1_foresee 52 = .ok (.istore_n 2, 1) := by decide +kernel
theorem dX1_foresee_53 : decode cX1_foresee 53 = .ok (.iload_n 2, 1) := by decide +kernel
theorem dX1_foresee_54 : decode cX1_foresee 54 = .ok (.aload_n 0, 1) := by decide +kernel
theorem dX1_foresee_55 : decode cX1_foresee 55 = .ok (.getfield 36, 3) := by decide +kernel
theorem dX1_foresee_58 : decode cX1_foresee 58 = .ok (.getfield 48, 3) := by decide +kernel
theorem dX1_foresee_61 : decode cX1_foresee 61 = .ok (.getfield 54, 3) := by decide +kernel
theorem dX1_foresee_64 : decode cX1_foresee 64 = .ok (.iconst 2, 1) := by decide +kernel
theorem dX1_foresee_65 : decode cX1_foresee 65 = .ok (.iaload, 1) := by decide +kernel
theorem dX1_foresee_66 : decode cX1_foresee 66 = .ok (.if_icmp .ge 74, 3) := by decide +kernel
theorem dX1_foresee_69 : decode cX1_foresee 69 = .ok (.aload_n 0, 1) := by decide +kernel
theorem dX1_foresee_70 : decode cX1_foresee 70 = .ok (.getfield 36, 3) := by decide +kernel
theorem dX1_foresee_73 : decode cX1_foresee 73 = .ok (.iload_n 2, 1) := by decide +kernel
theorem dX1_foresee_74 : decode cX1_foresee 74 = .ok (.iconst 0, 1) := by decide +kernel
theorem dX1_foresee_75 : decode cX1_foresee 75 = .ok (.invokevirtual 66, 3) := by decide +kernel
theorem dX1_foresee_78 : decode cX1_foresee 78 = .ok (.istore_n 3, 1) := by decide +kernel
theorem dX1_foresee_79 : decode cX1_foresee 79 = .ok (.aload_n 0, 1) := by decide +kernel
theorem dX1_foresee_80 : decode cX1_foresee 80 = .ok (.getfield 44, 3) := by decide +kernel
theorem dX1_foresee_83 : decode cX1_foresee 83 = .ok (.iload_n 2, 1) := by decide +kernel
theorem dX1_foresee_84 : decode cX1_foresee 84 = .ok (.aload_n 0, 1) := by decide +kernel
theorem dX1_foresee_85 : decode cX1_foresee 85 = .ok (.iload_n 3, 1) := by decide +kernel
theorem dX1_foresee_86 : decode cX1_foresee 86 = .ok (.iload_n 1, 1) := by decide +kernel
theorem dX1_foresee_87 : decode cX1_foresee 87 = .ok (.invokevirtual 57, 3) := by decide +kernel
theorem dX1_foresee_90 : decode cX1_foresee 90 = .ok (.aload_n 0, 1) := by decide +kernel
theorem dX1_foresee_91 : decode cX1_foresee 91 = .ok (.getfield 36, 3) := by decide +kernel
theorem dX1_foresee_94 : decode cX1_foresee 94 = .ok (.iload_n 3, 1) := by decide +kernel
theorem dX1_foresee_95 : decode cX1_foresee 95 = .ok (.invokevirtual 69, 3) := by decide +kernel
theorem dX1_foresee_98 : decode cX1_foresee 98 = .ok (.iconst 1, 1) := by decide +kernel
theorem dX1_foresee_99 : decode cX1_foresee 99 = .ok (.invokevirtual 73, 3) := by decide +kernel
theorem dX1_foresee_102 : decode cX1_foresee 102 = .ok (.aload_n 0, 1) := by decide +kernel
theorem dX1_foresee_103 : decode cX1_foresee 103 = .ok (.iload_n 2, 1) := by decide +kernel
theorem dX1_foresee_104 : decode cX1_foresee 104 = .ok (.aload_n 0, 1) := by decide +kernel
theorem dX1_foresee_105 : decode cX1_foresee 105 = .ok (.getfield 9, 3) := by decide +kernel
theorem dX1_foresee_108 : decode cX1_foresee 108 = .ok (.iload_n 3, 1) := by decide +kernel
theorem dX1_foresee_109 : decode cX1_foresee 109 = .ok (.iaload, 1) := by decide +kernel
theorem dX1_foresee_110 : decode cX1_foresee 110 = .ok (.invokevirtual 79, 3) := by decide +kernel
theorem dX1_foresee_113 : decode cX1_foresee 113 = .ok (.aload_n 0, 1) := by decide +kernel
theorem dX1_foresee_114 : decode cX1_foresee 114 = .ok (.getfield 15, 3) := by decide +kernel
theorem dX1_foresee_117 : decode cX1_foresee 117 = .ok (.iload_n 3, 1) := by decide +kernel
theorem dX1_foresee_118 : decode cX1_foresee 118 = .ok (.aload_n 0, 1) := by decide +kernel
theorem dX1_foresee_119 : decode cX1_foresee 119 = .ok (.getfield 15, 3) := by decide +kernel
theorem dX1_foresee_122 : decode cX1_foresee 122 = .ok (.iload_n 3, 1) := by decide +kernel
theorem dX1_foresee_123 : decode cX1_foresee 123 = .ok (.iaload, 1) := by decide +kernel
theorem dX1_foresee_124 : decode cX1_foresee 124 = .ok (.aload_n 0, 1) := by decide +kernel
theorem dX1_foresee_125 : decode cX1_foresee 125 = .ok (.getfield 24, 3) := by decide +kernel
theorem dX1_foresee_128 : decode cX1_foresee 128 = .ok (.iload_n 2, 1) := by decide +kernel
theorem dX1_foresee_129 : decode cX1_foresee 129 = .ok (.iaload, 1) := by decide +kernel
theorem dX1_foresee_130 : decode cX1_foresee 130 = .ok (.invokestatic 83, 3) := by decide +kernel
theorem dX1_foresee_133 : decode cX1_foresee 133 = .ok (.iastore, 1) := by decide +kernel
theorem dX1_foresee_134 : decode cX1_foresee 134 = .ok (.iinc 2 1, 3) := by decide +kernel
theorem dX1_foresee_137 : decode cX1_foresee 137 = .ok (.goto (-84), 3) := by decide +kernel
theorem dX1_foresee_140 : decode cX1_foresee 140 = .ok (.return_, 1) := by decide +kernel
theorem dX1_draftAt_0 : decode cX1_draftAt 0 = .ok (.aload_n 0, 1) := by decide +kernel
theorem dX1_draftAt_1 : decode cX1_draftAt 1 = .ok (.getfield 36, 3) := by decide +kernel
theorem dX1_draftAt_4 : decode cX1_draftAt 4 = .ok (.getfield 48, 3) := by decide +kernel
theorem dX1_draftAt_7 : decode cX1_draftAt 7 = .ok (.getfield 88, 3) := by decide +kernel
theorem dX1_draftAt_10 : decode cX1_draftAt 10 = .ok (.iload_n 1, 1) := by decide +kernel
theorem dX1_draftAt_11 : decode cX1_draftAt 11 = .ok (.iaload, 1) := by decide +kernel
theorem dX1_draftAt_12 : decode cX1_draftAt 12 = .ok (.iload_n 1, 1) := by decide +kernel
theorem dX1_draftAt_13 : decode cX1_draftAt 13 = .ok (.iload_n 2, 1) := by decide +kernel
theorem dX1_draftAt_14 : decode cX1_draftAt 14 = .ok (.if_icmp .ne 7, 3) := by decide +kernel
theorem dX1_draftAt_17 : decode cX1_draftAt 17 = .ok (.iconst 3, 1) := by decide +kernel
theorem dX1_draftAt_18 : decode cX1_draftAt 18 = .ok (.goto 4, 3) := by decide +kernel
theorem dX1_draftAt_21 : decode cX1_draftAt 21 = .ok (.iconst 0, 1) := by decide +kernel
theorem dX1_draftAt_22 : decode cX1_draftAt 22 = .ok (.iadd, 1) := by decide +kernel
theorem dX1_draftAt_23 : decode cX1_draftAt 23 = .ok (.ireturn, 1) := by decide +kernel
theorem dX1_follow_0 : decode cX1_follow 0 = .ok (.aload_n 0, 1) := by decide +kernel
theorem dX1_follow_1 : decode cX1_follow 1 = .ok (.getfield 44, 3) := by decide +kernel
theorem dX1_follow_4 : decode cX1_follow 4 = .ok (.iload_n 2, 1) := by decide +kernel
theorem dX1_follow_5 : decode cX1_follow 5 = .ok (.invokevirtual 91, 3) := by decide +kernel
theorem dX1_follow_8 : decode cX1_follow 8 = .ok (.istore_n 3, 1) := by decide +kernel
theorem dX1_follow_9 : decode cX1_follow 9 = .ok (.aload_n 0, 1) := by decide +kernel
theorem dX1_follow_10 : decode cX1_follow 10 = .ok (.getfield 18, 3) := by decide +kernel
theorem dX1_follow_13 : decode cX1_follow 13 = .ok (.iload_n 1, 1) := by decide +kernel
theorem dX1_follow_14 : decode cX1_follow 14 = .ok (.iload_n 3, 1) := by decide +kernel
theorem dX1_follow_15 : decode cX1_follow 15 = .ok (.iastore, 1) := by decide +kernel
theorem dX1_follow_16 : decode cX1_follow 16 = .ok (.aload_n 0, 1) := by decide +kernel
theorem dX1_follow_17 : decode cX1_follow 17 = .ok (.getfield 21, 3) := by decide +kernel
theorem dX1_follow_20 : decode cX1_follow 20 = .ok (.iload_n 1, 1) := by decide +kernel
theorem dX1_follow_21 : decode cX1_follow 21 = .ok (.iconst 0, 1) := by decide +kernel
theorem dX1_follow_22 : decode cX1_follow 22 = .ok (.iastore, 1) := by decide +kernel
theorem dX1_follow_23 : decode cX1_follow 23 = .ok (.iconst 0, 1) := by decide +kernel
theorem dX1_follow_24 : decode cX1_follow 24 = .ok (.istore 4, 2) := by decide +kernel
theorem dX1_follow_26 : decode cX1_follow 26 = .ok (.iload 4, 2) := by decide +kernel
theorem dX1_follow_28 : decode cX1_follow 28 = .ok (.iload_n 3, 1) := by decide +kernel
theorem dX1_follow_29 : decode cX1_follow 29 = .ok (.if_icmp .ge 52, 3) := by decide +kernel
theorem dX1_follow_32 : decode cX1_follow 32 = .ok (.aload_n 0, 1) := by decide +kernel
theorem dX1_follow_33 : decode cX1_follow 33 = .ok (.getfield 33, 3) := by decide +kernel
theorem dX1_follow_36 : decode cX1_follow 36 = .ok (.iload_n 1, 1) := by decide +kernel
theorem dX1_follow_37 : decode cX1_follow 37 = .ok (.bipush 8, 2) := by decide +kernel
theorem dX1_follow_39 : decode cX1_follow 39 = .ok (.imul, 1) := by decide +kernel
theorem dX1_follow_40 : decode cX1_follow 40 = .ok (.iload 4, 2) := by decide +kernel
theorem dX1_follow_42 : decode cX1_follow 42 = .ok (.iadd, 1) := by decide +kernel
theorem dX1_follow_43 : decode cX1_follow 43 = .ok (.aload_n 0, 1) := by decide +kernel
theorem dX1_follow_44 : decode cX1_follow 44 = .ok (.getfield 44, 3) := by decide +kernel
theorem dX1_follow_47 : decode cX1_follow 47 = .ok (.getfield 94, 3) := by decide +kernel
theorem dX1_follow_50 : decode cX1_follow 50 = .ok (.iload 4, 2) := by decide +kernel
theorem dX1_follow_52 : decode cX1_follow 52 = .ok (.iaload, 1) := by decide +kernel
theorem dX1_follow_53 : decode cX1_follow 53 = .ok (.iastore, 1) := by decide +kernel
theorem dX1_follow_54 : decode cX1_follow 54 = .ok (.aload_n 0, 1) := by decide +kernel
theorem dX1_follow_55 : decode cX1_follow 55 = .ok (.getfield 21, 3) := by decide +kernel
theorem dX1_follow_58 : decode cX1_follow 58 = .ok (.iload_n 1, 1) := by decide +kernel
theorem dX1_follow_59 : decode cX1_follow 59 = .ok (.dup2, 1) := by decide +kernel
theorem dX1_follow_60 : decode cX1_follow 60 = .ok (.iaload, 1) := by decide +kernel
theorem dX1_follow_61 : decode cX1_follow 61 = .ok (.iconst 1, 1) := by decide +kernel
theorem dX1_follow_62 : decode cX1_follow 62 = .ok (.aload_n 0, 1) := by decide +kernel
theorem dX1_follow_63 : decode cX1_follow 63 = .ok (.getfield 44, 3) := by decide +kernel
theorem dX1_follow_66 : decode cX1_follow 66 = .ok (.getfield 94, 3) := by decide +kernel
theorem dX1_follow_69 : decode cX1_follow 69 = .ok (.iload 4, 2) := by decide +kernel
theorem dX1_follow_71 : decode cX1_follow 71 = .ok (.iaload, 1) := by decide +kernel
theorem dX1_follow_72 : decode cX1_follow 72 = .ok (.ishl, 1) := by decide +kernel
theorem dX1_follow_73 : decode cX1_follow 73 = .ok (.ior, 1) := by decide +kernel
theorem dX1_follow_74 : decode cX1_follow 74 = .ok (.iastore, 1) := by decide +kernel
theorem dX1_follow_75 : decode cX1_follow 75 = .ok (.iinc 4 1, 3) := by decide +kernel
theorem dX1_follow_78 : decode cX1_follow 78 = .ok (.goto (-52), 3) := by decide +kernel
theorem dX1_follow_81 : decode cX1_follow 81 = .ok (.aload_n 0, 1) := by decide +kernel
theorem dX1_follow_82 : decode cX1_follow 82 = .ok (.getfield 24, 3) := by decide +kernel
theorem dX1_follow_85 : decode cX1_follow 85 = .ok (.iload_n 1, 1) := by decide +kernel
theorem dX1_follow_86 : decode cX1_follow 86 = .ok (.aload_n 0, 1) := by decide +kernel
theorem dX1_follow_87 : decode cX1_follow 87 = .ok (.getfield 44, 3) := by decide +kernel
theorem dX1_follow_90 : decode cX1_follow 90 = .ok (.iload_n 2, 1) := by decide +kernel
theorem dX1_follow_91 : decode cX1_follow 91 = .ok (.invokevirtual 97, 3) := by decide +kernel
theorem dX1_follow_94 : decode cX1_follow 94 = .ok (.iastore, 1) := by decide +kernel
theorem dX1_follow_95 : decode cX1_follow 95 = .ok (.iload_n 2, 1) := by decide +kernel
theorem dX1_follow_96 : decode cX1_follow 96 = .ok (.ifCond .eq 13, 3) := by decide +kernel
theorem dX1_follow_99 : decode cX1_follow 99 = .ok (.aload_n 0, 1) := by decide +kernel
theorem dX1_follow_100 : decode cX1_follow 100 = .ok (.getfield 44, 3) := by decide +kernel
theorem dX1_follow_103 : decode cX1_follow 103 = .ok (.getfield 100, 3) := by decide +kernel
theorem dX1_follow_106 : decode cX1_follow 106 = .ok (.ifCond .ne 36, 3) := by decide +kernel
theorem dX1_follow_109 : decode cX1_follow 109 = .ok (.aload_n 0, 1) := by decide +kernel
theorem dX1_follow_110 : decode cX1_follow 110 = .ok (.getfield 27, 3) := by decide +kernel
theorem dX1_follow_113 : decode cX1_follow 113 = .ok (.iload_n 1, 1) := by decide +kernel
theorem dX1_follow_114 : decode cX1_follow 114 = .ok (.aload_n 0, 1) := by decide +kernel
theorem dX1_follow_115 : decode cX1_follow 115 = .ok (.getfield 36, 3) := by decide +kernel
theorem dX1_follow_118 : decode cX1_follow 118 = .ok (.iload_n 1, 1) := by decide +kernel
theorem dX1_follow_119 : decode cX1_follow 119 = .ok (.iconst 3, 1) := by decide +kernel
theorem dX1_follow_120 : decode cX1_follow 120 = .ok (.invokevirtual 66, 3) := by decide +kernel
theorem dX1_follow_123 : decode cX1_follow 123 = .ok (.iastore, 1) := by decide +kernel
theorem dX1_follow_124 : decode cX1_follow 124 = .ok (.aload_n 0, 1) := by decide +kernel
theorem dX1_follow_125 : decode cX1_follow 125 = .ok (.getfield 30, 3) := by decide +kernel
theorem dX1_follow_128 : decode cX1_follow 128 = .ok (.iload_n 1, 1) := by decide +kernel
theorem dX1_follow_129 : decode cX1_follow 129 = .ok (.aload_n 0, 1) := by decide +kernel
theorem dX1_follow_130 : decode cX1_follow 130 = .ok (.getfield 36, 3) := by decide +kernel
theorem dX1_follow_133 : decode cX1_follow 133 = .ok (.iload_n 1, 1) := by decide +kernel
theorem dX1_follow_134 : decode cX1_follow 134 = .ok (.iconst 4, 1) := by decide +kernel
theorem dX1_follow_135 : decode cX1_follow 135 = .ok (.invokevirtual 66, 3) := by decide +kernel
theorem dX1_follow_138 : decode cX1_follow 138 = .ok (.iastore, 1) := by decide +kernel
theorem dX1_follow_139 : decode cX1_follow 139 = .ok (.goto 90, 3) := by decide +kernel
theorem dX1_follow_142 : decode cX1_follow 142 = .ok (.iload_n 3, 1) := by decide +kernel
theorem dX1_follow_143 : decode cX1_follow 143 = .ok (.aload_n 0, 1) := by decide +kernel
theorem dX1_follow_144 : decode cX1_follow 144 = .ok (.getfield 44, 3) := by decide +kernel
theorem dX1_follow_147 : decode cX1_follow 147 = .ok (.getfield 100, 3) := by decide +kernel
theorem dX1_follow_150 : decode cX1_follow 150 = .ok (.if_icmp .ge 65, 3) := by decide +kernel
theorem dX1_follow_153 : decode cX1_follow 153 = .ok (.aload_n 0, 1) := by decide +kernel
theorem dX1_follow_154 : decode cX1_follow 154 = .ok (.getfield 44, 3) := by decide +kernel
theorem dX1_follow_157 : decode cX1_follow 157 = .ok (.iload_n 3, 1) := by decide +kernel
theorem dX1_follow_158 : decode cX1_follow 158 = .ok (.invokevirtual 104, 3) := by decide +kernel
theorem dX1_follow_161 : decode cX1_follow 161 = .ok (.iload_n 2, 1) := by decide +kernel
theorem dX1_follow_162 : decode cX1_follow 162 = .ok (.if_icmp .ge 53, 3) := by decide +kernel
theorem dX1_follow_165 : decode cX1_follow 165 = .ok (.aload_n 0, 1) := by decide +kernel
theorem dX1_follow_166 : decode cX1_follow 166 = .ok (.getfield 27, 3) := by decide +kernel
theorem dX1_follow_169 : decode cX1_follow 169 = .ok (.iload_n 1, 1) := by decide +kernel
theorem dX1_follow_170 : decode cX1_follow 170 = .ok (.aload_n 0, 1) := by decide +kernel
theorem dX1_follow_171 : decode cX1_follow 171 = .ok (.getfield 44, 3) := by decide +kernel
theorem dX1_follow_174 : decode cX1_follow 174 = .ok (.getfield 94, 3) := by decide +kernel
theorem dX1_follow_177 : decode cX1_follow 177 = .ok (.iload_n 3, 1) := by decide +kernel
theorem dX1_follow_178 : decode cX1_follow 178 = .ok (.iaload, 1) := by decide +kernel
theorem dX1_follow_179 : decode cX1_follow 179 = .ok (.iastore, 1) := by decide +kernel
theorem dX1_follow_180 : decode cX1_follow 180 = .ok (.aload_n 0, 1) := by decide +kernel
theorem dX1_follow_181 : decode cX1_follow 181 = .ok (.getfield 30, 3) := by decide +kernel
theorem dX1_follow_184 : decode cX1_follow 184 = .ok (.iload_n 1, 1) := by decide +kernel
theorem dX1_follow_185 : decode cX1_follow 185 = .ok (.iload_n 3, 1) := by decide +kernel
theorem dX1_follow_186 : decode cX1_follow 186 = .ok (.ifCond .ne 13, 3) := by decide +kernel
theorem dX1_follow_189 : decode cX1_follow 189 = .ok (.aload_n 0, 1) := by decide +kernel
theorem dX1_follow_190 : decode cX1_follow 190 = .ok (.getfield 44, 3) := by decide +kernel
theorem dX1_follow_193 : decode cX1_follow 193 = .ok (.getfield 107, 3) := by decide +kernel
theorem dX1_follow_196 : decode cX1_follow 196 = .ok (.goto 4, 3) := by decide +kernel
theorem dX1_follow_199 : decode cX1_follow 199 = .ok (.iconst 0, 1) := by decide +kernel
theorem dX1_follow_200 : decode cX1_follow 200 = .ok (.iload_n 2, 1) := by decide +kernel
theorem dX1_follow_201 : decode cX1_follow 201 = .ok (.iadd, 1) := by decide +kernel
theorem dX1_follow_202 : decode cX1_follow 202 = .ok (.aload_n 0, 1) := by decide +kernel
theorem dX1_follow_203 : decode cX1_follow 203 = .ok (.getfield 44, 3) := by decide +kernel
theorem dX1_follow_206 : decode cX1_follow 206 = .ok (.iload_n 3, 1) := by decide +kernel
theorem dX1_follow_207 : decode cX1_follow 207 = .ok (.invokevirtual 104, 3) := by decide +kernel
theorem dX1_follow_210 : decode cX1_follow 210 = .ok (.isub, 1) := by decide +kernel
theorem dX1_follow_211 : decode cX1_follow 211 = .ok (.iastore, 1) := by decide +kernel
theorem dX1_follow_212 : decode cX1_follow 212 = .ok (.goto 17, 3) := by decide +kernel
theorem dX1_follow_215 : decode cX1_follow 215 = .ok (.aload_n 0, 1) := by decide +kernel
theorem dX1_follow_216 : decode cX1_follow 216 = .ok (.getfield 27, 3) := by decide +kernel
theorem dX1_follow_219 : decode cX1_follow 219 = .ok (.iload_n 1, 1) := by decide +kernel
theorem dX1_follow_220 : decode cX1_follow 220 = .ok (.iconst (-1), 1) := by decide +kernel
theorem dX1_follow_221 : decode cX1_follow 221 = .ok (.iastore, 1) := by decide +kernel
theorem dX1_follow_222 : decode cX1_follow 222 = .ok (.aload_n 0, 1) := by decide +kernel
theorem dX1_follow_223 : decode cX1_follow 223 = .ok (.getfield 30, 3) := by decide +kernel
theorem dX1_follow_226 : decode cX1_follow 226 = .ok (.iload_n 1, 1) := by decide +kernel
theorem dX1_follow_227 : decode cX1_follow 227 = .ok (.iconst 0, 1) := by decide +kernel
theorem dX1_follow_228 : decode cX1_follow 228 = .ok (.iastore, 1) := by decide +kernel
theorem dX1_follow_229 : decode cX1_follow 229 = .ok (.return_, 1) := by decide +kernel
theorem dX1_happen_0 : decode cX1_happen 0 = .ok (.aload_n 0, 1) := by decide +kernel
theorem dX1_happen_1 : decode cX1_happen 1 = .ok (.getfield 36, 3) := by decide +kernel
theorem dX1_happen_4 : decode cX1_happen 4 = .ok (.getfield 110, 3) := by decide +kernel
theorem dX1_happen_7 : decode cX1_happen 7 = .ok (.iconst 0, 1) := by decide +kernel
theorem dX1_happen_8 : decode cX1_happen 8 = .ok (.dup2, 1) := by decide +kernel
theorem dX1_happen_9 : decode cX1_happen 9 = .ok (.iaload, 1) := by decide +kernel
theorem dX1_happen_10 : decode cX1_happen 10 = .ok (.iconst 1, 1) := by decide +kernel
theorem dX1_happen_11 : decode cX1_happen 11 = .ok (.iadd, 1) := by decide +kernel
theorem dX1_happen_12 : decode cX1_happen 12 = .ok (.iastore, 1) := by decide +kernel
theorem dX1_happen_13 : decode cX1_happen 13 = .ok (.aload_n 0, 1) := by decide +kernel
theorem dX1_happen_14 : decode cX1_happen 14 = .ok (.getfield 36, 3) := by decide +kernel
theorem dX1_happen_17 : decode cX1_happen 17 = .ok (.getfield 110, 3) := by decide +kernel
theorem dX1_happen_20 : decode cX1_happen 20 = .ok (.iconst 1, 1) := by decide +kernel
theorem dX1_happen_21 : decode cX1_happen 21 = .ok (.sipush 9999, 3) := by decide +kernel
theorem dX1_happen_24 : decode cX1_happen 24 = .ok (.aload_n 0, 1) := by decide +kernel
theorem dX1_happen_25 : decode cX1_happen 25 = .ok (.getfield 36, 3) := by decide +kernel
theorem dX1_happen_28 : decode cX1_happen 28 = .ok (.getfield 110, 3) := by decide +kernel
theorem dX1_happen_31 : decode cX1_happen 31 = .ok (.iconst 1, 1) := by decide +kernel
theorem dX1_happen_32 : decode cX1_happen 32 = .ok (.iaload, 1) := by decide +kernel
theorem dX1_happen_33 : decode cX1_happen 33 = .ok (.aload_n 0, 1) := by decide +kernel
theorem dX1_happen_34 : decode cX1_happen 34 = .ok (.invokevirtual 113, 3) := by decide +kernel
theorem dX1_happen_37 : decode cX1_happen 37 = .ok (.iadd, 1) := by decide +kernel
theorem dX1_happen_38 : decode cX1_happen 38 = .ok (.invokestatic 117, 3) := by decide +kernel
theorem dX1_happen_41 : decode cX1_happen 41 = .ok (.iastore, 1) := by decide +kernel
theorem dX1_happen_42 : decode cX1_happen 42 = .ok (.iconst 0, 1) := by decide +kernel
theorem dX1_happen_43 : decode cX1_happen 43 = .ok (.istore_n 1, 1) := by decide +kernel
theorem dX1_happen_44 : decode cX1_happen 44 = .ok (.iload_n 1, 1) := by decide +kernel
theorem dX1_happen_45 : decode cX1_happen 45 = .ok (.aload_n 0, 1) := by decide +kernel
theorem dX1_happen_46 : decode cX1_happen 46 = .ok (.getfield 36, 3) := by decide +kernel
theorem dX1_happen_49 : decode cX1_happen 49 = .ok (.getfield 48, 3) := by decide +kernel
theorem dX1_happen_52 : decode cX1_happen 52 = .ok (.getfield 54, 3) := by decide +kernel
theorem dX1_happen_55 : decode cX1_happen 55 = .ok (.iconst 2, 1) := by decide +kernel
theorem dX1_happen_56 : decode cX1_happen 56 = .ok (.iaload, 1) := by decide +kernel
theorem dX1_happen_57 : decode cX1_happen 57 = .ok (.if_icmp .ge 112, 3) := by decide +kernel
theorem dX1_happen_60 : decode cX1_happen 60 = .ok (.aload_n 0, 1) := by decide +kernel
theorem dX1_happen_61 : decode cX1_happen 61 = .ok (.getfield 36, 3) := by decide +kernel
theorem dX1_happen_64 : decode cX1_happen 64 = .ok (.iload_n 1, 1) := by decide +kernel
theorem dX1_happen_65 : decode cX1_happen 65 = .ok (.iconst 1, 1) := by decide +kernel
theorem dX1_happen_66 : decode cX1_happen 66 = .ok (.aload_n 0, 1) := by decide +kernel
theorem dX1_happen_67 : decode cX1_happen 67 = .ok (.getfield 36, 3) := by decide +kernel
theorem dX1_happen_70 : decode cX1_happen 70 = .ok (.iload_n 1, 1) := by decide +kernel
theorem dX1_happen_71 : decode cX1_happen 71 = .ok (.iconst 1, 1) := by decide +kernel
theorem dX1_happen_72 : decode cX1_happen 72 = .ok (.invokevirtual 66, 3) := by decide +kernel
theorem dX1_happen_75 : decode cX1_happen 75 = .ok (.aload_n 0, 1) := by decide +kernel
theorem dX1_happen_76 : decode cX1_happen 76 = .ok (.getfield 21, 3) := by decide +kernel
theorem dX1_happen_79 : decode cX1_happen 79 = .ok (.iload_n 1, 1) := by decide +kernel
theorem dX1_happen_80 : decode cX1_happen 80 = .ok (.iaload, 1) := by decide +kernel
theorem dX1_happen_81 : decode cX1_happen 81 = .ok (.ior, 1) := by decide +kernel
theorem dX1_happen_82 : decode cX1_happen 82 = .ok (.invokevirtual 120, 3) := by decide +kernel
theorem dX1_happen_85 : decode cX1_happen 85 = .ok (.iconst 0, 1) := by decide +kernel
theorem dX1_happen_86 : decode cX1_happen 86 = .ok (.istore_n 2, 1) := by decide +kernel
theorem dX1_happen_87 : decode cX1_happen 87 = .ok (.iload_n 2, 1) := by decide +kernel
theorem dX1_happen_88 : decode cX1_happen 88 = .ok (.aload_n 0, 1) := by decide +kernel
theorem dX1_happen_89 : decode cX1_happen 89 = .ok (.getfield 18, 3) := by decide +kernel
theorem dX1_happen_92 : decode cX1_happen 92 = .ok (.iload_n 1, 1) := by decide +kernel
theorem dX1_happen_93 : decode cX1_happen 93 = .ok (.iaload, 1) := by decide +kernel
theorem dX1_happen_94 : decode cX1_happen 94 = .ok (.if_icmp .ge 39, 3) := by decide +kernel
theorem dX1_happen_97 : decode cX1_happen 97 = .ok (.aload_n 0, 1) := by decide +kernel
theorem dX1_happen_98 : decode cX1_happen 98 = .ok (.getfield 33, 3) := by decide +kernel
theorem dX1_happen_101 : decode cX1_happen 101 = .ok (.iload_n 1, 1) := by decide +kernel
theorem dX1_happen_102 : decode cX1_happen 102 = .ok (.bipush 8, 2) := by decide +kernel
theorem dX1_happen_104 : decode cX1_happen 104 = .ok (.imul, 1) := by decide +kernel
theorem dX1_happen_105 : decode cX1_happen 105 = .ok (.iload_n 2, 1) := by decide +kernel
theorem dX1_happen_106 : decode cX1_happen 106 = .ok (.iadd, 1) := by decide +kernel
theorem dX1_happen_107 : decode cX1_happen 107 = .ok (.iaload, 1) := by decide +kernel
theorem dX1_happen_108 : decode cX1_happen 108 = .ok (.istore_n 3, 1) := by decide +kernel
theorem dX1_happen_109 : decode cX1_happen 109 = .ok (.aload_n 0, 1) := by decide +kernel
theorem dX1_happen_110 : decode cX1_happen 110 = .ok (.getfield 36, 3) := by decide +kernel
theorem dX1_happen_113 : decode cX1_happen 113 = .ok (.iload_n 1, 1) := by decide +kernel
theorem dX1_happen_114 : decode cX1_happen 114 = .ok (.iload_n 3, 1) := by decide +kernel
theorem dX1_happen_115 : decode cX1_happen 115 = .ok (.invokevirtual 124, 3) := by decide +kernel
theorem dX1_happen_118 : decode cX1_happen 118 = .ok (.aload_n 0, 1) := by decide +kernel
theorem dX1_happen_119 : decode cX1_happen 119 = .ok (.getfield 36, 3) := by decide +kernel
theorem dX1_happen_122 : decode cX1_happen 122 = .ok (.iload_n 1, 1) := by decide +kernel
theorem dX1_happen_123 : decode cX1_happen 123 = .ok (.iload_n 3, 1) := by decide +kernel
theorem dX1_happen_124 : decode cX1_happen 124 = .ok (.invokevirtual 127, 3) := by decide +kernel
theorem dX1_happen_127 : decode cX1_happen 127 = .ok (.iinc 2 1, 3) := by decide +kernel
theorem dX1_happen_130 : decode cX1_happen 130 = .ok (.goto (-43), 3) := by decide +kernel
theorem dX1_happen_133 : decode cX1_happen 133 = .ok (.aload_n 0, 1) := by decide +kernel
theorem dX1_happen_134 : decode cX1_happen 134 = .ok (.getfield 36, 3) := by decide +kernel
theorem dX1_happen_137 : decode cX1_happen 137 = .ok (.iload_n 1, 1) := by decide +kernel
theorem dX1_happen_138 : decode cX1_happen 138 = .ok (.iconst 3, 1) := by decide +kernel
theorem dX1_happen_139 : decode cX1_happen 139 = .ok (.aload_n 0, 1) := by decide +kernel
theorem dX1_happen_140 : decode cX1_happen 140 = .ok (.getfield 27, 3) := by decide +kernel
theorem dX1_happen_143 : decode cX1_happen 143 = .ok (.iload_n 1, 1) := by decide +kernel
theorem dX1_happen_144 : decode cX1_happen 144 = .ok (.iaload, 1) := by decide +kernel
theorem dX1_happen_145 : decode cX1_happen 145 = .ok (.invokevirtual 120, 3) := by decide +kernel
theorem dX1_happen_148 : decode cX1_happen 148 = .ok (.aload_n 0, 1) := by decide +kernel
theorem dX1_happen_149 : decode cX1_happen 149 = .ok (.getfield 36, 3) := by decide +kernel
theorem dX1_happen_152 : decode cX1_happen 152 = .ok (.iload_n 1, 1) := by decide +kernel
theorem dX1_happen_153 : decode cX1_happen 153 = .ok (.iconst 4, 1) := by decide +kernel
theorem dX1_happen_154 : decode cX1_happen 154 = .ok (.aload_n 0, 1) := by decide +kernel
theorem dX1_happen_155 : decode cX1_happen 155 = .ok (.getfield 30, 3) := by decide +kernel
theorem dX1_happen_158 : decode cX1_happen 158 = .ok (.iload_n 1, 1) := by decide +kernel
theorem dX1_happen_159 : decode cX1_happen 159 = .ok (.iaload, 1) := by decide +kernel
theorem dX1_happen_160 : decode cX1_happen 160 = .ok (.invokevirtual 120, 3) := by decide +kernel
theorem dX1_happen_163 : decode cX1_happen 163 = .ok (.iinc 1 1, 3) := by decide +kernel
theorem dX1_happen_166 : decode cX1_happen 166 = .ok (.goto (-122), 3) := by decide +kernel
theorem dX1_happen_169 : decode cX1_happen 169 = .ok (.return_, 1) := by decide +kernel
theorem dX1_allRead_0 : decode cX1_allRead 0 = .ok (.iconst 0, 1) := by decide +kernel
theorem dX1_allRead_1 : decode cX1_allRead 1 = .ok (.istore_n 1, 1) := by decide +kernel
theorem dX1_allRead_2 : decode cX1_allRead 2 = .ok (.iconst 0, 1) := by decide +kernel
theorem dX1_allRead_3 : decode cX1_allRead 3 = .ok (.istore_n 2, 1) := by decide +kernel
theorem dX1_allRead_4 : decode cX1_allRead 4 = .ok (.iload_n 2, 1) := by decide +kernel
theorem dX1_allRead_5 : decode cX1_allRead 5 = .ok (.aload_n 0, 1) := by decide +kernel
theorem dX1_allRead_6 : decode cX1_allRead 6 = .ok (.getfield 36, 3) := by decide +kernel
theorem dX1_allRead_9 : decode cX1_allRead 9 = .ok (.getfield 48, 3) := by decide +kernel
theorem dX1_allRead_12 : decode cX1_allRead 12 = .ok (.getfield 54, 3) := by decide +kernel
theorem dX1_allRead_15 : decode cX1_allRead 15 = .ok (.iconst 2, 1) := by decide +kernel
theorem dX1_allRead_16 : decode cX1_allRead 16 = .ok (.iaload, 1) := by decide +kernel
theorem dX1_allRead_17 : decode cX1_allRead 17 = .ok (.if_icmp .ge 18, 3) := by decide +kernel
theorem dX1_allRead_20 : decode cX1_allRead 20 = .ok (.iload_n 1, 1) := by decide +kernel
theorem dX1_allRead_21 : decode cX1_allRead 21 = .ok (.aload_n 0, 1) := by decide +kernel
theorem dX1_allRead_22 : decode cX1_allRead 22 = .ok (.getfield 18, 3) := by decide +kernel
theorem dX1_allRead_25 : decode cX1_allRead 25 = .ok (.iload_n 2, 1) := by decide +kernel
theorem dX1_allRead_26 : decode cX1_allRead 26 = .ok (.iaload, 1) := by decide +kernel
theorem dX1_allRead_27 : decode cX1_allRead 27 = .ok (.iadd, 1) := by decide +kernel
theorem dX1_allRead_28 : decode cX1_allRead 28 = .ok (.istore_n 1, 1) := by decide +kernel
theorem dX1_allRead_29 : decode cX1_allRead 29 = .ok (.iinc 2 1, 3) := by decide +kernel
theorem dX1_allRead_32 : decode cX1_allRead 32 = .ok (.goto (-28), 3) := by decide +kernel
theorem dX1_allRead_35 : decode cX1_allRead 35 = .ok (.iload_n 1, 1) := by decide +kernel
theorem dX1_allRead_36 : decode cX1_allRead 36 = .ok (.ireturn, 1) := by decide +kernel
theorem dX1_allLight_0 : decode cX1_allLight 0 = .ok (.iconst 0, 1) := by decide +kernel
theorem dX1_allLight_1 : decode cX1_allLight 1 = .ok (.istore_n 1, 1) := by decide +kernel
theorem dX1_allLight_2 : decode cX1_allLight 2 = .ok (.iconst 0, 1) := by decide +kernel
theorem dX1_allLight_3 : decode cX1_allLight 3 = .ok (.istore_n 2, 1) := by decide +kernel
theorem dX1_allLight_4 : decode cX1_allLight 4 = .ok (.iload_n 2, 1) := by decide +kernel
theorem dX1_allLight_5 : decode cX1_allLight 5 = .ok (.aload_n 0, 1) := by decide +kernel
theorem dX1_allLight_6 : decode cX1_allLight 6 = .ok (.getfield 36, 3) := by decide +kernel
theorem dX1_allLight_9 : decode cX1_allLight 9 = .ok (.getfield 48, 3) := by decide +kernel
theorem dX1_allLight_12 : decode cX1_allLight 12 = .ok (.getfield 54, 3) := by decide +kernel
theorem dX1_allLight_15 : decode cX1_allLight 15 = .ok (.iconst 3, 1) := by decide +kernel
theorem dX1_allLight_16 : decode cX1_allLight 16 = .ok (.iaload, 1) := by decide +kernel
theorem dX1_allLight_17 : decode cX1_allLight 17 = .ok (.if_icmp .ge 18, 3) := by decide +kernel
theorem dX1_allLight_20 : decode cX1_allLight 20 = .ok (.iload_n 1, 1) := by decide +kernel
theorem dX1_allLight_21 : decode cX1_allLight 21 = .ok (.aload_n 0, 1) := by decide +kernel
theorem dX1_allLight_22 : decode cX1_allLight 22 = .ok (.getfield 9, 3) := by decide +kernel
theorem dX1_allLight_25 : decode cX1_allLight 25 = .ok (.iload_n 2, 1) := by decide +kernel
theorem dX1_allLight_26 : decode cX1_allLight 26 = .ok (.iaload, 1) := by decide +kernel
theorem dX1_allLight_27 : decode cX1_allLight 27 = .ok (.iadd, 1) := by decide +kernel
theorem dX1_allLight_28 : decode cX1_allLight 28 = .ok (.istore_n 1, 1) := by decide +kernel
theorem dX1_allLight_29 : decode cX1_allLight 29 = .ok (.iinc 2 1, 3) := by decide +kernel
theorem dX1_allLight_32 : decode cX1_allLight 32 = .ok (.goto (-28), 3) := by decide +kernel
theorem dX1_allLight_35 : decode cX1_allLight 35 = .ok (.iload_n 1, 1) := by decide +kernel
theorem dX1_allLight_36 : decode cX1_allLight 36 = .ok (.ireturn, 1) := by decide +kernel
theorem dX1_allWax_0 : decode cX1_allWax 0 = .ok (.iconst 0, 1) := by decide +kernel
theorem dX1_allWax_1 : decode cX1_allWax 1 = .ok (.istore_n 1, 1) := by decide +kernel
theorem dX1_allWax_2 : decode cX1_allWax 2 = .ok (.iconst 0, 1) := by decide +kernel
theorem dX1_allWax_3 : decode cX1_allWax 3 = .ok (.istore_n 2, 1) := by decide +kernel
theorem dX1_allWax_4 : decode cX1_allWax 4 = .ok (.iload_n 2, 1) := by decide +kernel
theorem dX1_allWax_5 : decode cX1_allWax 5 = .ok (.aload_n 0, 1) := by decide +kernel
theorem dX1_allWax_6 : decode cX1_allWax 6 = .ok (.getfield 36, 3) := by decide +kernel
theorem dX1_allWax_9 : decode cX1_allWax 9 = .ok (.getfield 48, 3) := by decide +kernel
theorem dX1_allWax_12 : decode cX1_allWax 12 = .ok (.getfield 54, 3) := by decide +kernel
theorem dX1_allWax_15 : decode cX1_allWax 15 = .ok (.iconst 3, 1) := by decide +kernel
theorem dX1_allWax_16 : decode cX1_allWax 16 = .ok (.iaload, 1) := by decide +kernel
theorem dX1_allWax_17 : decode cX1_allWax 17 = .ok (.if_icmp .ge 25, 3) := by decide +kernel
theorem dX1_allWax_20 : decode cX1_allWax 20 = .ok (.iload_n 1, 1) := by decide +kernel
theorem dX1_allWax_21 : decode cX1_allWax 21 = .ok (.aload_n 0, 1) := by decide +kernel
theorem dX1_allWax_22 : decode cX1_allWax 22 = .ok (.getfield 9, 3) := by decide +kernel
theorem dX1_allWax_25 : decode cX1_allWax 25 = .ok (.iload_n 2, 1) := by decide +kernel
theorem dX1_allWax_26 : decode cX1_allWax 26 = .ok (.iaload, 1) := by decide +kernel
theorem dX1_allWax_27 : decode cX1_allWax 27 = .ok (.aload_n 0, 1) := by decide +kernel
theorem dX1_allWax_28 : decode cX1_allWax 28 = .ok (.getfield 15, 3) := by decide +kernel
theorem dX1_allWax_31 : decode cX1_allWax 31 = .ok (.iload_n 2, 1) := by decide +kernel
theorem dX1_allWax_32 : decode cX1_allWax 32 = .ok (.iaload, 1) := by decide +kernel
theorem dX1_allWax_33 : decode cX1_allWax 33 = .ok (.isub, 1) := by decide +kernel
theorem dX1_allWax_34 : decode cX1_allWax 34 = .ok (.iadd, 1) := by decide +kernel
theorem dX1_allWax_35 : decode cX1_allWax 35 = .ok (.istore_n 1, 1) := by decide +kernel
theorem dX1_allWax_36 : decode cX1_allWax 36 = .ok (.iinc 2 1, 3) := by decide +kernel
theorem dX1_allWax_39 : decode cX1_allWax 39 = .ok (.goto (-35), 3) := by decide +kernel
theorem dX1_allWax_42 : decode cX1_allWax 42 = .ok (.iload_n 1, 1) := by decide +kernel
theorem dX1_allWax_43 : decode cX1_allWax 43 = .ok (.ireturn, 1) := by decide +kernel
theorem dX1_idle_0 : decode cX1_idle 0 = .ok (.iconst 0, 1) := by decide +kernel
theorem dX1_idle_1 : decode cX1_idle 1 = .ok (.istore_n 1, 1) := by decide +kernel
theorem dX1_idle_2 : decode cX1_idle 2 = .ok (.iconst 0, 1) := by decide +kernel
theorem dX1_idle_3 : decode cX1_idle 3 = .ok (.istore_n 2, 1) := by decide +kernel
theorem dX1_idle_4 : decode cX1_idle 4 = .ok (.iload_n 2, 1) := by decide +kernel
theorem dX1_idle_5 : decode cX1_idle 5 = .ok (.aload_n 0, 1) := by decide +kernel
theorem dX1_idle_6 : decode cX1_idle 6 = .ok (.getfield 36, 3) := by decide +kernel
theorem dX1_idle_9 : decode cX1_idle 9 = .ok (.getfield 48, 3) := by decide +kernel
theorem dX1_idle_12 : decode cX1_idle 12 = .ok (.getfield 54, 3) := by decide +kernel
theorem dX1_idle_15 : decode cX1_idle 15 = .ok (.iconst 2, 1) := by decide +kernel
theorem dX1_idle_16 : decode cX1_idle 16 = .ok (.iaload, 1) := by decide +kernel
theorem dX1_idle_17 : decode cX1_idle 17 = .ok (.if_icmp .ge 21, 3) := by decide +kernel
theorem dX1_idle_20 : decode cX1_idle 20 = .ok (.aload_n 0, 1) := by decide +kernel
theorem dX1_idle_21 : decode cX1_idle 21 = .ok (.getfield 18, 3) := by decide +kernel
theorem dX1_idle_24 : decode cX1_idle 24 = .ok (.iload_n 2, 1) := by decide +kernel
theorem dX1_idle_25 : decode cX1_idle 25 = .ok (.iaload, 1) := by decide +kernel
theorem dX1_idle_26 : decode cX1_idle 26 = .ok (.ifCond .ne 6, 3) := by decide +kernel
theorem dX1_idle_29 : decode cX1_idle 29 = .ok (.iinc 1 1, 3) := by decide +kernel
theorem dX1_idle_32 : decode cX1_idle 32 = .ok (.iinc 2 1, 3) := by decide +kernel
theorem dX1_idle_35 : decode cX1_idle 35 = .ok (.goto (-31), 3) := by decide +kernel
theorem dX1_idle_38 : decode cX1_idle 38 = .ok (.iload_n 1, 1) := by decide +kernel
theorem dX1_idle_39 : decode cX1_idle 39 = .ok (.ireturn, 1) := by decide +kernel
theorem dX2_init_0 : decode cX2_init 0 = .ok (.aload_n 0, 1) := by decide +kernel
theorem dX2_init_1 : decode cX2_init 1 = .ok (.invokespecial 3, 3) := by decide +kernel
theorem dX2_init_4 : decode cX2_init 4 = .ok (.aload_n 0, 1) := by decide +kernel
theorem dX2_init_5 : decode cX2_init 5 = .ok (.bipush 87, 2) := by decide +kernel
theorem dX2_init_7 : decode cX2_init 7 = .ok (.newarray .int, 2) := by decide +kernel
theorem dX2_init_9 : decode cX2_init 9 = .ok (.putfield 9, 3) := by decide +kernel
theorem dX2_init_12 : decode cX2_init 12 = .ok (.aload_n 0, 1) := by decide +kernel
theorem dX2_init_13 : decode cX2_init 13 = .ok (.bipush 84, 2) := by decide +kernel
theorem dX2_init_15 : decode cX2_init 15 = .ok (.newarray .int, 2) := by decide +kernel
theorem dX2_init_17 : decode cX2_init 17 = .ok (.putfield 15, 3) := by decide +kernel
theorem dX2_init_20 : decode cX2_init 20 = .ok (.aload_n 0, 1) := by decide +kernel
theorem dX2_init_21 : decode cX2_init 21 = .ok (.sipush 1740, 3) := by decide +kernel
theorem dX2_init_24 : decode cX2_init 24 = .ok (.newarray .int, 2) := by decide +kernel
theorem dX2_init_26 : decode cX2_init 26 = .ok (.putfield 18, 3) := by decide +kernel
theorem dX2_init_29 : decode cX2_init 29 = .ok (.aload_n 0, 1) := by decide +kernel
theorem dX2_init_30 : decode cX2_init 30 = .ok (.aload_n 1, 1) := by decide +kernel
theorem dX2_init_31 : decode cX2_init 31 = .ok (.invokevirtual 21, 3) := by decide +kernel
theorem dX2_init_34 : decode cX2_init 34 = .ok (.return_, 1) := by decide +kernel
theorem dX2_open_0 : decode cX2_open 0 = .ok (.aload_n 0, 1) := by decide +kernel
theorem dX2_open_1 : decode cX2_open 1 = .ok (.aload_n 1, 1) := by decide +kernel
theorem dX2_open_2 : decode cX2_open 2 = .ok (.putfield 25, 3) := by decide +kernel
theorem dX2_open_5 : decode cX2_open 5 = .ok (.aload_n 0, 1) := by decide +kernel
theorem dX2_open_6 : decode cX2_open 6 = .ok (.getfield 9, 3) := by decide +kernel
theorem dX2_open_9 : decode cX2_open 9 = .ok (.iconst 0, 1) := by decide +kernel
theorem dX2_open_10 : decode cX2_open 10 = .ok (.invokestatic 29, 3) := by decide +kernel
theorem dX2_open_13 : decode cX2_open 13 = .ok (.iconst 0, 1) := by decide +kernel
theorem dX2_open_14 : decode cX2_open 14 = .ok (.istore_n 2, 1) := by decide +kernel
theorem dX2_open_15 : decode cX2_open 15 = .ok (.iload_n 2, 1) := by decide +kernel
theorem dX2_open_16 : decode cX2_open 16 = .ok (.bipush 6, 2) := by decide +kernel
theorem dX2_open_18 : decode cX2_open 18 = .ok (.if_icmp .ge 16, 3) := by decide +kernel
theorem dX2_open_21 : decode cX2_open 21 = .ok (.aload_n 0, 1) := by decide +kernel
theorem dX2_open_22 : decode cX2_open 22 = .ok (.iload_n 2, 1) := by decide +kernel
theorem dX2_open_23 : decode cX2_open 23 = .ok (.iconst 3, 1) := by decide +kernel
theorem dX2_open_24 : decode cX2_open 24 = .ok (.iconst (-1), 1) := by decide +kernel
theorem dX2_open_25 : decode cX2_open 25 = .ok (.invokevirtual 35, 3) := by decide +kernel
theorem dX2_open_28 : decode cX2_open 28 = .ok (.iinc 2 1, 3) := by decide +kernel
theorem dX2_open_31 : decode cX2_open 31 = .ok (.goto (-16), 3) := by decide +kernel
theorem dX2_open_34 : decode cX2_open 34 = .ok (.aload_n 0, 1) := by decide +kernel
theorem dX2_open_35 : decode cX2_open 35 = .ok (.invokevirtual 39, 3) := by decide +kernel
theorem dX2_open_38 : decode cX2_open 38 = .ok (.return_, 1) := by decide +kernel
theorem dX2_become_0 : decode cX2_become 0 = .ok (.aload_n 1, 1) := by decide +kernel
theorem dX2_become_1 : decode cX2_become 1 = .ok (.iconst 0, 1) := by decide +kernel
theorem dX2_become_2 : decode cX2_become 2 = .ok (.aload_n 0, 1) := by decide +kernel
theorem dX2_become_3 : decode cX2_become 3 = .ok (.getfield 9, 3) := by decide +kernel
theorem dX2_become_6 : decode cX2_become 6 = .ok (.iconst 0, 1) := by decide +kernel
theorem dX2_become_7 : decode cX2_become 7 = .ok (.bipush 87, 2) := by decide +kernel
theorem dX2_become_9 : decode cX2_become 9 = .ok (.invokestatic 42, 3) := by decide +kernel
theorem dX2_become_12 : decode cX2_become 12 = .ok (.aload_n 0, 1) := by decide +kernel
theorem dX2_become_13 : decode cX2_become 13 = .ok (.invokevirtual 39, 3) := by decide +kernel
theorem dX2_become_16 : decode cX2_become 16 = .ok (.return_, 1) := by decide +kernel
theorem dX2_forget_0 : decode cX2_forget 0 = .ok (.aload_n 0, 1) := by decide +kernel
theorem dX2_forget_1 : decode cX2_forget 1 = .ok (.iconst 0, 1) := by decide +kernel
theorem dX2_forget_2 : decode cX2_forget 2 = .ok (.putfield 48, 3) := by decide +kernel
theorem dX2_forget_5 : decode cX2_forget 5 = .ok (.aload_n 0, 1) := by decide +kernel
theorem dX2_forget_6 : decode cX2_forget 6 = .ok (.iconst 0, 1) := by decide +kernel
theorem dX2_forget_7 : decode cX2_forget 7 = .ok (.putfield 52, 3) := by decide +kernel
theorem dX2_forget_10 : decode cX2_forget 10 = .ok (.aload_n 0, 1) := by decide +kernel
theorem dX2_forget_11 : decode cX2_forget 11 = .ok (.dup, 1) := by decide +kernel
theorem dX2_forget_12 : decode cX2_forget 12 = .ok (.getfield 55, 3) := by decide +kernel
theorem dX2_forget_15 : decode cX2_forget 15 = .ok (.iconst 1, 1) := by decide +kernel
theorem dX2_forget_16 : decode cX2_forget 16 = .ok (.iadd, 1) := by decide +kernel
theorem dX2_forget_17 : decode cX2_forget 17 = .ok (.putfield 55, 3) := by decide +kernel
theorem dX2_forget_20 : decode cX2_forget 20 = .ok (.return_, 1) := by decide +kernel
theorem dX2_remember_0 : decode cX2_remember 0 = .ok (.aload_n 0, 1) := by decide +kernel
theorem dX2_remember_1 : decode cX2_remember 1 = .ok (.getfield 9, 3) := by decide +kernel
theorem dX2_remember_4 : decode cX2_remember 4 = .ok (.iconst 0, 1) := by decide +kernel
theorem dX2_remember_5 : decode cX2_remember 5 = .ok (.aload_n 0, 1) := by decide +kernel
theorem dX2_remember_6 : decode cX2_remember 6 = .ok (.getfield 18, 3) := by decide +kernel
theorem dX2_remember_9 : decode cX2_remember 9 = .ok (.aload_n 0, 1) := by decide +kernel
theorem dX2_remember_10 : decode cX2_remember 10 = .ok (.getfield 48, 3) := by decide +kernel
theorem dX2_remember_13 : decode cX2_remember 13 = .ok (.bipush 87, 2) := by decide +kernel
theorem dX2_remember_15 : decode cX2_remember 15 = .ok (.imul, 1) := by decide +kernel
theorem dX2_remember_16 : decode cX2_remember 16 = .ok (.bipush 87, 2) := by decide +kernel
theorem dX2_remember_18 : decode cX2_remember 18 = .ok (.invokestatic 42, 3) := by decide +kernel
theorem dX2_remember_21 : decode cX2_remember 21 = .ok (.aload_n 0, 1) := by decide +kernel
theorem dX2_remember_22 : decode cX2_remember 22 = .ok (.aload_n 0, 1) := by decide +kernel
theorem dX2_remember_23 : decode cX2_remember 23 = .ok (.getfield 48, 3) := by decide +kernel
theorem dX2_remember_26 : decode cX2_remember 26 = .ok (.iconst 1, 1) := by decide +kernel
theorem dX2_remember_27 : decode cX2_remember 27 = .ok (.iadd, 1) := by decide +kernel
theorem dX2_remember_28 : decode cX2_remember 28 = .ok (.bipush 20, 2) := by decide +kernel
theorem dX2_remember_30 : decode cX2_remember 30 = .ok (.irem, 1) := by decide +kernel
theorem dX2_remember_31 : decode cX2_remember 31 = .ok (.putfield 48, 3) := by decide +kernel
theorem dX2_remember_34 : decode cX2_remember 34 = .ok (.aload_n 0, 1) := by decide +kernel
theorem dX2_remember_35 : decode cX2_remember 35 = .ok (.bipush 20, 2) := by decide +kernel
theorem dX2_remember_37 : decode cX2_remember 37 = .ok (.aload_n 0, 1) := by decide +kernel
theorem dX2_remember_38 : decode cX2_remember 38 = .ok (.getfield 52, 3) := by decide +kernel
theorem dX2_remember_41 : decode cX2_remember 41 = .ok (.iconst 1, 1) := by decide +kernel
theorem dX2_remember_42 : decode cX2_remember 42 = .ok (.iadd, 1) := by decide +kernel
theorem dX2_remember_43 : decode cX2_remember 43 = .ok (.invokestatic 58, 3) := by decide +kernel
theorem dX2_remember_46 : decode cX2_remember 46 = .ok (.putfield 52, 3) := by decide +kernel
theorem dX2_remember_49 : decode cX2_remember 49 = .ok (.aload_n 0, 1) := by decide +kernel
theorem dX2_remember_50 : decode cX2_remember 50 = .ok (.dup, 1) := by decide +kernel
theorem dX2_remember_51 : decode cX2_remember 51 = .ok (.getfield 55, 3) := by decide +kernel
theorem dX2_remember_54 : decode cX2_remember 54 = .ok (.iconst 1, 1) := by decide +kernel
theorem dX2_remember_55 : decode cX2_remember 55 = .ok (.iadd, 1) := by decide +kernel
theorem dX2_remember_56 : decode cX2_remember 56 = .ok (.putfield 55, 3) := by decide +kernel
theorem dX2_remember_59 : decode cX2_remember 59 = .ok (.return_, 1) := by decide +kernel
theorem dX2_recall_0 : decode cX2_recall 0 = .ok (.aload_n 0, 1) := by decide +kernel
theorem dX2_recall_1 : decode cX2_recall 1 = .ok (.getfield 52, 3) := by decide +kernel
theorem dX2_recall_4 : decode cX2_recall 4 = .ok (.ifCond .ne 5, 3) := by decide +kernel
theorem dX2_recall_7 : decode cX2_recall 7 = .ok (.iconst 0, 1) := by decide +kernel
theorem dX2_recall_8 : decode cX2_recall 8 = .ok (.ireturn, 1) := by decide +kernel
theorem dX2_recall_9 : decode cX2_recall 9 = .ok (.aload_n 0, 1) := by decide +kernel
theorem dX2_recall_10 : decode cX2_recall 10 = .ok (.aload_n 0, 1) := by decide +kernel
theorem dX2_recall_11 : decode cX2_recall 11 = .ok (.getfield 48, 3) := by decide +kernel
theorem dX2_recall_14 : decode cX2_recall 14 = .ok (.bipush 20, 2) := by decide +kernel
theorem dX2_recall_16 : decode cX2_recall 16 = .ok (.iadd, 1) := by decide +kernel
theorem dX2_recall_17 : decode cX2_recall 17 = .ok (.iconst 1, 1) := by decide +kernel
theorem dX2_recall_18 : decode cX2_recall 18 = .ok (.isub, 1) := by decide +kernel
theorem dX2_recall_19 : decode cX2_recall 19 = .ok (.bipush 20, 2) := by decide +kernel
theorem dX2_recall_21 : decode cX2_recall 21 = .ok (.irem, 1) := by decide +kernel
theorem dX2_recall_22 : decode cX2_recall 22 = .ok (.putfield 48, 3) := by decide +kernel
theorem dX2_recall_25 : decode cX2_recall 25 = .ok (.aload_n 0, 1) := by decide +kernel
theorem dX2_recall_26 : decode cX2_recall 26 = .ok (.dup, 1) := by decide +kernel
theorem dX2_recall_27 : decode cX2_recall 27 = .ok (.getfield 52, 3) := by decide +kernel
theorem dX2_recall_30 : decode cX2_recall 30 = .ok (.iconst 1, 1) := by decide +kernel
theorem dX2_recall_31 : decode cX2_recall 31 = .ok (.isub, 1) := by decide +kernel
theorem dX2_recall_32 : decode cX2_recall 32 = .ok (.putfield 52, 3) := by decide +kernel
theorem dX2_recall_35 : decode cX2_recall 35 = .ok (.aload_n 0, 1) := by decide +kernel
theorem dX2_recall_36 : decode cX2_recall 36 = .ok (.getfield 18, 3) := by decide +kernel
theorem dX2_recall_39 : decode cX2_recall 39 = .ok (.aload_n 0, 1) := by decide +kernel
theorem dX2_recall_40 : decode cX2_recall 40 = .ok (.getfield 48, 3) := by decide +kernel
theorem dX2_recall_43 : decode cX2_recall 43 = .ok (.bipush 87, 2) := by decide +kernel
theorem dX2_recall_45 : decode cX2_recall 45 = .ok (.imul, 1) := by decide +kernel
theorem dX2_recall_46 : decode cX2_recall 46 = .ok (.aload_n 0, 1) := by decide +kernel
theorem dX2_recall_47 : decode cX2_recall 47 = .ok (.getfield 9, 3) := by decide +kernel
theorem dX2_recall_50 : decode cX2_recall 50 = .ok (.iconst 0, 1) := by decide +kernel
theorem dX2_recall_51 : decode cX2_recall 51 = .ok (.bipush 87, 2) := by decide +kernel
theorem dX2_recall_53 : decode cX2_recall 53 = .ok (.invokestatic 42, 3) := by decide +kernel
theorem dX2_recall_56 : decode cX2_recall 56 = .ok (.aload_n 0, 1) := by decide +kernel
theorem dX2_recall_57 : decode cX2_recall 57 = .ok (.dup, 1) := by decide +kernel
theorem dX2_recall_58 : decode cX2_recall 58 = .ok (.getfield 55, 3) := by decide +kernel
theorem dX2_recall_61 : decode cX2_recall 61 = .ok (.iconst 1, 1) := by decide +kernel
theorem dX2_recall_62 : decode cX2_recall 62 = .ok (.iadd, 1) := by decide +kernel
theorem dX2_recall_63 : decode cX2_recall 63 = .ok (.putfield 55, 3) := by decide +kernel
theorem dX2_recall_66 : decode cX2_recall 66 = .ok (.iconst 1, 1) := by decide +kernel
theorem dX2_recall_67 : decode cX2_recall 67 = .ok (.ireturn, 1) := by decide +kernel
theorem dX2_of_0 : decode cX2_of 0 = .ok (.aload_n 0, 1) := by decide +kernel
theorem dX2_of_1 : decode cX2_of 1 = .ok (.getfield 9, 3) := by decide +kernel
theorem dX2_of_4 : decode cX2_of 4 = .ok (.iconst 3, 1) := by decide +kernel
theorem dX2_of_5 : decode cX2_of 5 = .ok (.iload_n 1, 1) := by decide +kernel
theorem dX2_of_6 : decode cX2_of 6 = .ok (.bipush 14, 2) := by decide +kernel
theorem dX2_of_8 : decode cX2_of 8 = .ok (.imul, 1) := by decide +kernel
theorem dX2_of_9 : decode cX2_of 9 = .ok (.iadd, 1) := by decide +kernel
theorem dX2_of_10 : decode cX2_of 10 = .ok (.iload_n 2, 1) := by decide +kernel
theorem dX2_of_11 : decode cX2_of 11 = .ok (.iadd, 1) := by decide +kernel
theorem dX2_of_12 : decode cX2_of 12 = .ok (.iaload, 1) := by decide +kernel
theorem dX2_of_13 : decode cX2_of 13 = .ok (.ireturn, 1) := by decide +kernel
theorem dX2_set_0 : decode cX2_set 0 = .ok (.aload_n 0, 1) := by decide +kernel
theorem dX2_set_1 : decode cX2_set 1 = .ok (.getfield 9, 3) := by decide +kernel
theorem dX2_set_4 : decode cX2_set 4 = .ok (.iconst 3, 1) := by decide +kernel
theorem dX2_set_5 : decode cX2_set 5 = .ok (.iload_n 1, 1) := by decide +kernel
theorem dX2_set_6 : decode cX2_set 6 = .ok (.bipush 14, 2) := by decide +kernel
theorem dX2_set_8 : decode cX2_set 8 = .ok (.imul, 1) := by decide +kernel
theorem dX2_set_9 : decode cX2_set 9 = .ok (.iadd, 1) := by decide +kernel
theorem dX2_set_10 : decode cX2_set 10 = .ok (.iload_n 2, 1) := by decide +kernel
theorem dX2_set_11 : decode cX2_set 11 = .ok (.iadd, 1) := by decide +kernel
theorem dX2_set_12 : decode cX2_set 12 = .ok (.iload_n 3, 1) := by decide +kernel
theorem dX2_set_13 : decode cX2_set 13 = .ok (.iastore, 1) := by decide +kernel
theorem dX2_set_14 : decode cX2_set 14 = .ok (.return_, 1) := by decide +kernel
theorem dX2_known_0 : decode cX2_known 0 = .ok (.aload_n 0, 1) := by decide +kernel
theorem dX2_known_1 : decode cX2_known 1 = .ok (.iload_n 1, 1) := by decide +kernel
theorem dX2_known_2 : decode cX2_known 2 = .ok (.iconst 1, 1) := by decide +kernel
theorem dX2_known_3 : decode cX2_known 3 = .ok (.invokevirtual 64, 3) := by decide +kernel
theorem dX2_known_6 : decode cX2_known 6 = .ok (.aload_n 0, 1) := by decide +kernel
theorem dX2_known_7 : decode cX2_known 7 = .ok (.iload_n 1, 1) := by decide +kernel
theorem dX2_known_8 : decode cX2_known 8 = .ok (.iconst 2, 1) := by decide +kernel
theorem dX2_known_9 : decode cX2_known 9 = .ok (.invokevirtual 64, 3) := by decide +kernel
theorem dX2_known_12 : decode cX2_known 12 = .ok (.ior, 1) := by decide +kernel
theorem dX2_known_13 : decode cX2_known 13 = .ok (.ireturn, 1) := by decide +kernel
theorem dX2_listed_0 : decode cX2_listed 0 = .ok (.iload_n 2, 1) := by decide +kernel
theorem dX2_listed_1 : decode cX2_listed 1 = .ok (.ifCond .lt 25, 3) := by decide +kernel
theorem dX2_listed_4 : decode cX2_listed 4 = .ok (.iload_n 2, 1) := by decide +kernel
theorem dX2_listed_5 : decode cX2_listed 5 = .ok (.aload_n 0, 1) := by decide +kernel
theorem dX2_listed_6 : decode cX2_listed 6 = .ok (.iload_n 1, 1) := by decide +kernel
theorem dX2_listed_7 : decode cX2_listed 7 = .ok (.iconst 5, 1) := by decide +kernel
theorem dX2_listed_8 : decode cX2_listed 8 = .ok (.invokevirtual 64, 3) := by decide +kernel
theorem dX2_listed_11 : decode cX2_listed 11 = .ok (.if_icmp .ge 15, 3) := by decide +kernel
theorem dX2_listed_14 : decode cX2_listed 14 = .ok (.aload_n 0, 1) := by decide +kernel
theorem dX2_listed_15 : decode cX2_listed 15 = .ok (.iload_n 1, 1) := by decide +kernel
theorem dX2_listed_16 : decode cX2_listed 16 = .ok (.bipush 6, 2) := by decide +kernel
theorem dX2_listed_18 : decode cX2_listed 18 = .ok (.iload_n 2, 1) := by decide +kernel
theorem dX2_listed_19 : decode cX2_listed 19 = .ok (.iadd, 1) := by decide +kernel
theorem dX2_listed_20 : decode cX2_listed 20 = .ok (.invokevirtual 64, 3) := by decide +kernel
theorem dX2_listed_23 : decode cX2_listed 23 = .ok (.goto 4, 3) := by decide +kernel
theorem dX2_listed_26 : decode cX2_listed 26 = .ok (.iconst (-1), 1) := by decide +kernel
theorem dX2_listed_27 : decode cX2_listed 27 = .ok (.ireturn, 1) := by decide +kernel
theorem dX2_sittingAt_0 : decode cX2_sittingAt 0 = .ok (.iconst 0, 1) := by decide +kernel
theorem dX2_sittingAt_1 : decode cX2_sittingAt 1 = .ok (.istore_n 2, 1) := by decide +kernel
theorem dX2_sittingAt_2 : decode cX2_sittingAt 2 = .ok (.iconst 0, 1) := by decide +kernel
theorem dX2_sittingAt_3 : decode cX2_sittingAt 3 = .ok (.istore_n 3, 1) := by decide +kernel
theorem dX2_sittingAt_4 : decode cX2_sittingAt 4 = .ok (.iload_n 3, 1) := by decide +kernel
theorem dX2_sittingAt_5 : decode cX2_sittingAt 5 = .ok (.aload_n 0, 1) := by decide +kernel
theorem dX2_sittingAt_6 : decode cX2_sittingAt 6 = .ok (.getfield 25, 3) := by decide +kernel
theorem dX2_sittingAt_9 : decode cX2_sittingAt 9 = .ok (.getfield 67, 3) := by decide +kernel
theorem dX2_sittingAt_12 : decode cX2_sittingAt 12 = .ok (.iconst 2, 1) := by decide +kernel
theorem dX2_sittingAt_13 : decode cX2_sittingAt 13 = .ok (.iaload, 1) := by decide +kernel
theorem dX2_sittingAt_14 : decode cX2_sittingAt 14 = .ok (.if_icmp .ge 22, 3) := by decide +kernel
theorem dX2_sittingAt_17 : decode cX2_sittingAt 17 = .ok (.aload_n 0, 1) := by decide +kernel
theorem dX2_sittingAt_18 : decode cX2_sittingAt 18 = .ok (.iload_n 3, 1) := by decide +kernel
theorem dX2_sittingAt_19 : decode cX2_sittingAt 19 = .ok (.iconst 0, 1) := by decide +kernel
theorem dX2_sittingAt_20 : decode cX2_sittingAt 20 = .ok (.invokevirtual 64, 3) := by decide +kernel
theorem dX2_sittingAt_23 : decode cX2_sittingAt 23 = .ok (.iload_n 1, 1) := by decide +kernel
theorem dX2_sittingAt_24 : decode cX2_sittingAt 24 = .ok (.if_icmp .ne 6, 3) := by decide +kernel
theorem dX2_sittingAt_27 : decode cX2_sittingAt 27 = .ok (.iinc 2 1, 3) := by decide +kernel
theorem dX2_sittingAt_30 : decode cX2_sittingAt 30 = .ok (.iinc 3 1, 3) := by decide +kernel
theorem dX2_sittingAt_33 : decode cX2_sittingAt 33 = .ok (.goto (-29), 3) := by decide +kernel
theorem dX2_sittingAt_36 : decode cX2_sittingAt 36 = .ok (.iload_n 2, 1) := by decide +kernel
theorem dX2_sittingAt_37 : decode cX2_sittingAt 37 = .ok (.ireturn, 1) := by decide +kernel
theorem dX2_knownBy_0 : decode cX2_knownBy 0 = .ok (.iconst 0, 1) := by decide +kernel
theorem dX2_knownBy_1 : decode cX2_knownBy 1 = .ok (.istore_n 2, 1) := by decide +kernel
theorem dX2_knownBy_2 : decode cX2_knownBy 2 = .ok (.iconst 0, 1) := by decide +kernel
theorem dX2_knownBy_3 : decode cX2_knownBy 3 = .ok (.istore_n 3, 1) := by decide +kernel
theorem dX2_knownBy_4 : decode cX2_knownBy 4 = .ok (.iload_n 3, 1) := by decide +kernel
theorem dX2_knownBy_5 : decode cX2_knownBy 5 = .ok (.aload_n 0, 1) := by decide +kernel
theorem dX2_knownBy_6 : decode cX2_knownBy 6 = .ok (.getfield 25, 3) := by decide +kernel
theorem dX2_knownBy_9 : decode cX2_knownBy 9 = .ok (.getfield 67, 3) := by decide +kernel
theorem dX2_knownBy_12 : decode cX2_knownBy 12 = .ok (.iconst 2, 1) := by decide +kernel
theorem dX2_knownBy_13 : decode cX2_knownBy 13 = .ok (.iaload, 1) := by decide +kernel
theorem dX2_knownBy_14 : decode cX2_knownBy 14 = .ok (.if_icmp .ge 21, 3) := by decide +kernel
theorem dX2_knownBy_17 : decode cX2_knownBy 17 = .ok (.iload_n 2, 1) := by decide +kernel
theorem dX2_knownBy_18 : decode cX2_knownBy 18 = .ok (.aload_n 0, 1) := by decide +kernel
theorem dX2_knownBy_19 : decode cX2_knownBy 19 = .ok (.iload_n 3, 1) := by decide +kernel
theorem dX2_knownBy_20 : decode cX2_knownBy 20 = .ok (.invokevirtual 72, 3) := by decide +kernel
theorem dX2_knownBy_23 : decode cX2_knownBy 23 = .ok (.iload_n 1, 1) := by decide +kernel
theorem dX2_knownBy_24 : decode cX2_knownBy 24 = .ok (.ishr, 1) := by decide +kernel
theorem dX2_knownBy_25 : decode cX2_knownBy 25 = .ok (.iconst 1, 1) := by decide +kernel
theorem dX2_knownBy_26 : decode cX2_knownBy 26 = .ok (.iand, 1) := by decide +kernel
theorem dX2_knownBy_27 : decode cX2_knownBy 27 = .ok (.iadd, 1) := by decide +kernel
theorem dX2_knownBy_28 : decode cX2_knownBy 28 = .ok (.istore_n 2, 1) := by decide +kernel
theorem dX2_knownBy_29 : decode cX2_knownBy 29 = .ok (.iinc 3 1, 3) := by decide +kernel
theorem dX2_knownBy_32 : decode cX2_knownBy 32 = .ok (.goto (-28), 3) := by decide +kernel
theorem dX2_knownBy_35 : decode cX2_knownBy 35 = .ok (.iload_n 2, 1) := by decide +kernel
theorem dX2_knownBy_36 : decode cX2_knownBy 36 = .ok (.ireturn, 1) := by decide +kernel
theorem dX2_knownByAll_0 : decode cX2_knownByAll 0 = .ok (.iconst 0, 1) := by decide +kernel
theorem dX2_knownByAll_1 : decode cX2_knownByAll 1 = .ok (.istore_n 1, 1) := by decide +kernel
theorem dX2_knownByAll_2 : decode cX2_knownByAll 2 = .ok (.iconst 0, 1) := by decide +kernel
theorem dX2_knownByAll_3 : decode cX2_knownByAll 3 = .ok (.istore_n 2, 1) := by decide +kernel
theorem dX2_knownByAll_4 : decode cX2_knownByAll 4 = .ok (.iload_n 2, 1) := by decide +kernel
theorem dX2_knownByAll_5 : decode cX2_knownByAll 5 = .ok (.aload_n 0, 1) := by decide +kernel
theorem dX2_knownByAll_6 : decode cX2_knownByAll 6 = .ok (.getfield 25, 3) := by decide +kernel
theorem dX2_knownByAll_9 : decode cX2_knownByAll 9 = .ok (.getfield 67, 3) := by decide +kernel
theorem dX2_knownByAll_12 : decode cX2_knownByAll 12 = .ok (.iconst 2, 1) := by decide +kernel
theorem dX2_knownByAll_13 : decode cX2_knownByAll 13 = .ok (.iaload, 1) := by decide +kernel
theorem dX2_knownByAll_14 : decode cX2_knownByAll 14 = .ok (.if_icmp .ge 20, 3) := by decide +kernel
theorem dX2_knownByAll_17 : decode cX2_knownByAll 17 = .ok (.iload_n 1, 1) := by decide +kernel
theorem dX2_knownByAll_18 : decode cX2_knownByAll 18 = .ok (.aload_n 0, 1) := by decide +kernel
theorem dX2_knownByAll_19 : decode cX2_knownByAll 19 = .ok (.iload_n 2, 1) := by decide +kernel
theorem dX2_knownByAll_20 : decode cX2_knownByAll 20 = .ok (.invokevirtual 72, 3) := by decide +kernel
theorem dX2_knownByAll_23 : decode cX2_knownByAll 23 = .ok (.invokestatic 76, 3) := by decide +kernel
theorem dX2_knownByAll_26 : decode cX2_knownByAll 26 = .ok (.iadd, 1) := by decide +kernel
theorem dX2_knownByAll_27 : decode cX2_knownByAll 27 = .ok (.istore_n 1, 1) := by decide +kernel
theorem dX2_knownByAll_28 : decode cX2_knownByAll 28 = .ok (.iinc 2 1, 3) := by decide +kernel
theorem dX2_knownByAll_31 : decode cX2_knownByAll 31 = .ok (.goto (-27), 3) := by decide +kernel
theorem dX2_knownByAll_34 : decode cX2_knownByAll 34 = .ok (.iload_n 1, 1) := by decide +kernel
theorem dX2_knownByAll_35 : decode cX2_knownByAll 35 = .ok (.ireturn, 1) := by decide +kernel
theorem dX2_toldAsKept_0 : decode cX2_toldAsKept 0 = .ok (.bipush 60, 2) := by decide +kernel
theorem dX2_toldAsKept_2 : decode cX2_toldAsKept 2 = .ok (.aload_n 0, 1) := by decide +kernel
theorem dX2_toldAsKept_3 : decode cX2_toldAsKept 3 = .ok (.getfield 9, 3) := by decide +kernel
theorem dX2_toldAsKept_6 : decode cX2_toldAsKept 6 = .ok (.iconst 2, 1) := by decide +kernel
theorem dX2_toldAsKept_7 : decode cX2_toldAsKept 7 = .ok (.iaload, 1) := by decide +kernel
theorem dX2_toldAsKept_8 : decode cX2_toldAsKept 8 = .ok (.invokestatic 58, 3) := by decide +kernel
theorem dX2_toldAsKept_11 : decode cX2_toldAsKept 11 = .ok (.ireturn, 1) := by decide +kernel
theorem dX2_mayList_0 : decode cX2_mayList 0 = .ok (.aload_n 0, 1) := by decide +kernel
theorem dX2_mayList_1 : decode cX2_mayList 1 = .ok (.iload_n 1, 1) := by decide +kernel
theorem dX2_mayList_2 : decode cX2_mayList 2 = .ok (.iconst 5, 1) := by decide +kernel
theorem dX2_mayList_3 : decode cX2_mayList 3 = .ok (.invokevirtual 64, 3) := by decide +kernel
theorem dX2_mayList_6 : decode cX2_mayList 6 = .ok (.istore_n 3, 1) := by decide +kernel
theorem dX2_mayList_7 : decode cX2_mayList 7 = .ok (.iload_n 3, 1) := by decide +kernel
theorem dX2_mayList_8 : decode cX2_mayList 8 = .ok (.bipush 8, 2) := by decide +kernel
theorem dX2_mayList_10 : decode cX2_mayList 10 = .ok (.if_icmp .ge 29, 3) := by decide +kernel
theorem dX2_mayList_13 : decode cX2_mayList 13 = .ok (.aload_n 0, 1) := by decide +kernel
theorem dX2_mayList_14 : decode cX2_mayList 14 = .ok (.iload_n 1, 1) := by decide +kernel
theorem dX2_mayList_15 : decode cX2_mayList 15 = .ok (.invokevirtual 72, 3) := by decide +kernel
theorem dX2_mayList_18 : decode cX2_mayList 18 = .ok (.iconst 1, 1) := by decide +kernel
theorem dX2_mayList_19 : decode cX2_mayList 19 = .ok (.iload_n 2, 1) := by decide +kernel
theorem dX2_mayList_20 : decode cX2_mayList 20 = .ok (.ishl, 1) := by decide +kernel
theorem dX2_mayList_21 : decode cX2_mayList 21 = .ok (.iand, 1) := by decide +kernel
theorem dX2_mayList_22 : decode cX2_mayList 22 = .ok (.ifCond .ne 17, 3) := by decide +kernel
theorem dX2_mayList_25 : decode cX2_mayList 25 = .ok (.aload_n 0, 1) := by decide +kernel
theorem dX2_mayList_26 : decode cX2_mayList 26 = .ok (.iload_n 1, 1) := by decide +kernel
theorem dX2_mayList_27 : decode cX2_mayList 27 = .ok (.iload_n 2, 1) := by decide +kernel
theorem dX2_mayList_28 : decode cX2_mayList 28 = .ok (.invokevirtual 81, 3) := by decide +kernel
theorem dX2_mayList_31 : decode cX2_mayList 31 = .ok (.iload_n 3, 1) := by decide +kernel
theorem dX2_mayList_32 : decode cX2_mayList 32 = .ok (.if_icmp .ne 7, 3) := by decide +kernel
theorem dX2_mayList_35 : decode cX2_mayList 35 = .ok (.iconst 1, 1) := by decide +kernel
theorem dX2_mayList_36 : decode cX2_mayList 36 = .ok (.goto 4, 3) := by decide +kernel
theorem dX2_mayList_39 : decode cX2_mayList 39 = .ok (.iconst 0, 1) := by decide +kernel
theorem dX2_mayList_40 : decode cX2_mayList 40 = .ok (.ireturn, 1) := by decide +kernel
theorem dX2_putBehind_0 : decode cX2_putBehind 0 = .ok (.aload_n 0, 1) := by decide +kernel
theorem dX2_putBehind_1 : decode cX2_putBehind 1 = .ok (.iload_n 1, 1) := by decide +kernel
theorem dX2_putBehind_2 : decode cX2_putBehind 2 = .ok (.iconst 5, 1) := by decide +kernel
theorem dX2_putBehind_3 : decode cX2_putBehind 3 = .ok (.invokevirtual 64, 3) := by decide +kernel
theorem dX2_putBehind_6 : decode cX2_putBehind 6 = .ok (.istore_n 3, 1) := by decide +kernel
theorem dX2_putBehind_7 : decode cX2_putBehind 7 = .ok (.iload_n 3, 1) := by decide +kernel
theorem dX2_putBehind_8 : decode cX2_putBehind 8 = .ok (.bipush 8, 2) := by decide +kernel
theorem dX2_putBehind_10 : decode cX2_putBehind 10 = .ok (.if_icmp .ge 22, 3) := by decide +kernel
theorem dX2_putBehind_13 : decode cX2_putBehind 13 = .ok (.aload_n 0, 1) := by decide +kernel
theorem dX2_putBehind_14 : decode cX2_putBehind 14 = .ok (.iload_n 1, 1) := by decide +kernel
theorem dX2_putBehind_15 : decode cX2_putBehind 15 = .ok (.bipush 6, 2) := by decide +kernel
theorem dX2_putBehind_17 : decode cX2_putBehind 17 = .ok (.iload_n 3, 1) := by decide +kernel
theorem dX2_putBehind_18 : decode cX2_putBehind 18 = .ok (.iadd, 1) := by decide +kernel
theorem dX2_putBehind_19 : decode cX2_putBehind 19 = .ok (.iload_n 2, 1) := by decide +kernel
theorem dX2_putBehind_20 : decode cX2_putBehind 20 = .ok (.invokevirtual 35, 3) := by decide +kernel
theorem dX2_putBehind_23 : decode cX2_putBehind 23 = .ok (.aload_n 0, 1) := by decide +kernel
theorem dX2_putBehind_24 : decode cX2_putBehind 24 = .ok (.iload_n 1, 1) := by decide +kernel
theorem dX2_putBehind_25 : decode cX2_putBehind 25 = .ok (.iconst 5, 1) := by decide +kernel
theorem dX2_putBehind_26 : decode cX2_putBehind 26 = .ok (.iload_n 3, 1) := by decide +kernel
theorem dX2_putBehind_27 : decode cX2_putBehind 27 = .ok (.iconst 1, 1) := by decide +kernel
theorem dX2_putBehind_28 : decode cX2_putBehind 28 = .ok (.iadd, 1) := by decide +kernel
theorem dX2_putBehind_29 : decode cX2_putBehind 29 = .ok (.invokevirtual 35, 3) := by decide +kernel
theorem dX2_putBehind_32 : decode cX2_putBehind 32 = .ok (.return_, 1) := by decide +kernel
theorem dX2_strike_0 : decode cX2_strike 0 = .ok (.aload_n 0, 1) := by decide +kernel
theorem dX2_strike_1 : decode cX2_strike 1 = .ok (.iload_n 1, 1) := by decide +kernel
theorem dX2_strike_2 : decode cX2_strike 2 = .ok (.iconst 5, 1) := by decide +kernel
theorem dX2_strike_3 : decode cX2_strike 3 = .ok (.invokevirtual 64, 3) := by decide +kernel
theorem dX2_strike_6 : decode cX2_strike 6 = .ok (.istore_n 3, 1) := by decide +kernel
theorem dX2_strike_7 : decode cX2_strike 7 = .ok (.aload_n 0, 1) := by decide +kernel
theorem dX2_strike_8 : decode cX2_strike 8 = .ok (.iload_n 1, 1) := by decide +kernel
theorem dX2_strike_9 : decode cX2_strike 9 = .ok (.iload_n 2, 1) := by decide +kernel
theorem dX2_strike_10 : decode cX2_strike 10 = .ok (.invokevirtual 81, 3) := by decide +kernel
theorem dX2_strike_13 : decode cX2_strike 13 = .ok (.istore 4, 2) := by decide +kernel
theorem dX2_strike_15 : decode cX2_strike 15 = .ok (.iload 4, 2) := by decide +kernel
theorem dX2_strike_17 : decode cX2_strike 17 = .ok (.iload_n 3, 1) := by decide +kernel
theorem dX2_strike_18 : decode cX2_strike 18 = .ok (.if_icmp .ge 52, 3) := by decide +kernel
theorem dX2_strike_21 : decode cX2_strike 21 = .ok (.iload 4, 2) := by decide +kernel
theorem dX2_strike_23 : decode cX2_strike 23 = .ok (.istore 5, 2) := by decide +kernel
theorem dX2_strike_25 : decode cX2_strike 25 = .ok (.iload 5, 2) := by decide +kernel
theorem dX2_strike_27 : decode cX2_strike 27 = .ok (.iconst 1, 1) := by decide +kernel
theorem dX2_strike_28 : decode cX2_strike 28 = .ok (.iadd, 1) := by decide +kernel
theorem dX2_strike_29 : decode cX2_strike 29 = .ok (.iload_n 3, 1) := by decide +kernel
theorem dX2_strike_30 : decode cX2_strike 30 = .ok (.if_icmp .ge 31, 3) := by decide +kernel
theorem dX2_strike_33 : decode cX2_strike 33 = .ok (.aload_n 0, 1) := by decide +kernel
theorem dX2_strike_34 : decode cX2_strike 34 = .ok (.iload_n 1, 1) := by decide +kernel
theorem dX2_strike_35 : decode cX2_strike 35 = .ok (.bipush 6, 2) := by decide +kernel
theorem dX2_strike_37 : decode cX2_strike 37 = .ok (.iload 5, 2) := by decide +kernel
theorem dX2_strike_39 : decode cX2_strike 39 = .ok (.iadd, 1) := by decide +kernel
theorem dX2_strike_40 : decode cX2_strike 40 = .ok (.aload_n 0, 1) := by decide +kernel
theorem dX2_strike_41 : decode cX2_strike 41 = .ok (.iload_n 1, 1) := by decide +kernel
theorem dX2_strike_42 : decode cX2_strike 42 = .ok (.bipush 6, 2) := by decide +kernel
theorem dX2_strike_44 : decode cX2_strike 44 = .ok (.iload 5, 2) := by decide +kernel
theorem dX2_strike_46 : decode cX2_strike 46 = .ok (.iadd, 1) := by decide +kernel
theorem dX2_strike_47 : decode cX2_strike 47 = .ok (.iconst 1, 1) := by decide +kernel
theorem dX2_strike_48 : decode cX2_strike 48 = .ok (.iadd, 1) := by decide +kernel
theorem dX2_strike_49 : decode cX2_strike 49 = .ok (.invokevirtual 64, 3) := by decide +kernel
theorem dX2_strike_52 : decode cX2_strike 52 = .ok (.invokevirtual 35, 3) := by decide +kernel
theorem dX2_strike_55 : decode cX2_strike 55 = .ok (.iinc 5 1, 3) := by decide +kernel
theorem dX2_strike_58 : decode cX2_strike 58 = .ok (.goto (-33), 3) := by decide +kernel
theorem dX2_strike_61 : decode cX2_strike 61 = .ok (.aload_n 0, 1) := by decide +kernel
theorem dX2_strike_62 : decode cX2_strike 62 = .ok (.iload_n 1, 1) := by decide +kernel
theorem dX2_strike_63 : decode cX2_strike 63 = .ok (.iconst 5, 1) := by decide +kernel
theorem dX2_strike_64 : decode cX2_strike 64 = .ok (.iload_n 3, 1) := by decide +kernel
theorem dX2_strike_65 : decode cX2_strike 65 = .ok (.iconst 1, 1) := by decide +kernel
theorem dX2_strike_66 : decode cX2_strike 66 = .ok (.isub, 1) := by decide +kernel
theorem dX2_strike_67 : decode cX2_strike 67 = .ok (.invokevirtual 35, 3) := by decide +kernel
theorem dX2_strike_70 : decode cX2_strike 70 = .ok (.aload_n 0, 1) := by decide +kernel
theorem dX2_strike_71 : decode cX2_strike 71 = .ok (.iload_n 1, 1) := by decide +kernel
theorem dX2_strike_72 : decode cX2_strike 72 = .ok (.iconst 3, 1) := by decide +kernel
theorem dX2_strike_73 : decode cX2_strike 73 = .ok (.invokevirtual 64, 3) := by decide +kernel
theorem dX2_strike_76 : decode cX2_strike 76 = .ok (.iload_n 2, 1) := by decide +kernel
theorem dX2_strike_77 : decode cX2_strike 77 = .ok (.if_icmp .ne 17, 3) := by decide +kernel
theorem dX2_strike_80 : decode cX2_strike 80 = .ok (.aload_n 0, 1) := by decide +kernel
theorem dX2_strike_81 : decode cX2_strike 81 = .ok (.iload_n 1, 1) := by decide +kernel
theorem dX2_strike_82 : decode cX2_strike 82 = .ok (.iconst 3, 1) := by decide +kernel
theorem dX2_strike_83 : decode cX2_strike 83 = .ok (.iconst (-1), 1) := by decide +kernel
theorem dX2_strike_84 : decode cX2_strike 84 = .ok (.invokevirtual 35, 3) := by decide +kernel
theorem dX2_strike_87 : decode cX2_strike 87 = .ok (.aload_n 0, 1) := by decide +kernel
theorem dX2_strike_88 : decode cX2_strike 88 = .ok (.iload_n 1, 1) := by decide +kernel
theorem dX2_strike_89 : decode cX2_strike 89 = .ok (.iconst 4, 1) := by decide +kernel
theorem dX2_strike_90 : decode cX2_strike 90 = .ok (.iconst 0, 1) := by decide +kernel
theorem dX2_strike_91 : decode cX2_strike 91 = .ok (.invokevirtual 35, 3) := by decide +kernel
theorem dX2_strike_94 : decode cX2_strike 94 = .ok (.return_, 1) := by decide +kernel
theorem dX2_placeOf_0 : decode cX2_placeOf 0 = .ok (.aload_n 0, 1) := by decide +kernel
theorem dX2_placeOf_1 : decode cX2_placeOf 1 = .ok (.iload_n 1, 1) := by decide +kernel
theorem dX2_placeOf_2 : decode cX2_placeOf 2 = .ok (.iconst 5, 1) := by decide +kernel
theorem dX2_placeOf_3 : decode cX2_placeOf 3 = .ok (.invokevirtual 64, 3) := by decide +kernel
theorem dX2_placeOf_6 : decode cX2_placeOf 6 = .ok (.istore_n 3, 1) := by decide +kernel
theorem dX2_placeOf_7 : decode cX2_placeOf 7 = .ok (.iconst 0, 1) := by decide +kernel
theorem dX2_placeOf_8 : decode cX2_placeOf 8 = .ok (.istore 4, 2) := by decide +kernel
theorem dX2_placeOf_10 : decode cX2_placeOf 10 = .ok (.iload 4, 2) := by decide +kernel
theorem dX2_placeOf_12 : decode cX2_placeOf 12 = .ok (.iload_n 3, 1) := by decide +kernel
theorem dX2_placeOf_13 : decode cX2_placeOf 13 = .ok (.if_icmp .ge 23, 3) := by decide +kernel
theorem dX2_placeOf_16 : decode cX2_placeOf 16 = .ok (.aload_n 0, 1) := by decide +kernel
theorem dX2_placeOf_17 : decode cX2_placeOf 17 = .ok (.iload_n 1, 1) := by decide +kernel
theorem dX2_placeOf_18 : decode cX2_placeOf 18 = .ok (.bipush 6, 2) := by decide +kernel
theorem dX2_placeOf_20 : decode cX2_placeOf 20 = .ok (.iload 4, 2) := by decide +kernel
theorem dX2_placeOf_22 : decode cX2_placeOf 22 = .ok (.iadd, 1) := by decide +kernel
theorem dX2_placeOf_23 : decode cX2_placeOf 23 = .ok (.invokevirtual 64, 3) := by decide +kernel
theorem dX2_placeOf_26 : decode cX2_placeOf 26 = .ok (.iload_n 2, 1) := by decide +kernel
theorem dX2_placeOf_27 : decode cX2_placeOf 27 = .ok (.if_icmp .eq 9, 3) := by decide +kernel
theorem dX2_placeOf_30 : decode cX2_placeOf 30 = .ok (.iinc 4 1, 3) := by decide +kernel
theorem dX2_placeOf_33 : decode cX2_placeOf 33 = .ok (.goto (-23), 3) := by decide +kernel
theorem dX2_placeOf_36 : decode cX2_placeOf 36 = .ok (.iload 4, 2) := by decide +kernel
theorem dX2_placeOf_38 : decode cX2_placeOf 38 = .ok (.ireturn, 1) := by decide +kernel
theorem dX2_keep_0 : decode cX2_keep 0 = .ok (.aload_n 0, 1) := by decide +kernel
theorem dX2_keep_1 : decode cX2_keep 1 = .ok (.getfield 9, 3) := by decide +kernel
theorem dX2_keep_4 : decode cX2_keep 4 = .ok (.iconst 2, 1) := by decide +kernel
theorem dX2_keep_5 : decode cX2_keep 5 = .ok (.iaload, 1) := by decide +kernel
theorem dX2_keep_6 : decode cX2_keep 6 = .ok (.istore_n 3, 1) := by decide +kernel
theorem dX2_keep_7 : decode cX2_keep 7 = .ok (.iload_n 3, 1) := by decide +kernel
theorem dX2_keep_8 : decode cX2_keep 8 = .ok (.bipush 84, 2) := by decide +kernel
theorem dX2_keep_10 : decode cX2_keep 10 = .ok (.if_icmp .ge 33, 3) := by decide +kernel
theorem dX2_keep_13 : decode cX2_keep 13 = .ok (.aload_n 0, 1) := by decide +kernel
theorem dX2_keep_14 : decode cX2_keep 14 = .ok (.getfield 15, 3) := by decide +kernel
theorem dX2_keep_17 : decode cX2_keep 17 = .ok (.iload_n 3, 1) := by decide +kernel
theorem dX2_keep_18 : decode cX2_keep 18 = .ok (.aload_n 0, 1) := by decide +kernel
theorem dX2_keep_19 : decode cX2_keep 19 = .ok (.getfield 9, 3) := by decide +kernel
theorem dX2_keep_22 : decode cX2_keep 22 = .ok (.iconst 0, 1) := by decide +kernel
theorem dX2_keep_23 : decode cX2_keep 23 = .ok (.iaload, 1) := by decide +kernel
theorem dX2_keep_24 : decode cX2_keep 24 = .ok (.bipush 7, 2) := by decide +kernel
theorem dX2_keep_26 : decode cX2_keep 26 = .ok (.ishl, 1) := by decide +kernel
theorem dX2_keep_27 : decode cX2_keep 27 = .ok (.iload_n 1, 1) := by decide +kernel
theorem dX2_keep_28 : decode cX2_keep 28 = .ok (.iconst 4, 1) := by decide +kernel
theorem dX2_keep_29 : decode cX2_keep 29 = .ok (.ishl, 1) := by decide +kernel
theorem dX2_keep_30 : decode cX2_keep 30 = .ok (.ior, 1) := by decide +kernel
theorem dX2_keep_31 : decode cX2_keep 31 = .ok (.iload_n 2, 1) := by decide +kernel
theorem dX2_keep_32 : decode cX2_keep 32 = .ok (.ior, 1) := by decide +kernel
theorem dX2_keep_33 : decode cX2_keep 33 = .ok (.iastore, 1) := by decide +kernel
theorem dX2_keep_34 : decode cX2_keep 34 = .ok (.aload_n 0, 1) := by decide +kernel
theorem dX2_keep_35 : decode cX2_keep 35 = .ok (.getfield 9, 3) := by decide +kernel
theorem dX2_keep_38 : decode cX2_keep 38 = .ok (.iconst 2, 1) := by decide +kernel
theorem dX2_keep_39 : decode cX2_keep 39 = .ok (.iload_n 3, 1) := by decide +kernel
theorem dX2_keep_40 : decode cX2_keep 40 = .ok (.iconst 1, 1) := by decide +kernel
theorem dX2_keep_41 : decode cX2_keep 41 = .ok (.iadd, 1) := by decide +kernel
theorem dX2_keep_42 : decode cX2_keep 42 = .ok (.iastore, 1) := by decide +kernel
theorem dX2_keep_43 : decode cX2_keep 43 = .ok (.return_, 1) := by decide +kernel
theorem dX3_init_0 : decode cX3_init 0 = .ok (.aload_n 0, 1) := by decide +kernel
theorem dX3_init_1 : decode cX3_init 1 = .ok (.invokespecial 3, 3) := by decide +kernel
theorem dX3_init_4 : decode cX3_init 4 = .ok (.aload_n 0, 1) := by decide +kernel
theorem dX3_init_5 : decode cX3_init 5 = .ok (.iconst (-1), 1) := by decide +kernel
theorem dX3_init_6 : decode cX3_init 6 = .ok (.putfield 9, 3) := by decide +kernel
theorem dX3_init_9 : decode cX3_init 9 = .ok (.aload_n 0, 1) := by decide +kernel
theorem dX3_init_10 : decode cX3_init 10 = .ok (.aload_n 1, 1) := by decide +kernel
theorem dX3_init_11 : decode cX3_init 11 = .ok (.putfield 15, 3) := by decide +kernel
theorem dX3_init_14 : decode cX3_init 14 = .ok (.return_, 1) := by decide +kernel
theorem dX3_parse_0 : decode cX3_parse 0 = .ok (.aload_n 0, 1) := by decide +kernel
theorem dX3_parse_1 : decode cX3_parse 1 = .ok (.aload_n 1, 1) := by decide +kernel
theorem dX3_parse_2 : decode cX3_parse 2 = .ok (.putfield 19, 3) := by decide +kernel
theorem dX3_parse_5 : decode cX3_parse 5 = .ok (.aload_n 0, 1) := by decide +kernel
theorem dX3_parse_6 : decode cX3_parse 6 = .ok (.getfield 19, 3) := by decide +kernel
theorem dX3_parse_9 : decode cX3_parse 9 = .ok (.invokevirtual 23, 3) := by decide +kernel
theorem dX3_parse_12 : decode cX3_parse 12 = .ok (.aload_n 0, 1) := by decide +kernel
theorem dX3_parse_13 : decode cX3_parse 13 = .ok (.iconst 0, 1) := by decide +kernel
theorem dX3_parse_14 : decode cX3_parse 14 = .ok (.putfield 28, 3) := by decide +kernel
theorem dX3_parse_17 : decode cX3_parse 17 = .ok (.aload_n 0, 1) := by decide +kernel
theorem dX3_parse_18 : decode cX3_parse 18 = .ok (.iconst (-1), 1) := by decide +kernel
theorem dX3_parse_19 : decode cX3_parse 19 = .ok (.putfield 9, 3) := by decide +kernel
theorem dX3_parse_22 : decode cX3_parse 22 = .ok (.aload_n 0, 1) := by decide +kernel
theorem dX3_parse_23 : decode cX3_parse 23 = .ok (.iconst 0, 1) := by decide +kernel
theorem dX3_parse_24 : decode cX3_parse 24 = .ok (.putfield 31, 3) := by decide +kernel
theorem dX3_parse_27 : decode cX3_parse 27 = .ok (.aload_n 0, 1) := by decide +kernel
theorem dX3_parse_28 : decode cX3_parse 28 = .ok (.getfield 15, 3) := by decide +kernel
theorem dX3_parse_31 : decode cX3_parse 31 = .ok (.invokevirtual 34, 3) := by decide +kernel
theorem dX3_parse_34 : decode cX3_parse 34 = .ok (.iconst 0, 1) := by decide +kernel
theorem dX3_parse_35 : decode cX3_parse 35 = .ok (.istore_n 2, 1) := by decide +kernel
theorem dX3_parse_36 : decode cX3_parse 36 = .ok (.iload_n 2, 1) := by decide +kernel
theorem dX3_parse_37 : decode cX3_parse 37 = .ok (.bipush 80, 2) := by decide +kernel
theorem dX3_parse_39 : decode cX3_parse 39 = .ok (.if_icmp .gt 29, 3) := by decide +kernel
theorem dX3_parse_42 : decode cX3_parse 42 = .ok (.aload_n 0, 1) := by decide +kernel
theorem dX3_parse_43 : decode cX3_parse 43 = .ok (.getfield 15, 3) := by decide +kernel
theorem dX3_parse_46 : decode cX3_parse 46 = .ok (.getfield 39, 3) := by decide +kernel
theorem dX3_parse_49 : decode cX3_parse 49 = .ok (.ifCond .eq 19, 3) := by decide +kernel
theorem dX3_parse_52 : decode cX3_parse 52 = .ok (.aload_n 0, 1) := by decide +kernel
theorem dX3_parse_53 : decode cX3_parse 53 = .ok (.iload_n 2, 1) := by decide +kernel
theorem dX3_parse_54 : decode cX3_parse 54 = .ok (.invokevirtual 42, 3) := by decide +kernel
theorem dX3_parse_57 : decode cX3_parse 57 = .ok (.ifCond .ne 5, 3) := by decide +kernel
theorem dX3_parse_60 : decode cX3_parse 60 = .ok (.iconst (-1), 1) := by decide +kernel
theorem dX3_parse_61 : decode cX3_parse 61 = .ok (.ireturn, 1) := by decide +kernel
theorem dX3_parse_62 : decode cX3_parse 62 = .ok (.iinc 2 1, 3) := by decide +kernel
theorem dX3_parse_65 : decode cX3_parse 65 = .ok (.goto (-29), 3) := by decide +kernel
theorem dX3_parse_68 : decode cX3_parse 68 = .ok (.aload_n 0, 1) := by decide +kernel
theorem dX3_parse_69 : decode cX3_parse 69 = .ok (.getfield 19, 3) := by decide +kernel
theorem dX3_parse_72 : decode cX3_parse 72 = .ok (.getfield 46, 3) := by decide +kernel
theorem dX3_parse_75 : decode cX3_parse 75 = .ok (.iconst 2, 1) := by decide +kernel
theorem dX3_parse_76 : decode cX3_parse 76 = .ok (.iaload, 1) := by decide +kernel
theorem dX3_parse_77 : decode cX3_parse 77 = .ok (.ifCond .le 30, 3) := by decide +kernel
theorem dX3_parse_80 : decode cX3_parse 80 = .ok (.aload_n 0, 1) := by decide +kernel
theorem dX3_parse_81 : decode cX3_parse 81 = .ok (.getfield 19, 3) := by decide +kernel
theorem dX3_parse_84 : decode cX3_parse 84 = .ok (.getfield 46, 3) := by decide +kernel
theorem dX3_parse_87 : decode cX3_parse 87 = .ok (.iconst 3, 1) := by decide +kernel
theorem dX3_parse_88 : decode cX3_parse 88 = .ok (.iaload, 1) := by decide +kernel
theorem dX3_parse_89 : decode cX3_parse 89 = .ok (.ifCond .ne 18, 3) := by decide +kernel
theorem dX3_parse_92 : decode cX3_parse 92 = .ok (.aload_n 0, 1) := by decide +kernel
theorem dX3_parse_93 : decode cX3_parse 93 = .ok (.iconst 1, 1) := by decide +kernel
theorem dX3_parse_94 : decode cX3_parse 94 = .ok (.aload_n 0, 1) := by decide +kernel
theorem dX3_parse_95 : decode cX3_parse 95 = .ok (.getfield 15, 3) := by decide +kernel
theorem dX3_parse_98 : decode cX3_parse 98 = .ok (.getfield 50, 3) := by decide +kernel
theorem dX3_parse_101 : decode cX3_parse 101 = .ok (.invokevirtual 53, 3) := by decide +kernel
theorem dX3_parse_104 : decode cX3_parse 104 = .ok (.pop, 1) := by decide +kernel
theorem dX3_parse_105 : decode cX3_parse 105 = .ok (.iconst (-1), 1) := by decide +kernel
theorem dX3_parse_106 : decode cX3_parse 106 = .ok (.ireturn, 1) := by decide +kernel
theorem dX3_parse_107 : decode cX3_parse 107 = .ok (.aload_n 0, 1) := by decide +kernel
theorem dX3_parse_108 : decode cX3_parse 108 = .ok (.getfield 19, 3) := by decide +kernel
theorem dX3_parse_111 : decode cX3_parse 111 = .ok (.invokevirtual 57, 3) := by decide +kernel
theorem dX3_parse_114 : decode cX3_parse 114 = .ok (.iload_n 2, 1) := by decide +kernel
theorem dX3_parse_115 : decode cX3_parse 115 = .ok (.ireturn, 1) := by decide +kernel
theorem dX3_statement_0 : decode cX3_statement 0 = .ok (.aload_n 0, 1) := by decide +kernel
theorem dX3_statement_1 : decode cX3_statement 1 = .ok (.getfield 15, 3) := by decide +kernel
theorem dX3_statement_4 : decode cX3_statement 4 = .ok (.getfield 39, 3) := by decide +kernel
theorem dX3_statement_7 : decode cX3_statement 7 = .ok (.iconst 2, 1) := by decide +kernel
theorem dX3_statement_8 : decode cX3_statement 8 = .ok (.if_icmp .ne 13, 3) := by decide +kernel
theorem dX3_statement_11 : decode cX3_statement 11 = .ok (.aload_n 0, 1) := by decide +kernel
theorem dX3_statement_12 : decode cX3_statement 12 = .ok (.getfield 15, 3) := by decide +kernel
theorem dX3_statement_15 : decode cX3_statement 15 = .ok (.getfield 60, 3) := by decide +kernel
theorem dX3_statement_18 : decode cX3_statement 18 = .ok (.goto 4, 3) := by decide +kernel
theorem dX3_statement_21 : decode cX3_statement 21 = .ok (.iconst (-1), 1) := by decide +kernel
theorem dX3_statement_22 : decode cX3_statement 22 = .ok (.istore_n 2, 1) := by decide +kernel
theorem dX3_statement_23 : decode cX3_statement 23 = .ok (.iload_n 1, 1) := by decide +kernel
theorem dX3_statement_24 : decode cX3_statement 24 = .ok (.bipush 80, 2) := by decide +kernel
theorem dX3_statement_26 : decode cX3_statement 26 = .ok (.if_icmp .ge 11, 3) := by decide +kernel
theorem dX3_statement_29 : decode cX3_statement 29 = .ok (.aload_n 0, 1) := by decide +kernel
theorem dX3_statement_30 : decode cX3_statement 30 = .ok (.iload_n 2, 1) := by decide +kernel
theorem dX3_statement_31 : decode cX3_statement 31 = .ok (.invokevirtual 63, 3) := by decide +kernel
theorem dX3_statement_34 : decode cX3_statement 34 = .ok (.goto 4, 3) := by decide +kernel
theorem dX3_statement_37 : decode cX3_statement 37 = .ok (.iconst 0, 1) := by decide +kernel
theorem dX3_statement_38 : decode cX3_statement 38 = .ok (.istore_n 3, 1) := by decide +kernel
theorem dX3_statement_39 : decode cX3_statement 39 = .ok (.iload_n 3, 1) := by decide +kernel
theorem dX3_statement_40 : decode cX3_statement 40 = .ok (.iconst (-1), 1) := by decide +kernel
theorem dX3_statement_41 : decode cX3_statement 41 = .ok (.if_icmp .ne 8, 3) := by decide +kernel
theorem dX3_statement_44 : decode cX3_statement 44 = .ok (.aload_n 0, 1) := by decide +kernel
theorem dX3_statement_45 : decode cX3_statement 45 = .ok (.invokevirtual 67, 3) := by decide +kernel
theorem dX3_statement_48 : decode cX3_statement 48 = .ok (.ireturn, 1) := by decide +kernel
theorem dX3_statement_49 : decode cX3_statement 49 = .ok (.iload_n 3, 1) := by decide +kernel
theorem dX3_statement_50 : decode cX3_statement 50 = .ok (.ifCond .ne 17, 3) := by decide +kernel
theorem dX3_statement_53 : decode cX3_statement 53 = .ok (.aload_n 0, 1) := by decide +kernel
theorem dX3_statement_54 : decode cX3_statement 54 = .ok (.bipush 6, 2) := by decide +kernel
theorem dX3_statement_56 : decode cX3_statement 56 = .ok (.aload_n 0, 1) := by decide +kernel
theorem dX3_statement_57 : decode cX3_statement 57 = .ok (.getfield 15, 3) := by decide +kernel
theorem dX3_statement_60 : decode cX3_statement 60 = .ok (.getfield 71, 3) := by decide +kernel
theorem dX3_statement_63 : decode cX3_statement 63 = .ok (.invokevirtual 53, 3) := by decide +kernel
theorem dX3_statement_66 : decode cX3_statement 66 = .ok (.ireturn, 1) := by decide +kernel
theorem dX3_statement_67 : decode cX3_statement 67 = .ok (.aload_n 0, 1) := by decide +kernel
theorem dX3_statement_68 : decode cX3_statement 68 = .ok (.getfield 15, 3) := by decide +kernel
theorem dX3_statement_71 : decode cX3_statement 71 = .ok (.invokevirtual 74, 3) := by decide +kernel
theorem dX3_statement_74 : decode cX3_statement 74 = .ok (.iload_n 2, 1) := by decide +kernel
theorem dX3_statement_75 : decode cX3_statement 75 = .ok (.tableswitch 190 0 13 #[69, 79, 190, 190, 190, 88, 97, 190, 190, 106, 190, 115, 124, 157], 69) := by decide +kernel
theorem dX3_statement_144 : decode cX3_statement 144 = .ok (.aload_n 0, 1) := by decide +kernel
theorem dX3_statement_145 : decode cX3_statement 145 = .ok (.iconst 0, 1) := by decide +kernel
theorem dX3_statement_146 : decode cX3_statement 146 = .ok (.invokevirtual 77, 3) := by decide +kernel
theorem dX3_statement_149 : decode cX3_statement 149 = .ok (.istore 4, 2) := by decide +kernel
theorem dX3_statement_151 : decode cX3_statement 151 = .ok (.goto 144, 3) := by decide +kernel
theorem dX3_statement_154 : decode cX3_statement 154 = .ok (.aload_n 0, 1) := by decide +kernel
theorem dX3_statement_155 : decode cX3_statement 155 = .ok (.invokevirtual 80, 3) := by decide +kernel
theorem dX3_statement_158 : decode cX3_statement 158 = .ok (.istore 4, 2) := by decide +kernel
theorem dX3_statement_160 : decode cX3_statement 160 = .ok (.goto 135, 3) := by decide +kernel
theorem dX3_statement_163 : decode cX3_statement 163 = .ok (.aload_n 0, 1) := by decide +kernel
theorem dX3_statement_164 : decode cX3_statement 164 = .ok (.invokevirtual 83, 3) := by decide +kernel
theorem dX3_statement_167 : decode cX3_statement 167 = .ok (.istore 4, 2) := by decide +kernel
theorem dX3_statement_169 : decode cX3_statement 169 = .ok (.goto 126, 3) := by decide +kernel
theorem dX3_statement_172 : decode cX3_statement 172 = .ok (.aload_n 0, 1) := by decide +kernel
theorem dX3_statement_173 : decode cX3_statement 173 = .ok (.invokevirtual 86, 3) := by decide +kernel
theorem dX3_statement_176 : decode cX3_statement 176 = .ok (.istore 4, 2) := by decide +kernel
theorem dX3_statement_178 : decode cX3_statement 178 = .ok (.goto 117, 3) := by decide +kernel
theorem dX3_statement_181 : decode cX3_statement 181 = .ok (.aload_n 0, 1) := by decide +kernel
theorem dX3_statement_182 : decode cX3_statement 182 = .ok (.invokevirtual 89, 3) := by decide +kernel
theorem dX3_statement_185 : decode cX3_statement 185 = .ok (.istore 4, 2) := by decide +kernel
theorem dX3_statement_187 : decode cX3_statement 187 = .ok (.goto 108, 3) := by decide +kernel
theorem dX3_statement_190 : decode cX3_statement 190 = .ok (.aload_n 0, 1) := by decide +kernel
theorem dX3_statement_191 : decode cX3_statement 191 = .ok (.invokevirtual 92, 3) := by decide +kernel
theorem dX3_statement_194 : decode cX3_statement 194 = .ok (.istore 4, 2) := by decide +kernel
theorem dX3_statement_196 : decode cX3_statement 196 = .ok (.goto 99, 3) := by decide +kernel
theorem dX3_statement_199 : decode cX3_statement 199 = .ok (.aload_n 0, 1) := by decide +kernel
theorem dX3_statement_200 : decode cX3_statement 200 = .ok (.iconst 0, 1) := by decide +kernel
theorem dX3_statement_201 : decode cX3_statement 201 = .ok (.invokevirtual 95, 3) := by decide +kernel
theorem dX3_statement_204 : decode cX3_statement 204 = .ok (.ifCond .eq 22, 3) := by decide +kernel
theorem dX3_statement_207 : decode cX3_statement 207 = .ok (.aload_n 0, 1) := by decide +kernel
theorem dX3_statement_208 : decode cX3_statement 208 = .ok (.invokevirtual 98, 3) := by decide +kernel
theorem dX3_statement_211 : decode cX3_statement 211 = .ok (.ifCond .eq 15, 3) := by decide +kernel
theorem dX3_statement_214 : decode cX3_statement 214 = .ok (.aload_n 0, 1) := by decide +kernel
theorem dX3_statement_215 : decode cX3_statement 215 = .ok (.iconst 0, 1) := by decide +kernel
theorem dX3_statement_216 : decode cX3_statement 216 = .ok (.invokevirtual 101, 3) := by decide +kernel
theorem dX3_statement_219 : decode cX3_statement 219 = .ok (.ifCond .eq 7, 3) := by decide +kernel
theorem dX3_statement_222 : decode cX3_statement 222 = .ok (.iconst 1, 1) := by decide +kernel
theorem dX3_statement_223 : decode cX3_statement 223 = .ok (.goto 4, 3) := by decide +kernel
theorem dX3_statement_226 : decode cX3_statement 226 = .ok (.iconst 0, 1) := by decide +kernel
theorem dX3_statement_227 : decode cX3_statement 227 = .ok (.istore 4, 2) := by decide +kernel
theorem dX3_statement_229 : decode cX3_statement 229 = .ok (.goto 66, 3) := by decide +kernel
theorem dX3_statement_232 : decode cX3_statement 232 = .ok (.aload_n 0, 1) := by decide +kernel
theorem dX3_statement_233 : decode cX3_statement 233 = .ok (.iconst 1, 1) := by decide +kernel
theorem dX3_statement_234 : decode cX3_statement 234 = .ok (.invokevirtual 95, 3) := by decide +kernel
theorem dX3_statement_237 : decode cX3_statement 237 = .ok (.ifCond .eq 22, 3) := by decide +kernel
theorem dX3_statement_240 : decode cX3_statement 240 = .ok (.aload_n 0, 1) := by decide +kernel
theorem dX3_statement_241 : decode cX3_statement 241 = .ok (.invokevirtual 98, 3) := by decide +kernel
theorem dX3_statement_244 : decode cX3_statement 244 = .ok (.ifCond .eq 15, 3) := by decide +kernel
theorem dX3_statement_247 : decode cX3_statement 247 = .ok (.aload_n 0, 1) := by decide +kernel
theorem dX3_statement_248 : decode cX3_statement 248 = .ok (.iconst 1, 1) := by decide +kernel
theorem dX3_statement_249 : decode cX3_statement 249 = .ok (.invokevirtual 101, 3) := by decide +kernel
theorem dX3_statement_252 : decode cX3_statement 252 = .ok (.ifCond .eq 7, 3) := by decide +kernel
theorem dX3_statement_255 : decode cX3_statement 255 = .ok (.iconst 1, 1) := by decide +kernel
theorem dX3_statement_256 : decode cX3_statement 256 = .ok (.goto 4, 3) := by decide +kernel
theorem dX3_statement_259 : decode cX3_statement 259 = .ok (.iconst 0, 1) := by decide +kernel
theorem dX3_statement_260 : decode cX3_statement 260 = .ok (.istore 4, 2) := by decide +kernel
theorem dX3_statement_262 : decode cX3_statement 262 = .ok (.goto 33, 3) := by decide +kernel
theorem dX3_statement_265 : decode cX3_statement 265 = .ok (.aload_n 0, 1) := by decide +kernel
theorem dX3_statement_266 : decode cX3_statement 266 = .ok (.iconst 2, 1) := by decide +kernel
theorem dX3_statement_267 : decode cX3_statement 267 = .ok (.invokevirtual 95, 3) := by decide +kernel
theorem dX3_statement_270 : decode cX3_statement 270 = .ok (.ifCond .eq 22, 3) := by decide +kernel
theorem dX3_statement_273 : decode cX3_statement 273 = .ok (.aload_n 0, 1) := by decide +kernel
theorem dX3_statement_274 : decode cX3_statement 274 = .ok (.invokevirtual 104, 3) := by decide +kernel
theorem dX3_statement_277 : decode cX3_statement 277 = .ok (.ifCond .eq 15, 3) := by decide +kernel
theorem dX3_statement_280 : decode cX3_statement 280 = .ok (.aload_n 0, 1) := by decide +kernel
theorem dX3_statement_281 : decode cX3_statement 281 = .ok (.iconst 2, 1) := by decide +kernel
theorem dX3_statement_282 : decode cX3_statement 282 = .ok (.invokevirtual 101, 3) := by decide +kernel
theorem dX3_statement_285 : decode cX3_statement 285 = .ok (.ifCond .eq 7, 3) := by decide +kernel
theorem dX3_statement_288 : decode cX3_statement 288 = .ok (.iconst 1, 1) := by decide +kernel
theorem dX3_statement_289 : decode cX3_statement 289 = .ok (.goto 4, 3) := by decide +kernel
theorem dX3_statement_292 : decode cX3_statement 292 = .ok (.iconst 0, 1) := by decide +kernel
theorem dX3_statement_293 : decode cX3_statement 293 = .ok (.istore 4, 2) := by decide +kernel
theorem dX3_statement_295 : decode cX3_statement 295 = .ok (.iload 4, 2) := by decide +kernel
theorem dX3_statement_297 : decode cX3_statement 297 = .ok (.ifCond .eq 16, 3) := by decide +kernel
theorem dX3_statement_300 : decode cX3_statement 300 = .ok (.aload_n 0, 1) := by decide +kernel
theorem dX3_statement_301 : decode cX3_statement 301 = .ok (.bipush 59, 2) := by decide +kernel
theorem dX3_statement_303 : decode cX3_statement 303 = .ok (.invokevirtual 107, 3) := by decide +kernel
theorem dX3_statement_306 : decode cX3_statement 306 = .ok (.ifCond .eq 7, 3) := by decide +kernel
theorem dX3_statement_309 : decode cX3_statement 309 = .ok (.iconst 1, 1) := by decide +kernel
theorem dX3_statement_310 : decode cX3_statement 310 = .ok (.goto 4, 3) := by decide +kernel
theorem dX3_statement_313 : decode cX3_statement 313 = .ok (.iconst 0, 1) := by decide +kernel
theorem dX3_statement_314 : decode cX3_statement 314 = .ok (.ireturn, 1) := by decide +kernel
theorem dX3_roomFor_0 : decode cX3_roomFor 0 = .ok (.iload_n 1, 1) := by decide +kernel
theorem dX3_roomFor_1 : decode cX3_roomFor 1 = .ok (.tableswitch 189 0 14 #[75, 87, 189, 189, 189, 100, 111, 189, 189, 124, 189, 136, 138, 155, 172], 75) := by decide +kernel
theorem dX3_roomFor_76 : decode cX3_roomFor 76 = .ok (.iconst 5, 1) := by decide +kernel
theorem dX3_roomFor_77 : decode cX3_roomFor 77 = .ok (.aload_n 0, 1) := by decide +kernel
theorem dX3_roomFor_78 : decode cX3_roomFor 78 = .ok (.getfield 19, 3) := by decide +kernel
theorem dX3_roomFor_81 : decode cX3_roomFor 81 = .ok (.getfield 46, 3) := by decide +kernel
theorem dX3_roomFor_84 : decode cX3_roomFor 84 = .ok (.iconst 0, 1) := by decide +kernel
theorem dX3_roomFor_85 : decode cX3_roomFor 85 = .ok (.iaload, 1) := by decide +kernel
theorem dX3_roomFor_86 : decode cX3_roomFor 86 = .ok (.isub, 1) := by decide +kernel
theorem dX3_roomFor_87 : decode cX3_roomFor 87 = .ok (.ireturn, 1) := by decide +kernel
theorem dX3_roomFor_88 : decode cX3_roomFor 88 = .ok (.bipush 14, 2) := by decide +kernel
theorem dX3_roomFor_90 : decode cX3_roomFor 90 = .ok (.aload_n 0, 1) := by decide +kernel
theorem dX3_roomFor_91 : decode cX3_roomFor 91 = .ok (.getfield 19, 3) := by decide +kernel
theorem dX3_roomFor_94 : decode cX3_roomFor 94 = .ok (.getfield 46, 3) := by decide +kernel
theorem dX3_roomFor_97 : decode cX3_roomFor 97 = .ok (.iconst 1, 1) := by decide +kernel
theorem dX3_roomFor_98 : decode cX3_roomFor 98 = .ok (.iaload, 1) := by decide +kernel
theorem dX3_roomFor_99 : decode cX3_roomFor 99 = .ok (.isub, 1) := by decide +kernel
theorem dX3_roomFor_100 : decode cX3_roomFor 100 = .ok (.ireturn, 1) := by decide +kernel
theorem dX3_roomFor_101 : decode cX3_roomFor 101 = .ok (.bipush 20, 2) := by decide +kernel
theorem dX3_roomFor_103 : decode cX3_roomFor 103 = .ok (.aload_n 0, 1) := by decide +kernel
theorem dX3_roomFor_104 : decode cX3_roomFor 104 = .ok (.getfield 19, 3) := by decide +kernel
theorem dX3_roomFor_107 : decode cX3_roomFor 107 = .ok (.getfield 110, 3) := by decide +kernel
theorem dX3_roomFor_110 : decode cX3_roomFor 110 = .ok (.isub, 1) := by decide +kernel
theorem dX3_roomFor_111 : decode cX3_roomFor 111 = .ok (.ireturn, 1) := by decide +kernel
theorem dX3_roomFor_112 : decode cX3_roomFor 112 = .ok (.bipush 6, 2) := by decide +kernel
theorem dX3_roomFor_114 : decode cX3_roomFor 114 = .ok (.aload_n 0, 1) := by decide +kernel
theorem dX3_roomFor_115 : decode cX3_roomFor 115 = .ok (.getfield 19, 3) := by decide +kernel
theorem dX3_roomFor_118 : decode cX3_roomFor 118 = .ok (.getfield 46, 3) := by decide +kernel
theorem dX3_roomFor_121 : decode cX3_roomFor 121 = .ok (.iconst 2, 1) := by decide +kernel
theorem dX3_roomFor_122 : decode cX3_roomFor 122 = .ok (.iaload, 1) := by decide +kernel
theorem dX3_roomFor_123 : decode cX3_roomFor 123 = .ok (.isub, 1) := by decide +kernel
theorem dX3_roomFor_124 : decode cX3_roomFor 124 = .ok (.ireturn, 1) := by decide +kernel
theorem dX3_roomFor_125 : decode cX3_roomFor 125 = .ok (.iconst 5, 1) := by decide +kernel
theorem dX3_roomFor_126 : decode cX3_roomFor 126 = .ok (.aload_n 0, 1) := by decide +kernel
theorem dX3_roomFor_127 : decode cX3_roomFor 127 = .ok (.getfield 19, 3) := by decide +kernel
theorem dX3_roomFor_130 : decode cX3_roomFor 130 = .ok (.getfield 46, 3) := by decide +kernel
theorem dX3_roomFor_133 : decode cX3_roomFor 133 = .ok (.iconst 3, 1) := by decide +kernel
theorem dX3_roomFor_134 : decode cX3_roomFor 134 = .ok (.iaload, 1) := by decide +kernel
theorem dX3_roomFor_135 : decode cX3_roomFor 135 = .ok (.isub, 1) := by decide +kernel
theorem dX3_roomFor_136 : decode cX3_roomFor 136 = .ok (.ireturn, 1) := by decide +kernel
theorem dX3_roomFor_137 : decode cX3_roomFor 137 = .ok (.iconst 1, 1) := by decide +kernel
theorem dX3_roomFor_138 : decode cX3_roomFor 138 = .ok (.ireturn, 1) := by decide +kernel
theorem dX3_roomFor_139 : decode cX3_roomFor 139 = .ok (.aload_n 0, 1) := by decide +kernel
theorem dX3_roomFor_140 : decode cX3_roomFor 140 = .ok (.getfield 19, 3) := by decide +kernel
theorem dX3_roomFor_143 : decode cX3_roomFor 143 = .ok (.iconst 0, 1) := by decide +kernel
theorem dX3_roomFor_144 : decode cX3_roomFor 144 = .ok (.invokevirtual 113, 3) := by decide +kernel
theorem dX3_roomFor_147 : decode cX3_roomFor 147 = .ok (.ifCond .eq 7, 3) := by decide +kernel
theorem dX3_roomFor_150 : decode cX3_roomFor 150 = .ok (.iconst 0, 1) := by decide +kernel
theorem dX3_roomFor_151 : decode cX3_roomFor 151 = .ok (.goto 4, 3) := by decide +kernel
theorem dX3_roomFor_154 : decode cX3_roomFor 154 = .ok (.iconst 1, 1) := by decide +kernel
theorem dX3_roomFor_155 : decode cX3_roomFor 155 = .ok (.ireturn, 1) := by decide +kernel
theorem dX3_roomFor_156 : decode cX3_roomFor 156 = .ok (.aload_n 0, 1) := by decide +kernel
theorem dX3_roomFor_157 : decode cX3_roomFor 157 = .ok (.getfield 19, 3) := by decide +kernel
theorem dX3_roomFor_160 : decode cX3_roomFor 160 = .ok (.iconst 1, 1) := by decide +kernel
theorem dX3_roomFor_161 : decode cX3_roomFor 161 = .ok (.invokevirtual 113, 3) := by decide +kernel
theorem dX3_roomFor_164 : decode cX3_roomFor 164 = .ok (.ifCond .eq 7, 3) := by decide +kernel
theorem dX3_roomFor_167 : decode cX3_roomFor 167 = .ok (.iconst 0, 1) := by decide +kernel
theorem dX3_roomFor_168 : decode cX3_roomFor 168 = .ok (.goto 4, 3) := by decide +kernel
theorem dX3_roomFor_171 : decode cX3_roomFor 171 = .ok (.iconst 1, 1) := by decide +kernel
theorem dX3_roomFor_172 : decode cX3_roomFor 172 = .ok (.ireturn, 1) := by decide +kernel
theorem dX3_roomFor_173 : decode cX3_roomFor 173 = .ok (.aload_n 0, 1) := by decide +kernel
theorem dX3_roomFor_174 : decode cX3_roomFor 174 = .ok (.getfield 19, 3) := by decide +kernel
theorem dX3_roomFor_177 : decode cX3_roomFor 177 = .ok (.iconst 2, 1) := by decide +kernel
theorem dX3_roomFor_178 : decode cX3_roomFor 178 = .ok (.invokevirtual 113, 3) := by decide +kernel
theorem dX3_roomFor_181 : decode cX3_roomFor 181 = .ok (.ifCond .eq 7, 3) := by decide +kernel
theorem dX3_roomFor_184 : decode cX3_roomFor 184 = .ok (.iconst 0, 1) := by decide +kernel
theorem dX3_roomFor_185 : decode cX3_roomFor 185 = .ok (.goto 4, 3) := by decide +kernel
theorem dX3_roomFor_188 : decode cX3_roomFor 188 = .ok (.iconst 1, 1) := by decide +kernel
theorem dX3_roomFor_189 : decode cX3_roomFor 189 = .ok (.ireturn, 1) := by decide +kernel
theorem dX3_roomFor_190 : decode cX3_roomFor 190 = .ok (.iconst (-1), 1) := by decide +kernel
theorem dX3_roomFor_191 : decode cX3_roomFor 191 = .ok (.ireturn, 1) := by decide +kernel
theorem dX3_tellPage_0 : decode cX3_tellPage 0 = .ok (.aload_n 0, 1) := by decide +kernel
theorem dX3_tellPage_1 : decode cX3_tellPage 1 = .ok (.getfield 19, 3) := by decide +kernel
theorem dX3_tellPage_4 : decode cX3_tellPage 4 = .ok (.getfield 46, 3) := by decide +kernel
theorem dX3_tellPage_7 : decode cX3_tellPage 7 = .ok (.iconst 1, 1) := by decide +kernel
theorem dX3_tellPage_8 : decode cX3_tellPage 8 = .ok (.iaload, 1) := by decide +kernel
theorem dX3_tellPage_9 : decode cX3_tellPage 9 = .ok (.istore_n 1, 1) := by decide +kernel
theorem dX3_tellPage_10 : decode cX3_tellPage 10 = .ok (.aload_n 0, 1) := by decide +kernel
theorem dX3_tellPage_11 : decode cX3_tellPage 11 = .ok (.iconst 1, 1) := by decide +kernel
theorem dX3_tellPage_12 : decode cX3_tellPage 12 = .ok (.invokevirtual 77, 3) := by decide +kernel
theorem dX3_tellPage_15 : decode cX3_tellPage 15 = .ok (.ifCond .eq 11, 3) := by decide +kernel
theorem dX3_tellPage_18 : decode cX3_tellPage 18 = .ok (.aload_n 0, 1) := by decide +kernel
theorem dX3_tellPage_19 : decode cX3_tellPage 19 = .ok (.iconst 2, 1) := by decide +kernel
theorem dX3_tellPage_20 : decode cX3_tellPage 20 = .ok (.invokevirtual 116, 3) := by decide +kernel
theorem dX3_tellPage_23 : decode cX3_tellPage 23 = .ok (.ifCond .ne 5, 3) := by decide +kernel
theorem dX3_tellPage_26 : decode cX3_tellPage 26 = .ok (.iconst 0, 1) := by decide +kernel
theorem dX3_tellPage_27 : decode cX3_tellPage 27 = .ok (.ireturn, 1) := by decide +kernel
theorem dX3_tellPage_28 : decode cX3_tellPage 28 = .ok (.aload_n 0, 1) := by decide +kernel
theorem dX3_tellPage_29 : decode cX3_tellPage 29 = .ok (.iconst 0, 1) := by decide +kernel
theorem dX3_tellPage_30 : decode cX3_tellPage 30 = .ok (.invokevirtual 119, 3) := by decide +kernel
theorem dX3_tellPage_33 : decode cX3_tellPage 33 = .ok (.istore_n 2, 1) := by decide +kernel
theorem dX3_tellPage_34 : decode cX3_tellPage 34 = .ok (.iload_n 2, 1) := by decide +kernel
theorem dX3_tellPage_35 : decode cX3_tellPage 35 = .ok (.iconst (-1), 1) := by decide +kernel
theorem dX3_tellPage_36 : decode cX3_tellPage 36 = .ok (.if_icmp .ne 5, 3) := by decide +kernel
theorem dX3_tellPage_39 : decode cX3_tellPage 39 = .ok (.iconst 0, 1) := by decide +kernel
theorem dX3_tellPage_40 : decode cX3_tellPage 40 = .ok (.ireturn, 1) := by decide +kernel
theorem dX3_tellPage_41 : decode cX3_tellPage 41 = .ok (.aload_n 0, 1) := by decide +kernel
theorem dX3_tellPage_42 : decode cX3_tellPage 42 = .ok (.getfield 19, 3) := by decide +kernel
theorem dX3_tellPage_45 : decode cX3_tellPage 45 = .ok (.getfield 122, 3) := by decide +kernel
theorem dX3_tellPage_48 : decode cX3_tellPage 48 = .ok (.iload_n 1, 1) := by decide +kernel
theorem dX3_tellPage_49 : decode cX3_tellPage 49 = .ok (.iload_n 2, 1) := by decide +kernel
theorem dX3_tellPage_50 : decode cX3_tellPage 50 = .ok (.iastore, 1) := by decide +kernel
theorem dX3_tellPage_51 : decode cX3_tellPage 51 = .ok (.aload_n 0, 1) := by decide +kernel
theorem dX3_tellPage_52 : decode cX3_tellPage 52 = .ok (.getfield 15, 3) := by decide +kernel
theorem dX3_tellPage_55 : decode cX3_tellPage 55 = .ok (.invokevirtual 74, 3) := by decide +kernel
theorem dX3_tellPage_58 : decode cX3_tellPage 58 = .ok (.aload_n 0, 1) := by decide +kernel
theorem dX3_tellPage_59 : decode cX3_tellPage 59 = .ok (.iconst 3, 1) := by decide +kernel
theorem dX3_tellPage_60 : decode cX3_tellPage 60 = .ok (.invokevirtual 116, 3) := by decide +kernel
theorem dX3_tellPage_63 : decode cX3_tellPage 63 = .ok (.ifCond .eq 13, 3) := by decide +kernel
theorem dX3_tellPage_66 : decode cX3_tellPage 66 = .ok (.aload_n 0, 1) := by decide +kernel
theorem dX3_tellPage_67 : decode cX3_tellPage 67 = .ok (.iconst 1, 1) := by decide +kernel
theorem dX3_tellPage_68 : decode cX3_tellPage 68 = .ok (.bipush 99, 2) := by decide +kernel
theorem dX3_tellPage_70 : decode cX3_tellPage 70 = .ok (.invokevirtual 125, 3) := by decide +kernel
theorem dX3_tellPage_73 : decode cX3_tellPage 73 = .ok (.goto 4, 3) := by decide +kernel
theorem dX3_tellPage_76 : decode cX3_tellPage 76 = .ok (.iconst (-1), 1) := by decide +kernel
theorem dX3_tellPage_77 : decode cX3_tellPage 77 = .ok (.istore_n 3, 1) := by decide +kernel
theorem dX3_tellPage_78 : decode cX3_tellPage 78 = .ok (.iload_n 3, 1) := by decide +kernel
theorem dX3_tellPage_79 : decode cX3_tellPage 79 = .ok (.iconst (-1), 1) := by decide +kernel
theorem dX3_tellPage_80 : decode cX3_tellPage 80 = .ok (.if_icmp .ne 5, 3) := by decide +kernel
theorem dX3_tellPage_83 : decode cX3_tellPage 83 = .ok (.iconst 0, 1) := by decide +kernel
theorem dX3_tellPage_84 : decode cX3_tellPage 84 = .ok (.ireturn, 1) := by decide +kernel
theorem dX3_tellPage_85 : decode cX3_tellPage 85 = .ok (.aload_n 0, 1) := by decide +kernel
theorem dX3_tellPage_86 : decode cX3_tellPage 86 = .ok (.getfield 19, 3) := by decide +kernel
theorem dX3_tellPage_89 : decode cX3_tellPage 89 = .ok (.getfield 129, 3) := by decide +kernel
theorem dX3_tellPage_92 : decode cX3_tellPage 92 = .ok (.iload_n 1, 1) := by decide +kernel
theorem dX3_tellPage_93 : decode cX3_tellPage 93 = .ok (.iload_n 3, 1) := by decide +kernel
theorem dX3_tellPage_94 : decode cX3_tellPage 94 = .ok (.iastore, 1) := by decide +kernel
theorem dX3_tellPage_95 : decode cX3_tellPage 95 = .ok (.aload_n 0, 1) := by decide +kernel
theorem dX3_tellPage_96 : decode cX3_tellPage 96 = .ok (.getfield 15, 3) := by decide +kernel
theorem dX3_tellPage_99 : decode cX3_tellPage 99 = .ok (.iconst 4, 1) := by decide +kernel
theorem dX3_tellPage_100 : decode cX3_tellPage 100 = .ok (.invokevirtual 132, 3) := by decide +kernel
theorem dX3_tellPage_103 : decode cX3_tellPage 103 = .ok (.ifCond .eq 20, 3) := by decide +kernel
theorem dX3_tellPage_106 : decode cX3_tellPage 106 = .ok (.aload_n 0, 1) := by decide +kernel
theorem dX3_tellPage_107 : decode cX3_tellPage 107 = .ok (.getfield 19, 3) := by decide +kernel
theorem dX3_tellPage_110 : decode cX3_tellPage 110 = .ok (.getfield 135, 3) := by decide +kernel
theorem dX3_tellPage_113 : decode cX3_tellPage 113 = .ok (.iload_n 1, 1) := by decide +kernel
theorem dX3_tellPage_114 : decode cX3_tellPage 114 = .ok (.iconst 1, 1) := by decide +kernel
theorem dX3_tellPage_115 : decode cX3_tellPage 115 = .ok (.iastore, 1) := by decide +kernel
theorem dX3_tellPage_116 : decode cX3_tellPage 116 = .ok (.aload_n 0, 1) := by decide +kernel
theorem dX3_tellPage_117 : decode cX3_tellPage 117 = .ok (.getfield 15, 3) := by decide +kernel
theorem dX3_tellPage_120 : decode cX3_tellPage 120 = .ok (.invokevirtual 74, 3) := by decide +kernel
theorem dX3_tellPage_123 : decode cX3_tellPage 123 = .ok (.iconst 1, 1) := by decide +kernel
theorem dX3_tellPage_124 : decode cX3_tellPage 124 = .ok (.ireturn, 1) := by decide +kernel
theorem dX3_tellNeed_0 : decode cX3_tellNeed 0 = .ok (.aload_n 0, 1) := by decide +kernel
theorem dX3_tellNeed_1 : decode cX3_tellNeed 1 = .ok (.iconst 1, 1) := by decide +kernel
theorem dX3_tellNeed_2 : decode cX3_tellNeed 2 = .ok (.invokevirtual 119, 3) := by decide +kernel
theorem dX3_tellNeed_5 : decode cX3_tellNeed 5 = .ok (.istore_n 1, 1) := by decide +kernel
theorem dX3_tellNeed_6 : decode cX3_tellNeed 6 = .ok (.iload_n 1, 1) := by decide +kernel
theorem dX3_tellNeed_7 : decode cX3_tellNeed 7 = .ok (.iconst (-1), 1) := by decide +kernel
theorem dX3_tellNeed_8 : decode cX3_tellNeed 8 = .ok (.if_icmp .ne 5, 3) := by decide +kernel
theorem dX3_tellNeed_11 : decode cX3_tellNeed 11 = .ok (.iconst 0, 1) := by decide +kernel
theorem dX3_tellNeed_12 : decode cX3_tellNeed 12 = .ok (.ireturn, 1) := by decide +kernel
theorem dX3_tellNeed_13 : decode cX3_tellNeed 13 = .ok (.aload_n 0, 1) := by decide +kernel
theorem dX3_tellNeed_14 : decode cX3_tellNeed 14 = .ok (.getfield 15, 3) := by decide +kernel
theorem dX3_tellNeed_17 : decode cX3_tellNeed 17 = .ok (.invokevirtual 74, 3) := by decide +kernel
theorem dX3_tellNeed_20 : decode cX3_tellNeed 20 = .ok (.aload_n 0, 1) := by decide +kernel
theorem dX3_tellNeed_21 : decode cX3_tellNeed 21 = .ok (.iconst 1, 1) := by decide +kernel
theorem dX3_tellNeed_22 : decode cX3_tellNeed 22 = .ok (.invokevirtual 119, 3) := by decide +kernel
theorem dX3_tellNeed_25 : decode cX3_tellNeed 25 = .ok (.istore_n 2, 1) := by decide +kernel
theorem dX3_tellNeed_26 : decode cX3_tellNeed 26 = .ok (.iload_n 2, 1) := by decide +kernel
theorem dX3_tellNeed_27 : decode cX3_tellNeed 27 = .ok (.iconst (-1), 1) := by decide +kernel
theorem dX3_tellNeed_28 : decode cX3_tellNeed 28 = .ok (.if_icmp .ne 5, 3) := by decide +kernel
theorem dX3_tellNeed_31 : decode cX3_tellNeed 31 = .ok (.iconst 0, 1) := by decide +kernel
theorem dX3_tellNeed_32 : decode cX3_tellNeed 32 = .ok (.ireturn, 1) := by decide +kernel
theorem dX3_tellNeed_33 : decode cX3_tellNeed 33 = .ok (.iload_n 2, 1) := by decide +kernel
theorem dX3_tellNeed_34 : decode cX3_tellNeed 34 = .ok (.iload_n 1, 1) := by decide +kernel
theorem dX3_tellNeed_35 : decode cX3_tellNeed 35 = .ok (.if_icmp .ge 19, 3) := by decide +kernel
theorem dX3_tellNeed_38 : decode cX3_tellNeed 38 = .ok (.aload_n 0, 1) := by decide +kernel
theorem dX3_tellNeed_39 : decode cX3_tellNeed 39 = .ok (.getfield 19, 3) := by decide +kernel
theorem dX3_tellNeed_42 : decode cX3_tellNeed 42 = .ok (.getfield 138, 3) := by decide +kernel
theorem dX3_tellNeed_45 : decode cX3_tellNeed 45 = .ok (.iload_n 1, 1) := by decide +kernel
theorem dX3_tellNeed_46 : decode cX3_tellNeed 46 = .ok (.iaload, 1) := by decide +kernel
theorem dX3_tellNeed_47 : decode cX3_tellNeed 47 = .ok (.iconst 1, 1) := by decide +kernel
theorem dX3_tellNeed_48 : decode cX3_tellNeed 48 = .ok (.iload_n 2, 1) := by decide +kernel
theorem dX3_tellNeed_49 : decode cX3_tellNeed 49 = .ok (.ishl, 1) := by decide +kernel
theorem dX3_tellNeed_50 : decode cX3_tellNeed 50 = .ok (.iand, 1) := by decide +kernel
theorem dX3_tellNeed_51 : decode cX3_tellNeed 51 = .ok (.ifCond .eq 16, 3) := by decide +kernel
theorem dX3_tellNeed_54 : decode cX3_tellNeed 54 = .ok (.aload_n 0, 1) := by decide +kernel
theorem dX3_tellNeed_55 : decode cX3_tellNeed 55 = .ok (.iconst 3, 1) := by decide +kernel
theorem dX3_tellNeed_56 : decode cX3_tellNeed 56 = .ok (.aload_n 0, 1) := by decide +kernel
theorem dX3_tellNeed_57 : decode cX3_tellNeed 57 = .ok (.getfield 15, 3) := by decide +kernel
theorem dX3_tellNeed_60 : decode cX3_tellNeed 60 = .ok (.getfield 71, 3) := by decide +kernel
theorem dX3_tellNeed_63 : decode cX3_tellNeed 63 = .ok (.invokevirtual 53, 3) := by decide +kernel
theorem dX3_tellNeed_66 : decode cX3_tellNeed 66 = .ok (.ireturn, 1) := by decide +kernel
theorem dX3_tellNeed_67 : decode cX3_tellNeed 67 = .ok (.aload_n 0, 1) := by decide +kernel
theorem dX3_tellNeed_68 : decode cX3_tellNeed 68 = .ok (.getfield 19, 3) := by decide +kernel
theorem dX3_tellNeed_71 : decode cX3_tellNeed 71 = .ok (.getfield 138, 3) := by decide +kernel
theorem dX3_tellNeed_74 : decode cX3_tellNeed 74 = .ok (.iload_n 1, 1) := by decide +kernel
theorem dX3_tellNeed_75 : decode cX3_tellNeed 75 = .ok (.dup2, 1) := by decide +kernel
theorem dX3_tellNeed_76 : decode cX3_tellNeed 76 = .ok (.iaload, 1) := by decide +kernel
theorem dX3_tellNeed_77 : decode cX3_tellNeed 77 = .ok (.iconst 1, 1) := by decide +kernel
theorem dX3_tellNeed_78 : decode cX3_tellNeed 78 = .ok (.iload_n 2, 1) := by decide +kernel
theorem dX3_tellNeed_79 : decode cX3_tellNeed 79 = .ok (.ishl, 1) := by decide +kernel
theorem dX3_tellNeed_80 : decode cX3_tellNeed 80 = .ok (.ior, 1) := by decide +kernel
theorem dX3_tellNeed_81 : decode cX3_tellNeed 81 = .ok (.iastore, 1) := by decide +kernel
theorem dX3_tellNeed_82 : decode cX3_tellNeed 82 = .ok (.aload_n 0, 1) := by decide +kernel
theorem dX3_tellNeed_83 : decode cX3_tellNeed 83 = .ok (.getfield 19, 3) := by decide +kernel
theorem dX3_tellNeed_86 : decode cX3_tellNeed 86 = .ok (.dup, 1) := by decide +kernel
theorem dX3_tellNeed_87 : decode cX3_tellNeed 87 = .ok (.getfield 110, 3) := by decide +kernel
theorem dX3_tellNeed_90 : decode cX3_tellNeed 90 = .ok (.iconst 1, 1) := by decide +kernel
theorem dX3_tellNeed_91 : decode cX3_tellNeed 91 = .ok (.iadd, 1) := by decide +kernel
theorem dX3_tellNeed_92 : decode cX3_tellNeed 92 = .ok (.putfield 110, 3) := by decide +kernel
theorem dX3_tellNeed_95 : decode cX3_tellNeed 95 = .ok (.aload_n 0, 1) := by decide +kernel
theorem dX3_tellNeed_96 : decode cX3_tellNeed 96 = .ok (.getfield 15, 3) := by decide +kernel
theorem dX3_tellNeed_99 : decode cX3_tellNeed 99 = .ok (.invokevirtual 74, 3) := by decide +kernel
theorem dX3_tellNeed_102 : decode cX3_tellNeed 102 = .ok (.iconst 1, 1) := by decide +kernel
theorem dX3_tellNeed_103 : decode cX3_tellNeed 103 = .ok (.ireturn, 1) := by decide +kernel
theorem dX3_tellReader_0 : decode cX3_tellReader 0 = .ok (.aload_n 0, 1) := by decide +kernel
theorem dX3_tellReader_1 : decode cX3_tellReader 1 = .ok (.getfield 19, 3) := by decide +kernel
theorem dX3_tellReader_4 : decode cX3_tellReader 4 = .ok (.getfield 46, 3) := by decide +kernel
theorem dX3_tellReader_7 : decode cX3_tellReader 7 = .ok (.iconst 2, 1) := by decide +kernel
theorem dX3_tellReader_8 : decode cX3_tellReader 8 = .ok (.iaload, 1) := by decide +kernel
theorem dX3_tellReader_9 : decode cX3_tellReader 9 = .ok (.istore_n 1, 1) := by decide +kernel
theorem dX3_tellReader_10 : decode cX3_tellReader 10 = .ok (.aload_n 0, 1) := by decide +kernel
theorem dX3_tellReader_11 : decode cX3_tellReader 11 = .ok (.iconst 2, 1) := by decide +kernel
theorem dX3_tellReader_12 : decode cX3_tellReader 12 = .ok (.invokevirtual 77, 3) := by decide +kernel
theorem dX3_tellReader_15 : decode cX3_tellReader 15 = .ok (.ifCond .eq 22, 3) := by decide +kernel
theorem dX3_tellReader_18 : decode cX3_tellReader 18 = .ok (.aload_n 0, 1) := by decide +kernel
theorem dX3_tellReader_19 : decode cX3_tellReader 19 = .ok (.bipush 7, 2) := by decide +kernel
theorem dX3_tellReader_21 : decode cX3_tellReader 21 = .ok (.invokevirtual 116, 3) := by decide +kernel
theorem dX3_tellReader_24 : decode cX3_tellReader 24 = .ok (.ifCond .eq 13, 3) := by decide +kernel
theorem dX3_tellReader_27 : decode cX3_tellReader 27 = .ok (.aload_n 0, 1) := by decide +kernel
theorem dX3_tellReader_28 : decode cX3_tellReader 28 = .ok (.iconst 1, 1) := by decide +kernel
theorem dX3_tellReader_29 : decode cX3_tellReader 29 = .ok (.bipush 9, 2) := by decide +kernel
theorem dX3_tellReader_31 : decode cX3_tellReader 31 = .ok (.invokevirtual 125, 3) := by decide +kernel
theorem dX3_tellReader_34 : decode cX3_tellReader 34 = .ok (.goto 4, 3) := by decide +kernel
theorem dX3_tellReader_37 : decode cX3_tellReader 37 = .ok (.iconst (-1), 1) := by decide +kernel
theorem dX3_tellReader_38 : decode cX3_tellReader 38 = .ok (.istore_n 2, 1) := by decide +kernel
theorem dX3_tellReader_39 : decode cX3_tellReader 39 = .ok (.iload_n 2, 1) := by decide +kernel
theorem dX3_tellReader_40 : decode cX3_tellReader 40 = .ok (.iconst (-1), 1) := by decide +kernel
theorem dX3_tellReader_41 : decode cX3_tellReader 41 = .ok (.if_icmp .ne 5, 3) := by decide +kernel
theorem dX3_tellReader_44 : decode cX3_tellReader 44 = .ok (.iconst 0, 1) := by decide +kernel
theorem dX3_tellReader_45 : decode cX3_tellReader 45 = .ok (.ireturn, 1) := by decide +kernel
theorem dX3_tellReader_46 : decode cX3_tellReader 46 = .ok (.aload_n 0, 1) := by decide +kernel
theorem dX3_tellReader_47 : decode cX3_tellReader 47 = .ok (.getfield 19, 3) := by decide +kernel
theorem dX3_tellReader_50 : decode cX3_tellReader 50 = .ok (.getfield 141, 3) := by decide +kernel
theorem dX3_tellReader_53 : decode cX3_tellReader 53 = .ok (.iload_n 1, 1) := by decide +kernel
theorem dX3_tellReader_54 : decode cX3_tellReader 54 = .ok (.iload_n 2, 1) := by decide +kernel
theorem dX3_tellReader_55 : decode cX3_tellReader 55 = .ok (.iastore, 1) := by decide +kernel
theorem dX3_tellReader_56 : decode cX3_tellReader 56 = .ok (.aload_n 0, 1) := by decide +kernel
theorem dX3_tellReader_57 : decode cX3_tellReader 57 = .ok (.bipush 8, 2) := by decide +kernel
theorem dX3_tellReader_59 : decode cX3_tellReader 59 = .ok (.invokevirtual 116, 3) := by decide +kernel
theorem dX3_tellReader_62 : decode cX3_tellReader 62 = .ok (.ifCond .eq 13, 3) := by decide +kernel
theorem dX3_tellReader_65 : decode cX3_tellReader 65 = .ok (.aload_n 0, 1) := by decide +kernel
theorem dX3_tellReader_66 : decode cX3_tellReader 66 = .ok (.iconst 0, 1) := by decide +kernel
theorem dX3_tellReader_67 : decode cX3_tellReader 67 = .ok (.bipush 9, 2) := by decide +kernel
theorem dX3_tellReader_69 : decode cX3_tellReader 69 = .ok (.invokevirtual 125, 3) := by decide +kernel
theorem dX3_tellReader_72 : decode cX3_tellReader 72 = .ok (.goto 4, 3) := by decide +kernel
theorem dX3_tellReader_75 : decode cX3_tellReader 75 = .ok (.iconst (-1), 1) := by decide +kernel
theorem dX3_tellReader_76 : decode cX3_tellReader 76 = .ok (.istore_n 3, 1) := by decide +kernel
theorem dX3_tellReader_77 : decode cX3_tellReader 77 = .ok (.iload_n 3, 1) := by decide +kernel
theorem dX3_tellReader_78 : decode cX3_tellReader 78 = .ok (.iconst (-1), 1) := by decide +kernel
theorem dX3_tellReader_79 : decode cX3_tellReader 79 = .ok (.if_icmp .ne 5, 3) := by decide +kernel
theorem dX3_tellReader_82 : decode cX3_tellReader 82 = .ok (.iconst 0, 1) := by decide +kernel
theorem dX3_tellReader_83 : decode cX3_tellReader 83 = .ok (.ireturn, 1) := by decide +kernel
theorem dX3_tellReader_84 : decode cX3_tellReader 84 = .ok (.aload_n 0, 1) := by decide +kernel
theorem dX3_tellReader_85 : decode cX3_tellReader 85 = .ok (.getfield 19, 3) := by decide +kernel
theorem dX3_tellReader_88 : decode cX3_tellReader 88 = .ok (.getfield 144, 3) := by decide +kernel
theorem dX3_tellReader_91 : decode cX3_tellReader 91 = .ok (.iload_n 1, 1) := by decide +kernel
theorem dX3_tellReader_92 : decode cX3_tellReader 92 = .ok (.iload_n 3, 1) := by decide +kernel
theorem dX3_tellReader_93 : decode cX3_tellReader 93 = .ok (.iastore, 1) := by decide +kernel
theorem dX3_tellReader_94 : decode cX3_tellReader 94 = .ok (.iconst 1, 1) := by decide +kernel
theorem dX3_tellReader_95 : decode cX3_tellReader 95 = .ok (.ireturn, 1) := by decide +kernel
theorem dX3_tellTable_0 : decode cX3_tellTable 0 = .ok (.aload_n 0, 1) := by decide +kernel
theorem dX3_tellTable_1 : decode cX3_tellTable 1 = .ok (.getfield 19, 3) := by decide +kernel
theorem dX3_tellTable_4 : decode cX3_tellTable 4 = .ok (.getfield 46, 3) := by decide +kernel
theorem dX3_tellTable_7 : decode cX3_tellTable 7 = .ok (.iconst 3, 1) := by decide +kernel
theorem dX3_tellTable_8 : decode cX3_tellTable 8 = .ok (.iaload, 1) := by decide +kernel
theorem dX3_tellTable_9 : decode cX3_tellTable 9 = .ok (.istore_n 1, 1) := by decide +kernel
theorem dX3_tellTable_10 : decode cX3_tellTable 10 = .ok (.aload_n 0, 1) := by decide +kernel
theorem dX3_tellTable_11 : decode cX3_tellTable 11 = .ok (.iconst 3, 1) := by decide +kernel
theorem dX3_tellTable_12 : decode cX3_tellTable 12 = .ok (.invokevirtual 77, 3) := by decide +kernel
theorem dX3_tellTable_15 : decode cX3_tellTable 15 = .ok (.ifCond .eq 22, 3) := by decide +kernel
theorem dX3_tellTable_18 : decode cX3_tellTable 18 = .ok (.aload_n 0, 1) := by decide +kernel
theorem dX3_tellTable_19 : decode cX3_tellTable 19 = .ok (.bipush 10, 2) := by decide +kernel
theorem dX3_tellTable_21 : decode cX3_tellTable 21 = .ok (.invokevirtual 116, 3) := by decide +kernel
theorem dX3_tellTable_24 : decode cX3_tellTable 24 = .ok (.ifCond .eq 13, 3) := by decide +kernel
theorem dX3_tellTable_27 : decode cX3_tellTable 27 = .ok (.aload_n 0, 1) := by decide +kernel
theorem dX3_tellTable_28 : decode cX3_tellTable 28 = .ok (.iconst 0, 1) := by decide +kernel
theorem dX3_tellTable_29 : decode cX3_tellTable 29 = .ok (.bipush 9, 2) := by decide +kernel
theorem dX3_tellTable_31 : decode cX3_tellTable 31 = .ok (.invokevirtual 125, 3) := by decide +kernel
theorem dX3_tellTable_34 : decode cX3_tellTable 34 = .ok (.goto 4, 3) := by decide +kernel
theorem dX3_tellTable_37 : decode cX3_tellTable 37 = .ok (.iconst (-1), 1) := by decide +kernel
theorem dX3_tellTable_38 : decode cX3_tellTable 38 = .ok (.istore_n 2, 1) := by decide +kernel
theorem dX3_tellTable_39 : decode cX3_tellTable 39 = .ok (.iload_n 2, 1) := by decide +kernel
theorem dX3_tellTable_40 : decode cX3_tellTable 40 = .ok (.iconst (-1), 1) := by decide +kernel
theorem dX3_tellTable_41 : decode cX3_tellTable 41 = .ok (.if_icmp .ne 5, 3) := by decide +kernel
theorem dX3_tellTable_44 : decode cX3_tellTable 44 = .ok (.iconst 0, 1) := by decide +kernel
theorem dX3_tellTable_45 : decode cX3_tellTable 45 = .ok (.ireturn, 1) := by decide +kernel
theorem dX3_tellTable_46 : decode cX3_tellTable 46 = .ok (.aload_n 0, 1) := by decide +kernel
theorem dX3_tellTable_47 : decode cX3_tellTable 47 = .ok (.getfield 19, 3) := by decide +kernel
theorem dX3_tellTable_50 : decode cX3_tellTable 50 = .ok (.getfield 147, 3) := by decide +kernel
theorem dX3_tellTable_53 : decode cX3_tellTable 53 = .ok (.iload_n 1, 1) := by decide +kernel
theorem dX3_tellTable_54 : decode cX3_tellTable 54 = .ok (.iload_n 2, 1) := by decide +kernel
theorem dX3_tellTable_55 : decode cX3_tellTable 55 = .ok (.iastore, 1) := by decide +kernel
theorem dX3_tellTable_56 : decode cX3_tellTable 56 = .ok (.iconst 1, 1) := by decide +kernel
theorem dX3_tellTable_57 : decode cX3_tellTable 57 = .ok (.ireturn, 1) := by decide +kernel
theorem dX3_tellInch_0 : decode cX3_tellInch 0 = .ok (.aload_n 0, 1) := by decide +kernel
theorem dX3_tellInch_1 : decode cX3_tellInch 1 = .ok (.bipush 10, 2) := by decide +kernel
theorem dX3_tellInch_3 : decode cX3_tellInch 3 = .ok (.bipush 120, 2) := by decide +kernel
theorem dX3_tellInch_5 : decode cX3_tellInch 5 = .ok (.invokevirtual 125, 3) := by decide +kernel
theorem dX3_tellInch_8 : decode cX3_tellInch 8 = .ok (.istore_n 1, 1) := by decide +kernel
theorem dX3_tellInch_9 : decode cX3_tellInch 9 = .ok (.iload_n 1, 1) := by decide +kernel
theorem dX3_tellInch_10 : decode cX3_tellInch 10 = .ok (.iconst (-1), 1) := by decide +kernel
theorem dX3_tellInch_11 : decode cX3_tellInch 11 = .ok (.if_icmp .ne 5, 3) := by decide +kernel
theorem dX3_tellInch_14 : decode cX3_tellInch 14 = .ok (.iconst 0, 1) := by decide +kernel
theorem dX3_tellInch_15 : decode cX3_tellInch 15 = .ok (.ireturn, 1) := by decide +kernel
theorem dX3_tellInch_16 : decode cX3_tellInch 16 = .ok (.aload_n 0, 1) := by decide +kernel
theorem dX3_tellInch_17 : decode cX3_tellInch 17 = .ok (.getfield 19, 3) := by decide +kernel
theorem dX3_tellInch_20 : decode cX3_tellInch 20 = .ok (.iload_n 1, 1) := by decide +kernel
theorem dX3_tellInch_21 : decode cX3_tellInch 21 = .ok (.putfield 150, 3) := by decide +kernel
theorem dX3_tellInch_24 : decode cX3_tellInch 24 = .ok (.iconst 1, 1) := by decide +kernel
theorem dX3_tellInch_25 : decode cX3_tellInch 25 = .ok (.ireturn, 1) := by decide +kernel
theorem dX3_beginRule_0 : decode cX3_beginRule 0 = .ok (.aload_n 0, 1) := by decide +kernel
theorem dX3_beginRule_1 : decode cX3_beginRule 1 = .ok (.getfield 19, 3) := by decide +kernel
theorem dX3_beginRule_4 : decode cX3_beginRule 4 = .ok (.getfield 153, 3) := by decide +kernel
theorem dX3_beginRule_7 : decode cX3_beginRule 7 = .ok (.iload_n 1, 1) := by decide +kernel
theorem dX3_beginRule_8 : decode cX3_beginRule 8 = .ok (.aload_n 0, 1) := by decide +kernel
theorem dX3_beginRule_9 : decode cX3_beginRule 9 = .ok (.getfield 19, 3) := by decide +kernel
theorem dX3_beginRule_12 : decode cX3_beginRule 12 = .ok (.getfield 156, 3) := by decide +kernel
theorem dX3_beginRule_15 : decode cX3_beginRule 15 = .ok (.iastore, 1) := by decide +kernel
theorem dX3_beginRule_16 : decode cX3_beginRule 16 = .ok (.iconst 1, 1) := by decide +kernel
theorem dX3_beginRule_17 : decode cX3_beginRule 17 = .ok (.ireturn, 1) := by decide +kernel
theorem dX3_endRule_0 : decode cX3_endRule 0 = .ok (.aload_n 0, 1) := by decide +kernel
theorem dX3_endRule_1 : decode cX3_endRule 1 = .ok (.getfield 19, 3) := by decide +kernel
theorem dX3_endRule_4 : decode cX3_endRule 4 = .ok (.getfield 159, 3) := by decide +kernel
theorem dX3_endRule_7 : decode cX3_endRule 7 = .ok (.iload_n 1, 1) := by decide +kernel
theorem dX3_endRule_8 : decode cX3_endRule 8 = .ok (.aload_n 0, 1) := by decide +kernel
theorem dX3_endRule_9 : decode cX3_endRule 9 = .ok (.getfield 19, 3) := by decide +kernel
theorem dX3_endRule_12 : decode cX3_endRule 12 = .ok (.getfield 156, 3) := by decide +kernel
theorem dX3_endRule_15 : decode cX3_endRule 15 = .ok (.iastore, 1) := by decide +kernel
theorem dX3_endRule_16 : decode cX3_endRule 16 = .ok (.iconst 1, 1) := by decide +kernel
theorem dX3_endRule_17 : decode cX3_endRule 17 = .ok (.ireturn, 1) := by decide +kernel
theorem dX3_parseTest_0 : decode cX3_parseTest 0 = .ok (.aload_n 0, 1) := by decide +kernel
theorem dX3_parseTest_1 : decode cX3_parseTest 1 = .ok (.invokevirtual 162, 3) := by decide +kernel
theorem dX3_parseTest_4 : decode cX3_parseTest 4 = .ok (.istore_n 1, 1) := by decide +kernel
theorem dX3_parseTest_5 : decode cX3_parseTest 5 = .ok (.iconst 0, 1) := by decide +kernel
theorem dX3_parseTest_6 : decode cX3_parseTest 6 = .ok (.istore_n 2, 1) := by decide +kernel
theorem dX3_parseTest_7 : decode cX3_parseTest 7 = .ok (.iload_n 2, 1) := by decide +kernel
theorem dX3_parseTest_8 : decode cX3_parseTest 8 = .ok (.sipush 1600, 3) := by decide +kernel
theorem dX3_parseTest_11 : decode cX3_parseTest 11 = .ok (.if_icmp .ge 47, 3) := by decide +kernel
theorem dX3_parseTest_14 : decode cX3_parseTest 14 = .ok (.iload_n 1, 1) := by decide +kernel
theorem dX3_parseTest_15 : decode cX3_parseTest 15 = .ok (.ifCond .eq 43, 3) := by decide +kernel
theorem dX3_parseTest_18 : decode cX3_parseTest 18 = .ok (.aload_n 0, 1) := by decide +kernel
theorem dX3_parseTest_19 : decode cX3_parseTest 19 = .ok (.getfield 15, 3) := by decide +kernel
theorem dX3_parseTest_22 : decode cX3_parseTest 22 = .ok (.bipush 19, 2) := by decide +kernel
theorem dX3_parseTest_24 : decode cX3_parseTest 24 = .ok (.invokevirtual 132, 3) := by decide +kernel
theorem dX3_parseTest_27 : decode cX3_parseTest 27 = .ok (.ifCond .eq 31, 3) := by decide +kernel
theorem dX3_parseTest_30 : decode cX3_parseTest 30 = .ok (.aload_n 0, 1) := by decide +kernel
theorem dX3_parseTest_31 : decode cX3_parseTest 31 = .ok (.getfield 15, 3) := by decide +kernel
theorem dX3_parseTest_34 : decode cX3_parseTest 34 = .ok (.invokevirtual 74, 3) := by decide +kernel
theorem dX3_parseTest_37 : decode cX3_parseTest 37 = .ok (.aload_n 0, 1) := by decide +kernel
theorem dX3_parseTest_38 : decode cX3_parseTest 38 = .ok (.invokevirtual 162, 3) := by decide +kernel
theorem dX3_parseTest_41 : decode cX3_parseTest 41 = .ok (.istore_n 1, 1) := by decide +kernel
theorem dX3_parseTest_42 : decode cX3_parseTest 42 = .ok (.aload_n 0, 1) := by decide +kernel
theorem dX3_parseTest_43 : decode cX3_parseTest 43 = .ok (.getfield 19, 3) := by decide +kernel
theorem dX3_parseTest_46 : decode cX3_parseTest 46 = .ok (.sipush 10111, 3) := by decide +kernel
theorem dX3_parseTest_49 : decode cX3_parseTest 49 = .ok (.invokevirtual 165, 3) := by decide +kernel
theorem dX3_parseTest_52 : decode cX3_parseTest 52 = .ok (.iinc 2 1, 3) := by decide +kernel
theorem dX3_parseTest_55 : decode cX3_parseTest 55 = .ok (.goto (-48), 3) := by decide +kernel
theorem dX3_parseTest_58 : decode cX3_parseTest 58 = .ok (.iload_n 1, 1) := by decide +kernel
theorem dX3_parseTest_59 : decode cX3_parseTest 59 = .ok (.ireturn, 1) := by decide +kernel
theorem dX3_parseBoth_0 : decode cX3_parseBoth 0 = .ok (.aload_n 0, 1) := by decide +kernel
theorem dX3_parseBoth_1 : decode cX3_parseBoth 1 = .ok (.invokevirtual 169, 3) := by decide +kernel
theorem dX3_parseBoth_4 : decode cX3_parseBoth 4 = .ok (.istore_n 1, 1) := by decide +kernel
theorem dX3_parseBoth_5 : decode cX3_parseBoth 5 = .ok (.iconst 0, 1) := by decide +kernel
theorem dX3_parseBoth_6 : decode cX3_parseBoth 6 = .ok (.istore_n 2, 1) := by decide +kernel
theorem dX3_parseBoth_7 : decode cX3_parseBoth 7 = .ok (.iload_n 2, 1) := by decide +kernel
theorem dX3_parseBoth_8 : decode cX3_parseBoth 8 = .ok (.sipush 1600, 3) := by decide +kernel
theorem dX3_parseBoth_11 : decode cX3_parseBoth 11 = .ok (.if_icmp .ge 47, 3) := by decide +kernel
theorem dX3_parseBoth_14 : decode cX3_parseBoth 14 = .ok (.iload_n 1, 1) := by decide +kernel
theorem dX3_parseBoth_15 : decode cX3_parseBoth 15 = .ok (.ifCond .eq 43, 3) := by decide +kernel
theorem dX3_parseBoth_18 : decode cX3_parseBoth 18 = .ok (.aload_n 0, 1) := by decide +kernel
theorem dX3_parseBoth_19 : decode cX3_parseBoth 19 = .ok (.getfield 15, 3) := by decide +kernel
theorem dX3_parseBoth_22 : decode cX3_parseBoth 22 = .ok (.bipush 20, 2) := by decide +kernel
theorem dX3_parseBoth_24 : decode cX3_parseBoth 24 = .ok (.invokevirtual 132, 3) := by decide +kernel
theorem dX3_parseBoth_27 : decode cX3_parseBoth 27 = .ok (.ifCond .eq 31, 3) := by decide +kernel
theorem dX3_parseBoth_30 : decode cX3_parseBoth 30 = .ok (.aload_n 0, 1) := by decide +kernel
theorem dX3_parseBoth_31 : decode cX3_parseBoth 31 = .ok (.getfield 15, 3) := by decide +kernel
theorem dX3_parseBoth_34 : decode cX3_parseBoth 34 = .ok (.invokevirtual 74, 3) := by decide +kernel
theorem dX3_parseBoth_37 : decode cX3_parseBoth 37 = .ok (.aload_n 0, 1) := by decide +kernel
theorem dX3_parseBoth_38 : decode cX3_parseBoth 38 = .ok (.invokevirtual 169, 3) := by decide +kernel
theorem dX3_parseBoth_41 : decode cX3_parseBoth 41 = .ok (.istore_n 1, 1) := by decide +kernel
theorem dX3_parseBoth_42 : decode cX3_parseBoth 42 = .ok (.aload_n 0, 1) := by decide +kernel
theorem dX3_parseBoth_43 : decode cX3_parseBoth 43 = .ok (.getfield 19, 3) := by decide +kernel
theorem dX3_parseBoth_46 : decode cX3_parseBoth 46 = .ok (.sipush 10110, 3) := by decide +kernel
theorem dX3_parseBoth_49 : decode cX3_parseBoth 49 = .ok (.invokevirtual 165, 3) := by decide +kernel
theorem dX3_parseBoth_52 : decode cX3_parseBoth 52 = .ok (.iinc 2 1, 3) := by decide +kernel
theorem dX3_parseBoth_55 : decode cX3_parseBoth 55 = .ok (.goto (-48), 3) := by decide +kernel
theorem dX3_parseBoth_58 : decode cX3_parseBoth 58 = .ok (.iload_n 1, 1) := by decide +kernel
theorem dX3_parseBoth_59 : decode cX3_parseBoth 59 = .ok (.ireturn, 1) := by decide +kernel
theorem dX3_parseFact_0 : decode cX3_parseFact 0 = .ok (.aload_n 0, 1) := by decide +kernel
theorem dX3_parseFact_1 : decode cX3_parseFact 1 = .ok (.getfield 15, 3) := by decide +kernel
theorem dX3_parseFact_4 : decode cX3_parseFact 4 = .ok (.bipush 21, 2) := by decide +kernel
theorem dX3_parseFact_6 : decode cX3_parseFact 6 = .ok (.invokevirtual 132, 3) := by decide +kernel
theorem dX3_parseFact_9 : decode cX3_parseFact 9 = .ok (.ifCond .eq 23, 3) := by decide +kernel
theorem dX3_parseFact_12 : decode cX3_parseFact 12 = .ok (.aload_n 0, 1) := by decide +kernel
theorem dX3_parseFact_13 : decode cX3_parseFact 13 = .ok (.invokevirtual 172, 3) := by decide +kernel
theorem dX3_parseFact_16 : decode cX3_parseFact 16 = .ok (.ifCond .eq 14, 3) := by decide +kernel
theorem dX3_parseFact_19 : decode cX3_parseFact 19 = .ok (.aload_n 0, 1) := by decide +kernel
theorem dX3_parseFact_20 : decode cX3_parseFact 20 = .ok (.invokevirtual 175, 3) := by decide +kernel
theorem dX3_parseFact_23 : decode cX3_parseFact 23 = .ok (.ifCond .eq 7, 3) := by decide +kernel
theorem dX3_parseFact_26 : decode cX3_parseFact 26 = .ok (.iconst 1, 1) := by decide +kernel
theorem dX3_parseFact_27 : decode cX3_parseFact 27 = .ok (.goto 4, 3) := by decide +kernel
theorem dX3_parseFact_30 : decode cX3_parseFact 30 = .ok (.iconst 0, 1) := by decide +kernel
theorem dX3_parseFact_31 : decode cX3_parseFact 31 = .ok (.ireturn, 1) := by decide +kernel
theorem dX3_parseFact_32 : decode cX3_parseFact 32 = .ok (.aload_n 0, 1) := by decide +kernel
theorem dX3_parseFact_33 : decode cX3_parseFact 33 = .ok (.getfield 15, 3) := by decide +kernel
theorem dX3_parseFact_36 : decode cX3_parseFact 36 = .ok (.bipush 91, 2) := by decide +kernel
theorem dX3_parseFact_38 : decode cX3_parseFact 38 = .ok (.invokevirtual 178, 3) := by decide +kernel
theorem dX3_parseFact_41 : decode cX3_parseFact 41 = .ok (.ifCond .eq 32, 3) := by decide +kernel
theorem dX3_parseFact_44 : decode cX3_parseFact 44 = .ok (.aload_n 0, 1) := by decide +kernel
theorem dX3_parseFact_45 : decode cX3_parseFact 45 = .ok (.invokevirtual 172, 3) := by decide +kernel
theorem dX3_parseFact_48 : decode cX3_parseFact 48 = .ok (.ifCond .eq 23, 3) := by decide +kernel
theorem dX3_parseFact_51 : decode cX3_parseFact 51 = .ok (.aload_n 0, 1) := by decide +kernel
theorem dX3_parseFact_52 : decode cX3_parseFact 52 = .ok (.invokevirtual 104, 3) := by decide +kernel
theorem dX3_parseFact_55 : decode cX3_parseFact 55 = .ok (.ifCond .eq 16, 3) := by decide +kernel
theorem dX3_parseFact_58 : decode cX3_parseFact 58 = .ok (.aload_n 0, 1) := by decide +kernel
theorem dX3_parseFact_59 : decode cX3_parseFact 59 = .ok (.bipush 93, 2) := by decide +kernel
theorem dX3_parseFact_61 : decode cX3_parseFact 61 = .ok (.invokevirtual 181, 3) := by decide +kernel
theorem dX3_parseFact_64 : decode cX3_parseFact 64 = .ok (.ifCond .eq 7, 3) := by decide +kernel
theorem dX3_parseFact_67 : decode cX3_parseFact 67 = .ok (.iconst 1, 1) := by decide +kernel
theorem dX3_parseFact_68 : decode cX3_parseFact 68 = .ok (.goto 4, 3) := by decide +kernel
theorem dX3_parseFact_71 : decode cX3_parseFact 71 = .ok (.iconst 0, 1) := by decide +kernel
theorem dX3_parseFact_72 : decode cX3_parseFact 72 = .ok (.ireturn, 1) := by decide +kernel
theorem dX3_parseFact_73 : decode cX3_parseFact 73 = .ok (.aload_n 0, 1) := by decide +kernel
theorem dX3_parseFact_74 : decode cX3_parseFact 74 = .ok (.getfield 15, 3) := by decide +kernel
theorem dX3_parseFact_77 : decode cX3_parseFact 77 = .ok (.bipush 22, 2) := by decide +kernel
theorem dX3_parseFact_79 : decode cX3_parseFact 79 = .ok (.invokevirtual 132, 3) := by decide +kernel
theorem dX3_parseFact_82 : decode cX3_parseFact 82 = .ok (.ifCond .eq 20, 3) := by decide +kernel
theorem dX3_parseFact_85 : decode cX3_parseFact 85 = .ok (.aload_n 0, 1) := by decide +kernel
theorem dX3_parseFact_86 : decode cX3_parseFact 86 = .ok (.getfield 15, 3) := by decide +kernel
theorem dX3_parseFact_89 : decode cX3_parseFact 89 = .ok (.invokevirtual 74, 3) := by decide +kernel
theorem dX3_parseFact_92 : decode cX3_parseFact 92 = .ok (.aload_n 0, 1) := by decide +kernel
theorem dX3_parseFact_93 : decode cX3_parseFact 93 = .ok (.getfield 19, 3) := by decide +kernel
theorem dX3_parseFact_96 : decode cX3_parseFact 96 = .ok (.iconst 1, 1) := by decide +kernel
theorem dX3_parseFact_97 : decode cX3_parseFact 97 = .ok (.invokevirtual 165, 3) := by decide +kernel
theorem dX3_parseFact_100 : decode cX3_parseFact 100 = .ok (.iconst 1, 1) := by decide +kernel
theorem dX3_parseFact_101 : decode cX3_parseFact 101 = .ok (.ireturn, 1) := by decide +kernel
theorem dX3_parseFact_102 : decode cX3_parseFact 102 = .ok (.aload_n 0, 1) := by decide +kernel
theorem dX3_parseFact_103 : decode cX3_parseFact 103 = .ok (.invokevirtual 98, 3) := by decide +kernel
theorem dX3_parseFact_106 : decode cX3_parseFact 106 = .ok (.ifCond .ne 5, 3) := by decide +kernel
theorem dX3_parseFact_109 : decode cX3_parseFact 109 = .ok (.iconst 0, 1) := by decide +kernel
theorem dX3_parseFact_110 : decode cX3_parseFact 110 = .ok (.ireturn, 1) := by decide +kernel
theorem dX3_parseFact_111 : decode cX3_parseFact 111 = .ok (.aload_n 0, 1) := by decide +kernel
theorem dX3_parseFact_112 : decode cX3_parseFact 112 = .ok (.invokevirtual 184, 3) := by decide +kernel
theorem dX3_parseFact_115 : decode cX3_parseFact 115 = .ok (.istore_n 1, 1) := by decide +kernel
theorem dX3_parseFact_116 : decode cX3_parseFact 116 = .ok (.iload_n 1, 1) := by decide +kernel
theorem dX3_parseFact_117 : decode cX3_parseFact 117 = .ok (.invokestatic 188, 3) := by decide +kernel
theorem dX3_parseFact_120 : decode cX3_parseFact 120 = .ok (.ifCond .ne 8, 3) := by decide +kernel
theorem dX3_parseFact_123 : decode cX3_parseFact 123 = .ok (.aload_n 0, 1) := by decide +kernel
theorem dX3_parseFact_124 : decode cX3_parseFact 124 = .ok (.invokevirtual 67, 3) := by decide +kernel
theorem dX3_parseFact_127 : decode cX3_parseFact 127 = .ok (.ireturn, 1) := by decide +kernel
theorem dX3_parseFact_128 : decode cX3_parseFact 128 = .ok (.aload_n 0, 1) := by decide +kernel
theorem dX3_parseFact_129 : decode cX3_parseFact 129 = .ok (.getfield 15, 3) := by decide +kernel
theorem dX3_parseFact_132 : decode cX3_parseFact 132 = .ok (.invokevirtual 74, 3) := by decide +kernel
theorem dX3_parseFact_135 : decode cX3_parseFact 135 = .ok (.aload_n 0, 1) := by decide +kernel
theorem dX3_parseFact_136 : decode cX3_parseFact 136 = .ok (.invokevirtual 98, 3) := by decide +kernel
theorem dX3_parseFact_139 : decode cX3_parseFact 139 = .ok (.istore_n 2, 1) := by decide +kernel
theorem dX3_parseFact_140 : decode cX3_parseFact 140 = .ok (.aload_n 0, 1) := by decide +kernel
theorem dX3_parseFact_141 : decode cX3_parseFact 141 = .ok (.getfield 19, 3) := by decide +kernel
theorem dX3_parseFact_144 : decode cX3_parseFact 144 = .ok (.iload_n 1, 1) := by decide +kernel
theorem dX3_parseFact_145 : decode cX3_parseFact 145 = .ok (.invokevirtual 165, 3) := by decide +kernel
theorem dX3_parseFact_148 : decode cX3_parseFact 148 = .ok (.iload_n 2, 1) := by decide +kernel
theorem dX3_parseFact_149 : decode cX3_parseFact 149 = .ok (.ireturn, 1) := by decide +kernel
theorem dX3_parseNegated_0 : decode cX3_parseNegated 0 = .ok (.aload_n 0, 1) := by decide +kernel
theorem dX3_parseNegated_1 : decode cX3_parseNegated 1 = .ok (.invokevirtual 169, 3) := by decide +kernel
theorem dX3_parseNegated_4 : decode cX3_parseNegated 4 = .ok (.istore_n 1, 1) := by decide +kernel
theorem dX3_parseNegated_5 : decode cX3_parseNegated 5 = .ok (.aload_n 0, 1) := by decide +kernel
theorem dX3_parseNegated_6 : decode cX3_parseNegated 6 = .ok (.dup, 1) := by decide +kernel
theorem dX3_parseNegated_7 : decode cX3_parseNegated 7 = .ok (.getfield 31, 3) := by decide +kernel
theorem dX3_parseNegated_10 : decode cX3_parseNegated 10 = .ok (.iconst 1, 1) := by decide +kernel
theorem dX3_parseNegated_11 : decode cX3_parseNegated 11 = .ok (.isub, 1) := by decide +kernel
theorem dX3_parseNegated_12 : decode cX3_parseNegated 12 = .ok (.putfield 31, 3) := by decide +kernel
theorem dX3_parseNegated_15 : decode cX3_parseNegated 15 = .ok (.aload_n 0, 1) := by decide +kernel
theorem dX3_parseNegated_16 : decode cX3_parseNegated 16 = .ok (.getfield 19, 3) := by decide +kernel
theorem dX3_parseNegated_19 : decode cX3_parseNegated 19 = .ok (.sipush 10112, 3) := by decide +kernel
theorem dX3_parseNegated_22 : decode cX3_parseNegated 22 = .ok (.invokevirtual 165, 3) := by decide +kernel
theorem dX3_parseNegated_25 : decode cX3_parseNegated 25 = .ok (.iload_n 1, 1) := by decide +kernel
theorem dX3_parseNegated_26 : decode cX3_parseNegated 26 = .ok (.ireturn, 1) := by decide +kernel
theorem dX3_parseSum_0 : decode cX3_parseSum 0 = .ok (.aload_n 0, 1) := by decide +kernel
theorem dX3_parseSum_1 : decode cX3_parseSum 1 = .ok (.invokevirtual 191, 3) := by decide +kernel
theorem dX3_parseSum_4 : decode cX3_parseSum 4 = .ok (.istore_n 1, 1) := by decide +kernel
theorem dX3_parseSum_5 : decode cX3_parseSum 5 = .ok (.iconst 0, 1) := by decide +kernel
theorem dX3_parseSum_6 : decode cX3_parseSum 6 = .ok (.istore_n 2, 1) := by decide +kernel
theorem dX3_parseSum_7 : decode cX3_parseSum 7 = .ok (.iload_n 2, 1) := by decide +kernel
theorem dX3_parseSum_8 : decode cX3_parseSum 8 = .ok (.sipush 1600, 3) := by decide +kernel
theorem dX3_parseSum_11 : decode cX3_parseSum 11 = .ok (.if_icmp .ge 48, 3) := by decide +kernel
theorem dX3_parseSum_14 : decode cX3_parseSum 14 = .ok (.iload_n 1, 1) := by decide +kernel
theorem dX3_parseSum_15 : decode cX3_parseSum 15 = .ok (.ifCond .eq 44, 3) := by decide +kernel
theorem dX3_parseSum_18 : decode cX3_parseSum 18 = .ok (.aload_n 0, 1) := by decide +kernel
theorem dX3_parseSum_19 : decode cX3_parseSum 19 = .ok (.invokevirtual 184, 3) := by decide +kernel
theorem dX3_parseSum_22 : decode cX3_parseSum 22 = .ok (.invokestatic 194, 3) := by decide +kernel
theorem dX3_parseSum_25 : decode cX3_parseSum 25 = .ok (.ifCond .eq 34, 3) := by decide +kernel
theorem dX3_parseSum_28 : decode cX3_parseSum 28 = .ok (.aload_n 0, 1) := by decide +kernel
theorem dX3_parseSum_29 : decode cX3_parseSum 29 = .ok (.invokevirtual 184, 3) := by decide +kernel
theorem dX3_parseSum_32 : decode cX3_parseSum 32 = .ok (.istore_n 3, 1) := by decide +kernel
theorem dX3_parseSum_33 : decode cX3_parseSum 33 = .ok (.aload_n 0, 1) := by decide +kernel
theorem dX3_parseSum_34 : decode cX3_parseSum 34 = .ok (.getfield 15, 3) := by decide +kernel
theorem dX3_parseSum_37 : decode cX3_parseSum 37 = .ok (.invokevirtual 74, 3) := by decide +kernel
theorem dX3_parseSum_40 : decode cX3_parseSum 40 = .ok (.aload_n 0, 1) := by decide +kernel
theorem dX3_parseSum_41 : decode cX3_parseSum 41 = .ok (.invokevirtual 191, 3) := by decide +kernel
theorem dX3_parseSum_44 : decode cX3_parseSum 44 = .ok (.istore_n 1, 1) := by decide +kernel
theorem dX3_parseSum_45 : decode cX3_parseSum 45 = .ok (.aload_n 0, 1) := by decide +kernel
theorem dX3_parseSum_46 : decode cX3_parseSum 46 = .ok (.getfield 19, 3) := by decide +kernel
theorem dX3_parseSum_49 : decode cX3_parseSum 49 = .ok (.iload_n 3, 1) := by decide +kernel
theorem dX3_parseSum_50 : decode cX3_parseSum 50 = .ok (.invokevirtual 165, 3) := by decide +kernel
theorem dX3_parseSum_53 : decode cX3_parseSum 53 = .ok (.iinc 2 1, 3) := by decide +kernel
theorem dX3_parseSum_56 : decode cX3_parseSum 56 = .ok (.goto (-49), 3) := by decide +kernel
theorem dX3_parseSum_59 : decode cX3_parseSum 59 = .ok (.iload_n 1, 1) := by decide +kernel
theorem dX3_parseSum_60 : decode cX3_parseSum 60 = .ok (.ireturn, 1) := by decide +kernel
theorem dX3_parseProduct_0 : decode cX3_parseProduct 0 = .ok (.aload_n 0, 1) := by decide +kernel
theorem dX3_parseProduct_1 : decode cX3_parseProduct 1 = .ok (.invokevirtual 197, 3) := by decide +kernel
theorem dX3_parseProduct_4 : decode cX3_parseProduct 4 = .ok (.istore_n 1, 1) := by decide +kernel
theorem dX3_parseProduct_5 : decode cX3_parseProduct 5 = .ok (.iconst 0, 1) := by decide +kernel
theorem dX3_parseProduct_6 : decode cX3_parseProduct 6 = .ok (.istore_n 2, 1) := by decide +kernel
theorem dX3_parseProduct_7 : decode cX3_parseProduct 7 = .ok (.iload_n 2, 1) := by decide +kernel
theorem dX3_parseProduct_8 : decode cX3_parseProduct 8 = .ok (.sipush 1600, 3) := by decide +kernel
theorem dX3_parseProduct_11 : decode cX3_parseProduct 11 = .ok (.if_icmp .ge 48, 3) := by decide +kernel
theorem dX3_parseProduct_14 : decode cX3_parseProduct 14 = .ok (.iload_n 1, 1) := by decide +kernel
theorem dX3_parseProduct_15 : decode cX3_parseProduct 15 = .ok (.ifCond .eq 44, 3) := by decide +kernel
theorem dX3_parseProduct_18 : decode cX3_parseProduct 18 = .ok (.aload_n 0, 1) := by decide +kernel
theorem dX3_parseProduct_19 : decode cX3_parseProduct 19 = .ok (.invokevirtual 184, 3) := by decide +kernel
theorem dX3_parseProduct_22 : decode cX3_parseProduct 22 = .ok (.invokestatic 200, 3) := by decide +kernel
theorem dX3_parseProduct_25 : decode cX3_parseProduct 25 = .ok (.ifCond .eq 34, 3) := by decide +kernel
theorem dX3_parseProduct_28 : decode cX3_parseProduct 28 = .ok (.aload_n 0, 1) := by decide +kernel
theorem dX3_parseProduct_29 : decode cX3_parseProduct 29 = .ok (.invokevirtual 184, 3) := by decide +kernel
theorem dX3_parseProduct_32 : decode cX3_parseProduct 32 = .ok (.istore_n 3, 1) := by decide +kernel
theorem dX3_parseProduct_33 : decode cX3_parseProduct 33 = .ok (.aload_n 0, 1) := by decide +kernel
theorem dX3_parseProduct_34 : decode cX3_parseProduct 34 = .ok (.getfield 15, 3) := by decide +kernel
theorem dX3_parseProduct_37 : decode cX3_parseProduct 37 = .ok (.invokevirtual 74, 3) := by decide +kernel
theorem dX3_parseProduct_40 : decode cX3_parseProduct 40 = .ok (.aload_n 0, 1) := by decide +kernel
theorem dX3_parseProduct_41 : decode cX3_parseProduct 41 = .ok (.invokevirtual 197, 3) := by decide +kernel
theorem dX3_parseProduct_44 : decode cX3_parseProduct 44 = .ok (.istore_n 1, 1) := by decide +kernel
theorem dX3_parseProduct_45 : decode cX3_parseProduct 45 = .ok (.aload_n 0, 1) := by decide +kernel
theorem dX3_parseProduct_46 : decode cX3_parseProduct 46 = .ok (.getfield 19, 3) := by decide +kernel
theorem dX3_parseProduct_49 : decode cX3_parseProduct 49 = .ok (.iload_n 3, 1) := by decide +kernel
theorem dX3_parseProduct_50 : decode cX3_parseProduct 50 = .ok (.invokevirtual 165, 3) := by decide +kernel
theorem dX3_parseProduct_53 : decode cX3_parseProduct 53 = .ok (.iinc 2 1, 3) := by decide +kernel
theorem dX3_parseProduct_56 : decode cX3_parseProduct 56 = .ok (.goto (-49), 3) := by decide +kernel
theorem dX3_parseProduct_59 : decode cX3_parseProduct 59 = .ok (.iload_n 1, 1) := by decide +kernel
theorem dX3_parseProduct_60 : decode cX3_parseProduct 60 = .ok (.ireturn, 1) := by decide +kernel
theorem dX3_parsePart_0 : decode cX3_parsePart 0 = .ok (.aload_n 0, 1) := by decide +kernel
theorem dX3_parsePart_1 : decode cX3_parsePart 1 = .ok (.getfield 15, 3) := by decide +kernel
theorem dX3_parsePart_4 : decode cX3_parsePart 4 = .ok (.getfield 39, 3) := by decide +kernel
theorem dX3_parsePart_7 : decode cX3_parsePart 7 = .ok (.iconst 3, 1) := by decide +kernel
theorem dX3_parsePart_8 : decode cX3_parsePart 8 = .ok (.if_icmp .ne 26, 3) := by decide +kernel
theorem dX3_parsePart_11 : decode cX3_parsePart 11 = .ok (.aload_n 0, 1) := by decide +kernel
theorem dX3_parsePart_12 : decode cX3_parsePart 12 = .ok (.getfield 19, 3) := by decide +kernel
theorem dX3_parsePart_15 : decode cX3_parsePart 15 = .ok (.aload_n 0, 1) := by decide +kernel
theorem dX3_parsePart_16 : decode cX3_parsePart 16 = .ok (.getfield 15, 3) := by decide +kernel
theorem dX3_parsePart_19 : decode cX3_parsePart 19 = .ok (.getfield 60, 3) := by decide +kernel
theorem dX3_parsePart_22 : decode cX3_parsePart 22 = .ok (.invokevirtual 165, 3) := by decide +kernel
theorem dX3_parsePart_25 : decode cX3_parsePart 25 = .ok (.aload_n 0, 1) := by decide +kernel
theorem dX3_parsePart_26 : decode cX3_parsePart 26 = .ok (.getfield 15, 3) := by decide +kernel
theorem dX3_parsePart_29 : decode cX3_parsePart 29 = .ok (.invokevirtual 74, 3) := by decide +kernel
theorem dX3_parsePart_32 : decode cX3_parsePart 32 = .ok (.iconst 1, 1) := by decide +kernel
theorem dX3_parsePart_33 : decode cX3_parsePart 33 = .ok (.ireturn, 1) := by decide +kernel
theorem dX3_parsePart_34 : decode cX3_parsePart 34 = .ok (.aload_n 0, 1) := by decide +kernel
theorem dX3_parsePart_35 : decode cX3_parsePart 35 = .ok (.getfield 15, 3) := by decide +kernel
theorem dX3_parsePart_38 : decode cX3_parsePart 38 = .ok (.bipush 40, 2) := by decide +kernel
theorem dX3_parsePart_40 : decode cX3_parsePart 40 = .ok (.invokevirtual 178, 3) := by decide +kernel
theorem dX3_parsePart_43 : decode cX3_parsePart 43 = .ok (.ifCond .eq 32, 3) := by decide +kernel
theorem dX3_parsePart_46 : decode cX3_parsePart 46 = .ok (.aload_n 0, 1) := by decide +kernel
theorem dX3_parsePart_47 : decode cX3_parsePart 47 = .ok (.invokevirtual 172, 3) := by decide +kernel
theorem dX3_parsePart_50 : decode cX3_parsePart 50 = .ok (.ifCond .eq 23, 3) := by decide +kernel
theorem dX3_parsePart_53 : decode cX3_parsePart 53 = .ok (.aload_n 0, 1) := by decide +kernel
theorem dX3_parsePart_54 : decode cX3_parsePart 54 = .ok (.invokevirtual 98, 3) := by decide +kernel
theorem dX3_parsePart_57 : decode cX3_parsePart 57 = .ok (.ifCond .eq 16, 3) := by decide +kernel
theorem dX3_parsePart_60 : decode cX3_parsePart 60 = .ok (.aload_n 0, 1) := by decide +kernel
theorem dX3_parsePart_61 : decode cX3_parsePart 61 = .ok (.bipush 41, 2) := by decide +kernel
theorem dX3_parsePart_63 : decode cX3_parsePart 63 = .ok (.invokevirtual 181, 3) := by decide +kernel
theorem dX3_parsePart_66 : decode cX3_parsePart 66 = .ok (.ifCond .eq 7, 3) := by decide +kernel
theorem dX3_parsePart_69 : decode cX3_parsePart 69 = .ok (.iconst 1, 1) := by decide +kernel
theorem dX3_parsePart_70 : decode cX3_parsePart 70 = .ok (.goto 4, 3) := by decide +kernel
theorem dX3_parsePart_73 : decode cX3_parsePart 73 = .ok (.iconst 0, 1) := by decide +kernel
theorem dX3_parsePart_74 : decode cX3_parsePart 74 = .ok (.ireturn, 1) := by decide +kernel
theorem dX3_parsePart_75 : decode cX3_parsePart 75 = .ok (.aload_n 0, 1) := by decide +kernel
theorem dX3_parsePart_76 : decode cX3_parsePart 76 = .ok (.getfield 15, 3) := by decide +kernel
theorem dX3_parsePart_79 : decode cX3_parsePart 79 = .ok (.getfield 39, 3) := by decide +kernel
theorem dX3_parsePart_82 : decode cX3_parsePart 82 = .ok (.iconst 2, 1) := by decide +kernel
theorem dX3_parsePart_83 : decode cX3_parsePart 83 = .ok (.if_icmp .ne 13, 3) := by decide +kernel
theorem dX3_parsePart_86 : decode cX3_parsePart 86 = .ok (.aload_n 0, 1) := by decide +kernel
theorem dX3_parsePart_87 : decode cX3_parsePart 87 = .ok (.getfield 15, 3) := by decide +kernel
theorem dX3_parsePart_90 : decode cX3_parsePart 90 = .ok (.getfield 60, 3) := by decide +kernel
theorem dX3_parsePart_93 : decode cX3_parsePart 93 = .ok (.goto 4, 3) := by decide +kernel
theorem dX3_parsePart_96 : decode cX3_parsePart 96 = .ok (.iconst (-1), 1) := by decide +kernel
theorem dX3_parsePart_97 : decode cX3_parsePart 97 = .ok (.istore_n 1, 1) := by decide +kernel
theorem dX3_parsePart_98 : decode cX3_parsePart 98 = .ok (.iload_n 1, 1) := by decide +kernel
theorem dX3_parsePart_99 : decode cX3_parsePart 99 = .ok (.bipush 23, 2) := by decide +kernel
theorem dX3_parsePart_101 : decode cX3_parsePart 101 = .ok (.if_icmp .eq 9, 3) := by decide +kernel
theorem dX3_parsePart_104 : decode cX3_parsePart 104 = .ok (.iload_n 1, 1) := by decide +kernel
theorem dX3_parsePart_105 : decode cX3_parsePart 105 = .ok (.bipush 24, 2) := by decide +kernel
theorem dX3_parsePart_107 : decode cX3_parsePart 107 = .ok (.if_icmp .ne 96, 3) := by decide +kernel
theorem dX3_parsePart_110 : decode cX3_parsePart 110 = .ok (.aload_n 0, 1) := by decide +kernel
theorem dX3_parsePart_111 : decode cX3_parsePart 111 = .ok (.getfield 15, 3) := by decide +kernel
theorem dX3_parsePart_114 : decode cX3_parsePart 114 = .ok (.invokevirtual 74, 3) := by decide +kernel
theorem dX3_parsePart_117 : decode cX3_parsePart 117 = .ok (.aload_n 0, 1) := by decide +kernel
theorem dX3_parsePart_118 : decode cX3_parsePart 118 = .ok (.getfield 15, 3) := by decide +kernel
theorem dX3_parsePart_121 : decode cX3_parsePart 121 = .ok (.bipush 40, 2) := by decide +kernel
theorem dX3_parsePart_123 : decode cX3_parsePart 123 = .ok (.invokevirtual 178, 3) := by decide +kernel
theorem dX3_parsePart_126 : decode cX3_parsePart 126 = .ok (.ifCond .ne 8, 3) := by decide +kernel
theorem dX3_parsePart_129 : decode cX3_parsePart 129 = .ok (.aload_n 0, 1) := by decide +kernel
theorem dX3_parsePart_130 : decode cX3_parsePart 130 = .ok (.invokevirtual 67, 3) := by decide +kernel
theorem dX3_parsePart_133 : decode cX3_parsePart 133 = .ok (.ireturn, 1) := by decide +kernel
theorem dX3_parsePart_134 : decode cX3_parsePart 134 = .ok (.aload_n 0, 1) := by decide +kernel
theorem dX3_parsePart_135 : decode cX3_parsePart 135 = .ok (.invokevirtual 172, 3) := by decide +kernel
theorem dX3_parsePart_138 : decode cX3_parsePart 138 = .ok (.ifCond .eq 39, 3) := by decide +kernel
theorem dX3_parsePart_141 : decode cX3_parsePart 141 = .ok (.aload_n 0, 1) := by decide +kernel
theorem dX3_parsePart_142 : decode cX3_parsePart 142 = .ok (.invokevirtual 98, 3) := by decide +kernel
theorem dX3_parsePart_145 : decode cX3_parsePart 145 = .ok (.ifCond .eq 32, 3) := by decide +kernel
theorem dX3_parsePart_148 : decode cX3_parsePart 148 = .ok (.aload_n 0, 1) := by decide +kernel
theorem dX3_parsePart_149 : decode cX3_parsePart 149 = .ok (.bipush 44, 2) := by decide +kernel
theorem dX3_parsePart_151 : decode cX3_parsePart 151 = .ok (.invokevirtual 107, 3) := by decide +kernel
theorem dX3_parsePart_154 : decode cX3_parsePart 154 = .ok (.ifCond .eq 23, 3) := by decide +kernel
theorem dX3_parsePart_157 : decode cX3_parsePart 157 = .ok (.aload_n 0, 1) := by decide +kernel
theorem dX3_parsePart_158 : decode cX3_parsePart 158 = .ok (.invokevirtual 98, 3) := by decide +kernel
theorem dX3_parsePart_161 : decode cX3_parsePart 161 = .ok (.ifCond .eq 16, 3) := by decide +kernel
theorem dX3_parsePart_164 : decode cX3_parsePart 164 = .ok (.aload_n 0, 1) := by decide +kernel
theorem dX3_parsePart_165 : decode cX3_parsePart 165 = .ok (.bipush 41, 2) := by decide +kernel
theorem dX3_parsePart_167 : decode cX3_parsePart 167 = .ok (.invokevirtual 181, 3) := by decide +kernel
theorem dX3_parsePart_170 : decode cX3_parsePart 170 = .ok (.ifCond .eq 7, 3) := by decide +kernel
theorem dX3_parsePart_173 : decode cX3_parsePart 173 = .ok (.iconst 1, 1) := by decide +kernel
theorem dX3_parsePart_174 : decode cX3_parsePart 174 = .ok (.goto 4, 3) := by decide +kernel
theorem dX3_parsePart_177 : decode cX3_parsePart 177 = .ok (.iconst 0, 1) := by decide +kernel
theorem dX3_parsePart_178 : decode cX3_parsePart 178 = .ok (.istore_n 2, 1) := by decide +kernel
theorem dX3_parsePart_179 : decode cX3_parsePart 179 = .ok (.aload_n 0, 1) := by decide +kernel
theorem dX3_parsePart_180 : decode cX3_parsePart 180 = .ok (.getfield 19, 3) := by decide +kernel
theorem dX3_parsePart_183 : decode cX3_parsePart 183 = .ok (.iload_n 1, 1) := by decide +kernel
theorem dX3_parsePart_184 : decode cX3_parsePart 184 = .ok (.bipush 23, 2) := by decide +kernel
theorem dX3_parsePart_186 : decode cX3_parsePart 186 = .ok (.if_icmp .ne 9, 3) := by decide +kernel
theorem dX3_parsePart_189 : decode cX3_parsePart 189 = .ok (.sipush 10105, 3) := by decide +kernel
theorem dX3_parsePart_192 : decode cX3_parsePart 192 = .ok (.goto 6, 3) := by decide +kernel
theorem dX3_parsePart_195 : decode cX3_parsePart 195 = .ok (.sipush 10106, 3) := by decide +kernel
theorem dX3_parsePart_198 : decode cX3_parsePart 198 = .ok (.invokevirtual 165, 3) := by decide +kernel
theorem dX3_parsePart_201 : decode cX3_parsePart 201 = .ok (.iload_n 2, 1) := by decide +kernel
theorem dX3_parsePart_202 : decode cX3_parsePart 202 = .ok (.ireturn, 1) := by decide +kernel
theorem dX3_parsePart_203 : decode cX3_parsePart 203 = .ok (.iload_n 1, 1) := by decide +kernel
theorem dX3_parsePart_204 : decode cX3_parsePart 204 = .ok (.invokestatic 203, 3) := by decide +kernel
theorem dX3_parsePart_207 : decode cX3_parsePart 207 = .ok (.ifCond .ne 8, 3) := by decide +kernel
theorem dX3_parsePart_210 : decode cX3_parsePart 210 = .ok (.aload_n 0, 1) := by decide +kernel
theorem dX3_parsePart_211 : decode cX3_parsePart 211 = .ok (.invokevirtual 67, 3) := by decide +kernel
theorem dX3_parsePart_214 : decode cX3_parsePart 214 = .ok (.ireturn, 1) := by decide +kernel
theorem dX3_parsePart_215 : decode cX3_parsePart 215 = .ok (.aload_n 0, 1) := by decide +kernel
theorem dX3_parsePart_216 : decode cX3_parsePart 216 = .ok (.getfield 19, 3) := by decide +kernel
theorem dX3_parsePart_219 : decode cX3_parsePart 219 = .ok (.sipush 10000, 3) := by decide +kernel
theorem dX3_parsePart_222 : decode cX3_parsePart 222 = .ok (.iload_n 1, 1) := by decide +kernel
theorem dX3_parsePart_223 : decode cX3_parsePart 223 = .ok (.iadd, 1) := by decide +kernel
theorem dX3_parsePart_224 : decode cX3_parsePart 224 = .ok (.invokevirtual 165, 3) := by decide +kernel
theorem dX3_parsePart_227 : decode cX3_parsePart 227 = .ok (.aload_n 0, 1) := by decide +kernel
theorem dX3_parsePart_228 : decode cX3_parsePart 228 = .ok (.getfield 15, 3) := by decide +kernel
theorem dX3_parsePart_231 : decode cX3_parsePart 231 = .ok (.invokevirtual 74, 3) := by decide +kernel
theorem dX3_parsePart_234 : decode cX3_parsePart 234 = .ok (.iconst 1, 1) := by decide +kernel
theorem dX3_parsePart_235 : decode cX3_parsePart 235 = .ok (.ireturn, 1) := by decide +kernel
theorem dX3_isValue_0 : decode cX3_isValue 0 = .ok (.iload_n 0, 1) := by decide +kernel
theorem dX3_isValue_1 : decode cX3_isValue 1 = .ok (.tableswitch 81 3 18 #[79, 81, 81, 81, 79, 79, 81, 79, 79, 81, 81, 81, 79, 79, 79, 79], 79) := by decide +kernel
theorem dX3_isValue_80 : decode cX3_isValue 80 = .ok (.iconst 1, 1) := by decide +kernel
theorem dX3_isValue_81 : decode cX3_isValue 81 = .ok (.ireturn, 1) := by decide +kernel
theorem dX3_isValue_82 : decode cX3_isValue 82 = .ok (.iconst 0, 1) := by decide +kernel
theorem dX3_isValue_83 : decode cX3_isValue 83 = .ok (.ireturn, 1) := by decide +kernel
theorem dX3_signOperator_0 : decode cX3_signOperator 0 = .ok (.aload_n 0, 1) := by decide +kernel
theorem dX3_signOperator_1 : decode cX3_signOperator 1 = .ok (.getfield 15, 3) := by decide +kernel
theorem dX3_signOperator_4 : decode cX3_signOperator 4 = .ok (.getfield 39, 3) := by decide +kernel
theorem dX3_signOperator_7 : decode cX3_signOperator 7 = .ok (.iconst 4, 1) := by decide +kernel
theorem dX3_signOperator_8 : decode cX3_signOperator 8 = .ok (.if_icmp .eq 5, 3) := by decide +kernel
theorem dX3_signOperator_11 : decode cX3_signOperator 11 = .ok (.iconst (-1), 1) := by decide +kernel
theorem dX3_signOperator_12 : decode cX3_signOperator 12 = .ok (.ireturn, 1) := by decide +kernel
theorem dX3_signOperator_13 : decode cX3_signOperator 13 = .ok (.aload_n 0, 1) := by decide +kernel
theorem dX3_signOperator_14 : decode cX3_signOperator 14 = .ok (.getfield 15, 3) := by decide +kernel
theorem dX3_signOperator_17 : decode cX3_signOperator 17 = .ok (.getfield 60, 3) := by decide +kernel
theorem dX3_signOperator_20 : decode cX3_signOperator 20 = .ok (.tableswitch 152 37 62 #[136, 152, 152, 152, 152, 128, 120, 152, 124, 152, 132, 152, 152, 152, 152, 152, 152, 152, 152, 152, 152, 152, 152, 140, 148, 144], 120) := by decide +kernel
theorem dX3_signOperator_140 : decode cX3_signOperator 140 = .ok (.sipush 10100, 3) := by decide +kernel
theorem dX3_signOperator_143 : decode cX3_signOperator 143 = .ok (.ireturn, 1) := by decide +kernel
theorem dX3_signOperator_144 : decode cX3_signOperator 144 = .ok (.sipush 10101, 3) := by decide +kernel
theorem dX3_signOperator_147 : decode cX3_signOperator 147 = .ok (.ireturn, 1) := by decide +kernel
theorem dX3_signOperator_148 : decode cX3_signOperator 148 = .ok (.sipush 10102, 3) := by decide +kernel
theorem dX3_signOperator_151 : decode cX3_signOperator 151 = .ok (.ireturn, 1) := by decide +kernel
theorem dX3_signOperator_152 : decode cX3_signOperator 152 = .ok (.sipush 10103, 3) := by decide +kernel
theorem dX3_signOperator_155 : decode cX3_signOperator 155 = .ok (.ireturn, 1) := by decide +kernel
theorem dX3_signOperator_156 : decode cX3_signOperator 156 = .ok (.sipush 10104, 3) := by decide +kernel
theorem dX3_signOperator_159 : decode cX3_signOperator 159 = .ok (.ireturn, 1) := by decide +kernel
theorem dX3_signOperator_160 : decode cX3_signOperator 160 = .ok (.sipush 10107, 3) := by decide +kernel
theorem dX3_signOperator_163 : decode cX3_signOperator 163 = .ok (.ireturn, 1) := by decide +kernel
theorem dX3_signOperator_164 : decode cX3_signOperator 164 = .ok (.sipush 10108, 3) := by decide +kernel
theorem dX3_signOperator_167 : decode cX3_signOperator 167 = .ok (.ireturn, 1) := by decide +kernel
theorem dX3_signOperator_168 : decode cX3_signOperator 168 = .ok (.sipush 10109, 3) := by decide +kernel
theorem dX3_signOperator_171 : decode cX3_signOperator 171 = .ok (.ireturn, 1) := by decide +kernel
theorem dX3_signOperator_172 : decode cX3_signOperator 172 = .ok (.iconst (-1), 1) := by decide +kernel
theorem dX3_signOperator_173 : decode cX3_signOperator 173 = .ok (.ireturn, 1) := by decide +kernel
theorem dX3_isSumOperator_0 : decode cX3_isSumOperator 0 = .ok (.iload_n 0, 1) := by decide +kernel
theorem dX3_isSumOperator_1 : decode cX3_isSumOperator 1 = .ok (.sipush 10100, 3) := by decide +kernel
theorem dX3_isSumOperator_4 : decode cX3_isSumOperator 4 = .ok (.if_icmp .eq 10, 3) := by decide +kernel
theorem dX3_isSumOperator_7 : decode cX3_isSumOperator 7 = .ok (.iload_n 0, 1) := by decide +kernel
theorem dX3_isSumOperator_8 : decode cX3_isSumOperator 8 = .ok (.sipush 10101, 3) := by decide +kernel
theorem dX3_isSumOperator_11 : decode cX3_isSumOperator 11 = .ok (.if_icmp .ne 7, 3) := by decide +kernel
theorem dX3_isSumOperator_14 : decode cX3_isSumOperator 14 = .ok (.iconst 1, 1) := by decide +kernel
theorem dX3_isSumOperator_15 : decode cX3_isSumOperator 15 = .ok (.goto 4, 3) := by decide +kernel
theorem dX3_isSumOperator_18 : decode cX3_isSumOperator 18 = .ok (.iconst 0, 1) := by decide +kernel
theorem dX3_isSumOperator_19 : decode cX3_isSumOperator 19 = .ok (.ireturn, 1) := by decide +kernel
theorem dX3_isProductOperator_0 : decode cX3_isProductOperator 0 = .ok (.iload_n 0, 1) := by decide +kernel
theorem dX3_isProductOperator_1 : decode cX3_isProductOperator 1 = .ok (.sipush 10102, 3) := by decide +kernel
theorem dX3_isProductOperator_4 : decode cX3_isProductOperator 4 = .ok (.if_icmp .eq 17, 3) := by decide +kernel
theorem dX3_isProductOperator_7 : decode cX3_isProductOperator 7 = .ok (.iload_n 0, 1) := by decide +kernel
theorem dX3_isProductOperator_8 : decode cX3_isProductOperator 8 = .ok (.sipush 10103, 3) := by decide +kernel
theorem dX3_isProductOperator_11 : decode cX3_isProductOperator 11 = .ok (.if_icmp .eq 10, 3) := by decide +kernel
theorem dX3_isProductOperator_14 : decode cX3_isProductOperator 14 = .ok (.iload_n 0, 1) := by decide +kernel
theorem dX3_isProductOperator_15 : decode cX3_isProductOperator 15 = .ok (.sipush 10104, 3) := by decide +kernel
theorem dX3_isProductOperator_18 : decode cX3_isProductOperator 18 = .ok (.if_icmp .ne 7, 3) := by decide +kernel
theorem dX3_isProductOperator_21 : decode cX3_isProductOperator 21 = .ok (.iconst 1, 1) := by decide +kernel
theorem dX3_isProductOperator_22 : decode cX3_isProductOperator 22 = .ok (.goto 4, 3) := by decide +kernel
theorem dX3_isProductOperator_25 : decode cX3_isProductOperator 25 = .ok (.iconst 0, 1) := by decide +kernel
theorem dX3_isProductOperator_26 : decode cX3_isProductOperator 26 = .ok (.ireturn, 1) := by decide +kernel
theorem dX3_isTestOperator_0 : decode cX3_isTestOperator 0 = .ok (.iload_n 0, 1) := by decide +kernel
theorem dX3_isTestOperator_1 : decode cX3_isTestOperator 1 = .ok (.sipush 10107, 3) := by decide +kernel
theorem dX3_isTestOperator_4 : decode cX3_isTestOperator 4 = .ok (.if_icmp .eq 17, 3) := by decide +kernel
theorem dX3_isTestOperator_7 : decode cX3_isTestOperator 7 = .ok (.iload_n 0, 1) := by decide +kernel
theorem dX3_isTestOperator_8 : decode cX3_isTestOperator 8 = .ok (.sipush 10108, 3) := by decide +kernel
theorem dX3_isTestOperator_11 : decode cX3_isTestOperator 11 = .ok (.if_icmp .eq 10, 3) := by decide +kernel
theorem dX3_isTestOperator_14 : decode cX3_isTestOperator 14 = .ok (.iload_n 0, 1) := by decide +kernel
theorem dX3_isTestOperator_15 : decode cX3_isTestOperator 15 = .ok (.sipush 10109, 3) := by decide +kernel
theorem dX3_isTestOperator_18 : decode cX3_isTestOperator 18 = .ok (.if_icmp .ne 7, 3) := by decide +kernel
theorem dX3_isTestOperator_21 : decode cX3_isTestOperator 21 = .ok (.iconst 1, 1) := by decide +kernel
theorem dX3_isTestOperator_22 : decode cX3_isTestOperator 22 = .ok (.goto 4, 3) := by decide +kernel
theorem dX3_isTestOperator_25 : decode cX3_isTestOperator 25 = .ok (.iconst 0, 1) := by decide +kernel
theorem dX3_isTestOperator_26 : decode cX3_isTestOperator 26 = .ok (.ireturn, 1) := by decide +kernel
theorem dX3_openOne_0 : decode cX3_openOne 0 = .ok (.aload_n 0, 1) := by decide +kernel
theorem dX3_openOne_1 : decode cX3_openOne 1 = .ok (.getfield 31, 3) := by decide +kernel
theorem dX3_openOne_4 : decode cX3_openOne 4 = .ok (.bipush 7, 2) := by decide +kernel
theorem dX3_openOne_6 : decode cX3_openOne 6 = .ok (.if_icmp .ne 16, 3) := by decide +kernel
theorem dX3_openOne_9 : decode cX3_openOne 9 = .ok (.aload_n 0, 1) := by decide +kernel
theorem dX3_openOne_10 : decode cX3_openOne 10 = .ok (.iconst 5, 1) := by decide +kernel
theorem dX3_openOne_11 : decode cX3_openOne 11 = .ok (.aload_n 0, 1) := by decide +kernel
theorem dX3_openOne_12 : decode cX3_openOne 12 = .ok (.getfield 15, 3) := by decide +kernel
theorem dX3_openOne_15 : decode cX3_openOne 15 = .ok (.getfield 71, 3) := by decide +kernel
theorem dX3_openOne_18 : decode cX3_openOne 18 = .ok (.invokevirtual 53, 3) := by decide +kernel
theorem dX3_openOne_21 : decode cX3_openOne 21 = .ok (.ireturn, 1) := by decide +kernel
theorem dX3_openOne_22 : decode cX3_openOne 22 = .ok (.aload_n 0, 1) := by decide +kernel
theorem dX3_openOne_23 : decode cX3_openOne 23 = .ok (.dup, 1) := by decide +kernel
theorem dX3_openOne_24 : decode cX3_openOne 24 = .ok (.getfield 31, 3) := by decide +kernel
theorem dX3_openOne_27 : decode cX3_openOne 27 = .ok (.iconst 1, 1) := by decide +kernel
theorem dX3_openOne_28 : decode cX3_openOne 28 = .ok (.iadd, 1) := by decide +kernel
theorem dX3_openOne_29 : decode cX3_openOne 29 = .ok (.putfield 31, 3) := by decide +kernel
theorem dX3_openOne_32 : decode cX3_openOne 32 = .ok (.aload_n 0, 1) := by decide +kernel
theorem dX3_openOne_33 : decode cX3_openOne 33 = .ok (.getfield 15, 3) := by decide +kernel
theorem dX3_openOne_36 : decode cX3_openOne 36 = .ok (.invokevirtual 74, 3) := by decide +kernel
theorem dX3_openOne_39 : decode cX3_openOne 39 = .ok (.iconst 1, 1) := by decide +kernel
theorem dX3_openOne_40 : decode cX3_openOne 40 = .ok (.ireturn, 1) := by decide +kernel
theorem dX3_closeOne_0 : decode cX3_closeOne 0 = .ok (.aload_n 0, 1) := by decide +kernel
theorem dX3_closeOne_1 : decode cX3_closeOne 1 = .ok (.dup, 1) := by decide +kernel
theorem dX3_closeOne_2 : decode cX3_closeOne 2 = .ok (.getfield 31, 3) := by decide +kernel
theorem dX3_closeOne_5 : decode cX3_closeOne 5 = .ok (.iconst 1, 1) := by decide +kernel
theorem dX3_closeOne_6 : decode cX3_closeOne 6 = .ok (.isub, 1) := by decide +kernel
theorem dX3_closeOne_7 : decode cX3_closeOne 7 = .ok (.putfield 31, 3) := by decide +kernel
theorem dX3_closeOne_10 : decode cX3_closeOne 10 = .ok (.aload_n 0, 1) := by decide +kernel
theorem dX3_closeOne_11 : decode cX3_closeOne 11 = .ok (.iload_n 1, 1) := by decide +kernel
theorem dX3_closeOne_12 : decode cX3_closeOne 12 = .ok (.invokevirtual 107, 3) := by decide +kernel
theorem dX3_closeOne_15 : decode cX3_closeOne 15 = .ok (.ireturn, 1) := by decide +kernel
theorem dX3_give_0 : decode cX3_give 0 = .ok (.aload_n 0, 1) := by decide +kernel
theorem dX3_give_1 : decode cX3_give 1 = .ok (.getfield 15, 3) := by decide +kernel
theorem dX3_give_4 : decode cX3_give 4 = .ok (.getfield 39, 3) := by decide +kernel
theorem dX3_give_7 : decode cX3_give 7 = .ok (.iconst 1, 1) := by decide +kernel
theorem dX3_give_8 : decode cX3_give 8 = .ok (.if_icmp .eq 8, 3) := by decide +kernel
theorem dX3_give_11 : decode cX3_give 11 = .ok (.aload_n 0, 1) := by decide +kernel
theorem dX3_give_12 : decode cX3_give 12 = .ok (.invokevirtual 67, 3) := by decide +kernel
theorem dX3_give_15 : decode cX3_give 15 = .ok (.ireturn, 1) := by decide +kernel
theorem dX3_give_16 : decode cX3_give 16 = .ok (.iconst 0, 1) := by decide +kernel
theorem dX3_give_17 : decode cX3_give 17 = .ok (.istore_n 2, 1) := by decide +kernel
theorem dX3_give_18 : decode cX3_give 18 = .ok (.iload_n 2, 1) := by decide +kernel
theorem dX3_give_19 : decode cX3_give 19 = .ok (.iconst 4, 1) := by decide +kernel
theorem dX3_give_20 : decode cX3_give 20 = .ok (.if_icmp .ge 38, 3) := by decide +kernel
theorem dX3_give_23 : decode cX3_give 23 = .ok (.aload_n 0, 1) := by decide +kernel
theorem dX3_give_24 : decode cX3_give 24 = .ok (.getfield 19, 3) := by decide +kernel
theorem dX3_give_27 : decode cX3_give 27 = .ok (.iload_n 2, 1) := by decide +kernel
theorem dX3_give_28 : decode cX3_give 28 = .ok (.aload_n 0, 1) := by decide +kernel
theorem dX3_give_29 : decode cX3_give 29 = .ok (.getfield 15, 3) := by decide +kernel
theorem dX3_give_32 : decode cX3_give 32 = .ok (.invokevirtual 206, 3) := by decide +kernel
theorem dX3_give_35 : decode cX3_give 35 = .ok (.iconst (-1), 1) := by decide +kernel
theorem dX3_give_36 : decode cX3_give 36 = .ok (.if_icmp .eq 16, 3) := by decide +kernel
theorem dX3_give_39 : decode cX3_give 39 = .ok (.aload_n 0, 1) := by decide +kernel
theorem dX3_give_40 : decode cX3_give 40 = .ok (.iconst 2, 1) := by decide +kernel
theorem dX3_give_41 : decode cX3_give 41 = .ok (.aload_n 0, 1) := by decide +kernel
theorem dX3_give_42 : decode cX3_give 42 = .ok (.getfield 15, 3) := by decide +kernel
theorem dX3_give_45 : decode cX3_give 45 = .ok (.getfield 71, 3) := by decide +kernel
theorem dX3_give_48 : decode cX3_give 48 = .ok (.invokevirtual 53, 3) := by decide +kernel
theorem dX3_give_51 : decode cX3_give 51 = .ok (.ireturn, 1) := by decide +kernel
theorem dX3_give_52 : decode cX3_give 52 = .ok (.iinc 2 1, 3) := by decide +kernel
theorem dX3_give_55 : decode cX3_give 55 = .ok (.goto (-37), 3) := by decide +kernel
theorem dX3_give_58 : decode cX3_give 58 = .ok (.aload_n 0, 1) := by decide +kernel
theorem dX3_give_59 : decode cX3_give 59 = .ok (.getfield 19, 3) := by decide +kernel
theorem dX3_give_62 : decode cX3_give 62 = .ok (.iload_n 1, 1) := by decide +kernel
theorem dX3_give_63 : decode cX3_give 63 = .ok (.aload_n 0, 1) := by decide +kernel
theorem dX3_give_64 : decode cX3_give 64 = .ok (.getfield 15, 3) := by decide +kernel
theorem dX3_give_67 : decode cX3_give 67 = .ok (.invokevirtual 210, 3) := by decide +kernel
theorem dX3_give_70 : decode cX3_give 70 = .ok (.aload_n 0, 1) := by decide +kernel
theorem dX3_give_71 : decode cX3_give 71 = .ok (.getfield 15, 3) := by decide +kernel
theorem dX3_give_74 : decode cX3_give 74 = .ok (.invokevirtual 74, 3) := by decide +kernel
theorem dX3_give_77 : decode cX3_give 77 = .ok (.iconst 1, 1) := by decide +kernel
theorem dX3_give_78 : decode cX3_give 78 = .ok (.ireturn, 1) := by decide +kernel
theorem dX3_askName_0 : decode cX3_askName 0 = .ok (.aload_n 0, 1) := by decide +kernel
theorem dX3_askName_1 : decode cX3_askName 1 = .ok (.getfield 15, 3) := by decide +kernel
theorem dX3_askName_4 : decode cX3_askName 4 = .ok (.getfield 39, 3) := by decide +kernel
theorem dX3_askName_7 : decode cX3_askName 7 = .ok (.iconst 1, 1) := by decide +kernel
theorem dX3_askName_8 : decode cX3_askName 8 = .ok (.if_icmp .eq 10, 3) := by decide +kernel
theorem dX3_askName_11 : decode cX3_askName 11 = .ok (.aload_n 0, 1) := by decide +kernel
theorem dX3_askName_12 : decode cX3_askName 12 = .ok (.invokevirtual 67, 3) := by decide +kernel
theorem dX3_askName_15 : decode cX3_askName 15 = .ok (.pop, 1) := by decide +kernel
theorem dX3_askName_16 : decode cX3_askName 16 = .ok (.iconst (-1), 1) := by decide +kernel
theorem dX3_askName_17 : decode cX3_askName 17 = .ok (.ireturn, 1) := by decide +kernel
theorem dX3_askName_18 : decode cX3_askName 18 = .ok (.aload_n 0, 1) := by decide +kernel
theorem dX3_askName_19 : decode cX3_askName 19 = .ok (.getfield 19, 3) := by decide +kernel
theorem dX3_askName_22 : decode cX3_askName 22 = .ok (.iload_n 1, 1) := by decide +kernel
theorem dX3_askName_23 : decode cX3_askName 23 = .ok (.aload_n 0, 1) := by decide +kernel
theorem dX3_askName_24 : decode cX3_askName 24 = .ok (.getfield 15, 3) := by decide +kernel
theorem dX3_askName_27 : decode cX3_askName 27 = .ok (.invokevirtual 206, 3) := by decide +kernel
theorem dX3_askName_30 : decode cX3_askName 30 = .ok (.istore_n 2, 1) := by decide +kernel
theorem dX3_askName_31 : decode cX3_askName 31 = .ok (.iload_n 2, 1) := by decide +kernel
theorem dX3_askName_32 : decode cX3_askName 32 = .ok (.iconst (-1), 1) := by decide +kernel
theorem dX3_askName_33 : decode cX3_askName 33 = .ok (.if_icmp .ne 16, 3) := by decide +kernel
theorem dX3_askName_36 : decode cX3_askName 36 = .ok (.aload_n 0, 1) := by decide +kernel
theorem dX3_askName_37 : decode cX3_askName 37 = .ok (.iconst 3, 1) := by decide +kernel
theorem dX3_askName_38 : decode cX3_askName 38 = .ok (.aload_n 0, 1) := by decide +kernel
theorem dX3_askName_39 : decode cX3_askName 39 = .ok (.getfield 15, 3) := by decide +kernel
theorem dX3_askName_42 : decode cX3_askName 42 = .ok (.getfield 71, 3) := by decide +kernel
theorem dX3_askName_45 : decode cX3_askName 45 = .ok (.invokevirtual 53, 3) := by decide +kernel
theorem dX3_askName_48 : decode cX3_askName 48 = .ok (.pop, 1) := by decide +kernel
theorem dX3_askName_49 : decode cX3_askName 49 = .ok (.iload_n 2, 1) := by decide +kernel
theorem dX3_askName_50 : decode cX3_askName 50 = .ok (.ireturn, 1) := by decide +kernel
theorem dX3_askNumber_0 : decode cX3_askNumber 0 = .ok (.aload_n 0, 1) := by decide +kernel
theorem dX3_askNumber_1 : decode cX3_askNumber 1 = .ok (.getfield 15, 3) := by decide +kernel
theorem dX3_askNumber_4 : decode cX3_askNumber 4 = .ok (.getfield 39, 3) := by decide +kernel
theorem dX3_askNumber_7 : decode cX3_askNumber 7 = .ok (.iconst 3, 1) := by decide +kernel
theorem dX3_askNumber_8 : decode cX3_askNumber 8 = .ok (.if_icmp .eq 10, 3) := by decide +kernel
theorem dX3_askNumber_11 : decode cX3_askNumber 11 = .ok (.aload_n 0, 1) := by decide +kernel
theorem dX3_askNumber_12 : decode cX3_askNumber 12 = .ok (.invokevirtual 67, 3) := by decide +kernel
theorem dX3_askNumber_15 : decode cX3_askNumber 15 = .ok (.pop, 1) := by decide +kernel
theorem dX3_askNumber_16 : decode cX3_askNumber 16 = .ok (.iconst (-1), 1) := by decide +kernel
theorem dX3_askNumber_17 : decode cX3_askNumber 17 = .ok (.ireturn, 1) := by decide +kernel
theorem dX3_askNumber_18 : decode cX3_askNumber 18 = .ok (.aload_n 0, 1) := by decide +kernel
theorem dX3_askNumber_19 : decode cX3_askNumber 19 = .ok (.getfield 15, 3) := by decide +kernel
theorem dX3_askNumber_22 : decode cX3_askNumber 22 = .ok (.getfield 60, 3) := by decide +kernel
theorem dX3_askNumber_25 : decode cX3_askNumber 25 = .ok (.istore_n 3, 1) := by decide +kernel
theorem dX3_askNumber_26 : decode cX3_askNumber 26 = .ok (.iload_n 3, 1) := by decide +kernel
theorem dX3_askNumber_27 : decode cX3_askNumber 27 = .ok (.iload_n 1, 1) := by decide +kernel
theorem dX3_askNumber_28 : decode cX3_askNumber 28 = .ok (.if_icmp .lt 8, 3) := by decide +kernel
theorem dX3_askNumber_31 : decode cX3_askNumber 31 = .ok (.iload_n 3, 1) := by decide +kernel
theorem dX3_askNumber_32 : decode cX3_askNumber 32 = .ok (.iload_n 2, 1) := by decide +kernel
theorem dX3_askNumber_33 : decode cX3_askNumber 33 = .ok (.if_icmp .le 18, 3) := by decide +kernel
theorem dX3_askNumber_36 : decode cX3_askNumber 36 = .ok (.aload_n 0, 1) := by decide +kernel
theorem dX3_askNumber_37 : decode cX3_askNumber 37 = .ok (.iconst 4, 1) := by decide +kernel
theorem dX3_askNumber_38 : decode cX3_askNumber 38 = .ok (.aload_n 0, 1) := by decide +kernel
theorem dX3_askNumber_39 : decode cX3_askNumber 39 = .ok (.getfield 15, 3) := by decide +kernel
theorem dX3_askNumber_42 : decode cX3_askNumber 42 = .ok (.getfield 71, 3) := by decide +kernel
theorem dX3_askNumber_45 : decode cX3_askNumber 45 = .ok (.invokevirtual 53, 3) := by decide +kernel
theorem dX3_askNumber_48 : decode cX3_askNumber 48 = .ok (.pop, 1) := by decide +kernel
theorem dX3_askNumber_49 : decode cX3_askNumber 49 = .ok (.iconst (-1), 1) := by decide +kernel
theorem dX3_askNumber_50 : decode cX3_askNumber 50 = .ok (.ireturn, 1) := by decide +kernel
theorem dX3_askNumber_51 : decode cX3_askNumber 51 = .ok (.aload_n 0, 1) := by decide +kernel
theorem dX3_askNumber_52 : decode cX3_askNumber 52 = .ok (.getfield 15, 3) := by decide +kernel
theorem dX3_askNumber_55 : decode cX3_askNumber 55 = .ok (.invokevirtual 74, 3) := by decide +kernel
theorem dX3_askNumber_58 : decode cX3_askNumber 58 = .ok (.iload_n 3, 1) := by decide +kernel
theorem dX3_askNumber_59 : decode cX3_askNumber 59 = .ok (.ireturn, 1) := by decide +kernel
theorem dX3_wantOwn_0 : decode cX3_wantOwn 0 = .ok (.aload_n 0, 1) := by decide +kernel
theorem dX3_wantOwn_1 : decode cX3_wantOwn 1 = .ok (.getfield 15, 3) := by decide +kernel
theorem dX3_wantOwn_4 : decode cX3_wantOwn 4 = .ok (.iload_n 1, 1) := by decide +kernel
theorem dX3_wantOwn_5 : decode cX3_wantOwn 5 = .ok (.invokevirtual 132, 3) := by decide +kernel
theorem dX3_wantOwn_8 : decode cX3_wantOwn 8 = .ok (.ifCond .ne 8, 3) := by decide +kernel
theorem dX3_wantOwn_11 : decode cX3_wantOwn 11 = .ok (.aload_n 0, 1) := by decide +kernel
theorem dX3_wantOwn_12 : decode cX3_wantOwn 12 = .ok (.invokevirtual 67, 3) := by decide +kernel
theorem dX3_wantOwn_15 : decode cX3_wantOwn 15 = .ok (.ireturn, 1) := by decide +kernel
theorem dX3_wantOwn_16 : decode cX3_wantOwn 16 = .ok (.aload_n 0, 1) := by decide +kernel
theorem dX3_wantOwn_17 : decode cX3_wantOwn 17 = .ok (.getfield 15, 3) := by decide +kernel
theorem dX3_wantOwn_20 : decode cX3_wantOwn 20 = .ok (.invokevirtual 74, 3) := by decide +kernel
theorem dX3_wantOwn_23 : decode cX3_wantOwn 23 = .ok (.iconst 1, 1) := by decide +kernel
theorem dX3_wantOwn_24 : decode cX3_wantOwn 24 = .ok (.ireturn, 1) := by decide +kernel
theorem dX3_wantSign_0 : decode cX3_wantSign 0 = .ok (.aload_n 0, 1) := by decide +kernel
theorem dX3_wantSign_1 : decode cX3_wantSign 1 = .ok (.getfield 15, 3) := by decide +kernel
theorem dX3_wantSign_4 : decode cX3_wantSign 4 = .ok (.iload_n 1, 1) := by decide +kernel
theorem dX3_wantSign_5 : decode cX3_wantSign 5 = .ok (.invokevirtual 178, 3) := by decide +kernel
theorem dX3_wantSign_8 : decode cX3_wantSign 8 = .ok (.ifCond .ne 8, 3) := by decide +kernel
theorem dX3_wantSign_11 : decode cX3_wantSign 11 = .ok (.aload_n 0, 1) := by decide +kernel
theorem dX3_wantSign_12 : decode cX3_wantSign 12 = .ok (.invokevirtual 67, 3) := by decide +kernel
theorem dX3_wantSign_15 : decode cX3_wantSign 15 = .ok (.ireturn, 1) := by decide +kernel
theorem dX3_wantSign_16 : decode cX3_wantSign 16 = .ok (.aload_n 0, 1) := by decide +kernel
theorem dX3_wantSign_17 : decode cX3_wantSign 17 = .ok (.getfield 15, 3) := by decide +kernel
theorem dX3_wantSign_20 : decode cX3_wantSign 20 = .ok (.invokevirtual 74, 3) := by decide +kernel
theorem dX3_wantSign_23 : decode cX3_wantSign 23 = .ok (.iconst 1, 1) := by decide +kernel
theorem dX3_wantSign_24 : decode cX3_wantSign 24 = .ok (.ireturn, 1) := by decide +kernel
theorem dX3_refuseWord_0 : decode cX3_refuseWord 0 = .ok (.aload_n 0, 1) := by decide +kernel
theorem dX3_refuseWord_1 : decode cX3_refuseWord 1 = .ok (.iconst 1, 1) := by decide +kernel
theorem dX3_refuseWord_2 : decode cX3_refuseWord 2 = .ok (.aload_n 0, 1) := by decide +kernel
theorem dX3_refuseWord_3 : decode cX3_refuseWord 3 = .ok (.getfield 15, 3) := by decide +kernel
theorem dX3_refuseWord_6 : decode cX3_refuseWord 6 = .ok (.getfield 214, 3) := by decide +kernel
theorem dX3_refuseWord_9 : decode cX3_refuseWord 9 = .ok (.invokevirtual 53, 3) := by decide +kernel
theorem dX3_refuseWord_12 : decode cX3_refuseWord 12 = .ok (.ireturn, 1) := by decide +kernel
theorem dX3_fail_0 : decode cX3_fail 0 = .ok (.aload_n 0, 1) := by decide +kernel
theorem dX3_fail_1 : decode cX3_fail 1 = .ok (.iload_n 1, 1) := by decide +kernel
theorem dX3_fail_2 : decode cX3_fail 2 = .ok (.putfield 28, 3) := by decide +kernel
theorem dX3_fail_5 : decode cX3_fail 5 = .ok (.aload_n 0, 1) := by decide +kernel
theorem dX3_fail_6 : decode cX3_fail 6 = .ok (.iload_n 2, 1) := by decide +kernel
theorem dX3_fail_7 : decode cX3_fail 7 = .ok (.putfield 9, 3) := by decide +kernel
theorem dX3_fail_10 : decode cX3_fail 10 = .ok (.iconst 0, 1) := by decide +kernel
theorem dX3_fail_11 : decode cX3_fail 11 = .ok (.ireturn, 1) := by decide +kernel
theorem dX4_init_0 : decode cX4_init 0 = .ok (.aload_n 0, 1) := by decide +kernel
theorem dX4_init_1 : decode cX4_init 1 = .ok (.invokespecial 3, 3) := by decide +kernel
theorem dX4_init_4 : decode cX4_init 4 = .ok (.aload_n 0, 1) := by decide +kernel
theorem dX4_init_5 : decode cX4_init 5 = .ok (.bipush 107, 2) := by decide +kernel
theorem dX4_init_7 : decode cX4_init 7 = .ok (.newarray .int, 2) := by decide +kernel
theorem dX4_init_9 : decode cX4_init 9 = .ok (.putfield 9, 3) := by decide +kernel
theorem dX4_init_12 : decode cX4_init 12 = .ok (.aload_n 0, 1) := by decide +kernel
theorem dX4_init_13 : decode cX4_init 13 = .ok (.bipush 87, 2) := by decide +kernel
theorem dX4_init_15 : decode cX4_init 15 = .ok (.newarray .int, 2) := by decide +kernel
theorem dX4_init_17 : decode cX4_init 17 = .ok (.putfield 15, 3) := by decide +kernel
theorem dX4_init_20 : decode cX4_init 20 = .ok (.return_, 1) := by decide +kernel
theorem dX4_write_0 : decode cX4_write 0 = .ok (.aload_n 0, 1) := by decide +kernel
theorem dX4_write_1 : decode cX4_write 1 = .ok (.iconst 0, 1) := by decide +kernel
theorem dX4_write_2 : decode cX4_write 2 = .ok (.putfield 18, 3) := by decide +kernel
theorem dX4_write_5 : decode cX4_write 5 = .ok (.aload_n 0, 1) := by decide +kernel
theorem dX4_write_6 : decode cX4_write 6 = .ok (.aload_n 1, 1) := by decide +kernel
theorem dX4_write_7 : decode cX4_write 7 = .ok (.getfield 22, 3) := by decide +kernel
theorem dX4_write_10 : decode cX4_write 10 = .ok (.iconst 0, 1) := by decide +kernel
theorem dX4_write_11 : decode cX4_write 11 = .ok (.iaload, 1) := by decide +kernel
theorem dX4_write_12 : decode cX4_write 12 = .ok (.invokevirtual 25, 3) := by decide +kernel
theorem dX4_write_15 : decode cX4_write 15 = .ok (.aload_n 0, 1) := by decide +kernel
theorem dX4_write_16 : decode cX4_write 16 = .ok (.aload_n 1, 1) := by decide +kernel
theorem dX4_write_17 : decode cX4_write 17 = .ok (.getfield 22, 3) := by decide +kernel
theorem dX4_write_20 : decode cX4_write 20 = .ok (.iconst 1, 1) := by decide +kernel
theorem dX4_write_21 : decode cX4_write 21 = .ok (.iaload, 1) := by decide +kernel
theorem dX4_write_22 : decode cX4_write 22 = .ok (.invokevirtual 25, 3) := by decide +kernel
theorem dX4_write_25 : decode cX4_write 25 = .ok (.iconst 0, 1) := by decide +kernel
theorem dX4_write_26 : decode cX4_write 26 = .ok (.istore_n 2, 1) := by decide +kernel
theorem dX4_write_27 : decode cX4_write 27 = .ok (.iload_n 2, 1) := by decide +kernel
theorem dX4_write_28 : decode cX4_write 28 = .ok (.aload_n 1, 1) := by decide +kernel
theorem dX4_write_29 : decode cX4_write 29 = .ok (.getfield 29, 3) := by decide +kernel
theorem dX4_write_32 : decode cX4_write 32 = .ok (.getfield 33, 3) := by decide +kernel
theorem dX4_write_35 : decode cX4_write 35 = .ok (.iconst 2, 1) := by decide +kernel
theorem dX4_write_36 : decode cX4_write 36 = .ok (.iaload, 1) := by decide +kernel
theorem dX4_write_37 : decode cX4_write 37 = .ok (.if_icmp .ge 99, 3) := by decide +kernel
theorem dX4_write_40 : decode cX4_write 40 = .ok (.aload_n 0, 1) := by decide +kernel
theorem dX4_write_41 : decode cX4_write 41 = .ok (.aload_n 1, 1) := by decide +kernel
theorem dX4_write_42 : decode cX4_write 42 = .ok (.iload_n 2, 1) := by decide +kernel
theorem dX4_write_43 : decode cX4_write 43 = .ok (.iconst 0, 1) := by decide +kernel
theorem dX4_write_44 : decode cX4_write 44 = .ok (.invokevirtual 38, 3) := by decide +kernel
theorem dX4_write_47 : decode cX4_write 47 = .ok (.invokevirtual 42, 3) := by decide +kernel
theorem dX4_write_50 : decode cX4_write 50 = .ok (.aload_n 0, 1) := by decide +kernel
theorem dX4_write_51 : decode cX4_write 51 = .ok (.aload_n 1, 1) := by decide +kernel
theorem dX4_write_52 : decode cX4_write 52 = .ok (.iload_n 2, 1) := by decide +kernel
theorem dX4_write_53 : decode cX4_write 53 = .ok (.iconst 1, 1) := by decide +kernel
theorem dX4_write_54 : decode cX4_write 54 = .ok (.invokevirtual 38, 3) := by decide +kernel
theorem dX4_write_57 : decode cX4_write 57 = .ok (.invokevirtual 25, 3) := by decide +kernel
theorem dX4_write_60 : decode cX4_write 60 = .ok (.aload_n 0, 1) := by decide +kernel
theorem dX4_write_61 : decode cX4_write 61 = .ok (.aload_n 1, 1) := by decide +kernel
theorem dX4_write_62 : decode cX4_write 62 = .ok (.iload_n 2, 1) := by decide +kernel
theorem dX4_write_63 : decode cX4_write 63 = .ok (.iconst 2, 1) := by decide +kernel
theorem dX4_write_64 : decode cX4_write 64 = .ok (.invokevirtual 38, 3) := by decide +kernel
theorem dX4_write_67 : decode cX4_write 67 = .ok (.invokevirtual 25, 3) := by decide +kernel
theorem dX4_write_70 : decode cX4_write 70 = .ok (.aload_n 0, 1) := by decide +kernel
theorem dX4_write_71 : decode cX4_write 71 = .ok (.aload_n 1, 1) := by decide +kernel
theorem dX4_write_72 : decode cX4_write 72 = .ok (.iload_n 2, 1) := by decide +kernel
theorem dX4_write_73 : decode cX4_write 73 = .ok (.iconst 3, 1) := by decide +kernel
theorem dX4_write_74 : decode cX4_write 74 = .ok (.invokevirtual 38, 3) := by decide +kernel
theorem dX4_write_77 : decode cX4_write 77 = .ok (.iconst 1, 1) := by decide +kernel
theorem dX4_write_78 : decode cX4_write 78 = .ok (.iadd, 1) := by decide +kernel
theorem dX4_write_79 : decode cX4_write 79 = .ok (.invokevirtual 42, 3) := by decide +kernel
theorem dX4_write_82 : decode cX4_write 82 = .ok (.aload_n 0, 1) := by decide +kernel
theorem dX4_write_83 : decode cX4_write 83 = .ok (.aload_n 1, 1) := by decide +kernel
theorem dX4_write_84 : decode cX4_write 84 = .ok (.iload_n 2, 1) := by decide +kernel
theorem dX4_write_85 : decode cX4_write 85 = .ok (.iconst 4, 1) := by decide +kernel
theorem dX4_write_86 : decode cX4_write 86 = .ok (.invokevirtual 38, 3) := by decide +kernel
theorem dX4_write_89 : decode cX4_write 89 = .ok (.invokevirtual 25, 3) := by decide +kernel
theorem dX4_write_92 : decode cX4_write 92 = .ok (.aload_n 0, 1) := by decide +kernel
theorem dX4_write_93 : decode cX4_write 93 = .ok (.aload_n 1, 1) := by decide +kernel
theorem dX4_write_94 : decode cX4_write 94 = .ok (.iload_n 2, 1) := by decide +kernel
theorem dX4_write_95 : decode cX4_write 95 = .ok (.iconst 5, 1) := by decide +kernel
theorem dX4_write_96 : decode cX4_write 96 = .ok (.invokevirtual 38, 3) := by decide +kernel
theorem dX4_write_99 : decode cX4_write 99 = .ok (.invokevirtual 42, 3) := by decide +kernel
theorem dX4_write_102 : decode cX4_write 102 = .ok (.iconst 0, 1) := by decide +kernel
theorem dX4_write_103 : decode cX4_write 103 = .ok (.istore_n 3, 1) := by decide +kernel
theorem dX4_write_104 : decode cX4_write 104 = .ok (.iload_n 3, 1) := by decide +kernel
theorem dX4_write_105 : decode cX4_write 105 = .ok (.aload_n 1, 1) := by decide +kernel
theorem dX4_write_106 : decode cX4_write 106 = .ok (.iload_n 2, 1) := by decide +kernel
theorem dX4_write_107 : decode cX4_write 107 = .ok (.iconst 5, 1) := by decide +kernel
theorem dX4_write_108 : decode cX4_write 108 = .ok (.invokevirtual 38, 3) := by decide +kernel
theorem dX4_write_111 : decode cX4_write 111 = .ok (.if_icmp .ge 19, 3) := by decide +kernel
theorem dX4_write_114 : decode cX4_write 114 = .ok (.aload_n 0, 1) := by decide +kernel
theorem dX4_write_115 : decode cX4_write 115 = .ok (.aload_n 1, 1) := by decide +kernel
theorem dX4_write_116 : decode cX4_write 116 = .ok (.iload_n 2, 1) := by decide +kernel
theorem dX4_write_117 : decode cX4_write 117 = .ok (.iload_n 3, 1) := by decide +kernel
theorem dX4_write_118 : decode cX4_write 118 = .ok (.invokevirtual 45, 3) := by decide +kernel
theorem dX4_write_121 : decode cX4_write 121 = .ok (.invokevirtual 42, 3) := by decide +kernel
theorem dX4_write_124 : decode cX4_write 124 = .ok (.iinc 3 1, 3) := by decide +kernel
theorem dX4_write_127 : decode cX4_write 127 = .ok (.goto (-23), 3) := by decide +kernel
theorem dX4_write_130 : decode cX4_write 130 = .ok (.iinc 2 1, 3) := by decide +kernel
theorem dX4_write_133 : decode cX4_write 133 = .ok (.goto (-106), 3) := by decide +kernel
theorem dX4_write_136 : decode cX4_write 136 = .ok (.bipush 83, 2) := by decide +kernel
theorem dX4_write_138 : decode cX4_write 138 = .ok (.istore_n 2, 1) := by decide +kernel
theorem dX4_write_139 : decode cX4_write 139 = .ok (.iconst 0, 1) := by decide +kernel
theorem dX4_write_140 : decode cX4_write 140 = .ok (.istore_n 3, 1) := by decide +kernel
theorem dX4_write_141 : decode cX4_write 141 = .ok (.iload_n 3, 1) := by decide +kernel
theorem dX4_write_142 : decode cX4_write 142 = .ok (.aload_n 0, 1) := by decide +kernel
theorem dX4_write_143 : decode cX4_write 143 = .ok (.getfield 18, 3) := by decide +kernel
theorem dX4_write_146 : decode cX4_write 146 = .ok (.if_icmp .ge 24, 3) := by decide +kernel
theorem dX4_write_149 : decode cX4_write 149 = .ok (.iconst 5, 1) := by decide +kernel
theorem dX4_write_150 : decode cX4_write 150 = .ok (.iload_n 2, 1) := by decide +kernel
theorem dX4_write_151 : decode cX4_write 151 = .ok (.imul, 1) := by decide +kernel
theorem dX4_write_152 : decode cX4_write 152 = .ok (.aload_n 0, 1) := by decide +kernel
theorem dX4_write_153 : decode cX4_write 153 = .ok (.getfield 9, 3) := by decide +kernel
theorem dX4_write_156 : decode cX4_write 156 = .ok (.iload_n 3, 1) := by decide +kernel
theorem dX4_write_157 : decode cX4_write 157 = .ok (.iaload, 1) := by decide +kernel
theorem dX4_write_158 : decode cX4_write 158 = .ok (.iadd, 1) := by decide +kernel
theorem dX4_write_159 : decode cX4_write 159 = .ok (.sipush 251, 3) := by decide +kernel
theorem dX4_write_162 : decode cX4_write 162 = .ok (.irem, 1) := by decide +kernel
theorem dX4_write_163 : decode cX4_write 163 = .ok (.istore_n 2, 1) := by decide +kernel
theorem dX4_write_164 : decode cX4_write 164 = .ok (.iinc 3 1, 3) := by decide +kernel
theorem dX4_write_167 : decode cX4_write 167 = .ok (.goto (-26), 3) := by decide +kernel
theorem dX4_write_170 : decode cX4_write 170 = .ok (.aload_n 0, 1) := by decide +kernel
theorem dX4_write_171 : decode cX4_write 171 = .ok (.iload_n 2, 1) := by decide +kernel
theorem dX4_write_172 : decode cX4_write 172 = .ok (.invokevirtual 42, 3) := by decide +kernel
theorem dX4_write_175 : decode cX4_write 175 = .ok (.return_, 1) := by decide +kernel
theorem dX4_put_0 : decode cX4_put 0 = .ok (.aload_n 0, 1) := by decide +kernel
theorem dX4_put_1 : decode cX4_put 1 = .ok (.getfield 18, 3) := by decide +kernel
theorem dX4_put_4 : decode cX4_put 4 = .ok (.bipush 107, 2) := by decide +kernel
theorem dX4_put_6 : decode cX4_put 6 = .ok (.if_icmp .ge 23, 3) := by decide +kernel
theorem dX4_put_9 : decode cX4_put 9 = .ok (.aload_n 0, 1) := by decide +kernel
theorem dX4_put_10 : decode cX4_put 10 = .ok (.getfield 9, 3) := by decide +kernel
theorem dX4_put_13 : decode cX4_put 13 = .ok (.aload_n 0, 1) := by decide +kernel
theorem dX4_put_14 : decode cX4_put 14 = .ok (.getfield 18, 3) := by decide +kernel
theorem dX4_put_17 : decode cX4_put 17 = .ok (.iload_n 1, 1) := by decide +kernel
theorem dX4_put_18 : decode cX4_put 18 = .ok (.iastore, 1) := by decide +kernel
theorem dX4_put_19 : decode cX4_put 19 = .ok (.aload_n 0, 1) := by decide +kernel
theorem dX4_put_20 : decode cX4_put 20 = .ok (.dup, 1) := by decide +kernel
theorem dX4_put_21 : decode cX4_put 21 = .ok (.getfield 18, 3) := by decide +kernel
theorem dX4_put_24 : decode cX4_put 24 = .ok (.iconst 1, 1) := by decide +kernel
theorem dX4_put_25 : decode cX4_put 25 = .ok (.iadd, 1) := by decide +kernel
theorem dX4_put_26 : decode cX4_put 26 = .ok (.putfield 18, 3) := by decide +kernel
theorem dX4_put_29 : decode cX4_put 29 = .ok (.return_, 1) := by decide +kernel
theorem dX4_putTwo_0 : decode cX4_putTwo 0 = .ok (.aload_n 0, 1) := by decide +kernel
theorem dX4_putTwo_1 : decode cX4_putTwo 1 = .ok (.iload_n 1, 1) := by decide +kernel
theorem dX4_putTwo_2 : decode cX4_putTwo 2 = .ok (.bipush 8, 2) := by decide +kernel
theorem dX4_putTwo_4 : decode cX4_putTwo 4 = .ok (.ishr, 1) := by decide +kernel
theorem dX4_putTwo_5 : decode cX4_putTwo 5 = .ok (.invokevirtual 42, 3) := by decide +kernel
theorem dX4_putTwo_8 : decode cX4_putTwo 8 = .ok (.aload_n 0, 1) := by decide +kernel
theorem dX4_putTwo_9 : decode cX4_putTwo 9 = .ok (.iload_n 1, 1) := by decide +kernel
theorem dX4_putTwo_10 : decode cX4_putTwo 10 = .ok (.sipush 255, 3) := by decide +kernel
theorem dX4_putTwo_13 : decode cX4_putTwo 13 = .ok (.iand, 1) := by decide +kernel
theorem dX4_putTwo_14 : decode cX4_putTwo 14 = .ok (.invokevirtual 42, 3) := by decide +kernel
theorem dX4_putTwo_17 : decode cX4_putTwo 17 = .ok (.return_, 1) := by decide +kernel
theorem dX4_read_0 : decode cX4_read 0 = .ok (.aload_n 0, 1) := by decide +kernel
theorem dX4_read_1 : decode cX4_read 1 = .ok (.getfield 15, 3) := by decide +kernel
theorem dX4_read_4 : decode cX4_read 4 = .ok (.iconst 0, 1) := by decide +kernel
theorem dX4_read_5 : decode cX4_read 5 = .ok (.invokestatic 48, 3) := by decide +kernel
theorem dX4_read_8 : decode cX4_read 8 = .ok (.aload_n 0, 1) := by decide +kernel
theorem dX4_read_9 : decode cX4_read 9 = .ok (.iconst 0, 1) := by decide +kernel
theorem dX4_read_10 : decode cX4_read 10 = .ok (.putfield 54, 3) := by decide +kernel
theorem dX4_read_13 : decode cX4_read 13 = .ok (.aload_n 0, 1) := by decide +kernel
theorem dX4_read_14 : decode cX4_read 14 = .ok (.getfield 15, 3) := by decide +kernel
theorem dX4_read_17 : decode cX4_read 17 = .ok (.iconst 0, 1) := by decide +kernel
theorem dX4_read_18 : decode cX4_read 18 = .ok (.aload_n 0, 1) := by decide +kernel
theorem dX4_read_19 : decode cX4_read 19 = .ok (.aload_n 1, 1) := by decide +kernel
theorem dX4_read_20 : decode cX4_read 20 = .ok (.invokevirtual 57, 3) := by decide +kernel
theorem dX4_read_23 : decode cX4_read 23 = .ok (.iastore, 1) := by decide +kernel
theorem dX4_read_24 : decode cX4_read 24 = .ok (.aload_n 0, 1) := by decide +kernel
theorem dX4_read_25 : decode cX4_read 25 = .ok (.getfield 15, 3) := by decide +kernel
theorem dX4_read_28 : decode cX4_read 28 = .ok (.iconst 1, 1) := by decide +kernel
theorem dX4_read_29 : decode cX4_read 29 = .ok (.aload_n 0, 1) := by decide +kernel
theorem dX4_read_30 : decode cX4_read 30 = .ok (.aload_n 1, 1) := by decide +kernel
theorem dX4_read_31 : decode cX4_read 31 = .ok (.invokevirtual 57, 3) := by decide +kernel
theorem dX4_read_34 : decode cX4_read 34 = .ok (.iastore, 1) := by decide +kernel
theorem dX4_read_35 : decode cX4_read 35 = .ok (.aload_n 0, 1) := by decide +kernel
theorem dX4_read_36 : decode cX4_read 36 = .ok (.getfield 15, 3) := by decide +kernel
theorem dX4_read_39 : decode cX4_read 39 = .ok (.iconst 0, 1) := by decide +kernel
theorem dX4_read_40 : decode cX4_read 40 = .ok (.iaload, 1) := by decide +kernel
theorem dX4_read_41 : decode cX4_read 41 = .ok (.sipush 999, 3) := by decide +kernel
theorem dX4_read_44 : decode cX4_read 44 = .ok (.invokestatic 61, 3) := by decide +kernel
theorem dX4_read_47 : decode cX4_read 47 = .ok (.ifCond .eq 18, 3) := by decide +kernel
theorem dX4_read_50 : decode cX4_read 50 = .ok (.aload_n 0, 1) := by decide +kernel
theorem dX4_read_51 : decode cX4_read 51 = .ok (.getfield 15, 3) := by decide +kernel
theorem dX4_read_54 : decode cX4_read 54 = .ok (.iconst 1, 1) := by decide +kernel
theorem dX4_read_55 : decode cX4_read 55 = .ok (.iaload, 1) := by decide +kernel
theorem dX4_read_56 : decode cX4_read 56 = .ok (.sipush 9999, 3) := by decide +kernel
theorem dX4_read_59 : decode cX4_read 59 = .ok (.invokestatic 61, 3) := by decide +kernel
theorem dX4_read_62 : decode cX4_read 62 = .ok (.ifCond .ne 5, 3) := by decide +kernel
theorem dX4_read_65 : decode cX4_read 65 = .ok (.iconst 0, 1) := by decide +kernel
theorem dX4_read_66 : decode cX4_read 66 = .ok (.ireturn, 1) := by decide +kernel
theorem dX4_read_67 : decode cX4_read 67 = .ok (.iconst 0, 1) := by decide +kernel
theorem dX4_read_68 : decode cX4_read 68 = .ok (.istore_n 3, 1) := by decide +kernel
theorem dX4_read_69 : decode cX4_read 69 = .ok (.iload_n 3, 1) := by decide +kernel
theorem dX4_read_70 : decode cX4_read 70 = .ok (.bipush 6, 2) := by decide +kernel
theorem dX4_read_72 : decode cX4_read 72 = .ok (.if_icmp .ge 50, 3) := by decide +kernel
theorem dX4_read_75 : decode cX4_read 75 = .ok (.iconst 3, 1) := by decide +kernel
theorem dX4_read_76 : decode cX4_read 76 = .ok (.iload_n 3, 1) := by decide +kernel
theorem dX4_read_77 : decode cX4_read 77 = .ok (.bipush 14, 2) := by decide +kernel
theorem dX4_read_79 : decode cX4_read 79 = .ok (.imul, 1) := by decide +kernel
theorem dX4_read_80 : decode cX4_read 80 = .ok (.iadd, 1) := by decide +kernel
theorem dX4_read_81 : decode cX4_read 81 = .ok (.istore 4, 2) := by decide +kernel
theorem dX4_read_83 : decode cX4_read 83 = .ok (.aload_n 0, 1) := by decide +kernel
theorem dX4_read_84 : decode cX4_read 84 = .ok (.getfield 15, 3) := by decide +kernel
theorem dX4_read_87 : decode cX4_read 87 = .ok (.iload 4, 2) := by decide +kernel
theorem dX4_read_89 : decode cX4_read 89 = .ok (.iconst 3, 1) := by decide +kernel
theorem dX4_read_90 : decode cX4_read 90 = .ok (.iadd, 1) := by decide +kernel
theorem dX4_read_91 : decode cX4_read 91 = .ok (.iconst (-1), 1) := by decide +kernel
theorem dX4_read_92 : decode cX4_read 92 = .ok (.iastore, 1) := by decide +kernel
theorem dX4_read_93 : decode cX4_read 93 = .ok (.iload_n 3, 1) := by decide +kernel
theorem dX4_read_94 : decode cX4_read 94 = .ok (.aload_n 2, 1) := by decide +kernel
theorem dX4_read_95 : decode cX4_read 95 = .ok (.getfield 33, 3) := by decide +kernel
theorem dX4_read_98 : decode cX4_read 98 = .ok (.iconst 2, 1) := by decide +kernel
theorem dX4_read_99 : decode cX4_read 99 = .ok (.iaload, 1) := by decide +kernel
theorem dX4_read_100 : decode cX4_read 100 = .ok (.if_icmp .ge 16, 3) := by decide +kernel
theorem dX4_read_103 : decode cX4_read 103 = .ok (.aload_n 0, 1) := by decide +kernel
theorem dX4_read_104 : decode cX4_read 104 = .ok (.aload_n 1, 1) := by decide +kernel
theorem dX4_read_105 : decode cX4_read 105 = .ok (.aload_n 2, 1) := by decide +kernel
theorem dX4_read_106 : decode cX4_read 106 = .ok (.iload 4, 2) := by decide +kernel
theorem dX4_read_108 : decode cX4_read 108 = .ok (.invokevirtual 65, 3) := by decide +kernel
theorem dX4_read_111 : decode cX4_read 111 = .ok (.ifCond .ne 5, 3) := by decide +kernel
theorem dX4_read_114 : decode cX4_read 114 = .ok (.iconst 0, 1) := by decide +kernel
theorem dX4_read_115 : decode cX4_read 115 = .ok (.ireturn, 1) := by decide +kernel
theorem dX4_read_116 : decode cX4_read 116 = .ok (.iinc 3 1, 3) := by decide +kernel
theorem dX4_read_119 : decode cX4_read 119 = .ok (.goto (-50), 3) := by decide +kernel
theorem dX4_read_122 : decode cX4_read 122 = .ok (.aload_n 0, 1) := by decide +kernel
theorem dX4_read_123 : decode cX4_read 123 = .ok (.getfield 54, 3) := by decide +kernel
theorem dX4_read_126 : decode cX4_read 126 = .ok (.aload_n 1, 1) := by decide +kernel
theorem dX4_read_127 : decode cX4_read 127 = .ok (.getfield 69, 3) := by decide +kernel
theorem dX4_read_130 : decode cX4_read 130 = .ok (.iconst 1, 1) := by decide +kernel
theorem dX4_read_131 : decode cX4_read 131 = .ok (.isub, 1) := by decide +kernel
theorem dX4_read_132 : decode cX4_read 132 = .ok (.if_icmp .ne 22, 3) := by decide +kernel
theorem dX4_read_135 : decode cX4_read 135 = .ok (.aload_n 1, 1) := by decide +kernel
theorem dX4_read_136 : decode cX4_read 136 = .ok (.aload_n 0, 1) := by decide +kernel
theorem dX4_read_137 : decode cX4_read 137 = .ok (.getfield 54, 3) := by decide +kernel
theorem dX4_read_140 : decode cX4_read 140 = .ok (.invokevirtual 72, 3) := by decide +kernel
theorem dX4_read_143 : decode cX4_read 143 = .ok (.aload_n 1, 1) := by decide +kernel
theorem dX4_read_144 : decode cX4_read 144 = .ok (.invokestatic 76, 3) := by decide +kernel
theorem dX4_read_147 : decode cX4_read 147 = .ok (.if_icmp .ne 7, 3) := by decide +kernel
theorem dX4_read_150 : decode cX4_read 150 = .ok (.iconst 1, 1) := by decide +kernel
theorem dX4_read_151 : decode cX4_read 151 = .ok (.goto 4, 3) := by decide +kernel
theorem dX4_read_154 : decode cX4_read 154 = .ok (.iconst 0, 1) := by decide +kernel
theorem dX4_read_155 : decode cX4_read 155 = .ok (.ireturn, 1) := by decide +kernel
theorem dX4_readOne_0 : decode cX4_readOne 0 = .ok (.aload_n 2, 1) := by decide +kernel
theorem dX4_readOne_1 : decode cX4_readOne 1 = .ok (.getfield 33, 3) := by decide +kernel
theorem dX4_readOne_4 : decode cX4_readOne 4 = .ok (.iconst 1, 1) := by decide +kernel
theorem dX4_readOne_5 : decode cX4_readOne 5 = .ok (.iaload, 1) := by decide +kernel
theorem dX4_readOne_6 : decode cX4_readOne 6 = .ok (.istore 4, 2) := by decide +kernel
theorem dX4_readOne_8 : decode cX4_readOne 8 = .ok (.aload_n 0, 1) := by decide +kernel
theorem dX4_readOne_9 : decode cX4_readOne 9 = .ok (.aload_n 1, 1) := by decide +kernel
theorem dX4_readOne_10 : decode cX4_readOne 10 = .ok (.invokevirtual 79, 3) := by decide +kernel
theorem dX4_readOne_13 : decode cX4_readOne 13 = .ok (.istore 5, 2) := by decide +kernel
theorem dX4_readOne_15 : decode cX4_readOne 15 = .ok (.aload_n 0, 1) := by decide +kernel
theorem dX4_readOne_16 : decode cX4_readOne 16 = .ok (.aload_n 1, 1) := by decide +kernel
theorem dX4_readOne_17 : decode cX4_readOne 17 = .ok (.invokevirtual 57, 3) := by decide +kernel
theorem dX4_readOne_20 : decode cX4_readOne 20 = .ok (.istore 6, 2) := by decide +kernel
theorem dX4_readOne_22 : decode cX4_readOne 22 = .ok (.aload_n 0, 1) := by decide +kernel
theorem dX4_readOne_23 : decode cX4_readOne 23 = .ok (.aload_n 1, 1) := by decide +kernel
theorem dX4_readOne_24 : decode cX4_readOne 24 = .ok (.invokevirtual 57, 3) := by decide +kernel
theorem dX4_readOne_27 : decode cX4_readOne 27 = .ok (.istore 7, 2) := by decide +kernel
theorem dX4_readOne_29 : decode cX4_readOne 29 = .ok (.aload_n 0, 1) := by decide +kernel
theorem dX4_readOne_30 : decode cX4_readOne 30 = .ok (.aload_n 1, 1) := by decide +kernel
theorem dX4_readOne_31 : decode cX4_readOne 31 = .ok (.invokevirtual 79, 3) := by decide +kernel
theorem dX4_readOne_34 : decode cX4_readOne 34 = .ok (.iconst 1, 1) := by decide +kernel
theorem dX4_readOne_35 : decode cX4_readOne 35 = .ok (.isub, 1) := by decide +kernel
theorem dX4_readOne_36 : decode cX4_readOne 36 = .ok (.istore 8, 2) := by decide +kernel
theorem dX4_readOne_38 : decode cX4_readOne 38 = .ok (.aload_n 0, 1) := by decide +kernel
theorem dX4_readOne_39 : decode cX4_readOne 39 = .ok (.aload_n 1, 1) := by decide +kernel
theorem dX4_readOne_40 : decode cX4_readOne 40 = .ok (.invokevirtual 57, 3) := by decide +kernel
theorem dX4_readOne_43 : decode cX4_readOne 43 = .ok (.istore 9, 2) := by decide +kernel
theorem dX4_readOne_45 : decode cX4_readOne 45 = .ok (.aload_n 0, 1) := by decide +kernel
theorem dX4_readOne_46 : decode cX4_readOne 46 = .ok (.aload_n 1, 1) := by decide +kernel
theorem dX4_readOne_47 : decode cX4_readOne 47 = .ok (.invokevirtual 79, 3) := by decide +kernel
theorem dX4_readOne_50 : decode cX4_readOne 50 = .ok (.istore 10, 2) := by decide +kernel
theorem dX4_readOne_52 : decode cX4_readOne 52 = .ok (.iload 5, 2) := by decide +kernel
theorem dX4_readOne_54 : decode cX4_readOne 54 = .ok (.aload_n 2, 1) := by decide +kernel
theorem dX4_readOne_55 : decode cX4_readOne 55 = .ok (.getfield 33, 3) := by decide +kernel
theorem dX4_readOne_58 : decode cX4_readOne 58 = .ok (.iconst 3, 1) := by decide +kernel
theorem dX4_readOne_59 : decode cX4_readOne 59 = .ok (.iaload, 1) := by decide +kernel
theorem dX4_readOne_60 : decode cX4_readOne 60 = .ok (.iconst 1, 1) := by decide +kernel
theorem dX4_readOne_61 : decode cX4_readOne 61 = .ok (.isub, 1) := by decide +kernel
theorem dX4_readOne_62 : decode cX4_readOne 62 = .ok (.invokestatic 61, 3) := by decide +kernel
theorem dX4_readOne_65 : decode cX4_readOne 65 = .ok (.ifCond .eq 13, 3) := by decide +kernel
theorem dX4_readOne_68 : decode cX4_readOne 68 = .ok (.iload 10, 2) := by decide +kernel
theorem dX4_readOne_70 : decode cX4_readOne 70 = .ok (.bipush 8, 2) := by decide +kernel
theorem dX4_readOne_72 : decode cX4_readOne 72 = .ok (.invokestatic 61, 3) := by decide +kernel
theorem dX4_readOne_75 : decode cX4_readOne 75 = .ok (.ifCond .ne 5, 3) := by decide +kernel
theorem dX4_readOne_78 : decode cX4_readOne 78 = .ok (.iconst 0, 1) := by decide +kernel
theorem dX4_readOne_79 : decode cX4_readOne 79 = .ok (.ireturn, 1) := by decide +kernel
theorem dX4_readOne_80 : decode cX4_readOne 80 = .ok (.iload 6, 2) := by decide +kernel
theorem dX4_readOne_82 : decode cX4_readOne 82 = .ok (.iconst 1, 1) := by decide +kernel
theorem dX4_readOne_83 : decode cX4_readOne 83 = .ok (.iload 4, 2) := by decide +kernel
theorem dX4_readOne_85 : decode cX4_readOne 85 = .ok (.ishl, 1) := by decide +kernel
theorem dX4_readOne_86 : decode cX4_readOne 86 = .ok (.iconst 1, 1) := by decide +kernel
theorem dX4_readOne_87 : decode cX4_readOne 87 = .ok (.isub, 1) := by decide +kernel
theorem dX4_readOne_88 : decode cX4_readOne 88 = .ok (.invokestatic 61, 3) := by decide +kernel
theorem dX4_readOne_91 : decode cX4_readOne 91 = .ok (.ifCond .eq 25, 3) := by decide +kernel
theorem dX4_readOne_94 : decode cX4_readOne 94 = .ok (.iload 7, 2) := by decide +kernel
theorem dX4_readOne_96 : decode cX4_readOne 96 = .ok (.iconst 1, 1) := by decide +kernel
theorem dX4_readOne_97 : decode cX4_readOne 97 = .ok (.iload 4, 2) := by decide +kernel
theorem dX4_readOne_99 : decode cX4_readOne 99 = .ok (.ishl, 1) := by decide +kernel
theorem dX4_readOne_100 : decode cX4_readOne 100 = .ok (.iconst 1, 1) := by decide +kernel
theorem dX4_readOne_101 : decode cX4_readOne 101 = .ok (.isub, 1) := by decide +kernel
theorem dX4_readOne_102 : decode cX4_readOne 102 = .ok (.invokestatic 61, 3) := by decide +kernel
theorem dX4_readOne_105 : decode cX4_readOne 105 = .ok (.ifCond .eq 11, 3) := by decide +kernel
theorem dX4_readOne_108 : decode cX4_readOne 108 = .ok (.iload 6, 2) := by decide +kernel
theorem dX4_readOne_110 : decode cX4_readOne 110 = .ok (.iload 7, 2) := by decide +kernel
theorem dX4_readOne_112 : decode cX4_readOne 112 = .ok (.iand, 1) := by decide +kernel
theorem dX4_readOne_113 : decode cX4_readOne 113 = .ok (.ifCond .eq 5, 3) := by decide +kernel
theorem dX4_readOne_116 : decode cX4_readOne 116 = .ok (.iconst 0, 1) := by decide +kernel
theorem dX4_readOne_117 : decode cX4_readOne 117 = .ok (.ireturn, 1) := by decide +kernel
theorem dX4_readOne_118 : decode cX4_readOne 118 = .ok (.aload_n 0, 1) := by decide +kernel
theorem dX4_readOne_119 : decode cX4_readOne 119 = .ok (.getfield 15, 3) := by decide +kernel
theorem dX4_readOne_122 : decode cX4_readOne 122 = .ok (.iload_n 3, 1) := by decide +kernel
theorem dX4_readOne_123 : decode cX4_readOne 123 = .ok (.iconst 0, 1) := by decide +kernel
theorem dX4_readOne_124 : decode cX4_readOne 124 = .ok (.iadd, 1) := by decide +kernel
theorem dX4_readOne_125 : decode cX4_readOne 125 = .ok (.iload 5, 2) := by decide +kernel
theorem dX4_readOne_127 : decode cX4_readOne 127 = .ok (.iastore, 1) := by decide +kernel
theorem dX4_readOne_128 : decode cX4_readOne 128 = .ok (.aload_n 0, 1) := by decide +kernel
theorem dX4_readOne_129 : decode cX4_readOne 129 = .ok (.getfield 15, 3) := by decide +kernel
theorem dX4_readOne_132 : decode cX4_readOne 132 = .ok (.iload_n 3, 1) := by decide +kernel
theorem dX4_readOne_133 : decode cX4_readOne 133 = .ok (.iconst 1, 1) := by decide +kernel
theorem dX4_readOne_134 : decode cX4_readOne 134 = .ok (.iadd, 1) := by decide +kernel
theorem dX4_readOne_135 : decode cX4_readOne 135 = .ok (.iload 6, 2) := by decide +kernel
theorem dX4_readOne_137 : decode cX4_readOne 137 = .ok (.iastore, 1) := by decide +kernel
theorem dX4_readOne_138 : decode cX4_readOne 138 = .ok (.aload_n 0, 1) := by decide +kernel
theorem dX4_readOne_139 : decode cX4_readOne 139 = .ok (.getfield 15, 3) := by decide +kernel
theorem dX4_readOne_142 : decode cX4_readOne 142 = .ok (.iload_n 3, 1) := by decide +kernel
theorem dX4_readOne_143 : decode cX4_readOne 143 = .ok (.iconst 2, 1) := by decide +kernel
theorem dX4_readOne_144 : decode cX4_readOne 144 = .ok (.iadd, 1) := by decide +kernel
theorem dX4_readOne_145 : decode cX4_readOne 145 = .ok (.iload 7, 2) := by decide +kernel
theorem dX4_readOne_147 : decode cX4_readOne 147 = .ok (.iastore, 1) := by decide +kernel
theorem dX4_readOne_148 : decode cX4_readOne 148 = .ok (.aload_n 0, 1) := by decide +kernel
theorem dX4_readOne_149 : decode cX4_readOne 149 = .ok (.getfield 15, 3) := by decide +kernel
theorem dX4_readOne_152 : decode cX4_readOne 152 = .ok (.iload_n 3, 1) := by decide +kernel
theorem dX4_readOne_153 : decode cX4_readOne 153 = .ok (.iconst 3, 1) := by decide +kernel
theorem dX4_readOne_154 : decode cX4_readOne 154 = .ok (.iadd, 1) := by decide +kernel
theorem dX4_readOne_155 : decode cX4_readOne 155 = .ok (.iload 8, 2) := by decide +kernel
theorem dX4_readOne_157 : decode cX4_readOne 157 = .ok (.iastore, 1) := by decide +kernel
theorem dX4_readOne_158 : decode cX4_readOne 158 = .ok (.aload_n 0, 1) := by decide +kernel
theorem dX4_readOne_159 : decode cX4_readOne 159 = .ok (.getfield 15, 3) := by decide +kernel
theorem dX4_readOne_162 : decode cX4_readOne 162 = .ok (.iload_n 3, 1) := by decide +kernel
theorem dX4_readOne_163 : decode cX4_readOne 163 = .ok (.iconst 4, 1) := by decide +kernel
theorem dX4_readOne_164 : decode cX4_readOne 164 = .ok (.iadd, 1) := by decide +kernel
theorem dX4_readOne_165 : decode cX4_readOne 165 = .ok (.iload 9, 2) := by decide +kernel
theorem dX4_readOne_167 : decode cX4_readOne 167 = .ok (.iastore, 1) := by decide +kernel
theorem dX4_readOne_168 : decode cX4_readOne 168 = .ok (.aload_n 0, 1) := by decide +kernel
theorem dX4_readOne_169 : decode cX4_readOne 169 = .ok (.getfield 15, 3) := by decide +kernel
theorem dX4_readOne_172 : decode cX4_readOne 172 = .ok (.iload_n 3, 1) := by decide +kernel
theorem dX4_readOne_173 : decode cX4_readOne 173 = .ok (.iconst 5, 1) := by decide +kernel
theorem dX4_readOne_174 : decode cX4_readOne 174 = .ok (.iadd, 1) := by decide +kernel
theorem dX4_readOne_175 : decode cX4_readOne 175 = .ok (.iload 10, 2) := by decide +kernel
theorem dX4_readOne_177 : decode cX4_readOne 177 = .ok (.iastore, 1) := by decide +kernel
theorem dX4_readOne_178 : decode cX4_readOne 178 = .ok (.iload 6, 2) := by decide +kernel
theorem dX4_readOne_180 : decode cX4_readOne 180 = .ok (.iload 7, 2) := by decide +kernel
theorem dX4_readOne_182 : decode cX4_readOne 182 = .ok (.ior, 1) := by decide +kernel
theorem dX4_readOne_183 : decode cX4_readOne 183 = .ok (.istore 11, 2) := by decide +kernel
theorem dX4_readOne_185 : decode cX4_readOne 185 = .ok (.iconst 0, 1) := by decide +kernel
theorem dX4_readOne_186 : decode cX4_readOne 186 = .ok (.istore 12, 2) := by decide +kernel
theorem dX4_readOne_188 : decode cX4_readOne 188 = .ok (.iconst 0, 1) := by decide +kernel
theorem dX4_readOne_189 : decode cX4_readOne 189 = .ok (.istore 13, 2) := by decide +kernel
theorem dX4_readOne_191 : decode cX4_readOne 191 = .ok (.iload 13, 2) := by decide +kernel
theorem dX4_readOne_193 : decode cX4_readOne 193 = .ok (.iload 10, 2) := by decide +kernel
theorem dX4_readOne_195 : decode cX4_readOne 195 = .ok (.if_icmp .ge 82, 3) := by decide +kernel
theorem dX4_readOne_198 : decode cX4_readOne 198 = .ok (.aload_n 0, 1) := by decide +kernel
theorem dX4_readOne_199 : decode cX4_readOne 199 = .ok (.aload_n 1, 1) := by decide +kernel
theorem dX4_readOne_200 : decode cX4_readOne 200 = .ok (.invokevirtual 79, 3) := by decide +kernel
theorem dX4_readOne_203 : decode cX4_readOne 203 = .ok (.istore 14, 2) := by decide +kernel
theorem dX4_readOne_205 : decode cX4_readOne 205 = .ok (.iload 14, 2) := by decide +kernel
theorem dX4_readOne_207 : decode cX4_readOne 207 = .ok (.iload 4, 2) := by decide +kernel
theorem dX4_readOne_209 : decode cX4_readOne 209 = .ok (.iconst 1, 1) := by decide +kernel
theorem dX4_readOne_210 : decode cX4_readOne 210 = .ok (.isub, 1) := by decide +kernel
theorem dX4_readOne_211 : decode cX4_readOne 211 = .ok (.invokestatic 61, 3) := by decide +kernel
theorem dX4_readOne_214 : decode cX4_readOne 214 = .ok (.ifCond .eq 13, 3) := by decide +kernel
theorem dX4_readOne_217 : decode cX4_readOne 217 = .ok (.iload 11, 2) := by decide +kernel
theorem dX4_readOne_219 : decode cX4_readOne 219 = .ok (.iconst 1, 1) := by decide +kernel
theorem dX4_readOne_220 : decode cX4_readOne 220 = .ok (.iload 14, 2) := by decide +kernel
theorem dX4_readOne_222 : decode cX4_readOne 222 = .ok (.ishl, 1) := by decide +kernel
theorem dX4_readOne_223 : decode cX4_readOne 223 = .ok (.iand, 1) := by decide +kernel
theorem dX4_readOne_224 : decode cX4_readOne 224 = .ok (.ifCond .eq 5, 3) := by decide +kernel
theorem dX4_readOne_227 : decode cX4_readOne 227 = .ok (.iconst 0, 1) := by decide +kernel
theorem dX4_readOne_228 : decode cX4_readOne 228 = .ok (.ireturn, 1) := by decide +kernel
theorem dX4_readOne_229 : decode cX4_readOne 229 = .ok (.iload 11, 2) := by decide +kernel
theorem dX4_readOne_231 : decode cX4_readOne 231 = .ok (.iconst 1, 1) := by decide +kernel
theorem dX4_readOne_232 : decode cX4_readOne 232 = .ok (.iload 14, 2) := by decide +kernel
theorem dX4_readOne_234 : decode cX4_readOne 234 = .ok (.ishl, 1) := by decide +kernel
theorem dX4_readOne_235 : decode cX4_readOne 235 = .ok (.ior, 1) := by decide +kernel
theorem dX4_readOne_236 : decode cX4_readOne 236 = .ok (.istore 11, 2) := by decide +kernel
theorem dX4_readOne_238 : decode cX4_readOne 238 = .ok (.iload 12, 2) := by decide +kernel
theorem dX4_readOne_240 : decode cX4_readOne 240 = .ok (.ifCond .ne 10, 3) := by decide +kernel
theorem dX4_readOne_243 : decode cX4_readOne 243 = .ok (.iload 14, 2) := by decide +kernel
theorem dX4_readOne_245 : decode cX4_readOne 245 = .ok (.iload 8, 2) := by decide +kernel
theorem dX4_readOne_247 : decode cX4_readOne 247 = .ok (.if_icmp .ne 7, 3) := by decide +kernel
theorem dX4_readOne_250 : decode cX4_readOne 250 = .ok (.iconst 1, 1) := by decide +kernel
theorem dX4_readOne_251 : decode cX4_readOne 251 = .ok (.goto 4, 3) := by decide +kernel
theorem dX4_readOne_254 : decode cX4_readOne 254 = .ok (.iconst 0, 1) := by decide +kernel
theorem dX4_readOne_255 : decode cX4_readOne 255 = .ok (.istore 12, 2) := by decide +kernel
theorem dX4_readOne_257 : decode cX4_readOne 257 = .ok (.aload_n 0, 1) := by decide +kernel
theorem dX4_readOne_258 : decode cX4_readOne 258 = .ok (.getfield 15, 3) := by decide +kernel
theorem dX4_readOne_261 : decode cX4_readOne 261 = .ok (.iload_n 3, 1) := by decide +kernel
theorem dX4_readOne_262 : decode cX4_readOne 262 = .ok (.bipush 6, 2) := by decide +kernel
theorem dX4_readOne_264 : decode cX4_readOne 264 = .ok (.iadd, 1) := by decide +kernel
theorem dX4_readOne_265 : decode cX4_readOne 265 = .ok (.iload 13, 2) := by decide +kernel
theorem dX4_readOne_267 : decode cX4_readOne 267 = .ok (.iadd, 1) := by decide +kernel
theorem dX4_readOne_268 : decode cX4_readOne 268 = .ok (.iload 14, 2) := by decide +kernel
theorem dX4_readOne_270 : decode cX4_readOne 270 = .ok (.iastore, 1) := by decide +kernel
theorem dX4_readOne_271 : decode cX4_readOne 271 = .ok (.iinc 13 1, 3) := by decide +kernel
theorem dX4_readOne_274 : decode cX4_readOne 274 = .ok (.goto (-83), 3) := by decide +kernel
theorem dX4_readOne_277 : decode cX4_readOne 277 = .ok (.iload 8, 2) := by decide +kernel
theorem dX4_readOne_279 : decode cX4_readOne 279 = .ok (.iconst (-1), 1) := by decide +kernel
theorem dX4_readOne_280 : decode cX4_readOne 280 = .ok (.if_icmp .ne 16, 3) := by decide +kernel
theorem dX4_readOne_283 : decode cX4_readOne 283 = .ok (.iload 9, 2) := by decide +kernel
theorem dX4_readOne_285 : decode cX4_readOne 285 = .ok (.ifCond .ne 7, 3) := by decide +kernel
theorem dX4_readOne_288 : decode cX4_readOne 288 = .ok (.iconst 1, 1) := by decide +kernel
theorem dX4_readOne_289 : decode cX4_readOne 289 = .ok (.goto 30, 3) := by decide +kernel
theorem dX4_readOne_292 : decode cX4_readOne 292 = .ok (.iconst 0, 1) := by decide +kernel
theorem dX4_readOne_293 : decode cX4_readOne 293 = .ok (.goto 26, 3) := by decide +kernel
theorem dX4_readOne_296 : decode cX4_readOne 296 = .ok (.iload 12, 2) := by decide +kernel
theorem dX4_readOne_298 : decode cX4_readOne 298 = .ok (.ifCond .eq 20, 3) := by decide +kernel
theorem dX4_readOne_301 : decode cX4_readOne 301 = .ok (.iload 9, 2) := by decide +kernel
theorem dX4_readOne_303 : decode cX4_readOne 303 = .ok (.ifCond .le 15, 3) := by decide +kernel
theorem dX4_readOne_306 : decode cX4_readOne 306 = .ok (.iload 9, 2) := by decide +kernel
theorem dX4_readOne_308 : decode cX4_readOne 308 = .ok (.sipush 500, 3) := by decide +kernel
theorem dX4_readOne_311 : decode cX4_readOne 311 = .ok (.if_icmp .ge 7, 3) := by decide +kernel
theorem dX4_readOne_314 : decode cX4_readOne 314 = .ok (.iconst 1, 1) := by decide +kernel
theorem dX4_readOne_315 : decode cX4_readOne 315 = .ok (.goto 4, 3) := by decide +kernel
theorem dX4_readOne_318 : decode cX4_readOne 318 = .ok (.iconst 0, 1) := by decide +kernel
theorem dX4_readOne_319 : decode cX4_readOne 319 = .ok (.ireturn, 1) := by decide +kernel
theorem dX4_within_0 : decode cX4_within 0 = .ok (.iload_n 0, 1) := by decide +kernel
theorem dX4_within_1 : decode cX4_within 1 = .ok (.ifCond .lt 12, 3) := by decide +kernel
theorem dX4_within_4 : decode cX4_within 4 = .ok (.iload_n 0, 1) := by decide +kernel
theorem dX4_within_5 : decode cX4_within 5 = .ok (.iload_n 1, 1) := by decide +kernel
theorem dX4_within_6 : decode cX4_within 6 = .ok (.if_icmp .gt 7, 3) := by decide +kernel
theorem dX4_within_9 : decode cX4_within 9 = .ok (.iconst 1, 1) := by decide +kernel
theorem dX4_within_10 : decode cX4_within 10 = .ok (.goto 4, 3) := by decide +kernel
theorem dX4_within_13 : decode cX4_within 13 = .ok (.iconst 0, 1) := by decide +kernel
theorem dX4_within_14 : decode cX4_within 14 = .ok (.ireturn, 1) := by decide +kernel
theorem dX4_take_0 : decode cX4_take 0 = .ok (.aload_n 1, 1) := by decide +kernel
theorem dX4_take_1 : decode cX4_take 1 = .ok (.aload_n 0, 1) := by decide +kernel
theorem dX4_take_2 : decode cX4_take 2 = .ok (.getfield 54, 3) := by decide +kernel
theorem dX4_take_5 : decode cX4_take 5 = .ok (.invokevirtual 72, 3) := by decide +kernel
theorem dX4_take_8 : decode cX4_take 8 = .ok (.istore_n 2, 1) := by decide +kernel
theorem dX4_take_9 : decode cX4_take 9 = .ok (.aload_n 0, 1) := by decide +kernel
theorem dX4_take_10 : decode cX4_take 10 = .ok (.dup, 1) := by decide +kernel
theorem dX4_take_11 : decode cX4_take 11 = .ok (.getfield 54, 3) := by decide +kernel
theorem dX4_take_14 : decode cX4_take 14 = .ok (.iconst 1, 1) := by decide +kernel
theorem dX4_take_15 : decode cX4_take 15 = .ok (.iadd, 1) := by decide +kernel
theorem dX4_take_16 : decode cX4_take 16 = .ok (.putfield 54, 3) := by decide +kernel
theorem dX4_take_19 : decode cX4_take 19 = .ok (.iload_n 2, 1) := by decide +kernel
theorem dX4_take_20 : decode cX4_take 20 = .ok (.ireturn, 1) := by decide +kernel
theorem dX4_takeTwo_0 : decode cX4_takeTwo 0 = .ok (.aload_n 0, 1) := by decide +kernel
theorem dX4_takeTwo_1 : decode cX4_takeTwo 1 = .ok (.aload_n 1, 1) := by decide +kernel
theorem dX4_takeTwo_2 : decode cX4_takeTwo 2 = .ok (.invokevirtual 79, 3) := by decide +kernel
theorem dX4_takeTwo_5 : decode cX4_takeTwo 5 = .ok (.istore_n 2, 1) := by decide +kernel
theorem dX4_takeTwo_6 : decode cX4_takeTwo 6 = .ok (.aload_n 0, 1) := by decide +kernel
theorem dX4_takeTwo_7 : decode cX4_takeTwo 7 = .ok (.aload_n 1, 1) := by decide +kernel
theorem dX4_takeTwo_8 : decode cX4_takeTwo 8 = .ok (.invokevirtual 79, 3) := by decide +kernel
theorem dX4_takeTwo_11 : decode cX4_takeTwo 11 = .ok (.istore_n 3, 1) := by decide +kernel
theorem dX4_takeTwo_12 : decode cX4_takeTwo 12 = .ok (.iload_n 2, 1) := by decide +kernel
theorem dX4_takeTwo_13 : decode cX4_takeTwo 13 = .ok (.iconst (-1), 1) := by decide +kernel
theorem dX4_takeTwo_14 : decode cX4_takeTwo 14 = .ok (.if_icmp .eq 8, 3) := by decide +kernel
theorem dX4_takeTwo_17 : decode cX4_takeTwo 17 = .ok (.iload_n 3, 1) := by decide +kernel
theorem dX4_takeTwo_18 : decode cX4_takeTwo 18 = .ok (.iconst (-1), 1) := by decide +kernel
theorem dX4_takeTwo_19 : decode cX4_takeTwo 19 = .ok (.if_icmp .ne 7, 3) := by decide +kernel
theorem dX4_takeTwo_22 : decode cX4_takeTwo 22 = .ok (.iconst (-1), 1) := by decide +kernel
theorem dX4_takeTwo_23 : decode cX4_takeTwo 23 = .ok (.goto 10, 3) := by decide +kernel
theorem dX4_takeTwo_26 : decode cX4_takeTwo 26 = .ok (.iload_n 2, 1) := by decide +kernel
theorem dX4_takeTwo_27 : decode cX4_takeTwo 27 = .ok (.sipush 256, 3) := by decide +kernel
theorem dX4_takeTwo_30 : decode cX4_takeTwo 30 = .ok (.imul, 1) := by decide +kernel
theorem dX4_takeTwo_31 : decode cX4_takeTwo 31 = .ok (.iload_n 3, 1) := by decide +kernel
theorem dX4_takeTwo_32 : decode cX4_takeTwo 32 = .ok (.iadd, 1) := by decide +kernel
theorem dX4_takeTwo_33 : decode cX4_takeTwo 33 = .ok (.ireturn, 1) := by decide +kernel
theorem dX4_checkOf_0 : decode cX4_checkOf 0 = .ok (.bipush 83, 2) := by decide +kernel
theorem dX4_checkOf_2 : decode cX4_checkOf 2 = .ok (.istore_n 1, 1) := by decide +kernel
theorem dX4_checkOf_3 : decode cX4_checkOf 3 = .ok (.iconst 0, 1) := by decide +kernel
theorem dX4_checkOf_4 : decode cX4_checkOf 4 = .ok (.istore_n 2, 1) := by decide +kernel
theorem dX4_checkOf_5 : decode cX4_checkOf 5 = .ok (.iload_n 2, 1) := by decide +kernel
theorem dX4_checkOf_6 : decode cX4_checkOf 6 = .ok (.aload_n 0, 1) := by decide +kernel
theorem dX4_checkOf_7 : decode cX4_checkOf 7 = .ok (.getfield 69, 3) := by decide +kernel
theorem dX4_checkOf_10 : decode cX4_checkOf 10 = .ok (.iconst 1, 1) := by decide +kernel
theorem dX4_checkOf_11 : decode cX4_checkOf 11 = .ok (.isub, 1) := by decide +kernel
theorem dX4_checkOf_12 : decode cX4_checkOf 12 = .ok (.if_icmp .ge 23, 3) := by decide +kernel
theorem dX4_checkOf_15 : decode cX4_checkOf 15 = .ok (.iconst 5, 1) := by decide +kernel
theorem dX4_checkOf_16 : decode cX4_checkOf 16 = .ok (.iload_n 1, 1) := by decide +kernel
theorem dX4_checkOf_17 : decode cX4_checkOf 17 = .ok (.imul, 1) := by decide +kernel
theorem dX4_checkOf_18 : decode cX4_checkOf 18 = .ok (.aload_n 0, 1) := by decide +kernel
theorem dX4_checkOf_19 : decode cX4_checkOf 19 = .ok (.iload_n 2, 1) := by decide +kernel
theorem dX4_checkOf_20 : decode cX4_checkOf 20 = .ok (.invokevirtual 72, 3) := by decide +kernel
theorem dX4_checkOf_23 : decode cX4_checkOf 23 = .ok (.iadd, 1) := by decide +kernel
theorem dX4_checkOf_24 : decode cX4_checkOf 24 = .ok (.sipush 251, 3) := by decide +kernel
theorem dX4_checkOf_27 : decode cX4_checkOf 27 = .ok (.irem, 1) := by decide +kernel
theorem dX4_checkOf_28 : decode cX4_checkOf 28 = .ok (.istore_n 1, 1) := by decide +kernel
theorem dX4_checkOf_29 : decode cX4_checkOf 29 = .ok (.iinc 2 1, 3) := by decide +kernel
theorem dX4_checkOf_32 : decode cX4_checkOf 32 = .ok (.goto (-27), 3) := by decide +kernel
theorem dX4_checkOf_35 : decode cX4_checkOf 35 = .ok (.iload_n 1, 1) := by decide +kernel
theorem dX4_checkOf_36 : decode cX4_checkOf 36 = .ok (.ireturn, 1) := by decide +kernel
