theorem dX11_init_0 : decode cX11_init 0 = .ok (.aload_n 0, 1) := by decide +kernel
theorem dX11_init_1 : decode cX11_init 1 = .ok (.invokespecial 1, 3) := by decide +kernel
theorem dX11_init_4 : decode cX11_init 4 = .ok (.aload_n 0, 1) := by decide +kernel
theorem dX11_init_5 : decode cX11_init 5 = .ok (.new 7, 3) := by decide +kernel
theorem dX11_init_8 : decode cX11_init 8 = .ok (.dup, 1) := by decide +kernel
theorem dX11_init_9 : decode cX11_init 9 = .ok (.invokespecial 9, 3) := by decide +kernel
theorem dX11_init_12 : decode cX11_init 12 = .ok (.putfield 10, 3) := by decide +kernel
theorem dX11_init_15 : decode cX11_init 15 = .ok (.aload_n 0, 1) := by decide +kernel
theorem dX11_init_16 : decode cX11_init 16 = .ok (.new 16, 3) := by decide +kernel
theorem dX11_init_19 : decode cX11_init 19 = .ok (.dup, 1) := by decide +kernel
theorem dX11_init_20 : decode cX11_init 20 = .ok (.aload_n 0, 1) := by decide +kernel
theorem dX11_init_21 : decode cX11_init 21 = .ok (.getfield 10, 3) := by decide +kernel
theorem dX11_init_24 : decode cX11_init 24 = .ok (.invokespecial 18, 3) := by decide +kernel
theorem dX11_init_27 : decode cX11_init 27 = .ok (.putfield 21, 3) := by decide +kernel
theorem dX11_init_30 : decode cX11_init 30 = .ok (.aload_n 0, 1) := by decide +kernel
theorem dX11_init_31 : decode cX11_init 31 = .ok (.new 25, 3) := by decide +kernel
theorem dX11_init_34 : decode cX11_init 34 = .ok (.dup, 1) := by decide +kernel
theorem dX11_init_35 : decode cX11_init 35 = .ok (.new 27, 3) := by decide +kernel
theorem dX11_init_38 : decode cX11_init 38 = .ok (.dup, 1) := by decide +kernel
theorem dX11_init_39 : decode cX11_init 39 = .ok (.invokespecial 29, 3) := by decide +kernel
theorem dX11_init_42 : decode cX11_init 42 = .ok (.invokespecial 30, 3) := by decide +kernel
theorem dX11_init_45 : decode cX11_init 45 = .ok (.putfield 33, 3) := by decide +kernel
theorem dX11_init_48 : decode cX11_init 48 = .ok (.aload_n 0, 1) := by decide +kernel
theorem dX11_init_49 : decode cX11_init 49 = .ok (.new 27, 3) := by decide +kernel
theorem dX11_init_52 : decode cX11_init 52 = .ok (.dup, 1) := by decide +kernel
theorem dX11_init_53 : decode cX11_init 53 = .ok (.invokespecial 29, 3) := by decide +kernel
theorem dX11_init_56 : decode cX11_init 56 = .ok (.putfield 37, 3) := by decide +kernel
theorem dX11_init_59 : decode cX11_init 59 = .ok (.aload_n 0, 1) := by decide +kernel
theorem dX11_init_60 : decode cX11_init 60 = .ok (.new 41, 3) := by decide +kernel
theorem dX11_init_63 : decode cX11_init 63 = .ok (.dup, 1) := by decide +kernel
theorem dX11_init_64 : decode cX11_init 64 = .ok (.aload_n 0, 1) := by decide +kernel
theorem dX11_init_65 : decode cX11_init 65 = .ok (.getfield 33, 3) := by decide +kernel
theorem dX11_init_68 : decode cX11_init 68 = .ok (.invokespecial 43, 3) := by decide +kernel
theorem dX11_init_71 : decode cX11_init 71 = .ok (.putfield 46, 3) := by decide +kernel
theorem dX11_init_74 : decode cX11_init 74 = .ok (.new 50, 3) := by decide +kernel
theorem dX11_init_77 : decode cX11_init 77 = .ok (.dup, 1) := by decide +kernel
theorem dX11_init_78 : decode cX11_init 78 = .ok (.aload_n 0, 1) := by decide +kernel
theorem dX11_init_79 : decode cX11_init 79 = .ok (.getfield 33, 3) := by decide +kernel
theorem dX11_init_82 : decode cX11_init 82 = .ok (.aload_n 0, 1) := by decide +kernel
theorem dX11_init_83 : decode cX11_init 83 = .ok (.getfield 46, 3) := by decide +kernel
theorem dX11_init_86 : decode cX11_init 86 = .ok (.invokespecial 52, 3) := by decide +kernel
theorem dX11_init_89 : decode cX11_init 89 = .ok (.astore_n 1, 1) := by decide +kernel
theorem dX11_init_90 : decode cX11_init 90 = .ok (.aload_n 0, 1) := by decide +kernel
theorem dX11_init_91 : decode cX11_init 91 = .ok (.new 55, 3) := by decide +kernel
theorem dX11_init_94 : decode cX11_init 94 = .ok (.dup, 1) := by decide +kernel
theorem dX11_init_95 : decode cX11_init 95 = .ok (.aload_n 0, 1) := by decide +kernel
theorem dX11_init_96 : decode cX11_init 96 = .ok (.getfield 33, 3) := by decide +kernel
theorem dX11_init_99 : decode cX11_init 99 = .ok (.aload_n 0, 1) := by decide +kernel
theorem dX11_init_100 : decode cX11_init 100 = .ok (.getfield 46, 3) := by decide +kernel
theorem dX11_init_103 : decode cX11_init 103 = .ok (.aload_n 1, 1) := by decide +kernel
theorem dX11_init_104 : decode cX11_init 104 = .ok (.invokespecial 57, 3) := by decide +kernel
theorem dX11_init_107 : decode cX11_init 107 = .ok (.putfield 60, 3) := by decide +kernel
theorem dX11_init_110 : decode cX11_init 110 = .ok (.aload_n 0, 1) := by decide +kernel
theorem dX11_init_111 : decode cX11_init 111 = .ok (.new 64, 3) := by decide +kernel
theorem dX11_init_114 : decode cX11_init 114 = .ok (.dup, 1) := by decide +kernel
theorem dX11_init_115 : decode cX11_init 115 = .ok (.aload_n 0, 1) := by decide +kernel
theorem dX11_init_116 : decode cX11_init 116 = .ok (.getfield 33, 3) := by decide +kernel
theorem dX11_init_119 : decode cX11_init 119 = .ok (.aload_n 0, 1) := by decide +kernel
theorem dX11_init_120 : decode cX11_init 120 = .ok (.getfield 46, 3) := by decide +kernel
theorem dX11_init_123 : decode cX11_init 123 = .ok (.invokespecial 66, 3) := by decide +kernel
theorem dX11_init_126 : decode cX11_init 126 = .ok (.putfield 67, 3) := by decide +kernel
theorem dX11_init_129 : decode cX11_init 129 = .ok (.aload_n 0, 1) := by decide +kernel
theorem dX11_init_130 : decode cX11_init 130 = .ok (.new 71, 3) := by decide +kernel
theorem dX11_init_133 : decode cX11_init 133 = .ok (.dup, 1) := by decide +kernel
theorem dX11_init_134 : decode cX11_init 134 = .ok (.aload_n 0, 1) := by decide +kernel
theorem dX11_init_135 : decode cX11_init 135 = .ok (.getfield 33, 3) := by decide +kernel
theorem dX11_init_138 : decode cX11_init 138 = .ok (.aload_n 0, 1) := by decide +kernel
theorem dX11_init_139 : decode cX11_init 139 = .ok (.getfield 46, 3) := by decide +kernel
theorem dX11_init_142 : decode cX11_init 142 = .ok (.aload_n 0, 1) := by decide +kernel
theorem dX11_init_143 : decode cX11_init 143 = .ok (.getfield 67, 3) := by decide +kernel
theorem dX11_init_146 : decode cX11_init 146 = .ok (.invokespecial 73, 3) := by decide +kernel
theorem dX11_init_149 : decode cX11_init 149 = .ok (.putfield 76, 3) := by decide +kernel
theorem dX11_init_152 : decode cX11_init 152 = .ok (.aload_n 0, 1) := by decide +kernel
theorem dX11_init_153 : decode cX11_init 153 = .ok (.new 80, 3) := by decide +kernel
theorem dX11_init_156 : decode cX11_init 156 = .ok (.dup, 1) := by decide +kernel
theorem dX11_init_157 : decode cX11_init 157 = .ok (.aload_n 0, 1) := by decide +kernel
theorem dX11_init_158 : decode cX11_init 158 = .ok (.getfield 33, 3) := by decide +kernel
theorem dX11_init_161 : decode cX11_init 161 = .ok (.aload_n 0, 1) := by decide +kernel
theorem dX11_init_162 : decode cX11_init 162 = .ok (.getfield 46, 3) := by decide +kernel
theorem dX11_init_165 : decode cX11_init 165 = .ok (.aload_n 1, 1) := by decide +kernel
theorem dX11_init_166 : decode cX11_init 166 = .ok (.invokespecial 82, 3) := by decide +kernel
theorem dX11_init_169 : decode cX11_init 169 = .ok (.putfield 83, 3) := by decide +kernel
theorem dX11_init_172 : decode cX11_init 172 = .ok (.aload_n 0, 1) := by decide +kernel
theorem dX11_init_173 : decode cX11_init 173 = .ok (.new 87, 3) := by decide +kernel
theorem dX11_init_176 : decode cX11_init 176 = .ok (.dup, 1) := by decide +kernel
theorem dX11_init_177 : decode cX11_init 177 = .ok (.invokespecial 89, 3) := by decide +kernel
theorem dX11_init_180 : decode cX11_init 180 = .ok (.putfield 90, 3) := by decide +kernel
theorem dX11_init_183 : decode cX11_init 183 = .ok (.aload_n 0, 1) := by decide +kernel
theorem dX11_init_184 : decode cX11_init 184 = .ok (.bipush 6, 2) := by decide +kernel
theorem dX11_init_186 : decode cX11_init 186 = .ok (.newarray .int, 2) := by decide +kernel
theorem dX11_init_188 : decode cX11_init 188 = .ok (.putfield 94, 3) := by decide +kernel
theorem dX11_init_191 : decode cX11_init 191 = .ok (.aload_n 0, 1) := by decide +kernel
theorem dX11_init_192 : decode cX11_init 192 = .ok (.iconst 1, 1) := by decide +kernel
theorem dX11_init_193 : decode cX11_init 193 = .ok (.putfield 98, 3) := by decide +kernel
theorem dX11_init_196 : decode cX11_init 196 = .ok (.return_, 1) := by decide +kernel
theorem dX11_feed_0 : decode cX11_feed 0 = .ok (.aload_n 0, 1) := by decide +kernel
theorem dX11_feed_1 : decode cX11_feed 1 = .ok (.getfield 10, 3) := by decide +kernel
theorem dX11_feed_4 : decode cX11_feed 4 = .ok (.getfield 102, 3) := by decide +kernel
theorem dX11_feed_7 : decode cX11_feed 7 = .ok (.bipush 20, 2) := by decide +kernel
theorem dX11_feed_9 : decode cX11_feed 9 = .ok (.iadd, 1) := by decide +kernel
theorem dX11_feed_10 : decode cX11_feed 10 = .ok (.sipush 1600, 3) := by decide +kernel
theorem dX11_feed_13 : decode cX11_feed 13 = .ok (.if_icmp .le 9, 3) := by decide +kernel
theorem dX11_feed_16 : decode cX11_feed 16 = .ok (.aload_n 0, 1) := by decide +kernel
theorem dX11_feed_17 : decode cX11_feed 17 = .ok (.iconst 0, 1) := by decide +kernel
theorem dX11_feed_18 : decode cX11_feed 18 = .ok (.invokevirtual 105, 3) := by decide +kernel
theorem dX11_feed_21 : decode cX11_feed 21 = .ok (.ireturn, 1) := by decide +kernel
theorem dX11_feed_22 : decode cX11_feed 22 = .ok (.aload_n 0, 1) := by decide +kernel
theorem dX11_feed_23 : decode cX11_feed 23 = .ok (.getfield 10, 3) := by decide +kernel
theorem dX11_feed_26 : decode cX11_feed 26 = .ok (.iload_n 1, 1) := by decide +kernel
theorem dX11_feed_27 : decode cX11_feed 27 = .ok (.invokevirtual 109, 3) := by decide +kernel
theorem dX11_feed_30 : decode cX11_feed 30 = .ok (.aload_n 0, 1) := by decide +kernel
theorem dX11_feed_31 : decode cX11_feed 31 = .ok (.getfield 10, 3) := by decide +kernel
theorem dX11_feed_34 : decode cX11_feed 34 = .ok (.iload_n 2, 1) := by decide +kernel
theorem dX11_feed_35 : decode cX11_feed 35 = .ok (.invokevirtual 109, 3) := by decide +kernel
theorem dX11_feed_38 : decode cX11_feed 38 = .ok (.aload_n 0, 1) := by decide +kernel
theorem dX11_feed_39 : decode cX11_feed 39 = .ok (.getfield 10, 3) := by decide +kernel
theorem dX11_feed_42 : decode cX11_feed 42 = .ok (.iload_n 3, 1) := by decide +kernel
theorem dX11_feed_43 : decode cX11_feed 43 = .ok (.invokevirtual 109, 3) := by decide +kernel
theorem dX11_feed_46 : decode cX11_feed 46 = .ok (.aload_n 0, 1) := by decide +kernel
theorem dX11_feed_47 : decode cX11_feed 47 = .ok (.getfield 10, 3) := by decide +kernel
theorem dX11_feed_50 : decode cX11_feed 50 = .ok (.iload 4, 2) := by decide +kernel
theorem dX11_feed_52 : decode cX11_feed 52 = .ok (.invokevirtual 109, 3) := by decide +kernel
theorem dX11_feed_55 : decode cX11_feed 55 = .ok (.aload_n 0, 1) := by decide +kernel
theorem dX11_feed_56 : decode cX11_feed 56 = .ok (.getfield 10, 3) := by decide +kernel
theorem dX11_feed_59 : decode cX11_feed 59 = .ok (.iload 5, 2) := by decide +kernel
theorem dX11_feed_61 : decode cX11_feed 61 = .ok (.invokevirtual 109, 3) := by decide +kernel
theorem dX11_feed_64 : decode cX11_feed 64 = .ok (.aload_n 0, 1) := by decide +kernel
theorem dX11_feed_65 : decode cX11_feed 65 = .ok (.getfield 10, 3) := by decide +kernel
theorem dX11_feed_68 : decode cX11_feed 68 = .ok (.getfield 102, 3) := by decide +kernel
theorem dX11_feed_71 : decode cX11_feed 71 = .ok (.ireturn, 1) := by decide +kernel
theorem dX11_end_0 : decode cX11_end 0 = .ok (.iload_n 1, 1) := by decide +kernel
theorem dX11_end_1 : decode cX11_end 1 = .ok (.ifCond .lt 14, 3) := by decide +kernel
theorem dX11_end_4 : decode cX11_end 4 = .ok (.iload_n 1, 1) := by decide +kernel
theorem dX11_end_5 : decode cX11_end 5 = .ok (.aload_n 0, 1) := by decide +kernel
theorem dX11_end_6 : decode cX11_end 6 = .ok (.getfield 10, 3) := by decide +kernel
theorem dX11_end_9 : decode cX11_end 9 = .ok (.getfield 102, 3) := by decide +kernel
theorem dX11_end_12 : decode cX11_end 12 = .ok (.if_icmp .le 9, 3) := by decide +kernel
theorem dX11_end_15 : decode cX11_end 15 = .ok (.aload_n 0, 1) := by decide +kernel
theorem dX11_end_16 : decode cX11_end 16 = .ok (.iconst 0, 1) := by decide +kernel
theorem dX11_end_17 : decode cX11_end 17 = .ok (.invokevirtual 113, 3) := by decide +kernel
theorem dX11_end_20 : decode cX11_end 20 = .ok (.ireturn, 1) := by decide +kernel
theorem dX11_end_21 : decode cX11_end 21 = .ok (.aload_n 0, 1) := by decide +kernel
theorem dX11_end_22 : decode cX11_end 22 = .ok (.getfield 10, 3) := by decide +kernel
theorem dX11_end_25 : decode cX11_end 25 = .ok (.iload_n 1, 1) := by decide +kernel
theorem dX11_end_26 : decode cX11_end 26 = .ok (.putfield 102, 3) := by decide +kernel
theorem dX11_end_29 : decode cX11_end 29 = .ok (.iconst 1, 1) := by decide +kernel
theorem dX11_end_30 : decode cX11_end 30 = .ok (.ireturn, 1) := by decide +kernel
theorem dX11_library_0 : decode cX11_library 0 = .ok (.aload_n 0, 1) := by decide +kernel
theorem dX11_library_1 : decode cX11_library 1 = .ok (.getfield 21, 3) := by decide +kernel
theorem dX11_library_4 : decode cX11_library 4 = .ok (.aload_n 0, 1) := by decide +kernel
theorem dX11_library_5 : decode cX11_library 5 = .ok (.getfield 37, 3) := by decide +kernel
theorem dX11_library_8 : decode cX11_library 8 = .ok (.invokevirtual 117, 3) := by decide +kernel
theorem dX11_library_11 : decode cX11_library 11 = .ok (.istore_n 1, 1) := by decide +kernel
theorem dX11_library_12 : decode cX11_library 12 = .ok (.aload_n 0, 1) := by decide +kernel
theorem dX11_library_13 : decode cX11_library 13 = .ok (.getfield 10, 3) := by decide +kernel
theorem dX11_library_16 : decode cX11_library 16 = .ok (.iconst 0, 1) := by decide +kernel
theorem dX11_library_17 : decode cX11_library 17 = .ok (.putfield 102, 3) := by decide +kernel
theorem dX11_library_20 : decode cX11_library 20 = .ok (.iload_n 1, 1) := by decide +kernel
theorem dX11_library_21 : decode cX11_library 21 = .ok (.iconst (-1), 1) := by decide +kernel
theorem dX11_library_22 : decode cX11_library 22 = .ok (.if_icmp .ne 9, 3) := by decide +kernel
theorem dX11_library_25 : decode cX11_library 25 = .ok (.aload_n 0, 1) := by decide +kernel
theorem dX11_library_26 : decode cX11_library 26 = .ok (.iconst 1, 1) := by decide +kernel
theorem dX11_library_27 : decode cX11_library 27 = .ok (.invokevirtual 105, 3) := by decide +kernel
theorem dX11_library_30 : decode cX11_library 30 = .ok (.ireturn, 1) := by decide +kernel
theorem dX11_library_31 : decode cX11_library 31 = .ok (.aload_n 0, 1) := by decide +kernel
theorem dX11_library_32 : decode cX11_library 32 = .ok (.getfield 33, 3) := by decide +kernel
theorem dX11_library_35 : decode cX11_library 35 = .ok (.getfield 121, 3) := by decide +kernel
theorem dX11_library_38 : decode cX11_library 38 = .ok (.astore_n 2, 1) := by decide +kernel
theorem dX11_library_39 : decode cX11_library 39 = .ok (.aload_n 0, 1) := by decide +kernel
theorem dX11_library_40 : decode cX11_library 40 = .ok (.getfield 33, 3) := by decide +kernel
theorem dX11_library_43 : decode cX11_library 43 = .ok (.aload_n 0, 1) := by decide +kernel
theorem dX11_library_44 : decode cX11_library 44 = .ok (.getfield 37, 3) := by decide +kernel
theorem dX11_library_47 : decode cX11_library 47 = .ok (.invokevirtual 124, 3) := by decide +kernel
theorem dX11_library_50 : decode cX11_library 50 = .ok (.aload_n 0, 1) := by decide +kernel
theorem dX11_library_51 : decode cX11_library 51 = .ok (.aload_n 2, 1) := by decide +kernel
theorem dX11_library_52 : decode cX11_library 52 = .ok (.putfield 37, 3) := by decide +kernel
theorem dX11_library_55 : decode cX11_library 55 = .ok (.iload_n 1, 1) := by decide +kernel
theorem dX11_library_56 : decode cX11_library 56 = .ok (.ireturn, 1) := by decide +kernel
theorem dX11_fault_0 : decode cX11_fault 0 = .ok (.iload_n 1, 1) := by decide +kernel
theorem dX11_fault_1 : decode cX11_fault 1 = .ok (.lookupswitch 43 #[(0, 27), (1, 35)], 27) := by decide +kernel
theorem dX11_fault_28 : decode cX11_fault 28 = .ok (.aload_n 0, 1) := by decide +kernel
theorem dX11_fault_29 : decode cX11_fault 29 = .ok (.getfield 21, 3) := by decide +kernel
theorem dX11_fault_32 : decode cX11_fault 32 = .ok (.getfield 127, 3) := by decide +kernel
theorem dX11_fault_35 : decode cX11_fault 35 = .ok (.ireturn, 1) := by decide +kernel
theorem dX11_fault_36 : decode cX11_fault 36 = .ok (.aload_n 0, 1) := by decide +kernel
theorem dX11_fault_37 : decode cX11_fault 37 = .ok (.getfield 21, 3) := by decide +kernel
theorem dX11_fault_40 : decode cX11_fault 40 = .ok (.getfield 130, 3) := by decide +kernel
theorem dX11_fault_43 : decode cX11_fault 43 = .ok (.ireturn, 1) := by decide +kernel
theorem dX11_fault_44 : decode cX11_fault 44 = .ok (.iconst (-1), 1) := by decide +kernel
theorem dX11_fault_45 : decode cX11_fault 45 = .ok (.ireturn, 1) := by decide +kernel
theorem dX11_has_0 : decode cX11_has 0 = .ok (.iload_n 1, 1) := by decide +kernel
theorem dX11_has_1 : decode cX11_has 1 = .ok (.tableswitch 186 0 11 #[63, 76, 89, 100, 113, 126, 137, 147, 157, 165, 173, 181], 63) := by decide +kernel
theorem dX11_has_64 : decode cX11_has 64 = .ok (.aload_n 0, 1) := by decide +kernel
theorem dX11_has_65 : decode cX11_has 65 = .ok (.getfield 33, 3) := by decide +kernel
theorem dX11_has_68 : decode cX11_has 68 = .ok (.getfield 121, 3) := by decide +kernel
theorem dX11_has_71 : decode cX11_has 71 = .ok (.getfield 133, 3) := by decide +kernel
theorem dX11_has_74 : decode cX11_has 74 = .ok (.iconst 0, 1) := by decide +kernel
theorem dX11_has_75 : decode cX11_has 75 = .ok (.iaload, 1) := by decide +kernel
theorem dX11_has_76 : decode cX11_has 76 = .ok (.ireturn, 1) := by decide +kernel
theorem dX11_has_77 : decode cX11_has 77 = .ok (.aload_n 0, 1) := by decide +kernel
theorem dX11_has_78 : decode cX11_has 78 = .ok (.getfield 33, 3) := by decide +kernel
theorem dX11_has_81 : decode cX11_has 81 = .ok (.getfield 121, 3) := by decide +kernel
theorem dX11_has_84 : decode cX11_has 84 = .ok (.getfield 133, 3) := by decide +kernel
theorem dX11_has_87 : decode cX11_has 87 = .ok (.iconst 1, 1) := by decide +kernel
theorem dX11_has_88 : decode cX11_has 88 = .ok (.iaload, 1) := by decide +kernel
theorem dX11_has_89 : decode cX11_has 89 = .ok (.ireturn, 1) := by decide +kernel
theorem dX11_has_90 : decode cX11_has 90 = .ok (.aload_n 0, 1) := by decide +kernel
theorem dX11_has_91 : decode cX11_has 91 = .ok (.getfield 33, 3) := by decide +kernel
theorem dX11_has_94 : decode cX11_has 94 = .ok (.getfield 121, 3) := by decide +kernel
theorem dX11_has_97 : decode cX11_has 97 = .ok (.getfield 136, 3) := by decide +kernel
theorem dX11_has_100 : decode cX11_has 100 = .ok (.ireturn, 1) := by decide +kernel
theorem dX11_has_101 : decode cX11_has 101 = .ok (.aload_n 0, 1) := by decide +kernel
theorem dX11_has_102 : decode cX11_has 102 = .ok (.getfield 33, 3) := by decide +kernel
theorem dX11_has_105 : decode cX11_has 105 = .ok (.getfield 121, 3) := by decide +kernel
theorem dX11_has_108 : decode cX11_has 108 = .ok (.getfield 133, 3) := by decide +kernel
theorem dX11_has_111 : decode cX11_has 111 = .ok (.iconst 2, 1) := by decide +kernel
theorem dX11_has_112 : decode cX11_has 112 = .ok (.iaload, 1) := by decide +kernel
theorem dX11_has_113 : decode cX11_has 113 = .ok (.ireturn, 1) := by decide +kernel
theorem dX11_has_114 : decode cX11_has 114 = .ok (.aload_n 0, 1) := by decide +kernel
theorem dX11_has_115 : decode cX11_has 115 = .ok (.getfield 33, 3) := by decide +kernel
theorem dX11_has_118 : decode cX11_has 118 = .ok (.getfield 121, 3) := by decide +kernel
theorem dX11_has_121 : decode cX11_has 121 = .ok (.getfield 133, 3) := by decide +kernel
theorem dX11_has_124 : decode cX11_has 124 = .ok (.iconst 3, 1) := by decide +kernel
theorem dX11_has_125 : decode cX11_has 125 = .ok (.iaload, 1) := by decide +kernel
theorem dX11_has_126 : decode cX11_has 126 = .ok (.ireturn, 1) := by decide +kernel
theorem dX11_has_127 : decode cX11_has 127 = .ok (.aload_n 0, 1) := by decide +kernel
theorem dX11_has_128 : decode cX11_has 128 = .ok (.getfield 33, 3) := by decide +kernel
theorem dX11_has_131 : decode cX11_has 131 = .ok (.getfield 121, 3) := by decide +kernel
theorem dX11_has_134 : decode cX11_has 134 = .ok (.getfield 139, 3) := by decide +kernel
theorem dX11_has_137 : decode cX11_has 137 = .ok (.ireturn, 1) := by decide +kernel
theorem dX11_has_138 : decode cX11_has 138 = .ok (.aload_n 0, 1) := by decide +kernel
theorem dX11_has_139 : decode cX11_has 139 = .ok (.getfield 33, 3) := by decide +kernel
theorem dX11_has_142 : decode cX11_has 142 = .ok (.getfield 142, 3) := by decide +kernel
theorem dX11_has_145 : decode cX11_has 145 = .ok (.iconst 0, 1) := by decide +kernel
theorem dX11_has_146 : decode cX11_has 146 = .ok (.iaload, 1) := by decide +kernel
theorem dX11_has_147 : decode cX11_has 147 = .ok (.ireturn, 1) := by decide +kernel
theorem dX11_has_148 : decode cX11_has 148 = .ok (.aload_n 0, 1) := by decide +kernel
theorem dX11_has_149 : decode cX11_has 149 = .ok (.getfield 33, 3) := by decide +kernel
theorem dX11_has_152 : decode cX11_has 152 = .ok (.getfield 142, 3) := by decide +kernel
theorem dX11_has_155 : decode cX11_has 155 = .ok (.iconst 1, 1) := by decide +kernel
theorem dX11_has_156 : decode cX11_has 156 = .ok (.iaload, 1) := by decide +kernel
theorem dX11_has_157 : decode cX11_has 157 = .ok (.ireturn, 1) := by decide +kernel
theorem dX11_has_158 : decode cX11_has 158 = .ok (.aload_n 0, 1) := by decide +kernel
theorem dX11_has_159 : decode cX11_has 159 = .ok (.getfield 33, 3) := by decide +kernel
theorem dX11_has_162 : decode cX11_has 162 = .ok (.invokevirtual 145, 3) := by decide +kernel
theorem dX11_has_165 : decode cX11_has 165 = .ok (.ireturn, 1) := by decide +kernel
theorem dX11_has_166 : decode cX11_has 166 = .ok (.aload_n 0, 1) := by decide +kernel
theorem dX11_has_167 : decode cX11_has 167 = .ok (.getfield 33, 3) := by decide +kernel
theorem dX11_has_170 : decode cX11_has 170 = .ok (.invokevirtual 149, 3) := by decide +kernel
theorem dX11_has_173 : decode cX11_has 173 = .ok (.ireturn, 1) := by decide +kernel
theorem dX11_has_174 : decode cX11_has 174 = .ok (.aload_n 0, 1) := by decide +kernel
theorem dX11_has_175 : decode cX11_has 175 = .ok (.getfield 33, 3) := by decide +kernel
theorem dX11_has_178 : decode cX11_has 178 = .ok (.getfield 152, 3) := by decide +kernel
theorem dX11_has_181 : decode cX11_has 181 = .ok (.ireturn, 1) := by decide +kernel
theorem dX11_has_182 : decode cX11_has 182 = .ok (.aload_n 0, 1) := by decide +kernel
theorem dX11_has_183 : decode cX11_has 183 = .ok (.getfield 98, 3) := by decide +kernel
theorem dX11_has_186 : decode cX11_has 186 = .ok (.ireturn, 1) := by decide +kernel
theorem dX11_has_187 : decode cX11_has 187 = .ok (.iconst (-1), 1) := by decide +kernel
theorem dX11_has_188 : decode cX11_has 188 = .ok (.ireturn, 1) := by decide +kernel
theorem dX11_letter_0 : decode cX11_letter 0 = .ok (.iload_n 1, 1) := by decide +kernel
theorem dX11_letter_1 : decode cX11_letter 1 = .ok (.ifCond .lt 33, 3) := by decide +kernel
theorem dX11_letter_4 : decode cX11_letter 4 = .ok (.iload_n 1, 1) := by decide +kernel
theorem dX11_letter_5 : decode cX11_letter 5 = .ok (.iconst 4, 1) := by decide +kernel
theorem dX11_letter_6 : decode cX11_letter 6 = .ok (.if_icmp .ge 28, 3) := by decide +kernel
theorem dX11_letter_9 : decode cX11_letter 9 = .ok (.iload_n 3, 1) := by decide +kernel
theorem dX11_letter_10 : decode cX11_letter 10 = .ok (.ifCond .lt 24, 3) := by decide +kernel
theorem dX11_letter_13 : decode cX11_letter 13 = .ok (.iload_n 3, 1) := by decide +kernel
theorem dX11_letter_14 : decode cX11_letter 14 = .ok (.bipush 6, 2) := by decide +kernel
theorem dX11_letter_16 : decode cX11_letter 16 = .ok (.if_icmp .ge 18, 3) := by decide +kernel
theorem dX11_letter_19 : decode cX11_letter 19 = .ok (.aload_n 0, 1) := by decide +kernel
theorem dX11_letter_20 : decode cX11_letter 20 = .ok (.getfield 33, 3) := by decide +kernel
theorem dX11_letter_23 : decode cX11_letter 23 = .ok (.getfield 121, 3) := by decide +kernel
theorem dX11_letter_26 : decode cX11_letter 26 = .ok (.iload_n 1, 1) := by decide +kernel
theorem dX11_letter_27 : decode cX11_letter 27 = .ok (.iload_n 2, 1) := by decide +kernel
theorem dX11_letter_28 : decode cX11_letter 28 = .ok (.invokevirtual 155, 3) := by decide +kernel
theorem dX11_letter_31 : decode cX11_letter 31 = .ok (.ifCond .ne 5, 3) := by decide +kernel
theorem dX11_letter_34 : decode cX11_letter 34 = .ok (.iconst (-1), 1) := by decide +kernel
theorem dX11_letter_35 : decode cX11_letter 35 = .ok (.ireturn, 1) := by decide +kernel
theorem dX11_letter_36 : decode cX11_letter 36 = .ok (.aload_n 0, 1) := by decide +kernel
theorem dX11_letter_37 : decode cX11_letter 37 = .ok (.getfield 33, 3) := by decide +kernel
theorem dX11_letter_40 : decode cX11_letter 40 = .ok (.getfield 121, 3) := by decide +kernel
theorem dX11_letter_43 : decode cX11_letter 43 = .ok (.getfield 159, 3) := by decide +kernel
theorem dX11_letter_46 : decode cX11_letter 46 = .ok (.getstatic 162, 3) := by decide +kernel
theorem dX11_letter_49 : decode cX11_letter 49 = .ok (.iload_n 1, 1) := by decide +kernel
theorem dX11_letter_50 : decode cX11_letter 50 = .ok (.iaload, 1) := by decide +kernel
theorem dX11_letter_51 : decode cX11_letter 51 = .ok (.iload_n 2, 1) := by decide +kernel
theorem dX11_letter_52 : decode cX11_letter 52 = .ok (.iadd, 1) := by decide +kernel
theorem dX11_letter_53 : decode cX11_letter 53 = .ok (.bipush 6, 2) := by decide +kernel
theorem dX11_letter_55 : decode cX11_letter 55 = .ok (.imul, 1) := by decide +kernel
theorem dX11_letter_56 : decode cX11_letter 56 = .ok (.iload_n 3, 1) := by decide +kernel
theorem dX11_letter_57 : decode cX11_letter 57 = .ok (.iadd, 1) := by decide +kernel
theorem dX11_letter_58 : decode cX11_letter 58 = .ok (.iaload, 1) := by decide +kernel
theorem dX11_letter_59 : decode cX11_letter 59 = .ok (.ireturn, 1) := by decide +kernel
theorem dX11_page_0 : decode cX11_page 0 = .ok (.aload_n 0, 1) := by decide +kernel
theorem dX11_page_1 : decode cX11_page 1 = .ok (.getfield 33, 3) := by decide +kernel
theorem dX11_page_4 : decode cX11_page 4 = .ok (.getfield 121, 3) := by decide +kernel
theorem dX11_page_7 : decode cX11_page 7 = .ok (.astore_n 3, 1) := by decide +kernel
theorem dX11_page_8 : decode cX11_page 8 = .ok (.aload_n 3, 1) := by decide +kernel
theorem dX11_page_9 : decode cX11_page 9 = .ok (.iconst 1, 1) := by decide +kernel
theorem dX11_page_10 : decode cX11_page 10 = .ok (.iload_n 1, 1) := by decide +kernel
theorem dX11_page_11 : decode cX11_page 11 = .ok (.invokevirtual 155, 3) := by decide +kernel
theorem dX11_page_14 : decode cX11_page 14 = .ok (.ifCond .ne 5, 3) := by decide +kernel
theorem dX11_page_17 : decode cX11_page 17 = .ok (.iconst (-1), 1) := by decide +kernel
theorem dX11_page_18 : decode cX11_page 18 = .ok (.ireturn, 1) := by decide +kernel
theorem dX11_page_19 : decode cX11_page 19 = .ok (.iload_n 2, 1) := by decide +kernel
theorem dX11_page_20 : decode cX11_page 20 = .ok (.tableswitch 84 0 5 #[40, 47, 54, 61, 68, 75], 40) := by decide +kernel
theorem dX11_page_60 : decode cX11_page 60 = .ok (.aload_n 3, 1) := by decide +kernel
theorem dX11_page_61 : decode cX11_page 61 = .ok (.getfield 165, 3) := by decide +kernel
theorem dX11_page_64 : decode cX11_page 64 = .ok (.iload_n 1, 1) := by decide +kernel
theorem dX11_page_65 : decode cX11_page 65 = .ok (.iaload, 1) := by decide +kernel
theorem dX11_page_66 : decode cX11_page 66 = .ok (.ireturn, 1) := by decide +kernel
theorem dX11_page_67 : decode cX11_page 67 = .ok (.aload_n 3, 1) := by decide +kernel
theorem dX11_page_68 : decode cX11_page 68 = .ok (.getfield 168, 3) := by decide +kernel
theorem dX11_page_71 : decode cX11_page 71 = .ok (.iload_n 1, 1) := by decide +kernel
theorem dX11_page_72 : decode cX11_page 72 = .ok (.iaload, 1) := by decide +kernel
theorem dX11_page_73 : decode cX11_page 73 = .ok (.ireturn, 1) := by decide +kernel
theorem dX11_page_74 : decode cX11_page 74 = .ok (.aload_n 3, 1) := by decide +kernel
theorem dX11_page_75 : decode cX11_page 75 = .ok (.getfield 171, 3) := by decide +kernel
theorem dX11_page_78 : decode cX11_page 78 = .ok (.iload_n 1, 1) := by decide +kernel
theorem dX11_page_79 : decode cX11_page 79 = .ok (.iaload, 1) := by decide +kernel
theorem dX11_page_80 : decode cX11_page 80 = .ok (.ireturn, 1) := by decide +kernel
theorem dX11_page_81 : decode cX11_page 81 = .ok (.aload_n 3, 1) := by decide +kernel
theorem dX11_page_82 : decode cX11_page 82 = .ok (.getfield 174, 3) := by decide +kernel
theorem dX11_page_85 : decode cX11_page 85 = .ok (.iload_n 1, 1) := by decide +kernel
theorem dX11_page_86 : decode cX11_page 86 = .ok (.iaload, 1) := by decide +kernel
theorem dX11_page_87 : decode cX11_page 87 = .ok (.ireturn, 1) := by decide +kernel
theorem dX11_page_88 : decode cX11_page 88 = .ok (.aload_n 3, 1) := by decide +kernel
theorem dX11_page_89 : decode cX11_page 89 = .ok (.getfield 177, 3) := by decide +kernel
theorem dX11_page_92 : decode cX11_page 92 = .ok (.iload_n 1, 1) := by decide +kernel
theorem dX11_page_93 : decode cX11_page 93 = .ok (.iaload, 1) := by decide +kernel
theorem dX11_page_94 : decode cX11_page 94 = .ok (.ireturn, 1) := by decide +kernel
theorem dX11_page_95 : decode cX11_page 95 = .ok (.aload_n 0, 1) := by decide +kernel
theorem dX11_page_96 : decode cX11_page 96 = .ok (.getfield 33, 3) := by decide +kernel
theorem dX11_page_99 : decode cX11_page 99 = .ok (.iload_n 1, 1) := by decide +kernel
theorem dX11_page_100 : decode cX11_page 100 = .ok (.invokevirtual 180, 3) := by decide +kernel
theorem dX11_page_103 : decode cX11_page 103 = .ok (.ireturn, 1) := by decide +kernel
theorem dX11_page_104 : decode cX11_page 104 = .ok (.iconst (-1), 1) := by decide +kernel
theorem dX11_page_105 : decode cX11_page 105 = .ok (.ireturn, 1) := by decide +kernel
theorem dX11_reader_0 : decode cX11_reader 0 = .ok (.aload_n 0, 1) := by decide +kernel
theorem dX11_reader_1 : decode cX11_reader 1 = .ok (.getfield 33, 3) := by decide +kernel
theorem dX11_reader_4 : decode cX11_reader 4 = .ok (.getfield 121, 3) := by decide +kernel
theorem dX11_reader_7 : decode cX11_reader 7 = .ok (.astore_n 3, 1) := by decide +kernel
theorem dX11_reader_8 : decode cX11_reader 8 = .ok (.aload_n 3, 1) := by decide +kernel
theorem dX11_reader_9 : decode cX11_reader 9 = .ok (.iconst 2, 1) := by decide +kernel
theorem dX11_reader_10 : decode cX11_reader 10 = .ok (.iload_n 1, 1) := by decide +kernel
theorem dX11_reader_11 : decode cX11_reader 11 = .ok (.invokevirtual 155, 3) := by decide +kernel
theorem dX11_reader_14 : decode cX11_reader 14 = .ok (.ifCond .ne 5, 3) := by decide +kernel
theorem dX11_reader_17 : decode cX11_reader 17 = .ok (.iconst (-1), 1) := by decide +kernel
theorem dX11_reader_18 : decode cX11_reader 18 = .ok (.ireturn, 1) := by decide +kernel
theorem dX11_reader_19 : decode cX11_reader 19 = .ok (.iload_n 2, 1) := by decide +kernel
theorem dX11_reader_20 : decode cX11_reader 20 = .ok (.tableswitch 122 0 7 #[48, 58, 65, 72, 82, 92, 102, 112], 48) := by decide +kernel
theorem dX11_reader_68 : decode cX11_reader 68 = .ok (.aload_n 0, 1) := by decide +kernel
theorem dX11_reader_69 : decode cX11_reader 69 = .ok (.getfield 33, 3) := by decide +kernel
theorem dX11_reader_72 : decode cX11_reader 72 = .ok (.iload_n 1, 1) := by decide +kernel
theorem dX11_reader_73 : decode cX11_reader 73 = .ok (.iconst 0, 1) := by decide +kernel
theorem dX11_reader_74 : decode cX11_reader 74 = .ok (.invokevirtual 183, 3) := by decide +kernel
theorem dX11_reader_77 : decode cX11_reader 77 = .ok (.ireturn, 1) := by decide +kernel
theorem dX11_reader_78 : decode cX11_reader 78 = .ok (.aload_n 3, 1) := by decide +kernel
theorem dX11_reader_79 : decode cX11_reader 79 = .ok (.getfield 187, 3) := by decide +kernel
theorem dX11_reader_82 : decode cX11_reader 82 = .ok (.iload_n 1, 1) := by decide +kernel
theorem dX11_reader_83 : decode cX11_reader 83 = .ok (.iaload, 1) := by decide +kernel
theorem dX11_reader_84 : decode cX11_reader 84 = .ok (.ireturn, 1) := by decide +kernel
theorem dX11_reader_85 : decode cX11_reader 85 = .ok (.aload_n 3, 1) := by decide +kernel
theorem dX11_reader_86 : decode cX11_reader 86 = .ok (.getfield 190, 3) := by decide +kernel
theorem dX11_reader_89 : decode cX11_reader 89 = .ok (.iload_n 1, 1) := by decide +kernel
theorem dX11_reader_90 : decode cX11_reader 90 = .ok (.iaload, 1) := by decide +kernel
theorem dX11_reader_91 : decode cX11_reader 91 = .ok (.ireturn, 1) := by decide +kernel
theorem dX11_reader_92 : decode cX11_reader 92 = .ok (.aload_n 0, 1) := by decide +kernel
theorem dX11_reader_93 : decode cX11_reader 93 = .ok (.getfield 33, 3) := by decide +kernel
theorem dX11_reader_96 : decode cX11_reader 96 = .ok (.iload_n 1, 1) := by decide +kernel
theorem dX11_reader_97 : decode cX11_reader 97 = .ok (.iconst 1, 1) := by decide +kernel
theorem dX11_reader_98 : decode cX11_reader 98 = .ok (.invokevirtual 183, 3) := by decide +kernel
theorem dX11_reader_101 : decode cX11_reader 101 = .ok (.ireturn, 1) := by decide +kernel
theorem dX11_reader_102 : decode cX11_reader 102 = .ok (.aload_n 0, 1) := by decide +kernel
theorem dX11_reader_103 : decode cX11_reader 103 = .ok (.getfield 33, 3) := by decide +kernel
theorem dX11_reader_106 : decode cX11_reader 106 = .ok (.iload_n 1, 1) := by decide +kernel
theorem dX11_reader_107 : decode cX11_reader 107 = .ok (.iconst 2, 1) := by decide +kernel
theorem dX11_reader_108 : decode cX11_reader 108 = .ok (.invokevirtual 183, 3) := by decide +kernel
theorem dX11_reader_111 : decode cX11_reader 111 = .ok (.ireturn, 1) := by decide +kernel
theorem dX11_reader_112 : decode cX11_reader 112 = .ok (.aload_n 0, 1) := by decide +kernel
theorem dX11_reader_113 : decode cX11_reader 113 = .ok (.getfield 33, 3) := by decide +kernel
theorem dX11_reader_116 : decode cX11_reader 116 = .ok (.iload_n 1, 1) := by decide +kernel
theorem dX11_reader_117 : decode cX11_reader 117 = .ok (.iconst 3, 1) := by decide +kernel
theorem dX11_reader_118 : decode cX11_reader 118 = .ok (.invokevirtual 183, 3) := by decide +kernel
theorem dX11_reader_121 : decode cX11_reader 121 = .ok (.ireturn, 1) := by decide +kernel
theorem dX11_reader_122 : decode cX11_reader 122 = .ok (.aload_n 0, 1) := by decide +kernel
theorem dX11_reader_123 : decode cX11_reader 123 = .ok (.getfield 33, 3) := by decide +kernel
theorem dX11_reader_126 : decode cX11_reader 126 = .ok (.iload_n 1, 1) := by decide +kernel
theorem dX11_reader_127 : decode cX11_reader 127 = .ok (.iconst 4, 1) := by decide +kernel
theorem dX11_reader_128 : decode cX11_reader 128 = .ok (.invokevirtual 183, 3) := by decide +kernel
theorem dX11_reader_131 : decode cX11_reader 131 = .ok (.ireturn, 1) := by decide +kernel
theorem dX11_reader_132 : decode cX11_reader 132 = .ok (.aload_n 0, 1) := by decide +kernel
theorem dX11_reader_133 : decode cX11_reader 133 = .ok (.getfield 33, 3) := by decide +kernel
theorem dX11_reader_136 : decode cX11_reader 136 = .ok (.iload_n 1, 1) := by decide +kernel
theorem dX11_reader_137 : decode cX11_reader 137 = .ok (.iconst 5, 1) := by decide +kernel
theorem dX11_reader_138 : decode cX11_reader 138 = .ok (.invokevirtual 183, 3) := by decide +kernel
theorem dX11_reader_141 : decode cX11_reader 141 = .ok (.ireturn, 1) := by decide +kernel
theorem dX11_reader_142 : decode cX11_reader 142 = .ok (.iload_n 2, 1) := by decide +kernel
theorem dX11_reader_143 : decode cX11_reader 143 = .ok (.bipush 10, 2) := by decide +kernel
theorem dX11_reader_145 : decode cX11_reader 145 = .ok (.if_icmp .ge 7, 3) := by decide +kernel
theorem dX11_reader_148 : decode cX11_reader 148 = .ok (.iconst (-1), 1) := by decide +kernel
theorem dX11_reader_149 : decode cX11_reader 149 = .ok (.goto 15, 3) := by decide +kernel
theorem dX11_reader_152 : decode cX11_reader 152 = .ok (.aload_n 0, 1) := by decide +kernel
theorem dX11_reader_153 : decode cX11_reader 153 = .ok (.getfield 33, 3) := by decide +kernel
theorem dX11_reader_156 : decode cX11_reader 156 = .ok (.iload_n 1, 1) := by decide +kernel
theorem dX11_reader_157 : decode cX11_reader 157 = .ok (.iload_n 2, 1) := by decide +kernel
theorem dX11_reader_158 : decode cX11_reader 158 = .ok (.bipush 10, 2) := by decide +kernel
theorem dX11_reader_160 : decode cX11_reader 160 = .ok (.isub, 1) := by decide +kernel
theorem dX11_reader_161 : decode cX11_reader 161 = .ok (.invokevirtual 193, 3) := by decide +kernel
theorem dX11_reader_164 : decode cX11_reader 164 = .ok (.ireturn, 1) := by decide +kernel
theorem dX11_table_0 : decode cX11_table 0 = .ok (.aload_n 0, 1) := by decide +kernel
theorem dX11_table_1 : decode cX11_table 1 = .ok (.getfield 33, 3) := by decide +kernel
theorem dX11_table_4 : decode cX11_table 4 = .ok (.getfield 121, 3) := by decide +kernel
theorem dX11_table_7 : decode cX11_table 7 = .ok (.iconst 3, 1) := by decide +kernel
theorem dX11_table_8 : decode cX11_table 8 = .ok (.iload_n 1, 1) := by decide +kernel
theorem dX11_table_9 : decode cX11_table 9 = .ok (.invokevirtual 155, 3) := by decide +kernel
theorem dX11_table_12 : decode cX11_table 12 = .ok (.ifCond .ne 5, 3) := by decide +kernel
theorem dX11_table_15 : decode cX11_table 15 = .ok (.iconst (-1), 1) := by decide +kernel
theorem dX11_table_16 : decode cX11_table 16 = .ok (.ireturn, 1) := by decide +kernel
theorem dX11_table_17 : decode cX11_table 17 = .ok (.iload_n 2, 1) := by decide +kernel
theorem dX11_table_18 : decode cX11_table 18 = .ok (.tableswitch 69 0 2 #[26, 39, 48], 26) := by decide +kernel
theorem dX11_table_44 : decode cX11_table 44 = .ok (.aload_n 0, 1) := by decide +kernel
theorem dX11_table_45 : decode cX11_table 45 = .ok (.getfield 33, 3) := by decide +kernel
theorem dX11_table_48 : decode cX11_table 48 = .ok (.getfield 121, 3) := by decide +kernel
theorem dX11_table_51 : decode cX11_table 51 = .ok (.getfield 196, 3) := by decide +kernel
theorem dX11_table_54 : decode cX11_table 54 = .ok (.iload_n 1, 1) := by decide +kernel
theorem dX11_table_55 : decode cX11_table 55 = .ok (.iaload, 1) := by decide +kernel
theorem dX11_table_56 : decode cX11_table 56 = .ok (.ireturn, 1) := by decide +kernel
theorem dX11_table_57 : decode cX11_table 57 = .ok (.aload_n 0, 1) := by decide +kernel
theorem dX11_table_58 : decode cX11_table 58 = .ok (.getfield 33, 3) := by decide +kernel
theorem dX11_table_61 : decode cX11_table 61 = .ok (.iload_n 1, 1) := by decide +kernel
theorem dX11_table_62 : decode cX11_table 62 = .ok (.invokevirtual 199, 3) := by decide +kernel
theorem dX11_table_65 : decode cX11_table 65 = .ok (.ireturn, 1) := by decide +kernel
theorem dX11_table_66 : decode cX11_table 66 = .ok (.aload_n 0, 1) := by decide +kernel
theorem dX11_table_67 : decode cX11_table 67 = .ok (.getfield 46, 3) := by decide +kernel
theorem dX11_table_70 : decode cX11_table 70 = .ok (.iload_n 1, 1) := by decide +kernel
theorem dX11_table_71 : decode cX11_table 71 = .ok (.aload_n 0, 1) := by decide +kernel
theorem dX11_table_72 : decode cX11_table 72 = .ok (.getfield 33, 3) := by decide +kernel
theorem dX11_table_75 : decode cX11_table 75 = .ok (.getfield 121, 3) := by decide +kernel
theorem dX11_table_78 : decode cX11_table 78 = .ok (.getfield 196, 3) := by decide +kernel
theorem dX11_table_81 : decode cX11_table 81 = .ok (.iload_n 1, 1) := by decide +kernel
theorem dX11_table_82 : decode cX11_table 82 = .ok (.iaload, 1) := by decide +kernel
theorem dX11_table_83 : decode cX11_table 83 = .ok (.invokevirtual 202, 3) := by decide +kernel
theorem dX11_table_86 : decode cX11_table 86 = .ok (.ireturn, 1) := by decide +kernel
theorem dX11_table_87 : decode cX11_table 87 = .ok (.iconst (-1), 1) := by decide +kernel
theorem dX11_table_88 : decode cX11_table 88 = .ok (.ireturn, 1) := by decide +kernel
theorem dX11_takes_0 : decode cX11_takes 0 = .ok (.aload_n 0, 1) := by decide +kernel
theorem dX11_takes_1 : decode cX11_takes 1 = .ok (.getfield 33, 3) := by decide +kernel
theorem dX11_takes_4 : decode cX11_takes 4 = .ok (.getfield 121, 3) := by decide +kernel
theorem dX11_takes_7 : decode cX11_takes 7 = .ok (.iconst 2, 1) := by decide +kernel
theorem dX11_takes_8 : decode cX11_takes 8 = .ok (.iload_n 1, 1) := by decide +kernel
theorem dX11_takes_9 : decode cX11_takes 9 = .ok (.invokevirtual 155, 3) := by decide +kernel
theorem dX11_takes_12 : decode cX11_takes 12 = .ok (.ifCond .eq 18, 3) := by decide +kernel
theorem dX11_takes_15 : decode cX11_takes 15 = .ok (.aload_n 0, 1) := by decide +kernel
theorem dX11_takes_16 : decode cX11_takes 16 = .ok (.getfield 33, 3) := by decide +kernel
theorem dX11_takes_19 : decode cX11_takes 19 = .ok (.getfield 121, 3) := by decide +kernel
theorem dX11_takes_22 : decode cX11_takes 22 = .ok (.iconst 1, 1) := by decide +kernel
theorem dX11_takes_23 : decode cX11_takes 23 = .ok (.iload_n 2, 1) := by decide +kernel
theorem dX11_takes_24 : decode cX11_takes 24 = .ok (.invokevirtual 155, 3) := by decide +kernel
theorem dX11_takes_27 : decode cX11_takes 27 = .ok (.ifCond .ne 5, 3) := by decide +kernel
theorem dX11_takes_30 : decode cX11_takes 30 = .ok (.iconst (-1), 1) := by decide +kernel
theorem dX11_takes_31 : decode cX11_takes 31 = .ok (.ireturn, 1) := by decide +kernel
theorem dX11_takes_32 : decode cX11_takes 32 = .ok (.aload_n 0, 1) := by decide +kernel
theorem dX11_takes_33 : decode cX11_takes 33 = .ok (.getfield 46, 3) := by decide +kernel
theorem dX11_takes_36 : decode cX11_takes 36 = .ok (.iload_n 1, 1) := by decide +kernel
theorem dX11_takes_37 : decode cX11_takes 37 = .ok (.invokevirtual 205, 3) := by decide +kernel
theorem dX11_takes_40 : decode cX11_takes 40 = .ok (.aload_n 0, 1) := by decide +kernel
theorem dX11_takes_41 : decode cX11_takes 41 = .ok (.getfield 46, 3) := by decide +kernel
theorem dX11_takes_44 : decode cX11_takes 44 = .ok (.iload_n 2, 1) := by decide +kernel
theorem dX11_takes_45 : decode cX11_takes 45 = .ok (.invokevirtual 208, 3) := by decide +kernel
theorem dX11_takes_48 : decode cX11_takes 48 = .ok (.ireturn, 1) := by decide +kernel
theorem dX11_burns_0 : decode cX11_burns 0 = .ok (.aload_n 0, 1) := by decide +kernel
theorem dX11_burns_1 : decode cX11_burns 1 = .ok (.getfield 33, 3) := by decide +kernel
theorem dX11_burns_4 : decode cX11_burns 4 = .ok (.getfield 121, 3) := by decide +kernel
theorem dX11_burns_7 : decode cX11_burns 7 = .ok (.iconst 2, 1) := by decide +kernel
theorem dX11_burns_8 : decode cX11_burns 8 = .ok (.iload_n 1, 1) := by decide +kernel
theorem dX11_burns_9 : decode cX11_burns 9 = .ok (.invokevirtual 155, 3) := by decide +kernel
theorem dX11_burns_12 : decode cX11_burns 12 = .ok (.ifCond .ne 5, 3) := by decide +kernel
theorem dX11_burns_15 : decode cX11_burns 15 = .ok (.iconst (-1), 1) := by decide +kernel
theorem dX11_burns_16 : decode cX11_burns 16 = .ok (.ireturn, 1) := by decide +kernel
theorem dX11_burns_17 : decode cX11_burns 17 = .ok (.aload_n 0, 1) := by decide +kernel
theorem dX11_burns_18 : decode cX11_burns 18 = .ok (.getfield 46, 3) := by decide +kernel
theorem dX11_burns_21 : decode cX11_burns 21 = .ok (.iload_n 1, 1) := by decide +kernel
theorem dX11_burns_22 : decode cX11_burns 22 = .ok (.invokevirtual 205, 3) := by decide +kernel
theorem dX11_burns_25 : decode cX11_burns 25 = .ok (.aload_n 0, 1) := by decide +kernel
theorem dX11_burns_26 : decode cX11_burns 26 = .ok (.getfield 46, 3) := by decide +kernel
theorem dX11_burns_29 : decode cX11_burns 29 = .ok (.invokevirtual 211, 3) := by decide +kernel
theorem dX11_burns_32 : decode cX11_burns 32 = .ok (.ireturn, 1) := by decide +kernel
theorem dX11_tonight_0 : decode cX11_tonight 0 = .ok (.aload_n 0, 1) := by decide +kernel
theorem dX11_tonight_1 : decode cX11_tonight 1 = .ok (.getfield 33, 3) := by decide +kernel
theorem dX11_tonight_4 : decode cX11_tonight 4 = .ok (.getfield 121, 3) := by decide +kernel
theorem dX11_tonight_7 : decode cX11_tonight 7 = .ok (.iconst 2, 1) := by decide +kernel
theorem dX11_tonight_8 : decode cX11_tonight 8 = .ok (.iload_n 1, 1) := by decide +kernel
theorem dX11_tonight_9 : decode cX11_tonight 9 = .ok (.invokevirtual 155, 3) := by decide +kernel
theorem dX11_tonight_12 : decode cX11_tonight 12 = .ok (.ifCond .eq 12, 3) := by decide +kernel
theorem dX11_tonight_15 : decode cX11_tonight 15 = .ok (.iload_n 2, 1) := by decide +kernel
theorem dX11_tonight_16 : decode cX11_tonight 16 = .ok (.ifCond .lt 8, 3) := by decide +kernel
theorem dX11_tonight_19 : decode cX11_tonight 19 = .ok (.iload_n 2, 1) := by decide +kernel
theorem dX11_tonight_20 : decode cX11_tonight 20 = .ok (.iconst 4, 1) := by decide +kernel
theorem dX11_tonight_21 : decode cX11_tonight 21 = .ok (.if_icmp .le 5, 3) := by decide +kernel
theorem dX11_tonight_24 : decode cX11_tonight 24 = .ok (.iconst (-1), 1) := by decide +kernel
theorem dX11_tonight_25 : decode cX11_tonight 25 = .ok (.ireturn, 1) := by decide +kernel
theorem dX11_tonight_26 : decode cX11_tonight 26 = .ok (.aload_n 0, 1) := by decide +kernel
theorem dX11_tonight_27 : decode cX11_tonight 27 = .ok (.getfield 60, 3) := by decide +kernel
theorem dX11_tonight_30 : decode cX11_tonight 30 = .ok (.iconst (-1), 1) := by decide +kernel
theorem dX11_tonight_31 : decode cX11_tonight 31 = .ok (.invokevirtual 214, 3) := by decide +kernel
theorem dX11_tonight_34 : decode cX11_tonight 34 = .ok (.iload_n 2, 1) := by decide +kernel
theorem dX11_tonight_35 : decode cX11_tonight 35 = .ok (.tableswitch 69 0 3 #[29, 39, 49, 59], 29) := by decide +kernel
theorem dX11_tonight_64 : decode cX11_tonight 64 = .ok (.aload_n 0, 1) := by decide +kernel
theorem dX11_tonight_65 : decode cX11_tonight 65 = .ok (.getfield 60, 3) := by decide +kernel
theorem dX11_tonight_68 : decode cX11_tonight 68 = .ok (.getfield 217, 3) := by decide +kernel
theorem dX11_tonight_71 : decode cX11_tonight 71 = .ok (.iload_n 1, 1) := by decide +kernel
theorem dX11_tonight_72 : decode cX11_tonight 72 = .ok (.iaload, 1) := by decide +kernel
theorem dX11_tonight_73 : decode cX11_tonight 73 = .ok (.ireturn, 1) := by decide +kernel
theorem dX11_tonight_74 : decode cX11_tonight 74 = .ok (.aload_n 0, 1) := by decide +kernel
theorem dX11_tonight_75 : decode cX11_tonight 75 = .ok (.getfield 60, 3) := by decide +kernel
theorem dX11_tonight_78 : decode cX11_tonight 78 = .ok (.getfield 218, 3) := by decide +kernel
theorem dX11_tonight_81 : decode cX11_tonight 81 = .ok (.iload_n 1, 1) := by decide +kernel
theorem dX11_tonight_82 : decode cX11_tonight 82 = .ok (.iaload, 1) := by decide +kernel
theorem dX11_tonight_83 : decode cX11_tonight 83 = .ok (.ireturn, 1) := by decide +kernel
theorem dX11_tonight_84 : decode cX11_tonight 84 = .ok (.aload_n 0, 1) := by decide +kernel
theorem dX11_tonight_85 : decode cX11_tonight 85 = .ok (.getfield 60, 3) := by decide +kernel
theorem dX11_tonight_88 : decode cX11_tonight 88 = .ok (.getfield 221, 3) := by decide +kernel
theorem dX11_tonight_91 : decode cX11_tonight 91 = .ok (.iload_n 1, 1) := by decide +kernel
theorem dX11_tonight_92 : decode cX11_tonight 92 = .ok (.iaload, 1) := by decide +kernel
theorem dX11_tonight_93 : decode cX11_tonight 93 = .ok (.ireturn, 1) := by decide +kernel
theorem dX11_tonight_94 : decode cX11_tonight 94 = .ok (.aload_n 0, 1) := by decide +kernel
theorem dX11_tonight_95 : decode cX11_tonight 95 = .ok (.getfield 60, 3) := by decide +kernel
theorem dX11_tonight_98 : decode cX11_tonight 98 = .ok (.getfield 224, 3) := by decide +kernel
theorem dX11_tonight_101 : decode cX11_tonight 101 = .ok (.iload_n 1, 1) := by decide +kernel
theorem dX11_tonight_102 : decode cX11_tonight 102 = .ok (.iaload, 1) := by decide +kernel
theorem dX11_tonight_103 : decode cX11_tonight 103 = .ok (.ireturn, 1) := by decide +kernel
theorem dX11_tonight_104 : decode cX11_tonight 104 = .ok (.aload_n 0, 1) := by decide +kernel
theorem dX11_tonight_105 : decode cX11_tonight 105 = .ok (.getfield 60, 3) := by decide +kernel
theorem dX11_tonight_108 : decode cX11_tonight 108 = .ok (.getfield 227, 3) := by decide +kernel
theorem dX11_tonight_111 : decode cX11_tonight 111 = .ok (.iload_n 1, 1) := by decide +kernel
theorem dX11_tonight_112 : decode cX11_tonight 112 = .ok (.iaload, 1) := by decide +kernel
theorem dX11_tonight_113 : decode cX11_tonight 113 = .ok (.ireturn, 1) := by decide +kernel
theorem dX11_whole_0 : decode cX11_whole 0 = .ok (.iload_n 1, 1) := by decide +kernel
theorem dX11_whole_1 : decode cX11_whole 1 = .ok (.ifCond .lt 8, 3) := by decide +kernel
theorem dX11_whole_4 : decode cX11_whole 4 = .ok (.iload_n 1, 1) := by decide +kernel
theorem dX11_whole_5 : decode cX11_whole 5 = .ok (.iconst 3, 1) := by decide +kernel
theorem dX11_whole_6 : decode cX11_whole 6 = .ok (.if_icmp .le 5, 3) := by decide +kernel
theorem dX11_whole_9 : decode cX11_whole 9 = .ok (.iconst (-1), 1) := by decide +kernel
theorem dX11_whole_10 : decode cX11_whole 10 = .ok (.ireturn, 1) := by decide +kernel
theorem dX11_whole_11 : decode cX11_whole 11 = .ok (.aload_n 0, 1) := by decide +kernel
theorem dX11_whole_12 : decode cX11_whole 12 = .ok (.getfield 60, 3) := by decide +kernel
theorem dX11_whole_15 : decode cX11_whole 15 = .ok (.iconst (-1), 1) := by decide +kernel
theorem dX11_whole_16 : decode cX11_whole 16 = .ok (.invokevirtual 214, 3) := by decide +kernel
theorem dX11_whole_19 : decode cX11_whole 19 = .ok (.iload_n 1, 1) := by decide +kernel
theorem dX11_whole_20 : decode cX11_whole 20 = .ok (.tableswitch 52 0 2 #[28, 36, 44], 28) := by decide +kernel
theorem dX11_whole_48 : decode cX11_whole 48 = .ok (.aload_n 0, 1) := by decide +kernel
theorem dX11_whole_49 : decode cX11_whole 49 = .ok (.getfield 60, 3) := by decide +kernel
theorem dX11_whole_52 : decode cX11_whole 52 = .ok (.invokevirtual 230, 3) := by decide +kernel
theorem dX11_whole_55 : decode cX11_whole 55 = .ok (.ireturn, 1) := by decide +kernel
theorem dX11_whole_56 : decode cX11_whole 56 = .ok (.aload_n 0, 1) := by decide +kernel
theorem dX11_whole_57 : decode cX11_whole 57 = .ok (.getfield 60, 3) := by decide +kernel
theorem dX11_whole_60 : decode cX11_whole 60 = .ok (.invokevirtual 233, 3) := by decide +kernel
theorem dX11_whole_63 : decode cX11_whole 63 = .ok (.ireturn, 1) := by decide +kernel
theorem dX11_whole_64 : decode cX11_whole 64 = .ok (.aload_n 0, 1) := by decide +kernel
theorem dX11_whole_65 : decode cX11_whole 65 = .ok (.getfield 60, 3) := by decide +kernel
theorem dX11_whole_68 : decode cX11_whole 68 = .ok (.invokevirtual 236, 3) := by decide +kernel
theorem dX11_whole_71 : decode cX11_whole 71 = .ok (.ireturn, 1) := by decide +kernel
theorem dX11_whole_72 : decode cX11_whole 72 = .ok (.aload_n 0, 1) := by decide +kernel
theorem dX11_whole_73 : decode cX11_whole 73 = .ok (.getfield 60, 3) := by decide +kernel
theorem dX11_whole_76 : decode cX11_whole 76 = .ok (.invokevirtual 239, 3) := by decide +kernel
theorem dX11_whole_79 : decode cX11_whole 79 = .ok (.ireturn, 1) := by decide +kernel
theorem dX11_seat_0 : decode cX11_seat 0 = .ok (.aload_n 0, 1) := by decide +kernel
theorem dX11_seat_1 : decode cX11_seat 1 = .ok (.getfield 33, 3) := by decide +kernel
theorem dX11_seat_4 : decode cX11_seat 4 = .ok (.getfield 121, 3) := by decide +kernel
theorem dX11_seat_7 : decode cX11_seat 7 = .ok (.iconst 2, 1) := by decide +kernel
theorem dX11_seat_8 : decode cX11_seat 8 = .ok (.iload_n 1, 1) := by decide +kernel
theorem dX11_seat_9 : decode cX11_seat 9 = .ok (.invokevirtual 155, 3) := by decide +kernel
theorem dX11_seat_12 : decode cX11_seat 12 = .ok (.ifCond .eq 31, 3) := by decide +kernel
theorem dX11_seat_15 : decode cX11_seat 15 = .ok (.aload_n 0, 1) := by decide +kernel
theorem dX11_seat_16 : decode cX11_seat 16 = .ok (.getfield 33, 3) := by decide +kernel
theorem dX11_seat_19 : decode cX11_seat 19 = .ok (.getfield 121, 3) := by decide +kernel
theorem dX11_seat_22 : decode cX11_seat 22 = .ok (.iconst 3, 1) := by decide +kernel
theorem dX11_seat_23 : decode cX11_seat 23 = .ok (.iload_n 2, 1) := by decide +kernel
theorem dX11_seat_24 : decode cX11_seat 24 = .ok (.invokevirtual 155, 3) := by decide +kernel
theorem dX11_seat_27 : decode cX11_seat 27 = .ok (.ifCond .eq 16, 3) := by decide +kernel
theorem dX11_seat_30 : decode cX11_seat 30 = .ok (.aload_n 0, 1) := by decide +kernel
theorem dX11_seat_31 : decode cX11_seat 31 = .ok (.getfield 33, 3) := by decide +kernel
theorem dX11_seat_34 : decode cX11_seat 34 = .ok (.iload_n 1, 1) := by decide +kernel
theorem dX11_seat_35 : decode cX11_seat 35 = .ok (.iconst 0, 1) := by decide +kernel
theorem dX11_seat_36 : decode cX11_seat 36 = .ok (.invokevirtual 183, 3) := by decide +kernel
theorem dX11_seat_39 : decode cX11_seat 39 = .ok (.iload_n 2, 1) := by decide +kernel
theorem dX11_seat_40 : decode cX11_seat 40 = .ok (.if_icmp .ne 9, 3) := by decide +kernel
theorem dX11_seat_43 : decode cX11_seat 43 = .ok (.aload_n 0, 1) := by decide +kernel
theorem dX11_seat_44 : decode cX11_seat 44 = .ok (.iconst 2, 1) := by decide +kernel
theorem dX11_seat_45 : decode cX11_seat 45 = .ok (.invokevirtual 113, 3) := by decide +kernel
theorem dX11_seat_48 : decode cX11_seat 48 = .ok (.ireturn, 1) := by decide +kernel
theorem dX11_seat_49 : decode cX11_seat 49 = .ok (.aload_n 0, 1) := by decide +kernel
theorem dX11_seat_50 : decode cX11_seat 50 = .ok (.getfield 33, 3) := by decide +kernel
theorem dX11_seat_53 : decode cX11_seat 53 = .ok (.invokevirtual 242, 3) := by decide +kernel
theorem dX11_seat_56 : decode cX11_seat 56 = .ok (.aload_n 0, 1) := by decide +kernel
theorem dX11_seat_57 : decode cX11_seat 57 = .ok (.getfield 33, 3) := by decide +kernel
theorem dX11_seat_60 : decode cX11_seat 60 = .ok (.iload_n 1, 1) := by decide +kernel
theorem dX11_seat_61 : decode cX11_seat 61 = .ok (.iconst 0, 1) := by decide +kernel
theorem dX11_seat_62 : decode cX11_seat 62 = .ok (.iload_n 2, 1) := by decide +kernel
theorem dX11_seat_63 : decode cX11_seat 63 = .ok (.invokevirtual 245, 3) := by decide +kernel
theorem dX11_seat_66 : decode cX11_seat 66 = .ok (.iconst 1, 1) := by decide +kernel
theorem dX11_seat_67 : decode cX11_seat 67 = .ok (.ireturn, 1) := by decide +kernel
theorem dX11_list_0 : decode cX11_list 0 = .ok (.aload_n 0, 1) := by decide +kernel
theorem dX11_list_1 : decode cX11_list 1 = .ok (.getfield 33, 3) := by decide +kernel
theorem dX11_list_4 : decode cX11_list 4 = .ok (.getfield 121, 3) := by decide +kernel
theorem dX11_list_7 : decode cX11_list 7 = .ok (.iconst 2, 1) := by decide +kernel
theorem dX11_list_8 : decode cX11_list 8 = .ok (.iload_n 1, 1) := by decide +kernel
theorem dX11_list_9 : decode cX11_list 9 = .ok (.invokevirtual 155, 3) := by decide +kernel
theorem dX11_list_12 : decode cX11_list 12 = .ok (.ifCond .eq 30, 3) := by decide +kernel
theorem dX11_list_15 : decode cX11_list 15 = .ok (.aload_n 0, 1) := by decide +kernel
theorem dX11_list_16 : decode cX11_list 16 = .ok (.getfield 33, 3) := by decide +kernel
theorem dX11_list_19 : decode cX11_list 19 = .ok (.getfield 121, 3) := by decide +kernel
theorem dX11_list_22 : decode cX11_list 22 = .ok (.iconst 1, 1) := by decide +kernel
theorem dX11_list_23 : decode cX11_list 23 = .ok (.iload_n 2, 1) := by decide +kernel
theorem dX11_list_24 : decode cX11_list 24 = .ok (.invokevirtual 155, 3) := by decide +kernel
theorem dX11_list_27 : decode cX11_list 27 = .ok (.ifCond .eq 15, 3) := by decide +kernel
theorem dX11_list_30 : decode cX11_list 30 = .ok (.aload_n 0, 1) := by decide +kernel
theorem dX11_list_31 : decode cX11_list 31 = .ok (.getfield 33, 3) := by decide +kernel
theorem dX11_list_34 : decode cX11_list 34 = .ok (.iload_n 1, 1) := by decide +kernel
theorem dX11_list_35 : decode cX11_list 35 = .ok (.iload_n 2, 1) := by decide +kernel
theorem dX11_list_36 : decode cX11_list 36 = .ok (.invokevirtual 249, 3) := by decide +kernel
theorem dX11_list_39 : decode cX11_list 39 = .ok (.ifCond .ne 9, 3) := by decide +kernel
theorem dX11_list_42 : decode cX11_list 42 = .ok (.aload_n 0, 1) := by decide +kernel
theorem dX11_list_43 : decode cX11_list 43 = .ok (.iconst 2, 1) := by decide +kernel
theorem dX11_list_44 : decode cX11_list 44 = .ok (.invokevirtual 113, 3) := by decide +kernel
theorem dX11_list_47 : decode cX11_list 47 = .ok (.ireturn, 1) := by decide +kernel
theorem dX11_list_48 : decode cX11_list 48 = .ok (.aload_n 0, 1) := by decide +kernel
theorem dX11_list_49 : decode cX11_list 49 = .ok (.getfield 33, 3) := by decide +kernel
theorem dX11_list_52 : decode cX11_list 52 = .ok (.invokevirtual 242, 3) := by decide +kernel
theorem dX11_list_55 : decode cX11_list 55 = .ok (.aload_n 0, 1) := by decide +kernel
theorem dX11_list_56 : decode cX11_list 56 = .ok (.getfield 33, 3) := by decide +kernel
theorem dX11_list_59 : decode cX11_list 59 = .ok (.iload_n 1, 1) := by decide +kernel
theorem dX11_list_60 : decode cX11_list 60 = .ok (.iload_n 2, 1) := by decide +kernel
theorem dX11_list_61 : decode cX11_list 61 = .ok (.invokevirtual 252, 3) := by decide +kernel
theorem dX11_list_64 : decode cX11_list 64 = .ok (.iconst 1, 1) := by decide +kernel
theorem dX11_list_65 : decode cX11_list 65 = .ok (.ireturn, 1) := by decide +kernel
theorem dX11_drop_0 : decode cX11_drop 0 = .ok (.aload_n 0, 1) := by decide +kernel
theorem dX11_drop_1 : decode cX11_drop 1 = .ok (.getfield 33, 3) := by decide +kernel
theorem dX11_drop_4 : decode cX11_drop 4 = .ok (.getfield 121, 3) := by decide +kernel
theorem dX11_drop_7 : decode cX11_drop 7 = .ok (.iconst 2, 1) := by decide +kernel
theorem dX11_drop_8 : decode cX11_drop 8 = .ok (.iload_n 1, 1) := by decide +kernel
theorem dX11_drop_9 : decode cX11_drop 9 = .ok (.invokevirtual 155, 3) := by decide +kernel
theorem dX11_drop_12 : decode cX11_drop 12 = .ok (.ifCond .ne 9, 3) := by decide +kernel
theorem dX11_drop_15 : decode cX11_drop 15 = .ok (.aload_n 0, 1) := by decide +kernel
theorem dX11_drop_16 : decode cX11_drop 16 = .ok (.iconst 2, 1) := by decide +kernel
theorem dX11_drop_17 : decode cX11_drop 17 = .ok (.invokevirtual 105, 3) := by decide +kernel
theorem dX11_drop_20 : decode cX11_drop 20 = .ok (.ireturn, 1) := by decide +kernel
theorem dX11_drop_21 : decode cX11_drop 21 = .ok (.aload_n 0, 1) := by decide +kernel
theorem dX11_drop_22 : decode cX11_drop 22 = .ok (.getfield 33, 3) := by decide +kernel
theorem dX11_drop_25 : decode cX11_drop 25 = .ok (.invokevirtual 242, 3) := by decide +kernel
theorem dX11_drop_28 : decode cX11_drop 28 = .ok (.aload_n 0, 1) := by decide +kernel
theorem dX11_drop_29 : decode cX11_drop 29 = .ok (.getfield 33, 3) := by decide +kernel
theorem dX11_drop_32 : decode cX11_drop 32 = .ok (.iload_n 1, 1) := by decide +kernel
theorem dX11_drop_33 : decode cX11_drop 33 = .ok (.iconst 5, 1) := by decide +kernel
theorem dX11_drop_34 : decode cX11_drop 34 = .ok (.invokevirtual 183, 3) := by decide +kernel
theorem dX11_drop_37 : decode cX11_drop 37 = .ok (.istore_n 2, 1) := by decide +kernel
theorem dX11_drop_38 : decode cX11_drop 38 = .ok (.aload_n 0, 1) := by decide +kernel
theorem dX11_drop_39 : decode cX11_drop 39 = .ok (.getfield 33, 3) := by decide +kernel
theorem dX11_drop_42 : decode cX11_drop 42 = .ok (.iload_n 1, 1) := by decide +kernel
theorem dX11_drop_43 : decode cX11_drop 43 = .ok (.iconst 5, 1) := by decide +kernel
theorem dX11_drop_44 : decode cX11_drop 44 = .ok (.iconst 0, 1) := by decide +kernel
theorem dX11_drop_45 : decode cX11_drop 45 = .ok (.invokevirtual 245, 3) := by decide +kernel
theorem dX11_drop_48 : decode cX11_drop 48 = .ok (.aload_n 0, 1) := by decide +kernel
theorem dX11_drop_49 : decode cX11_drop 49 = .ok (.getfield 33, 3) := by decide +kernel
theorem dX11_drop_52 : decode cX11_drop 52 = .ok (.iload_n 1, 1) := by decide +kernel
theorem dX11_drop_53 : decode cX11_drop 53 = .ok (.iconst 3, 1) := by decide +kernel
theorem dX11_drop_54 : decode cX11_drop 54 = .ok (.iconst (-1), 1) := by decide +kernel
theorem dX11_drop_55 : decode cX11_drop 55 = .ok (.invokevirtual 245, 3) := by decide +kernel
theorem dX11_drop_58 : decode cX11_drop 58 = .ok (.aload_n 0, 1) := by decide +kernel
theorem dX11_drop_59 : decode cX11_drop 59 = .ok (.getfield 33, 3) := by decide +kernel
theorem dX11_drop_62 : decode cX11_drop 62 = .ok (.iload_n 1, 1) := by decide +kernel
theorem dX11_drop_63 : decode cX11_drop 63 = .ok (.iconst 4, 1) := by decide +kernel
theorem dX11_drop_64 : decode cX11_drop 64 = .ok (.iconst 0, 1) := by decide +kernel
theorem dX11_drop_65 : decode cX11_drop 65 = .ok (.invokevirtual 245, 3) := by decide +kernel
theorem dX11_drop_68 : decode cX11_drop 68 = .ok (.iload_n 2, 1) := by decide +kernel
theorem dX11_drop_69 : decode cX11_drop 69 = .ok (.ireturn, 1) := by decide +kernel
theorem dX11_tell_0 : decode cX11_tell 0 = .ok (.aload_n 0, 1) := by decide +kernel
theorem dX11_tell_1 : decode cX11_tell 1 = .ok (.getfield 33, 3) := by decide +kernel
theorem dX11_tell_4 : decode cX11_tell 4 = .ok (.getfield 121, 3) := by decide +kernel
theorem dX11_tell_7 : decode cX11_tell 7 = .ok (.iconst 2, 1) := by decide +kernel
theorem dX11_tell_8 : decode cX11_tell 8 = .ok (.iload_n 1, 1) := by decide +kernel
theorem dX11_tell_9 : decode cX11_tell 9 = .ok (.invokevirtual 155, 3) := by decide +kernel
theorem dX11_tell_12 : decode cX11_tell 12 = .ok (.ifCond .eq 43, 3) := by decide +kernel
theorem dX11_tell_15 : decode cX11_tell 15 = .ok (.aload_n 0, 1) := by decide +kernel
theorem dX11_tell_16 : decode cX11_tell 16 = .ok (.getfield 33, 3) := by decide +kernel
theorem dX11_tell_19 : decode cX11_tell 19 = .ok (.getfield 121, 3) := by decide +kernel
theorem dX11_tell_22 : decode cX11_tell 22 = .ok (.iconst 2, 1) := by decide +kernel
theorem dX11_tell_23 : decode cX11_tell 23 = .ok (.iload_n 2, 1) := by decide +kernel
theorem dX11_tell_24 : decode cX11_tell 24 = .ok (.invokevirtual 155, 3) := by decide +kernel
theorem dX11_tell_27 : decode cX11_tell 27 = .ok (.ifCond .eq 28, 3) := by decide +kernel
theorem dX11_tell_30 : decode cX11_tell 30 = .ok (.aload_n 0, 1) := by decide +kernel
theorem dX11_tell_31 : decode cX11_tell 31 = .ok (.getfield 33, 3) := by decide +kernel
theorem dX11_tell_34 : decode cX11_tell 34 = .ok (.getfield 121, 3) := by decide +kernel
theorem dX11_tell_37 : decode cX11_tell 37 = .ok (.iconst 1, 1) := by decide +kernel
theorem dX11_tell_38 : decode cX11_tell 38 = .ok (.iload_n 3, 1) := by decide +kernel
theorem dX11_tell_39 : decode cX11_tell 39 = .ok (.invokevirtual 155, 3) := by decide +kernel
theorem dX11_tell_42 : decode cX11_tell 42 = .ok (.ifCond .eq 13, 3) := by decide +kernel
theorem dX11_tell_45 : decode cX11_tell 45 = .ok (.aload_n 0, 1) := by decide +kernel
theorem dX11_tell_46 : decode cX11_tell 46 = .ok (.iload_n 1, 1) := by decide +kernel
theorem dX11_tell_47 : decode cX11_tell 47 = .ok (.iload_n 2, 1) := by decide +kernel
theorem dX11_tell_48 : decode cX11_tell 48 = .ok (.iload_n 3, 1) := by decide +kernel
theorem dX11_tell_49 : decode cX11_tell 49 = .ok (.invokevirtual 256, 3) := by decide +kernel
theorem dX11_tell_52 : decode cX11_tell 52 = .ok (.ifCond .ne 9, 3) := by decide +kernel
theorem dX11_tell_55 : decode cX11_tell 55 = .ok (.aload_n 0, 1) := by decide +kernel
theorem dX11_tell_56 : decode cX11_tell 56 = .ok (.iconst 2, 1) := by decide +kernel
theorem dX11_tell_57 : decode cX11_tell 57 = .ok (.invokevirtual 113, 3) := by decide +kernel
theorem dX11_tell_60 : decode cX11_tell 60 = .ok (.ireturn, 1) := by decide +kernel
theorem dX11_tell_61 : decode cX11_tell 61 = .ok (.aload_n 0, 1) := by decide +kernel
theorem dX11_tell_62 : decode cX11_tell 62 = .ok (.getfield 33, 3) := by decide +kernel
theorem dX11_tell_65 : decode cX11_tell 65 = .ok (.invokevirtual 242, 3) := by decide +kernel
theorem dX11_tell_68 : decode cX11_tell 68 = .ok (.aload_n 0, 1) := by decide +kernel
theorem dX11_tell_69 : decode cX11_tell 69 = .ok (.getfield 33, 3) := by decide +kernel
theorem dX11_tell_72 : decode cX11_tell 72 = .ok (.iload_n 2, 1) := by decide +kernel
theorem dX11_tell_73 : decode cX11_tell 73 = .ok (.iconst 2, 1) := by decide +kernel
theorem dX11_tell_74 : decode cX11_tell 74 = .ok (.aload_n 0, 1) := by decide +kernel
theorem dX11_tell_75 : decode cX11_tell 75 = .ok (.getfield 33, 3) := by decide +kernel
theorem dX11_tell_78 : decode cX11_tell 78 = .ok (.iload_n 2, 1) := by decide +kernel
theorem dX11_tell_79 : decode cX11_tell 79 = .ok (.iconst 2, 1) := by decide +kernel
theorem dX11_tell_80 : decode cX11_tell 80 = .ok (.invokevirtual 183, 3) := by decide +kernel
theorem dX11_tell_83 : decode cX11_tell 83 = .ok (.iconst 1, 1) := by decide +kernel
theorem dX11_tell_84 : decode cX11_tell 84 = .ok (.iload_n 3, 1) := by decide +kernel
theorem dX11_tell_85 : decode cX11_tell 85 = .ok (.ishl, 1) := by decide +kernel
theorem dX11_tell_86 : decode cX11_tell 86 = .ok (.ior, 1) := by decide +kernel
theorem dX11_tell_87 : decode cX11_tell 87 = .ok (.invokevirtual 245, 3) := by decide +kernel
theorem dX11_tell_90 : decode cX11_tell 90 = .ok (.aload_n 0, 1) := by decide +kernel
theorem dX11_tell_91 : decode cX11_tell 91 = .ok (.getfield 33, 3) := by decide +kernel
theorem dX11_tell_94 : decode cX11_tell 94 = .ok (.iload_n 2, 1) := by decide +kernel
theorem dX11_tell_95 : decode cX11_tell 95 = .ok (.iload_n 3, 1) := by decide +kernel
theorem dX11_tell_96 : decode cX11_tell 96 = .ok (.invokevirtual 260, 3) := by decide +kernel
theorem dX11_tell_99 : decode cX11_tell 99 = .ok (.iconst 1, 1) := by decide +kernel
theorem dX11_tell_100 : decode cX11_tell 100 = .ok (.ireturn, 1) := by decide +kernel
theorem dX11_night_0 : decode cX11_night 0 = .ok (.aload_n 0, 1) := by decide +kernel
theorem dX11_night_1 : decode cX11_night 1 = .ok (.getfield 33, 3) := by decide +kernel
theorem dX11_night_4 : decode cX11_night 4 = .ok (.getfield 142, 3) := by decide +kernel
theorem dX11_night_7 : decode cX11_night 7 = .ok (.iconst 0, 1) := by decide +kernel
theorem dX11_night_8 : decode cX11_night 8 = .ok (.iaload, 1) := by decide +kernel
theorem dX11_night_9 : decode cX11_night 9 = .ok (.sipush 999, 3) := by decide +kernel
theorem dX11_night_12 : decode cX11_night 12 = .ok (.if_icmp .lt 9, 3) := by decide +kernel
theorem dX11_night_15 : decode cX11_night 15 = .ok (.aload_n 0, 1) := by decide +kernel
theorem dX11_night_16 : decode cX11_night 16 = .ok (.iconst 3, 1) := by decide +kernel
theorem dX11_night_17 : decode cX11_night 17 = .ok (.invokevirtual 105, 3) := by decide +kernel
theorem dX11_night_20 : decode cX11_night 20 = .ok (.ireturn, 1) := by decide +kernel
theorem dX11_night_21 : decode cX11_night 21 = .ok (.aload_n 0, 1) := by decide +kernel
theorem dX11_night_22 : decode cX11_night 22 = .ok (.getfield 33, 3) := by decide +kernel
theorem dX11_night_25 : decode cX11_night 25 = .ok (.invokevirtual 242, 3) := by decide +kernel
theorem dX11_night_28 : decode cX11_night 28 = .ok (.aload_n 0, 1) := by decide +kernel
theorem dX11_night_29 : decode cX11_night 29 = .ok (.iconst (-1), 1) := by decide +kernel
theorem dX11_night_30 : decode cX11_night 30 = .ok (.invokevirtual 263, 3) := by decide +kernel
theorem dX11_night_33 : decode cX11_night 33 = .ok (.ireturn, 1) := by decide +kernel
theorem dX11_winter_0 : decode cX11_winter 0 = .ok (.aload_n 0, 1) := by decide +kernel
theorem dX11_winter_1 : decode cX11_winter 1 = .ok (.getfield 33, 3) := by decide +kernel
theorem dX11_winter_4 : decode cX11_winter 4 = .ok (.getfield 121, 3) := by decide +kernel
theorem dX11_winter_7 : decode cX11_winter 7 = .ok (.getfield 133, 3) := by decide +kernel
theorem dX11_winter_10 : decode cX11_winter 10 = .ok (.iconst 3, 1) := by decide +kernel
theorem dX11_winter_11 : decode cX11_winter 11 = .ok (.iaload, 1) := by decide +kernel
theorem dX11_winter_12 : decode cX11_winter 12 = .ok (.istore_n 2, 1) := by decide +kernel
theorem dX11_winter_13 : decode cX11_winter 13 = .ok (.iload_n 1, 1) := by decide +kernel
theorem dX11_winter_14 : decode cX11_winter 14 = .ok (.iconst 1, 1) := by decide +kernel
theorem dX11_winter_15 : decode cX11_winter 15 = .ok (.if_icmp .lt 30, 3) := by decide +kernel
theorem dX11_winter_18 : decode cX11_winter 18 = .ok (.iload_n 1, 1) := by decide +kernel
theorem dX11_winter_19 : decode cX11_winter 19 = .ok (.bipush 30, 2) := by decide +kernel
theorem dX11_winter_21 : decode cX11_winter 21 = .ok (.if_icmp .gt 24, 3) := by decide +kernel
theorem dX11_winter_24 : decode cX11_winter 24 = .ok (.aload_n 0, 1) := by decide +kernel
theorem dX11_winter_25 : decode cX11_winter 25 = .ok (.getfield 33, 3) := by decide +kernel
theorem dX11_winter_28 : decode cX11_winter 28 = .ok (.getfield 142, 3) := by decide +kernel
theorem dX11_winter_31 : decode cX11_winter 31 = .ok (.iconst 0, 1) := by decide +kernel
theorem dX11_winter_32 : decode cX11_winter 32 = .ok (.iaload, 1) := by decide +kernel
theorem dX11_winter_33 : decode cX11_winter 33 = .ok (.iload_n 1, 1) := by decide +kernel
theorem dX11_winter_34 : decode cX11_winter 34 = .ok (.iadd, 1) := by decide +kernel
theorem dX11_winter_35 : decode cX11_winter 35 = .ok (.sipush 999, 3) := by decide +kernel
theorem dX11_winter_38 : decode cX11_winter 38 = .ok (.if_icmp .gt 7, 3) := by decide +kernel
theorem dX11_winter_41 : decode cX11_winter 41 = .ok (.iload_n 2, 1) := by decide +kernel
theorem dX11_winter_42 : decode cX11_winter 42 = .ok (.ifCond .ne 9, 3) := by decide +kernel
theorem dX11_winter_45 : decode cX11_winter 45 = .ok (.aload_n 0, 1) := by decide +kernel
theorem dX11_winter_46 : decode cX11_winter 46 = .ok (.iconst 3, 1) := by decide +kernel
theorem dX11_winter_47 : decode cX11_winter 47 = .ok (.invokevirtual 105, 3) := by decide +kernel
theorem dX11_winter_50 : decode cX11_winter 50 = .ok (.ireturn, 1) := by decide +kernel
theorem dX11_winter_51 : decode cX11_winter 51 = .ok (.aload_n 0, 1) := by decide +kernel
theorem dX11_winter_52 : decode cX11_winter 52 = .ok (.getfield 33, 3) := by decide +kernel
theorem dX11_winter_55 : decode cX11_winter 55 = .ok (.invokevirtual 242, 3) := by decide +kernel
theorem dX11_winter_58 : decode cX11_winter 58 = .ok (.iconst 0, 1) := by decide +kernel
theorem dX11_winter_59 : decode cX11_winter 59 = .ok (.istore_n 3, 1) := by decide +kernel
theorem dX11_winter_60 : decode cX11_winter 60 = .ok (.iconst 0, 1) := by decide +kernel
theorem dX11_winter_61 : decode cX11_winter 61 = .ok (.istore 4, 2) := by decide +kernel
theorem dX11_winter_63 : decode cX11_winter 63 = .ok (.iload 4, 2) := by decide +kernel
theorem dX11_winter_65 : decode cX11_winter 65 = .ok (.iload_n 1, 1) := by decide +kernel
theorem dX11_winter_66 : decode cX11_winter 66 = .ok (.if_icmp .ge 21, 3) := by decide +kernel
theorem dX11_winter_69 : decode cX11_winter 69 = .ok (.iload_n 3, 1) := by decide +kernel
theorem dX11_winter_70 : decode cX11_winter 70 = .ok (.aload_n 0, 1) := by decide +kernel
theorem dX11_winter_71 : decode cX11_winter 71 = .ok (.aload_n 0, 1) := by decide +kernel
theorem dX11_winter_72 : decode cX11_winter 72 = .ok (.iload_n 2, 1) := by decide +kernel
theorem dX11_winter_73 : decode cX11_winter 73 = .ok (.invokevirtual 266, 3) := by decide +kernel
theorem dX11_winter_76 : decode cX11_winter 76 = .ok (.invokevirtual 263, 3) := by decide +kernel
theorem dX11_winter_79 : decode cX11_winter 79 = .ok (.iadd, 1) := by decide +kernel
theorem dX11_winter_80 : decode cX11_winter 80 = .ok (.istore_n 3, 1) := by decide +kernel
theorem dX11_winter_81 : decode cX11_winter 81 = .ok (.iinc 4 1, 3) := by decide +kernel
theorem dX11_winter_84 : decode cX11_winter 84 = .ok (.goto (-21), 3) := by decide +kernel
theorem dX11_winter_87 : decode cX11_winter 87 = .ok (.iload_n 3, 1) := by decide +kernel
theorem dX11_winter_88 : decode cX11_winter 88 = .ok (.ireturn, 1) := by decide +kernel
theorem dX11_undo_0 : decode cX11_undo 0 = .ok (.aload_n 0, 1) := by decide +kernel
theorem dX11_undo_1 : decode cX11_undo 1 = .ok (.getfield 33, 3) := by decide +kernel
theorem dX11_undo_4 : decode cX11_undo 4 = .ok (.invokevirtual 269, 3) := by decide +kernel
theorem dX11_undo_7 : decode cX11_undo 7 = .ok (.ifCond .ne 9, 3) := by decide +kernel
theorem dX11_undo_10 : decode cX11_undo 10 = .ok (.aload_n 0, 1) := by decide +kernel
theorem dX11_undo_11 : decode cX11_undo 11 = .ok (.iconst 4, 1) := by decide +kernel
theorem dX11_undo_12 : decode cX11_undo 12 = .ok (.invokevirtual 113, 3) := by decide +kernel
theorem dX11_undo_15 : decode cX11_undo 15 = .ok (.ireturn, 1) := by decide +kernel
theorem dX11_undo_16 : decode cX11_undo 16 = .ok (.iconst 1, 1) := by decide +kernel
theorem dX11_undo_17 : decode cX11_undo 17 = .ok (.ireturn, 1) := by decide +kernel
theorem dX11_seed_0 : decode cX11_seed 0 = .ok (.iload_n 1, 1) := by decide +kernel
theorem dX11_seed_1 : decode cX11_seed 1 = .ok (.ifCond .ge 9, 3) := by decide +kernel
theorem dX11_seed_4 : decode cX11_seed 4 = .ok (.aload_n 0, 1) := by decide +kernel
theorem dX11_seed_5 : decode cX11_seed 5 = .ok (.iconst 5, 1) := by decide +kernel
theorem dX11_seed_6 : decode cX11_seed 6 = .ok (.invokevirtual 113, 3) := by decide +kernel
theorem dX11_seed_9 : decode cX11_seed 9 = .ok (.ireturn, 1) := by decide +kernel
theorem dX11_seed_10 : decode cX11_seed 10 = .ok (.aload_n 0, 1) := by decide +kernel
theorem dX11_seed_11 : decode cX11_seed 11 = .ok (.iload_n 1, 1) := by decide +kernel
theorem dX11_seed_12 : decode cX11_seed 12 = .ok (.putfield 98, 3) := by decide +kernel
theorem dX11_seed_15 : decode cX11_seed 15 = .ok (.iconst 1, 1) := by decide +kernel
theorem dX11_seed_16 : decode cX11_seed 16 = .ok (.ireturn, 1) := by decide +kernel
theorem dX11_kept_0 : decode cX11_kept 0 = .ok (.aload_n 0, 1) := by decide +kernel
theorem dX11_kept_1 : decode cX11_kept 1 = .ok (.getfield 33, 3) := by decide +kernel
theorem dX11_kept_4 : decode cX11_kept 4 = .ok (.invokevirtual 145, 3) := by decide +kernel
theorem dX11_kept_7 : decode cX11_kept 7 = .ok (.istore_n 3, 1) := by decide +kernel
theorem dX11_kept_8 : decode cX11_kept 8 = .ok (.iload_n 1, 1) := by decide +kernel
theorem dX11_kept_9 : decode cX11_kept 9 = .ok (.ifCond .lt 8, 3) := by decide +kernel
theorem dX11_kept_12 : decode cX11_kept 12 = .ok (.iload_n 1, 1) := by decide +kernel
theorem dX11_kept_13 : decode cX11_kept 13 = .ok (.iload_n 3, 1) := by decide +kernel
theorem dX11_kept_14 : decode cX11_kept 14 = .ok (.if_icmp .lt 5, 3) := by decide +kernel
theorem dX11_kept_17 : decode cX11_kept 17 = .ok (.iconst (-1), 1) := by decide +kernel
theorem dX11_kept_18 : decode cX11_kept 18 = .ok (.ireturn, 1) := by decide +kernel
theorem dX11_kept_19 : decode cX11_kept 19 = .ok (.aload_n 0, 1) := by decide +kernel
theorem dX11_kept_20 : decode cX11_kept 20 = .ok (.getfield 33, 3) := by decide +kernel
theorem dX11_kept_23 : decode cX11_kept 23 = .ok (.getfield 273, 3) := by decide +kernel
theorem dX11_kept_26 : decode cX11_kept 26 = .ok (.aload_n 0, 1) := by decide +kernel
theorem dX11_kept_27 : decode cX11_kept 27 = .ok (.getfield 33, 3) := by decide +kernel
theorem dX11_kept_30 : decode cX11_kept 30 = .ok (.getfield 142, 3) := by decide +kernel
theorem dX11_kept_33 : decode cX11_kept 33 = .ok (.iconst 2, 1) := by decide +kernel
theorem dX11_kept_34 : decode cX11_kept 34 = .ok (.iaload, 1) := by decide +kernel
theorem dX11_kept_35 : decode cX11_kept 35 = .ok (.iload_n 3, 1) := by decide +kernel
theorem dX11_kept_36 : decode cX11_kept 36 = .ok (.isub, 1) := by decide +kernel
theorem dX11_kept_37 : decode cX11_kept 37 = .ok (.iload_n 1, 1) := by decide +kernel
theorem dX11_kept_38 : decode cX11_kept 38 = .ok (.iadd, 1) := by decide +kernel
theorem dX11_kept_39 : decode cX11_kept 39 = .ok (.iaload, 1) := by decide +kernel
theorem dX11_kept_40 : decode cX11_kept 40 = .ok (.istore 4, 2) := by decide +kernel
theorem dX11_kept_42 : decode cX11_kept 42 = .ok (.iload_n 2, 1) := by decide +kernel
theorem dX11_kept_43 : decode cX11_kept 43 = .ok (.tableswitch 45 0 2 #[25, 31, 39], 25) := by decide +kernel
theorem dX11_kept_68 : decode cX11_kept 68 = .ok (.iload 4, 2) := by decide +kernel
theorem dX11_kept_70 : decode cX11_kept 70 = .ok (.bipush 7, 2) := by decide +kernel
theorem dX11_kept_72 : decode cX11_kept 72 = .ok (.ishr, 1) := by decide +kernel
theorem dX11_kept_73 : decode cX11_kept 73 = .ok (.ireturn, 1) := by decide +kernel
theorem dX11_kept_74 : decode cX11_kept 74 = .ok (.iload 4, 2) := by decide +kernel
theorem dX11_kept_76 : decode cX11_kept 76 = .ok (.iconst 4, 1) := by decide +kernel
theorem dX11_kept_77 : decode cX11_kept 77 = .ok (.ishr, 1) := by decide +kernel
theorem dX11_kept_78 : decode cX11_kept 78 = .ok (.bipush 7, 2) := by decide +kernel
theorem dX11_kept_80 : decode cX11_kept 80 = .ok (.iand, 1) := by decide +kernel
theorem dX11_kept_81 : decode cX11_kept 81 = .ok (.ireturn, 1) := by decide +kernel
theorem dX11_kept_82 : decode cX11_kept 82 = .ok (.iload 4, 2) := by decide +kernel
theorem dX11_kept_84 : decode cX11_kept 84 = .ok (.bipush 15, 2) := by decide +kernel
theorem dX11_kept_86 : decode cX11_kept 86 = .ok (.iand, 1) := by decide +kernel
theorem dX11_kept_87 : decode cX11_kept 87 = .ok (.ireturn, 1) := by decide +kernel
theorem dX11_kept_88 : decode cX11_kept 88 = .ok (.iconst (-1), 1) := by decide +kernel
theorem dX11_kept_89 : decode cX11_kept 89 = .ok (.ireturn, 1) := by decide +kernel
theorem dX11_work_0 : decode cX11_work 0 = .ok (.aload_n 0, 1) := by decide +kernel
theorem dX11_work_1 : decode cX11_work 1 = .ok (.getfield 33, 3) := by decide +kernel
theorem dX11_work_4 : decode cX11_work 4 = .ok (.getfield 121, 3) := by decide +kernel
theorem dX11_work_7 : decode cX11_work 7 = .ok (.iconst 2, 1) := by decide +kernel
theorem dX11_work_8 : decode cX11_work 8 = .ok (.iload_n 1, 1) := by decide +kernel
theorem dX11_work_9 : decode cX11_work 9 = .ok (.invokevirtual 155, 3) := by decide +kernel
theorem dX11_work_12 : decode cX11_work 12 = .ok (.ifCond .eq 17, 3) := by decide +kernel
theorem dX11_work_15 : decode cX11_work 15 = .ok (.aload_n 0, 1) := by decide +kernel
theorem dX11_work_16 : decode cX11_work 16 = .ok (.getfield 33, 3) := by decide +kernel
theorem dX11_work_19 : decode cX11_work 19 = .ok (.getfield 121, 3) := by decide +kernel
theorem dX11_work_22 : decode cX11_work 22 = .ok (.iload_n 2, 1) := by decide +kernel
theorem dX11_work_23 : decode cX11_work 23 = .ok (.invokevirtual 276, 3) := by decide +kernel
theorem dX11_work_26 : decode cX11_work 26 = .ok (.ifCond .ne 5, 3) := by decide +kernel
theorem dX11_work_29 : decode cX11_work 29 = .ok (.iconst (-1), 1) := by decide +kernel
theorem dX11_work_30 : decode cX11_work 30 = .ok (.ireturn, 1) := by decide +kernel
theorem dX11_work_31 : decode cX11_work 31 = .ok (.iload_n 3, 1) := by decide +kernel
theorem dX11_work_32 : decode cX11_work 32 = .ok (.tableswitch 60 0 2 #[28, 39, 49], 28) := by decide +kernel
theorem dX11_work_60 : decode cX11_work 60 = .ok (.aload_n 0, 1) := by decide +kernel
theorem dX11_work_61 : decode cX11_work 61 = .ok (.getfield 67, 3) := by decide +kernel
theorem dX11_work_64 : decode cX11_work 64 = .ok (.iload_n 1, 1) := by decide +kernel
theorem dX11_work_65 : decode cX11_work 65 = .ok (.iload_n 2, 1) := by decide +kernel
theorem dX11_work_66 : decode cX11_work 66 = .ok (.iconst (-1), 1) := by decide +kernel
theorem dX11_work_67 : decode cX11_work 67 = .ok (.invokevirtual 279, 3) := by decide +kernel
theorem dX11_work_70 : decode cX11_work 70 = .ok (.ireturn, 1) := by decide +kernel
theorem dX11_work_71 : decode cX11_work 71 = .ok (.aload_n 0, 1) := by decide +kernel
theorem dX11_work_72 : decode cX11_work 72 = .ok (.getfield 67, 3) := by decide +kernel
theorem dX11_work_75 : decode cX11_work 75 = .ok (.iload_n 1, 1) := by decide +kernel
theorem dX11_work_76 : decode cX11_work 76 = .ok (.iload_n 2, 1) := by decide +kernel
theorem dX11_work_77 : decode cX11_work 77 = .ok (.invokevirtual 283, 3) := by decide +kernel
theorem dX11_work_80 : decode cX11_work 80 = .ok (.ireturn, 1) := by decide +kernel
theorem dX11_work_81 : decode cX11_work 81 = .ok (.aload_n 0, 1) := by decide +kernel
theorem dX11_work_82 : decode cX11_work 82 = .ok (.getfield 67, 3) := by decide +kernel
theorem dX11_work_85 : decode cX11_work 85 = .ok (.iload_n 1, 1) := by decide +kernel
theorem dX11_work_86 : decode cX11_work 86 = .ok (.iload_n 2, 1) := by decide +kernel
theorem dX11_work_87 : decode cX11_work 87 = .ok (.iconst (-1), 1) := by decide +kernel
theorem dX11_work_88 : decode cX11_work 88 = .ok (.invokevirtual 286, 3) := by decide +kernel
theorem dX11_work_91 : decode cX11_work 91 = .ok (.ireturn, 1) := by decide +kernel
theorem dX11_work_92 : decode cX11_work 92 = .ok (.iconst (-1), 1) := by decide +kernel
theorem dX11_work_93 : decode cX11_work 93 = .ok (.ireturn, 1) := by decide +kernel
theorem dX11_scholar_0 : decode cX11_scholar 0 = .ok (.aload_n 0, 1) := by decide +kernel
theorem dX11_scholar_1 : decode cX11_scholar 1 = .ok (.getfield 33, 3) := by decide +kernel
theorem dX11_scholar_4 : decode cX11_scholar 4 = .ok (.getfield 121, 3) := by decide +kernel
theorem dX11_scholar_7 : decode cX11_scholar 7 = .ok (.iload_n 1, 1) := by decide +kernel
theorem dX11_scholar_8 : decode cX11_scholar 8 = .ok (.invokevirtual 276, 3) := by decide +kernel
theorem dX11_scholar_11 : decode cX11_scholar 11 = .ok (.ifCond .ne 5, 3) := by decide +kernel
theorem dX11_scholar_14 : decode cX11_scholar 14 = .ok (.iconst (-1), 1) := by decide +kernel
theorem dX11_scholar_15 : decode cX11_scholar 15 = .ok (.ireturn, 1) := by decide +kernel
theorem dX11_scholar_16 : decode cX11_scholar 16 = .ok (.iconst (-1), 1) := by decide +kernel
theorem dX11_scholar_17 : decode cX11_scholar 17 = .ok (.istore_n 2, 1) := by decide +kernel
theorem dX11_scholar_18 : decode cX11_scholar 18 = .ok (.iconst 0, 1) := by decide +kernel
theorem dX11_scholar_19 : decode cX11_scholar 19 = .ok (.istore_n 3, 1) := by decide +kernel
theorem dX11_scholar_20 : decode cX11_scholar 20 = .ok (.iconst 0, 1) := by decide +kernel
theorem dX11_scholar_21 : decode cX11_scholar 21 = .ok (.istore 4, 2) := by decide +kernel
theorem dX11_scholar_23 : decode cX11_scholar 23 = .ok (.iload 4, 2) := by decide +kernel
theorem dX11_scholar_25 : decode cX11_scholar 25 = .ok (.aload_n 0, 1) := by decide +kernel
theorem dX11_scholar_26 : decode cX11_scholar 26 = .ok (.getfield 33, 3) := by decide +kernel
theorem dX11_scholar_29 : decode cX11_scholar 29 = .ok (.getfield 121, 3) := by decide +kernel
theorem dX11_scholar_32 : decode cX11_scholar 32 = .ok (.getfield 133, 3) := by decide +kernel
theorem dX11_scholar_35 : decode cX11_scholar 35 = .ok (.iconst 2, 1) := by decide +kernel
theorem dX11_scholar_36 : decode cX11_scholar 36 = .ok (.iaload, 1) := by decide +kernel
theorem dX11_scholar_37 : decode cX11_scholar 37 = .ok (.if_icmp .ge 44, 3) := by decide +kernel
theorem dX11_scholar_40 : decode cX11_scholar 40 = .ok (.aload_n 0, 1) := by decide +kernel
theorem dX11_scholar_41 : decode cX11_scholar 41 = .ok (.getfield 67, 3) := by decide +kernel
theorem dX11_scholar_44 : decode cX11_scholar 44 = .ok (.iload 4, 2) := by decide +kernel
theorem dX11_scholar_46 : decode cX11_scholar 46 = .ok (.iload_n 1, 1) := by decide +kernel
theorem dX11_scholar_47 : decode cX11_scholar 47 = .ok (.invokevirtual 283, 3) := by decide +kernel
theorem dX11_scholar_50 : decode cX11_scholar 50 = .ok (.istore 5, 2) := by decide +kernel
theorem dX11_scholar_52 : decode cX11_scholar 52 = .ok (.iload 5, 2) := by decide +kernel
theorem dX11_scholar_54 : decode cX11_scholar 54 = .ok (.iconst (-1), 1) := by decide +kernel
theorem dX11_scholar_55 : decode cX11_scholar 55 = .ok (.if_icmp .eq 20, 3) := by decide +kernel
theorem dX11_scholar_58 : decode cX11_scholar 58 = .ok (.iload_n 2, 1) := by decide +kernel
theorem dX11_scholar_59 : decode cX11_scholar 59 = .ok (.iconst (-1), 1) := by decide +kernel
theorem dX11_scholar_60 : decode cX11_scholar 60 = .ok (.if_icmp .eq 9, 3) := by decide +kernel
theorem dX11_scholar_63 : decode cX11_scholar 63 = .ok (.iload 5, 2) := by decide +kernel
theorem dX11_scholar_65 : decode cX11_scholar 65 = .ok (.iload_n 3, 1) := by decide +kernel
theorem dX11_scholar_66 : decode cX11_scholar 66 = .ok (.if_icmp .ge 9, 3) := by decide +kernel
theorem dX11_scholar_69 : decode cX11_scholar 69 = .ok (.iload 4, 2) := by decide +kernel
theorem dX11_scholar_71 : decode cX11_scholar 71 = .ok (.istore_n 2, 1) := by decide +kernel
theorem dX11_scholar_72 : decode cX11_scholar 72 = .ok (.iload 5, 2) := by decide +kernel
theorem dX11_scholar_74 : decode cX11_scholar 74 = .ok (.istore_n 3, 1) := by decide +kernel
theorem dX11_scholar_75 : decode cX11_scholar 75 = .ok (.iinc 4 1, 3) := by decide +kernel
theorem dX11_scholar_78 : decode cX11_scholar 78 = .ok (.goto (-55), 3) := by decide +kernel
theorem dX11_scholar_81 : decode cX11_scholar 81 = .ok (.iload_n 2, 1) := by decide +kernel
theorem dX11_scholar_82 : decode cX11_scholar 82 = .ok (.ireturn, 1) := by decide +kernel
theorem dX11_shared_0 : decode cX11_shared 0 = .ok (.aload_n 0, 1) := by decide +kernel
theorem dX11_shared_1 : decode cX11_shared 1 = .ok (.getfield 33, 3) := by decide +kernel
theorem dX11_shared_4 : decode cX11_shared 4 = .ok (.getfield 121, 3) := by decide +kernel
theorem dX11_shared_7 : decode cX11_shared 7 = .ok (.iload_n 1, 1) := by decide +kernel
theorem dX11_shared_8 : decode cX11_shared 8 = .ok (.invokevirtual 276, 3) := by decide +kernel
theorem dX11_shared_11 : decode cX11_shared 11 = .ok (.ifCond .eq 16, 3) := by decide +kernel
theorem dX11_shared_14 : decode cX11_shared 14 = .ok (.iload_n 1, 1) := by decide +kernel
theorem dX11_shared_15 : decode cX11_shared 15 = .ok (.ifCond .eq 12, 3) := by decide +kernel
theorem dX11_shared_18 : decode cX11_shared 18 = .ok (.iload_n 1, 1) := by decide +kernel
theorem dX11_shared_19 : decode cX11_shared 19 = .ok (.invokestatic 289, 3) := by decide +kernel
theorem dX11_shared_22 : decode cX11_shared 22 = .ok (.bipush 8, 2) := by decide +kernel
theorem dX11_shared_24 : decode cX11_shared 24 = .ok (.if_icmp .le 5, 3) := by decide +kernel
theorem dX11_shared_27 : decode cX11_shared 27 = .ok (.iconst (-1), 1) := by decide +kernel
theorem dX11_shared_28 : decode cX11_shared 28 = .ok (.ireturn, 1) := by decide +kernel
theorem dX11_shared_29 : decode cX11_shared 29 = .ok (.iload_n 2, 1) := by decide +kernel
theorem dX11_shared_30 : decode cX11_shared 30 = .ok (.ifCond .lt 21, 3) := by decide +kernel
theorem dX11_shared_33 : decode cX11_shared 33 = .ok (.iload_n 2, 1) := by decide +kernel
theorem dX11_shared_34 : decode cX11_shared 34 = .ok (.bipush 14, 2) := by decide +kernel
theorem dX11_shared_36 : decode cX11_shared 36 = .ok (.if_icmp .ge 15, 3) := by decide +kernel
theorem dX11_shared_39 : decode cX11_shared 39 = .ok (.iload_n 1, 1) := by decide +kernel
theorem dX11_shared_40 : decode cX11_shared 40 = .ok (.iconst 1, 1) := by decide +kernel
theorem dX11_shared_41 : decode cX11_shared 41 = .ok (.iload_n 2, 1) := by decide +kernel
theorem dX11_shared_42 : decode cX11_shared 42 = .ok (.ishl, 1) := by decide +kernel
theorem dX11_shared_43 : decode cX11_shared 43 = .ok (.iand, 1) := by decide +kernel
theorem dX11_shared_44 : decode cX11_shared 44 = .ok (.ifCond .eq 7, 3) := by decide +kernel
theorem dX11_shared_47 : decode cX11_shared 47 = .ok (.iconst 1, 1) := by decide +kernel
theorem dX11_shared_48 : decode cX11_shared 48 = .ok (.goto 4, 3) := by decide +kernel
theorem dX11_shared_51 : decode cX11_shared 51 = .ok (.iconst 0, 1) := by decide +kernel
theorem dX11_shared_52 : decode cX11_shared 52 = .ok (.istore_n 3, 1) := by decide +kernel
theorem dX11_shared_53 : decode cX11_shared 53 = .ok (.iload_n 2, 1) := by decide +kernel
theorem dX11_shared_54 : decode cX11_shared 54 = .ok (.iconst (-1), 1) := by decide +kernel
theorem dX11_shared_55 : decode cX11_shared 55 = .ok (.if_icmp .eq 15, 3) := by decide +kernel
theorem dX11_shared_58 : decode cX11_shared 58 = .ok (.iload_n 2, 1) := by decide +kernel
theorem dX11_shared_59 : decode cX11_shared 59 = .ok (.bipush 20, 2) := by decide +kernel
theorem dX11_shared_61 : decode cX11_shared 61 = .ok (.if_icmp .eq 9, 3) := by decide +kernel
theorem dX11_shared_64 : decode cX11_shared 64 = .ok (.iload_n 3, 1) := by decide +kernel
theorem dX11_shared_65 : decode cX11_shared 65 = .ok (.ifCond .ne 5, 3) := by decide +kernel
theorem dX11_shared_68 : decode cX11_shared 68 = .ok (.iconst (-1), 1) := by decide +kernel
theorem dX11_shared_69 : decode cX11_shared 69 = .ok (.ireturn, 1) := by decide +kernel
theorem dX11_shared_70 : decode cX11_shared 70 = .ok (.aload_n 0, 1) := by decide +kernel
theorem dX11_shared_71 : decode cX11_shared 71 = .ok (.getfield 76, 3) := by decide +kernel
theorem dX11_shared_74 : decode cX11_shared 74 = .ok (.iload_n 1, 1) := by decide +kernel
theorem dX11_shared_75 : decode cX11_shared 75 = .ok (.invokevirtual 294, 3) := by decide +kernel
theorem dX11_shared_78 : decode cX11_shared 78 = .ok (.aload_n 0, 1) := by decide +kernel
theorem dX11_shared_79 : decode cX11_shared 79 = .ok (.getfield 76, 3) := by decide +kernel
theorem dX11_shared_82 : decode cX11_shared 82 = .ok (.getfield 297, 3) := by decide +kernel
theorem dX11_shared_85 : decode cX11_shared 85 = .ok (.iconst (-1), 1) := by decide +kernel
theorem dX11_shared_86 : decode cX11_shared 86 = .ok (.if_icmp .eq 8, 3) := by decide +kernel
theorem dX11_shared_89 : decode cX11_shared 89 = .ok (.iload_n 2, 1) := by decide +kernel
theorem dX11_shared_90 : decode cX11_shared 90 = .ok (.iconst (-1), 1) := by decide +kernel
theorem dX11_shared_91 : decode cX11_shared 91 = .ok (.if_icmp .ne 11, 3) := by decide +kernel
theorem dX11_shared_94 : decode cX11_shared 94 = .ok (.aload_n 0, 1) := by decide +kernel
theorem dX11_shared_95 : decode cX11_shared 95 = .ok (.getfield 76, 3) := by decide +kernel
theorem dX11_shared_98 : decode cX11_shared 98 = .ok (.getfield 297, 3) := by decide +kernel
theorem dX11_shared_101 : decode cX11_shared 101 = .ok (.ireturn, 1) := by decide +kernel
theorem dX11_shared_102 : decode cX11_shared 102 = .ok (.iload_n 2, 1) := by decide +kernel
theorem dX11_shared_103 : decode cX11_shared 103 = .ok (.bipush 20, 2) := by decide +kernel
theorem dX11_shared_105 : decode cX11_shared 105 = .ok (.if_icmp .ne 13, 3) := by decide +kernel
theorem dX11_shared_108 : decode cX11_shared 108 = .ok (.aload_n 0, 1) := by decide +kernel
theorem dX11_shared_109 : decode cX11_shared 109 = .ok (.getfield 76, 3) := by decide +kernel
theorem dX11_shared_112 : decode cX11_shared 112 = .ok (.getfield 300, 3) := by decide +kernel
theorem dX11_shared_115 : decode cX11_shared 115 = .ok (.goto 11, 3) := by decide +kernel
theorem dX11_shared_118 : decode cX11_shared 118 = .ok (.aload_n 0, 1) := by decide +kernel
theorem dX11_shared_119 : decode cX11_shared 119 = .ok (.getfield 76, 3) := by decide +kernel
theorem dX11_shared_122 : decode cX11_shared 122 = .ok (.iload_n 2, 1) := by decide +kernel
theorem dX11_shared_123 : decode cX11_shared 123 = .ok (.invokevirtual 303, 3) := by decide +kernel
theorem dX11_shared_126 : decode cX11_shared 126 = .ok (.ireturn, 1) := by decide +kernel
theorem dX11_seated_0 : decode cX11_seated 0 = .ok (.aload_n 0, 1) := by decide +kernel
theorem dX11_seated_1 : decode cX11_seated 1 = .ok (.getfield 33, 3) := by decide +kernel
theorem dX11_seated_4 : decode cX11_seated 4 = .ok (.getfield 121, 3) := by decide +kernel
theorem dX11_seated_7 : decode cX11_seated 7 = .ok (.getfield 133, 3) := by decide +kernel
theorem dX11_seated_10 : decode cX11_seated 10 = .ok (.iconst 2, 1) := by decide +kernel
theorem dX11_seated_11 : decode cX11_seated 11 = .ok (.iaload, 1) := by decide +kernel
theorem dX11_seated_12 : decode cX11_seated 12 = .ok (.istore_n 2, 1) := by decide +kernel
theorem dX11_seated_13 : decode cX11_seated 13 = .ok (.iload_n 1, 1) := by decide +kernel
theorem dX11_seated_14 : decode cX11_seated 14 = .ok (.iconst (-1), 1) := by decide +kernel
theorem dX11_seated_15 : decode cX11_seated 15 = .ok (.if_icmp .eq 18, 3) := by decide +kernel
theorem dX11_seated_18 : decode cX11_seated 18 = .ok (.iload_n 1, 1) := by decide +kernel
theorem dX11_seated_19 : decode cX11_seated 19 = .ok (.bipush 20, 2) := by decide +kernel
theorem dX11_seated_21 : decode cX11_seated 21 = .ok (.if_icmp .eq 12, 3) := by decide +kernel
theorem dX11_seated_24 : decode cX11_seated 24 = .ok (.iload_n 1, 1) := by decide +kernel
theorem dX11_seated_25 : decode cX11_seated 25 = .ok (.ifCond .lt 12, 3) := by decide +kernel
theorem dX11_seated_28 : decode cX11_seated 28 = .ok (.iload_n 1, 1) := by decide +kernel
theorem dX11_seated_29 : decode cX11_seated 29 = .ok (.iload_n 2, 1) := by decide +kernel
theorem dX11_seated_30 : decode cX11_seated 30 = .ok (.if_icmp .ge 7, 3) := by decide +kernel
theorem dX11_seated_33 : decode cX11_seated 33 = .ok (.iconst 1, 1) := by decide +kernel
theorem dX11_seated_34 : decode cX11_seated 34 = .ok (.goto 4, 3) := by decide +kernel
theorem dX11_seated_37 : decode cX11_seated 37 = .ok (.iconst 0, 1) := by decide +kernel
theorem dX11_seated_38 : decode cX11_seated 38 = .ok (.istore_n 3, 1) := by decide +kernel
theorem dX11_seated_39 : decode cX11_seated 39 = .ok (.iload_n 2, 1) := by decide +kernel
theorem dX11_seated_40 : decode cX11_seated 40 = .ok (.ifCond .eq 7, 3) := by decide +kernel
theorem dX11_seated_43 : decode cX11_seated 43 = .ok (.iload_n 3, 1) := by decide +kernel
theorem dX11_seated_44 : decode cX11_seated 44 = .ok (.ifCond .ne 5, 3) := by decide +kernel
theorem dX11_seated_47 : decode cX11_seated 47 = .ok (.iconst (-1), 1) := by decide +kernel
theorem dX11_seated_48 : decode cX11_seated 48 = .ok (.ireturn, 1) := by decide +kernel
theorem dX11_seated_49 : decode cX11_seated 49 = .ok (.aload_n 0, 1) := by decide +kernel
theorem dX11_seated_50 : decode cX11_seated 50 = .ok (.getfield 83, 3) := by decide +kernel
theorem dX11_seated_53 : decode cX11_seated 53 = .ok (.invokevirtual 306, 3) := by decide +kernel
theorem dX11_seated_56 : decode cX11_seated 56 = .ok (.iload_n 1, 1) := by decide +kernel
theorem dX11_seated_57 : decode cX11_seated 57 = .ok (.iconst (-1), 1) := by decide +kernel
theorem dX11_seated_58 : decode cX11_seated 58 = .ok (.if_icmp .ne 11, 3) := by decide +kernel
theorem dX11_seated_61 : decode cX11_seated 61 = .ok (.aload_n 0, 1) := by decide +kernel
theorem dX11_seated_62 : decode cX11_seated 62 = .ok (.getfield 83, 3) := by decide +kernel
theorem dX11_seated_65 : decode cX11_seated 65 = .ok (.invokevirtual 308, 3) := by decide +kernel
theorem dX11_seated_68 : decode cX11_seated 68 = .ok (.ireturn, 1) := by decide +kernel
theorem dX11_seated_69 : decode cX11_seated 69 = .ok (.iload_n 1, 1) := by decide +kernel
theorem dX11_seated_70 : decode cX11_seated 70 = .ok (.bipush 20, 2) := by decide +kernel
theorem dX11_seated_72 : decode cX11_seated 72 = .ok (.if_icmp .ne 13, 3) := by decide +kernel
theorem dX11_seated_75 : decode cX11_seated 75 = .ok (.aload_n 0, 1) := by decide +kernel
theorem dX11_seated_76 : decode cX11_seated 76 = .ok (.getfield 83, 3) := by decide +kernel
theorem dX11_seated_79 : decode cX11_seated 79 = .ok (.invokevirtual 311, 3) := by decide +kernel
theorem dX11_seated_82 : decode cX11_seated 82 = .ok (.goto 11, 3) := by decide +kernel
theorem dX11_seated_85 : decode cX11_seated 85 = .ok (.aload_n 0, 1) := by decide +kernel
theorem dX11_seated_86 : decode cX11_seated 86 = .ok (.getfield 83, 3) := by decide +kernel
theorem dX11_seated_89 : decode cX11_seated 89 = .ok (.iload_n 1, 1) := by decide +kernel
theorem dX11_seated_90 : decode cX11_seated 90 = .ok (.invokevirtual 314, 3) := by decide +kernel
theorem dX11_seated_93 : decode cX11_seated 93 = .ok (.ireturn, 1) := by decide +kernel
theorem dX11_most_0 : decode cX11_most 0 = .ok (.aload_n 0, 1) := by decide +kernel
theorem dX11_most_1 : decode cX11_most 1 = .ok (.getfield 33, 3) := by decide +kernel
theorem dX11_most_4 : decode cX11_most 4 = .ok (.getfield 121, 3) := by decide +kernel
theorem dX11_most_7 : decode cX11_most 7 = .ok (.iconst 2, 1) := by decide +kernel
theorem dX11_most_8 : decode cX11_most 8 = .ok (.iload_n 1, 1) := by decide +kernel
theorem dX11_most_9 : decode cX11_most 9 = .ok (.invokevirtual 155, 3) := by decide +kernel
theorem dX11_most_12 : decode cX11_most 12 = .ok (.ifCond .eq 13, 3) := by decide +kernel
theorem dX11_most_15 : decode cX11_most 15 = .ok (.iload_n 2, 1) := by decide +kernel
theorem dX11_most_16 : decode cX11_most 16 = .ok (.ifCond .lt 9, 3) := by decide +kernel
theorem dX11_most_19 : decode cX11_most 19 = .ok (.iload_n 2, 1) := by decide +kernel
theorem dX11_most_20 : decode cX11_most 20 = .ok (.bipush 99, 2) := by decide +kernel
theorem dX11_most_22 : decode cX11_most 22 = .ok (.if_icmp .le 5, 3) := by decide +kernel
theorem dX11_most_25 : decode cX11_most 25 = .ok (.iconst (-1), 1) := by decide +kernel
theorem dX11_most_26 : decode cX11_most 26 = .ok (.ireturn, 1) := by decide +kernel
theorem dX11_most_27 : decode cX11_most 27 = .ok (.iload_n 3, 1) := by decide +kernel
theorem dX11_most_28 : decode cX11_most 28 = .ok (.ifCond .lt 8, 3) := by decide +kernel
theorem dX11_most_31 : decode cX11_most 31 = .ok (.iload_n 3, 1) := by decide +kernel
theorem dX11_most_32 : decode cX11_most 32 = .ok (.iconst 2, 1) := by decide +kernel
theorem dX11_most_33 : decode cX11_most 33 = .ok (.if_icmp .le 5, 3) := by decide +kernel
theorem dX11_most_36 : decode cX11_most 36 = .ok (.iconst (-1), 1) := by decide +kernel
theorem dX11_most_37 : decode cX11_most 37 = .ok (.ireturn, 1) := by decide +kernel
theorem dX11_most_38 : decode cX11_most 38 = .ok (.aload_n 0, 1) := by decide +kernel
theorem dX11_most_39 : decode cX11_most 39 = .ok (.getfield 67, 3) := by decide +kernel
theorem dX11_most_42 : decode cX11_most 42 = .ok (.iload_n 1, 1) := by decide +kernel
theorem dX11_most_43 : decode cX11_most 43 = .ok (.iload_n 2, 1) := by decide +kernel
theorem dX11_most_44 : decode cX11_most 44 = .ok (.invokevirtual 317, 3) := by decide +kernel
theorem dX11_most_47 : decode cX11_most 47 = .ok (.iload_n 3, 1) := by decide +kernel
theorem dX11_most_48 : decode cX11_most 48 = .ok (.lookupswitch 44 #[(0, 28), (1, 36)], 28) := by decide +kernel
theorem dX11_most_76 : decode cX11_most 76 = .ok (.aload_n 0, 1) := by decide +kernel
theorem dX11_most_77 : decode cX11_most 77 = .ok (.getfield 67, 3) := by decide +kernel
theorem dX11_most_80 : decode cX11_most 80 = .ok (.getfield 320, 3) := by decide +kernel
theorem dX11_most_83 : decode cX11_most 83 = .ok (.ireturn, 1) := by decide +kernel
theorem dX11_most_84 : decode cX11_most 84 = .ok (.aload_n 0, 1) := by decide +kernel
theorem dX11_most_85 : decode cX11_most 85 = .ok (.getfield 67, 3) := by decide +kernel
theorem dX11_most_88 : decode cX11_most 88 = .ok (.getfield 323, 3) := by decide +kernel
theorem dX11_most_91 : decode cX11_most 91 = .ok (.ireturn, 1) := by decide +kernel
theorem dX11_most_92 : decode cX11_most 92 = .ok (.aload_n 0, 1) := by decide +kernel
theorem dX11_most_93 : decode cX11_most 93 = .ok (.getfield 67, 3) := by decide +kernel
theorem dX11_most_96 : decode cX11_most 96 = .ok (.getfield 326, 3) := by decide +kernel
theorem dX11_most_99 : decode cX11_most 99 = .ok (.ireturn, 1) := by decide +kernel
theorem dX11_wax_0 : decode cX11_wax 0 = .ok (.aload_n 0, 1) := by decide +kernel
theorem dX11_wax_1 : decode cX11_wax 1 = .ok (.getfield 33, 3) := by decide +kernel
theorem dX11_wax_4 : decode cX11_wax 4 = .ok (.getfield 121, 3) := by decide +kernel
theorem dX11_wax_7 : decode cX11_wax 7 = .ok (.iconst 2, 1) := by decide +kernel
theorem dX11_wax_8 : decode cX11_wax 8 = .ok (.iload_n 1, 1) := by decide +kernel
theorem dX11_wax_9 : decode cX11_wax 9 = .ok (.invokevirtual 155, 3) := by decide +kernel
theorem dX11_wax_12 : decode cX11_wax 12 = .ok (.ifCond .eq 16, 3) := by decide +kernel
theorem dX11_wax_15 : decode cX11_wax 15 = .ok (.iload_n 2, 1) := by decide +kernel
theorem dX11_wax_16 : decode cX11_wax 16 = .ok (.ifCond .lt 12, 3) := by decide +kernel
theorem dX11_wax_19 : decode cX11_wax 19 = .ok (.iload_n 3, 1) := by decide +kernel
theorem dX11_wax_20 : decode cX11_wax 20 = .ok (.ifCond .lt 8, 3) := by decide +kernel
theorem dX11_wax_23 : decode cX11_wax 23 = .ok (.iload_n 3, 1) := by decide +kernel
theorem dX11_wax_24 : decode cX11_wax 24 = .ok (.iconst 2, 1) := by decide +kernel
theorem dX11_wax_25 : decode cX11_wax 25 = .ok (.if_icmp .le 5, 3) := by decide +kernel
theorem dX11_wax_28 : decode cX11_wax 28 = .ok (.iconst (-1), 1) := by decide +kernel
theorem dX11_wax_29 : decode cX11_wax 29 = .ok (.ireturn, 1) := by decide +kernel
theorem dX11_wax_30 : decode cX11_wax 30 = .ok (.aload_n 0, 1) := by decide +kernel
theorem dX11_wax_31 : decode cX11_wax 31 = .ok (.getfield 67, 3) := by decide +kernel
theorem dX11_wax_34 : decode cX11_wax 34 = .ok (.iload_n 1, 1) := by decide +kernel
theorem dX11_wax_35 : decode cX11_wax 35 = .ok (.iload_n 2, 1) := by decide +kernel
theorem dX11_wax_36 : decode cX11_wax 36 = .ok (.invokevirtual 329, 3) := by decide +kernel
theorem dX11_wax_39 : decode cX11_wax 39 = .ok (.iload_n 3, 1) := by decide +kernel
theorem dX11_wax_40 : decode cX11_wax 40 = .ok (.lookupswitch 58 #[(0, 28), (1, 36)], 28) := by decide +kernel
theorem dX11_wax_68 : decode cX11_wax 68 = .ok (.aload_n 0, 1) := by decide +kernel
theorem dX11_wax_69 : decode cX11_wax 69 = .ok (.getfield 67, 3) := by decide +kernel
theorem dX11_wax_72 : decode cX11_wax 72 = .ok (.getfield 332, 3) := by decide +kernel
theorem dX11_wax_75 : decode cX11_wax 75 = .ok (.ireturn, 1) := by decide +kernel
theorem dX11_wax_76 : decode cX11_wax 76 = .ok (.aload_n 0, 1) := by decide +kernel
theorem dX11_wax_77 : decode cX11_wax 77 = .ok (.getfield 67, 3) := by decide +kernel
theorem dX11_wax_80 : decode cX11_wax 80 = .ok (.getfield 332, 3) := by decide +kernel
theorem dX11_wax_83 : decode cX11_wax 83 = .ok (.ifCond .ne 7, 3) := by decide +kernel
theorem dX11_wax_86 : decode cX11_wax 86 = .ok (.iconst 0, 1) := by decide +kernel
theorem dX11_wax_87 : decode cX11_wax 87 = .ok (.goto 10, 3) := by decide +kernel
theorem dX11_wax_90 : decode cX11_wax 90 = .ok (.aload_n 0, 1) := by decide +kernel
theorem dX11_wax_91 : decode cX11_wax 91 = .ok (.getfield 67, 3) := by decide +kernel
theorem dX11_wax_94 : decode cX11_wax 94 = .ok (.getfield 335, 3) := by decide +kernel
theorem dX11_wax_97 : decode cX11_wax 97 = .ok (.ireturn, 1) := by decide +kernel
theorem dX11_wax_98 : decode cX11_wax 98 = .ok (.aload_n 0, 1) := by decide +kernel
theorem dX11_wax_99 : decode cX11_wax 99 = .ok (.getfield 67, 3) := by decide +kernel
theorem dX11_wax_102 : decode cX11_wax 102 = .ok (.getfield 338, 3) := by decide +kernel
theorem dX11_wax_105 : decode cX11_wax 105 = .ok (.ireturn, 1) := by decide +kernel
theorem dX11_index_0 : decode cX11_index 0 = .ok (.aload_n 0, 1) := by decide +kernel
theorem dX11_index_1 : decode cX11_index 1 = .ok (.getfield 33, 3) := by decide +kernel
theorem dX11_index_4 : decode cX11_index 4 = .ok (.getfield 121, 3) := by decide +kernel
theorem dX11_index_7 : decode cX11_index 7 = .ok (.iload_n 1, 1) := by decide +kernel
theorem dX11_index_8 : decode cX11_index 8 = .ok (.invokevirtual 276, 3) := by decide +kernel
theorem dX11_index_11 : decode cX11_index 11 = .ok (.ifCond .eq 12, 3) := by decide +kernel
theorem dX11_index_14 : decode cX11_index 14 = .ok (.iload_n 2, 1) := by decide +kernel
theorem dX11_index_15 : decode cX11_index 15 = .ok (.ifCond .lt 8, 3) := by decide +kernel
theorem dX11_index_18 : decode cX11_index 18 = .ok (.iload_n 2, 1) := by decide +kernel
theorem dX11_index_19 : decode cX11_index 19 = .ok (.iconst 1, 1) := by decide +kernel
theorem dX11_index_20 : decode cX11_index 20 = .ok (.if_icmp .le 5, 3) := by decide +kernel
theorem dX11_index_23 : decode cX11_index 23 = .ok (.iconst (-1), 1) := by decide +kernel
theorem dX11_index_24 : decode cX11_index 24 = .ok (.ireturn, 1) := by decide +kernel
theorem dX11_index_25 : decode cX11_index 25 = .ok (.aload_n 0, 1) := by decide +kernel
theorem dX11_index_26 : decode cX11_index 26 = .ok (.getfield 67, 3) := by decide +kernel
theorem dX11_index_29 : decode cX11_index 29 = .ok (.iload_n 1, 1) := by decide +kernel
theorem dX11_index_30 : decode cX11_index 30 = .ok (.iconst (-1), 1) := by decide +kernel
theorem dX11_index_31 : decode cX11_index 31 = .ok (.invokevirtual 341, 3) := by decide +kernel
theorem dX11_index_34 : decode cX11_index 34 = .ok (.istore_n 3, 1) := by decide +kernel
theorem dX11_index_35 : decode cX11_index 35 = .ok (.iload_n 3, 1) := by decide +kernel
theorem dX11_index_36 : decode cX11_index 36 = .ok (.istore 4, 2) := by decide +kernel
theorem dX11_index_38 : decode cX11_index 38 = .ok (.iconst (-1), 1) := by decide +kernel
theorem dX11_index_39 : decode cX11_index 39 = .ok (.istore 5, 2) := by decide +kernel
theorem dX11_index_41 : decode cX11_index 41 = .ok (.iconst 0, 1) := by decide +kernel
theorem dX11_index_42 : decode cX11_index 42 = .ok (.istore 6, 2) := by decide +kernel
theorem dX11_index_44 : decode cX11_index 44 = .ok (.iload 6, 2) := by decide +kernel
theorem dX11_index_46 : decode cX11_index 46 = .ok (.aload_n 0, 1) := by decide +kernel
theorem dX11_index_47 : decode cX11_index 47 = .ok (.getfield 33, 3) := by decide +kernel
theorem dX11_index_50 : decode cX11_index 50 = .ok (.getfield 121, 3) := by decide +kernel
theorem dX11_index_53 : decode cX11_index 53 = .ok (.getfield 133, 3) := by decide +kernel
theorem dX11_index_56 : decode cX11_index 56 = .ok (.iconst 1, 1) := by decide +kernel
theorem dX11_index_57 : decode cX11_index 57 = .ok (.iaload, 1) := by decide +kernel
theorem dX11_index_58 : decode cX11_index 58 = .ok (.if_icmp .ge 49, 3) := by decide +kernel
theorem dX11_index_61 : decode cX11_index 61 = .ok (.iload_n 1, 1) := by decide +kernel
theorem dX11_index_62 : decode cX11_index 62 = .ok (.iconst 1, 1) := by decide +kernel
theorem dX11_index_63 : decode cX11_index 63 = .ok (.iload 6, 2) := by decide +kernel
theorem dX11_index_65 : decode cX11_index 65 = .ok (.ishl, 1) := by decide +kernel
theorem dX11_index_66 : decode cX11_index 66 = .ok (.iand, 1) := by decide +kernel
theorem dX11_index_67 : decode cX11_index 67 = .ok (.ifCond .eq 7, 3) := by decide +kernel
theorem dX11_index_70 : decode cX11_index 70 = .ok (.iload_n 3, 1) := by decide +kernel
theorem dX11_index_71 : decode cX11_index 71 = .ok (.goto 13, 3) := by decide +kernel
theorem dX11_index_74 : decode cX11_index 74 = .ok (.aload_n 0, 1) := by decide +kernel
theorem dX11_index_75 : decode cX11_index 75 = .ok (.getfield 67, 3) := by decide +kernel
theorem dX11_index_78 : decode cX11_index 78 = .ok (.iload_n 1, 1) := by decide +kernel
theorem dX11_index_79 : decode cX11_index 79 = .ok (.iload 6, 2) := by decide +kernel
theorem dX11_index_81 : decode cX11_index 81 = .ok (.invokevirtual 341, 3) := by decide +kernel
theorem dX11_index_84 : decode cX11_index 84 = .ok (.istore 7, 2) := by decide +kernel
theorem dX11_index_86 : decode cX11_index 86 = .ok (.iload 7, 2) := by decide +kernel
theorem dX11_index_88 : decode cX11_index 88 = .ok (.iload 4, 2) := by decide +kernel
theorem dX11_index_90 : decode cX11_index 90 = .ok (.if_icmp .ge 11, 3) := by decide +kernel
theorem dX11_index_93 : decode cX11_index 93 = .ok (.iload 7, 2) := by decide +kernel
theorem dX11_index_95 : decode cX11_index 95 = .ok (.istore 4, 2) := by decide +kernel
theorem dX11_index_97 : decode cX11_index 97 = .ok (.iload 6, 2) := by decide +kernel
theorem dX11_index_99 : decode cX11_index 99 = .ok (.istore 5, 2) := by decide +kernel
theorem dX11_index_101 : decode cX11_index 101 = .ok (.iinc 6 1, 3) := by decide +kernel
theorem dX11_index_104 : decode cX11_index 104 = .ok (.goto (-60), 3) := by decide +kernel
theorem dX11_index_107 : decode cX11_index 107 = .ok (.iload 5, 2) := by decide +kernel
theorem dX11_index_109 : decode cX11_index 109 = .ok (.iconst (-1), 1) := by decide +kernel
theorem dX11_index_110 : decode cX11_index 110 = .ok (.if_icmp .eq 7, 3) := by decide +kernel
theorem dX11_index_113 : decode cX11_index 113 = .ok (.iload_n 2, 1) := by decide +kernel
theorem dX11_index_114 : decode cX11_index 114 = .ok (.ifCond .ne 8, 3) := by decide +kernel
theorem dX11_index_117 : decode cX11_index 117 = .ok (.iload 5, 2) := by decide +kernel
theorem dX11_index_119 : decode cX11_index 119 = .ok (.goto 7, 3) := by decide +kernel
theorem dX11_index_122 : decode cX11_index 122 = .ok (.iload_n 3, 1) := by decide +kernel
theorem dX11_index_123 : decode cX11_index 123 = .ok (.iload 4, 2) := by decide +kernel
theorem dX11_index_125 : decode cX11_index 125 = .ok (.isub, 1) := by decide +kernel
theorem dX11_index_126 : decode cX11_index 126 = .ok (.ireturn, 1) := by decide +kernel
theorem dX11_image_0 : decode cX11_image 0 = .ok (.aload_n 0, 1) := by decide +kernel
theorem dX11_image_1 : decode cX11_image 1 = .ok (.getfield 90, 3) := by decide +kernel
theorem dX11_image_4 : decode cX11_image 4 = .ok (.aload_n 0, 1) := by decide +kernel
theorem dX11_image_5 : decode cX11_image 5 = .ok (.getfield 33, 3) := by decide +kernel
theorem dX11_image_8 : decode cX11_image 8 = .ok (.invokevirtual 344, 3) := by decide +kernel
theorem dX11_image_11 : decode cX11_image 11 = .ok (.aload_n 0, 1) := by decide +kernel
theorem dX11_image_12 : decode cX11_image 12 = .ok (.getfield 90, 3) := by decide +kernel
theorem dX11_image_15 : decode cX11_image 15 = .ok (.getfield 347, 3) := by decide +kernel
theorem dX11_image_18 : decode cX11_image 18 = .ok (.ireturn, 1) := by decide +kernel
theorem dX11_octet_0 : decode cX11_octet 0 = .ok (.iload_n 1, 1) := by decide +kernel
theorem dX11_octet_1 : decode cX11_octet 1 = .ok (.ifCond .lt 26, 3) := by decide +kernel
theorem dX11_octet_4 : decode cX11_octet 4 = .ok (.iload_n 1, 1) := by decide +kernel
theorem dX11_octet_5 : decode cX11_octet 5 = .ok (.aload_n 0, 1) := by decide +kernel
theorem dX11_octet_6 : decode cX11_octet 6 = .ok (.getfield 90, 3) := by decide +kernel
theorem dX11_octet_9 : decode cX11_octet 9 = .ok (.getfield 347, 3) := by decide +kernel
theorem dX11_octet_12 : decode cX11_octet 12 = .ok (.if_icmp .ge 15, 3) := by decide +kernel
theorem dX11_octet_15 : decode cX11_octet 15 = .ok (.aload_n 0, 1) := by decide +kernel
theorem dX11_octet_16 : decode cX11_octet 16 = .ok (.getfield 90, 3) := by decide +kernel
theorem dX11_octet_19 : decode cX11_octet 19 = .ok (.getfield 348, 3) := by decide +kernel
theorem dX11_octet_22 : decode cX11_octet 22 = .ok (.iload_n 1, 1) := by decide +kernel
theorem dX11_octet_23 : decode cX11_octet 23 = .ok (.iaload, 1) := by decide +kernel
theorem dX11_octet_24 : decode cX11_octet 24 = .ok (.goto 4, 3) := by decide +kernel
theorem dX11_octet_27 : decode cX11_octet 27 = .ok (.iconst (-1), 1) := by decide +kernel
theorem dX11_octet_28 : decode cX11_octet 28 = .ok (.ireturn, 1) := by decide +kernel
theorem dX11_on_0 : decode cX11_on 0 = .ok (.aload_n 0, 1) := by decide +kernel
theorem dX11_on_1 : decode cX11_on 1 = .ok (.getfield 90, 3) := by decide +kernel
theorem dX11_on_4 : decode cX11_on 4 = .ok (.aload_n 0, 1) := by decide +kernel
theorem dX11_on_5 : decode cX11_on 5 = .ok (.getfield 10, 3) := by decide +kernel
theorem dX11_on_8 : decode cX11_on 8 = .ok (.aload_n 0, 1) := by decide +kernel
theorem dX11_on_9 : decode cX11_on 9 = .ok (.getfield 33, 3) := by decide +kernel
theorem dX11_on_12 : decode cX11_on 12 = .ok (.getfield 121, 3) := by decide +kernel
theorem dX11_on_15 : decode cX11_on 15 = .ok (.invokevirtual 351, 3) := by decide +kernel
theorem dX11_on_18 : decode cX11_on 18 = .ok (.istore_n 1, 1) := by decide +kernel
theorem dX11_on_19 : decode cX11_on 19 = .ok (.aload_n 0, 1) := by decide +kernel
theorem dX11_on_20 : decode cX11_on 20 = .ok (.getfield 10, 3) := by decide +kernel
theorem dX11_on_23 : decode cX11_on 23 = .ok (.iconst 0, 1) := by decide +kernel
theorem dX11_on_24 : decode cX11_on 24 = .ok (.putfield 102, 3) := by decide +kernel
theorem dX11_on_27 : decode cX11_on 27 = .ok (.iload_n 1, 1) := by decide +kernel
theorem dX11_on_28 : decode cX11_on 28 = .ok (.ifCond .ne 9, 3) := by decide +kernel
theorem dX11_on_31 : decode cX11_on 31 = .ok (.aload_n 0, 1) := by decide +kernel
theorem dX11_on_32 : decode cX11_on 32 = .ok (.iconst 5, 1) := by decide +kernel
theorem dX11_on_33 : decode cX11_on 33 = .ok (.invokevirtual 113, 3) := by decide +kernel
theorem dX11_on_36 : decode cX11_on 36 = .ok (.ireturn, 1) := by decide +kernel
theorem dX11_on_37 : decode cX11_on 37 = .ok (.aload_n 0, 1) := by decide +kernel
theorem dX11_on_38 : decode cX11_on 38 = .ok (.getfield 33, 3) := by decide +kernel
theorem dX11_on_41 : decode cX11_on 41 = .ok (.aload_n 0, 1) := by decide +kernel
theorem dX11_on_42 : decode cX11_on 42 = .ok (.getfield 90, 3) := by decide +kernel
theorem dX11_on_45 : decode cX11_on 45 = .ok (.getfield 355, 3) := by decide +kernel
theorem dX11_on_48 : decode cX11_on 48 = .ok (.invokevirtual 356, 3) := by decide +kernel
theorem dX11_on_51 : decode cX11_on 51 = .ok (.iconst 1, 1) := by decide +kernel
theorem dX11_on_52 : decode cX11_on 52 = .ok (.ireturn, 1) := by decide +kernel
theorem dX11_status_0 : decode cX11_status 0 = .ok (.iload_n 1, 1) := by decide +kernel
theorem dX11_status_1 : decode cX11_status 1 = .ok (.ifCond .lt 18, 3) := by decide +kernel
theorem dX11_status_4 : decode cX11_status 4 = .ok (.iload_n 1, 1) := by decide +kernel
theorem dX11_status_5 : decode cX11_status 5 = .ok (.bipush 6, 2) := by decide +kernel
theorem dX11_status_7 : decode cX11_status 7 = .ok (.if_icmp .ge 12, 3) := by decide +kernel
theorem dX11_status_10 : decode cX11_status 10 = .ok (.aload_n 0, 1) := by decide +kernel
theorem dX11_status_11 : decode cX11_status 11 = .ok (.getfield 94, 3) := by decide +kernel
theorem dX11_status_14 : decode cX11_status 14 = .ok (.iload_n 1, 1) := by decide +kernel
theorem dX11_status_15 : decode cX11_status 15 = .ok (.iaload, 1) := by decide +kernel
theorem dX11_status_16 : decode cX11_status 16 = .ok (.goto 4, 3) := by decide +kernel
theorem dX11_status_19 : decode cX11_status 19 = .ok (.iconst (-1), 1) := by decide +kernel
theorem dX11_status_20 : decode cX11_status 20 = .ok (.ireturn, 1) := by decide +kernel
theorem dX11_refuse_0 : decode cX11_refuse 0 = .ok (.aload_n 0, 1) := by decide +kernel
theorem dX11_refuse_1 : decode cX11_refuse 1 = .ok (.getfield 94, 3) := by decide +kernel
theorem dX11_refuse_4 : decode cX11_refuse 4 = .ok (.iload_n 1, 1) := by decide +kernel
theorem dX11_refuse_5 : decode cX11_refuse 5 = .ok (.dup2, 1) := by decide +kernel
theorem dX11_refuse_6 : decode cX11_refuse 6 = .ok (.iaload, 1) := by decide +kernel
theorem dX11_refuse_7 : decode cX11_refuse 7 = .ok (.iconst 1, 1) := by decide +kernel
theorem dX11_refuse_8 : decode cX11_refuse 8 = .ok (.iadd, 1) := by decide +kernel
theorem dX11_refuse_9 : decode cX11_refuse 9 = .ok (.iastore, 1) := by decide +kernel
theorem dX11_refuse_10 : decode cX11_refuse 10 = .ok (.iconst (-1), 1) := by decide +kernel
theorem dX11_refuse_11 : decode cX11_refuse 11 = .ok (.ireturn, 1) := by decide +kernel
theorem dX11_deny_0 : decode cX11_deny 0 = .ok (.aload_n 0, 1) := by decide +kernel
theorem dX11_deny_1 : decode cX11_deny 1 = .ok (.getfield 94, 3) := by decide +kernel
theorem dX11_deny_4 : decode cX11_deny 4 = .ok (.iload_n 1, 1) := by decide +kernel
theorem dX11_deny_5 : decode cX11_deny 5 = .ok (.dup2, 1) := by decide +kernel
theorem dX11_deny_6 : decode cX11_deny 6 = .ok (.iaload, 1) := by decide +kernel
theorem dX11_deny_7 : decode cX11_deny 7 = .ok (.iconst 1, 1) := by decide +kernel
theorem dX11_deny_8 : decode cX11_deny 8 = .ok (.iadd, 1) := by decide +kernel
theorem dX11_deny_9 : decode cX11_deny 9 = .ok (.iastore, 1) := by decide +kernel
theorem dX11_deny_10 : decode cX11_deny 10 = .ok (.iconst 0, 1) := by decide +kernel
theorem dX11_deny_11 : decode cX11_deny 11 = .ok (.ireturn, 1) := by decide +kernel
theorem dX11_mayTell_0 : decode cX11_mayTell 0 = .ok (.iconst 1, 1) := by decide +kernel
theorem dX11_mayTell_1 : decode cX11_mayTell 1 = .ok (.iload_n 3, 1) := by decide +kernel
theorem dX11_mayTell_2 : decode cX11_mayTell 2 = .ok (.ishl, 1) := by decide +kernel
theorem dX11_mayTell_3 : decode cX11_mayTell 3 = .ok (.istore 4, 2) := by decide +kernel
theorem dX11_mayTell_5 : decode cX11_mayTell 5 = .ok (.aload_n 0, 1) := by decide +kernel
theorem dX11_mayTell_6 : decode cX11_mayTell 6 = .ok (.getfield 33, 3) := by decide +kernel
theorem dX11_mayTell_9 : decode cX11_mayTell 9 = .ok (.iload_n 1, 1) := by decide +kernel
theorem dX11_mayTell_10 : decode cX11_mayTell 10 = .ok (.iconst 0, 1) := by decide +kernel
theorem dX11_mayTell_11 : decode cX11_mayTell 11 = .ok (.invokevirtual 183, 3) := by decide +kernel
theorem dX11_mayTell_14 : decode cX11_mayTell 14 = .ok (.aload_n 0, 1) := by decide +kernel
theorem dX11_mayTell_15 : decode cX11_mayTell 15 = .ok (.getfield 33, 3) := by decide +kernel
theorem dX11_mayTell_18 : decode cX11_mayTell 18 = .ok (.iload_n 2, 1) := by decide +kernel
theorem dX11_mayTell_19 : decode cX11_mayTell 19 = .ok (.iconst 0, 1) := by decide +kernel
theorem dX11_mayTell_20 : decode cX11_mayTell 20 = .ok (.invokevirtual 183, 3) := by decide +kernel
theorem dX11_mayTell_23 : decode cX11_mayTell 23 = .ok (.if_icmp .ne 18, 3) := by decide +kernel
theorem dX11_mayTell_26 : decode cX11_mayTell 26 = .ok (.aload_n 0, 1) := by decide +kernel
theorem dX11_mayTell_27 : decode cX11_mayTell 27 = .ok (.getfield 33, 3) := by decide +kernel
theorem dX11_mayTell_30 : decode cX11_mayTell 30 = .ok (.iload_n 1, 1) := by decide +kernel
theorem dX11_mayTell_31 : decode cX11_mayTell 31 = .ok (.iconst 1, 1) := by decide +kernel
theorem dX11_mayTell_32 : decode cX11_mayTell 32 = .ok (.invokevirtual 183, 3) := by decide +kernel
theorem dX11_mayTell_35 : decode cX11_mayTell 35 = .ok (.iload 4, 2) := by decide +kernel
theorem dX11_mayTell_37 : decode cX11_mayTell 37 = .ok (.iand, 1) := by decide +kernel
theorem dX11_mayTell_38 : decode cX11_mayTell 38 = .ok (.ifCond .ne 5, 3) := by decide +kernel
theorem dX11_mayTell_41 : decode cX11_mayTell 41 = .ok (.iconst 0, 1) := by decide +kernel
theorem dX11_mayTell_42 : decode cX11_mayTell 42 = .ok (.ireturn, 1) := by decide +kernel
theorem dX11_mayTell_43 : decode cX11_mayTell 43 = .ok (.aload_n 0, 1) := by decide +kernel
theorem dX11_mayTell_44 : decode cX11_mayTell 44 = .ok (.getfield 33, 3) := by decide +kernel
theorem dX11_mayTell_47 : decode cX11_mayTell 47 = .ok (.iload_n 2, 1) := by decide +kernel
theorem dX11_mayTell_48 : decode cX11_mayTell 48 = .ok (.invokevirtual 360, 3) := by decide +kernel
theorem dX11_mayTell_51 : decode cX11_mayTell 51 = .ok (.istore 5, 2) := by decide +kernel
theorem dX11_mayTell_53 : decode cX11_mayTell 53 = .ok (.iload 5, 2) := by decide +kernel
theorem dX11_mayTell_55 : decode cX11_mayTell 55 = .ok (.iload 4, 2) := by decide +kernel
theorem dX11_mayTell_57 : decode cX11_mayTell 57 = .ok (.iand, 1) := by decide +kernel
theorem dX11_mayTell_58 : decode cX11_mayTell 58 = .ok (.ifCond .ne 19, 3) := by decide +kernel
theorem dX11_mayTell_61 : decode cX11_mayTell 61 = .ok (.aload_n 0, 1) := by decide +kernel
theorem dX11_mayTell_62 : decode cX11_mayTell 62 = .ok (.getfield 33, 3) := by decide +kernel
theorem dX11_mayTell_65 : decode cX11_mayTell 65 = .ok (.getfield 121, 3) := by decide +kernel
theorem dX11_mayTell_68 : decode cX11_mayTell 68 = .ok (.iload 5, 2) := by decide +kernel
theorem dX11_mayTell_70 : decode cX11_mayTell 70 = .ok (.iload_n 3, 1) := by decide +kernel
theorem dX11_mayTell_71 : decode cX11_mayTell 71 = .ok (.invokevirtual 363, 3) := by decide +kernel
theorem dX11_mayTell_74 : decode cX11_mayTell 74 = .ok (.ifCond .ne 5, 3) := by decide +kernel
theorem dX11_mayTell_77 : decode cX11_mayTell 77 = .ok (.iconst 0, 1) := by decide +kernel
theorem dX11_mayTell_78 : decode cX11_mayTell 78 = .ok (.ireturn, 1) := by decide +kernel
theorem dX11_mayTell_79 : decode cX11_mayTell 79 = .ok (.aload_n 0, 1) := by decide +kernel
theorem dX11_mayTell_80 : decode cX11_mayTell 80 = .ok (.getfield 46, 3) := by decide +kernel
theorem dX11_mayTell_83 : decode cX11_mayTell 83 = .ok (.iload_n 2, 1) := by decide +kernel
theorem dX11_mayTell_84 : decode cX11_mayTell 84 = .ok (.invokevirtual 205, 3) := by decide +kernel
theorem dX11_mayTell_87 : decode cX11_mayTell 87 = .ok (.aload_n 0, 1) := by decide +kernel
theorem dX11_mayTell_88 : decode cX11_mayTell 88 = .ok (.getfield 46, 3) := by decide +kernel
theorem dX11_mayTell_91 : decode cX11_mayTell 91 = .ok (.iload_n 3, 1) := by decide +kernel
theorem dX11_mayTell_92 : decode cX11_mayTell 92 = .ok (.invokevirtual 366, 3) := by decide +kernel
theorem dX11_mayTell_95 : decode cX11_mayTell 95 = .ok (.ireturn, 1) := by decide +kernel
theorem dX11_passNight_0 : decode cX11_passNight 0 = .ok (.aload_n 0, 1) := by decide +kernel
theorem dX11_passNight_1 : decode cX11_passNight 1 = .ok (.getfield 60, 3) := by decide +kernel
theorem dX11_passNight_4 : decode cX11_passNight 4 = .ok (.iload_n 1, 1) := by decide +kernel
theorem dX11_passNight_5 : decode cX11_passNight 5 = .ok (.invokevirtual 214, 3) := by decide +kernel
theorem dX11_passNight_8 : decode cX11_passNight 8 = .ok (.aload_n 0, 1) := by decide +kernel
theorem dX11_passNight_9 : decode cX11_passNight 9 = .ok (.getfield 60, 3) := by decide +kernel
theorem dX11_passNight_12 : decode cX11_passNight 12 = .ok (.invokevirtual 369, 3) := by decide +kernel
theorem dX11_passNight_15 : decode cX11_passNight 15 = .ok (.aload_n 0, 1) := by decide +kernel
theorem dX11_passNight_16 : decode cX11_passNight 16 = .ok (.getfield 60, 3) := by decide +kernel
theorem dX11_passNight_19 : decode cX11_passNight 19 = .ok (.invokevirtual 230, 3) := by decide +kernel
theorem dX11_passNight_22 : decode cX11_passNight 22 = .ok (.ireturn, 1) := by decide +kernel
theorem dX11_drawOf_0 : decode cX11_drawOf 0 = .ok (.aload_n 0, 1) := by decide +kernel
theorem dX11_drawOf_1 : decode cX11_drawOf 1 = .ok (.ldc_w 372, 3) := by decide +kernel
theorem dX11_drawOf_4 : decode cX11_drawOf 4 = .ok (.aload_n 0, 1) := by decide +kernel
theorem dX11_drawOf_5 : decode cX11_drawOf 5 = .ok (.getfield 98, 3) := by decide +kernel
theorem dX11_drawOf_8 : decode cX11_drawOf 8 = .ok (.imul, 1) := by decide +kernel
theorem dX11_drawOf_9 : decode cX11_drawOf 9 = .ok (.sipush 12345, 3) := by decide +kernel
theorem dX11_drawOf_12 : decode cX11_drawOf 12 = .ok (.iadd, 1) := by decide +kernel
theorem dX11_drawOf_13 : decode cX11_drawOf 13 = .ok (.ldc_w 373, 3) := by decide +kernel
theorem dX11_drawOf_16 : decode cX11_drawOf 16 = .ok (.iand, 1) := by decide +kernel
theorem dX11_drawOf_17 : decode cX11_drawOf 17 = .ok (.putfield 98, 3) := by decide +kernel
theorem dX11_drawOf_20 : decode cX11_drawOf 20 = .ok (.iload_n 1, 1) := by decide +kernel
theorem dX11_drawOf_21 : decode cX11_drawOf 21 = .ok (.ifCond .le 15, 3) := by decide +kernel
theorem dX11_drawOf_24 : decode cX11_drawOf 24 = .ok (.aload_n 0, 1) := by decide +kernel
theorem dX11_drawOf_25 : decode cX11_drawOf 25 = .ok (.getfield 98, 3) := by decide +kernel
theorem dX11_drawOf_28 : decode cX11_drawOf 28 = .ok (.bipush 64, 2) := by decide +kernel
theorem dX11_drawOf_30 : decode cX11_drawOf 30 = .ok (.idiv, 1) := by decide +kernel
theorem dX11_drawOf_31 : decode cX11_drawOf 31 = .ok (.iload_n 1, 1) := by decide +kernel
theorem dX11_drawOf_32 : decode cX11_drawOf 32 = .ok (.irem, 1) := by decide +kernel
theorem dX11_drawOf_33 : decode cX11_drawOf 33 = .ok (.goto 4, 3) := by decide +kernel
theorem dX11_drawOf_36 : decode cX11_drawOf 36 = .ok (.iconst 0, 1) := by decide +kernel
theorem dX11_drawOf_37 : decode cX11_drawOf 37 = .ok (.ireturn, 1) := by decide +kernel
theorem dJ6_bitCount_0f7a4_0 : decode cJ6_bitCount_0f7a4 0 = .ok (.iload_n 0, 1) := by decide +kernel
theorem dJ6_bitCount_0f7a4_1 : decode cJ6_bitCount_0f7a4 1 = .ok (.iload_n 0, 1) := by decide +kernel
theorem dJ6_bitCount_0f7a4_2 : decode cJ6_bitCount_0f7a4 2 = .ok (.iconst 1, 1) := by decide +kernel
theorem dJ6_bitCount_0f7a4_3 : decode cJ6_bitCount_0f7a4 3 = .ok (.iushr, 1) := by decide +kernel
theorem dJ6_bitCount_0f7a4_4 : decode cJ6_bitCount_0f7a4 4 = .ok (.ldc_w 265, 3) := by decide +kernel
theorem dJ6_bitCount_0f7a4_7 : decode cJ6_bitCount_0f7a4 7 = .ok (.iand, 1) := by decide +kernel
theorem dJ6_bitCount_0f7a4_8 : decode cJ6_bitCount_0f7a4 8 = .ok (.isub, 1) := by decide +kernel
theorem dJ6_bitCount_0f7a4_9 : decode cJ6_bitCount_0f7a4 9 = .ok (.istore_n 0, 1) := by decide +kernel
theorem dJ6_bitCount_0f7a4_10 : decode cJ6_bitCount_0f7a4 10 = .ok (.iload_n 0, 1) := by decide +kernel
theorem dJ6_bitCount_0f7a4_11 : decode cJ6_bitCount_0f7a4 11 = .ok (.ldc_w 266, 3) := by decide +kernel
theorem dJ6_bitCount_0f7a4_14 : decode cJ6_bitCount_0f7a4 14 = .ok (.iand, 1) := by decide +kernel
theorem dJ6_bitCount_0f7a4_15 : decode cJ6_bitCount_0f7a4 15 = .ok (.iload_n 0, 1) := by decide +kernel
theorem dJ6_bitCount_0f7a4_16 : decode cJ6_bitCount_0f7a4 16 = .ok (.iconst 2, 1) := by decide +kernel
theorem dJ6_bitCount_0f7a4_17 : decode cJ6_bitCount_0f7a4 17 = .ok (.iushr, 1) := by decide +kernel
theorem dJ6_bitCount_0f7a4_18 : decode cJ6_bitCount_0f7a4 18 = .ok (.ldc_w 266, 3) := by decide +kernel
theorem dJ6_bitCount_0f7a4_21 : decode cJ6_bitCount_0f7a4 21 = .ok (.iand, 1) := by decide +kernel
theorem dJ6_bitCount_0f7a4_22 : decode cJ6_bitCount_0f7a4 22 = .ok (.iadd, 1) := by decide +kernel
theorem dJ6_bitCount_0f7a4_23 : decode cJ6_bitCount_0f7a4 23 = .ok (.istore_n 0, 1) := by decide +kernel
theorem dJ6_bitCount_0f7a4_24 : decode cJ6_bitCount_0f7a4 24 = .ok (.iload_n 0, 1) := by decide +kernel
theorem dJ6_bitCount_0f7a4_25 : decode cJ6_bitCount_0f7a4 25 = .ok (.iload_n 0, 1) := by decide +kernel
theorem dJ6_bitCount_0f7a4_26 : decode cJ6_bitCount_0f7a4 26 = .ok (.iconst 4, 1) := by decide +kernel
theorem dJ6_bitCount_0f7a4_27 : decode cJ6_bitCount_0f7a4 27 = .ok (.iushr, 1) := by decide +kernel
theorem dJ6_bitCount_0f7a4_28 : decode cJ6_bitCount_0f7a4 28 = .ok (.iadd, 1) := by decide +kernel
theorem dJ6_bitCount_0f7a4_29 : decode cJ6_bitCount_0f7a4 29 = .ok (.ldc_w 267, 3) := by decide +kernel
theorem dJ6_bitCount_0f7a4_32 : decode cJ6_bitCount_0f7a4 32 = .ok (.iand, 1) := by decide +kernel
theorem dJ6_bitCount_0f7a4_33 : decode cJ6_bitCount_0f7a4 33 = .ok (.istore_n 0, 1) := by decide +kernel
theorem dJ6_bitCount_0f7a4_34 : decode cJ6_bitCount_0f7a4 34 = .ok (.iload_n 0, 1) := by decide +kernel
theorem dJ6_bitCount_0f7a4_35 : decode cJ6_bitCount_0f7a4 35 = .ok (.iload_n 0, 1) := by decide +kernel
theorem dJ6_bitCount_0f7a4_36 : decode cJ6_bitCount_0f7a4 36 = .ok (.bipush 8, 2) := by decide +kernel
theorem dJ6_bitCount_0f7a4_38 : decode cJ6_bitCount_0f7a4 38 = .ok (.iushr, 1) := by decide +kernel
theorem dJ6_bitCount_0f7a4_39 : decode cJ6_bitCount_0f7a4 39 = .ok (.iadd, 1) := by decide +kernel
theorem dJ6_bitCount_0f7a4_40 : decode cJ6_bitCount_0f7a4 40 = .ok (.istore_n 0, 1) := by decide +kernel
theorem dJ6_bitCount_0f7a4_41 : decode cJ6_bitCount_0f7a4 41 = .ok (.iload_n 0, 1) := by decide +kernel
theorem dJ6_bitCount_0f7a4_42 : decode cJ6_bitCount_0f7a4 42 = .ok (.iload_n 0, 1) := by decide +kernel
theorem dJ6_bitCount_0f7a4_43 : decode cJ6_bitCount_0f7a4 43 = .ok (.bipush 16, 2) := by decide +kernel
theorem dJ6_bitCount_0f7a4_45 : decode cJ6_bitCount_0f7a4 45 = .ok (.iushr, 1) := by decide +kernel
theorem dJ6_bitCount_0f7a4_46 : decode cJ6_bitCount_0f7a4 46 = .ok (.iadd, 1) := by decide +kernel
theorem dJ6_bitCount_0f7a4_47 : decode cJ6_bitCount_0f7a4 47 = .ok (.istore_n 0, 1) := by decide +kernel
theorem dJ6_bitCount_0f7a4_48 : decode cJ6_bitCount_0f7a4 48 = .ok (.iload_n 0, 1) := by decide +kernel
theorem dJ6_bitCount_0f7a4_49 : decode cJ6_bitCount_0f7a4 49 = .ok (.bipush 63, 2) := by decide +kernel
theorem dJ6_bitCount_0f7a4_51 : decode cJ6_bitCount_0f7a4 51 = .ok (.iand, 1) := by decide +kernel
theorem dJ6_bitCount_0f7a4_52 : decode cJ6_bitCount_0f7a4 52 = .ok (.ireturn, 1) := by decide +kernel
theorem dJ7_fill_d0a16_0 : decode cJ7_fill_d0a16 0 = .ok (.iconst 0, 1) := by decide +kernel
theorem dJ7_fill_d0a16_1 : decode cJ7_fill_d0a16 1 = .ok (.istore_n 3, 1) := by decide +kernel
theorem dJ7_fill_d0a16_2 : decode cJ7_fill_d0a16 2 = .ok (.aload_n 0, 1) := by decide +kernel
theorem dJ7_fill_d0a16_3 : decode cJ7_fill_d0a16 3 = .ok (.arraylength, 1) := by decide +kernel
theorem dJ7_fill_d0a16_4 : decode cJ7_fill_d0a16 4 = .ok (.istore 4, 2) := by decide +kernel
theorem dJ7_fill_d0a16_6 : decode cJ7_fill_d0a16 6 = .ok (.iload_n 3, 1) := by decide +kernel
theorem dJ7_fill_d0a16_7 : decode cJ7_fill_d0a16 7 = .ok (.iload 4, 2) := by decide +kernel
theorem dJ7_fill_d0a16_9 : decode cJ7_fill_d0a16 9 = .ok (.if_icmp .ge 13, 3) := by decide +kernel
theorem dJ7_fill_d0a16_12 : decode cJ7_fill_d0a16 12 = .ok (.aload_n 0, 1) := by decide +kernel
theorem dJ7_fill_d0a16_13 : decode cJ7_fill_d0a16 13 = .ok (.iload_n 3, 1) := by decide +kernel
theorem dJ7_fill_d0a16_14 : decode cJ7_fill_d0a16 14 = .ok (.lload_n 1, 1) := by decide +kernel
theorem dJ7_fill_d0a16_15 : decode cJ7_fill_d0a16 15 = .ok (.lastore, 1) := by decide +kernel
theorem dJ7_fill_d0a16_16 : decode cJ7_fill_d0a16 16 = .ok (.iinc 3 1, 3) := by decide +kernel
theorem dJ7_fill_d0a16_19 : decode cJ7_fill_d0a16 19 = .ok (.goto (-13), 3) := by decide +kernel
theorem dJ7_fill_d0a16_22 : decode cJ7_fill_d0a16 22 = .ok (.return_, 1) := by decide +kernel
theorem dJ7_fill_53178_0 : decode cJ7_fill_53178 0 = .ok (.iconst 0, 1) := by decide +kernel
theorem dJ7_fill_53178_1 : decode cJ7_fill_53178 1 = .ok (.istore_n 2, 1) := by decide +kernel
theorem dJ7_fill_53178_2 : decode cJ7_fill_53178 2 = .ok (.aload_n 0, 1) := by decide +kernel
theorem dJ7_fill_53178_3 : decode cJ7_fill_53178 3 = .ok (.arraylength, 1) := by decide +kernel
theorem dJ7_fill_53178_4 : decode cJ7_fill_53178 4 = .ok (.istore_n 3, 1) := by decide +kernel
theorem dJ7_fill_53178_5 : decode cJ7_fill_53178 5 = .ok (.iload_n 2, 1) := by decide +kernel
theorem dJ7_fill_53178_6 : decode cJ7_fill_53178 6 = .ok (.iload_n 3, 1) := by decide +kernel
theorem dJ7_fill_53178_7 : decode cJ7_fill_53178 7 = .ok (.if_icmp .ge 13, 3) := by decide +kernel
theorem dJ7_fill_53178_10 : decode cJ7_fill_53178 10 = .ok (.aload_n 0, 1) := by decide +kernel
theorem dJ7_fill_53178_11 : decode cJ7_fill_53178 11 = .ok (.iload_n 2, 1) := by decide +kernel
theorem dJ7_fill_53178_12 : decode cJ7_fill_53178 12 = .ok (.iload_n 1, 1) := by decide +kernel
theorem dJ7_fill_53178_13 : decode cJ7_fill_53178 13 = .ok (.iastore, 1) := by decide +kernel
theorem dJ7_fill_53178_14 : decode cJ7_fill_53178 14 = .ok (.iinc 2 1, 3) := by decide +kernel
theorem dJ7_fill_53178_17 : decode cJ7_fill_53178 17 = .ok (.goto (-12), 3) := by decide +kernel
theorem dJ7_fill_53178_20 : decode cJ7_fill_53178 20 = .ok (.return_, 1) := by decide +kernel
theorem dJ9_floorDiv_f86c9_0 : decode cJ9_floorDiv_f86c9 0 = .ok (.lload_n 0, 1) := by decide +kernel
theorem dJ9_floorDiv_f86c9_1 : decode cJ9_floorDiv_f86c9 1 = .ok (.lload_n 2, 1) := by decide +kernel
theorem dJ9_floorDiv_f86c9_2 : decode cJ9_floorDiv_f86c9 2 = .ok (.ldiv, 1) := by decide +kernel
theorem dJ9_floorDiv_f86c9_3 : decode cJ9_floorDiv_f86c9 3 = .ok (.lstore 4, 2) := by decide +kernel
theorem dJ9_floorDiv_f86c9_5 : decode cJ9_floorDiv_f86c9 5 = .ok (.lload_n 0, 1) := by decide +kernel
theorem dJ9_floorDiv_f86c9_6 : decode cJ9_floorDiv_f86c9 6 = .ok (.lload_n 2, 1) := by decide +kernel
theorem dJ9_floorDiv_f86c9_7 : decode cJ9_floorDiv_f86c9 7 = .ok (.lxor, 1) := by decide +kernel
theorem dJ9_floorDiv_f86c9_8 : decode cJ9_floorDiv_f86c9 8 = .ok (.lconst 0, 1) := by decide +kernel
theorem dJ9_floorDiv_f86c9_9 : decode cJ9_floorDiv_f86c9 9 = .ok (.lcmp, 1) := by decide +kernel
theorem dJ9_floorDiv_f86c9_10 : decode cJ9_floorDiv_f86c9 10 = .ok (.ifCond .ge 17, 3) := by decide +kernel
theorem dJ9_floorDiv_f86c9_13 : decode cJ9_floorDiv_f86c9 13 = .ok (.lload 4, 2) := by decide +kernel
theorem dJ9_floorDiv_f86c9_15 : decode cJ9_floorDiv_f86c9 15 = .ok (.lload_n 2, 1) := by decide +kernel
theorem dJ9_floorDiv_f86c9_16 : decode cJ9_floorDiv_f86c9 16 = .ok (.lmul, 1) := by decide +kernel
theorem dJ9_floorDiv_f86c9_17 : decode cJ9_floorDiv_f86c9 17 = .ok (.lload_n 0, 1) := by decide +kernel
theorem dJ9_floorDiv_f86c9_18 : decode cJ9_floorDiv_f86c9 18 = .ok (.lcmp, 1) := by decide +kernel
theorem dJ9_floorDiv_f86c9_19 : decode cJ9_floorDiv_f86c9 19 = .ok (.ifCond .eq 8, 3) := by decide +kernel
theorem dJ9_floorDiv_f86c9_22 : decode cJ9_floorDiv_f86c9 22 = .ok (.lload 4, 2) := by decide +kernel
theorem dJ9_floorDiv_f86c9_24 : decode cJ9_floorDiv_f86c9 24 = .ok (.lconst 1, 1) := by decide +kernel
theorem dJ9_floorDiv_f86c9_25 : decode cJ9_floorDiv_f86c9 25 = .ok (.lsub, 1) := by decide +kernel
theorem dJ9_floorDiv_f86c9_26 : decode cJ9_floorDiv_f86c9 26 = .ok (.lreturn, 1) := by decide +kernel
theorem dJ9_floorDiv_f86c9_27 : decode cJ9_floorDiv_f86c9 27 = .ok (.lload 4, 2) := by decide +kernel
theorem dJ9_floorDiv_f86c9_29 : decode cJ9_floorDiv_f86c9 29 = .ok (.lreturn, 1) := by decide +kernel
theorem dJ9_floorMod_f86c9_0 : decode cJ9_floorMod_f86c9 0 = .ok (.lload_n 0, 1) := by decide +kernel
theorem dJ9_floorMod_f86c9_1 : decode cJ9_floorMod_f86c9 1 = .ok (.lload_n 2, 1) := by decide +kernel
theorem dJ9_floorMod_f86c9_2 : decode cJ9_floorMod_f86c9 2 = .ok (.lrem, 1) := by decide +kernel
theorem dJ9_floorMod_f86c9_3 : decode cJ9_floorMod_f86c9 3 = .ok (.lstore 4, 2) := by decide +kernel
theorem dJ9_floorMod_f86c9_5 : decode cJ9_floorMod_f86c9 5 = .ok (.lload_n 0, 1) := by decide +kernel
theorem dJ9_floorMod_f86c9_6 : decode cJ9_floorMod_f86c9 6 = .ok (.lload_n 2, 1) := by decide +kernel
theorem dJ9_floorMod_f86c9_7 : decode cJ9_floorMod_f86c9 7 = .ok (.lxor, 1) := by decide +kernel
theorem dJ9_floorMod_f86c9_8 : decode cJ9_floorMod_f86c9 8 = .ok (.lconst 0, 1) := by decide +kernel
theorem dJ9_floorMod_f86c9_9 : decode cJ9_floorMod_f86c9 9 = .ok (.lcmp, 1) := by decide +kernel
theorem dJ9_floorMod_f86c9_10 : decode cJ9_floorMod_f86c9 10 = .ok (.ifCond .ge 15, 3) := by decide +kernel
theorem dJ9_floorMod_f86c9_13 : decode cJ9_floorMod_f86c9 13 = .ok (.lload 4, 2) := by decide +kernel
theorem dJ9_floorMod_f86c9_15 : decode cJ9_floorMod_f86c9 15 = .ok (.lconst 0, 1) := by decide +kernel
theorem dJ9_floorMod_f86c9_16 : decode cJ9_floorMod_f86c9 16 = .ok (.lcmp, 1) := by decide +kernel
theorem dJ9_floorMod_f86c9_17 : decode cJ9_floorMod_f86c9 17 = .ok (.ifCond .eq 8, 3) := by decide +kernel
theorem dJ9_floorMod_f86c9_20 : decode cJ9_floorMod_f86c9 20 = .ok (.lload 4, 2) := by decide +kernel
theorem dJ9_floorMod_f86c9_22 : decode cJ9_floorMod_f86c9 22 = .ok (.lload_n 2, 1) := by decide +kernel
theorem dJ9_floorMod_f86c9_23 : decode cJ9_floorMod_f86c9 23 = .ok (.ladd, 1) := by decide +kernel
theorem dJ9_floorMod_f86c9_24 : decode cJ9_floorMod_f86c9 24 = .ok (.lreturn, 1) := by decide +kernel
theorem dJ9_floorMod_f86c9_25 : decode cJ9_floorMod_f86c9 25 = .ok (.lload 4, 2) := by decide +kernel
theorem dJ9_floorMod_f86c9_27 : decode cJ9_floorMod_f86c9 27 = .ok (.lreturn, 1) := by decide +kernel
theorem dJ9_max_7cf53_0 : decode cJ9_max_7cf53 0 = .ok (.iload_n 0, 1) := by decide +kernel
theorem dJ9_max_7cf53_1 : decode cJ9_max_7cf53 1 = .ok (.iload_n 1, 1) := by decide +kernel
theorem dJ9_max_7cf53_2 : decode cJ9_max_7cf53 2 = .ok (.if_icmp .lt 7, 3) := by decide +kernel
theorem dJ9_max_7cf53_5 : decode cJ9_max_7cf53 5 = .ok (.iload_n 0, 1) := by decide +kernel
theorem dJ9_max_7cf53_6 : decode cJ9_max_7cf53 6 = .ok (.goto 4, 3) := by decide +kernel
theorem dJ9_max_7cf53_9 : decode cJ9_max_7cf53 9 = .ok (.iload_n 1, 1) := by decide +kernel
theorem dJ9_max_7cf53_10 : decode cJ9_max_7cf53 10 = .ok (.ireturn, 1) := by decide +kernel
theorem dJ9_max_f86c9_0 : decode cJ9_max_f86c9 0 = .ok (.lload_n 0, 1) := by decide +kernel
theorem dJ9_max_f86c9_1 : decode cJ9_max_f86c9 1 = .ok (.lload_n 2, 1) := by decide +kernel
theorem dJ9_max_f86c9_2 : decode cJ9_max_f86c9 2 = .ok (.lcmp, 1) := by decide +kernel
theorem dJ9_max_f86c9_3 : decode cJ9_max_f86c9 3 = .ok (.ifCond .lt 7, 3) := by decide +kernel
theorem dJ9_max_f86c9_6 : decode cJ9_max_f86c9 6 = .ok (.lload_n 0, 1) := by decide +kernel
theorem dJ9_max_f86c9_7 : decode cJ9_max_f86c9 7 = .ok (.goto 4, 3) := by decide +kernel
theorem dJ9_max_f86c9_10 : decode cJ9_max_f86c9 10 = .ok (.lload_n 2, 1) := by decide +kernel
theorem dJ9_max_f86c9_11 : decode cJ9_max_f86c9 11 = .ok (.lreturn, 1) := by decide +kernel
theorem dJ9_min_7cf53_0 : decode cJ9_min_7cf53 0 = .ok (.iload_n 0, 1) := by decide +kernel
theorem dJ9_min_7cf53_1 : decode cJ9_min_7cf53 1 = .ok (.iload_n 1, 1) := by decide +kernel
theorem dJ9_min_7cf53_2 : decode cJ9_min_7cf53 2 = .ok (.if_icmp .gt 7, 3) := by decide +kernel
theorem dJ9_min_7cf53_5 : decode cJ9_min_7cf53 5 = .ok (.iload_n 0, 1) := by decide +kernel
theorem dJ9_min_7cf53_6 : decode cJ9_min_7cf53 6 = .ok (.goto 4, 3) := by decide +kernel
theorem dJ9_min_7cf53_9 : decode cJ9_min_7cf53 9 = .ok (.iload_n 1, 1) := by decide +kernel
theorem dJ9_min_7cf53_10 : decode cJ9_min_7cf53 10 = .ok (.ireturn, 1) := by decide +kernel
