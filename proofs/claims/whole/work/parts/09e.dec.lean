theorem dX12_two_107 : decode cX12_two 107 = .ok (.lmul, 1) := by decide +kernel
theorem dX12_two_108 : decode cX12_two 108 = .ok (.lsub, 1) := by decide +kernel
theorem dX12_two_109 : decode cX12_two 109 = .ok (.invokestatic 495, 3) := by decide +kernel
theorem dX12_two_112 : decode cX12_two 112 = .ok (.lreturn, 1) := by decide +kernel
theorem dX12_two_113 : decode cX12_two 113 = .ok (.lload_n 1, 1) := by decide +kernel
theorem dX12_two_114 : decode cX12_two 114 = .ok (.lload_n 3, 1) := by decide +kernel
theorem dX12_two_115 : decode cX12_two 115 = .ok (.lcmp, 1) := by decide +kernel
theorem dX12_two_116 : decode cX12_two 116 = .ok (.ifCond .ge 7, 3) := by decide +kernel
theorem dX12_two_119 : decode cX12_two 119 = .ok (.lload_n 1, 1) := by decide +kernel
theorem dX12_two_120 : decode cX12_two 120 = .ok (.goto 4, 3) := by decide +kernel
theorem dX12_two_123 : decode cX12_two 123 = .ok (.lload_n 3, 1) := by decide +kernel
theorem dX12_two_124 : decode cX12_two 124 = .ok (.lreturn, 1) := by decide +kernel
theorem dX12_two_125 : decode cX12_two 125 = .ok (.lload_n 1, 1) := by decide +kernel
theorem dX12_two_126 : decode cX12_two 126 = .ok (.lload_n 3, 1) := by decide +kernel
theorem dX12_two_127 : decode cX12_two 127 = .ok (.lcmp, 1) := by decide +kernel
theorem dX12_two_128 : decode cX12_two 128 = .ok (.ifCond .le 7, 3) := by decide +kernel
theorem dX12_two_131 : decode cX12_two 131 = .ok (.lload_n 1, 1) := by decide +kernel
theorem dX12_two_132 : decode cX12_two 132 = .ok (.goto 4, 3) := by decide +kernel
theorem dX12_two_135 : decode cX12_two 135 = .ok (.lload_n 3, 1) := by decide +kernel
theorem dX12_two_136 : decode cX12_two 136 = .ok (.lreturn, 1) := by decide +kernel
theorem dX12_two_137 : decode cX12_two 137 = .ok (.lload_n 1, 1) := by decide +kernel
theorem dX12_two_138 : decode cX12_two 138 = .ok (.lload_n 3, 1) := by decide +kernel
theorem dX12_two_139 : decode cX12_two 139 = .ok (.lcmp, 1) := by decide +kernel
theorem dX12_two_140 : decode cX12_two 140 = .ok (.ifCond .ge 7, 3) := by decide +kernel
theorem dX12_two_143 : decode cX12_two 143 = .ok (.lconst 1, 1) := by decide +kernel
theorem dX12_two_144 : decode cX12_two 144 = .ok (.goto 4, 3) := by decide +kernel
theorem dX12_two_147 : decode cX12_two 147 = .ok (.lconst 0, 1) := by decide +kernel
theorem dX12_two_148 : decode cX12_two 148 = .ok (.lreturn, 1) := by decide +kernel
theorem dX12_two_149 : decode cX12_two 149 = .ok (.lload_n 1, 1) := by decide +kernel
theorem dX12_two_150 : decode cX12_two 150 = .ok (.lload_n 3, 1) := by decide +kernel
theorem dX12_two_151 : decode cX12_two 151 = .ok (.lcmp, 1) := by decide +kernel
theorem dX12_two_152 : decode cX12_two 152 = .ok (.ifCond .le 7, 3) := by decide +kernel
theorem dX12_two_155 : decode cX12_two 155 = .ok (.lconst 1, 1) := by decide +kernel
theorem dX12_two_156 : decode cX12_two 156 = .ok (.goto 4, 3) := by decide +kernel
theorem dX12_two_159 : decode cX12_two 159 = .ok (.lconst 0, 1) := by decide +kernel
theorem dX12_two_160 : decode cX12_two 160 = .ok (.lreturn, 1) := by decide +kernel
theorem dX12_two_161 : decode cX12_two 161 = .ok (.lload_n 1, 1) := by decide +kernel
theorem dX12_two_162 : decode cX12_two 162 = .ok (.lload_n 3, 1) := by decide +kernel
theorem dX12_two_163 : decode cX12_two 163 = .ok (.lcmp, 1) := by decide +kernel
theorem dX12_two_164 : decode cX12_two 164 = .ok (.ifCond .ne 7, 3) := by decide +kernel
theorem dX12_two_167 : decode cX12_two 167 = .ok (.lconst 1, 1) := by decide +kernel
theorem dX12_two_168 : decode cX12_two 168 = .ok (.goto 4, 3) := by decide +kernel
theorem dX12_two_171 : decode cX12_two 171 = .ok (.lconst 0, 1) := by decide +kernel
theorem dX12_two_172 : decode cX12_two 172 = .ok (.lreturn, 1) := by decide +kernel
theorem dX12_two_173 : decode cX12_two 173 = .ok (.lload_n 1, 1) := by decide +kernel
theorem dX12_two_174 : decode cX12_two 174 = .ok (.lload_n 3, 1) := by decide +kernel
theorem dX12_two_175 : decode cX12_two 175 = .ok (.land, 1) := by decide +kernel
theorem dX12_two_176 : decode cX12_two 176 = .ok (.lreturn, 1) := by decide +kernel
theorem dX12_two_177 : decode cX12_two 177 = .ok (.lload_n 1, 1) := by decide +kernel
theorem dX12_two_178 : decode cX12_two 178 = .ok (.lload_n 3, 1) := by decide +kernel
theorem dX12_two_179 : decode cX12_two 179 = .ok (.lor, 1) := by decide +kernel
theorem dX12_two_180 : decode cX12_two 180 = .ok (.lreturn, 1) := by decide +kernel
theorem dX12_isPart_0 : decode cX12_isPart 0 = .ok (.iload_n 0, 1) := by decide +kernel
theorem dX12_isPart_1 : decode cX12_isPart 1 = .ok (.bipush 10, 2) := by decide +kernel
theorem dX12_isPart_3 : decode cX12_isPart 3 = .ok (.if_icmp .lt 9, 3) := by decide +kernel
theorem dX12_isPart_6 : decode cX12_isPart 6 = .ok (.iload_n 0, 1) := by decide +kernel
theorem dX12_isPart_7 : decode cX12_isPart 7 = .ok (.bipush 30, 2) := by decide +kernel
theorem dX12_isPart_9 : decode cX12_isPart 9 = .ok (.if_icmp .ne 7, 3) := by decide +kernel
theorem dX12_isPart_12 : decode cX12_isPart 12 = .ok (.iconst 1, 1) := by decide +kernel
theorem dX12_isPart_13 : decode cX12_isPart 13 = .ok (.goto 4, 3) := by decide +kernel
theorem dX12_isPart_16 : decode cX12_isPart 16 = .ok (.iconst 0, 1) := by decide +kernel
theorem dX12_isPart_17 : decode cX12_isPart 17 = .ok (.ireturn, 1) := by decide +kernel
theorem dX12_reckons_0 : decode cX12_reckons 0 = .ok (.iconst 0, 1) := by decide +kernel
theorem dX12_reckons_1 : decode cX12_reckons 1 = .ok (.istore_n 3, 1) := by decide +kernel
theorem dX12_reckons_2 : decode cX12_reckons 2 = .ok (.sipush 1600, 3) := by decide +kernel
theorem dX12_reckons_5 : decode cX12_reckons 5 = .ok (.aload_n 0, 1) := by decide +kernel
theorem dX12_reckons_6 : decode cX12_reckons 6 = .ok (.getfield 51, 3) := by decide +kernel
theorem dX12_reckons_9 : decode cX12_reckons 9 = .ok (.imul, 1) := by decide +kernel
theorem dX12_reckons_10 : decode cX12_reckons 10 = .ok (.iload_n 1, 1) := by decide +kernel
theorem dX12_reckons_11 : decode cX12_reckons 11 = .ok (.iadd, 1) := by decide +kernel
theorem dX12_reckons_12 : decode cX12_reckons 12 = .ok (.istore 4, 2) := by decide +kernel
theorem dX12_reckons_14 : decode cX12_reckons 14 = .ok (.iload 4, 2) := by decide +kernel
theorem dX12_reckons_16 : decode cX12_reckons 16 = .ok (.sipush 1600, 3) := by decide +kernel
theorem dX12_reckons_19 : decode cX12_reckons 19 = .ok (.aload_n 0, 1) := by decide +kernel
theorem dX12_reckons_20 : decode cX12_reckons 20 = .ok (.getfield 51, 3) := by decide +kernel
theorem dX12_reckons_23 : decode cX12_reckons 23 = .ok (.imul, 1) := by decide +kernel
theorem dX12_reckons_24 : decode cX12_reckons 24 = .ok (.iload_n 2, 1) := by decide +kernel
theorem dX12_reckons_25 : decode cX12_reckons 25 = .ok (.iadd, 1) := by decide +kernel
theorem dX12_reckons_26 : decode cX12_reckons 26 = .ok (.if_icmp .ge 109, 3) := by decide +kernel
theorem dX12_reckons_29 : decode cX12_reckons 29 = .ok (.aload_n 0, 1) := by decide +kernel
theorem dX12_reckons_30 : decode cX12_reckons 30 = .ok (.getfield 111, 3) := by decide +kernel
theorem dX12_reckons_33 : decode cX12_reckons 33 = .ok (.iload 4, 2) := by decide +kernel
theorem dX12_reckons_35 : decode cX12_reckons 35 = .ok (.iaload, 1) := by decide +kernel
theorem dX12_reckons_36 : decode cX12_reckons 36 = .ok (.istore 5, 2) := by decide +kernel
theorem dX12_reckons_38 : decode cX12_reckons 38 = .ok (.iload 5, 2) := by decide +kernel
theorem dX12_reckons_40 : decode cX12_reckons 40 = .ok (.invokestatic 503, 3) := by decide +kernel
theorem dX12_reckons_43 : decode cX12_reckons 43 = .ok (.ifCond .eq 28, 3) := by decide +kernel
theorem dX12_reckons_46 : decode cX12_reckons 46 = .ok (.aload_n 0, 1) := by decide +kernel
theorem dX12_reckons_47 : decode cX12_reckons 47 = .ok (.getfield 219, 3) := by decide +kernel
theorem dX12_reckons_50 : decode cX12_reckons 50 = .ok (.iload_n 3, 1) := by decide +kernel
theorem dX12_reckons_51 : decode cX12_reckons 51 = .ok (.aload_n 0, 1) := by decide +kernel
theorem dX12_reckons_52 : decode cX12_reckons 52 = .ok (.iload 5, 2) := by decide +kernel
theorem dX12_reckons_54 : decode cX12_reckons 54 = .ok (.aload_n 0, 1) := by decide +kernel
theorem dX12_reckons_55 : decode cX12_reckons 55 = .ok (.getfield 114, 3) := by decide +kernel
theorem dX12_reckons_58 : decode cX12_reckons 58 = .ok (.iload 4, 2) := by decide +kernel
theorem dX12_reckons_60 : decode cX12_reckons 60 = .ok (.iaload, 1) := by decide +kernel
theorem dX12_reckons_61 : decode cX12_reckons 61 = .ok (.invokevirtual 506, 3) := by decide +kernel
theorem dX12_reckons_64 : decode cX12_reckons 64 = .ok (.lastore, 1) := by decide +kernel
theorem dX12_reckons_65 : decode cX12_reckons 65 = .ok (.iinc 3 1, 3) := by decide +kernel
theorem dX12_reckons_68 : decode cX12_reckons 68 = .ok (.goto 61, 3) := by decide +kernel
theorem dX12_reckons_71 : decode cX12_reckons 71 = .ok (.iload 5, 2) := by decide +kernel
theorem dX12_reckons_73 : decode cX12_reckons 73 = .ok (.bipush 22, 2) := by decide +kernel
theorem dX12_reckons_75 : decode cX12_reckons 75 = .ok (.if_icmp .ne 24, 3) := by decide +kernel
theorem dX12_reckons_78 : decode cX12_reckons 78 = .ok (.aload_n 0, 1) := by decide +kernel
theorem dX12_reckons_79 : decode cX12_reckons 79 = .ok (.getfield 219, 3) := by decide +kernel
theorem dX12_reckons_82 : decode cX12_reckons 82 = .ok (.iload_n 3, 1) := by decide +kernel
theorem dX12_reckons_83 : decode cX12_reckons 83 = .ok (.iconst 1, 1) := by decide +kernel
theorem dX12_reckons_84 : decode cX12_reckons 84 = .ok (.isub, 1) := by decide +kernel
theorem dX12_reckons_85 : decode cX12_reckons 85 = .ok (.lconst 1, 1) := by decide +kernel
theorem dX12_reckons_86 : decode cX12_reckons 86 = .ok (.aload_n 0, 1) := by decide +kernel
theorem dX12_reckons_87 : decode cX12_reckons 87 = .ok (.getfield 219, 3) := by decide +kernel
theorem dX12_reckons_90 : decode cX12_reckons 90 = .ok (.iload_n 3, 1) := by decide +kernel
theorem dX12_reckons_91 : decode cX12_reckons 91 = .ok (.iconst 1, 1) := by decide +kernel
theorem dX12_reckons_92 : decode cX12_reckons 92 = .ok (.isub, 1) := by decide +kernel
theorem dX12_reckons_93 : decode cX12_reckons 93 = .ok (.laload, 1) := by decide +kernel
theorem dX12_reckons_94 : decode cX12_reckons 94 = .ok (.lsub, 1) := by decide +kernel
theorem dX12_reckons_95 : decode cX12_reckons 95 = .ok (.lastore, 1) := by decide +kernel
theorem dX12_reckons_96 : decode cX12_reckons 96 = .ok (.goto 33, 3) := by decide +kernel
theorem dX12_reckons_99 : decode cX12_reckons 99 = .ok (.iinc 3 (-1), 3) := by decide +kernel
theorem dX12_reckons_102 : decode cX12_reckons 102 = .ok (.aload_n 0, 1) := by decide +kernel
theorem dX12_reckons_103 : decode cX12_reckons 103 = .ok (.getfield 219, 3) := by decide +kernel
theorem dX12_reckons_106 : decode cX12_reckons 106 = .ok (.iload_n 3, 1) := by decide +kernel
theorem dX12_reckons_107 : decode cX12_reckons 107 = .ok (.iconst 1, 1) := by decide +kernel
theorem dX12_reckons_108 : decode cX12_reckons 108 = .ok (.isub, 1) := by decide +kernel
theorem dX12_reckons_109 : decode cX12_reckons 109 = .ok (.iload 5, 2) := by decide +kernel
theorem dX12_reckons_111 : decode cX12_reckons 111 = .ok (.aload_n 0, 1) := by decide +kernel
theorem dX12_reckons_112 : decode cX12_reckons 112 = .ok (.getfield 219, 3) := by decide +kernel
theorem dX12_reckons_115 : decode cX12_reckons 115 = .ok (.iload_n 3, 1) := by decide +kernel
theorem dX12_reckons_116 : decode cX12_reckons 116 = .ok (.iconst 1, 1) := by decide +kernel
theorem dX12_reckons_117 : decode cX12_reckons 117 = .ok (.isub, 1) := by decide +kernel
theorem dX12_reckons_118 : decode cX12_reckons 118 = .ok (.laload, 1) := by decide +kernel
theorem dX12_reckons_119 : decode cX12_reckons 119 = .ok (.aload_n 0, 1) := by decide +kernel
theorem dX12_reckons_120 : decode cX12_reckons 120 = .ok (.getfield 219, 3) := by decide +kernel
theorem dX12_reckons_123 : decode cX12_reckons 123 = .ok (.iload_n 3, 1) := by decide +kernel
theorem dX12_reckons_124 : decode cX12_reckons 124 = .ok (.laload, 1) := by decide +kernel
theorem dX12_reckons_125 : decode cX12_reckons 125 = .ok (.invokestatic 510, 3) := by decide +kernel
theorem dX12_reckons_128 : decode cX12_reckons 128 = .ok (.lastore, 1) := by decide +kernel
theorem dX12_reckons_129 : decode cX12_reckons 129 = .ok (.iinc 4 1, 3) := by decide +kernel
theorem dX12_reckons_132 : decode cX12_reckons 132 = .ok (.goto (-118), 3) := by decide +kernel
theorem dX12_reckons_135 : decode cX12_reckons 135 = .ok (.aload_n 0, 1) := by decide +kernel
theorem dX12_reckons_136 : decode cX12_reckons 136 = .ok (.getfield 219, 3) := by decide +kernel
theorem dX12_reckons_139 : decode cX12_reckons 139 = .ok (.iconst 0, 1) := by decide +kernel
theorem dX12_reckons_140 : decode cX12_reckons 140 = .ok (.laload, 1) := by decide +kernel
theorem dX12_reckons_141 : decode cX12_reckons 141 = .ok (.lreturn, 1) := by decide +kernel
theorem dX12_between_0 : decode cX12_between 0 = .ok (.lload_n 0, 1) := by decide +kernel
theorem dX12_between_1 : decode cX12_between 1 = .ok (.iload_n 2, 1) := by decide +kernel
theorem dX12_between_2 : decode cX12_between 2 = .ok (.i2l, 1) := by decide +kernel
theorem dX12_between_3 : decode cX12_between 3 = .ok (.lcmp, 1) := by decide +kernel
theorem dX12_between_4 : decode cX12_between 4 = .ok (.ifCond .ge 7, 3) := by decide +kernel
theorem dX12_between_7 : decode cX12_between 7 = .ok (.iload_n 2, 1) := by decide +kernel
theorem dX12_between_8 : decode cX12_between 8 = .ok (.goto 16, 3) := by decide +kernel
theorem dX12_between_11 : decode cX12_between 11 = .ok (.lload_n 0, 1) := by decide +kernel
theorem dX12_between_12 : decode cX12_between 12 = .ok (.iload_n 3, 1) := by decide +kernel
theorem dX12_between_13 : decode cX12_between 13 = .ok (.i2l, 1) := by decide +kernel
theorem dX12_between_14 : decode cX12_between 14 = .ok (.lcmp, 1) := by decide +kernel
theorem dX12_between_15 : decode cX12_between 15 = .ok (.ifCond .le 7, 3) := by decide +kernel
theorem dX12_between_18 : decode cX12_between 18 = .ok (.iload_n 3, 1) := by decide +kernel
theorem dX12_between_19 : decode cX12_between 19 = .ok (.goto 5, 3) := by decide +kernel
theorem dX12_between_22 : decode cX12_between 22 = .ok (.lload_n 0, 1) := by decide +kernel
theorem dX12_between_23 : decode cX12_between 23 = .ok (.l2i, 1) := by decide +kernel
theorem dX12_between_24 : decode cX12_between 24 = .ok (.ireturn, 1) := by decide +kernel
theorem dX12_longOf_0 : decode cX12_longOf 0 = .ok (.aload_n 0, 1) := by decide +kernel
theorem dX12_longOf_1 : decode cX12_longOf 1 = .ok (.iload_n 1, 1) := by decide +kernel
theorem dX12_longOf_2 : decode cX12_longOf 2 = .ok (.putfield 222, 3) := by decide +kernel
theorem dX12_longOf_5 : decode cX12_longOf 5 = .ok (.aload_n 0, 1) := by decide +kernel
theorem dX12_longOf_6 : decode cX12_longOf 6 = .ok (.iload_n 2, 1) := by decide +kernel
theorem dX12_longOf_7 : decode cX12_longOf 7 = .ok (.putfield 225, 3) := by decide +kernel
theorem dX12_longOf_10 : decode cX12_longOf 10 = .ok (.aload_n 0, 1) := by decide +kernel
theorem dX12_longOf_11 : decode cX12_longOf 11 = .ok (.iload_n 3, 1) := by decide +kernel
theorem dX12_longOf_12 : decode cX12_longOf 12 = .ok (.putfield 228, 3) := by decide +kernel
theorem dX12_longOf_15 : decode cX12_longOf 15 = .ok (.aload_n 0, 1) := by decide +kernel
theorem dX12_longOf_16 : decode cX12_longOf 16 = .ok (.getfield 99, 3) := by decide +kernel
theorem dX12_longOf_19 : decode cX12_longOf 19 = .ok (.aload_n 0, 1) := by decide +kernel
theorem dX12_longOf_20 : decode cX12_longOf 20 = .ok (.getfield 51, 3) := by decide +kernel
theorem dX12_longOf_23 : decode cX12_longOf 23 = .ok (.iaload, 1) := by decide +kernel
theorem dX12_longOf_24 : decode cX12_longOf 24 = .ok (.iconst (-1), 1) := by decide +kernel
theorem dX12_longOf_25 : decode cX12_longOf 25 = .ok (.if_icmp .ne 20, 3) := by decide +kernel
theorem dX12_longOf_28 : decode cX12_longOf 28 = .ok (.aload_n 0, 1) := by decide +kernel
theorem dX12_longOf_29 : decode cX12_longOf 29 = .ok (.getfield 63, 3) := by decide +kernel
theorem dX12_longOf_32 : decode cX12_longOf 32 = .ok (.bipush 14, 2) := by decide +kernel
theorem dX12_longOf_34 : decode cX12_longOf 34 = .ok (.aload_n 0, 1) := by decide +kernel
theorem dX12_longOf_35 : decode cX12_longOf 35 = .ok (.getfield 51, 3) := by decide +kernel
theorem dX12_longOf_38 : decode cX12_longOf 38 = .ok (.imul, 1) := by decide +kernel
theorem dX12_longOf_39 : decode cX12_longOf 39 = .ok (.iload_n 3, 1) := by decide +kernel
theorem dX12_longOf_40 : decode cX12_longOf 40 = .ok (.iadd, 1) := by decide +kernel
theorem dX12_longOf_41 : decode cX12_longOf 41 = .ok (.iaload, 1) := by decide +kernel
theorem dX12_longOf_42 : decode cX12_longOf 42 = .ok (.goto 32, 3) := by decide +kernel
theorem dX12_longOf_45 : decode cX12_longOf 45 = .ok (.aload_n 0, 1) := by decide +kernel
theorem dX12_longOf_46 : decode cX12_longOf 46 = .ok (.aload_n 0, 1) := by decide +kernel
theorem dX12_longOf_47 : decode cX12_longOf 47 = .ok (.getfield 99, 3) := by decide +kernel
theorem dX12_longOf_50 : decode cX12_longOf 50 = .ok (.aload_n 0, 1) := by decide +kernel
theorem dX12_longOf_51 : decode cX12_longOf 51 = .ok (.getfield 51, 3) := by decide +kernel
theorem dX12_longOf_54 : decode cX12_longOf 54 = .ok (.iaload, 1) := by decide +kernel
theorem dX12_longOf_55 : decode cX12_longOf 55 = .ok (.aload_n 0, 1) := by decide +kernel
theorem dX12_longOf_56 : decode cX12_longOf 56 = .ok (.getfield 102, 3) := by decide +kernel
theorem dX12_longOf_59 : decode cX12_longOf 59 = .ok (.aload_n 0, 1) := by decide +kernel
theorem dX12_longOf_60 : decode cX12_longOf 60 = .ok (.getfield 51, 3) := by decide +kernel
theorem dX12_longOf_63 : decode cX12_longOf 63 = .ok (.iaload, 1) := by decide +kernel
theorem dX12_longOf_64 : decode cX12_longOf 64 = .ok (.invokevirtual 514, 3) := by decide +kernel
theorem dX12_longOf_67 : decode cX12_longOf 67 = .ok (.iconst 1, 1) := by decide +kernel
theorem dX12_longOf_68 : decode cX12_longOf 68 = .ok (.sipush 500, 3) := by decide +kernel
theorem dX12_longOf_71 : decode cX12_longOf 71 = .ok (.invokestatic 517, 3) := by decide +kernel
theorem dX12_longOf_74 : decode cX12_longOf 74 = .ok (.ireturn, 1) := by decide +kernel
theorem dX12_burnsOf_0 : decode cX12_burnsOf 0 = .ok (.aload_n 0, 1) := by decide +kernel
theorem dX12_burnsOf_1 : decode cX12_burnsOf 1 = .ok (.iload_n 1, 1) := by decide +kernel
theorem dX12_burnsOf_2 : decode cX12_burnsOf 2 = .ok (.putfield 222, 3) := by decide +kernel
theorem dX12_burnsOf_5 : decode cX12_burnsOf 5 = .ok (.aload_n 0, 1) := by decide +kernel
theorem dX12_burnsOf_6 : decode cX12_burnsOf 6 = .ok (.iload_n 2, 1) := by decide +kernel
theorem dX12_burnsOf_7 : decode cX12_burnsOf 7 = .ok (.putfield 225, 3) := by decide +kernel
theorem dX12_burnsOf_10 : decode cX12_burnsOf 10 = .ok (.aload_n 0, 1) := by decide +kernel
theorem dX12_burnsOf_11 : decode cX12_burnsOf 11 = .ok (.iconst (-1), 1) := by decide +kernel
theorem dX12_burnsOf_12 : decode cX12_burnsOf 12 = .ok (.putfield 228, 3) := by decide +kernel
theorem dX12_burnsOf_15 : decode cX12_burnsOf 15 = .ok (.aload_n 0, 1) := by decide +kernel
theorem dX12_burnsOf_16 : decode cX12_burnsOf 16 = .ok (.getfield 93, 3) := by decide +kernel
theorem dX12_burnsOf_19 : decode cX12_burnsOf 19 = .ok (.aload_n 0, 1) := by decide +kernel
theorem dX12_burnsOf_20 : decode cX12_burnsOf 20 = .ok (.getfield 51, 3) := by decide +kernel
theorem dX12_burnsOf_23 : decode cX12_burnsOf 23 = .ok (.iaload, 1) := by decide +kernel
theorem dX12_burnsOf_24 : decode cX12_burnsOf 24 = .ok (.iconst (-1), 1) := by decide +kernel
theorem dX12_burnsOf_25 : decode cX12_burnsOf 25 = .ok (.if_icmp .ne 15, 3) := by decide +kernel
theorem dX12_burnsOf_28 : decode cX12_burnsOf 28 = .ok (.aload_n 0, 1) := by decide +kernel
theorem dX12_burnsOf_29 : decode cX12_burnsOf 29 = .ok (.getfield 90, 3) := by decide +kernel
theorem dX12_burnsOf_32 : decode cX12_burnsOf 32 = .ok (.aload_n 0, 1) := by decide +kernel
theorem dX12_burnsOf_33 : decode cX12_burnsOf 33 = .ok (.getfield 51, 3) := by decide +kernel
theorem dX12_burnsOf_36 : decode cX12_burnsOf 36 = .ok (.iaload, 1) := by decide +kernel
theorem dX12_burnsOf_37 : decode cX12_burnsOf 37 = .ok (.goto 32, 3) := by decide +kernel
theorem dX12_burnsOf_40 : decode cX12_burnsOf 40 = .ok (.aload_n 0, 1) := by decide +kernel
theorem dX12_burnsOf_41 : decode cX12_burnsOf 41 = .ok (.aload_n 0, 1) := by decide +kernel
theorem dX12_burnsOf_42 : decode cX12_burnsOf 42 = .ok (.getfield 93, 3) := by decide +kernel
theorem dX12_burnsOf_45 : decode cX12_burnsOf 45 = .ok (.aload_n 0, 1) := by decide +kernel
theorem dX12_burnsOf_46 : decode cX12_burnsOf 46 = .ok (.getfield 51, 3) := by decide +kernel
theorem dX12_burnsOf_49 : decode cX12_burnsOf 49 = .ok (.iaload, 1) := by decide +kernel
theorem dX12_burnsOf_50 : decode cX12_burnsOf 50 = .ok (.aload_n 0, 1) := by decide +kernel
theorem dX12_burnsOf_51 : decode cX12_burnsOf 51 = .ok (.getfield 96, 3) := by decide +kernel
theorem dX12_burnsOf_54 : decode cX12_burnsOf 54 = .ok (.aload_n 0, 1) := by decide +kernel
theorem dX12_burnsOf_55 : decode cX12_burnsOf 55 = .ok (.getfield 51, 3) := by decide +kernel
theorem dX12_burnsOf_58 : decode cX12_burnsOf 58 = .ok (.iaload, 1) := by decide +kernel
theorem dX12_burnsOf_59 : decode cX12_burnsOf 59 = .ok (.invokevirtual 514, 3) := by decide +kernel
theorem dX12_burnsOf_62 : decode cX12_burnsOf 62 = .ok (.iconst 0, 1) := by decide +kernel
theorem dX12_burnsOf_63 : decode cX12_burnsOf 63 = .ok (.sipush 500, 3) := by decide +kernel
theorem dX12_burnsOf_66 : decode cX12_burnsOf 66 = .ok (.invokestatic 517, 3) := by decide +kernel
theorem dX12_burnsOf_69 : decode cX12_burnsOf 69 = .ok (.ireturn, 1) := by decide +kernel
theorem dX12_lightOf_0 : decode cX12_lightOf 0 = .ok (.iconst 0, 1) := by decide +kernel
theorem dX12_lightOf_1 : decode cX12_lightOf 1 = .ok (.istore_n 3, 1) := by decide +kernel
theorem dX12_lightOf_2 : decode cX12_lightOf 2 = .ok (.iconst 0, 1) := by decide +kernel
theorem dX12_lightOf_3 : decode cX12_lightOf 3 = .ok (.istore 4, 2) := by decide +kernel
theorem dX12_lightOf_5 : decode cX12_lightOf 5 = .ok (.iload 4, 2) := by decide +kernel
theorem dX12_lightOf_7 : decode cX12_lightOf 7 = .ok (.aload_n 0, 1) := by decide +kernel
theorem dX12_lightOf_8 : decode cX12_lightOf 8 = .ok (.getfield 75, 3) := by decide +kernel
theorem dX12_lightOf_11 : decode cX12_lightOf 11 = .ok (.aload_n 0, 1) := by decide +kernel
theorem dX12_lightOf_12 : decode cX12_lightOf 12 = .ok (.getfield 51, 3) := by decide +kernel
theorem dX12_lightOf_15 : decode cX12_lightOf 15 = .ok (.iaload, 1) := by decide +kernel
theorem dX12_lightOf_16 : decode cX12_lightOf 16 = .ok (.if_icmp .ge 39, 3) := by decide +kernel
theorem dX12_lightOf_19 : decode cX12_lightOf 19 = .ok (.iload_n 3, 1) := by decide +kernel
theorem dX12_lightOf_20 : decode cX12_lightOf 20 = .ok (.aload_n 0, 1) := by decide +kernel
theorem dX12_lightOf_21 : decode cX12_lightOf 21 = .ok (.getfield 177, 3) := by decide +kernel
theorem dX12_lightOf_24 : decode cX12_lightOf 24 = .ok (.bipush 6, 2) := by decide +kernel
theorem dX12_lightOf_26 : decode cX12_lightOf 26 = .ok (.iload_n 1, 1) := by decide +kernel
theorem dX12_lightOf_27 : decode cX12_lightOf 27 = .ok (.imul, 1) := by decide +kernel
theorem dX12_lightOf_28 : decode cX12_lightOf 28 = .ok (.iload 4, 2) := by decide +kernel
theorem dX12_lightOf_30 : decode cX12_lightOf 30 = .ok (.iadd, 1) := by decide +kernel
theorem dX12_lightOf_31 : decode cX12_lightOf 31 = .ok (.iaload, 1) := by decide +kernel
theorem dX12_lightOf_32 : decode cX12_lightOf 32 = .ok (.iload_n 2, 1) := by decide +kernel
theorem dX12_lightOf_33 : decode cX12_lightOf 33 = .ok (.if_icmp .ne 13, 3) := by decide +kernel
theorem dX12_lightOf_36 : decode cX12_lightOf 36 = .ok (.aload_n 0, 1) := by decide +kernel
theorem dX12_lightOf_37 : decode cX12_lightOf 37 = .ok (.iload_n 1, 1) := by decide +kernel
theorem dX12_lightOf_38 : decode cX12_lightOf 38 = .ok (.iload 4, 2) := by decide +kernel
theorem dX12_lightOf_40 : decode cX12_lightOf 40 = .ok (.invokevirtual 521, 3) := by decide +kernel
theorem dX12_lightOf_43 : decode cX12_lightOf 43 = .ok (.goto 4, 3) := by decide +kernel
theorem dX12_lightOf_46 : decode cX12_lightOf 46 = .ok (.iconst 0, 1) := by decide +kernel
theorem dX12_lightOf_47 : decode cX12_lightOf 47 = .ok (.iadd, 1) := by decide +kernel
theorem dX12_lightOf_48 : decode cX12_lightOf 48 = .ok (.istore_n 3, 1) := by decide +kernel
theorem dX12_lightOf_49 : decode cX12_lightOf 49 = .ok (.iinc 4 1, 3) := by decide +kernel
theorem dX12_lightOf_52 : decode cX12_lightOf 52 = .ok (.goto (-47), 3) := by decide +kernel
theorem dX12_lightOf_55 : decode cX12_lightOf 55 = .ok (.iload_n 3, 1) := by decide +kernel
theorem dX12_lightOf_56 : decode cX12_lightOf 56 = .ok (.ireturn, 1) := by decide +kernel
theorem dX12_unlists_0 : decode cX12_unlists 0 = .ok (.iconst 0, 1) := by decide +kernel
theorem dX12_unlists_1 : decode cX12_unlists 1 = .ok (.istore_n 3, 1) := by decide +kernel
theorem dX12_unlists_2 : decode cX12_unlists 2 = .ok (.iconst 0, 1) := by decide +kernel
theorem dX12_unlists_3 : decode cX12_unlists 3 = .ok (.istore 4, 2) := by decide +kernel
theorem dX12_unlists_5 : decode cX12_unlists 5 = .ok (.iload 4, 2) := by decide +kernel
theorem dX12_unlists_7 : decode cX12_unlists 7 = .ok (.aload_n 0, 1) := by decide +kernel
theorem dX12_unlists_8 : decode cX12_unlists 8 = .ok (.getfield 192, 3) := by decide +kernel
theorem dX12_unlists_11 : decode cX12_unlists 11 = .ok (.iload_n 1, 1) := by decide +kernel
theorem dX12_unlists_12 : decode cX12_unlists 12 = .ok (.iaload, 1) := by decide +kernel
theorem dX12_unlists_13 : decode cX12_unlists 13 = .ok (.if_icmp .ge 54, 3) := by decide +kernel
theorem dX12_unlists_16 : decode cX12_unlists 16 = .ok (.aload_n 0, 1) := by decide +kernel
theorem dX12_unlists_17 : decode cX12_unlists 17 = .ok (.getfield 195, 3) := by decide +kernel
theorem dX12_unlists_20 : decode cX12_unlists 20 = .ok (.bipush 8, 2) := by decide +kernel
theorem dX12_unlists_22 : decode cX12_unlists 22 = .ok (.iload_n 1, 1) := by decide +kernel
theorem dX12_unlists_23 : decode cX12_unlists 23 = .ok (.imul, 1) := by decide +kernel
theorem dX12_unlists_24 : decode cX12_unlists 24 = .ok (.iload 4, 2) := by decide +kernel
theorem dX12_unlists_26 : decode cX12_unlists 26 = .ok (.iadd, 1) := by decide +kernel
theorem dX12_unlists_27 : decode cX12_unlists 27 = .ok (.iaload, 1) := by decide +kernel
theorem dX12_unlists_28 : decode cX12_unlists 28 = .ok (.iload_n 2, 1) := by decide +kernel
theorem dX12_unlists_29 : decode cX12_unlists 29 = .ok (.if_icmp .ne 6, 3) := by decide +kernel
theorem dX12_unlists_32 : decode cX12_unlists 32 = .ok (.goto 29, 3) := by decide +kernel
theorem dX12_unlists_35 : decode cX12_unlists 35 = .ok (.aload_n 0, 1) := by decide +kernel
theorem dX12_unlists_36 : decode cX12_unlists 36 = .ok (.getfield 195, 3) := by decide +kernel
theorem dX12_unlists_39 : decode cX12_unlists 39 = .ok (.bipush 8, 2) := by decide +kernel
theorem dX12_unlists_41 : decode cX12_unlists 41 = .ok (.iload_n 1, 1) := by decide +kernel
theorem dX12_unlists_42 : decode cX12_unlists 42 = .ok (.imul, 1) := by decide +kernel
theorem dX12_unlists_43 : decode cX12_unlists 43 = .ok (.iload_n 3, 1) := by decide +kernel
theorem dX12_unlists_44 : decode cX12_unlists 44 = .ok (.iadd, 1) := by decide +kernel
theorem dX12_unlists_45 : decode cX12_unlists 45 = .ok (.aload_n 0, 1) := by decide +kernel
theorem dX12_unlists_46 : decode cX12_unlists 46 = .ok (.getfield 195, 3) := by decide +kernel
theorem dX12_unlists_49 : decode cX12_unlists 49 = .ok (.bipush 8, 2) := by decide +kernel
theorem dX12_unlists_51 : decode cX12_unlists 51 = .ok (.iload_n 1, 1) := by decide +kernel
theorem dX12_unlists_52 : decode cX12_unlists 52 = .ok (.imul, 1) := by decide +kernel
theorem dX12_unlists_53 : decode cX12_unlists 53 = .ok (.iload 4, 2) := by decide +kernel
theorem dX12_unlists_55 : decode cX12_unlists 55 = .ok (.iadd, 1) := by decide +kernel
theorem dX12_unlists_56 : decode cX12_unlists 56 = .ok (.iaload, 1) := by decide +kernel
theorem dX12_unlists_57 : decode cX12_unlists 57 = .ok (.iastore, 1) := by decide +kernel
theorem dX12_unlists_58 : decode cX12_unlists 58 = .ok (.iinc 3 1, 3) := by decide +kernel
theorem dX12_unlists_61 : decode cX12_unlists 61 = .ok (.iinc 4 1, 3) := by decide +kernel
theorem dX12_unlists_64 : decode cX12_unlists 64 = .ok (.goto (-59), 3) := by decide +kernel
theorem dX12_unlists_67 : decode cX12_unlists 67 = .ok (.aload_n 0, 1) := by decide +kernel
theorem dX12_unlists_68 : decode cX12_unlists 68 = .ok (.getfield 192, 3) := by decide +kernel
theorem dX12_unlists_71 : decode cX12_unlists 71 = .ok (.iload_n 1, 1) := by decide +kernel
theorem dX12_unlists_72 : decode cX12_unlists 72 = .ok (.iload_n 3, 1) := by decide +kernel
theorem dX12_unlists_73 : decode cX12_unlists 73 = .ok (.iastore, 1) := by decide +kernel
theorem dX12_unlists_74 : decode cX12_unlists 74 = .ok (.return_, 1) := by decide +kernel
theorem dX12_writesDown_0 : decode cX12_writesDown 0 = .ok (.aload_n 0, 1) := by decide +kernel
theorem dX12_writesDown_1 : decode cX12_writesDown 1 = .ok (.getfield 198, 3) := by decide +kernel
theorem dX12_writesDown_4 : decode cX12_writesDown 4 = .ok (.iload_n 1, 1) := by decide +kernel
theorem dX12_writesDown_5 : decode cX12_writesDown 5 = .ok (.iaload, 1) := by decide +kernel
theorem dX12_writesDown_6 : decode cX12_writesDown 6 = .ok (.bipush 60, 2) := by decide +kernel
theorem dX12_writesDown_8 : decode cX12_writesDown 8 = .ok (.if_icmp .ne 87, 3) := by decide +kernel
theorem dX12_writesDown_11 : decode cX12_writesDown 11 = .ok (.bipush 60, 2) := by decide +kernel
theorem dX12_writesDown_13 : decode cX12_writesDown 13 = .ok (.iload_n 1, 1) := by decide +kernel
theorem dX12_writesDown_14 : decode cX12_writesDown 14 = .ok (.imul, 1) := by decide +kernel
theorem dX12_writesDown_15 : decode cX12_writesDown 15 = .ok (.istore 4, 2) := by decide +kernel
theorem dX12_writesDown_17 : decode cX12_writesDown 17 = .ok (.iload 4, 2) := by decide +kernel
theorem dX12_writesDown_19 : decode cX12_writesDown 19 = .ok (.bipush 60, 2) := by decide +kernel
theorem dX12_writesDown_21 : decode cX12_writesDown 21 = .ok (.iload_n 1, 1) := by decide +kernel
theorem dX12_writesDown_22 : decode cX12_writesDown 22 = .ok (.imul, 1) := by decide +kernel
theorem dX12_writesDown_23 : decode cX12_writesDown 23 = .ok (.bipush 60, 2) := by decide +kernel
theorem dX12_writesDown_25 : decode cX12_writesDown 25 = .ok (.iadd, 1) := by decide +kernel
theorem dX12_writesDown_26 : decode cX12_writesDown 26 = .ok (.iconst 1, 1) := by decide +kernel
theorem dX12_writesDown_27 : decode cX12_writesDown 27 = .ok (.isub, 1) := by decide +kernel
theorem dX12_writesDown_28 : decode cX12_writesDown 28 = .ok (.if_icmp .ge 57, 3) := by decide +kernel
theorem dX12_writesDown_31 : decode cX12_writesDown 31 = .ok (.aload_n 0, 1) := by decide +kernel
theorem dX12_writesDown_32 : decode cX12_writesDown 32 = .ok (.getfield 201, 3) := by decide +kernel
theorem dX12_writesDown_35 : decode cX12_writesDown 35 = .ok (.iload 4, 2) := by decide +kernel
theorem dX12_writesDown_37 : decode cX12_writesDown 37 = .ok (.aload_n 0, 1) := by decide +kernel
theorem dX12_writesDown_38 : decode cX12_writesDown 38 = .ok (.getfield 201, 3) := by decide +kernel
theorem dX12_writesDown_41 : decode cX12_writesDown 41 = .ok (.iload 4, 2) := by decide +kernel
theorem dX12_writesDown_43 : decode cX12_writesDown 43 = .ok (.iconst 1, 1) := by decide +kernel
theorem dX12_writesDown_44 : decode cX12_writesDown 44 = .ok (.iadd, 1) := by decide +kernel
theorem dX12_writesDown_45 : decode cX12_writesDown 45 = .ok (.iaload, 1) := by decide +kernel
theorem dX12_writesDown_46 : decode cX12_writesDown 46 = .ok (.iastore, 1) := by decide +kernel
theorem dX12_writesDown_47 : decode cX12_writesDown 47 = .ok (.aload_n 0, 1) := by decide +kernel
theorem dX12_writesDown_48 : decode cX12_writesDown 48 = .ok (.getfield 204, 3) := by decide +kernel
theorem dX12_writesDown_51 : decode cX12_writesDown 51 = .ok (.iload 4, 2) := by decide +kernel
theorem dX12_writesDown_53 : decode cX12_writesDown 53 = .ok (.aload_n 0, 1) := by decide +kernel
theorem dX12_writesDown_54 : decode cX12_writesDown 54 = .ok (.getfield 204, 3) := by decide +kernel
theorem dX12_writesDown_57 : decode cX12_writesDown 57 = .ok (.iload 4, 2) := by decide +kernel
theorem dX12_writesDown_59 : decode cX12_writesDown 59 = .ok (.iconst 1, 1) := by decide +kernel
theorem dX12_writesDown_60 : decode cX12_writesDown 60 = .ok (.iadd, 1) := by decide +kernel
theorem dX12_writesDown_61 : decode cX12_writesDown 61 = .ok (.iaload, 1) := by decide +kernel
theorem dX12_writesDown_62 : decode cX12_writesDown 62 = .ok (.iastore, 1) := by decide +kernel
theorem dX12_writesDown_63 : decode cX12_writesDown 63 = .ok (.aload_n 0, 1) := by decide +kernel
theorem dX12_writesDown_64 : decode cX12_writesDown 64 = .ok (.getfield 207, 3) := by decide +kernel
theorem dX12_writesDown_67 : decode cX12_writesDown 67 = .ok (.iload 4, 2) := by decide +kernel
theorem dX12_writesDown_69 : decode cX12_writesDown 69 = .ok (.aload_n 0, 1) := by decide +kernel
theorem dX12_writesDown_70 : decode cX12_writesDown 70 = .ok (.getfield 207, 3) := by decide +kernel
theorem dX12_writesDown_73 : decode cX12_writesDown 73 = .ok (.iload 4, 2) := by decide +kernel
theorem dX12_writesDown_75 : decode cX12_writesDown 75 = .ok (.iconst 1, 1) := by decide +kernel
theorem dX12_writesDown_76 : decode cX12_writesDown 76 = .ok (.iadd, 1) := by decide +kernel
theorem dX12_writesDown_77 : decode cX12_writesDown 77 = .ok (.iaload, 1) := by decide +kernel
theorem dX12_writesDown_78 : decode cX12_writesDown 78 = .ok (.iastore, 1) := by decide +kernel
theorem dX12_writesDown_79 : decode cX12_writesDown 79 = .ok (.iinc 4 1, 3) := by decide +kernel
theorem dX12_writesDown_82 : decode cX12_writesDown 82 = .ok (.goto (-65), 3) := by decide +kernel
theorem dX12_writesDown_85 : decode cX12_writesDown 85 = .ok (.aload_n 0, 1) := by decide +kernel
theorem dX12_writesDown_86 : decode cX12_writesDown 86 = .ok (.getfield 198, 3) := by decide +kernel
theorem dX12_writesDown_89 : decode cX12_writesDown 89 = .ok (.iload_n 1, 1) := by decide +kernel
theorem dX12_writesDown_90 : decode cX12_writesDown 90 = .ok (.dup2, 1) := by decide +kernel
theorem dX12_writesDown_91 : decode cX12_writesDown 91 = .ok (.iaload, 1) := by decide +kernel
theorem dX12_writesDown_92 : decode cX12_writesDown 92 = .ok (.iconst 1, 1) := by decide +kernel
theorem dX12_writesDown_93 : decode cX12_writesDown 93 = .ok (.isub, 1) := by decide +kernel
theorem dX12_writesDown_94 : decode cX12_writesDown 94 = .ok (.iastore, 1) := by decide +kernel
theorem dX12_writesDown_95 : decode cX12_writesDown 95 = .ok (.bipush 60, 2) := by decide +kernel
theorem dX12_writesDown_97 : decode cX12_writesDown 97 = .ok (.iload_n 1, 1) := by decide +kernel
theorem dX12_writesDown_98 : decode cX12_writesDown 98 = .ok (.imul, 1) := by decide +kernel
theorem dX12_writesDown_99 : decode cX12_writesDown 99 = .ok (.aload_n 0, 1) := by decide +kernel
theorem dX12_writesDown_100 : decode cX12_writesDown 100 = .ok (.getfield 198, 3) := by decide +kernel
theorem dX12_writesDown_103 : decode cX12_writesDown 103 = .ok (.iload_n 1, 1) := by decide +kernel
theorem dX12_writesDown_104 : decode cX12_writesDown 104 = .ok (.iaload, 1) := by decide +kernel
theorem dX12_writesDown_105 : decode cX12_writesDown 105 = .ok (.iadd, 1) := by decide +kernel
theorem dX12_writesDown_106 : decode cX12_writesDown 106 = .ok (.istore 4, 2) := by decide +kernel
theorem dX12_writesDown_108 : decode cX12_writesDown 108 = .ok (.aload_n 0, 1) := by decide +kernel
theorem dX12_writesDown_109 : decode cX12_writesDown 109 = .ok (.getfield 201, 3) := by decide +kernel
theorem dX12_writesDown_112 : decode cX12_writesDown 112 = .ok (.iload 4, 2) := by decide +kernel
theorem dX12_writesDown_114 : decode cX12_writesDown 114 = .ok (.aload_n 0, 1) := by decide +kernel
theorem dX12_writesDown_115 : decode cX12_writesDown 115 = .ok (.getfield 171, 3) := by decide +kernel
theorem dX12_writesDown_118 : decode cX12_writesDown 118 = .ok (.iload_n 1, 1) := by decide +kernel
theorem dX12_writesDown_119 : decode cX12_writesDown 119 = .ok (.iaload, 1) := by decide +kernel
theorem dX12_writesDown_120 : decode cX12_writesDown 120 = .ok (.iconst 1, 1) := by decide +kernel
theorem dX12_writesDown_121 : decode cX12_writesDown 121 = .ok (.iadd, 1) := by decide +kernel
theorem dX12_writesDown_122 : decode cX12_writesDown 122 = .ok (.iastore, 1) := by decide +kernel
theorem dX12_writesDown_123 : decode cX12_writesDown 123 = .ok (.aload_n 0, 1) := by decide +kernel
theorem dX12_writesDown_124 : decode cX12_writesDown 124 = .ok (.getfield 204, 3) := by decide +kernel
theorem dX12_writesDown_127 : decode cX12_writesDown 127 = .ok (.iload 4, 2) := by decide +kernel
theorem dX12_writesDown_129 : decode cX12_writesDown 129 = .ok (.iload_n 2, 1) := by decide +kernel
theorem dX12_writesDown_130 : decode cX12_writesDown 130 = .ok (.iastore, 1) := by decide +kernel
theorem dX12_writesDown_131 : decode cX12_writesDown 131 = .ok (.aload_n 0, 1) := by decide +kernel
theorem dX12_writesDown_132 : decode cX12_writesDown 132 = .ok (.getfield 207, 3) := by decide +kernel
theorem dX12_writesDown_135 : decode cX12_writesDown 135 = .ok (.iload 4, 2) := by decide +kernel
theorem dX12_writesDown_137 : decode cX12_writesDown 137 = .ok (.iload_n 3, 1) := by decide +kernel
theorem dX12_writesDown_138 : decode cX12_writesDown 138 = .ok (.iastore, 1) := by decide +kernel
theorem dX12_writesDown_139 : decode cX12_writesDown 139 = .ok (.aload_n 0, 1) := by decide +kernel
theorem dX12_writesDown_140 : decode cX12_writesDown 140 = .ok (.getfield 198, 3) := by decide +kernel
theorem dX12_writesDown_143 : decode cX12_writesDown 143 = .ok (.iload_n 1, 1) := by decide +kernel
theorem dX12_writesDown_144 : decode cX12_writesDown 144 = .ok (.dup2, 1) := by decide +kernel
theorem dX12_writesDown_145 : decode cX12_writesDown 145 = .ok (.iaload, 1) := by decide +kernel
theorem dX12_writesDown_146 : decode cX12_writesDown 146 = .ok (.iconst 1, 1) := by decide +kernel
theorem dX12_writesDown_147 : decode cX12_writesDown 147 = .ok (.iadd, 1) := by decide +kernel
theorem dX12_writesDown_148 : decode cX12_writesDown 148 = .ok (.iastore, 1) := by decide +kernel
theorem dX12_writesDown_149 : decode cX12_writesDown 149 = .ok (.return_, 1) := by decide +kernel
theorem dX12_nextPage_0 : decode cX12_nextPage 0 = .ok (.bipush 6, 2) := by decide +kernel
theorem dX12_nextPage_2 : decode cX12_nextPage 2 = .ok (.iload_n 1, 1) := by decide +kernel
theorem dX12_nextPage_3 : decode cX12_nextPage 3 = .ok (.imul, 1) := by decide +kernel
theorem dX12_nextPage_4 : decode cX12_nextPage 4 = .ok (.iload_n 2, 1) := by decide +kernel
theorem dX12_nextPage_5 : decode cX12_nextPage 5 = .ok (.iadd, 1) := by decide +kernel
theorem dX12_nextPage_6 : decode cX12_nextPage 6 = .ok (.istore_n 3, 1) := by decide +kernel
theorem dX12_nextPage_7 : decode cX12_nextPage 7 = .ok (.aload_n 0, 1) := by decide +kernel
theorem dX12_nextPage_8 : decode cX12_nextPage 8 = .ok (.getfield 186, 3) := by decide +kernel
theorem dX12_nextPage_11 : decode cX12_nextPage 11 = .ok (.iload_n 3, 1) := by decide +kernel
theorem dX12_nextPage_12 : decode cX12_nextPage 12 = .ok (.iaload, 1) := by decide +kernel
theorem dX12_nextPage_13 : decode cX12_nextPage 13 = .ok (.iconst (-1), 1) := by decide +kernel
theorem dX12_nextPage_14 : decode cX12_nextPage 14 = .ok (.if_icmp .eq 25, 3) := by decide +kernel
theorem dX12_nextPage_17 : decode cX12_nextPage 17 = .ok (.aload_n 0, 1) := by decide +kernel
theorem dX12_nextPage_18 : decode cX12_nextPage 18 = .ok (.iload_n 1, 1) := by decide +kernel
theorem dX12_nextPage_19 : decode cX12_nextPage 19 = .ok (.iload_n 2, 1) := by decide +kernel
theorem dX12_nextPage_20 : decode cX12_nextPage 20 = .ok (.aload_n 0, 1) := by decide +kernel
theorem dX12_nextPage_21 : decode cX12_nextPage 21 = .ok (.getfield 186, 3) := by decide +kernel
theorem dX12_nextPage_24 : decode cX12_nextPage 24 = .ok (.iload_n 3, 1) := by decide +kernel
theorem dX12_nextPage_25 : decode cX12_nextPage 25 = .ok (.iaload, 1) := by decide +kernel
theorem dX12_nextPage_26 : decode cX12_nextPage 26 = .ok (.invokevirtual 524, 3) := by decide +kernel
theorem dX12_nextPage_29 : decode cX12_nextPage 29 = .ok (.ifCond .eq 10, 3) := by decide +kernel
theorem dX12_nextPage_32 : decode cX12_nextPage 32 = .ok (.aload_n 0, 1) := by decide +kernel
theorem dX12_nextPage_33 : decode cX12_nextPage 33 = .ok (.getfield 186, 3) := by decide +kernel
theorem dX12_nextPage_36 : decode cX12_nextPage 36 = .ok (.iload_n 3, 1) := by decide +kernel
theorem dX12_nextPage_37 : decode cX12_nextPage 37 = .ok (.iaload, 1) := by decide +kernel
theorem dX12_nextPage_38 : decode cX12_nextPage 38 = .ok (.ireturn, 1) := by decide +kernel
theorem dX12_nextPage_39 : decode cX12_nextPage 39 = .ok (.iconst 0, 1) := by decide +kernel
theorem dX12_nextPage_40 : decode cX12_nextPage 40 = .ok (.istore 4, 2) := by decide +kernel
theorem dX12_nextPage_42 : decode cX12_nextPage 42 = .ok (.iload 4, 2) := by decide +kernel
theorem dX12_nextPage_44 : decode cX12_nextPage 44 = .ok (.aload_n 0, 1) := by decide +kernel
theorem dX12_nextPage_45 : decode cX12_nextPage 45 = .ok (.getfield 192, 3) := by decide +kernel
theorem dX12_nextPage_48 : decode cX12_nextPage 48 = .ok (.iload_n 3, 1) := by decide +kernel
theorem dX12_nextPage_49 : decode cX12_nextPage 49 = .ok (.iaload, 1) := by decide +kernel
theorem dX12_nextPage_50 : decode cX12_nextPage 50 = .ok (.if_icmp .ge 43, 3) := by decide +kernel
theorem dX12_nextPage_53 : decode cX12_nextPage 53 = .ok (.aload_n 0, 1) := by decide +kernel
theorem dX12_nextPage_54 : decode cX12_nextPage 54 = .ok (.iload_n 1, 1) := by decide +kernel
theorem dX12_nextPage_55 : decode cX12_nextPage 55 = .ok (.iload_n 2, 1) := by decide +kernel
theorem dX12_nextPage_56 : decode cX12_nextPage 56 = .ok (.aload_n 0, 1) := by decide +kernel
theorem dX12_nextPage_57 : decode cX12_nextPage 57 = .ok (.getfield 195, 3) := by decide +kernel
theorem dX12_nextPage_60 : decode cX12_nextPage 60 = .ok (.bipush 8, 2) := by decide +kernel
theorem dX12_nextPage_62 : decode cX12_nextPage 62 = .ok (.iload_n 3, 1) := by decide +kernel
theorem dX12_nextPage_63 : decode cX12_nextPage 63 = .ok (.imul, 1) := by decide +kernel
theorem dX12_nextPage_64 : decode cX12_nextPage 64 = .ok (.iload 4, 2) := by decide +kernel
theorem dX12_nextPage_66 : decode cX12_nextPage 66 = .ok (.iadd, 1) := by decide +kernel
theorem dX12_nextPage_67 : decode cX12_nextPage 67 = .ok (.iaload, 1) := by decide +kernel
theorem dX12_nextPage_68 : decode cX12_nextPage 68 = .ok (.invokevirtual 524, 3) := by decide +kernel
theorem dX12_nextPage_71 : decode cX12_nextPage 71 = .ok (.ifCond .eq 16, 3) := by decide +kernel
theorem dX12_nextPage_74 : decode cX12_nextPage 74 = .ok (.aload_n 0, 1) := by decide +kernel
theorem dX12_nextPage_75 : decode cX12_nextPage 75 = .ok (.getfield 195, 3) := by decide +kernel
theorem dX12_nextPage_78 : decode cX12_nextPage 78 = .ok (.bipush 8, 2) := by decide +kernel
theorem dX12_nextPage_80 : decode cX12_nextPage 80 = .ok (.iload_n 3, 1) := by decide +kernel
theorem dX12_nextPage_81 : decode cX12_nextPage 81 = .ok (.imul, 1) := by decide +kernel
theorem dX12_nextPage_82 : decode cX12_nextPage 82 = .ok (.iload 4, 2) := by decide +kernel
theorem dX12_nextPage_84 : decode cX12_nextPage 84 = .ok (.iadd, 1) := by decide +kernel
theorem dX12_nextPage_85 : decode cX12_nextPage 85 = .ok (.iaload, 1) := by decide +kernel
theorem dX12_nextPage_86 : decode cX12_nextPage 86 = .ok (.ireturn, 1) := by decide +kernel
theorem dX12_nextPage_87 : decode cX12_nextPage 87 = .ok (.iinc 4 1, 3) := by decide +kernel
theorem dX12_nextPage_90 : decode cX12_nextPage 90 = .ok (.goto (-48), 3) := by decide +kernel
theorem dX12_nextPage_93 : decode cX12_nextPage 93 = .ok (.iconst (-1), 1) := by decide +kernel
theorem dX12_nextPage_94 : decode cX12_nextPage 94 = .ok (.ireturn, 1) := by decide +kernel
theorem dX12_readsOn_0 : decode cX12_readsOn 0 = .ok (.bipush 6, 2) := by decide +kernel
theorem dX12_readsOn_2 : decode cX12_readsOn 2 = .ok (.iload_n 1, 1) := by decide +kernel
theorem dX12_readsOn_3 : decode cX12_readsOn 3 = .ok (.imul, 1) := by decide +kernel
theorem dX12_readsOn_4 : decode cX12_readsOn 4 = .ok (.iload_n 2, 1) := by decide +kernel
theorem dX12_readsOn_5 : decode cX12_readsOn 5 = .ok (.iadd, 1) := by decide +kernel
theorem dX12_readsOn_6 : decode cX12_readsOn 6 = .ok (.istore 4, 2) := by decide +kernel
theorem dX12_readsOn_8 : decode cX12_readsOn 8 = .ok (.aload_n 0, 1) := by decide +kernel
theorem dX12_readsOn_9 : decode cX12_readsOn 9 = .ok (.getfield 237, 3) := by decide +kernel
theorem dX12_readsOn_12 : decode cX12_readsOn 12 = .ok (.iload_n 2, 1) := by decide +kernel
theorem dX12_readsOn_13 : decode cX12_readsOn 13 = .ok (.iconst 0, 1) := by decide +kernel
theorem dX12_readsOn_14 : decode cX12_readsOn 14 = .ok (.iastore, 1) := by decide +kernel
theorem dX12_readsOn_15 : decode cX12_readsOn 15 = .ok (.aload_n 0, 1) := by decide +kernel
theorem dX12_readsOn_16 : decode cX12_readsOn 16 = .ok (.getfield 240, 3) := by decide +kernel
theorem dX12_readsOn_19 : decode cX12_readsOn 19 = .ok (.iload_n 2, 1) := by decide +kernel
theorem dX12_readsOn_20 : decode cX12_readsOn 20 = .ok (.iconst 0, 1) := by decide +kernel
theorem dX12_readsOn_21 : decode cX12_readsOn 21 = .ok (.iastore, 1) := by decide +kernel
theorem dX12_readsOn_22 : decode cX12_readsOn 22 = .ok (.aload_n 0, 1) := by decide +kernel
theorem dX12_readsOn_23 : decode cX12_readsOn 23 = .ok (.iload_n 1, 1) := by decide +kernel
theorem dX12_readsOn_24 : decode cX12_readsOn 24 = .ok (.iload_n 2, 1) := by decide +kernel
theorem dX12_readsOn_25 : decode cX12_readsOn 25 = .ok (.invokevirtual 527, 3) := by decide +kernel
theorem dX12_readsOn_28 : decode cX12_readsOn 28 = .ok (.istore 5, 2) := by decide +kernel
theorem dX12_readsOn_30 : decode cX12_readsOn 30 = .ok (.iconst 1, 1) := by decide +kernel
theorem dX12_readsOn_31 : decode cX12_readsOn 31 = .ok (.istore 6, 2) := by decide +kernel
theorem dX12_readsOn_33 : decode cX12_readsOn 33 = .ok (.iload 5, 2) := by decide +kernel
theorem dX12_readsOn_35 : decode cX12_readsOn 35 = .ok (.iconst (-1), 1) := by decide +kernel
theorem dX12_readsOn_36 : decode cX12_readsOn 36 = .ok (.if_icmp .eq 222, 3) := by decide +kernel
theorem dX12_readsOn_39 : decode cX12_readsOn 39 = .ok (.aload_n 0, 1) := by decide +kernel
theorem dX12_readsOn_40 : decode cX12_readsOn 40 = .ok (.getfield 237, 3) := by decide +kernel
theorem dX12_readsOn_43 : decode cX12_readsOn 43 = .ok (.iload_n 2, 1) := by decide +kernel
theorem dX12_readsOn_44 : decode cX12_readsOn 44 = .ok (.iaload, 1) := by decide +kernel
theorem dX12_readsOn_45 : decode cX12_readsOn 45 = .ok (.iload_n 3, 1) := by decide +kernel
theorem dX12_readsOn_46 : decode cX12_readsOn 46 = .ok (.if_icmp .ge 212, 3) := by decide +kernel
theorem dX12_readsOn_49 : decode cX12_readsOn 49 = .ok (.iload 6, 2) := by decide +kernel
theorem dX12_readsOn_51 : decode cX12_readsOn 51 = .ok (.ifCond .eq 207, 3) := by decide +kernel
theorem dX12_readsOn_54 : decode cX12_readsOn 54 = .ok (.aload_n 0, 1) := by decide +kernel
theorem dX12_readsOn_55 : decode cX12_readsOn 55 = .ok (.getfield 186, 3) := by decide +kernel
theorem dX12_readsOn_58 : decode cX12_readsOn 58 = .ok (.iload 4, 2) := by decide +kernel
theorem dX12_readsOn_60 : decode cX12_readsOn 60 = .ok (.iaload, 1) := by decide +kernel
theorem dX12_readsOn_61 : decode cX12_readsOn 61 = .ok (.iload 5, 2) := by decide +kernel
theorem dX12_readsOn_63 : decode cX12_readsOn 63 = .ok (.if_icmp .ne 13, 3) := by decide +kernel
theorem dX12_readsOn_66 : decode cX12_readsOn 66 = .ok (.aload_n 0, 1) := by decide +kernel
theorem dX12_readsOn_67 : decode cX12_readsOn 67 = .ok (.getfield 189, 3) := by decide +kernel
theorem dX12_readsOn_70 : decode cX12_readsOn 70 = .ok (.iload 4, 2) := by decide +kernel
theorem dX12_readsOn_72 : decode cX12_readsOn 72 = .ok (.iaload, 1) := by decide +kernel
theorem dX12_readsOn_73 : decode cX12_readsOn 73 = .ok (.goto 4, 3) := by decide +kernel
theorem dX12_readsOn_76 : decode cX12_readsOn 76 = .ok (.iconst 0, 1) := by decide +kernel
theorem dX12_readsOn_77 : decode cX12_readsOn 77 = .ok (.istore 7, 2) := by decide +kernel
theorem dX12_readsOn_79 : decode cX12_readsOn 79 = .ok (.aload_n 0, 1) := by decide +kernel
theorem dX12_readsOn_80 : decode cX12_readsOn 80 = .ok (.iload_n 1, 1) := by decide +kernel
theorem dX12_readsOn_81 : decode cX12_readsOn 81 = .ok (.iload_n 2, 1) := by decide +kernel
theorem dX12_readsOn_82 : decode cX12_readsOn 82 = .ok (.iload 5, 2) := by decide +kernel
theorem dX12_readsOn_84 : decode cX12_readsOn 84 = .ok (.invokevirtual 530, 3) := by decide +kernel
theorem dX12_readsOn_87 : decode cX12_readsOn 87 = .ok (.iload 7, 2) := by decide +kernel
theorem dX12_readsOn_89 : decode cX12_readsOn 89 = .ok (.isub, 1) := by decide +kernel
theorem dX12_readsOn_90 : decode cX12_readsOn 90 = .ok (.istore 8, 2) := by decide +kernel
theorem dX12_readsOn_92 : decode cX12_readsOn 92 = .ok (.iload_n 3, 1) := by decide +kernel
theorem dX12_readsOn_93 : decode cX12_readsOn 93 = .ok (.aload_n 0, 1) := by decide +kernel
theorem dX12_readsOn_94 : decode cX12_readsOn 94 = .ok (.getfield 237, 3) := by decide +kernel
theorem dX12_readsOn_97 : decode cX12_readsOn 97 = .ok (.iload_n 2, 1) := by decide +kernel
theorem dX12_readsOn_98 : decode cX12_readsOn 98 = .ok (.iaload, 1) := by decide +kernel
theorem dX12_readsOn_99 : decode cX12_readsOn 99 = .ok (.isub, 1) := by decide +kernel
theorem dX12_readsOn_100 : decode cX12_readsOn 100 = .ok (.istore 9, 2) := by decide +kernel
theorem dX12_readsOn_102 : decode cX12_readsOn 102 = .ok (.iload 8, 2) := by decide +kernel
theorem dX12_readsOn_104 : decode cX12_readsOn 104 = .ok (.iload 9, 2) := by decide +kernel
theorem dX12_readsOn_106 : decode cX12_readsOn 106 = .ok (.if_icmp .gt 7, 3) := by decide +kernel
theorem dX12_readsOn_109 : decode cX12_readsOn 109 = .ok (.iconst 1, 1) := by decide +kernel
theorem dX12_readsOn_110 : decode cX12_readsOn 110 = .ok (.goto 4, 3) := by decide +kernel
theorem dX12_readsOn_113 : decode cX12_readsOn 113 = .ok (.iconst 0, 1) := by decide +kernel
theorem dX12_readsOn_114 : decode cX12_readsOn 114 = .ok (.istore 10, 2) := by decide +kernel
theorem dX12_readsOn_116 : decode cX12_readsOn 116 = .ok (.aload_n 0, 1) := by decide +kernel
theorem dX12_readsOn_117 : decode cX12_readsOn 117 = .ok (.getfield 186, 3) := by decide +kernel
theorem dX12_readsOn_120 : decode cX12_readsOn 120 = .ok (.iload 4, 2) := by decide +kernel
theorem dX12_readsOn_122 : decode cX12_readsOn 122 = .ok (.iload 10, 2) := by decide +kernel
theorem dX12_readsOn_124 : decode cX12_readsOn 124 = .ok (.ifCond .eq 7, 3) := by decide +kernel
theorem dX12_readsOn_127 : decode cX12_readsOn 127 = .ok (.iconst (-1), 1) := by decide +kernel
theorem dX12_readsOn_128 : decode cX12_readsOn 128 = .ok (.goto 5, 3) := by decide +kernel
theorem dX12_readsOn_131 : decode cX12_readsOn 131 = .ok (.iload 5, 2) := by decide +kernel
theorem dX12_readsOn_133 : decode cX12_readsOn 133 = .ok (.iastore, 1) := by decide +kernel
theorem dX12_readsOn_134 : decode cX12_readsOn 134 = .ok (.aload_n 0, 1) := by decide +kernel
theorem dX12_readsOn_135 : decode cX12_readsOn 135 = .ok (.getfield 189, 3) := by decide +kernel
theorem dX12_readsOn_138 : decode cX12_readsOn 138 = .ok (.iload 4, 2) := by decide +kernel
theorem dX12_readsOn_140 : decode cX12_readsOn 140 = .ok (.iload 10, 2) := by decide +kernel
theorem dX12_readsOn_142 : decode cX12_readsOn 142 = .ok (.ifCond .eq 7, 3) := by decide +kernel
theorem dX12_readsOn_145 : decode cX12_readsOn 145 = .ok (.iconst 0, 1) := by decide +kernel
theorem dX12_readsOn_146 : decode cX12_readsOn 146 = .ok (.goto 8, 3) := by decide +kernel
theorem dX12_readsOn_149 : decode cX12_readsOn 149 = .ok (.iload 7, 2) := by decide +kernel
theorem dX12_readsOn_151 : decode cX12_readsOn 151 = .ok (.iload 9, 2) := by decide +kernel
theorem dX12_readsOn_153 : decode cX12_readsOn 153 = .ok (.iadd, 1) := by decide +kernel
theorem dX12_readsOn_154 : decode cX12_readsOn 154 = .ok (.iastore, 1) := by decide +kernel
theorem dX12_readsOn_155 : decode cX12_readsOn 155 = .ok (.aload_n 0, 1) := by decide +kernel
theorem dX12_readsOn_156 : decode cX12_readsOn 156 = .ok (.getfield 237, 3) := by decide +kernel
theorem dX12_readsOn_159 : decode cX12_readsOn 159 = .ok (.iload_n 2, 1) := by decide +kernel
theorem dX12_readsOn_160 : decode cX12_readsOn 160 = .ok (.dup2, 1) := by decide +kernel
theorem dX12_readsOn_161 : decode cX12_readsOn 161 = .ok (.iaload, 1) := by decide +kernel
theorem dX12_readsOn_162 : decode cX12_readsOn 162 = .ok (.iload 10, 2) := by decide +kernel
theorem dX12_readsOn_164 : decode cX12_readsOn 164 = .ok (.ifCond .eq 17, 3) := by decide +kernel
theorem dX12_readsOn_167 : decode cX12_readsOn 167 = .ok (.iload 8, 2) := by decide +kernel
theorem dX12_readsOn_169 : decode cX12_readsOn 169 = .ok (.ifCond .ge 7, 3) := by decide +kernel
theorem dX12_readsOn_172 : decode cX12_readsOn 172 = .ok (.iconst 0, 1) := by decide +kernel
theorem dX12_readsOn_173 : decode cX12_readsOn 173 = .ok (.goto 10, 3) := by decide +kernel
theorem dX12_readsOn_176 : decode cX12_readsOn 176 = .ok (.iload 8, 2) := by decide +kernel
theorem dX12_readsOn_178 : decode cX12_readsOn 178 = .ok (.goto 5, 3) := by decide +kernel
theorem dX12_readsOn_181 : decode cX12_readsOn 181 = .ok (.iload 9, 2) := by decide +kernel
theorem dX12_readsOn_183 : decode cX12_readsOn 183 = .ok (.iadd, 1) := by decide +kernel
theorem dX12_readsOn_184 : decode cX12_readsOn 184 = .ok (.iastore, 1) := by decide +kernel
theorem dX12_readsOn_185 : decode cX12_readsOn 185 = .ok (.iload 10, 2) := by decide +kernel
theorem dX12_readsOn_187 : decode cX12_readsOn 187 = .ok (.istore 6, 2) := by decide +kernel
theorem dX12_readsOn_189 : decode cX12_readsOn 189 = .ok (.iload 10, 2) := by decide +kernel
theorem dX12_readsOn_191 : decode cX12_readsOn 191 = .ok (.ifCond .eq 64, 3) := by decide +kernel
theorem dX12_readsOn_194 : decode cX12_readsOn 194 = .ok (.aload_n 0, 1) := by decide +kernel
theorem dX12_readsOn_195 : decode cX12_readsOn 195 = .ok (.iload 4, 2) := by decide +kernel
theorem dX12_readsOn_197 : decode cX12_readsOn 197 = .ok (.iload 5, 2) := by decide +kernel
theorem dX12_readsOn_199 : decode cX12_readsOn 199 = .ok (.invokevirtual 534, 3) := by decide +kernel
theorem dX12_readsOn_202 : decode cX12_readsOn 202 = .ok (.aload_n 0, 1) := by decide +kernel
theorem dX12_readsOn_203 : decode cX12_readsOn 203 = .ok (.getfield 180, 3) := by decide +kernel
theorem dX12_readsOn_206 : decode cX12_readsOn 206 = .ok (.iload 4, 2) := by decide +kernel
theorem dX12_readsOn_208 : decode cX12_readsOn 208 = .ok (.dup2, 1) := by decide +kernel
theorem dX12_readsOn_209 : decode cX12_readsOn 209 = .ok (.iaload, 1) := by decide +kernel
theorem dX12_readsOn_210 : decode cX12_readsOn 210 = .ok (.iconst 1, 1) := by decide +kernel
theorem dX12_readsOn_211 : decode cX12_readsOn 211 = .ok (.iload 5, 2) := by decide +kernel
theorem dX12_readsOn_213 : decode cX12_readsOn 213 = .ok (.ishl, 1) := by decide +kernel
theorem dX12_readsOn_214 : decode cX12_readsOn 214 = .ok (.ior, 1) := by decide +kernel
theorem dX12_readsOn_215 : decode cX12_readsOn 215 = .ok (.iastore, 1) := by decide +kernel
theorem dX12_readsOn_216 : decode cX12_readsOn 216 = .ok (.aload_n 0, 1) := by decide +kernel
theorem dX12_readsOn_217 : decode cX12_readsOn 217 = .ok (.getfield 240, 3) := by decide +kernel
theorem dX12_readsOn_220 : decode cX12_readsOn 220 = .ok (.iload_n 2, 1) := by decide +kernel
theorem dX12_readsOn_221 : decode cX12_readsOn 221 = .ok (.dup2, 1) := by decide +kernel
theorem dX12_readsOn_222 : decode cX12_readsOn 222 = .ok (.iaload, 1) := by decide +kernel
theorem dX12_readsOn_223 : decode cX12_readsOn 223 = .ok (.iconst 1, 1) := by decide +kernel
theorem dX12_readsOn_224 : decode cX12_readsOn 224 = .ok (.iload 5, 2) := by decide +kernel
theorem dX12_readsOn_226 : decode cX12_readsOn 226 = .ok (.ishl, 1) := by decide +kernel
theorem dX12_readsOn_227 : decode cX12_readsOn 227 = .ok (.ior, 1) := by decide +kernel
theorem dX12_readsOn_228 : decode cX12_readsOn 228 = .ok (.iastore, 1) := by decide +kernel
theorem dX12_readsOn_229 : decode cX12_readsOn 229 = .ok (.aload_n 0, 1) := by decide +kernel
theorem dX12_readsOn_230 : decode cX12_readsOn 230 = .ok (.dup, 1) := by decide +kernel
theorem dX12_readsOn_231 : decode cX12_readsOn 231 = .ok (.getfield 246, 3) := by decide +kernel
theorem dX12_readsOn_234 : decode cX12_readsOn 234 = .ok (.iconst 1, 1) := by decide +kernel
theorem dX12_readsOn_235 : decode cX12_readsOn 235 = .ok (.iadd, 1) := by decide +kernel
theorem dX12_readsOn_236 : decode cX12_readsOn 236 = .ok (.putfield 246, 3) := by decide +kernel
theorem dX12_readsOn_239 : decode cX12_readsOn 239 = .ok (.aload_n 0, 1) := by decide +kernel
theorem dX12_readsOn_240 : decode cX12_readsOn 240 = .ok (.iload_n 1, 1) := by decide +kernel
theorem dX12_readsOn_241 : decode cX12_readsOn 241 = .ok (.iload_n 2, 1) := by decide +kernel
theorem dX12_readsOn_242 : decode cX12_readsOn 242 = .ok (.iload 5, 2) := by decide +kernel
theorem dX12_readsOn_244 : decode cX12_readsOn 244 = .ok (.invokevirtual 537, 3) := by decide +kernel
theorem dX12_readsOn_247 : decode cX12_readsOn 247 = .ok (.aload_n 0, 1) := by decide +kernel
theorem dX12_readsOn_248 : decode cX12_readsOn 248 = .ok (.iload_n 1, 1) := by decide +kernel
theorem dX12_readsOn_249 : decode cX12_readsOn 249 = .ok (.iload_n 2, 1) := by decide +kernel
theorem dX12_readsOn_250 : decode cX12_readsOn 250 = .ok (.invokevirtual 527, 3) := by decide +kernel
theorem dX12_readsOn_253 : decode cX12_readsOn 253 = .ok (.istore 5, 2) := by decide +kernel
theorem dX12_readsOn_255 : decode cX12_readsOn 255 = .ok (.goto (-222), 3) := by decide +kernel
theorem dX12_readsOn_258 : decode cX12_readsOn 258 = .ok (.return_, 1) := by decide +kernel
theorem dX12_goesNight_0 : decode cX12_goesNight 0 = .ok (.iconst 0, 1) := by decide +kernel
theorem dX12_goesNight_1 : decode cX12_goesNight 1 = .ok (.istore_n 2, 1) := by decide +kernel
theorem dX12_goesNight_2 : decode cX12_goesNight 2 = .ok (.aload_n 0, 1) := by decide +kernel
theorem dX12_goesNight_3 : decode cX12_goesNight 3 = .ok (.iconst 0, 1) := by decide +kernel
theorem dX12_goesNight_4 : decode cX12_goesNight 4 = .ok (.putfield 246, 3) := by decide +kernel
theorem dX12_goesNight_7 : decode cX12_goesNight 7 = .ok (.iconst 0, 1) := by decide +kernel
theorem dX12_goesNight_8 : decode cX12_goesNight 8 = .ok (.istore_n 3, 1) := by decide +kernel
theorem dX12_goesNight_9 : decode cX12_goesNight 9 = .ok (.iload_n 3, 1) := by decide +kernel
theorem dX12_goesNight_10 : decode cX12_goesNight 10 = .ok (.aload_n 0, 1) := by decide +kernel
theorem dX12_goesNight_11 : decode cX12_goesNight 11 = .ok (.getfield 84, 3) := by decide +kernel
theorem dX12_goesNight_14 : decode cX12_goesNight 14 = .ok (.aload_n 0, 1) := by decide +kernel
theorem dX12_goesNight_15 : decode cX12_goesNight 15 = .ok (.getfield 51, 3) := by decide +kernel
theorem dX12_goesNight_18 : decode cX12_goesNight 18 = .ok (.iaload, 1) := by decide +kernel
theorem dX12_goesNight_19 : decode cX12_goesNight 19 = .ok (.if_icmp .ge 21, 3) := by decide +kernel
theorem dX12_goesNight_22 : decode cX12_goesNight 22 = .ok (.aload_n 0, 1) := by decide +kernel
theorem dX12_goesNight_23 : decode cX12_goesNight 23 = .ok (.getfield 243, 3) := by decide +kernel
theorem dX12_goesNight_26 : decode cX12_goesNight 26 = .ok (.iload_n 3, 1) := by decide +kernel
theorem dX12_goesNight_27 : decode cX12_goesNight 27 = .ok (.aload_n 0, 1) := by decide +kernel
theorem dX12_goesNight_28 : decode cX12_goesNight 28 = .ok (.iload_n 1, 1) := by decide +kernel
theorem dX12_goesNight_29 : decode cX12_goesNight 29 = .ok (.iload_n 3, 1) := by decide +kernel
theorem dX12_goesNight_30 : decode cX12_goesNight 30 = .ok (.invokevirtual 541, 3) := by decide +kernel
theorem dX12_goesNight_33 : decode cX12_goesNight 33 = .ok (.iastore, 1) := by decide +kernel
theorem dX12_goesNight_34 : decode cX12_goesNight 34 = .ok (.iinc 3 1, 3) := by decide +kernel
theorem dX12_goesNight_37 : decode cX12_goesNight 37 = .ok (.goto (-28), 3) := by decide +kernel
theorem dX12_goesNight_40 : decode cX12_goesNight 40 = .ok (.iconst 0, 1) := by decide +kernel
theorem dX12_goesNight_41 : decode cX12_goesNight 41 = .ok (.istore_n 3, 1) := by decide +kernel
theorem dX12_goesNight_42 : decode cX12_goesNight 42 = .ok (.iload_n 3, 1) := by decide +kernel
theorem dX12_goesNight_43 : decode cX12_goesNight 43 = .ok (.aload_n 0, 1) := by decide +kernel
theorem dX12_goesNight_44 : decode cX12_goesNight 44 = .ok (.getfield 75, 3) := by decide +kernel
theorem dX12_goesNight_47 : decode cX12_goesNight 47 = .ok (.aload_n 0, 1) := by decide +kernel
theorem dX12_goesNight_48 : decode cX12_goesNight 48 = .ok (.getfield 51, 3) := by decide +kernel
theorem dX12_goesNight_51 : decode cX12_goesNight 51 = .ok (.iaload, 1) := by decide +kernel
theorem dX12_goesNight_52 : decode cX12_goesNight 52 = .ok (.if_icmp .ge 31, 3) := by decide +kernel
theorem dX12_goesNight_55 : decode cX12_goesNight 55 = .ok (.aload_n 0, 1) := by decide +kernel
theorem dX12_goesNight_56 : decode cX12_goesNight 56 = .ok (.iload_n 1, 1) := by decide +kernel
theorem dX12_goesNight_57 : decode cX12_goesNight 57 = .ok (.iload_n 3, 1) := by decide +kernel
theorem dX12_goesNight_58 : decode cX12_goesNight 58 = .ok (.aload_n 0, 1) := by decide +kernel
theorem dX12_goesNight_59 : decode cX12_goesNight 59 = .ok (.getfield 243, 3) := by decide +kernel
theorem dX12_goesNight_62 : decode cX12_goesNight 62 = .ok (.aload_n 0, 1) := by decide +kernel
theorem dX12_goesNight_63 : decode cX12_goesNight 63 = .ok (.getfield 177, 3) := by decide +kernel
theorem dX12_goesNight_66 : decode cX12_goesNight 66 = .ok (.bipush 6, 2) := by decide +kernel
theorem dX12_goesNight_68 : decode cX12_goesNight 68 = .ok (.iload_n 1, 1) := by decide +kernel
theorem dX12_goesNight_69 : decode cX12_goesNight 69 = .ok (.imul, 1) := by decide +kernel
theorem dX12_goesNight_70 : decode cX12_goesNight 70 = .ok (.iload_n 3, 1) := by decide +kernel
theorem dX12_goesNight_71 : decode cX12_goesNight 71 = .ok (.iadd, 1) := by decide +kernel
theorem dX12_goesNight_72 : decode cX12_goesNight 72 = .ok (.iaload, 1) := by decide +kernel
theorem dX12_goesNight_73 : decode cX12_goesNight 73 = .ok (.iaload, 1) := by decide +kernel
theorem dX12_goesNight_74 : decode cX12_goesNight 74 = .ok (.invokevirtual 544, 3) := by decide +kernel
theorem dX12_goesNight_77 : decode cX12_goesNight 77 = .ok (.iinc 3 1, 3) := by decide +kernel
theorem dX12_goesNight_80 : decode cX12_goesNight 80 = .ok (.goto (-38), 3) := by decide +kernel
theorem dX12_goesNight_83 : decode cX12_goesNight 83 = .ok (.iconst 0, 1) := by decide +kernel
theorem dX12_goesNight_84 : decode cX12_goesNight 84 = .ok (.istore_n 3, 1) := by decide +kernel
theorem dX12_goesNight_85 : decode cX12_goesNight 85 = .ok (.iload_n 3, 1) := by decide +kernel
theorem dX12_goesNight_86 : decode cX12_goesNight 86 = .ok (.aload_n 0, 1) := by decide +kernel
theorem dX12_goesNight_87 : decode cX12_goesNight 87 = .ok (.getfield 84, 3) := by decide +kernel
theorem dX12_goesNight_90 : decode cX12_goesNight 90 = .ok (.aload_n 0, 1) := by decide +kernel
theorem dX12_goesNight_91 : decode cX12_goesNight 91 = .ok (.getfield 51, 3) := by decide +kernel
theorem dX12_goesNight_94 : decode cX12_goesNight 94 = .ok (.iaload, 1) := by decide +kernel
theorem dX12_goesNight_95 : decode cX12_goesNight 95 = .ok (.if_icmp .ge 89, 3) := by decide +kernel
theorem dX12_goesNight_98 : decode cX12_goesNight 98 = .ok (.iconst 0, 1) := by decide +kernel
theorem dX12_goesNight_99 : decode cX12_goesNight 99 = .ok (.istore 4, 2) := by decide +kernel
theorem dX12_goesNight_101 : decode cX12_goesNight 101 = .ok (.iconst 0, 1) := by decide +kernel
theorem dX12_goesNight_102 : decode cX12_goesNight 102 = .ok (.istore 5, 2) := by decide +kernel
theorem dX12_goesNight_104 : decode cX12_goesNight 104 = .ok (.iload 5, 2) := by decide +kernel
theorem dX12_goesNight_106 : decode cX12_goesNight 106 = .ok (.aload_n 0, 1) := by decide +kernel
theorem dX12_goesNight_107 : decode cX12_goesNight 107 = .ok (.getfield 75, 3) := by decide +kernel
theorem dX12_goesNight_110 : decode cX12_goesNight 110 = .ok (.aload_n 0, 1) := by decide +kernel
theorem dX12_goesNight_111 : decode cX12_goesNight 111 = .ok (.getfield 51, 3) := by decide +kernel
theorem dX12_goesNight_114 : decode cX12_goesNight 114 = .ok (.iaload, 1) := by decide +kernel
theorem dX12_goesNight_115 : decode cX12_goesNight 115 = .ok (.if_icmp .ge 51, 3) := by decide +kernel
theorem dX12_goesNight_118 : decode cX12_goesNight 118 = .ok (.aload_n 0, 1) := by decide +kernel
theorem dX12_goesNight_119 : decode cX12_goesNight 119 = .ok (.getfield 177, 3) := by decide +kernel
theorem dX12_goesNight_122 : decode cX12_goesNight 122 = .ok (.bipush 6, 2) := by decide +kernel
theorem dX12_goesNight_124 : decode cX12_goesNight 124 = .ok (.iload_n 1, 1) := by decide +kernel
theorem dX12_goesNight_125 : decode cX12_goesNight 125 = .ok (.imul, 1) := by decide +kernel
theorem dX12_goesNight_126 : decode cX12_goesNight 126 = .ok (.iload 5, 2) := by decide +kernel
theorem dX12_goesNight_128 : decode cX12_goesNight 128 = .ok (.iadd, 1) := by decide +kernel
theorem dX12_goesNight_129 : decode cX12_goesNight 129 = .ok (.iaload, 1) := by decide +kernel
theorem dX12_goesNight_130 : decode cX12_goesNight 130 = .ok (.iload_n 3, 1) := by decide +kernel
theorem dX12_goesNight_131 : decode cX12_goesNight 131 = .ok (.if_icmp .ne 25, 3) := by decide +kernel
theorem dX12_goesNight_134 : decode cX12_goesNight 134 = .ok (.aload_n 0, 1) := by decide +kernel
theorem dX12_goesNight_135 : decode cX12_goesNight 135 = .ok (.getfield 237, 3) := by decide +kernel
theorem dX12_goesNight_138 : decode cX12_goesNight 138 = .ok (.iload 5, 2) := by decide +kernel
theorem dX12_goesNight_140 : decode cX12_goesNight 140 = .ok (.iaload, 1) := by decide +kernel
theorem dX12_goesNight_141 : decode cX12_goesNight 141 = .ok (.iload 4, 2) := by decide +kernel
theorem dX12_goesNight_143 : decode cX12_goesNight 143 = .ok (.if_icmp .le 13, 3) := by decide +kernel
theorem dX12_goesNight_146 : decode cX12_goesNight 146 = .ok (.aload_n 0, 1) := by decide +kernel
theorem dX12_goesNight_147 : decode cX12_goesNight 147 = .ok (.getfield 237, 3) := by decide +kernel
theorem dX12_goesNight_150 : decode cX12_goesNight 150 = .ok (.iload 5, 2) := by decide +kernel
theorem dX12_goesNight_152 : decode cX12_goesNight 152 = .ok (.iaload, 1) := by decide +kernel
theorem dX12_goesNight_153 : decode cX12_goesNight 153 = .ok (.goto 5, 3) := by decide +kernel
theorem dX12_goesNight_156 : decode cX12_goesNight 156 = .ok (.iload 4, 2) := by decide +kernel
theorem dX12_goesNight_158 : decode cX12_goesNight 158 = .ok (.istore 4, 2) := by decide +kernel
theorem dX12_goesNight_160 : decode cX12_goesNight 160 = .ok (.iinc 5 1, 3) := by decide +kernel
theorem dX12_goesNight_163 : decode cX12_goesNight 163 = .ok (.goto (-59), 3) := by decide +kernel
theorem dX12_goesNight_166 : decode cX12_goesNight 166 = .ok (.iload_n 2, 1) := by decide +kernel
theorem dX12_goesNight_167 : decode cX12_goesNight 167 = .ok (.aload_n 0, 1) := by decide +kernel
theorem dX12_goesNight_168 : decode cX12_goesNight 168 = .ok (.getfield 243, 3) := by decide +kernel
theorem dX12_goesNight_171 : decode cX12_goesNight 171 = .ok (.iload_n 3, 1) := by decide +kernel
theorem dX12_goesNight_172 : decode cX12_goesNight 172 = .ok (.iaload, 1) := by decide +kernel
theorem dX12_goesNight_173 : decode cX12_goesNight 173 = .ok (.iload 4, 2) := by decide +kernel
theorem dX12_goesNight_175 : decode cX12_goesNight 175 = .ok (.isub, 1) := by decide +kernel
theorem dX12_goesNight_176 : decode cX12_goesNight 176 = .ok (.iadd, 1) := by decide +kernel
theorem dX12_goesNight_177 : decode cX12_goesNight 177 = .ok (.istore_n 2, 1) := by decide +kernel
theorem dX12_goesNight_178 : decode cX12_goesNight 178 = .ok (.iinc 3 1, 3) := by decide +kernel
theorem dX12_goesNight_181 : decode cX12_goesNight 181 = .ok (.goto (-96), 3) := by decide +kernel
theorem dX12_goesNight_184 : decode cX12_goesNight 184 = .ok (.iload_n 2, 1) := by decide +kernel
theorem dX12_goesNight_185 : decode cX12_goesNight 185 = .ok (.ireturn, 1) := by decide +kernel
theorem dX12_triesNight_0 : decode cX12_triesNight 0 = .ok (.aload_n 0, 1) := by decide +kernel
theorem dX12_triesNight_1 : decode cX12_triesNight 1 = .ok (.iconst 1, 1) := by decide +kernel
theorem dX12_triesNight_2 : decode cX12_triesNight 2 = .ok (.iconst 0, 1) := by decide +kernel
theorem dX12_triesNight_3 : decode cX12_triesNight 3 = .ok (.invokevirtual 479, 3) := by decide +kernel
theorem dX12_triesNight_6 : decode cX12_triesNight 6 = .ok (.aload_n 0, 1) := by decide +kernel
theorem dX12_triesNight_7 : decode cX12_triesNight 7 = .ok (.iconst 1, 1) := by decide +kernel
theorem dX12_triesNight_8 : decode cX12_triesNight 8 = .ok (.invokevirtual 547, 3) := by decide +kernel
theorem dX12_triesNight_11 : decode cX12_triesNight 11 = .ok (.ireturn, 1) := by decide +kernel
theorem dX12_has__0 : decode cX12_has_ 0 = .ok (.iconst 0, 1) := by decide +kernel
theorem dX12_has__1 : decode cX12_has_ 1 = .ok (.istore_n 2, 1) := by decide +kernel
theorem dX12_has__2 : decode cX12_has_ 2 = .ok (.iload_n 1, 1) := by decide +kernel
theorem dX12_has__3 : decode cX12_has_ 3 = .ok (.tableswitch 188 0 11 #[61, 71, 81, 91, 101, 111, 121, 128, 135, 142, 177, 182], 61) := by decide +kernel
theorem dX12_has__64 : decode cX12_has_ 64 = .ok (.aload_n 0, 1) := by decide +kernel
theorem dX12_has__65 : decode cX12_has_ 65 = .ok (.getfield 54, 3) := by decide +kernel
theorem dX12_has__68 : decode cX12_has_ 68 = .ok (.aload_n 0, 1) := by decide +kernel
theorem dX12_has__69 : decode cX12_has_ 69 = .ok (.getfield 51, 3) := by decide +kernel
theorem dX12_has__72 : decode cX12_has_ 72 = .ok (.iaload, 1) := by decide +kernel
theorem dX12_has__73 : decode cX12_has_ 73 = .ok (.ireturn, 1) := by decide +kernel
theorem dX12_has__74 : decode cX12_has_ 74 = .ok (.aload_n 0, 1) := by decide +kernel
theorem dX12_has__75 : decode cX12_has_ 75 = .ok (.getfield 57, 3) := by decide +kernel
theorem dX12_has__78 : decode cX12_has_ 78 = .ok (.aload_n 0, 1) := by decide +kernel
theorem dX12_has__79 : decode cX12_has_ 79 = .ok (.getfield 51, 3) := by decide +kernel
theorem dX12_has__82 : decode cX12_has_ 82 = .ok (.iaload, 1) := by decide +kernel
theorem dX12_has__83 : decode cX12_has_ 83 = .ok (.ireturn, 1) := by decide +kernel
theorem dX12_has__84 : decode cX12_has_ 84 = .ok (.aload_n 0, 1) := by decide +kernel
theorem dX12_has__85 : decode cX12_has_ 85 = .ok (.getfield 72, 3) := by decide +kernel
theorem dX12_has__88 : decode cX12_has_ 88 = .ok (.aload_n 0, 1) := by decide +kernel
theorem dX12_has__89 : decode cX12_has_ 89 = .ok (.getfield 51, 3) := by decide +kernel
theorem dX12_has__92 : decode cX12_has_ 92 = .ok (.iaload, 1) := by decide +kernel
theorem dX12_has__93 : decode cX12_has_ 93 = .ok (.ireturn, 1) := by decide +kernel
theorem dX12_has__94 : decode cX12_has_ 94 = .ok (.aload_n 0, 1) := by decide +kernel
theorem dX12_has__95 : decode cX12_has_ 95 = .ok (.getfield 75, 3) := by decide +kernel
theorem dX12_has__98 : decode cX12_has_ 98 = .ok (.aload_n 0, 1) := by decide +kernel
theorem dX12_has__99 : decode cX12_has_ 99 = .ok (.getfield 51, 3) := by decide +kernel
theorem dX12_has__102 : decode cX12_has_ 102 = .ok (.iaload, 1) := by decide +kernel
theorem dX12_has__103 : decode cX12_has_ 103 = .ok (.ireturn, 1) := by decide +kernel
theorem dX12_has__104 : decode cX12_has_ 104 = .ok (.aload_n 0, 1) := by decide +kernel
theorem dX12_has__105 : decode cX12_has_ 105 = .ok (.getfield 84, 3) := by decide +kernel
theorem dX12_has__108 : decode cX12_has_ 108 = .ok (.aload_n 0, 1) := by decide +kernel
theorem dX12_has__109 : decode cX12_has_ 109 = .ok (.getfield 51, 3) := by decide +kernel
theorem dX12_has__112 : decode cX12_has_ 112 = .ok (.iaload, 1) := by decide +kernel
theorem dX12_has__113 : decode cX12_has_ 113 = .ok (.ireturn, 1) := by decide +kernel
theorem dX12_has__114 : decode cX12_has_ 114 = .ok (.aload_n 0, 1) := by decide +kernel
theorem dX12_has__115 : decode cX12_has_ 115 = .ok (.getfield 90, 3) := by decide +kernel
theorem dX12_has__118 : decode cX12_has_ 118 = .ok (.aload_n 0, 1) := by decide +kernel
theorem dX12_has__119 : decode cX12_has_ 119 = .ok (.getfield 51, 3) := by decide +kernel
theorem dX12_has__122 : decode cX12_has_ 122 = .ok (.iaload, 1) := by decide +kernel
theorem dX12_has__123 : decode cX12_has_ 123 = .ok (.ireturn, 1) := by decide +kernel
theorem dX12_has__124 : decode cX12_has_ 124 = .ok (.aload_n 0, 1) := by decide +kernel
theorem dX12_has__125 : decode cX12_has_ 125 = .ok (.getfield 171, 3) := by decide +kernel
theorem dX12_has__128 : decode cX12_has_ 128 = .ok (.iconst 0, 1) := by decide +kernel
theorem dX12_has__129 : decode cX12_has_ 129 = .ok (.iaload, 1) := by decide +kernel
theorem dX12_has__130 : decode cX12_has_ 130 = .ok (.ireturn, 1) := by decide +kernel
theorem dX12_has__131 : decode cX12_has_ 131 = .ok (.aload_n 0, 1) := by decide +kernel
theorem dX12_has__132 : decode cX12_has_ 132 = .ok (.getfield 174, 3) := by decide +kernel
theorem dX12_has__135 : decode cX12_has_ 135 = .ok (.iconst 0, 1) := by decide +kernel
theorem dX12_has__136 : decode cX12_has_ 136 = .ok (.iaload, 1) := by decide +kernel
theorem dX12_has__137 : decode cX12_has_ 137 = .ok (.ireturn, 1) := by decide +kernel
theorem dX12_has__138 : decode cX12_has_ 138 = .ok (.aload_n 0, 1) := by decide +kernel
theorem dX12_has__139 : decode cX12_has_ 139 = .ok (.getfield 198, 3) := by decide +kernel
theorem dX12_has__142 : decode cX12_has_ 142 = .ok (.iconst 0, 1) := by decide +kernel
theorem dX12_has__143 : decode cX12_has_ 143 = .ok (.iaload, 1) := by decide +kernel
theorem dX12_has__144 : decode cX12_has_ 144 = .ok (.ireturn, 1) := by decide +kernel
theorem dX12_has__145 : decode cX12_has_ 145 = .ok (.iconst 0, 1) := by decide +kernel
theorem dX12_has__146 : decode cX12_has_ 146 = .ok (.istore_n 3, 1) := by decide +kernel
theorem dX12_has__147 : decode cX12_has_ 147 = .ok (.iload_n 3, 1) := by decide +kernel
theorem dX12_has__148 : decode cX12_has_ 148 = .ok (.aload_n 0, 1) := by decide +kernel
theorem dX12_has__149 : decode cX12_has_ 149 = .ok (.getfield 75, 3) := by decide +kernel
theorem dX12_has__152 : decode cX12_has_ 152 = .ok (.aload_n 0, 1) := by decide +kernel
theorem dX12_has__153 : decode cX12_has_ 153 = .ok (.getfield 51, 3) := by decide +kernel
theorem dX12_has__156 : decode cX12_has_ 156 = .ok (.iaload, 1) := by decide +kernel
theorem dX12_has__157 : decode cX12_has_ 157 = .ok (.if_icmp .ge 21, 3) := by decide +kernel
theorem dX12_has__160 : decode cX12_has_ 160 = .ok (.iload_n 2, 1) := by decide +kernel
theorem dX12_has__161 : decode cX12_has_ 161 = .ok (.aload_n 0, 1) := by decide +kernel
theorem dX12_has__162 : decode cX12_has_ 162 = .ok (.iconst 0, 1) := by decide +kernel
theorem dX12_has__163 : decode cX12_has_ 163 = .ok (.iload_n 3, 1) := by decide +kernel
theorem dX12_has__164 : decode cX12_has_ 164 = .ok (.invokevirtual 473, 3) := by decide +kernel
theorem dX12_has__167 : decode cX12_has_ 167 = .ok (.invokestatic 482, 3) := by decide +kernel
theorem dX12_has__170 : decode cX12_has_ 170 = .ok (.iadd, 1) := by decide +kernel
theorem dX12_has__171 : decode cX12_has_ 171 = .ok (.istore_n 2, 1) := by decide +kernel
theorem dX12_has__172 : decode cX12_has_ 172 = .ok (.iinc 3 1, 3) := by decide +kernel
theorem dX12_has__175 : decode cX12_has_ 175 = .ok (.goto (-28), 3) := by decide +kernel
theorem dX12_has__178 : decode cX12_has_ 178 = .ok (.iload_n 2, 1) := by decide +kernel
theorem dX12_has__179 : decode cX12_has_ 179 = .ok (.ireturn, 1) := by decide +kernel
theorem dX12_has__180 : decode cX12_has_ 180 = .ok (.aload_n 0, 1) := by decide +kernel
theorem dX12_has__181 : decode cX12_has_ 181 = .ok (.getfield 213, 3) := by decide +kernel
theorem dX12_has__184 : decode cX12_has_ 184 = .ok (.ireturn, 1) := by decide +kernel
theorem dX12_has__185 : decode cX12_has_ 185 = .ok (.aload_n 0, 1) := by decide +kernel
theorem dX12_has__186 : decode cX12_has_ 186 = .ok (.getfield 216, 3) := by decide +kernel
theorem dX12_has__189 : decode cX12_has_ 189 = .ok (.l2i, 1) := by decide +kernel
theorem dX12_has__190 : decode cX12_has_ 190 = .ok (.ireturn, 1) := by decide +kernel
theorem dX12_has__191 : decode cX12_has_ 191 = .ok (.iconst (-1), 1) := by decide +kernel
theorem dX12_has__192 : decode cX12_has_ 192 = .ok (.ireturn, 1) := by decide +kernel
theorem dX12_letter_0 : decode cX12_letter 0 = .ok (.iload_n 1, 1) := by decide +kernel
theorem dX12_letter_1 : decode cX12_letter 1 = .ok (.iconst 0, 1) := by decide +kernel
theorem dX12_letter_2 : decode cX12_letter 2 = .ok (.iconst 3, 1) := by decide +kernel
theorem dX12_letter_3 : decode cX12_letter 3 = .ok (.invokestatic 369, 3) := by decide +kernel
theorem dX12_letter_6 : decode cX12_letter 6 = .ok (.ifCond .eq 31, 3) := by decide +kernel
theorem dX12_letter_9 : decode cX12_letter 9 = .ok (.iload_n 2, 1) := by decide +kernel
theorem dX12_letter_10 : decode cX12_letter 10 = .ok (.iconst 0, 1) := by decide +kernel
theorem dX12_letter_11 : decode cX12_letter 11 = .ok (.aload_n 0, 1) := by decide +kernel
theorem dX12_letter_12 : decode cX12_letter 12 = .ok (.aload_n 0, 1) := by decide +kernel
theorem dX12_letter_13 : decode cX12_letter 13 = .ok (.getfield 51, 3) := by decide +kernel
theorem dX12_letter_16 : decode cX12_letter 16 = .ok (.iload_n 1, 1) := by decide +kernel
theorem dX12_letter_17 : decode cX12_letter 17 = .ok (.invokevirtual 361, 3) := by decide +kernel
theorem dX12_letter_20 : decode cX12_letter 20 = .ok (.iconst 1, 1) := by decide +kernel
theorem dX12_letter_21 : decode cX12_letter 21 = .ok (.isub, 1) := by decide +kernel
theorem dX12_letter_22 : decode cX12_letter 22 = .ok (.invokestatic 369, 3) := by decide +kernel
theorem dX12_letter_25 : decode cX12_letter 25 = .ok (.ifCond .eq 12, 3) := by decide +kernel
theorem dX12_letter_28 : decode cX12_letter 28 = .ok (.iload_n 3, 1) := by decide +kernel
theorem dX12_letter_29 : decode cX12_letter 29 = .ok (.iconst 0, 1) := by decide +kernel
theorem dX12_letter_30 : decode cX12_letter 30 = .ok (.iconst 5, 1) := by decide +kernel
theorem dX12_letter_31 : decode cX12_letter 31 = .ok (.invokestatic 369, 3) := by decide +kernel
theorem dX12_letter_34 : decode cX12_letter 34 = .ok (.ifCond .ne 5, 3) := by decide +kernel
theorem dX12_letter_37 : decode cX12_letter 37 = .ok (.iconst (-1), 1) := by decide +kernel
theorem dX12_letter_38 : decode cX12_letter 38 = .ok (.ireturn, 1) := by decide +kernel
theorem dX12_letter_39 : decode cX12_letter 39 = .ok (.aload_n 0, 1) := by decide +kernel
theorem dX12_letter_40 : decode cX12_letter 40 = .ok (.aload_n 0, 1) := by decide +kernel
theorem dX12_letter_41 : decode cX12_letter 41 = .ok (.getfield 51, 3) := by decide +kernel
theorem dX12_letter_44 : decode cX12_letter 44 = .ok (.iload_n 1, 1) := by decide +kernel
theorem dX12_letter_45 : decode cX12_letter 45 = .ok (.iload_n 2, 1) := by decide +kernel
theorem dX12_letter_46 : decode cX12_letter 46 = .ok (.invokevirtual 365, 3) := by decide +kernel
theorem dX12_letter_49 : decode cX12_letter 49 = .ok (.lstore 4, 2) := by decide +kernel
theorem dX12_letter_51 : decode cX12_letter 51 = .ok (.iconst 0, 1) := by decide +kernel
theorem dX12_letter_52 : decode cX12_letter 52 = .ok (.istore 6, 2) := by decide +kernel
theorem dX12_letter_54 : decode cX12_letter 54 = .ok (.lload 4, 2) := by decide +kernel
theorem dX12_letter_56 : decode cX12_letter 56 = .ok (.lstore 7, 2) := by decide +kernel
theorem dX12_letter_58 : decode cX12_letter 58 = .ok (.lload 7, 2) := by decide +kernel
theorem dX12_letter_60 : decode cX12_letter 60 = .ok (.lconst 0, 1) := by decide +kernel
theorem dX12_letter_61 : decode cX12_letter 61 = .ok (.lcmp, 1) := by decide +kernel
theorem dX12_letter_62 : decode cX12_letter 62 = .ok (.ifCond .le 16, 3) := by decide +kernel
theorem dX12_letter_65 : decode cX12_letter 65 = .ok (.iinc 6 1, 3) := by decide +kernel
theorem dX12_letter_68 : decode cX12_letter 68 = .ok (.lload 7, 2) := by decide +kernel
theorem dX12_letter_70 : decode cX12_letter 70 = .ok (.bipush 8, 2) := by decide +kernel
theorem dX12_letter_72 : decode cX12_letter 72 = .ok (.lshr, 1) := by decide +kernel
theorem dX12_letter_73 : decode cX12_letter 73 = .ok (.lstore 7, 2) := by decide +kernel
theorem dX12_letter_75 : decode cX12_letter 75 = .ok (.goto (-17), 3) := by decide +kernel
theorem dX12_letter_78 : decode cX12_letter 78 = .ok (.iload_n 3, 1) := by decide +kernel
theorem dX12_letter_79 : decode cX12_letter 79 = .ok (.iload 6, 2) := by decide +kernel
theorem dX12_letter_81 : decode cX12_letter 81 = .ok (.if_icmp .lt 7, 3) := by decide +kernel
theorem dX12_letter_84 : decode cX12_letter 84 = .ok (.iconst 0, 1) := by decide +kernel
theorem dX12_letter_85 : decode cX12_letter 85 = .ok (.goto 25, 3) := by decide +kernel
theorem dX12_letter_88 : decode cX12_letter 88 = .ok (.lload 4, 2) := by decide +kernel
theorem dX12_letter_90 : decode cX12_letter 90 = .ok (.bipush 8, 2) := by decide +kernel
theorem dX12_letter_92 : decode cX12_letter 92 = .ok (.iload 6, 2) := by decide +kernel
theorem dX12_letter_94 : decode cX12_letter 94 = .ok (.iconst 1, 1) := by decide +kernel
theorem dX12_letter_95 : decode cX12_letter 95 = .ok (.isub, 1) := by decide +kernel
theorem dX12_letter_96 : decode cX12_letter 96 = .ok (.iload_n 3, 1) := by decide +kernel
theorem dX12_letter_97 : decode cX12_letter 97 = .ok (.isub, 1) := by decide +kernel
theorem dX12_letter_98 : decode cX12_letter 98 = .ok (.imul, 1) := by decide +kernel
theorem dX12_letter_99 : decode cX12_letter 99 = .ok (.lshr, 1) := by decide +kernel
theorem dX12_letter_100 : decode cX12_letter 100 = .ok (.ldc2_w 550, 3) := by decide +kernel
theorem dX12_letter_103 : decode cX12_letter 103 = .ok (.land, 1) := by decide +kernel
theorem dX12_letter_104 : decode cX12_letter 104 = .ok (.l2i, 1) := by decide +kernel
theorem dX12_letter_105 : decode cX12_letter 105 = .ok (.bipush 97, 2) := by decide +kernel
theorem dX12_letter_107 : decode cX12_letter 107 = .ok (.isub, 1) := by decide +kernel
theorem dX12_letter_108 : decode cX12_letter 108 = .ok (.iconst 1, 1) := by decide +kernel
theorem dX12_letter_109 : decode cX12_letter 109 = .ok (.iadd, 1) := by decide +kernel
theorem dX12_letter_110 : decode cX12_letter 110 = .ok (.ireturn, 1) := by decide +kernel
theorem dX12_closed_0 : decode cX12_closed 0 = .ok (.iload_n 1, 1) := by decide +kernel
theorem dX12_closed_1 : decode cX12_closed 1 = .ok (.iload_n 2, 1) := by decide +kernel
theorem dX12_closed_2 : decode cX12_closed 2 = .ok (.iconst (-1), 1) := by decide +kernel
theorem dX12_closed_3 : decode cX12_closed 3 = .ok (.ixor, 1) := by decide +kernel
theorem dX12_closed_4 : decode cX12_closed 4 = .ok (.iand, 1) := by decide +kernel
theorem dX12_closed_5 : decode cX12_closed 5 = .ok (.istore 4, 2) := by decide +kernel
theorem dX12_closed_7 : decode cX12_closed 7 = .ok (.aload_n 0, 1) := by decide +kernel
theorem dX12_closed_8 : decode cX12_closed 8 = .ok (.getfield 57, 3) := by decide +kernel
theorem dX12_closed_11 : decode cX12_closed 11 = .ok (.aload_n 0, 1) := by decide +kernel
theorem dX12_closed_12 : decode cX12_closed 12 = .ok (.getfield 51, 3) := by decide +kernel
theorem dX12_closed_15 : decode cX12_closed 15 = .ok (.iaload, 1) := by decide +kernel
theorem dX12_closed_16 : decode cX12_closed 16 = .ok (.iconst 1, 1) := by decide +kernel
theorem dX12_closed_17 : decode cX12_closed 17 = .ok (.isub, 1) := by decide +kernel
theorem dX12_closed_18 : decode cX12_closed 18 = .ok (.istore 5, 2) := by decide +kernel
theorem dX12_closed_20 : decode cX12_closed 20 = .ok (.iload 5, 2) := by decide +kernel
theorem dX12_closed_22 : decode cX12_closed 22 = .ok (.ifCond .lt 49, 3) := by decide +kernel
theorem dX12_closed_25 : decode cX12_closed 25 = .ok (.iload 4, 2) := by decide +kernel
theorem dX12_closed_27 : decode cX12_closed 27 = .ok (.iload 5, 2) := by decide +kernel
theorem dX12_closed_29 : decode cX12_closed 29 = .ok (.invokestatic 552, 3) := by decide +kernel
theorem dX12_closed_32 : decode cX12_closed 32 = .ok (.ifCond .eq 33, 3) := by decide +kernel
theorem dX12_closed_35 : decode cX12_closed 35 = .ok (.iload 4, 2) := by decide +kernel
theorem dX12_closed_37 : decode cX12_closed 37 = .ok (.aload_n 0, 1) := by decide +kernel
theorem dX12_closed_38 : decode cX12_closed 38 = .ok (.iload 5, 2) := by decide +kernel
theorem dX12_closed_40 : decode cX12_closed 40 = .ok (.invokevirtual 470, 3) := by decide +kernel
theorem dX12_closed_43 : decode cX12_closed 43 = .ok (.iload_n 2, 1) := by decide +kernel
theorem dX12_closed_44 : decode cX12_closed 44 = .ok (.iconst (-1), 1) := by decide +kernel
theorem dX12_closed_45 : decode cX12_closed 45 = .ok (.ixor, 1) := by decide +kernel
theorem dX12_closed_46 : decode cX12_closed 46 = .ok (.iand, 1) := by decide +kernel
theorem dX12_closed_47 : decode cX12_closed 47 = .ok (.iload_n 3, 1) := by decide +kernel
theorem dX12_closed_48 : decode cX12_closed 48 = .ok (.iconst (-1), 1) := by decide +kernel
theorem dX12_closed_49 : decode cX12_closed 49 = .ok (.if_icmp .ne 7, 3) := by decide +kernel
theorem dX12_closed_52 : decode cX12_closed 52 = .ok (.iconst 0, 1) := by decide +kernel
theorem dX12_closed_53 : decode cX12_closed 53 = .ok (.goto 6, 3) := by decide +kernel
theorem dX12_closed_56 : decode cX12_closed 56 = .ok (.iconst 1, 1) := by decide +kernel
theorem dX12_closed_57 : decode cX12_closed 57 = .ok (.iload_n 3, 1) := by decide +kernel
theorem dX12_closed_58 : decode cX12_closed 58 = .ok (.ishl, 1) := by decide +kernel
theorem dX12_closed_59 : decode cX12_closed 59 = .ok (.iconst (-1), 1) := by decide +kernel
theorem dX12_closed_60 : decode cX12_closed 60 = .ok (.ixor, 1) := by decide +kernel
theorem dX12_closed_61 : decode cX12_closed 61 = .ok (.iand, 1) := by decide +kernel
theorem dX12_closed_62 : decode cX12_closed 62 = .ok (.ior, 1) := by decide +kernel
theorem dX12_closed_63 : decode cX12_closed 63 = .ok (.istore 4, 2) := by decide +kernel
theorem dX12_closed_65 : decode cX12_closed 65 = .ok (.iinc 5 (-1), 3) := by decide +kernel
theorem dX12_closed_68 : decode cX12_closed 68 = .ok (.goto (-48), 3) := by decide +kernel
theorem dX12_closed_71 : decode cX12_closed 71 = .ok (.iload 4, 2) := by decide +kernel
theorem dX12_closed_73 : decode cX12_closed 73 = .ok (.ireturn, 1) := by decide +kernel
theorem dX12_page_0 : decode cX12_page 0 = .ok (.aload_n 0, 1) := by decide +kernel
theorem dX12_page_1 : decode cX12_page 1 = .ok (.iload_n 1, 1) := by decide +kernel
theorem dX12_page_2 : decode cX12_page 2 = .ok (.invokevirtual 556, 3) := by decide +kernel
theorem dX12_page_5 : decode cX12_page 5 = .ok (.ifCond .ne 5, 3) := by decide +kernel
theorem dX12_page_8 : decode cX12_page 8 = .ok (.iconst (-1), 1) := by decide +kernel
theorem dX12_page_9 : decode cX12_page 9 = .ok (.ireturn, 1) := by decide +kernel
theorem dX12_page_10 : decode cX12_page 10 = .ok (.iconst 0, 1) := by decide +kernel
theorem dX12_page_11 : decode cX12_page 11 = .ok (.istore_n 3, 1) := by decide +kernel
theorem dX12_page_12 : decode cX12_page 12 = .ok (.iload_n 2, 1) := by decide +kernel
theorem dX12_page_13 : decode cX12_page 13 = .ok (.tableswitch 153 0 5 #[39, 54, 69, 84, 90, 106], 39) := by decide +kernel
theorem dX12_page_52 : decode cX12_page 52 = .ok (.aload_n 0, 1) := by decide +kernel
theorem dX12_page_53 : decode cX12_page 53 = .ok (.getfield 60, 3) := by decide +kernel
theorem dX12_page_56 : decode cX12_page 56 = .ok (.bipush 14, 2) := by decide +kernel
theorem dX12_page_58 : decode cX12_page 58 = .ok (.aload_n 0, 1) := by decide +kernel
theorem dX12_page_59 : decode cX12_page 59 = .ok (.getfield 51, 3) := by decide +kernel
theorem dX12_page_62 : decode cX12_page 62 = .ok (.imul, 1) := by decide +kernel
theorem dX12_page_63 : decode cX12_page 63 = .ok (.iload_n 1, 1) := by decide +kernel
theorem dX12_page_64 : decode cX12_page 64 = .ok (.iadd, 1) := by decide +kernel
theorem dX12_page_65 : decode cX12_page 65 = .ok (.iaload, 1) := by decide +kernel
theorem dX12_page_66 : decode cX12_page 66 = .ok (.ireturn, 1) := by decide +kernel
theorem dX12_page_67 : decode cX12_page 67 = .ok (.aload_n 0, 1) := by decide +kernel
theorem dX12_page_68 : decode cX12_page 68 = .ok (.getfield 63, 3) := by decide +kernel
theorem dX12_page_71 : decode cX12_page 71 = .ok (.bipush 14, 2) := by decide +kernel
theorem dX12_page_73 : decode cX12_page 73 = .ok (.aload_n 0, 1) := by decide +kernel
theorem dX12_page_74 : decode cX12_page 74 = .ok (.getfield 51, 3) := by decide +kernel
theorem dX12_page_77 : decode cX12_page 77 = .ok (.imul, 1) := by decide +kernel
theorem dX12_page_78 : decode cX12_page 78 = .ok (.iload_n 1, 1) := by decide +kernel
theorem dX12_page_79 : decode cX12_page 79 = .ok (.iadd, 1) := by decide +kernel
theorem dX12_page_80 : decode cX12_page 80 = .ok (.iaload, 1) := by decide +kernel
theorem dX12_page_81 : decode cX12_page 81 = .ok (.ireturn, 1) := by decide +kernel
theorem dX12_page_82 : decode cX12_page 82 = .ok (.aload_n 0, 1) := by decide +kernel
theorem dX12_page_83 : decode cX12_page 83 = .ok (.getfield 66, 3) := by decide +kernel
theorem dX12_page_86 : decode cX12_page 86 = .ok (.bipush 14, 2) := by decide +kernel
theorem dX12_page_88 : decode cX12_page 88 = .ok (.aload_n 0, 1) := by decide +kernel
theorem dX12_page_89 : decode cX12_page 89 = .ok (.getfield 51, 3) := by decide +kernel
theorem dX12_page_92 : decode cX12_page 92 = .ok (.imul, 1) := by decide +kernel
theorem dX12_page_93 : decode cX12_page 93 = .ok (.iload_n 1, 1) := by decide +kernel
theorem dX12_page_94 : decode cX12_page 94 = .ok (.iadd, 1) := by decide +kernel
theorem dX12_page_95 : decode cX12_page 95 = .ok (.iaload, 1) := by decide +kernel
theorem dX12_page_96 : decode cX12_page 96 = .ok (.ireturn, 1) := by decide +kernel
theorem dX12_page_97 : decode cX12_page 97 = .ok (.aload_n 0, 1) := by decide +kernel
theorem dX12_page_98 : decode cX12_page 98 = .ok (.iload_n 1, 1) := by decide +kernel
theorem dX12_page_99 : decode cX12_page 99 = .ok (.invokevirtual 470, 3) := by decide +kernel
theorem dX12_page_102 : decode cX12_page 102 = .ok (.ireturn, 1) := by decide +kernel
theorem dX12_page_103 : decode cX12_page 103 = .ok (.aload_n 0, 1) := by decide +kernel
theorem dX12_page_104 : decode cX12_page 104 = .ok (.iconst 1, 1) := by decide +kernel
theorem dX12_page_105 : decode cX12_page 105 = .ok (.iload_n 1, 1) := by decide +kernel
theorem dX12_page_106 : decode cX12_page 106 = .ok (.ishl, 1) := by decide +kernel
theorem dX12_page_107 : decode cX12_page 107 = .ok (.iconst 0, 1) := by decide +kernel
theorem dX12_page_108 : decode cX12_page 108 = .ok (.iconst (-1), 1) := by decide +kernel
theorem dX12_page_109 : decode cX12_page 109 = .ok (.invokevirtual 559, 3) := by decide +kernel
theorem dX12_page_112 : decode cX12_page 112 = .ok (.iconst 1, 1) := by decide +kernel
theorem dX12_page_113 : decode cX12_page 113 = .ok (.iload_n 1, 1) := by decide +kernel
theorem dX12_page_114 : decode cX12_page 114 = .ok (.ishl, 1) := by decide +kernel
theorem dX12_page_115 : decode cX12_page 115 = .ok (.iconst (-1), 1) := by decide +kernel
theorem dX12_page_116 : decode cX12_page 116 = .ok (.ixor, 1) := by decide +kernel
theorem dX12_page_117 : decode cX12_page 117 = .ok (.iand, 1) := by decide +kernel
theorem dX12_page_118 : decode cX12_page 118 = .ok (.ireturn, 1) := by decide +kernel
theorem dX12_page_119 : decode cX12_page 119 = .ok (.iconst 0, 1) := by decide +kernel
theorem dX12_page_120 : decode cX12_page 120 = .ok (.istore 4, 2) := by decide +kernel
theorem dX12_page_122 : decode cX12_page 122 = .ok (.iload 4, 2) := by decide +kernel
theorem dX12_page_124 : decode cX12_page 124 = .ok (.aload_n 0, 1) := by decide +kernel
theorem dX12_page_125 : decode cX12_page 125 = .ok (.getfield 75, 3) := by decide +kernel
theorem dX12_page_128 : decode cX12_page 128 = .ok (.aload_n 0, 1) := by decide +kernel
theorem dX12_page_129 : decode cX12_page 129 = .ok (.getfield 51, 3) := by decide +kernel
theorem dX12_page_132 : decode cX12_page 132 = .ok (.iaload, 1) := by decide +kernel
theorem dX12_page_133 : decode cX12_page 133 = .ok (.if_icmp .ge 31, 3) := by decide +kernel
theorem dX12_page_136 : decode cX12_page 136 = .ok (.iload_n 3, 1) := by decide +kernel
theorem dX12_page_137 : decode cX12_page 137 = .ok (.aload_n 0, 1) := by decide +kernel
theorem dX12_page_138 : decode cX12_page 138 = .ok (.iconst 0, 1) := by decide +kernel
theorem dX12_page_139 : decode cX12_page 139 = .ok (.iload 4, 2) := by decide +kernel
theorem dX12_page_141 : decode cX12_page 141 = .ok (.invokevirtual 473, 3) := by decide +kernel
theorem dX12_page_144 : decode cX12_page 144 = .ok (.iload_n 1, 1) := by decide +kernel
theorem dX12_page_145 : decode cX12_page 145 = .ok (.invokestatic 552, 3) := by decide +kernel
theorem dX12_page_148 : decode cX12_page 148 = .ok (.ifCond .eq 7, 3) := by decide +kernel
theorem dX12_page_151 : decode cX12_page 151 = .ok (.iconst 1, 1) := by decide +kernel
theorem dX12_page_152 : decode cX12_page 152 = .ok (.goto 4, 3) := by decide +kernel
theorem dX12_page_155 : decode cX12_page 155 = .ok (.iconst 0, 1) := by decide +kernel
theorem dX12_page_156 : decode cX12_page 156 = .ok (.iadd, 1) := by decide +kernel
theorem dX12_page_157 : decode cX12_page 157 = .ok (.istore_n 3, 1) := by decide +kernel
theorem dX12_page_158 : decode cX12_page 158 = .ok (.iinc 4 1, 3) := by decide +kernel
theorem dX12_page_161 : decode cX12_page 161 = .ok (.goto (-39), 3) := by decide +kernel
theorem dX12_page_164 : decode cX12_page 164 = .ok (.iload_n 3, 1) := by decide +kernel
theorem dX12_page_165 : decode cX12_page 165 = .ok (.ireturn, 1) := by decide +kernel
theorem dX12_page_166 : decode cX12_page 166 = .ok (.iconst (-1), 1) := by decide +kernel
theorem dX12_page_167 : decode cX12_page 167 = .ok (.ireturn, 1) := by decide +kernel
theorem dX12_reader_0 : decode cX12_reader 0 = .ok (.aload_n 0, 1) := by decide +kernel
theorem dX12_reader_1 : decode cX12_reader 1 = .ok (.iload_n 1, 1) := by decide +kernel
theorem dX12_reader_2 : decode cX12_reader 2 = .ok (.invokevirtual 562, 3) := by decide +kernel
theorem dX12_reader_5 : decode cX12_reader 5 = .ok (.ifCond .ne 5, 3) := by decide +kernel
theorem dX12_reader_8 : decode cX12_reader 8 = .ok (.iconst (-1), 1) := by decide +kernel
theorem dX12_reader_9 : decode cX12_reader 9 = .ok (.ireturn, 1) := by decide +kernel
theorem dX12_reader_10 : decode cX12_reader 10 = .ok (.iload_n 2, 1) := by decide +kernel
theorem dX12_reader_11 : decode cX12_reader 11 = .ok (.tableswitch 117 0 7 #[45, 52, 67, 82, 89, 96, 103, 110], 45) := by decide +kernel
theorem dX12_reader_56 : decode cX12_reader 56 = .ok (.aload_n 0, 1) := by decide +kernel
theorem dX12_reader_57 : decode cX12_reader 57 = .ok (.getfield 177, 3) := by decide +kernel
theorem dX12_reader_60 : decode cX12_reader 60 = .ok (.iload_n 1, 1) := by decide +kernel
theorem dX12_reader_61 : decode cX12_reader 61 = .ok (.iaload, 1) := by decide +kernel
theorem dX12_reader_62 : decode cX12_reader 62 = .ok (.ireturn, 1) := by decide +kernel
theorem dX12_reader_63 : decode cX12_reader 63 = .ok (.aload_n 0, 1) := by decide +kernel
theorem dX12_reader_64 : decode cX12_reader 64 = .ok (.getfield 78, 3) := by decide +kernel
theorem dX12_reader_67 : decode cX12_reader 67 = .ok (.bipush 6, 2) := by decide +kernel
theorem dX12_reader_69 : decode cX12_reader 69 = .ok (.aload_n 0, 1) := by decide +kernel
theorem dX12_reader_70 : decode cX12_reader 70 = .ok (.getfield 51, 3) := by decide +kernel
theorem dX12_reader_73 : decode cX12_reader 73 = .ok (.imul, 1) := by decide +kernel
theorem dX12_reader_74 : decode cX12_reader 74 = .ok (.iload_n 1, 1) := by decide +kernel
theorem dX12_reader_75 : decode cX12_reader 75 = .ok (.iadd, 1) := by decide +kernel
theorem dX12_reader_76 : decode cX12_reader 76 = .ok (.iaload, 1) := by decide +kernel
theorem dX12_reader_77 : decode cX12_reader 77 = .ok (.ireturn, 1) := by decide +kernel
theorem dX12_reader_78 : decode cX12_reader 78 = .ok (.aload_n 0, 1) := by decide +kernel
theorem dX12_reader_79 : decode cX12_reader 79 = .ok (.getfield 81, 3) := by decide +kernel
theorem dX12_reader_82 : decode cX12_reader 82 = .ok (.bipush 6, 2) := by decide +kernel
theorem dX12_reader_84 : decode cX12_reader 84 = .ok (.aload_n 0, 1) := by decide +kernel
theorem dX12_reader_85 : decode cX12_reader 85 = .ok (.getfield 51, 3) := by decide +kernel
theorem dX12_reader_88 : decode cX12_reader 88 = .ok (.imul, 1) := by decide +kernel
theorem dX12_reader_89 : decode cX12_reader 89 = .ok (.iload_n 1, 1) := by decide +kernel
theorem dX12_reader_90 : decode cX12_reader 90 = .ok (.iadd, 1) := by decide +kernel
theorem dX12_reader_91 : decode cX12_reader 91 = .ok (.iaload, 1) := by decide +kernel
theorem dX12_reader_92 : decode cX12_reader 92 = .ok (.ireturn, 1) := by decide +kernel
theorem dX12_reader_93 : decode cX12_reader 93 = .ok (.aload_n 0, 1) := by decide +kernel
theorem dX12_reader_94 : decode cX12_reader 94 = .ok (.getfield 180, 3) := by decide +kernel
theorem dX12_reader_97 : decode cX12_reader 97 = .ok (.iload_n 1, 1) := by decide +kernel
theorem dX12_reader_98 : decode cX12_reader 98 = .ok (.iaload, 1) := by decide +kernel
theorem dX12_reader_99 : decode cX12_reader 99 = .ok (.ireturn, 1) := by decide +kernel
theorem dX12_reader_100 : decode cX12_reader 100 = .ok (.aload_n 0, 1) := by decide +kernel
theorem dX12_reader_101 : decode cX12_reader 101 = .ok (.getfield 183, 3) := by decide +kernel
theorem dX12_reader_104 : decode cX12_reader 104 = .ok (.iload_n 1, 1) := by decide +kernel
theorem dX12_reader_105 : decode cX12_reader 105 = .ok (.iaload, 1) := by decide +kernel
theorem dX12_reader_106 : decode cX12_reader 106 = .ok (.ireturn, 1) := by decide +kernel
theorem dX12_reader_107 : decode cX12_reader 107 = .ok (.aload_n 0, 1) := by decide +kernel
theorem dX12_reader_108 : decode cX12_reader 108 = .ok (.getfield 186, 3) := by decide +kernel
theorem dX12_reader_111 : decode cX12_reader 111 = .ok (.iload_n 1, 1) := by decide +kernel
theorem dX12_reader_112 : decode cX12_reader 112 = .ok (.iaload, 1) := by decide +kernel
theorem dX12_reader_113 : decode cX12_reader 113 = .ok (.ireturn, 1) := by decide +kernel
theorem dX12_reader_114 : decode cX12_reader 114 = .ok (.aload_n 0, 1) := by decide +kernel
theorem dX12_reader_115 : decode cX12_reader 115 = .ok (.getfield 189, 3) := by decide +kernel
theorem dX12_reader_118 : decode cX12_reader 118 = .ok (.iload_n 1, 1) := by decide +kernel
theorem dX12_reader_119 : decode cX12_reader 119 = .ok (.iaload, 1) := by decide +kernel
theorem dX12_reader_120 : decode cX12_reader 120 = .ok (.ireturn, 1) := by decide +kernel
theorem dX12_reader_121 : decode cX12_reader 121 = .ok (.aload_n 0, 1) := by decide +kernel
theorem dX12_reader_122 : decode cX12_reader 122 = .ok (.getfield 192, 3) := by decide +kernel
theorem dX12_reader_125 : decode cX12_reader 125 = .ok (.iload_n 1, 1) := by decide +kernel
theorem dX12_reader_126 : decode cX12_reader 126 = .ok (.iaload, 1) := by decide +kernel
theorem dX12_reader_127 : decode cX12_reader 127 = .ok (.ireturn, 1) := by decide +kernel
theorem dX12_reader_128 : decode cX12_reader 128 = .ok (.iload_n 2, 1) := by decide +kernel
theorem dX12_reader_129 : decode cX12_reader 129 = .ok (.bipush 10, 2) := by decide +kernel
theorem dX12_reader_131 : decode cX12_reader 131 = .ok (.bipush 9, 2) := by decide +kernel
theorem dX12_reader_133 : decode cX12_reader 133 = .ok (.aload_n 0, 1) := by decide +kernel
theorem dX12_reader_134 : decode cX12_reader 134 = .ok (.getfield 192, 3) := by decide +kernel
theorem dX12_reader_137 : decode cX12_reader 137 = .ok (.iload_n 1, 1) := by decide +kernel
theorem dX12_reader_138 : decode cX12_reader 138 = .ok (.iaload, 1) := by decide +kernel
theorem dX12_reader_139 : decode cX12_reader 139 = .ok (.iadd, 1) := by decide +kernel
theorem dX12_reader_140 : decode cX12_reader 140 = .ok (.invokestatic 369, 3) := by decide +kernel
theorem dX12_reader_143 : decode cX12_reader 143 = .ok (.ifCond .eq 20, 3) := by decide +kernel
theorem dX12_reader_146 : decode cX12_reader 146 = .ok (.aload_n 0, 1) := by decide +kernel
theorem dX12_reader_147 : decode cX12_reader 147 = .ok (.getfield 195, 3) := by decide +kernel
theorem dX12_reader_150 : decode cX12_reader 150 = .ok (.bipush 8, 2) := by decide +kernel
theorem dX12_reader_152 : decode cX12_reader 152 = .ok (.iload_n 1, 1) := by decide +kernel
theorem dX12_reader_153 : decode cX12_reader 153 = .ok (.imul, 1) := by decide +kernel
theorem dX12_reader_154 : decode cX12_reader 154 = .ok (.iload_n 2, 1) := by decide +kernel
theorem dX12_reader_155 : decode cX12_reader 155 = .ok (.iadd, 1) := by decide +kernel
theorem dX12_reader_156 : decode cX12_reader 156 = .ok (.bipush 10, 2) := by decide +kernel
theorem dX12_reader_158 : decode cX12_reader 158 = .ok (.isub, 1) := by decide +kernel
theorem dX12_reader_159 : decode cX12_reader 159 = .ok (.iaload, 1) := by decide +kernel
theorem dX12_reader_160 : decode cX12_reader 160 = .ok (.goto 4, 3) := by decide +kernel
theorem dX12_reader_163 : decode cX12_reader 163 = .ok (.iconst (-1), 1) := by decide +kernel
theorem dX12_reader_164 : decode cX12_reader 164 = .ok (.ireturn, 1) := by decide +kernel
theorem dX12_table_0 : decode cX12_table 0 = .ok (.aload_n 0, 1) := by decide +kernel
theorem dX12_table_1 : decode cX12_table 1 = .ok (.iload_n 1, 1) := by decide +kernel
theorem dX12_table_2 : decode cX12_table 2 = .ok (.invokevirtual 565, 3) := by decide +kernel
theorem dX12_table_5 : decode cX12_table 5 = .ok (.ifCond .ne 5, 3) := by decide +kernel
theorem dX12_table_8 : decode cX12_table 8 = .ok (.iconst (-1), 1) := by decide +kernel
theorem dX12_table_9 : decode cX12_table 9 = .ok (.ireturn, 1) := by decide +kernel
theorem dX12_table_10 : decode cX12_table 10 = .ok (.iload_n 2, 1) := by decide +kernel
theorem dX12_table_11 : decode cX12_table 11 = .ok (.ifCond .ne 19, 3) := by decide +kernel
theorem dX12_table_14 : decode cX12_table 14 = .ok (.aload_n 0, 1) := by decide +kernel
theorem dX12_table_15 : decode cX12_table 15 = .ok (.getfield 87, 3) := by decide +kernel
theorem dX12_table_18 : decode cX12_table 18 = .ok (.iconst 5, 1) := by decide +kernel
theorem dX12_table_19 : decode cX12_table 19 = .ok (.aload_n 0, 1) := by decide +kernel
theorem dX12_table_20 : decode cX12_table 20 = .ok (.getfield 51, 3) := by decide +kernel
theorem dX12_table_23 : decode cX12_table 23 = .ok (.imul, 1) := by decide +kernel
theorem dX12_table_24 : decode cX12_table 24 = .ok (.iload_n 1, 1) := by decide +kernel
theorem dX12_table_25 : decode cX12_table 25 = .ok (.iadd, 1) := by decide +kernel
theorem dX12_table_26 : decode cX12_table 26 = .ok (.iaload, 1) := by decide +kernel
theorem dX12_table_27 : decode cX12_table 27 = .ok (.goto 32, 3) := by decide +kernel
theorem dX12_table_30 : decode cX12_table 30 = .ok (.iload_n 2, 1) := by decide +kernel
theorem dX12_table_31 : decode cX12_table 31 = .ok (.iconst 1, 1) := by decide +kernel
theorem dX12_table_32 : decode cX12_table 32 = .ok (.if_icmp .ne 12, 3) := by decide +kernel
theorem dX12_table_35 : decode cX12_table 35 = .ok (.aload_n 0, 1) := by decide +kernel
theorem dX12_table_36 : decode cX12_table 36 = .ok (.iconst 0, 1) := by decide +kernel
theorem dX12_table_37 : decode cX12_table 37 = .ok (.iload_n 1, 1) := by decide +kernel
theorem dX12_table_38 : decode cX12_table 38 = .ok (.invokevirtual 488, 3) := by decide +kernel
theorem dX12_table_41 : decode cX12_table 41 = .ok (.goto 18, 3) := by decide +kernel
theorem dX12_table_44 : decode cX12_table 44 = .ok (.iload_n 2, 1) := by decide +kernel
theorem dX12_table_45 : decode cX12_table 45 = .ok (.iconst 2, 1) := by decide +kernel
theorem dX12_table_46 : decode cX12_table 46 = .ok (.if_icmp .ne 12, 3) := by decide +kernel
theorem dX12_table_49 : decode cX12_table 49 = .ok (.aload_n 0, 1) := by decide +kernel
theorem dX12_table_50 : decode cX12_table 50 = .ok (.iconst 0, 1) := by decide +kernel
theorem dX12_table_51 : decode cX12_table 51 = .ok (.iload_n 1, 1) := by decide +kernel
theorem dX12_table_52 : decode cX12_table 52 = .ok (.invokevirtual 541, 3) := by decide +kernel
theorem dX12_table_55 : decode cX12_table 55 = .ok (.goto 4, 3) := by decide +kernel
theorem dX12_table_58 : decode cX12_table 58 = .ok (.iconst (-1), 1) := by decide +kernel
theorem dX12_table_59 : decode cX12_table 59 = .ok (.ireturn, 1) := by decide +kernel
theorem dX12_takes_0 : decode cX12_takes 0 = .ok (.aload_n 0, 1) := by decide +kernel
theorem dX12_takes_1 : decode cX12_takes 1 = .ok (.iload_n 1, 1) := by decide +kernel
theorem dX12_takes_2 : decode cX12_takes 2 = .ok (.invokevirtual 562, 3) := by decide +kernel
theorem dX12_takes_5 : decode cX12_takes 5 = .ok (.ifCond .eq 21, 3) := by decide +kernel
theorem dX12_takes_8 : decode cX12_takes 8 = .ok (.aload_n 0, 1) := by decide +kernel
theorem dX12_takes_9 : decode cX12_takes 9 = .ok (.iload_n 2, 1) := by decide +kernel
theorem dX12_takes_10 : decode cX12_takes 10 = .ok (.invokevirtual 556, 3) := by decide +kernel
theorem dX12_takes_13 : decode cX12_takes 13 = .ok (.ifCond .eq 13, 3) := by decide +kernel
theorem dX12_takes_16 : decode cX12_takes 16 = .ok (.aload_n 0, 1) := by decide +kernel
theorem dX12_takes_17 : decode cX12_takes 17 = .ok (.iconst 0, 1) := by decide +kernel
theorem dX12_takes_18 : decode cX12_takes 18 = .ok (.iload_n 1, 1) := by decide +kernel
theorem dX12_takes_19 : decode cX12_takes 19 = .ok (.iload_n 2, 1) := by decide +kernel
theorem dX12_takes_20 : decode cX12_takes 20 = .ok (.invokevirtual 530, 3) := by decide +kernel
theorem dX12_takes_23 : decode cX12_takes 23 = .ok (.goto 4, 3) := by decide +kernel
theorem dX12_takes_26 : decode cX12_takes 26 = .ok (.iconst (-1), 1) := by decide +kernel
theorem dX12_takes_27 : decode cX12_takes 27 = .ok (.ireturn, 1) := by decide +kernel
theorem dX12_burns_0 : decode cX12_burns 0 = .ok (.aload_n 0, 1) := by decide +kernel
theorem dX12_burns_1 : decode cX12_burns 1 = .ok (.iload_n 1, 1) := by decide +kernel
theorem dX12_burns_2 : decode cX12_burns 2 = .ok (.invokevirtual 562, 3) := by decide +kernel
theorem dX12_burns_5 : decode cX12_burns 5 = .ok (.ifCond .eq 12, 3) := by decide +kernel
theorem dX12_burns_8 : decode cX12_burns 8 = .ok (.aload_n 0, 1) := by decide +kernel
theorem dX12_burns_9 : decode cX12_burns 9 = .ok (.iconst 0, 1) := by decide +kernel
theorem dX12_burns_10 : decode cX12_burns 10 = .ok (.iload_n 1, 1) := by decide +kernel
theorem dX12_burns_11 : decode cX12_burns 11 = .ok (.invokevirtual 521, 3) := by decide +kernel
theorem dX12_burns_14 : decode cX12_burns 14 = .ok (.goto 4, 3) := by decide +kernel
theorem dX12_burns_17 : decode cX12_burns 17 = .ok (.iconst (-1), 1) := by decide +kernel
theorem dX12_burns_18 : decode cX12_burns 18 = .ok (.ireturn, 1) := by decide +kernel
theorem dX12_tonight_0 : decode cX12_tonight 0 = .ok (.aload_n 0, 1) := by decide +kernel
theorem dX12_tonight_1 : decode cX12_tonight 1 = .ok (.iload_n 1, 1) := by decide +kernel
theorem dX12_tonight_2 : decode cX12_tonight 2 = .ok (.invokevirtual 562, 3) := by decide +kernel
theorem dX12_tonight_5 : decode cX12_tonight 5 = .ok (.ifCond .eq 12, 3) := by decide +kernel
theorem dX12_tonight_8 : decode cX12_tonight 8 = .ok (.iload_n 2, 1) := by decide +kernel
theorem dX12_tonight_9 : decode cX12_tonight 9 = .ok (.iconst 0, 1) := by decide +kernel
theorem dX12_tonight_10 : decode cX12_tonight 10 = .ok (.iconst 4, 1) := by decide +kernel
theorem dX12_tonight_11 : decode cX12_tonight 11 = .ok (.invokestatic 369, 3) := by decide +kernel
theorem dX12_tonight_14 : decode cX12_tonight 14 = .ok (.ifCond .ne 5, 3) := by decide +kernel
theorem dX12_tonight_17 : decode cX12_tonight 17 = .ok (.iconst (-1), 1) := by decide +kernel
theorem dX12_tonight_18 : decode cX12_tonight 18 = .ok (.ireturn, 1) := by decide +kernel
theorem dX12_tonight_19 : decode cX12_tonight 19 = .ok (.aload_n 0, 1) := by decide +kernel
theorem dX12_tonight_20 : decode cX12_tonight 20 = .ok (.invokevirtual 568, 3) := by decide +kernel
theorem dX12_tonight_23 : decode cX12_tonight 23 = .ok (.pop, 1) := by decide +kernel
theorem dX12_tonight_24 : decode cX12_tonight 24 = .ok (.iload_n 2, 1) := by decide +kernel
theorem dX12_tonight_25 : decode cX12_tonight 25 = .ok (.ifCond .ne 15, 3) := by decide +kernel
theorem dX12_tonight_28 : decode cX12_tonight 28 = .ok (.aload_n 0, 1) := by decide +kernel
theorem dX12_tonight_29 : decode cX12_tonight 29 = .ok (.getfield 240, 3) := by decide +kernel
theorem dX12_tonight_32 : decode cX12_tonight 32 = .ok (.iload_n 1, 1) := by decide +kernel
theorem dX12_tonight_33 : decode cX12_tonight 33 = .ok (.iaload, 1) := by decide +kernel
theorem dX12_tonight_34 : decode cX12_tonight 34 = .ok (.invokestatic 482, 3) := by decide +kernel
theorem dX12_tonight_37 : decode cX12_tonight 37 = .ok (.goto 57, 3) := by decide +kernel
theorem dX12_tonight_40 : decode cX12_tonight 40 = .ok (.iload_n 2, 1) := by decide +kernel
theorem dX12_tonight_41 : decode cX12_tonight 41 = .ok (.iconst 1, 1) := by decide +kernel
theorem dX12_tonight_42 : decode cX12_tonight 42 = .ok (.if_icmp .ne 12, 3) := by decide +kernel
theorem dX12_tonight_45 : decode cX12_tonight 45 = .ok (.aload_n 0, 1) := by decide +kernel
theorem dX12_tonight_46 : decode cX12_tonight 46 = .ok (.getfield 240, 3) := by decide +kernel
theorem dX12_tonight_49 : decode cX12_tonight 49 = .ok (.iload_n 1, 1) := by decide +kernel
theorem dX12_tonight_50 : decode cX12_tonight 50 = .ok (.iaload, 1) := by decide +kernel
theorem dX12_tonight_51 : decode cX12_tonight 51 = .ok (.goto 43, 3) := by decide +kernel
theorem dX12_tonight_54 : decode cX12_tonight 54 = .ok (.iload_n 2, 1) := by decide +kernel
theorem dX12_tonight_55 : decode cX12_tonight 55 = .ok (.iconst 2, 1) := by decide +kernel
theorem dX12_tonight_56 : decode cX12_tonight 56 = .ok (.if_icmp .ne 12, 3) := by decide +kernel
theorem dX12_tonight_59 : decode cX12_tonight 59 = .ok (.aload_n 0, 1) := by decide +kernel
theorem dX12_tonight_60 : decode cX12_tonight 60 = .ok (.getfield 237, 3) := by decide +kernel
theorem dX12_tonight_63 : decode cX12_tonight 63 = .ok (.iload_n 1, 1) := by decide +kernel
theorem dX12_tonight_64 : decode cX12_tonight 64 = .ok (.iaload, 1) := by decide +kernel
theorem dX12_tonight_65 : decode cX12_tonight 65 = .ok (.goto 29, 3) := by decide +kernel
theorem dX12_tonight_68 : decode cX12_tonight 68 = .ok (.iload_n 2, 1) := by decide +kernel
theorem dX12_tonight_69 : decode cX12_tonight 69 = .ok (.iconst 3, 1) := by decide +kernel
theorem dX12_tonight_70 : decode cX12_tonight 70 = .ok (.if_icmp .ne 15, 3) := by decide +kernel
theorem dX12_tonight_73 : decode cX12_tonight 73 = .ok (.aload_n 0, 1) := by decide +kernel
theorem dX12_tonight_74 : decode cX12_tonight 74 = .ok (.getfield 186, 3) := by decide +kernel
theorem dX12_tonight_77 : decode cX12_tonight 77 = .ok (.bipush 6, 2) := by decide +kernel
theorem dX12_tonight_79 : decode cX12_tonight 79 = .ok (.iload_n 1, 1) := by decide +kernel
theorem dX12_tonight_80 : decode cX12_tonight 80 = .ok (.iadd, 1) := by decide +kernel
theorem dX12_tonight_81 : decode cX12_tonight 81 = .ok (.iaload, 1) := by decide +kernel
theorem dX12_tonight_82 : decode cX12_tonight 82 = .ok (.goto 12, 3) := by decide +kernel
theorem dX12_tonight_85 : decode cX12_tonight 85 = .ok (.aload_n 0, 1) := by decide +kernel
theorem dX12_tonight_86 : decode cX12_tonight 86 = .ok (.getfield 189, 3) := by decide +kernel
theorem dX12_tonight_89 : decode cX12_tonight 89 = .ok (.bipush 6, 2) := by decide +kernel
theorem dX12_tonight_91 : decode cX12_tonight 91 = .ok (.iload_n 1, 1) := by decide +kernel
theorem dX12_tonight_92 : decode cX12_tonight 92 = .ok (.iadd, 1) := by decide +kernel
theorem dX12_tonight_93 : decode cX12_tonight 93 = .ok (.iaload, 1) := by decide +kernel
theorem dX12_tonight_94 : decode cX12_tonight 94 = .ok (.ireturn, 1) := by decide +kernel
theorem dX12_whole_0 : decode cX12_whole 0 = .ok (.iload_n 1, 1) := by decide +kernel
theorem dX12_whole_1 : decode cX12_whole 1 = .ok (.iconst 0, 1) := by decide +kernel
theorem dX12_whole_2 : decode cX12_whole 2 = .ok (.iconst 3, 1) := by decide +kernel
theorem dX12_whole_3 : decode cX12_whole 3 = .ok (.invokestatic 369, 3) := by decide +kernel
theorem dX12_whole_6 : decode cX12_whole 6 = .ok (.ifCond .ne 5, 3) := by decide +kernel
theorem dX12_whole_9 : decode cX12_whole 9 = .ok (.iconst (-1), 1) := by decide +kernel
theorem dX12_whole_10 : decode cX12_whole 10 = .ok (.ireturn, 1) := by decide +kernel
theorem dX12_whole_11 : decode cX12_whole 11 = .ok (.aload_n 0, 1) := by decide +kernel
theorem dX12_whole_12 : decode cX12_whole 12 = .ok (.invokevirtual 568, 3) := by decide +kernel
theorem dX12_whole_15 : decode cX12_whole 15 = .ok (.istore_n 2, 1) := by decide +kernel
theorem dX12_whole_16 : decode cX12_whole 16 = .ok (.iconst 0, 1) := by decide +kernel
theorem dX12_whole_17 : decode cX12_whole 17 = .ok (.istore_n 3, 1) := by decide +kernel
theorem dX12_whole_18 : decode cX12_whole 18 = .ok (.iload_n 1, 1) := by decide +kernel
theorem dX12_whole_19 : decode cX12_whole 19 = .ok (.iconst 1, 1) := by decide +kernel
theorem dX12_whole_20 : decode cX12_whole 20 = .ok (.if_icmp .ne 36, 3) := by decide +kernel
theorem dX12_whole_23 : decode cX12_whole 23 = .ok (.iconst 0, 1) := by decide +kernel
theorem dX12_whole_24 : decode cX12_whole 24 = .ok (.istore 4, 2) := by decide +kernel
theorem dX12_whole_26 : decode cX12_whole 26 = .ok (.iload 4, 2) := by decide +kernel
theorem dX12_whole_28 : decode cX12_whole 28 = .ok (.aload_n 0, 1) := by decide +kernel
theorem dX12_whole_29 : decode cX12_whole 29 = .ok (.getfield 84, 3) := by decide +kernel
theorem dX12_whole_32 : decode cX12_whole 32 = .ok (.aload_n 0, 1) := by decide +kernel
theorem dX12_whole_33 : decode cX12_whole 33 = .ok (.getfield 51, 3) := by decide +kernel
theorem dX12_whole_36 : decode cX12_whole 36 = .ok (.iaload, 1) := by decide +kernel
theorem dX12_whole_37 : decode cX12_whole 37 = .ok (.if_icmp .ge 19, 3) := by decide +kernel
theorem dX12_whole_40 : decode cX12_whole 40 = .ok (.iload_n 3, 1) := by decide +kernel
theorem dX12_whole_41 : decode cX12_whole 41 = .ok (.aload_n 0, 1) := by decide +kernel
theorem dX12_whole_42 : decode cX12_whole 42 = .ok (.getfield 243, 3) := by decide +kernel
theorem dX12_whole_45 : decode cX12_whole 45 = .ok (.iload 4, 2) := by decide +kernel
theorem dX12_whole_47 : decode cX12_whole 47 = .ok (.iaload, 1) := by decide +kernel
theorem dX12_whole_48 : decode cX12_whole 48 = .ok (.iadd, 1) := by decide +kernel
theorem dX12_whole_49 : decode cX12_whole 49 = .ok (.istore_n 3, 1) := by decide +kernel
theorem dX12_whole_50 : decode cX12_whole 50 = .ok (.iinc 4 1, 3) := by decide +kernel
theorem dX12_whole_53 : decode cX12_whole 53 = .ok (.goto (-27), 3) := by decide +kernel
theorem dX12_whole_56 : decode cX12_whole 56 = .ok (.iload_n 1, 1) := by decide +kernel
theorem dX12_whole_57 : decode cX12_whole 57 = .ok (.iconst 3, 1) := by decide +kernel
theorem dX12_whole_58 : decode cX12_whole 58 = .ok (.if_icmp .ne 44, 3) := by decide +kernel
theorem dX12_whole_61 : decode cX12_whole 61 = .ok (.iconst 0, 1) := by decide +kernel
theorem dX12_whole_62 : decode cX12_whole 62 = .ok (.istore 4, 2) := by decide +kernel
theorem dX12_whole_64 : decode cX12_whole 64 = .ok (.iload 4, 2) := by decide +kernel
theorem dX12_whole_66 : decode cX12_whole 66 = .ok (.aload_n 0, 1) := by decide +kernel
theorem dX12_whole_67 : decode cX12_whole 67 = .ok (.getfield 75, 3) := by decide +kernel
theorem dX12_whole_70 : decode cX12_whole 70 = .ok (.aload_n 0, 1) := by decide +kernel
theorem dX12_whole_71 : decode cX12_whole 71 = .ok (.getfield 51, 3) := by decide +kernel
theorem dX12_whole_74 : decode cX12_whole 74 = .ok (.iaload, 1) := by decide +kernel
theorem dX12_whole_75 : decode cX12_whole 75 = .ok (.if_icmp .ge 27, 3) := by decide +kernel
theorem dX12_whole_78 : decode cX12_whole 78 = .ok (.iload_n 3, 1) := by decide +kernel
theorem dX12_whole_79 : decode cX12_whole 79 = .ok (.aload_n 0, 1) := by decide +kernel
theorem dX12_whole_80 : decode cX12_whole 80 = .ok (.getfield 240, 3) := by decide +kernel
theorem dX12_whole_83 : decode cX12_whole 83 = .ok (.iload 4, 2) := by decide +kernel
theorem dX12_whole_85 : decode cX12_whole 85 = .ok (.iaload, 1) := by decide +kernel
theorem dX12_whole_86 : decode cX12_whole 86 = .ok (.ifCond .ne 7, 3) := by decide +kernel
theorem dX12_whole_89 : decode cX12_whole 89 = .ok (.iconst 1, 1) := by decide +kernel
theorem dX12_whole_90 : decode cX12_whole 90 = .ok (.goto 4, 3) := by decide +kernel
theorem dX12_whole_93 : decode cX12_whole 93 = .ok (.iconst 0, 1) := by decide +kernel
theorem dX12_whole_94 : decode cX12_whole 94 = .ok (.iadd, 1) := by decide +kernel
theorem dX12_whole_95 : decode cX12_whole 95 = .ok (.istore_n 3, 1) := by decide +kernel
theorem dX12_whole_96 : decode cX12_whole 96 = .ok (.iinc 4 1, 3) := by decide +kernel
theorem dX12_whole_99 : decode cX12_whole 99 = .ok (.goto (-35), 3) := by decide +kernel
theorem dX12_whole_102 : decode cX12_whole 102 = .ok (.iload_n 1, 1) := by decide +kernel
theorem dX12_whole_103 : decode cX12_whole 103 = .ok (.ifCond .ne 10, 3) := by decide +kernel
theorem dX12_whole_106 : decode cX12_whole 106 = .ok (.aload_n 0, 1) := by decide +kernel
theorem dX12_whole_107 : decode cX12_whole 107 = .ok (.getfield 246, 3) := by decide +kernel
theorem dX12_whole_110 : decode cX12_whole 110 = .ok (.goto 13, 3) := by decide +kernel
theorem dX12_whole_113 : decode cX12_whole 113 = .ok (.iload_n 1, 1) := by decide +kernel
theorem dX12_whole_114 : decode cX12_whole 114 = .ok (.iconst 2, 1) := by decide +kernel
theorem dX12_whole_115 : decode cX12_whole 115 = .ok (.if_icmp .ne 7, 3) := by decide +kernel
theorem dX12_whole_118 : decode cX12_whole 118 = .ok (.iload_n 2, 1) := by decide +kernel
theorem dX12_whole_119 : decode cX12_whole 119 = .ok (.goto 4, 3) := by decide +kernel
theorem dX12_whole_122 : decode cX12_whole 122 = .ok (.iload_n 3, 1) := by decide +kernel
theorem dX12_whole_123 : decode cX12_whole 123 = .ok (.ireturn, 1) := by decide +kernel
theorem dX12_seat_0 : decode cX12_seat 0 = .ok (.aload_n 0, 1) := by decide +kernel
theorem dX12_seat_1 : decode cX12_seat 1 = .ok (.iload_n 1, 1) := by decide +kernel
theorem dX12_seat_2 : decode cX12_seat 2 = .ok (.invokevirtual 562, 3) := by decide +kernel
theorem dX12_seat_5 : decode cX12_seat 5 = .ok (.ifCond .eq 25, 3) := by decide +kernel
theorem dX12_seat_8 : decode cX12_seat 8 = .ok (.aload_n 0, 1) := by decide +kernel
theorem dX12_seat_9 : decode cX12_seat 9 = .ok (.iload_n 2, 1) := by decide +kernel
theorem dX12_seat_10 : decode cX12_seat 10 = .ok (.invokevirtual 565, 3) := by decide +kernel
theorem dX12_seat_13 : decode cX12_seat 13 = .ok (.ifCond .eq 17, 3) := by decide +kernel
theorem dX12_seat_16 : decode cX12_seat 16 = .ok (.aload_n 0, 1) := by decide +kernel
theorem dX12_seat_17 : decode cX12_seat 17 = .ok (.getfield 177, 3) := by decide +kernel
theorem dX12_seat_20 : decode cX12_seat 20 = .ok (.iload_n 1, 1) := by decide +kernel
theorem dX12_seat_21 : decode cX12_seat 21 = .ok (.iaload, 1) := by decide +kernel
theorem dX12_seat_22 : decode cX12_seat 22 = .ok (.iload_n 2, 1) := by decide +kernel
theorem dX12_seat_23 : decode cX12_seat 23 = .ok (.if_icmp .eq 7, 3) := by decide +kernel
theorem dX12_seat_26 : decode cX12_seat 26 = .ok (.iconst 1, 1) := by decide +kernel
theorem dX12_seat_27 : decode cX12_seat 27 = .ok (.goto 4, 3) := by decide +kernel
theorem dX12_seat_30 : decode cX12_seat 30 = .ok (.iconst 0, 1) := by decide +kernel
theorem dX12_seat_31 : decode cX12_seat 31 = .ok (.istore_n 3, 1) := by decide +kernel
theorem dX12_seat_32 : decode cX12_seat 32 = .ok (.iload_n 3, 1) := by decide +kernel
theorem dX12_seat_33 : decode cX12_seat 33 = .ok (.ifCond .ne 17, 3) := by decide +kernel
theorem dX12_seat_36 : decode cX12_seat 36 = .ok (.aload_n 0, 1) := by decide +kernel
theorem dX12_seat_37 : decode cX12_seat 37 = .ok (.iconst 2, 1) := by decide +kernel
theorem dX12_seat_38 : decode cX12_seat 38 = .ok (.invokevirtual 279, 3) := by decide +kernel
theorem dX12_seat_41 : decode cX12_seat 41 = .ok (.ifCond .lt 7, 3) := by decide +kernel
theorem dX12_seat_44 : decode cX12_seat 44 = .ok (.iconst 1, 1) := by decide +kernel
theorem dX12_seat_45 : decode cX12_seat 45 = .ok (.goto 4, 3) := by decide +kernel
theorem dX12_seat_48 : decode cX12_seat 48 = .ok (.iconst 0, 1) := by decide +kernel
theorem dX12_seat_49 : decode cX12_seat 49 = .ok (.ireturn, 1) := by decide +kernel
theorem dX12_seat_50 : decode cX12_seat 50 = .ok (.aload_n 0, 1) := by decide +kernel
theorem dX12_seat_51 : decode cX12_seat 51 = .ok (.invokevirtual 572, 3) := by decide +kernel
theorem dX12_seat_54 : decode cX12_seat 54 = .ok (.aload_n 0, 1) := by decide +kernel
theorem dX12_seat_55 : decode cX12_seat 55 = .ok (.getfield 177, 3) := by decide +kernel
theorem dX12_seat_58 : decode cX12_seat 58 = .ok (.iload_n 1, 1) := by decide +kernel
theorem dX12_seat_59 : decode cX12_seat 59 = .ok (.iload_n 2, 1) := by decide +kernel
theorem dX12_seat_60 : decode cX12_seat 60 = .ok (.iastore, 1) := by decide +kernel
theorem dX12_seat_61 : decode cX12_seat 61 = .ok (.iconst 1, 1) := by decide +kernel
theorem dX12_seat_62 : decode cX12_seat 62 = .ok (.ireturn, 1) := by decide +kernel
theorem dX12_isListed_0 : decode cX12_isListed 0 = .ok (.bipush 6, 2) := by decide +kernel
theorem dX12_isListed_2 : decode cX12_isListed 2 = .ok (.iload_n 1, 1) := by decide +kernel
theorem dX12_isListed_3 : decode cX12_isListed 3 = .ok (.imul, 1) := by decide +kernel
theorem dX12_isListed_4 : decode cX12_isListed 4 = .ok (.iload_n 2, 1) := by decide +kernel
theorem dX12_isListed_5 : decode cX12_isListed 5 = .ok (.iadd, 1) := by decide +kernel
theorem dX12_isListed_6 : decode cX12_isListed 6 = .ok (.istore 4, 2) := by decide +kernel
theorem dX12_isListed_8 : decode cX12_isListed 8 = .ok (.iconst 0, 1) := by decide +kernel
theorem dX12_isListed_9 : decode cX12_isListed 9 = .ok (.istore 5, 2) := by decide +kernel
theorem dX12_isListed_11 : decode cX12_isListed 11 = .ok (.iload 5, 2) := by decide +kernel
theorem dX12_isListed_13 : decode cX12_isListed 13 = .ok (.aload_n 0, 1) := by decide +kernel
theorem dX12_isListed_14 : decode cX12_isListed 14 = .ok (.getfield 192, 3) := by decide +kernel
theorem dX12_isListed_17 : decode cX12_isListed 17 = .ok (.iload 4, 2) := by decide +kernel
theorem dX12_isListed_19 : decode cX12_isListed 19 = .ok (.iaload, 1) := by decide +kernel
theorem dX12_isListed_20 : decode cX12_isListed 20 = .ok (.if_icmp .ge 28, 3) := by decide +kernel
theorem dX12_isListed_23 : decode cX12_isListed 23 = .ok (.aload_n 0, 1) := by decide +kernel
theorem dX12_isListed_24 : decode cX12_isListed 24 = .ok (.getfield 195, 3) := by decide +kernel
theorem dX12_isListed_27 : decode cX12_isListed 27 = .ok (.bipush 8, 2) := by decide +kernel
theorem dX12_isListed_29 : decode cX12_isListed 29 = .ok (.iload 4, 2) := by decide +kernel
theorem dX12_isListed_31 : decode cX12_isListed 31 = .ok (.imul, 1) := by decide +kernel
theorem dX12_isListed_32 : decode cX12_isListed 32 = .ok (.iload 5, 2) := by decide +kernel
theorem dX12_isListed_34 : decode cX12_isListed 34 = .ok (.iadd, 1) := by decide +kernel
theorem dX12_isListed_35 : decode cX12_isListed 35 = .ok (.iaload, 1) := by decide +kernel
theorem dX12_isListed_36 : decode cX12_isListed 36 = .ok (.iload_n 3, 1) := by decide +kernel
theorem dX12_isListed_37 : decode cX12_isListed 37 = .ok (.if_icmp .ne 5, 3) := by decide +kernel
theorem dX12_isListed_40 : decode cX12_isListed 40 = .ok (.iconst 1, 1) := by decide +kernel
theorem dX12_isListed_41 : decode cX12_isListed 41 = .ok (.ireturn, 1) := by decide +kernel
theorem dX12_isListed_42 : decode cX12_isListed 42 = .ok (.iinc 5 1, 3) := by decide +kernel
theorem dX12_isListed_45 : decode cX12_isListed 45 = .ok (.goto (-34), 3) := by decide +kernel
theorem dX12_isListed_48 : decode cX12_isListed 48 = .ok (.iconst 0, 1) := by decide +kernel
theorem dX12_isListed_49 : decode cX12_isListed 49 = .ok (.ireturn, 1) := by decide +kernel
theorem dX12_list_0 : decode cX12_list 0 = .ok (.aload_n 0, 1) := by decide +kernel
theorem dX12_list_1 : decode cX12_list 1 = .ok (.iload_n 1, 1) := by decide +kernel
theorem dX12_list_2 : decode cX12_list 2 = .ok (.invokevirtual 562, 3) := by decide +kernel
theorem dX12_list_5 : decode cX12_list 5 = .ok (.ifCond .eq 49, 3) := by decide +kernel
theorem dX12_list_8 : decode cX12_list 8 = .ok (.aload_n 0, 1) := by decide +kernel
theorem dX12_list_9 : decode cX12_list 9 = .ok (.iload_n 2, 1) := by decide +kernel
theorem dX12_list_10 : decode cX12_list 10 = .ok (.invokevirtual 556, 3) := by decide +kernel
theorem dX12_list_13 : decode cX12_list 13 = .ok (.ifCond .eq 41, 3) := by decide +kernel
theorem dX12_list_16 : decode cX12_list 16 = .ok (.aload_n 0, 1) := by decide +kernel
theorem dX12_list_17 : decode cX12_list 17 = .ok (.iconst 0, 1) := by decide +kernel
theorem dX12_list_18 : decode cX12_list 18 = .ok (.iload_n 1, 1) := by decide +kernel
theorem dX12_list_19 : decode cX12_list 19 = .ok (.invokevirtual 473, 3) := by decide +kernel
theorem dX12_list_22 : decode cX12_list 22 = .ok (.iload_n 2, 1) := by decide +kernel
theorem dX12_list_23 : decode cX12_list 23 = .ok (.invokestatic 552, 3) := by decide +kernel
theorem dX12_list_26 : decode cX12_list 26 = .ok (.ifCond .ne 28, 3) := by decide +kernel
theorem dX12_list_29 : decode cX12_list 29 = .ok (.aload_n 0, 1) := by decide +kernel
theorem dX12_list_30 : decode cX12_list 30 = .ok (.iconst 0, 1) := by decide +kernel
theorem dX12_list_31 : decode cX12_list 31 = .ok (.iload_n 1, 1) := by decide +kernel
theorem dX12_list_32 : decode cX12_list 32 = .ok (.iload_n 2, 1) := by decide +kernel
theorem dX12_list_33 : decode cX12_list 33 = .ok (.invokevirtual 575, 3) := by decide +kernel
theorem dX12_list_36 : decode cX12_list 36 = .ok (.ifCond .ne 18, 3) := by decide +kernel
theorem dX12_list_39 : decode cX12_list 39 = .ok (.aload_n 0, 1) := by decide +kernel
theorem dX12_list_40 : decode cX12_list 40 = .ok (.getfield 192, 3) := by decide +kernel
theorem dX12_list_43 : decode cX12_list 43 = .ok (.iload_n 1, 1) := by decide +kernel
theorem dX12_list_44 : decode cX12_list 44 = .ok (.iaload, 1) := by decide +kernel
theorem dX12_list_45 : decode cX12_list 45 = .ok (.bipush 8, 2) := by decide +kernel
theorem dX12_list_47 : decode cX12_list 47 = .ok (.if_icmp .ge 7, 3) := by decide +kernel
theorem dX12_list_50 : decode cX12_list 50 = .ok (.iconst 1, 1) := by decide +kernel
theorem dX12_list_51 : decode cX12_list 51 = .ok (.goto 4, 3) := by decide +kernel
theorem dX12_list_54 : decode cX12_list 54 = .ok (.iconst 0, 1) := by decide +kernel
theorem dX12_list_55 : decode cX12_list 55 = .ok (.istore_n 3, 1) := by decide +kernel
theorem dX12_list_56 : decode cX12_list 56 = .ok (.iload_n 3, 1) := by decide +kernel
theorem dX12_list_57 : decode cX12_list 57 = .ok (.ifCond .ne 17, 3) := by decide +kernel
theorem dX12_list_60 : decode cX12_list 60 = .ok (.aload_n 0, 1) := by decide +kernel
theorem dX12_list_61 : decode cX12_list 61 = .ok (.iconst 2, 1) := by decide +kernel
theorem dX12_list_62 : decode cX12_list 62 = .ok (.invokevirtual 279, 3) := by decide +kernel
theorem dX12_list_65 : decode cX12_list 65 = .ok (.ifCond .lt 7, 3) := by decide +kernel
theorem dX12_list_68 : decode cX12_list 68 = .ok (.iconst 1, 1) := by decide +kernel
theorem dX12_list_69 : decode cX12_list 69 = .ok (.goto 4, 3) := by decide +kernel
theorem dX12_list_72 : decode cX12_list 72 = .ok (.iconst 0, 1) := by decide +kernel
theorem dX12_list_73 : decode cX12_list 73 = .ok (.ireturn, 1) := by decide +kernel
theorem dX12_list_74 : decode cX12_list 74 = .ok (.aload_n 0, 1) := by decide +kernel
theorem dX12_list_75 : decode cX12_list 75 = .ok (.invokevirtual 572, 3) := by decide +kernel
theorem dX12_list_78 : decode cX12_list 78 = .ok (.aload_n 0, 1) := by decide +kernel
theorem dX12_list_79 : decode cX12_list 79 = .ok (.getfield 195, 3) := by decide +kernel
theorem dX12_list_82 : decode cX12_list 82 = .ok (.bipush 8, 2) := by decide +kernel
theorem dX12_list_84 : decode cX12_list 84 = .ok (.iload_n 1, 1) := by decide +kernel
theorem dX12_list_85 : decode cX12_list 85 = .ok (.imul, 1) := by decide +kernel
theorem dX12_list_86 : decode cX12_list 86 = .ok (.aload_n 0, 1) := by decide +kernel
theorem dX12_list_87 : decode cX12_list 87 = .ok (.getfield 192, 3) := by decide +kernel
theorem dX12_list_90 : decode cX12_list 90 = .ok (.iload_n 1, 1) := by decide +kernel
theorem dX12_list_91 : decode cX12_list 91 = .ok (.iaload, 1) := by decide +kernel
theorem dX12_list_92 : decode cX12_list 92 = .ok (.iadd, 1) := by decide +kernel
theorem dX12_list_93 : decode cX12_list 93 = .ok (.iload_n 2, 1) := by decide +kernel
theorem dX12_list_94 : decode cX12_list 94 = .ok (.iastore, 1) := by decide +kernel
theorem dX12_list_95 : decode cX12_list 95 = .ok (.aload_n 0, 1) := by decide +kernel
theorem dX12_list_96 : decode cX12_list 96 = .ok (.getfield 192, 3) := by decide +kernel
theorem dX12_list_99 : decode cX12_list 99 = .ok (.iload_n 1, 1) := by decide +kernel
theorem dX12_list_100 : decode cX12_list 100 = .ok (.dup2, 1) := by decide +kernel
theorem dX12_list_101 : decode cX12_list 101 = .ok (.iaload, 1) := by decide +kernel
theorem dX12_list_102 : decode cX12_list 102 = .ok (.iconst 1, 1) := by decide +kernel
theorem dX12_list_103 : decode cX12_list 103 = .ok (.iadd, 1) := by decide +kernel
theorem dX12_list_104 : decode cX12_list 104 = .ok (.iastore, 1) := by decide +kernel
theorem dX12_list_105 : decode cX12_list 105 = .ok (.iconst 1, 1) := by decide +kernel
theorem dX12_list_106 : decode cX12_list 106 = .ok (.ireturn, 1) := by decide +kernel
theorem dX12_drop_0 : decode cX12_drop 0 = .ok (.aload_n 0, 1) := by decide +kernel
theorem dX12_drop_1 : decode cX12_drop 1 = .ok (.iload_n 1, 1) := by decide +kernel
theorem dX12_drop_2 : decode cX12_drop 2 = .ok (.invokevirtual 562, 3) := by decide +kernel
theorem dX12_drop_5 : decode cX12_drop 5 = .ok (.ifCond .ne 9, 3) := by decide +kernel
theorem dX12_drop_8 : decode cX12_drop 8 = .ok (.aload_n 0, 1) := by decide +kernel
theorem dX12_drop_9 : decode cX12_drop 9 = .ok (.iconst 2, 1) := by decide +kernel
theorem dX12_drop_10 : decode cX12_drop 10 = .ok (.invokevirtual 279, 3) := by decide +kernel
theorem dX12_drop_13 : decode cX12_drop 13 = .ok (.ireturn, 1) := by decide +kernel
theorem dX12_drop_14 : decode cX12_drop 14 = .ok (.aload_n 0, 1) := by decide +kernel
theorem dX12_drop_15 : decode cX12_drop 15 = .ok (.invokevirtual 572, 3) := by decide +kernel
theorem dX12_drop_18 : decode cX12_drop 18 = .ok (.aload_n 0, 1) := by decide +kernel
theorem dX12_drop_19 : decode cX12_drop 19 = .ok (.getfield 192, 3) := by decide +kernel
theorem dX12_drop_22 : decode cX12_drop 22 = .ok (.iload_n 1, 1) := by decide +kernel
theorem dX12_drop_23 : decode cX12_drop 23 = .ok (.iaload, 1) := by decide +kernel
theorem dX12_drop_24 : decode cX12_drop 24 = .ok (.istore_n 2, 1) := by decide +kernel
theorem dX12_drop_25 : decode cX12_drop 25 = .ok (.aload_n 0, 1) := by decide +kernel
theorem dX12_drop_26 : decode cX12_drop 26 = .ok (.getfield 192, 3) := by decide +kernel
theorem dX12_drop_29 : decode cX12_drop 29 = .ok (.iload_n 1, 1) := by decide +kernel
theorem dX12_drop_30 : decode cX12_drop 30 = .ok (.iconst 0, 1) := by decide +kernel
theorem dX12_drop_31 : decode cX12_drop 31 = .ok (.iastore, 1) := by decide +kernel
theorem dX12_drop_32 : decode cX12_drop 32 = .ok (.aload_n 0, 1) := by decide +kernel
theorem dX12_drop_33 : decode cX12_drop 33 = .ok (.getfield 186, 3) := by decide +kernel
theorem dX12_drop_36 : decode cX12_drop 36 = .ok (.iload_n 1, 1) := by decide +kernel
theorem dX12_drop_37 : decode cX12_drop 37 = .ok (.iconst (-1), 1) := by decide +kernel
theorem dX12_drop_38 : decode cX12_drop 38 = .ok (.iastore, 1) := by decide +kernel
theorem dX12_drop_39 : decode cX12_drop 39 = .ok (.aload_n 0, 1) := by decide +kernel
theorem dX12_drop_40 : decode cX12_drop 40 = .ok (.getfield 189, 3) := by decide +kernel
theorem dX12_drop_43 : decode cX12_drop 43 = .ok (.iload_n 1, 1) := by decide +kernel
theorem dX12_drop_44 : decode cX12_drop 44 = .ok (.iconst 0, 1) := by decide +kernel
theorem dX12_drop_45 : decode cX12_drop 45 = .ok (.iastore, 1) := by decide +kernel
theorem dX12_drop_46 : decode cX12_drop 46 = .ok (.iload_n 2, 1) := by decide +kernel
theorem dX12_drop_47 : decode cX12_drop 47 = .ok (.ireturn, 1) := by decide +kernel
theorem dX12_mayHear_0 : decode cX12_mayHear 0 = .ok (.aload_n 0, 1) := by decide +kernel
theorem dX12_mayHear_1 : decode cX12_mayHear 1 = .ok (.iconst 0, 1) := by decide +kernel
theorem dX12_mayHear_2 : decode cX12_mayHear 2 = .ok (.iload_n 1, 1) := by decide +kernel
theorem dX12_mayHear_3 : decode cX12_mayHear 3 = .ok (.invokevirtual 473, 3) := by decide +kernel
theorem dX12_mayHear_6 : decode cX12_mayHear 6 = .ok (.iload_n 2, 1) := by decide +kernel
theorem dX12_mayHear_7 : decode cX12_mayHear 7 = .ok (.invokestatic 552, 3) := by decide +kernel
theorem dX12_mayHear_10 : decode cX12_mayHear 10 = .ok (.ifCond .ne 13, 3) := by decide +kernel
theorem dX12_mayHear_13 : decode cX12_mayHear 13 = .ok (.aload_n 0, 1) := by decide +kernel
theorem dX12_mayHear_14 : decode cX12_mayHear 14 = .ok (.iconst 0, 1) := by decide +kernel
theorem dX12_mayHear_15 : decode cX12_mayHear 15 = .ok (.iload_n 1, 1) := by decide +kernel
theorem dX12_mayHear_16 : decode cX12_mayHear 16 = .ok (.iload_n 2, 1) := by decide +kernel
theorem dX12_mayHear_17 : decode cX12_mayHear 17 = .ok (.invokevirtual 524, 3) := by decide +kernel
theorem dX12_mayHear_20 : decode cX12_mayHear 20 = .ok (.ifCond .ne 5, 3) := by decide +kernel
theorem dX12_mayHear_23 : decode cX12_mayHear 23 = .ok (.iconst 0, 1) := by decide +kernel
theorem dX12_mayHear_24 : decode cX12_mayHear 24 = .ok (.ireturn, 1) := by decide +kernel
theorem dX12_mayHear_25 : decode cX12_mayHear 25 = .ok (.aload_n 0, 1) := by decide +kernel
theorem dX12_mayHear_26 : decode cX12_mayHear 26 = .ok (.iconst 0, 1) := by decide +kernel
theorem dX12_mayHear_27 : decode cX12_mayHear 27 = .ok (.putfield 222, 3) := by decide +kernel
theorem dX12_mayHear_30 : decode cX12_mayHear 30 = .ok (.aload_n 0, 1) := by decide +kernel
theorem dX12_mayHear_31 : decode cX12_mayHear 31 = .ok (.iload_n 1, 1) := by decide +kernel
theorem dX12_mayHear_32 : decode cX12_mayHear 32 = .ok (.putfield 225, 3) := by decide +kernel
theorem dX12_mayHear_35 : decode cX12_mayHear 35 = .ok (.aload_n 0, 1) := by decide +kernel
theorem dX12_mayHear_36 : decode cX12_mayHear 36 = .ok (.iload_n 2, 1) := by decide +kernel
theorem dX12_mayHear_37 : decode cX12_mayHear 37 = .ok (.putfield 228, 3) := by decide +kernel
theorem dX12_mayHear_40 : decode cX12_mayHear 40 = .ok (.aload_n 0, 1) := by decide +kernel
theorem dX12_mayHear_41 : decode cX12_mayHear 41 = .ok (.getfield 105, 3) := by decide +kernel
theorem dX12_mayHear_44 : decode cX12_mayHear 44 = .ok (.aload_n 0, 1) := by decide +kernel
theorem dX12_mayHear_45 : decode cX12_mayHear 45 = .ok (.getfield 51, 3) := by decide +kernel
theorem dX12_mayHear_48 : decode cX12_mayHear 48 = .ok (.iaload, 1) := by decide +kernel
theorem dX12_mayHear_49 : decode cX12_mayHear 49 = .ok (.iconst (-1), 1) := by decide +kernel
theorem dX12_mayHear_50 : decode cX12_mayHear 50 = .ok (.if_icmp .eq 30, 3) := by decide +kernel
theorem dX12_mayHear_53 : decode cX12_mayHear 53 = .ok (.aload_n 0, 1) := by decide +kernel
theorem dX12_mayHear_54 : decode cX12_mayHear 54 = .ok (.aload_n 0, 1) := by decide +kernel
theorem dX12_mayHear_55 : decode cX12_mayHear 55 = .ok (.getfield 105, 3) := by decide +kernel
theorem dX12_mayHear_58 : decode cX12_mayHear 58 = .ok (.aload_n 0, 1) := by decide +kernel
theorem dX12_mayHear_59 : decode cX12_mayHear 59 = .ok (.getfield 51, 3) := by decide +kernel
theorem dX12_mayHear_62 : decode cX12_mayHear 62 = .ok (.iaload, 1) := by decide +kernel
theorem dX12_mayHear_63 : decode cX12_mayHear 63 = .ok (.aload_n 0, 1) := by decide +kernel
theorem dX12_mayHear_64 : decode cX12_mayHear 64 = .ok (.getfield 108, 3) := by decide +kernel
theorem dX12_mayHear_67 : decode cX12_mayHear 67 = .ok (.aload_n 0, 1) := by decide +kernel
theorem dX12_mayHear_68 : decode cX12_mayHear 68 = .ok (.getfield 51, 3) := by decide +kernel
theorem dX12_mayHear_71 : decode cX12_mayHear 71 = .ok (.iaload, 1) := by decide +kernel
theorem dX12_mayHear_72 : decode cX12_mayHear 72 = .ok (.invokevirtual 514, 3) := by decide +kernel
theorem dX12_mayHear_75 : decode cX12_mayHear 75 = .ok (.lconst 1, 1) := by decide +kernel
theorem dX12_mayHear_76 : decode cX12_mayHear 76 = .ok (.lcmp, 1) := by decide +kernel
theorem dX12_mayHear_77 : decode cX12_mayHear 77 = .ok (.ifCond .ne 7, 3) := by decide +kernel
theorem dX12_mayHear_80 : decode cX12_mayHear 80 = .ok (.iconst 1, 1) := by decide +kernel
theorem dX12_mayHear_81 : decode cX12_mayHear 81 = .ok (.goto 4, 3) := by decide +kernel
theorem dX12_mayHear_84 : decode cX12_mayHear 84 = .ok (.iconst 0, 1) := by decide +kernel
theorem dX12_mayHear_85 : decode cX12_mayHear 85 = .ok (.ireturn, 1) := by decide +kernel
theorem dX12_tell_0 : decode cX12_tell 0 = .ok (.aload_n 0, 1) := by decide +kernel
theorem dX12_tell_1 : decode cX12_tell 1 = .ok (.iload_n 1, 1) := by decide +kernel
theorem dX12_tell_2 : decode cX12_tell 2 = .ok (.invokevirtual 562, 3) := by decide +kernel
theorem dX12_tell_5 : decode cX12_tell 5 = .ok (.ifCond .eq 65, 3) := by decide +kernel
theorem dX12_tell_8 : decode cX12_tell 8 = .ok (.aload_n 0, 1) := by decide +kernel
theorem dX12_tell_9 : decode cX12_tell 9 = .ok (.iload_n 2, 1) := by decide +kernel
theorem dX12_tell_10 : decode cX12_tell 10 = .ok (.invokevirtual 562, 3) := by decide +kernel
theorem dX12_tell_13 : decode cX12_tell 13 = .ok (.ifCond .eq 57, 3) := by decide +kernel
theorem dX12_tell_16 : decode cX12_tell 16 = .ok (.iload_n 1, 1) := by decide +kernel
theorem dX12_tell_17 : decode cX12_tell 17 = .ok (.iload_n 2, 1) := by decide +kernel
theorem dX12_tell_18 : decode cX12_tell 18 = .ok (.if_icmp .eq 52, 3) := by decide +kernel
theorem dX12_tell_21 : decode cX12_tell 21 = .ok (.aload_n 0, 1) := by decide +kernel
theorem dX12_tell_22 : decode cX12_tell 22 = .ok (.iload_n 3, 1) := by decide +kernel
theorem dX12_tell_23 : decode cX12_tell 23 = .ok (.invokevirtual 556, 3) := by decide +kernel
theorem dX12_tell_26 : decode cX12_tell 26 = .ok (.ifCond .eq 44, 3) := by decide +kernel
theorem dX12_tell_29 : decode cX12_tell 29 = .ok (.aload_n 0, 1) := by decide +kernel
theorem dX12_tell_30 : decode cX12_tell 30 = .ok (.getfield 177, 3) := by decide +kernel
theorem dX12_tell_33 : decode cX12_tell 33 = .ok (.iload_n 1, 1) := by decide +kernel
theorem dX12_tell_34 : decode cX12_tell 34 = .ok (.iaload, 1) := by decide +kernel
theorem dX12_tell_35 : decode cX12_tell 35 = .ok (.aload_n 0, 1) := by decide +kernel
theorem dX12_tell_36 : decode cX12_tell 36 = .ok (.getfield 177, 3) := by decide +kernel
theorem dX12_tell_39 : decode cX12_tell 39 = .ok (.iload_n 2, 1) := by decide +kernel
theorem dX12_tell_40 : decode cX12_tell 40 = .ok (.iaload, 1) := by decide +kernel
theorem dX12_tell_41 : decode cX12_tell 41 = .ok (.if_icmp .ne 29, 3) := by decide +kernel
theorem dX12_tell_44 : decode cX12_tell 44 = .ok (.aload_n 0, 1) := by decide +kernel
theorem dX12_tell_45 : decode cX12_tell 45 = .ok (.getfield 180, 3) := by decide +kernel
theorem dX12_tell_48 : decode cX12_tell 48 = .ok (.iload_n 1, 1) := by decide +kernel
theorem dX12_tell_49 : decode cX12_tell 49 = .ok (.iaload, 1) := by decide +kernel
theorem dX12_tell_50 : decode cX12_tell 50 = .ok (.iload_n 3, 1) := by decide +kernel
theorem dX12_tell_51 : decode cX12_tell 51 = .ok (.invokestatic 552, 3) := by decide +kernel
theorem dX12_tell_54 : decode cX12_tell 54 = .ok (.ifCond .eq 16, 3) := by decide +kernel
theorem dX12_tell_57 : decode cX12_tell 57 = .ok (.aload_n 0, 1) := by decide +kernel
theorem dX12_tell_58 : decode cX12_tell 58 = .ok (.iload_n 2, 1) := by decide +kernel
theorem dX12_tell_59 : decode cX12_tell 59 = .ok (.iload_n 3, 1) := by decide +kernel
theorem dX12_tell_60 : decode cX12_tell 60 = .ok (.invokevirtual 578, 3) := by decide +kernel
theorem dX12_tell_63 : decode cX12_tell 63 = .ok (.ifCond .eq 7, 3) := by decide +kernel
theorem dX12_tell_66 : decode cX12_tell 66 = .ok (.iconst 1, 1) := by decide +kernel
theorem dX12_tell_67 : decode cX12_tell 67 = .ok (.goto 4, 3) := by decide +kernel
theorem dX12_tell_70 : decode cX12_tell 70 = .ok (.iconst 0, 1) := by decide +kernel
theorem dX12_tell_71 : decode cX12_tell 71 = .ok (.istore 4, 2) := by decide +kernel
theorem dX12_tell_73 : decode cX12_tell 73 = .ok (.iload 4, 2) := by decide +kernel
theorem dX12_tell_75 : decode cX12_tell 75 = .ok (.ifCond .ne 17, 3) := by decide +kernel
theorem dX12_tell_78 : decode cX12_tell 78 = .ok (.aload_n 0, 1) := by decide +kernel
theorem dX12_tell_79 : decode cX12_tell 79 = .ok (.iconst 2, 1) := by decide +kernel
theorem dX12_tell_80 : decode cX12_tell 80 = .ok (.invokevirtual 279, 3) := by decide +kernel
theorem dX12_tell_83 : decode cX12_tell 83 = .ok (.ifCond .lt 7, 3) := by decide +kernel
theorem dX12_tell_86 : decode cX12_tell 86 = .ok (.iconst 1, 1) := by decide +kernel
theorem dX12_tell_87 : decode cX12_tell 87 = .ok (.goto 4, 3) := by decide +kernel
theorem dX12_tell_90 : decode cX12_tell 90 = .ok (.iconst 0, 1) := by decide +kernel
theorem dX12_tell_91 : decode cX12_tell 91 = .ok (.ireturn, 1) := by decide +kernel
theorem dX12_tell_92 : decode cX12_tell 92 = .ok (.aload_n 0, 1) := by decide +kernel
theorem dX12_tell_93 : decode cX12_tell 93 = .ok (.invokevirtual 572, 3) := by decide +kernel
theorem dX12_tell_96 : decode cX12_tell 96 = .ok (.aload_n 0, 1) := by decide +kernel
theorem dX12_tell_97 : decode cX12_tell 97 = .ok (.getfield 183, 3) := by decide +kernel
theorem dX12_tell_100 : decode cX12_tell 100 = .ok (.iload_n 2, 1) := by decide +kernel
theorem dX12_tell_101 : decode cX12_tell 101 = .ok (.dup2, 1) := by decide +kernel
theorem dX12_tell_102 : decode cX12_tell 102 = .ok (.iaload, 1) := by decide +kernel
theorem dX12_tell_103 : decode cX12_tell 103 = .ok (.iconst 1, 1) := by decide +kernel
theorem dX12_tell_104 : decode cX12_tell 104 = .ok (.iload_n 3, 1) := by decide +kernel
theorem dX12_tell_105 : decode cX12_tell 105 = .ok (.ishl, 1) := by decide +kernel
theorem dX12_tell_106 : decode cX12_tell 106 = .ok (.ior, 1) := by decide +kernel
theorem dX12_tell_107 : decode cX12_tell 107 = .ok (.iastore, 1) := by decide +kernel
theorem dX12_tell_108 : decode cX12_tell 108 = .ok (.aload_n 0, 1) := by decide +kernel
theorem dX12_tell_109 : decode cX12_tell 109 = .ok (.iload_n 2, 1) := by decide +kernel
theorem dX12_tell_110 : decode cX12_tell 110 = .ok (.iload_n 3, 1) := by decide +kernel
theorem dX12_tell_111 : decode cX12_tell 111 = .ok (.invokevirtual 534, 3) := by decide +kernel
theorem dX12_tell_114 : decode cX12_tell 114 = .ok (.aload_n 0, 1) := by decide +kernel
theorem dX12_tell_115 : decode cX12_tell 115 = .ok (.getfield 186, 3) := by decide +kernel
theorem dX12_tell_118 : decode cX12_tell 118 = .ok (.iload_n 2, 1) := by decide +kernel
theorem dX12_tell_119 : decode cX12_tell 119 = .ok (.iaload, 1) := by decide +kernel
theorem dX12_tell_120 : decode cX12_tell 120 = .ok (.iload_n 3, 1) := by decide +kernel
theorem dX12_tell_121 : decode cX12_tell 121 = .ok (.if_icmp .ne 17, 3) := by decide +kernel
theorem dX12_tell_124 : decode cX12_tell 124 = .ok (.aload_n 0, 1) := by decide +kernel
theorem dX12_tell_125 : decode cX12_tell 125 = .ok (.getfield 186, 3) := by decide +kernel
theorem dX12_tell_128 : decode cX12_tell 128 = .ok (.iload_n 2, 1) := by decide +kernel
theorem dX12_tell_129 : decode cX12_tell 129 = .ok (.iconst (-1), 1) := by decide +kernel
theorem dX12_tell_130 : decode cX12_tell 130 = .ok (.iastore, 1) := by decide +kernel
theorem dX12_tell_131 : decode cX12_tell 131 = .ok (.aload_n 0, 1) := by decide +kernel
theorem dX12_tell_132 : decode cX12_tell 132 = .ok (.getfield 189, 3) := by decide +kernel
theorem dX12_tell_135 : decode cX12_tell 135 = .ok (.iload_n 2, 1) := by decide +kernel
theorem dX12_tell_136 : decode cX12_tell 136 = .ok (.iconst 0, 1) := by decide +kernel
theorem dX12_tell_137 : decode cX12_tell 137 = .ok (.iastore, 1) := by decide +kernel
theorem dX12_tell_138 : decode cX12_tell 138 = .ok (.iconst 1, 1) := by decide +kernel
theorem dX12_tell_139 : decode cX12_tell 139 = .ok (.ireturn, 1) := by decide +kernel
theorem dX12_nightGoes_0 : decode cX12_nightGoes 0 = .ok (.aload_n 0, 1) := by decide +kernel
theorem dX12_nightGoes_1 : decode cX12_nightGoes 1 = .ok (.getfield 174, 3) := by decide +kernel
theorem dX12_nightGoes_4 : decode cX12_nightGoes 4 = .ok (.iconst 0, 1) := by decide +kernel
theorem dX12_nightGoes_5 : decode cX12_nightGoes 5 = .ok (.iaload, 1) := by decide +kernel
theorem dX12_nightGoes_6 : decode cX12_nightGoes 6 = .ok (.aload_n 0, 1) := by decide +kernel
theorem dX12_nightGoes_7 : decode cX12_nightGoes 7 = .ok (.iconst 0, 1) := by decide +kernel
theorem dX12_nightGoes_8 : decode cX12_nightGoes 8 = .ok (.invokevirtual 547, 3) := by decide +kernel
theorem dX12_nightGoes_11 : decode cX12_nightGoes 11 = .ok (.iadd, 1) := by decide +kernel
theorem dX12_nightGoes_12 : decode cX12_nightGoes 12 = .ok (.istore_n 1, 1) := by decide +kernel
theorem dX12_nightGoes_13 : decode cX12_nightGoes 13 = .ok (.aload_n 0, 1) := by decide +kernel
theorem dX12_nightGoes_14 : decode cX12_nightGoes 14 = .ok (.getfield 174, 3) := by decide +kernel
theorem dX12_nightGoes_17 : decode cX12_nightGoes 17 = .ok (.iconst 0, 1) := by decide +kernel
theorem dX12_nightGoes_18 : decode cX12_nightGoes 18 = .ok (.iload_n 1, 1) := by decide +kernel
theorem dX12_nightGoes_19 : decode cX12_nightGoes 19 = .ok (.sipush 9999, 3) := by decide +kernel
theorem dX12_nightGoes_22 : decode cX12_nightGoes 22 = .ok (.if_icmp .le 9, 3) := by decide +kernel
theorem dX12_nightGoes_25 : decode cX12_nightGoes 25 = .ok (.sipush 9999, 3) := by decide +kernel
theorem dX12_nightGoes_28 : decode cX12_nightGoes 28 = .ok (.goto 4, 3) := by decide +kernel
theorem dX12_nightGoes_31 : decode cX12_nightGoes 31 = .ok (.iload_n 1, 1) := by decide +kernel
theorem dX12_nightGoes_32 : decode cX12_nightGoes 32 = .ok (.iastore, 1) := by decide +kernel
theorem dX12_nightGoes_33 : decode cX12_nightGoes 33 = .ok (.aload_n 0, 1) := by decide +kernel
theorem dX12_nightGoes_34 : decode cX12_nightGoes 34 = .ok (.getfield 171, 3) := by decide +kernel
theorem dX12_nightGoes_37 : decode cX12_nightGoes 37 = .ok (.iconst 0, 1) := by decide +kernel
theorem dX12_nightGoes_38 : decode cX12_nightGoes 38 = .ok (.dup2, 1) := by decide +kernel
theorem dX12_nightGoes_39 : decode cX12_nightGoes 39 = .ok (.iaload, 1) := by decide +kernel
theorem dX12_nightGoes_40 : decode cX12_nightGoes 40 = .ok (.iconst 1, 1) := by decide +kernel
theorem dX12_nightGoes_41 : decode cX12_nightGoes 41 = .ok (.iadd, 1) := by decide +kernel
theorem dX12_nightGoes_42 : decode cX12_nightGoes 42 = .ok (.iastore, 1) := by decide +kernel
theorem dX12_nightGoes_43 : decode cX12_nightGoes 43 = .ok (.aload_n 0, 1) := by decide +kernel
theorem dX12_nightGoes_44 : decode cX12_nightGoes 44 = .ok (.getfield 246, 3) := by decide +kernel
theorem dX12_nightGoes_47 : decode cX12_nightGoes 47 = .ok (.ireturn, 1) := by decide +kernel
theorem dX12_night_0 : decode cX12_night 0 = .ok (.aload_n 0, 1) := by decide +kernel
theorem dX12_night_1 : decode cX12_night 1 = .ok (.getfield 171, 3) := by decide +kernel
theorem dX12_night_4 : decode cX12_night 4 = .ok (.iconst 0, 1) := by decide +kernel
theorem dX12_night_5 : decode cX12_night 5 = .ok (.iaload, 1) := by decide +kernel
theorem dX12_night_6 : decode cX12_night 6 = .ok (.sipush 999, 3) := by decide +kernel
theorem dX12_night_9 : decode cX12_night 9 = .ok (.if_icmp .ne 9, 3) := by decide +kernel
theorem dX12_night_12 : decode cX12_night 12 = .ok (.aload_n 0, 1) := by decide +kernel
theorem dX12_night_13 : decode cX12_night 13 = .ok (.iconst 3, 1) := by decide +kernel
theorem dX12_night_14 : decode cX12_night 14 = .ok (.invokevirtual 279, 3) := by decide +kernel
theorem dX12_night_17 : decode cX12_night 17 = .ok (.ireturn, 1) := by decide +kernel
theorem dX12_night_18 : decode cX12_night 18 = .ok (.aload_n 0, 1) := by decide +kernel
theorem dX12_night_19 : decode cX12_night 19 = .ok (.invokevirtual 572, 3) := by decide +kernel
theorem dX12_night_22 : decode cX12_night 22 = .ok (.aload_n 0, 1) := by decide +kernel
theorem dX12_night_23 : decode cX12_night 23 = .ok (.invokevirtual 581, 3) := by decide +kernel
theorem dX12_night_26 : decode cX12_night 26 = .ok (.ireturn, 1) := by decide +kernel
theorem dX12_draw_0 : decode cX12_draw 0 = .ok (.aload_n 0, 1) := by decide +kernel
theorem dX12_draw_1 : decode cX12_draw 1 = .ok (.ldc2_w 584, 3) := by decide +kernel
theorem dX12_draw_4 : decode cX12_draw 4 = .ok (.aload_n 0, 1) := by decide +kernel
theorem dX12_draw_5 : decode cX12_draw 5 = .ok (.getfield 216, 3) := by decide +kernel
theorem dX12_draw_8 : decode cX12_draw 8 = .ok (.lmul, 1) := by decide +kernel
theorem dX12_draw_9 : decode cX12_draw 9 = .ok (.ldc2_w 586, 3) := by decide +kernel
theorem dX12_draw_12 : decode cX12_draw 12 = .ok (.ladd, 1) := by decide +kernel
theorem dX12_draw_13 : decode cX12_draw 13 = .ok (.ldc2_w 588, 3) := by decide +kernel
theorem dX12_draw_16 : decode cX12_draw 16 = .ok (.lrem, 1) := by decide +kernel
theorem dX12_draw_17 : decode cX12_draw 17 = .ok (.putfield 216, 3) := by decide +kernel
theorem dX12_draw_20 : decode cX12_draw 20 = .ok (.aload_n 0, 1) := by decide +kernel
theorem dX12_draw_21 : decode cX12_draw 21 = .ok (.getfield 216, 3) := by decide +kernel
theorem dX12_draw_24 : decode cX12_draw 24 = .ok (.ldc2_w 590, 3) := by decide +kernel
theorem dX12_draw_27 : decode cX12_draw 27 = .ok (.ldiv, 1) := by decide +kernel
theorem dX12_draw_28 : decode cX12_draw 28 = .ok (.iload_n 1, 1) := by decide +kernel
theorem dX12_draw_29 : decode cX12_draw 29 = .ok (.i2l, 1) := by decide +kernel
theorem dX12_draw_30 : decode cX12_draw 30 = .ok (.lrem, 1) := by decide +kernel
theorem dX12_draw_31 : decode cX12_draw 31 = .ok (.l2i, 1) := by decide +kernel
theorem dX12_draw_32 : decode cX12_draw 32 = .ok (.ireturn, 1) := by decide +kernel
theorem dX12_winter_0 : decode cX12_winter 0 = .ok (.iload_n 1, 1) := by decide +kernel
theorem dX12_winter_1 : decode cX12_winter 1 = .ok (.iconst 1, 1) := by decide +kernel
theorem dX12_winter_2 : decode cX12_winter 2 = .ok (.bipush 30, 2) := by decide +kernel
theorem dX12_winter_4 : decode cX12_winter 4 = .ok (.invokestatic 369, 3) := by decide +kernel
theorem dX12_winter_7 : decode cX12_winter 7 = .ok (.ifCond .eq 29, 3) := by decide +kernel
theorem dX12_winter_10 : decode cX12_winter 10 = .ok (.aload_n 0, 1) := by decide +kernel
theorem dX12_winter_11 : decode cX12_winter 11 = .ok (.getfield 171, 3) := by decide +kernel
theorem dX12_winter_14 : decode cX12_winter 14 = .ok (.iconst 0, 1) := by decide +kernel
theorem dX12_winter_15 : decode cX12_winter 15 = .ok (.iaload, 1) := by decide +kernel
theorem dX12_winter_16 : decode cX12_winter 16 = .ok (.iload_n 1, 1) := by decide +kernel
theorem dX12_winter_17 : decode cX12_winter 17 = .ok (.iadd, 1) := by decide +kernel
theorem dX12_winter_18 : decode cX12_winter 18 = .ok (.sipush 999, 3) := by decide +kernel
theorem dX12_winter_21 : decode cX12_winter 21 = .ok (.if_icmp .gt 15, 3) := by decide +kernel
theorem dX12_winter_24 : decode cX12_winter 24 = .ok (.aload_n 0, 1) := by decide +kernel
theorem dX12_winter_25 : decode cX12_winter 25 = .ok (.getfield 84, 3) := by decide +kernel
theorem dX12_winter_28 : decode cX12_winter 28 = .ok (.aload_n 0, 1) := by decide +kernel
theorem dX12_winter_29 : decode cX12_winter 29 = .ok (.getfield 51, 3) := by decide +kernel
theorem dX12_winter_32 : decode cX12_winter 32 = .ok (.iaload, 1) := by decide +kernel
theorem dX12_winter_33 : decode cX12_winter 33 = .ok (.ifCond .ne 9, 3) := by decide +kernel
theorem dX12_winter_36 : decode cX12_winter 36 = .ok (.aload_n 0, 1) := by decide +kernel
theorem dX12_winter_37 : decode cX12_winter 37 = .ok (.iconst 3, 1) := by decide +kernel
theorem dX12_winter_38 : decode cX12_winter 38 = .ok (.invokevirtual 279, 3) := by decide +kernel
theorem dX12_winter_41 : decode cX12_winter 41 = .ok (.ireturn, 1) := by decide +kernel
theorem dX12_winter_42 : decode cX12_winter 42 = .ok (.aload_n 0, 1) := by decide +kernel
theorem dX12_winter_43 : decode cX12_winter 43 = .ok (.invokevirtual 572, 3) := by decide +kernel
theorem dX12_winter_46 : decode cX12_winter 46 = .ok (.iconst 0, 1) := by decide +kernel
theorem dX12_winter_47 : decode cX12_winter 47 = .ok (.istore_n 2, 1) := by decide +kernel
theorem dX12_winter_48 : decode cX12_winter 48 = .ok (.iconst 0, 1) := by decide +kernel
theorem dX12_winter_49 : decode cX12_winter 49 = .ok (.istore_n 3, 1) := by decide +kernel
theorem dX12_winter_50 : decode cX12_winter 50 = .ok (.iload_n 3, 1) := by decide +kernel
theorem dX12_winter_51 : decode cX12_winter 51 = .ok (.iload_n 1, 1) := by decide +kernel
theorem dX12_winter_52 : decode cX12_winter 52 = .ok (.if_icmp .ge 33, 3) := by decide +kernel
theorem dX12_winter_55 : decode cX12_winter 55 = .ok (.aload_n 0, 1) := by decide +kernel
theorem dX12_winter_56 : decode cX12_winter 56 = .ok (.aload_n 0, 1) := by decide +kernel
theorem dX12_winter_57 : decode cX12_winter 57 = .ok (.aload_n 0, 1) := by decide +kernel
theorem dX12_winter_58 : decode cX12_winter 58 = .ok (.getfield 84, 3) := by decide +kernel
theorem dX12_winter_61 : decode cX12_winter 61 = .ok (.aload_n 0, 1) := by decide +kernel
theorem dX12_winter_62 : decode cX12_winter 62 = .ok (.getfield 51, 3) := by decide +kernel
theorem dX12_winter_65 : decode cX12_winter 65 = .ok (.iaload, 1) := by decide +kernel
theorem dX12_winter_66 : decode cX12_winter 66 = .ok (.invokevirtual 592, 3) := by decide +kernel
theorem dX12_winter_69 : decode cX12_winter 69 = .ok (.putfield 234, 3) := by decide +kernel
theorem dX12_winter_72 : decode cX12_winter 72 = .ok (.iload_n 2, 1) := by decide +kernel
theorem dX12_winter_73 : decode cX12_winter 73 = .ok (.aload_n 0, 1) := by decide +kernel
theorem dX12_winter_74 : decode cX12_winter 74 = .ok (.invokevirtual 581, 3) := by decide +kernel
theorem dX12_winter_77 : decode cX12_winter 77 = .ok (.iadd, 1) := by decide +kernel
theorem dX12_winter_78 : decode cX12_winter 78 = .ok (.istore_n 2, 1) := by decide +kernel
theorem dX12_winter_79 : decode cX12_winter 79 = .ok (.iinc 3 1, 3) := by decide +kernel
theorem dX12_winter_82 : decode cX12_winter 82 = .ok (.goto (-32), 3) := by decide +kernel
theorem dX12_winter_85 : decode cX12_winter 85 = .ok (.aload_n 0, 1) := by decide +kernel
theorem dX12_winter_86 : decode cX12_winter 86 = .ok (.iconst (-1), 1) := by decide +kernel
theorem dX12_winter_87 : decode cX12_winter 87 = .ok (.putfield 234, 3) := by decide +kernel
theorem dX12_winter_90 : decode cX12_winter 90 = .ok (.iload_n 2, 1) := by decide +kernel
theorem dX12_winter_91 : decode cX12_winter 91 = .ok (.ireturn, 1) := by decide +kernel
theorem dX12_seed_0 : decode cX12_seed 0 = .ok (.iload_n 1, 1) := by decide +kernel
theorem dX12_seed_1 : decode cX12_seed 1 = .ok (.ifCond .ge 17, 3) := by decide +kernel
theorem dX12_seed_4 : decode cX12_seed 4 = .ok (.aload_n 0, 1) := by decide +kernel
theorem dX12_seed_5 : decode cX12_seed 5 = .ok (.iconst 5, 1) := by decide +kernel
theorem dX12_seed_6 : decode cX12_seed 6 = .ok (.invokevirtual 279, 3) := by decide +kernel
theorem dX12_seed_9 : decode cX12_seed 9 = .ok (.ifCond .lt 7, 3) := by decide +kernel
theorem dX12_seed_12 : decode cX12_seed 12 = .ok (.iconst 1, 1) := by decide +kernel
theorem dX12_seed_13 : decode cX12_seed 13 = .ok (.goto 4, 3) := by decide +kernel
theorem dX12_seed_16 : decode cX12_seed 16 = .ok (.iconst 0, 1) := by decide +kernel
theorem dX12_seed_17 : decode cX12_seed 17 = .ok (.ireturn, 1) := by decide +kernel
theorem dX12_seed_18 : decode cX12_seed 18 = .ok (.aload_n 0, 1) := by decide +kernel
theorem dX12_seed_19 : decode cX12_seed 19 = .ok (.iload_n 1, 1) := by decide +kernel
theorem dX12_seed_20 : decode cX12_seed 20 = .ok (.i2l, 1) := by decide +kernel
theorem dX12_seed_21 : decode cX12_seed 21 = .ok (.putfield 216, 3) := by decide +kernel
theorem dX12_seed_24 : decode cX12_seed 24 = .ok (.iconst 1, 1) := by decide +kernel
theorem dX12_seed_25 : decode cX12_seed 25 = .ok (.ireturn, 1) := by decide +kernel
theorem dX12_kept_0 : decode cX12_kept 0 = .ok (.iload_n 1, 1) := by decide +kernel
theorem dX12_kept_1 : decode cX12_kept 1 = .ok (.iconst 0, 1) := by decide +kernel
theorem dX12_kept_2 : decode cX12_kept 2 = .ok (.aload_n 0, 1) := by decide +kernel
theorem dX12_kept_3 : decode cX12_kept 3 = .ok (.getfield 198, 3) := by decide +kernel
theorem dX12_kept_6 : decode cX12_kept 6 = .ok (.iconst 0, 1) := by decide +kernel
theorem dX12_kept_7 : decode cX12_kept 7 = .ok (.iaload, 1) := by decide +kernel
theorem dX12_kept_8 : decode cX12_kept 8 = .ok (.iconst 1, 1) := by decide +kernel
theorem dX12_kept_9 : decode cX12_kept 9 = .ok (.isub, 1) := by decide +kernel
theorem dX12_kept_10 : decode cX12_kept 10 = .ok (.invokestatic 369, 3) := by decide +kernel
theorem dX12_kept_13 : decode cX12_kept 13 = .ok (.ifCond .eq 12, 3) := by decide +kernel
theorem dX12_kept_16 : decode cX12_kept 16 = .ok (.iload_n 2, 1) := by decide +kernel
theorem dX12_kept_17 : decode cX12_kept 17 = .ok (.iconst 0, 1) := by decide +kernel
theorem dX12_kept_18 : decode cX12_kept 18 = .ok (.iconst 2, 1) := by decide +kernel
theorem dX12_kept_19 : decode cX12_kept 19 = .ok (.invokestatic 369, 3) := by decide +kernel
theorem dX12_kept_22 : decode cX12_kept 22 = .ok (.ifCond .ne 5, 3) := by decide +kernel
theorem dX12_kept_25 : decode cX12_kept 25 = .ok (.iconst (-1), 1) := by decide +kernel
theorem dX12_kept_26 : decode cX12_kept 26 = .ok (.ireturn, 1) := by decide +kernel
theorem dX12_kept_27 : decode cX12_kept 27 = .ok (.iload_n 2, 1) := by decide +kernel
theorem dX12_kept_28 : decode cX12_kept 28 = .ok (.ifCond .ne 12, 3) := by decide +kernel
theorem dX12_kept_31 : decode cX12_kept 31 = .ok (.aload_n 0, 1) := by decide +kernel
theorem dX12_kept_32 : decode cX12_kept 32 = .ok (.getfield 201, 3) := by decide +kernel
theorem dX12_kept_35 : decode cX12_kept 35 = .ok (.iload_n 1, 1) := by decide +kernel
theorem dX12_kept_36 : decode cX12_kept 36 = .ok (.iaload, 1) := by decide +kernel
theorem dX12_kept_37 : decode cX12_kept 37 = .ok (.goto 23, 3) := by decide +kernel
theorem dX12_kept_40 : decode cX12_kept 40 = .ok (.iload_n 2, 1) := by decide +kernel
theorem dX12_kept_41 : decode cX12_kept 41 = .ok (.iconst 1, 1) := by decide +kernel
theorem dX12_kept_42 : decode cX12_kept 42 = .ok (.if_icmp .ne 12, 3) := by decide +kernel
theorem dX12_kept_45 : decode cX12_kept 45 = .ok (.aload_n 0, 1) := by decide +kernel
theorem dX12_kept_46 : decode cX12_kept 46 = .ok (.getfield 204, 3) := by decide +kernel
theorem dX12_kept_49 : decode cX12_kept 49 = .ok (.iload_n 1, 1) := by decide +kernel
theorem dX12_kept_50 : decode cX12_kept 50 = .ok (.iaload, 1) := by decide +kernel
theorem dX12_kept_51 : decode cX12_kept 51 = .ok (.goto 9, 3) := by decide +kernel
theorem dX12_kept_54 : decode cX12_kept 54 = .ok (.aload_n 0, 1) := by decide +kernel
theorem dX12_kept_55 : decode cX12_kept 55 = .ok (.getfield 207, 3) := by decide +kernel
theorem dX12_kept_58 : decode cX12_kept 58 = .ok (.iload_n 1, 1) := by decide +kernel
theorem dX12_kept_59 : decode cX12_kept 59 = .ok (.iaload, 1) := by decide +kernel
theorem dX12_kept_60 : decode cX12_kept 60 = .ok (.ireturn, 1) := by decide +kernel
theorem dX12_isQuestion_0 : decode cX12_isQuestion 0 = .ok (.iload_n 1, 1) := by decide +kernel
theorem dX12_isQuestion_1 : decode cX12_isQuestion 1 = .ok (.iconst 0, 1) := by decide +kernel
theorem dX12_isQuestion_2 : decode cX12_isQuestion 2 = .ok (.iconst 1, 1) := by decide +kernel
theorem dX12_isQuestion_3 : decode cX12_isQuestion 3 = .ok (.aload_n 0, 1) := by decide +kernel
theorem dX12_isQuestion_4 : decode cX12_isQuestion 4 = .ok (.getfield 57, 3) := by decide +kernel
theorem dX12_isQuestion_7 : decode cX12_isQuestion 7 = .ok (.aload_n 0, 1) := by decide +kernel
theorem dX12_isQuestion_8 : decode cX12_isQuestion 8 = .ok (.getfield 51, 3) := by decide +kernel
theorem dX12_isQuestion_11 : decode cX12_isQuestion 11 = .ok (.iaload, 1) := by decide +kernel
theorem dX12_isQuestion_12 : decode cX12_isQuestion 12 = .ok (.ishl, 1) := by decide +kernel
theorem dX12_isQuestion_13 : decode cX12_isQuestion 13 = .ok (.iconst 1, 1) := by decide +kernel
theorem dX12_isQuestion_14 : decode cX12_isQuestion 14 = .ok (.isub, 1) := by decide +kernel
theorem dX12_isQuestion_15 : decode cX12_isQuestion 15 = .ok (.invokestatic 369, 3) := by decide +kernel
theorem dX12_isQuestion_18 : decode cX12_isQuestion 18 = .ok (.ireturn, 1) := by decide +kernel
theorem dX12_minutesOf_0 : decode cX12_minutesOf 0 = .ok (.iconst 0, 1) := by decide +kernel
theorem dX12_minutesOf_1 : decode cX12_minutesOf 1 = .ok (.istore_n 3, 1) := by decide +kernel
theorem dX12_minutesOf_2 : decode cX12_minutesOf 2 = .ok (.iconst 0, 1) := by decide +kernel
theorem dX12_minutesOf_3 : decode cX12_minutesOf 3 = .ok (.istore 4, 2) := by decide +kernel
theorem dX12_minutesOf_5 : decode cX12_minutesOf 5 = .ok (.iload 4, 2) := by decide +kernel
theorem dX12_minutesOf_7 : decode cX12_minutesOf 7 = .ok (.aload_n 0, 1) := by decide +kernel
theorem dX12_minutesOf_8 : decode cX12_minutesOf 8 = .ok (.getfield 57, 3) := by decide +kernel
theorem dX12_minutesOf_11 : decode cX12_minutesOf 11 = .ok (.aload_n 0, 1) := by decide +kernel
theorem dX12_minutesOf_12 : decode cX12_minutesOf 12 = .ok (.getfield 51, 3) := by decide +kernel
theorem dX12_minutesOf_15 : decode cX12_minutesOf 15 = .ok (.iaload, 1) := by decide +kernel
theorem dX12_minutesOf_16 : decode cX12_minutesOf 16 = .ok (.if_icmp .ge 33, 3) := by decide +kernel
theorem dX12_minutesOf_19 : decode cX12_minutesOf 19 = .ok (.iload_n 3, 1) := by decide +kernel
theorem dX12_minutesOf_20 : decode cX12_minutesOf 20 = .ok (.iload_n 2, 1) := by decide +kernel
theorem dX12_minutesOf_21 : decode cX12_minutesOf 21 = .ok (.iload 4, 2) := by decide +kernel
theorem dX12_minutesOf_23 : decode cX12_minutesOf 23 = .ok (.invokestatic 552, 3) := by decide +kernel
theorem dX12_minutesOf_26 : decode cX12_minutesOf 26 = .ok (.ifCond .eq 14, 3) := by decide +kernel
theorem dX12_minutesOf_29 : decode cX12_minutesOf 29 = .ok (.aload_n 0, 1) := by decide +kernel
theorem dX12_minutesOf_30 : decode cX12_minutesOf 30 = .ok (.iconst 0, 1) := by decide +kernel
theorem dX12_minutesOf_31 : decode cX12_minutesOf 31 = .ok (.iload_n 1, 1) := by decide +kernel
theorem dX12_minutesOf_32 : decode cX12_minutesOf 32 = .ok (.iload 4, 2) := by decide +kernel
theorem dX12_minutesOf_34 : decode cX12_minutesOf 34 = .ok (.invokevirtual 530, 3) := by decide +kernel
theorem dX12_minutesOf_37 : decode cX12_minutesOf 37 = .ok (.goto 4, 3) := by decide +kernel
theorem dX12_minutesOf_40 : decode cX12_minutesOf 40 = .ok (.iconst 0, 1) := by decide +kernel
theorem dX12_minutesOf_41 : decode cX12_minutesOf 41 = .ok (.iadd, 1) := by decide +kernel
theorem dX12_minutesOf_42 : decode cX12_minutesOf 42 = .ok (.istore_n 3, 1) := by decide +kernel
theorem dX12_minutesOf_43 : decode cX12_minutesOf 43 = .ok (.iinc 4 1, 3) := by decide +kernel
theorem dX12_minutesOf_46 : decode cX12_minutesOf 46 = .ok (.goto (-41), 3) := by decide +kernel
theorem dX12_minutesOf_49 : decode cX12_minutesOf 49 = .ok (.iload_n 3, 1) := by decide +kernel
theorem dX12_minutesOf_50 : decode cX12_minutesOf 50 = .ok (.ireturn, 1) := by decide +kernel
theorem dX12_workOf_0 : decode cX12_workOf 0 = .ok (.aload_n 0, 1) := by decide +kernel
theorem dX12_workOf_1 : decode cX12_workOf 1 = .ok (.iload_n 1, 1) := by decide +kernel
theorem dX12_workOf_2 : decode cX12_workOf 2 = .ok (.aload_n 0, 1) := by decide +kernel
theorem dX12_workOf_3 : decode cX12_workOf 3 = .ok (.iload_n 2, 1) := by decide +kernel
theorem dX12_workOf_4 : decode cX12_workOf 4 = .ok (.aload_n 0, 1) := by decide +kernel
theorem dX12_workOf_5 : decode cX12_workOf 5 = .ok (.iconst 0, 1) := by decide +kernel
theorem dX12_workOf_6 : decode cX12_workOf 6 = .ok (.iload_n 1, 1) := by decide +kernel
theorem dX12_workOf_7 : decode cX12_workOf 7 = .ok (.invokevirtual 473, 3) := by decide +kernel
theorem dX12_workOf_10 : decode cX12_workOf 10 = .ok (.iload_n 3, 1) := by decide +kernel
theorem dX12_workOf_11 : decode cX12_workOf 11 = .ok (.invokevirtual 559, 3) := by decide +kernel
theorem dX12_workOf_14 : decode cX12_workOf 14 = .ok (.invokevirtual 595, 3) := by decide +kernel
theorem dX12_workOf_17 : decode cX12_workOf 17 = .ok (.ireturn, 1) := by decide +kernel
theorem dX12_nightsFor_0 : decode cX12_nightsFor 0 = .ok (.iload_n 2, 1) := by decide +kernel
theorem dX12_nightsFor_1 : decode cX12_nightsFor 1 = .ok (.ifCond .ne 5, 3) := by decide +kernel
theorem dX12_nightsFor_4 : decode cX12_nightsFor 4 = .ok (.iconst 0, 1) := by decide +kernel
theorem dX12_nightsFor_5 : decode cX12_nightsFor 5 = .ok (.ireturn, 1) := by decide +kernel
theorem dX12_nightsFor_6 : decode cX12_nightsFor 6 = .ok (.aload_n 0, 1) := by decide +kernel
theorem dX12_nightsFor_7 : decode cX12_nightsFor 7 = .ok (.iconst 0, 1) := by decide +kernel
theorem dX12_nightsFor_8 : decode cX12_nightsFor 8 = .ok (.aload_n 0, 1) := by decide +kernel
theorem dX12_nightsFor_9 : decode cX12_nightsFor 9 = .ok (.getfield 177, 3) := by decide +kernel
theorem dX12_nightsFor_12 : decode cX12_nightsFor 12 = .ok (.iload_n 1, 1) := by decide +kernel
theorem dX12_nightsFor_13 : decode cX12_nightsFor 13 = .ok (.iaload, 1) := by decide +kernel
theorem dX12_nightsFor_14 : decode cX12_nightsFor 14 = .ok (.invokevirtual 541, 3) := by decide +kernel
theorem dX12_nightsFor_17 : decode cX12_nightsFor 17 = .ok (.istore_n 3, 1) := by decide +kernel
theorem dX12_nightsFor_18 : decode cX12_nightsFor 18 = .ok (.iload_n 3, 1) := by decide +kernel
theorem dX12_nightsFor_19 : decode cX12_nightsFor 19 = .ok (.ifCond .ne 7, 3) := by decide +kernel
theorem dX12_nightsFor_22 : decode cX12_nightsFor 22 = .ok (.iconst (-1), 1) := by decide +kernel
theorem dX12_nightsFor_23 : decode cX12_nightsFor 23 = .ok (.goto 10, 3) := by decide +kernel
theorem dX12_nightsFor_26 : decode cX12_nightsFor 26 = .ok (.iload_n 2, 1) := by decide +kernel
theorem dX12_nightsFor_27 : decode cX12_nightsFor 27 = .ok (.iload_n 3, 1) := by decide +kernel
theorem dX12_nightsFor_28 : decode cX12_nightsFor 28 = .ok (.iadd, 1) := by decide +kernel
theorem dX12_nightsFor_29 : decode cX12_nightsFor 29 = .ok (.iconst 1, 1) := by decide +kernel
theorem dX12_nightsFor_30 : decode cX12_nightsFor 30 = .ok (.isub, 1) := by decide +kernel
theorem dX12_nightsFor_31 : decode cX12_nightsFor 31 = .ok (.iload_n 3, 1) := by decide +kernel
theorem dX12_nightsFor_32 : decode cX12_nightsFor 32 = .ok (.idiv, 1) := by decide +kernel
theorem dX12_nightsFor_33 : decode cX12_nightsFor 33 = .ok (.ireturn, 1) := by decide +kernel
theorem dX12_work_0 : decode cX12_work 0 = .ok (.aload_n 0, 1) := by decide +kernel
theorem dX12_work_1 : decode cX12_work 1 = .ok (.iload_n 1, 1) := by decide +kernel
theorem dX12_work_2 : decode cX12_work 2 = .ok (.invokevirtual 562, 3) := by decide +kernel
theorem dX12_work_5 : decode cX12_work 5 = .ok (.ifCond .eq 20, 3) := by decide +kernel
theorem dX12_work_8 : decode cX12_work 8 = .ok (.aload_n 0, 1) := by decide +kernel
theorem dX12_work_9 : decode cX12_work 9 = .ok (.iload_n 2, 1) := by decide +kernel
theorem dX12_work_10 : decode cX12_work 10 = .ok (.invokevirtual 598, 3) := by decide +kernel
theorem dX12_work_13 : decode cX12_work 13 = .ok (.ifCond .eq 12, 3) := by decide +kernel
theorem dX12_work_16 : decode cX12_work 16 = .ok (.iload_n 3, 1) := by decide +kernel
theorem dX12_work_17 : decode cX12_work 17 = .ok (.iconst 0, 1) := by decide +kernel
theorem dX12_work_18 : decode cX12_work 18 = .ok (.iconst 2, 1) := by decide +kernel
theorem dX12_work_19 : decode cX12_work 19 = .ok (.invokestatic 369, 3) := by decide +kernel
theorem dX12_work_22 : decode cX12_work 22 = .ok (.ifCond .ne 5, 3) := by decide +kernel
theorem dX12_work_25 : decode cX12_work 25 = .ok (.iconst (-1), 1) := by decide +kernel
theorem dX12_work_26 : decode cX12_work 26 = .ok (.ireturn, 1) := by decide +kernel
theorem dX12_work_27 : decode cX12_work 27 = .ok (.aload_n 0, 1) := by decide +kernel
theorem dX12_work_28 : decode cX12_work 28 = .ok (.iload_n 1, 1) := by decide +kernel
theorem dX12_work_29 : decode cX12_work 29 = .ok (.iload_n 2, 1) := by decide +kernel
theorem dX12_work_30 : decode cX12_work 30 = .ok (.iconst (-1), 1) := by decide +kernel
theorem dX12_work_31 : decode cX12_work 31 = .ok (.invokevirtual 601, 3) := by decide +kernel
theorem dX12_work_34 : decode cX12_work 34 = .ok (.istore 4, 2) := by decide +kernel
theorem dX12_work_36 : decode cX12_work 36 = .ok (.aload_n 0, 1) := by decide +kernel
theorem dX12_work_37 : decode cX12_work 37 = .ok (.iload_n 1, 1) := by decide +kernel
theorem dX12_work_38 : decode cX12_work 38 = .ok (.iload 4, 2) := by decide +kernel
theorem dX12_work_40 : decode cX12_work 40 = .ok (.invokevirtual 604, 3) := by decide +kernel
theorem dX12_work_43 : decode cX12_work 43 = .ok (.istore 5, 2) := by decide +kernel
theorem dX12_work_45 : decode cX12_work 45 = .ok (.iload_n 3, 1) := by decide +kernel
theorem dX12_work_46 : decode cX12_work 46 = .ok (.ifCond .ne 8, 3) := by decide +kernel
theorem dX12_work_49 : decode cX12_work 49 = .ok (.iload 4, 2) := by decide +kernel
theorem dX12_work_51 : decode cX12_work 51 = .ok (.goto 25, 3) := by decide +kernel
theorem dX12_work_54 : decode cX12_work 54 = .ok (.iload_n 3, 1) := by decide +kernel
theorem dX12_work_55 : decode cX12_work 55 = .ok (.iconst 1, 1) := by decide +kernel
theorem dX12_work_56 : decode cX12_work 56 = .ok (.if_icmp .ne 8, 3) := by decide +kernel
theorem dX12_work_59 : decode cX12_work 59 = .ok (.iload 5, 2) := by decide +kernel
theorem dX12_work_61 : decode cX12_work 61 = .ok (.goto 15, 3) := by decide +kernel
theorem dX12_work_64 : decode cX12_work 64 = .ok (.aload_n 0, 1) := by decide +kernel
theorem dX12_work_65 : decode cX12_work 65 = .ok (.iload_n 2, 1) := by decide +kernel
theorem dX12_work_66 : decode cX12_work 66 = .ok (.aload_n 0, 1) := by decide +kernel
theorem dX12_work_67 : decode cX12_work 67 = .ok (.iconst 0, 1) := by decide +kernel
theorem dX12_work_68 : decode cX12_work 68 = .ok (.iload_n 1, 1) := by decide +kernel
theorem dX12_work_69 : decode cX12_work 69 = .ok (.invokevirtual 473, 3) := by decide +kernel
theorem dX12_work_72 : decode cX12_work 72 = .ok (.iconst (-1), 1) := by decide +kernel
theorem dX12_work_73 : decode cX12_work 73 = .ok (.invokevirtual 559, 3) := by decide +kernel
theorem dX12_work_76 : decode cX12_work 76 = .ok (.ireturn, 1) := by decide +kernel
theorem dX12_scholar_0 : decode cX12_scholar 0 = .ok (.aload_n 0, 1) := by decide +kernel
theorem dX12_scholar_1 : decode cX12_scholar 1 = .ok (.iload_n 1, 1) := by decide +kernel
theorem dX12_scholar_2 : decode cX12_scholar 2 = .ok (.invokevirtual 598, 3) := by decide +kernel
theorem dX12_scholar_5 : decode cX12_scholar 5 = .ok (.ifCond .ne 5, 3) := by decide +kernel
theorem dX12_scholar_8 : decode cX12_scholar 8 = .ok (.iconst (-1), 1) := by decide +kernel
theorem dX12_scholar_9 : decode cX12_scholar 9 = .ok (.ireturn, 1) := by decide +kernel
theorem dX12_scholar_10 : decode cX12_scholar 10 = .ok (.iconst (-1), 1) := by decide +kernel
theorem dX12_scholar_11 : decode cX12_scholar 11 = .ok (.istore_n 2, 1) := by decide +kernel
theorem dX12_scholar_12 : decode cX12_scholar 12 = .ok (.ldc_w 607, 3) := by decide +kernel
theorem dX12_scholar_15 : decode cX12_scholar 15 = .ok (.istore_n 3, 1) := by decide +kernel
theorem dX12_scholar_16 : decode cX12_scholar 16 = .ok (.iconst 0, 1) := by decide +kernel
theorem dX12_scholar_17 : decode cX12_scholar 17 = .ok (.istore 4, 2) := by decide +kernel
theorem dX12_scholar_19 : decode cX12_scholar 19 = .ok (.iload 4, 2) := by decide +kernel
theorem dX12_scholar_21 : decode cX12_scholar 21 = .ok (.aload_n 0, 1) := by decide +kernel
theorem dX12_scholar_22 : decode cX12_scholar 22 = .ok (.getfield 75, 3) := by decide +kernel
theorem dX12_scholar_25 : decode cX12_scholar 25 = .ok (.aload_n 0, 1) := by decide +kernel
theorem dX12_scholar_26 : decode cX12_scholar 26 = .ok (.getfield 51, 3) := by decide +kernel
theorem dX12_scholar_29 : decode cX12_scholar 29 = .ok (.iaload, 1) := by decide +kernel
theorem dX12_scholar_30 : decode cX12_scholar 30 = .ok (.if_icmp .ge 46, 3) := by decide +kernel
theorem dX12_scholar_33 : decode cX12_scholar 33 = .ok (.aload_n 0, 1) := by decide +kernel
theorem dX12_scholar_34 : decode cX12_scholar 34 = .ok (.iload 4, 2) := by decide +kernel
theorem dX12_scholar_36 : decode cX12_scholar 36 = .ok (.aload_n 0, 1) := by decide +kernel
theorem dX12_scholar_37 : decode cX12_scholar 37 = .ok (.iload 4, 2) := by decide +kernel
theorem dX12_scholar_39 : decode cX12_scholar 39 = .ok (.iload_n 1, 1) := by decide +kernel
theorem dX12_scholar_40 : decode cX12_scholar 40 = .ok (.iconst (-1), 1) := by decide +kernel
theorem dX12_scholar_41 : decode cX12_scholar 41 = .ok (.invokevirtual 601, 3) := by decide +kernel
theorem dX12_scholar_44 : decode cX12_scholar 44 = .ok (.invokevirtual 604, 3) := by decide +kernel
theorem dX12_scholar_47 : decode cX12_scholar 47 = .ok (.istore 5, 2) := by decide +kernel
theorem dX12_scholar_49 : decode cX12_scholar 49 = .ok (.iload 5, 2) := by decide +kernel
theorem dX12_scholar_51 : decode cX12_scholar 51 = .ok (.iconst (-1), 1) := by decide +kernel
theorem dX12_scholar_52 : decode cX12_scholar 52 = .ok (.if_icmp .eq 18, 3) := by decide +kernel
theorem dX12_scholar_55 : decode cX12_scholar 55 = .ok (.iload 5, 2) := by decide +kernel
theorem dX12_scholar_57 : decode cX12_scholar 57 = .ok (.iload_n 3, 1) := by decide +kernel
theorem dX12_scholar_58 : decode cX12_scholar 58 = .ok (.if_icmp .lt 6, 3) := by decide +kernel
theorem dX12_scholar_61 : decode cX12_scholar 61 = .ok (.goto 9, 3) := by decide +kernel
theorem dX12_scholar_64 : decode cX12_scholar 64 = .ok (.iload 4, 2) := by decide +kernel
theorem dX12_scholar_66 : decode cX12_scholar 66 = .ok (.istore_n 2, 1) := by decide +kernel
theorem dX12_scholar_67 : decode cX12_scholar 67 = .ok (.iload 5, 2) := by decide +kernel
theorem dX12_scholar_69 : decode cX12_scholar 69 = .ok (.istore_n 3, 1) := by decide +kernel
theorem dX12_scholar_70 : decode cX12_scholar 70 = .ok (.iinc 4 1, 3) := by decide +kernel
theorem dX12_scholar_73 : decode cX12_scholar 73 = .ok (.goto (-54), 3) := by decide +kernel
theorem dX12_scholar_76 : decode cX12_scholar 76 = .ok (.iload_n 2, 1) := by decide +kernel
theorem dX12_scholar_77 : decode cX12_scholar 77 = .ok (.ireturn, 1) := by decide +kernel
theorem dX12_sharesOut_0 : decode cX12_sharesOut 0 = .ok (.iconst 0, 1) := by decide +kernel
theorem dX12_sharesOut_1 : decode cX12_sharesOut 1 = .ok (.istore_n 3, 1) := by decide +kernel
theorem dX12_sharesOut_2 : decode cX12_sharesOut 2 = .ok (.iload_n 3, 1) := by decide +kernel
theorem dX12_sharesOut_3 : decode cX12_sharesOut 3 = .ok (.iload_n 2, 1) := by decide +kernel
theorem dX12_sharesOut_4 : decode cX12_sharesOut 4 = .ok (.if_icmp .ge 124, 3) := by decide +kernel
theorem dX12_sharesOut_7 : decode cX12_sharesOut 7 = .ok (.iconst 0, 1) := by decide +kernel
theorem dX12_sharesOut_8 : decode cX12_sharesOut 8 = .ok (.istore 4, 2) := by decide +kernel
theorem dX12_sharesOut_10 : decode cX12_sharesOut 10 = .ok (.iload 4, 2) := by decide +kernel
theorem dX12_sharesOut_12 : decode cX12_sharesOut 12 = .ok (.iconst 1, 1) := by decide +kernel
theorem dX12_sharesOut_13 : decode cX12_sharesOut 13 = .ok (.iload_n 1, 1) := by decide +kernel
theorem dX12_sharesOut_14 : decode cX12_sharesOut 14 = .ok (.ishl, 1) := by decide +kernel
theorem dX12_sharesOut_15 : decode cX12_sharesOut 15 = .ok (.if_icmp .ge 107, 3) := by decide +kernel
theorem dX12_sharesOut_18 : decode cX12_sharesOut 18 = .ok (.iconst 0, 1) := by decide +kernel
theorem dX12_sharesOut_19 : decode cX12_sharesOut 19 = .ok (.istore 5, 2) := by decide +kernel
theorem dX12_sharesOut_21 : decode cX12_sharesOut 21 = .ok (.iconst 0, 1) := by decide +kernel
theorem dX12_sharesOut_22 : decode cX12_sharesOut 22 = .ok (.istore 6, 2) := by decide +kernel
theorem dX12_sharesOut_24 : decode cX12_sharesOut 24 = .ok (.iload 6, 2) := by decide +kernel
theorem dX12_sharesOut_26 : decode cX12_sharesOut 26 = .ok (.iload_n 1, 1) := by decide +kernel
theorem dX12_sharesOut_27 : decode cX12_sharesOut 27 = .ok (.if_icmp .ge 37, 3) := by decide +kernel
theorem dX12_sharesOut_30 : decode cX12_sharesOut 30 = .ok (.iload 5, 2) := by decide +kernel
theorem dX12_sharesOut_32 : decode cX12_sharesOut 32 = .ok (.iload 4, 2) := by decide +kernel
theorem dX12_sharesOut_34 : decode cX12_sharesOut 34 = .ok (.iload 6, 2) := by decide +kernel
theorem dX12_sharesOut_36 : decode cX12_sharesOut 36 = .ok (.invokestatic 552, 3) := by decide +kernel
theorem dX12_sharesOut_39 : decode cX12_sharesOut 39 = .ok (.ifCond .eq 15, 3) := by decide +kernel
theorem dX12_sharesOut_42 : decode cX12_sharesOut 42 = .ok (.iconst 1, 1) := by decide +kernel
theorem dX12_sharesOut_43 : decode cX12_sharesOut 43 = .ok (.aload_n 0, 1) := by decide +kernel
theorem dX12_sharesOut_44 : decode cX12_sharesOut 44 = .ok (.getfield 249, 3) := by decide +kernel
theorem dX12_sharesOut_47 : decode cX12_sharesOut 47 = .ok (.iload 6, 2) := by decide +kernel
theorem dX12_sharesOut_49 : decode cX12_sharesOut 49 = .ok (.iaload, 1) := by decide +kernel
theorem dX12_sharesOut_50 : decode cX12_sharesOut 50 = .ok (.ishl, 1) := by decide +kernel
theorem dX12_sharesOut_51 : decode cX12_sharesOut 51 = .ok (.goto 4, 3) := by decide +kernel
theorem dX12_sharesOut_54 : decode cX12_sharesOut 54 = .ok (.iconst 0, 1) := by decide +kernel
theorem dX12_sharesOut_55 : decode cX12_sharesOut 55 = .ok (.ior, 1) := by decide +kernel
theorem dX12_sharesOut_56 : decode cX12_sharesOut 56 = .ok (.istore 5, 2) := by decide +kernel
theorem dX12_sharesOut_58 : decode cX12_sharesOut 58 = .ok (.iinc 6 1, 3) := by decide +kernel
theorem dX12_sharesOut_61 : decode cX12_sharesOut 61 = .ok (.goto (-37), 3) := by decide +kernel
theorem dX12_sharesOut_64 : decode cX12_sharesOut 64 = .ok (.aload_n 0, 1) := by decide +kernel
theorem dX12_sharesOut_65 : decode cX12_sharesOut 65 = .ok (.getfield 252, 3) := by decide +kernel
theorem dX12_sharesOut_68 : decode cX12_sharesOut 68 = .ok (.sipush 256, 3) := by decide +kernel
theorem dX12_sharesOut_71 : decode cX12_sharesOut 71 = .ok (.iload_n 3, 1) := by decide +kernel
theorem dX12_sharesOut_72 : decode cX12_sharesOut 72 = .ok (.imul, 1) := by decide +kernel
theorem dX12_sharesOut_73 : decode cX12_sharesOut 73 = .ok (.iload 4, 2) := by decide +kernel
theorem dX12_sharesOut_75 : decode cX12_sharesOut 75 = .ok (.iadd, 1) := by decide +kernel
theorem dX12_sharesOut_76 : decode cX12_sharesOut 76 = .ok (.aload_n 0, 1) := by decide +kernel
theorem dX12_sharesOut_77 : decode cX12_sharesOut 77 = .ok (.iload_n 3, 1) := by decide +kernel
theorem dX12_sharesOut_78 : decode cX12_sharesOut 78 = .ok (.iload 5, 2) := by decide +kernel
theorem dX12_sharesOut_80 : decode cX12_sharesOut 80 = .ok (.iconst (-1), 1) := by decide +kernel
theorem dX12_sharesOut_81 : decode cX12_sharesOut 81 = .ok (.invokevirtual 601, 3) := by decide +kernel
theorem dX12_sharesOut_84 : decode cX12_sharesOut 84 = .ok (.iastore, 1) := by decide +kernel
theorem dX12_sharesOut_85 : decode cX12_sharesOut 85 = .ok (.aload_n 0, 1) := by decide +kernel
theorem dX12_sharesOut_86 : decode cX12_sharesOut 86 = .ok (.getfield 255, 3) := by decide +kernel
theorem dX12_sharesOut_89 : decode cX12_sharesOut 89 = .ok (.sipush 256, 3) := by decide +kernel
theorem dX12_sharesOut_92 : decode cX12_sharesOut 92 = .ok (.iload_n 3, 1) := by decide +kernel
theorem dX12_sharesOut_93 : decode cX12_sharesOut 93 = .ok (.imul, 1) := by decide +kernel
theorem dX12_sharesOut_94 : decode cX12_sharesOut 94 = .ok (.iload 4, 2) := by decide +kernel
theorem dX12_sharesOut_96 : decode cX12_sharesOut 96 = .ok (.iadd, 1) := by decide +kernel
theorem dX12_sharesOut_97 : decode cX12_sharesOut 97 = .ok (.aload_n 0, 1) := by decide +kernel
theorem dX12_sharesOut_98 : decode cX12_sharesOut 98 = .ok (.iload_n 3, 1) := by decide +kernel
theorem dX12_sharesOut_99 : decode cX12_sharesOut 99 = .ok (.aload_n 0, 1) := by decide +kernel
theorem dX12_sharesOut_100 : decode cX12_sharesOut 100 = .ok (.getfield 252, 3) := by decide +kernel
theorem dX12_sharesOut_103 : decode cX12_sharesOut 103 = .ok (.sipush 256, 3) := by decide +kernel
theorem dX12_sharesOut_106 : decode cX12_sharesOut 106 = .ok (.iload_n 3, 1) := by decide +kernel
theorem dX12_sharesOut_107 : decode cX12_sharesOut 107 = .ok (.imul, 1) := by decide +kernel
theorem dX12_sharesOut_108 : decode cX12_sharesOut 108 = .ok (.iload 4, 2) := by decide +kernel
theorem dX12_sharesOut_110 : decode cX12_sharesOut 110 = .ok (.iadd, 1) := by decide +kernel
theorem dX12_sharesOut_111 : decode cX12_sharesOut 111 = .ok (.iaload, 1) := by decide +kernel
theorem dX12_sharesOut_112 : decode cX12_sharesOut 112 = .ok (.invokevirtual 604, 3) := by decide +kernel
theorem dX12_sharesOut_115 : decode cX12_sharesOut 115 = .ok (.iastore, 1) := by decide +kernel
theorem dX12_sharesOut_116 : decode cX12_sharesOut 116 = .ok (.iinc 4 1, 3) := by decide +kernel
theorem dX12_sharesOut_119 : decode cX12_sharesOut 119 = .ok (.goto (-109), 3) := by decide +kernel
theorem dX12_sharesOut_122 : decode cX12_sharesOut 122 = .ok (.iinc 3 1, 3) := by decide +kernel
theorem dX12_sharesOut_125 : decode cX12_sharesOut 125 = .ok (.goto (-123), 3) := by decide +kernel
theorem dX12_sharesOut_128 : decode cX12_sharesOut 128 = .ok (.return_, 1) := by decide +kernel
theorem dX12_shares_0 : decode cX12_shares 0 = .ok (.aload_n 0, 1) := by decide +kernel
theorem dX12_shares_1 : decode cX12_shares 1 = .ok (.iload_n 1, 1) := by decide +kernel
theorem dX12_shares_2 : decode cX12_shares 2 = .ok (.iload_n 2, 1) := by decide +kernel
theorem dX12_shares_3 : decode cX12_shares 3 = .ok (.invokevirtual 608, 3) := by decide +kernel
theorem dX12_shares_6 : decode cX12_shares 6 = .ok (.iconst 1, 1) := by decide +kernel
theorem dX12_shares_7 : decode cX12_shares 7 = .ok (.istore_n 3, 1) := by decide +kernel
theorem dX12_shares_8 : decode cX12_shares 8 = .ok (.iconst 0, 1) := by decide +kernel
theorem dX12_shares_9 : decode cX12_shares 9 = .ok (.istore 4, 2) := by decide +kernel
theorem dX12_shares_11 : decode cX12_shares 11 = .ok (.iload 4, 2) := by decide +kernel
theorem dX12_shares_13 : decode cX12_shares 13 = .ok (.iload_n 1, 1) := by decide +kernel
theorem dX12_shares_14 : decode cX12_shares 14 = .ok (.if_icmp .ge 13, 3) := by decide +kernel
theorem dX12_shares_17 : decode cX12_shares 17 = .ok (.iload_n 3, 1) := by decide +kernel
theorem dX12_shares_18 : decode cX12_shares 18 = .ok (.iload_n 2, 1) := by decide +kernel
theorem dX12_shares_19 : decode cX12_shares 19 = .ok (.imul, 1) := by decide +kernel
theorem dX12_shares_20 : decode cX12_shares 20 = .ok (.istore_n 3, 1) := by decide +kernel
theorem dX12_shares_21 : decode cX12_shares 21 = .ok (.iinc 4 1, 3) := by decide +kernel
theorem dX12_shares_24 : decode cX12_shares 24 = .ok (.goto (-13), 3) := by decide +kernel
theorem dX12_shares_27 : decode cX12_shares 27 = .ok (.aload_n 0, 1) := by decide +kernel
theorem dX12_shares_28 : decode cX12_shares 28 = .ok (.iconst (-1), 1) := by decide +kernel
theorem dX12_shares_29 : decode cX12_shares 29 = .ok (.putfield 261, 3) := by decide +kernel
theorem dX12_shares_32 : decode cX12_shares 32 = .ok (.iconst 0, 1) := by decide +kernel
theorem dX12_shares_33 : decode cX12_shares 33 = .ok (.istore 4, 2) := by decide +kernel
theorem dX12_shares_35 : decode cX12_shares 35 = .ok (.iload 4, 2) := by decide +kernel
theorem dX12_shares_37 : decode cX12_shares 37 = .ok (.iload_n 3, 1) := by decide +kernel
theorem dX12_shares_38 : decode cX12_shares 38 = .ok (.if_icmp .ge 245, 3) := by decide +kernel
theorem dX12_shares_41 : decode cX12_shares 41 = .ok (.iconst 0, 1) := by decide +kernel
theorem dX12_shares_42 : decode cX12_shares 42 = .ok (.istore 5, 2) := by decide +kernel
theorem dX12_shares_44 : decode cX12_shares 44 = .ok (.iconst 0, 1) := by decide +kernel
theorem dX12_shares_45 : decode cX12_shares 45 = .ok (.istore 6, 2) := by decide +kernel
theorem dX12_shares_47 : decode cX12_shares 47 = .ok (.iconst 1, 1) := by decide +kernel
theorem dX12_shares_48 : decode cX12_shares 48 = .ok (.istore 7, 2) := by decide +kernel
theorem dX12_shares_50 : decode cX12_shares 50 = .ok (.iconst 0, 1) := by decide +kernel
theorem dX12_shares_51 : decode cX12_shares 51 = .ok (.istore 8, 2) := by decide +kernel
theorem dX12_shares_53 : decode cX12_shares 53 = .ok (.iload 8, 2) := by decide +kernel
theorem dX12_shares_55 : decode cX12_shares 55 = .ok (.iload_n 2, 1) := by decide +kernel
theorem dX12_shares_56 : decode cX12_shares 56 = .ok (.if_icmp .ge 129, 3) := by decide +kernel
theorem dX12_shares_59 : decode cX12_shares 59 = .ok (.iconst 0, 1) := by decide +kernel
theorem dX12_shares_60 : decode cX12_shares 60 = .ok (.istore 9, 2) := by decide +kernel
theorem dX12_shares_62 : decode cX12_shares 62 = .ok (.iload 4, 2) := by decide +kernel
theorem dX12_shares_64 : decode cX12_shares 64 = .ok (.istore 10, 2) := by decide +kernel
theorem dX12_shares_66 : decode cX12_shares 66 = .ok (.iload_n 1, 1) := by decide +kernel
theorem dX12_shares_67 : decode cX12_shares 67 = .ok (.iconst 1, 1) := by decide +kernel
theorem dX12_shares_68 : decode cX12_shares 68 = .ok (.isub, 1) := by decide +kernel
theorem dX12_shares_69 : decode cX12_shares 69 = .ok (.istore 11, 2) := by decide +kernel
theorem dX12_shares_71 : decode cX12_shares 71 = .ok (.iload 11, 2) := by decide +kernel
theorem dX12_shares_73 : decode cX12_shares 73 = .ok (.ifCond .lt 37, 3) := by decide +kernel
theorem dX12_shares_76 : decode cX12_shares 76 = .ok (.iload 9, 2) := by decide +kernel
theorem dX12_shares_78 : decode cX12_shares 78 = .ok (.iload 10, 2) := by decide +kernel
theorem dX12_shares_80 : decode cX12_shares 80 = .ok (.iload_n 2, 1) := by decide +kernel
theorem dX12_shares_81 : decode cX12_shares 81 = .ok (.irem, 1) := by decide +kernel
theorem dX12_shares_82 : decode cX12_shares 82 = .ok (.iload 8, 2) := by decide +kernel
theorem dX12_shares_84 : decode cX12_shares 84 = .ok (.if_icmp .ne 10, 3) := by decide +kernel
theorem dX12_shares_87 : decode cX12_shares 87 = .ok (.iconst 1, 1) := by decide +kernel
theorem dX12_shares_88 : decode cX12_shares 88 = .ok (.iload 11, 2) := by decide +kernel
theorem dX12_shares_90 : decode cX12_shares 90 = .ok (.ishl, 1) := by decide +kernel
theorem dX12_shares_91 : decode cX12_shares 91 = .ok (.goto 4, 3) := by decide +kernel
theorem dX12_shares_94 : decode cX12_shares 94 = .ok (.iconst 0, 1) := by decide +kernel
theorem dX12_shares_95 : decode cX12_shares 95 = .ok (.ior, 1) := by decide +kernel
theorem dX12_shares_96 : decode cX12_shares 96 = .ok (.istore 9, 2) := by decide +kernel
theorem dX12_shares_98 : decode cX12_shares 98 = .ok (.iload 10, 2) := by decide +kernel
theorem dX12_shares_100 : decode cX12_shares 100 = .ok (.iload_n 2, 1) := by decide +kernel
theorem dX12_shares_101 : decode cX12_shares 101 = .ok (.idiv, 1) := by decide +kernel
theorem dX12_shares_102 : decode cX12_shares 102 = .ok (.istore 10, 2) := by decide +kernel
theorem dX12_shares_104 : decode cX12_shares 104 = .ok (.iinc 11 (-1), 3) := by decide +kernel
theorem dX12_shares_107 : decode cX12_shares 107 = .ok (.goto (-36), 3) := by decide +kernel
theorem dX12_shares_110 : decode cX12_shares 110 = .ok (.aload_n 0, 1) := by decide +kernel
theorem dX12_shares_111 : decode cX12_shares 111 = .ok (.getfield 255, 3) := by decide +kernel
theorem dX12_shares_114 : decode cX12_shares 114 = .ok (.sipush 256, 3) := by decide +kernel
theorem dX12_shares_117 : decode cX12_shares 117 = .ok (.iload 8, 2) := by decide +kernel
theorem dX12_shares_119 : decode cX12_shares 119 = .ok (.imul, 1) := by decide +kernel
theorem dX12_shares_120 : decode cX12_shares 120 = .ok (.iload 9, 2) := by decide +kernel
theorem dX12_shares_122 : decode cX12_shares 122 = .ok (.iadd, 1) := by decide +kernel
theorem dX12_shares_123 : decode cX12_shares 123 = .ok (.iaload, 1) := by decide +kernel
theorem dX12_shares_124 : decode cX12_shares 124 = .ok (.istore 11, 2) := by decide +kernel
theorem dX12_shares_126 : decode cX12_shares 126 = .ok (.iload 7, 2) := by decide +kernel
theorem dX12_shares_128 : decode cX12_shares 128 = .ok (.ifCond .eq 13, 3) := by decide +kernel
theorem dX12_shares_131 : decode cX12_shares 131 = .ok (.iload 11, 2) := by decide +kernel
theorem dX12_shares_133 : decode cX12_shares 133 = .ok (.iconst (-1), 1) := by decide +kernel
theorem dX12_shares_134 : decode cX12_shares 134 = .ok (.if_icmp .eq 7, 3) := by decide +kernel
theorem dX12_shares_137 : decode cX12_shares 137 = .ok (.iconst 1, 1) := by decide +kernel
theorem dX12_shares_138 : decode cX12_shares 138 = .ok (.goto 4, 3) := by decide +kernel
theorem dX12_shares_141 : decode cX12_shares 141 = .ok (.iconst 0, 1) := by decide +kernel
theorem dX12_shares_142 : decode cX12_shares 142 = .ok (.istore 7, 2) := by decide +kernel
theorem dX12_shares_144 : decode cX12_shares 144 = .ok (.iload 11, 2) := by decide +kernel
theorem dX12_shares_146 : decode cX12_shares 146 = .ok (.iload 5, 2) := by decide +kernel
theorem dX12_shares_148 : decode cX12_shares 148 = .ok (.if_icmp .le 8, 3) := by decide +kernel
theorem dX12_shares_151 : decode cX12_shares 151 = .ok (.iload 11, 2) := by decide +kernel
theorem dX12_shares_153 : decode cX12_shares 153 = .ok (.goto 5, 3) := by decide +kernel
theorem dX12_shares_156 : decode cX12_shares 156 = .ok (.iload 5, 2) := by decide +kernel
theorem dX12_shares_158 : decode cX12_shares 158 = .ok (.istore 5, 2) := by decide +kernel
theorem dX12_shares_160 : decode cX12_shares 160 = .ok (.iload 6, 2) := by decide +kernel
theorem dX12_shares_162 : decode cX12_shares 162 = .ok (.aload_n 0, 1) := by decide +kernel
theorem dX12_shares_163 : decode cX12_shares 163 = .ok (.getfield 252, 3) := by decide +kernel
theorem dX12_shares_166 : decode cX12_shares 166 = .ok (.sipush 256, 3) := by decide +kernel
theorem dX12_shares_169 : decode cX12_shares 169 = .ok (.iload 8, 2) := by decide +kernel
theorem dX12_shares_171 : decode cX12_shares 171 = .ok (.imul, 1) := by decide +kernel
theorem dX12_shares_172 : decode cX12_shares 172 = .ok (.iload 9, 2) := by decide +kernel
theorem dX12_shares_174 : decode cX12_shares 174 = .ok (.iadd, 1) := by decide +kernel
theorem dX12_shares_175 : decode cX12_shares 175 = .ok (.iaload, 1) := by decide +kernel
theorem dX12_shares_176 : decode cX12_shares 176 = .ok (.iadd, 1) := by decide +kernel
theorem dX12_shares_177 : decode cX12_shares 177 = .ok (.istore 6, 2) := by decide +kernel
theorem dX12_shares_179 : decode cX12_shares 179 = .ok (.iinc 8 1, 3) := by decide +kernel
theorem dX12_shares_182 : decode cX12_shares 182 = .ok (.goto (-129), 3) := by decide +kernel
theorem dX12_shares_185 : decode cX12_shares 185 = .ok (.iload 7, 2) := by decide +kernel
theorem dX12_shares_187 : decode cX12_shares 187 = .ok (.ifCond .eq 90, 3) := by decide +kernel
theorem dX12_shares_190 : decode cX12_shares 190 = .ok (.aload_n 0, 1) := by decide +kernel
theorem dX12_shares_191 : decode cX12_shares 191 = .ok (.getfield 261, 3) := by decide +kernel
theorem dX12_shares_194 : decode cX12_shares 194 = .ok (.iconst (-1), 1) := by decide +kernel
theorem dX12_shares_195 : decode cX12_shares 195 = .ok (.if_icmp .eq 33, 3) := by decide +kernel
theorem dX12_shares_198 : decode cX12_shares 198 = .ok (.iload 5, 2) := by decide +kernel
theorem dX12_shares_200 : decode cX12_shares 200 = .ok (.aload_n 0, 1) := by decide +kernel
theorem dX12_shares_201 : decode cX12_shares 201 = .ok (.getfield 261, 3) := by decide +kernel
theorem dX12_shares_204 : decode cX12_shares 204 = .ok (.if_icmp .gt 73, 3) := by decide +kernel
theorem dX12_shares_207 : decode cX12_shares 207 = .ok (.iload 5, 2) := by decide +kernel
theorem dX12_shares_209 : decode cX12_shares 209 = .ok (.aload_n 0, 1) := by decide +kernel
theorem dX12_shares_210 : decode cX12_shares 210 = .ok (.getfield 261, 3) := by decide +kernel
theorem dX12_shares_213 : decode cX12_shares 213 = .ok (.if_icmp .ne 15, 3) := by decide +kernel
theorem dX12_shares_216 : decode cX12_shares 216 = .ok (.iload 6, 2) := by decide +kernel
theorem dX12_shares_218 : decode cX12_shares 218 = .ok (.aload_n 0, 1) := by decide +kernel
theorem dX12_shares_219 : decode cX12_shares 219 = .ok (.getfield 264, 3) := by decide +kernel
theorem dX12_shares_222 : decode cX12_shares 222 = .ok (.if_icmp .lt 6, 3) := by decide +kernel
theorem dX12_shares_225 : decode cX12_shares 225 = .ok (.goto 52, 3) := by decide +kernel
theorem dX12_shares_228 : decode cX12_shares 228 = .ok (.aload_n 0, 1) := by decide +kernel
theorem dX12_shares_229 : decode cX12_shares 229 = .ok (.iload 5, 2) := by decide +kernel
theorem dX12_shares_231 : decode cX12_shares 231 = .ok (.putfield 261, 3) := by decide +kernel
theorem dX12_shares_234 : decode cX12_shares 234 = .ok (.aload_n 0, 1) := by decide +kernel
theorem dX12_shares_235 : decode cX12_shares 235 = .ok (.iload 6, 2) := by decide +kernel
theorem dX12_shares_237 : decode cX12_shares 237 = .ok (.putfield 264, 3) := by decide +kernel
theorem dX12_shares_240 : decode cX12_shares 240 = .ok (.iload 4, 2) := by decide +kernel
theorem dX12_shares_242 : decode cX12_shares 242 = .ok (.istore 8, 2) := by decide +kernel
theorem dX12_shares_244 : decode cX12_shares 244 = .ok (.iload_n 1, 1) := by decide +kernel
theorem dX12_shares_245 : decode cX12_shares 245 = .ok (.iconst 1, 1) := by decide +kernel
theorem dX12_shares_246 : decode cX12_shares 246 = .ok (.isub, 1) := by decide +kernel
theorem dX12_shares_247 : decode cX12_shares 247 = .ok (.istore 9, 2) := by decide +kernel
theorem dX12_shares_249 : decode cX12_shares 249 = .ok (.iload 9, 2) := by decide +kernel
theorem dX12_shares_251 : decode cX12_shares 251 = .ok (.ifCond .lt 26, 3) := by decide +kernel
theorem dX12_shares_254 : decode cX12_shares 254 = .ok (.aload_n 0, 1) := by decide +kernel
theorem dX12_shares_255 : decode cX12_shares 255 = .ok (.getfield 258, 3) := by decide +kernel
theorem dX12_shares_258 : decode cX12_shares 258 = .ok (.iload 9, 2) := by decide +kernel
theorem dX12_shares_260 : decode cX12_shares 260 = .ok (.iload 8, 2) := by decide +kernel
theorem dX12_shares_262 : decode cX12_shares 262 = .ok (.iload_n 2, 1) := by decide +kernel
theorem dX12_shares_263 : decode cX12_shares 263 = .ok (.irem, 1) := by decide +kernel
theorem dX12_shares_264 : decode cX12_shares 264 = .ok (.iastore, 1) := by decide +kernel
theorem dX12_shares_265 : decode cX12_shares 265 = .ok (.iload 8, 2) := by decide +kernel
theorem dX12_shares_267 : decode cX12_shares 267 = .ok (.iload_n 2, 1) := by decide +kernel
theorem dX12_shares_268 : decode cX12_shares 268 = .ok (.idiv, 1) := by decide +kernel
theorem dX12_shares_269 : decode cX12_shares 269 = .ok (.istore 8, 2) := by decide +kernel
theorem dX12_shares_271 : decode cX12_shares 271 = .ok (.iinc 9 (-1), 3) := by decide +kernel
theorem dX12_shares_274 : decode cX12_shares 274 = .ok (.goto (-25), 3) := by decide +kernel
theorem dX12_shares_277 : decode cX12_shares 277 = .ok (.iinc 4 1, 3) := by decide +kernel
theorem dX12_shares_280 : decode cX12_shares 280 = .ok (.goto (-245), 3) := by decide +kernel
theorem dX12_shares_283 : decode cX12_shares 283 = .ok (.aload_n 0, 1) := by decide +kernel
theorem dX12_shares_284 : decode cX12_shares 284 = .ok (.getfield 261, 3) := by decide +kernel
theorem dX12_shares_287 : decode cX12_shares 287 = .ok (.iconst (-1), 1) := by decide +kernel
theorem dX12_shares_288 : decode cX12_shares 288 = .ok (.if_icmp .eq 7, 3) := by decide +kernel
theorem dX12_shares_291 : decode cX12_shares 291 = .ok (.iconst 1, 1) := by decide +kernel
theorem dX12_shares_292 : decode cX12_shares 292 = .ok (.goto 4, 3) := by decide +kernel
theorem dX12_shares_295 : decode cX12_shares 295 = .ok (.iconst 0, 1) := by decide +kernel
theorem dX12_shares_296 : decode cX12_shares 296 = .ok (.ireturn, 1) := by decide +kernel
theorem dX12_shared_0 : decode cX12_shared 0 = .ok (.aload_n 0, 1) := by decide +kernel
theorem dX12_shared_1 : decode cX12_shared 1 = .ok (.iload_n 1, 1) := by decide +kernel
theorem dX12_shared_2 : decode cX12_shared 2 = .ok (.invokevirtual 598, 3) := by decide +kernel
theorem dX12_shared_5 : decode cX12_shared 5 = .ok (.ifCond .eq 10, 3) := by decide +kernel
theorem dX12_shared_8 : decode cX12_shared 8 = .ok (.iload_n 1, 1) := by decide +kernel
theorem dX12_shared_9 : decode cX12_shared 9 = .ok (.invokestatic 482, 3) := by decide +kernel
theorem dX12_shared_12 : decode cX12_shared 12 = .ok (.goto 4, 3) := by decide +kernel
theorem dX12_shared_15 : decode cX12_shared 15 = .ok (.iconst 0, 1) := by decide +kernel
theorem dX12_shared_16 : decode cX12_shared 16 = .ok (.istore_n 3, 1) := by decide +kernel
theorem dX12_shared_17 : decode cX12_shared 17 = .ok (.aload_n 0, 1) := by decide +kernel
theorem dX12_shared_18 : decode cX12_shared 18 = .ok (.getfield 75, 3) := by decide +kernel
theorem dX12_shared_21 : decode cX12_shared 21 = .ok (.aload_n 0, 1) := by decide +kernel
theorem dX12_shared_22 : decode cX12_shared 22 = .ok (.getfield 51, 3) := by decide +kernel
theorem dX12_shared_25 : decode cX12_shared 25 = .ok (.iaload, 1) := by decide +kernel
theorem dX12_shared_26 : decode cX12_shared 26 = .ok (.iconst 3, 1) := by decide +kernel
theorem dX12_shared_27 : decode cX12_shared 27 = .ok (.if_icmp .ge 15, 3) := by decide +kernel
theorem dX12_shared_30 : decode cX12_shared 30 = .ok (.aload_n 0, 1) := by decide +kernel
theorem dX12_shared_31 : decode cX12_shared 31 = .ok (.getfield 75, 3) := by decide +kernel
theorem dX12_shared_34 : decode cX12_shared 34 = .ok (.aload_n 0, 1) := by decide +kernel
theorem dX12_shared_35 : decode cX12_shared 35 = .ok (.getfield 51, 3) := by decide +kernel
theorem dX12_shared_38 : decode cX12_shared 38 = .ok (.iaload, 1) := by decide +kernel
theorem dX12_shared_39 : decode cX12_shared 39 = .ok (.goto 4, 3) := by decide +kernel
theorem dX12_shared_42 : decode cX12_shared 42 = .ok (.iconst 3, 1) := by decide +kernel
theorem dX12_shared_43 : decode cX12_shared 43 = .ok (.istore 4, 2) := by decide +kernel
theorem dX12_shared_45 : decode cX12_shared 45 = .ok (.iload_n 3, 1) := by decide +kernel
theorem dX12_shared_46 : decode cX12_shared 46 = .ok (.iconst 1, 1) := by decide +kernel
theorem dX12_shared_47 : decode cX12_shared 47 = .ok (.bipush 8, 2) := by decide +kernel
theorem dX12_shared_49 : decode cX12_shared 49 = .ok (.invokestatic 369, 3) := by decide +kernel
theorem dX12_shared_52 : decode cX12_shared 52 = .ok (.ifCond .eq 35, 3) := by decide +kernel
theorem dX12_shared_55 : decode cX12_shared 55 = .ok (.iload 4, 2) := by decide +kernel
theorem dX12_shared_57 : decode cX12_shared 57 = .ok (.ifCond .eq 30, 3) := by decide +kernel
theorem dX12_shared_60 : decode cX12_shared 60 = .ok (.iload_n 2, 1) := by decide +kernel
theorem dX12_shared_61 : decode cX12_shared 61 = .ok (.iconst (-1), 1) := by decide +kernel
theorem dX12_shared_62 : decode cX12_shared 62 = .ok (.if_icmp .eq 27, 3) := by decide +kernel
theorem dX12_shared_65 : decode cX12_shared 65 = .ok (.iload_n 2, 1) := by decide +kernel
theorem dX12_shared_66 : decode cX12_shared 66 = .ok (.bipush 20, 2) := by decide +kernel
theorem dX12_shared_68 : decode cX12_shared 68 = .ok (.if_icmp .eq 21, 3) := by decide +kernel
theorem dX12_shared_71 : decode cX12_shared 71 = .ok (.aload_n 0, 1) := by decide +kernel
theorem dX12_shared_72 : decode cX12_shared 72 = .ok (.iload_n 2, 1) := by decide +kernel
theorem dX12_shared_73 : decode cX12_shared 73 = .ok (.invokevirtual 556, 3) := by decide +kernel
theorem dX12_shared_76 : decode cX12_shared 76 = .ok (.ifCond .eq 11, 3) := by decide +kernel
theorem dX12_shared_79 : decode cX12_shared 79 = .ok (.iload_n 1, 1) := by decide +kernel
theorem dX12_shared_80 : decode cX12_shared 80 = .ok (.iload_n 2, 1) := by decide +kernel
theorem dX12_shared_81 : decode cX12_shared 81 = .ok (.invokestatic 552, 3) := by decide +kernel
theorem dX12_shared_84 : decode cX12_shared 84 = .ok (.ifCond .ne 5, 3) := by decide +kernel
theorem dX12_shared_87 : decode cX12_shared 87 = .ok (.iconst (-1), 1) := by decide +kernel
theorem dX12_shared_88 : decode cX12_shared 88 = .ok (.ireturn, 1) := by decide +kernel
theorem dX12_shared_89 : decode cX12_shared 89 = .ok (.iconst 0, 1) := by decide +kernel
theorem dX12_shared_90 : decode cX12_shared 90 = .ok (.istore 5, 2) := by decide +kernel
theorem dX12_shared_92 : decode cX12_shared 92 = .ok (.iconst 0, 1) := by decide +kernel
theorem dX12_shared_93 : decode cX12_shared 93 = .ok (.istore 6, 2) := by decide +kernel
theorem dX12_shared_95 : decode cX12_shared 95 = .ok (.iload 6, 2) := by decide +kernel
theorem dX12_shared_97 : decode cX12_shared 97 = .ok (.aload_n 0, 1) := by decide +kernel
theorem dX12_shared_98 : decode cX12_shared 98 = .ok (.getfield 57, 3) := by decide +kernel
theorem dX12_shared_101 : decode cX12_shared 101 = .ok (.aload_n 0, 1) := by decide +kernel
theorem dX12_shared_102 : decode cX12_shared 102 = .ok (.getfield 51, 3) := by decide +kernel
theorem dX12_shared_105 : decode cX12_shared 105 = .ok (.iaload, 1) := by decide +kernel
theorem dX12_shared_106 : decode cX12_shared 106 = .ok (.if_icmp .ge 33, 3) := by decide +kernel
theorem dX12_shared_109 : decode cX12_shared 109 = .ok (.iload_n 1, 1) := by decide +kernel
theorem dX12_shared_110 : decode cX12_shared 110 = .ok (.iload 6, 2) := by decide +kernel
theorem dX12_shared_112 : decode cX12_shared 112 = .ok (.invokestatic 552, 3) := by decide +kernel
theorem dX12_shared_115 : decode cX12_shared 115 = .ok (.ifCond .ne 6, 3) := by decide +kernel
theorem dX12_shared_118 : decode cX12_shared 118 = .ok (.goto 15, 3) := by decide +kernel
theorem dX12_shared_121 : decode cX12_shared 121 = .ok (.aload_n 0, 1) := by decide +kernel
theorem dX12_shared_122 : decode cX12_shared 122 = .ok (.getfield 249, 3) := by decide +kernel
theorem dX12_shared_125 : decode cX12_shared 125 = .ok (.iload 5, 2) := by decide +kernel
theorem dX12_shared_127 : decode cX12_shared 127 = .ok (.iload 6, 2) := by decide +kernel
theorem dX12_shared_129 : decode cX12_shared 129 = .ok (.iastore, 1) := by decide +kernel
theorem dX12_shared_130 : decode cX12_shared 130 = .ok (.iinc 5 1, 3) := by decide +kernel
theorem dX12_shared_133 : decode cX12_shared 133 = .ok (.iinc 6 1, 3) := by decide +kernel
theorem dX12_shared_136 : decode cX12_shared 136 = .ok (.goto (-41), 3) := by decide +kernel
theorem dX12_shared_139 : decode cX12_shared 139 = .ok (.aload_n 0, 1) := by decide +kernel
theorem dX12_shared_140 : decode cX12_shared 140 = .ok (.iload_n 3, 1) := by decide +kernel
theorem dX12_shared_141 : decode cX12_shared 141 = .ok (.iload 4, 2) := by decide +kernel
theorem dX12_shared_143 : decode cX12_shared 143 = .ok (.invokevirtual 611, 3) := by decide +kernel
theorem dX12_shared_146 : decode cX12_shared 146 = .ok (.ifCond .ne 5, 3) := by decide +kernel
theorem dX12_shared_149 : decode cX12_shared 149 = .ok (.iconst (-1), 1) := by decide +kernel
theorem dX12_shared_150 : decode cX12_shared 150 = .ok (.ireturn, 1) := by decide +kernel
theorem dX12_shared_151 : decode cX12_shared 151 = .ok (.iload_n 2, 1) := by decide +kernel
theorem dX12_shared_152 : decode cX12_shared 152 = .ok (.iconst (-1), 1) := by decide +kernel
theorem dX12_shared_153 : decode cX12_shared 153 = .ok (.if_icmp .ne 10, 3) := by decide +kernel
theorem dX12_shared_156 : decode cX12_shared 156 = .ok (.aload_n 0, 1) := by decide +kernel
theorem dX12_shared_157 : decode cX12_shared 157 = .ok (.getfield 261, 3) := by decide +kernel
theorem dX12_shared_160 : decode cX12_shared 160 = .ok (.goto 31, 3) := by decide +kernel
theorem dX12_shared_163 : decode cX12_shared 163 = .ok (.iload_n 2, 1) := by decide +kernel
theorem dX12_shared_164 : decode cX12_shared 164 = .ok (.bipush 20, 2) := by decide +kernel
theorem dX12_shared_166 : decode cX12_shared 166 = .ok (.if_icmp .ne 10, 3) := by decide +kernel
theorem dX12_shared_169 : decode cX12_shared 169 = .ok (.aload_n 0, 1) := by decide +kernel
theorem dX12_shared_170 : decode cX12_shared 170 = .ok (.getfield 264, 3) := by decide +kernel
theorem dX12_shared_173 : decode cX12_shared 173 = .ok (.goto 18, 3) := by decide +kernel
theorem dX12_shared_176 : decode cX12_shared 176 = .ok (.aload_n 0, 1) := by decide +kernel
theorem dX12_shared_177 : decode cX12_shared 177 = .ok (.getfield 258, 3) := by decide +kernel
theorem dX12_shared_180 : decode cX12_shared 180 = .ok (.iload_n 1, 1) := by decide +kernel
theorem dX12_shared_181 : decode cX12_shared 181 = .ok (.iconst 1, 1) := by decide +kernel
theorem dX12_shared_182 : decode cX12_shared 182 = .ok (.iload_n 2, 1) := by decide +kernel
theorem dX12_shared_183 : decode cX12_shared 183 = .ok (.ishl, 1) := by decide +kernel
theorem dX12_shared_184 : decode cX12_shared 184 = .ok (.iconst 1, 1) := by decide +kernel
theorem dX12_shared_185 : decode cX12_shared 185 = .ok (.isub, 1) := by decide +kernel
theorem dX12_shared_186 : decode cX12_shared 186 = .ok (.iand, 1) := by decide +kernel
theorem dX12_shared_187 : decode cX12_shared 187 = .ok (.invokestatic 482, 3) := by decide +kernel
theorem dX12_shared_190 : decode cX12_shared 190 = .ok (.iaload, 1) := by decide +kernel
theorem dX12_shared_191 : decode cX12_shared 191 = .ok (.ireturn, 1) := by decide +kernel
theorem dX12_seated_0 : decode cX12_seated 0 = .ok (.aload_n 0, 1) := by decide +kernel
theorem dX12_seated_1 : decode cX12_seated 1 = .ok (.getfield 75, 3) := by decide +kernel
theorem dX12_seated_4 : decode cX12_seated 4 = .ok (.aload_n 0, 1) := by decide +kernel
theorem dX12_seated_5 : decode cX12_seated 5 = .ok (.getfield 51, 3) := by decide +kernel
theorem dX12_seated_8 : decode cX12_seated 8 = .ok (.iaload, 1) := by decide +kernel
theorem dX12_seated_9 : decode cX12_seated 9 = .ok (.ifCond .eq 22, 3) := by decide +kernel
theorem dX12_seated_12 : decode cX12_seated 12 = .ok (.iload_n 1, 1) := by decide +kernel
theorem dX12_seated_13 : decode cX12_seated 13 = .ok (.iconst (-1), 1) := by decide +kernel
theorem dX12_seated_14 : decode cX12_seated 14 = .ok (.if_icmp .eq 19, 3) := by decide +kernel
theorem dX12_seated_17 : decode cX12_seated 17 = .ok (.iload_n 1, 1) := by decide +kernel
theorem dX12_seated_18 : decode cX12_seated 18 = .ok (.bipush 20, 2) := by decide +kernel
theorem dX12_seated_20 : decode cX12_seated 20 = .ok (.if_icmp .eq 13, 3) := by decide +kernel
theorem dX12_seated_23 : decode cX12_seated 23 = .ok (.aload_n 0, 1) := by decide +kernel
theorem dX12_seated_24 : decode cX12_seated 24 = .ok (.iload_n 1, 1) := by decide +kernel
theorem dX12_seated_25 : decode cX12_seated 25 = .ok (.invokevirtual 562, 3) := by decide +kernel
theorem dX12_seated_28 : decode cX12_seated 28 = .ok (.ifCond .ne 5, 3) := by decide +kernel
theorem dX12_seated_31 : decode cX12_seated 31 = .ok (.iconst (-1), 1) := by decide +kernel
theorem dX12_seated_32 : decode cX12_seated 32 = .ok (.ireturn, 1) := by decide +kernel
theorem dX12_seated_33 : decode cX12_seated 33 = .ok (.iconst 1, 1) := by decide +kernel
theorem dX12_seated_34 : decode cX12_seated 34 = .ok (.istore_n 2, 1) := by decide +kernel
theorem dX12_seated_35 : decode cX12_seated 35 = .ok (.iconst 0, 1) := by decide +kernel
theorem dX12_seated_36 : decode cX12_seated 36 = .ok (.istore_n 3, 1) := by decide +kernel
theorem dX12_seated_37 : decode cX12_seated 37 = .ok (.iload_n 3, 1) := by decide +kernel
theorem dX12_seated_38 : decode cX12_seated 38 = .ok (.aload_n 0, 1) := by decide +kernel
theorem dX12_seated_39 : decode cX12_seated 39 = .ok (.getfield 75, 3) := by decide +kernel
theorem dX12_seated_42 : decode cX12_seated 42 = .ok (.aload_n 0, 1) := by decide +kernel
theorem dX12_seated_43 : decode cX12_seated 43 = .ok (.getfield 51, 3) := by decide +kernel
theorem dX12_seated_46 : decode cX12_seated 46 = .ok (.iaload, 1) := by decide +kernel
theorem dX12_seated_47 : decode cX12_seated 47 = .ok (.if_icmp .ge 21, 3) := by decide +kernel
theorem dX12_seated_50 : decode cX12_seated 50 = .ok (.iload_n 2, 1) := by decide +kernel
theorem dX12_seated_51 : decode cX12_seated 51 = .ok (.aload_n 0, 1) := by decide +kernel
theorem dX12_seated_52 : decode cX12_seated 52 = .ok (.getfield 84, 3) := by decide +kernel
theorem dX12_seated_55 : decode cX12_seated 55 = .ok (.aload_n 0, 1) := by decide +kernel
theorem dX12_seated_56 : decode cX12_seated 56 = .ok (.getfield 51, 3) := by decide +kernel
theorem dX12_seated_59 : decode cX12_seated 59 = .ok (.iaload, 1) := by decide +kernel
theorem dX12_seated_60 : decode cX12_seated 60 = .ok (.imul, 1) := by decide +kernel
theorem dX12_seated_61 : decode cX12_seated 61 = .ok (.istore_n 2, 1) := by decide +kernel
theorem dX12_seated_62 : decode cX12_seated 62 = .ok (.iinc 3 1, 3) := by decide +kernel
theorem dX12_seated_65 : decode cX12_seated 65 = .ok (.goto (-28), 3) := by decide +kernel
theorem dX12_seated_68 : decode cX12_seated 68 = .ok (.iconst (-1), 1) := by decide +kernel
theorem dX12_seated_69 : decode cX12_seated 69 = .ok (.istore_n 3, 1) := by decide +kernel
theorem dX12_seated_70 : decode cX12_seated 70 = .ok (.iconst 0, 1) := by decide +kernel
theorem dX12_seated_71 : decode cX12_seated 71 = .ok (.istore 4, 2) := by decide +kernel
theorem dX12_seated_73 : decode cX12_seated 73 = .ok (.iconst 0, 1) := by decide +kernel
theorem dX12_seated_74 : decode cX12_seated 74 = .ok (.istore 5, 2) := by decide +kernel
theorem dX12_seated_76 : decode cX12_seated 76 = .ok (.iload 5, 2) := by decide +kernel
theorem dX12_seated_78 : decode cX12_seated 78 = .ok (.iload_n 2, 1) := by decide +kernel
theorem dX12_seated_79 : decode cX12_seated 79 = .ok (.if_icmp .ge 204, 3) := by decide +kernel
theorem dX12_seated_82 : decode cX12_seated 82 = .ok (.aload_n 0, 1) := by decide +kernel
theorem dX12_seated_83 : decode cX12_seated 83 = .ok (.iconst 1, 1) := by decide +kernel
theorem dX12_seated_84 : decode cX12_seated 84 = .ok (.iconst 0, 1) := by decide +kernel
theorem dX12_seated_85 : decode cX12_seated 85 = .ok (.invokevirtual 479, 3) := by decide +kernel
theorem dX12_seated_88 : decode cX12_seated 88 = .ok (.iload 5, 2) := by decide +kernel
theorem dX12_seated_90 : decode cX12_seated 90 = .ok (.istore 6, 2) := by decide +kernel
theorem dX12_seated_92 : decode cX12_seated 92 = .ok (.aload_n 0, 1) := by decide +kernel
theorem dX12_seated_93 : decode cX12_seated 93 = .ok (.getfield 75, 3) := by decide +kernel
theorem dX12_seated_96 : decode cX12_seated 96 = .ok (.aload_n 0, 1) := by decide +kernel
theorem dX12_seated_97 : decode cX12_seated 97 = .ok (.getfield 51, 3) := by decide +kernel
theorem dX12_seated_100 : decode cX12_seated 100 = .ok (.iaload, 1) := by decide +kernel
theorem dX12_seated_101 : decode cX12_seated 101 = .ok (.iconst 1, 1) := by decide +kernel
theorem dX12_seated_102 : decode cX12_seated 102 = .ok (.isub, 1) := by decide +kernel
theorem dX12_seated_103 : decode cX12_seated 103 = .ok (.istore 7, 2) := by decide +kernel
theorem dX12_seated_105 : decode cX12_seated 105 = .ok (.iload 7, 2) := by decide +kernel
theorem dX12_seated_107 : decode cX12_seated 107 = .ok (.ifCond .lt 67, 3) := by decide +kernel
theorem dX12_seated_110 : decode cX12_seated 110 = .ok (.aload_n 0, 1) := by decide +kernel
theorem dX12_seated_111 : decode cX12_seated 111 = .ok (.getfield 177, 3) := by decide +kernel
theorem dX12_seated_114 : decode cX12_seated 114 = .ok (.bipush 6, 2) := by decide +kernel
theorem dX12_seated_116 : decode cX12_seated 116 = .ok (.iload 7, 2) := by decide +kernel
theorem dX12_seated_118 : decode cX12_seated 118 = .ok (.iadd, 1) := by decide +kernel
theorem dX12_seated_119 : decode cX12_seated 119 = .ok (.iload 6, 2) := by decide +kernel
theorem dX12_seated_121 : decode cX12_seated 121 = .ok (.aload_n 0, 1) := by decide +kernel
theorem dX12_seated_122 : decode cX12_seated 122 = .ok (.getfield 84, 3) := by decide +kernel
theorem dX12_seated_125 : decode cX12_seated 125 = .ok (.aload_n 0, 1) := by decide +kernel
theorem dX12_seated_126 : decode cX12_seated 126 = .ok (.getfield 51, 3) := by decide +kernel
theorem dX12_seated_129 : decode cX12_seated 129 = .ok (.iaload, 1) := by decide +kernel
theorem dX12_seated_130 : decode cX12_seated 130 = .ok (.irem, 1) := by decide +kernel
theorem dX12_seated_131 : decode cX12_seated 131 = .ok (.iastore, 1) := by decide +kernel
theorem dX12_seated_132 : decode cX12_seated 132 = .ok (.aload_n 0, 1) := by decide +kernel
theorem dX12_seated_133 : decode cX12_seated 133 = .ok (.getfield 186, 3) := by decide +kernel
theorem dX12_seated_136 : decode cX12_seated 136 = .ok (.bipush 6, 2) := by decide +kernel
theorem dX12_seated_138 : decode cX12_seated 138 = .ok (.iload 7, 2) := by decide +kernel
theorem dX12_seated_140 : decode cX12_seated 140 = .ok (.iadd, 1) := by decide +kernel
theorem dX12_seated_141 : decode cX12_seated 141 = .ok (.iconst (-1), 1) := by decide +kernel
theorem dX12_seated_142 : decode cX12_seated 142 = .ok (.iastore, 1) := by decide +kernel
theorem dX12_seated_143 : decode cX12_seated 143 = .ok (.aload_n 0, 1) := by decide +kernel
theorem dX12_seated_144 : decode cX12_seated 144 = .ok (.getfield 189, 3) := by decide +kernel
theorem dX12_seated_147 : decode cX12_seated 147 = .ok (.bipush 6, 2) := by decide +kernel
theorem dX12_seated_149 : decode cX12_seated 149 = .ok (.iload 7, 2) := by decide +kernel
theorem dX12_seated_151 : decode cX12_seated 151 = .ok (.iadd, 1) := by decide +kernel
theorem dX12_seated_152 : decode cX12_seated 152 = .ok (.iconst 0, 1) := by decide +kernel
theorem dX12_seated_153 : decode cX12_seated 153 = .ok (.iastore, 1) := by decide +kernel
theorem dX12_seated_154 : decode cX12_seated 154 = .ok (.iload 6, 2) := by decide +kernel
theorem dX12_seated_156 : decode cX12_seated 156 = .ok (.aload_n 0, 1) := by decide +kernel
theorem dX12_seated_157 : decode cX12_seated 157 = .ok (.getfield 84, 3) := by decide +kernel
theorem dX12_seated_160 : decode cX12_seated 160 = .ok (.aload_n 0, 1) := by decide +kernel
theorem dX12_seated_161 : decode cX12_seated 161 = .ok (.getfield 51, 3) := by decide +kernel
theorem dX12_seated_164 : decode cX12_seated 164 = .ok (.iaload, 1) := by decide +kernel
theorem dX12_seated_165 : decode cX12_seated 165 = .ok (.idiv, 1) := by decide +kernel
theorem dX12_seated_166 : decode cX12_seated 166 = .ok (.istore 6, 2) := by decide +kernel
theorem dX12_seated_168 : decode cX12_seated 168 = .ok (.iinc 7 (-1), 3) := by decide +kernel
theorem dX12_seated_171 : decode cX12_seated 171 = .ok (.goto (-66), 3) := by decide +kernel
theorem dX12_seated_174 : decode cX12_seated 174 = .ok (.aload_n 0, 1) := by decide +kernel
theorem dX12_seated_175 : decode cX12_seated 175 = .ok (.iconst 1, 1) := by decide +kernel
theorem dX12_seated_176 : decode cX12_seated 176 = .ok (.invokevirtual 547, 3) := by decide +kernel
theorem dX12_seated_179 : decode cX12_seated 179 = .ok (.istore 7, 2) := by decide +kernel
theorem dX12_seated_181 : decode cX12_seated 181 = .ok (.aload_n 0, 1) := by decide +kernel
theorem dX12_seated_182 : decode cX12_seated 182 = .ok (.getfield 246, 3) := by decide +kernel
theorem dX12_seated_185 : decode cX12_seated 185 = .ok (.iload_n 3, 1) := by decide +kernel
theorem dX12_seated_186 : decode cX12_seated 186 = .ok (.if_icmp .lt 91, 3) := by decide +kernel
theorem dX12_seated_189 : decode cX12_seated 189 = .ok (.aload_n 0, 1) := by decide +kernel
theorem dX12_seated_190 : decode cX12_seated 190 = .ok (.getfield 246, 3) := by decide +kernel
theorem dX12_seated_193 : decode cX12_seated 193 = .ok (.iload_n 3, 1) := by decide +kernel
theorem dX12_seated_194 : decode cX12_seated 194 = .ok (.if_icmp .ne 13, 3) := by decide +kernel
theorem dX12_seated_197 : decode cX12_seated 197 = .ok (.iload 7, 2) := by decide +kernel
theorem dX12_seated_199 : decode cX12_seated 199 = .ok (.iload 4, 2) := by decide +kernel
theorem dX12_seated_201 : decode cX12_seated 201 = .ok (.if_icmp .gt 6, 3) := by decide +kernel
theorem dX12_seated_204 : decode cX12_seated 204 = .ok (.goto 73, 3) := by decide +kernel
theorem dX12_seated_207 : decode cX12_seated 207 = .ok (.aload_n 0, 1) := by decide +kernel
theorem dX12_seated_208 : decode cX12_seated 208 = .ok (.getfield 246, 3) := by decide +kernel
theorem dX12_seated_211 : decode cX12_seated 211 = .ok (.istore_n 3, 1) := by decide +kernel
theorem dX12_seated_212 : decode cX12_seated 212 = .ok (.iload 7, 2) := by decide +kernel
theorem dX12_seated_214 : decode cX12_seated 214 = .ok (.istore 4, 2) := by decide +kernel
theorem dX12_seated_216 : decode cX12_seated 216 = .ok (.iload 5, 2) := by decide +kernel
theorem dX12_seated_218 : decode cX12_seated 218 = .ok (.istore 6, 2) := by decide +kernel
theorem dX12_seated_220 : decode cX12_seated 220 = .ok (.aload_n 0, 1) := by decide +kernel
theorem dX12_seated_221 : decode cX12_seated 221 = .ok (.getfield 75, 3) := by decide +kernel
theorem dX12_seated_224 : decode cX12_seated 224 = .ok (.aload_n 0, 1) := by decide +kernel
theorem dX12_seated_225 : decode cX12_seated 225 = .ok (.getfield 51, 3) := by decide +kernel
theorem dX12_seated_228 : decode cX12_seated 228 = .ok (.iaload, 1) := by decide +kernel
theorem dX12_seated_229 : decode cX12_seated 229 = .ok (.iconst 1, 1) := by decide +kernel
theorem dX12_seated_230 : decode cX12_seated 230 = .ok (.isub, 1) := by decide +kernel
theorem dX12_seated_231 : decode cX12_seated 231 = .ok (.istore 8, 2) := by decide +kernel
theorem dX12_seated_233 : decode cX12_seated 233 = .ok (.iload 8, 2) := by decide +kernel
theorem dX12_seated_235 : decode cX12_seated 235 = .ok (.ifCond .lt 42, 3) := by decide +kernel
theorem dX12_seated_238 : decode cX12_seated 238 = .ok (.aload_n 0, 1) := by decide +kernel
theorem dX12_seated_239 : decode cX12_seated 239 = .ok (.getfield 267, 3) := by decide +kernel
theorem dX12_seated_242 : decode cX12_seated 242 = .ok (.iload 8, 2) := by decide +kernel
theorem dX12_seated_244 : decode cX12_seated 244 = .ok (.iload 6, 2) := by decide +kernel
theorem dX12_seated_246 : decode cX12_seated 246 = .ok (.aload_n 0, 1) := by decide +kernel
theorem dX12_seated_247 : decode cX12_seated 247 = .ok (.getfield 84, 3) := by decide +kernel
theorem dX12_seated_250 : decode cX12_seated 250 = .ok (.aload_n 0, 1) := by decide +kernel
theorem dX12_seated_251 : decode cX12_seated 251 = .ok (.getfield 51, 3) := by decide +kernel
theorem dX12_seated_254 : decode cX12_seated 254 = .ok (.iaload, 1) := by decide +kernel
theorem dX12_seated_255 : decode cX12_seated 255 = .ok (.irem, 1) := by decide +kernel
theorem dX12_seated_256 : decode cX12_seated 256 = .ok (.iastore, 1) := by decide +kernel
theorem dX12_seated_257 : decode cX12_seated 257 = .ok (.iload 6, 2) := by decide +kernel
theorem dX12_seated_259 : decode cX12_seated 259 = .ok (.aload_n 0, 1) := by decide +kernel
theorem dX12_seated_260 : decode cX12_seated 260 = .ok (.getfield 84, 3) := by decide +kernel
theorem dX12_seated_263 : decode cX12_seated 263 = .ok (.aload_n 0, 1) := by decide +kernel
theorem dX12_seated_264 : decode cX12_seated 264 = .ok (.getfield 51, 3) := by decide +kernel
theorem dX12_seated_267 : decode cX12_seated 267 = .ok (.iaload, 1) := by decide +kernel
theorem dX12_seated_268 : decode cX12_seated 268 = .ok (.idiv, 1) := by decide +kernel
theorem dX12_seated_269 : decode cX12_seated 269 = .ok (.istore 6, 2) := by decide +kernel
theorem dX12_seated_271 : decode cX12_seated 271 = .ok (.iinc 8 (-1), 3) := by decide +kernel
theorem dX12_seated_274 : decode cX12_seated 274 = .ok (.goto (-41), 3) := by decide +kernel
theorem dX12_seated_277 : decode cX12_seated 277 = .ok (.iinc 5 1, 3) := by decide +kernel
theorem dX12_seated_280 : decode cX12_seated 280 = .ok (.goto (-204), 3) := by decide +kernel
theorem dX12_seated_283 : decode cX12_seated 283 = .ok (.iload_n 1, 1) := by decide +kernel
theorem dX12_seated_284 : decode cX12_seated 284 = .ok (.iconst (-1), 1) := by decide +kernel
theorem dX12_seated_285 : decode cX12_seated 285 = .ok (.if_icmp .ne 7, 3) := by decide +kernel
theorem dX12_seated_288 : decode cX12_seated 288 = .ok (.iload_n 3, 1) := by decide +kernel
theorem dX12_seated_289 : decode cX12_seated 289 = .ok (.goto 20, 3) := by decide +kernel
theorem dX12_seated_292 : decode cX12_seated 292 = .ok (.iload_n 1, 1) := by decide +kernel
theorem dX12_seated_293 : decode cX12_seated 293 = .ok (.bipush 20, 2) := by decide +kernel
theorem dX12_seated_295 : decode cX12_seated 295 = .ok (.if_icmp .ne 8, 3) := by decide +kernel
theorem dX12_seated_298 : decode cX12_seated 298 = .ok (.iload 4, 2) := by decide +kernel
theorem dX12_seated_300 : decode cX12_seated 300 = .ok (.goto 9, 3) := by decide +kernel
theorem dX12_seated_303 : decode cX12_seated 303 = .ok (.aload_n 0, 1) := by decide +kernel
theorem dX12_seated_304 : decode cX12_seated 304 = .ok (.getfield 267, 3) := by decide +kernel
theorem dX12_seated_307 : decode cX12_seated 307 = .ok (.iload_n 1, 1) := by decide +kernel
theorem dX12_seated_308 : decode cX12_seated 308 = .ok (.iaload, 1) := by decide +kernel
theorem dX12_seated_309 : decode cX12_seated 309 = .ok (.ireturn, 1) := by decide +kernel
theorem dX12_most_0 : decode cX12_most 0 = .ok (.aload_n 0, 1) := by decide +kernel
theorem dX12_most_1 : decode cX12_most 1 = .ok (.iload_n 1, 1) := by decide +kernel
theorem dX12_most_2 : decode cX12_most 2 = .ok (.invokevirtual 562, 3) := by decide +kernel
theorem dX12_most_5 : decode cX12_most 5 = .ok (.ifCond .eq 22, 3) := by decide +kernel
theorem dX12_most_8 : decode cX12_most 8 = .ok (.iload_n 2, 1) := by decide +kernel
theorem dX12_most_9 : decode cX12_most 9 = .ok (.iconst 0, 1) := by decide +kernel
theorem dX12_most_10 : decode cX12_most 10 = .ok (.bipush 99, 2) := by decide +kernel
theorem dX12_most_12 : decode cX12_most 12 = .ok (.invokestatic 369, 3) := by decide +kernel
theorem dX12_most_15 : decode cX12_most 15 = .ok (.ifCond .eq 12, 3) := by decide +kernel
theorem dX12_most_18 : decode cX12_most 18 = .ok (.iload_n 3, 1) := by decide +kernel
theorem dX12_most_19 : decode cX12_most 19 = .ok (.iconst 0, 1) := by decide +kernel
theorem dX12_most_20 : decode cX12_most 20 = .ok (.iconst 2, 1) := by decide +kernel
theorem dX12_most_21 : decode cX12_most 21 = .ok (.invokestatic 369, 3) := by decide +kernel
theorem dX12_most_24 : decode cX12_most 24 = .ok (.ifCond .ne 5, 3) := by decide +kernel
theorem dX12_most_27 : decode cX12_most 27 = .ok (.iconst (-1), 1) := by decide +kernel
theorem dX12_most_28 : decode cX12_most 28 = .ok (.ireturn, 1) := by decide +kernel
theorem dX12_most_29 : decode cX12_most 29 = .ok (.aload_n 0, 1) := by decide +kernel
theorem dX12_most_30 : decode cX12_most 30 = .ok (.iconst 0, 1) := by decide +kernel
theorem dX12_most_31 : decode cX12_most 31 = .ok (.iload_n 1, 1) := by decide +kernel
theorem dX12_most_32 : decode cX12_most 32 = .ok (.invokevirtual 473, 3) := by decide +kernel
theorem dX12_most_35 : decode cX12_most 35 = .ok (.istore 4, 2) := by decide +kernel
theorem dX12_most_37 : decode cX12_most 37 = .ok (.iload_n 2, 1) := by decide +kernel
theorem dX12_most_38 : decode cX12_most 38 = .ok (.aload_n 0, 1) := by decide +kernel
theorem dX12_most_39 : decode cX12_most 39 = .ok (.iconst 0, 1) := by decide +kernel
theorem dX12_most_40 : decode cX12_most 40 = .ok (.aload_n 0, 1) := by decide +kernel
theorem dX12_most_41 : decode cX12_most 41 = .ok (.getfield 177, 3) := by decide +kernel
theorem dX12_most_44 : decode cX12_most 44 = .ok (.iload_n 1, 1) := by decide +kernel
theorem dX12_most_45 : decode cX12_most 45 = .ok (.iaload, 1) := by decide +kernel
theorem dX12_most_46 : decode cX12_most 46 = .ok (.invokevirtual 541, 3) := by decide +kernel
theorem dX12_most_49 : decode cX12_most 49 = .ok (.imul, 1) := by decide +kernel
theorem dX12_most_50 : decode cX12_most 50 = .ok (.istore 5, 2) := by decide +kernel
theorem dX12_most_52 : decode cX12_most 52 = .ok (.iconst 0, 1) := by decide +kernel
theorem dX12_most_53 : decode cX12_most 53 = .ok (.istore 6, 2) := by decide +kernel
theorem dX12_most_55 : decode cX12_most 55 = .ok (.iload 6, 2) := by decide +kernel
theorem dX12_most_57 : decode cX12_most 57 = .ok (.aload_n 0, 1) := by decide +kernel
theorem dX12_most_58 : decode cX12_most 58 = .ok (.getfield 57, 3) := by decide +kernel
theorem dX12_most_61 : decode cX12_most 61 = .ok (.aload_n 0, 1) := by decide +kernel
theorem dX12_most_62 : decode cX12_most 62 = .ok (.getfield 51, 3) := by decide +kernel
theorem dX12_most_65 : decode cX12_most 65 = .ok (.iaload, 1) := by decide +kernel
theorem dX12_most_66 : decode cX12_most 66 = .ok (.if_icmp .ge 24, 3) := by decide +kernel
theorem dX12_most_69 : decode cX12_most 69 = .ok (.aload_n 0, 1) := by decide +kernel
theorem dX12_most_70 : decode cX12_most 70 = .ok (.getfield 270, 3) := by decide +kernel
theorem dX12_most_73 : decode cX12_most 73 = .ok (.iload 6, 2) := by decide +kernel
theorem dX12_most_75 : decode cX12_most 75 = .ok (.aload_n 0, 1) := by decide +kernel
theorem dX12_most_76 : decode cX12_most 76 = .ok (.iconst 0, 1) := by decide +kernel
theorem dX12_most_77 : decode cX12_most 77 = .ok (.iload_n 1, 1) := by decide +kernel
theorem dX12_most_78 : decode cX12_most 78 = .ok (.iload 6, 2) := by decide +kernel
theorem dX12_most_80 : decode cX12_most 80 = .ok (.invokevirtual 530, 3) := by decide +kernel
theorem dX12_most_83 : decode cX12_most 83 = .ok (.iastore, 1) := by decide +kernel
theorem dX12_most_84 : decode cX12_most 84 = .ok (.iinc 6 1, 3) := by decide +kernel
theorem dX12_most_87 : decode cX12_most 87 = .ok (.goto (-32), 3) := by decide +kernel
theorem dX12_most_90 : decode cX12_most 90 = .ok (.iconst 0, 1) := by decide +kernel
theorem dX12_most_91 : decode cX12_most 91 = .ok (.istore 6, 2) := by decide +kernel
theorem dX12_most_93 : decode cX12_most 93 = .ok (.iconst 0, 1) := by decide +kernel
theorem dX12_most_94 : decode cX12_most 94 = .ok (.istore 7, 2) := by decide +kernel
theorem dX12_most_96 : decode cX12_most 96 = .ok (.iconst 1, 1) := by decide +kernel
theorem dX12_most_97 : decode cX12_most 97 = .ok (.istore 8, 2) := by decide +kernel
theorem dX12_most_99 : decode cX12_most 99 = .ok (.iload 8, 2) := by decide +kernel
theorem dX12_most_101 : decode cX12_most 101 = .ok (.iconst 1, 1) := by decide +kernel
theorem dX12_most_102 : decode cX12_most 102 = .ok (.aload_n 0, 1) := by decide +kernel
theorem dX12_most_103 : decode cX12_most 103 = .ok (.getfield 57, 3) := by decide +kernel
theorem dX12_most_106 : decode cX12_most 106 = .ok (.aload_n 0, 1) := by decide +kernel
theorem dX12_most_107 : decode cX12_most 107 = .ok (.getfield 51, 3) := by decide +kernel
theorem dX12_most_110 : decode cX12_most 110 = .ok (.iaload, 1) := by decide +kernel
theorem dX12_most_111 : decode cX12_most 111 = .ok (.ishl, 1) := by decide +kernel
theorem dX12_most_112 : decode cX12_most 112 = .ok (.if_icmp .ge 161, 3) := by decide +kernel
theorem dX12_most_115 : decode cX12_most 115 = .ok (.iload 8, 2) := by decide +kernel
theorem dX12_most_117 : decode cX12_most 117 = .ok (.iload 4, 2) := by decide +kernel
theorem dX12_most_119 : decode cX12_most 119 = .ok (.iand, 1) := by decide +kernel
theorem dX12_most_120 : decode cX12_most 120 = .ok (.ifCond .ne 147, 3) := by decide +kernel
theorem dX12_most_123 : decode cX12_most 123 = .ok (.iload 8, 2) := by decide +kernel
theorem dX12_most_125 : decode cX12_most 125 = .ok (.invokestatic 482, 3) := by decide +kernel
theorem dX12_most_128 : decode cX12_most 128 = .ok (.iload 6, 2) := by decide +kernel
theorem dX12_most_130 : decode cX12_most 130 = .ok (.invokestatic 482, 3) := by decide +kernel
theorem dX12_most_133 : decode cX12_most 133 = .ok (.if_icmp .ge 6, 3) := by decide +kernel
theorem dX12_most_136 : decode cX12_most 136 = .ok (.goto 131, 3) := by decide +kernel
theorem dX12_most_139 : decode cX12_most 139 = .ok (.iconst 0, 1) := by decide +kernel
theorem dX12_most_140 : decode cX12_most 140 = .ok (.istore 9, 2) := by decide +kernel
theorem dX12_most_142 : decode cX12_most 142 = .ok (.iconst 1, 1) := by decide +kernel
theorem dX12_most_143 : decode cX12_most 143 = .ok (.istore 10, 2) := by decide +kernel
theorem dX12_most_145 : decode cX12_most 145 = .ok (.iconst 0, 1) := by decide +kernel
theorem dX12_most_146 : decode cX12_most 146 = .ok (.istore 11, 2) := by decide +kernel
theorem dX12_most_148 : decode cX12_most 148 = .ok (.iload 11, 2) := by decide +kernel
theorem dX12_most_150 : decode cX12_most 150 = .ok (.aload_n 0, 1) := by decide +kernel
theorem dX12_most_151 : decode cX12_most 151 = .ok (.getfield 57, 3) := by decide +kernel
theorem dX12_most_154 : decode cX12_most 154 = .ok (.aload_n 0, 1) := by decide +kernel
theorem dX12_most_155 : decode cX12_most 155 = .ok (.getfield 51, 3) := by decide +kernel
theorem dX12_most_158 : decode cX12_most 158 = .ok (.iaload, 1) := by decide +kernel
theorem dX12_most_159 : decode cX12_most 159 = .ok (.if_icmp .ge 65, 3) := by decide +kernel
theorem dX12_most_162 : decode cX12_most 162 = .ok (.iload 10, 2) := by decide +kernel
theorem dX12_most_164 : decode cX12_most 164 = .ok (.ifCond .eq 60, 3) := by decide +kernel
theorem dX12_most_167 : decode cX12_most 167 = .ok (.iload 8, 2) := by decide +kernel
theorem dX12_most_169 : decode cX12_most 169 = .ok (.iload 11, 2) := by decide +kernel
theorem dX12_most_171 : decode cX12_most 171 = .ok (.invokestatic 552, 3) := by decide +kernel
theorem dX12_most_174 : decode cX12_most 174 = .ok (.ifCond .ne 6, 3) := by decide +kernel
theorem dX12_most_177 : decode cX12_most 177 = .ok (.goto 41, 3) := by decide +kernel
theorem dX12_most_180 : decode cX12_most 180 = .ok (.iload 9, 2) := by decide +kernel
theorem dX12_most_182 : decode cX12_most 182 = .ok (.aload_n 0, 1) := by decide +kernel
theorem dX12_most_183 : decode cX12_most 183 = .ok (.getfield 270, 3) := by decide +kernel
theorem dX12_most_186 : decode cX12_most 186 = .ok (.iload 11, 2) := by decide +kernel
theorem dX12_most_188 : decode cX12_most 188 = .ok (.iaload, 1) := by decide +kernel
theorem dX12_most_189 : decode cX12_most 189 = .ok (.iadd, 1) := by decide +kernel
theorem dX12_most_190 : decode cX12_most 190 = .ok (.istore 9, 2) := by decide +kernel
theorem dX12_most_192 : decode cX12_most 192 = .ok (.aload_n 0, 1) := by decide +kernel
theorem dX12_most_193 : decode cX12_most 193 = .ok (.iload 11, 2) := by decide +kernel
theorem dX12_most_195 : decode cX12_most 195 = .ok (.invokevirtual 470, 3) := by decide +kernel
theorem dX12_most_198 : decode cX12_most 198 = .ok (.iload 4, 2) := by decide +kernel
theorem dX12_most_200 : decode cX12_most 200 = .ok (.iconst (-1), 1) := by decide +kernel
theorem dX12_most_201 : decode cX12_most 201 = .ok (.ixor, 1) := by decide +kernel
theorem dX12_most_202 : decode cX12_most 202 = .ok (.iand, 1) := by decide +kernel
theorem dX12_most_203 : decode cX12_most 203 = .ok (.iload 8, 2) := by decide +kernel
theorem dX12_most_205 : decode cX12_most 205 = .ok (.iconst (-1), 1) := by decide +kernel
theorem dX12_most_206 : decode cX12_most 206 = .ok (.ixor, 1) := by decide +kernel
theorem dX12_most_207 : decode cX12_most 207 = .ok (.iand, 1) := by decide +kernel
theorem dX12_most_208 : decode cX12_most 208 = .ok (.ifCond .ne 7, 3) := by decide +kernel
theorem dX12_most_211 : decode cX12_most 211 = .ok (.iconst 1, 1) := by decide +kernel
theorem dX12_most_212 : decode cX12_most 212 = .ok (.goto 4, 3) := by decide +kernel
theorem dX12_most_215 : decode cX12_most 215 = .ok (.iconst 0, 1) := by decide +kernel
theorem dX12_most_216 : decode cX12_most 216 = .ok (.istore 10, 2) := by decide +kernel
theorem dX12_most_218 : decode cX12_most 218 = .ok (.iinc 11 1, 3) := by decide +kernel
theorem dX12_most_221 : decode cX12_most 221 = .ok (.goto (-73), 3) := by decide +kernel
theorem dX12_most_224 : decode cX12_most 224 = .ok (.iload 10, 2) := by decide +kernel
theorem dX12_most_226 : decode cX12_most 226 = .ok (.ifCond .eq 41, 3) := by decide +kernel
theorem dX12_most_229 : decode cX12_most 229 = .ok (.iload 9, 2) := by decide +kernel
theorem dX12_most_231 : decode cX12_most 231 = .ok (.iload 5, 2) := by decide +kernel
theorem dX12_most_233 : decode cX12_most 233 = .ok (.if_icmp .gt 34, 3) := by decide +kernel
theorem dX12_most_236 : decode cX12_most 236 = .ok (.iload 8, 2) := by decide +kernel
theorem dX12_most_238 : decode cX12_most 238 = .ok (.invokestatic 482, 3) := by decide +kernel
theorem dX12_most_241 : decode cX12_most 241 = .ok (.iload 6, 2) := by decide +kernel
theorem dX12_most_243 : decode cX12_most 243 = .ok (.invokestatic 482, 3) := by decide +kernel
theorem dX12_most_246 : decode cX12_most 246 = .ok (.if_icmp .ne 13, 3) := by decide +kernel
theorem dX12_most_249 : decode cX12_most 249 = .ok (.iload 9, 2) := by decide +kernel
theorem dX12_most_251 : decode cX12_most 251 = .ok (.iload 7, 2) := by decide +kernel
theorem dX12_most_253 : decode cX12_most 253 = .ok (.if_icmp .lt 6, 3) := by decide +kernel
theorem dX12_most_256 : decode cX12_most 256 = .ok (.goto 11, 3) := by decide +kernel
theorem dX12_most_259 : decode cX12_most 259 = .ok (.iload 8, 2) := by decide +kernel
theorem dX12_most_261 : decode cX12_most 261 = .ok (.istore 6, 2) := by decide +kernel
theorem dX12_most_263 : decode cX12_most 263 = .ok (.iload 9, 2) := by decide +kernel
theorem dX12_most_265 : decode cX12_most 265 = .ok (.istore 7, 2) := by decide +kernel
theorem dX12_most_267 : decode cX12_most 267 = .ok (.iinc 8 1, 3) := by decide +kernel
theorem dX12_most_270 : decode cX12_most 270 = .ok (.goto (-171), 3) := by decide +kernel
theorem dX12_most_273 : decode cX12_most 273 = .ok (.iload_n 3, 1) := by decide +kernel
theorem dX12_most_274 : decode cX12_most 274 = .ok (.ifCond .ne 11, 3) := by decide +kernel
theorem dX12_most_277 : decode cX12_most 277 = .ok (.iload 6, 2) := by decide +kernel
theorem dX12_most_279 : decode cX12_most 279 = .ok (.invokestatic 482, 3) := by decide +kernel
theorem dX12_most_282 : decode cX12_most 282 = .ok (.goto 15, 3) := by decide +kernel
theorem dX12_most_285 : decode cX12_most 285 = .ok (.iload_n 3, 1) := by decide +kernel
theorem dX12_most_286 : decode cX12_most 286 = .ok (.iconst 1, 1) := by decide +kernel
theorem dX12_most_287 : decode cX12_most 287 = .ok (.if_icmp .ne 8, 3) := by decide +kernel
theorem dX12_most_290 : decode cX12_most 290 = .ok (.iload 6, 2) := by decide +kernel
theorem dX12_most_292 : decode cX12_most 292 = .ok (.goto 5, 3) := by decide +kernel
theorem dX12_most_295 : decode cX12_most 295 = .ok (.iload 7, 2) := by decide +kernel
theorem dX12_most_297 : decode cX12_most 297 = .ok (.ireturn, 1) := by decide +kernel
theorem dX12_wax_0 : decode cX12_wax 0 = .ok (.aload_n 0, 1) := by decide +kernel
theorem dX12_wax_1 : decode cX12_wax 1 = .ok (.iload_n 1, 1) := by decide +kernel
theorem dX12_wax_2 : decode cX12_wax 2 = .ok (.invokevirtual 562, 3) := by decide +kernel
theorem dX12_wax_5 : decode cX12_wax 5 = .ok (.ifCond .eq 16, 3) := by decide +kernel
theorem dX12_wax_8 : decode cX12_wax 8 = .ok (.iload_n 2, 1) := by decide +kernel
theorem dX12_wax_9 : decode cX12_wax 9 = .ok (.ifCond .lt 12, 3) := by decide +kernel
theorem dX12_wax_12 : decode cX12_wax 12 = .ok (.iload_n 3, 1) := by decide +kernel
theorem dX12_wax_13 : decode cX12_wax 13 = .ok (.iconst 0, 1) := by decide +kernel
theorem dX12_wax_14 : decode cX12_wax 14 = .ok (.iconst 2, 1) := by decide +kernel
theorem dX12_wax_15 : decode cX12_wax 15 = .ok (.invokestatic 369, 3) := by decide +kernel
theorem dX12_wax_18 : decode cX12_wax 18 = .ok (.ifCond .ne 5, 3) := by decide +kernel
theorem dX12_wax_21 : decode cX12_wax 21 = .ok (.iconst (-1), 1) := by decide +kernel
theorem dX12_wax_22 : decode cX12_wax 22 = .ok (.ireturn, 1) := by decide +kernel
theorem dX12_wax_23 : decode cX12_wax 23 = .ok (.aload_n 0, 1) := by decide +kernel
theorem dX12_wax_24 : decode cX12_wax 24 = .ok (.iconst 0, 1) := by decide +kernel
theorem dX12_wax_25 : decode cX12_wax 25 = .ok (.putfield 231, 3) := by decide +kernel
theorem dX12_wax_28 : decode cX12_wax 28 = .ok (.iconst 0, 1) := by decide +kernel
theorem dX12_wax_29 : decode cX12_wax 29 = .ok (.istore 4, 2) := by decide +kernel
theorem dX12_wax_31 : decode cX12_wax 31 = .ok (.iload 4, 2) := by decide +kernel
theorem dX12_wax_33 : decode cX12_wax 33 = .ok (.aload_n 0, 1) := by decide +kernel
theorem dX12_wax_34 : decode cX12_wax 34 = .ok (.getfield 57, 3) := by decide +kernel
theorem dX12_wax_37 : decode cX12_wax 37 = .ok (.aload_n 0, 1) := by decide +kernel
theorem dX12_wax_38 : decode cX12_wax 38 = .ok (.getfield 51, 3) := by decide +kernel
theorem dX12_wax_41 : decode cX12_wax 41 = .ok (.iaload, 1) := by decide +kernel
theorem dX12_wax_42 : decode cX12_wax 42 = .ok (.if_icmp .ge 24, 3) := by decide +kernel
theorem dX12_wax_45 : decode cX12_wax 45 = .ok (.aload_n 0, 1) := by decide +kernel
theorem dX12_wax_46 : decode cX12_wax 46 = .ok (.getfield 270, 3) := by decide +kernel
theorem dX12_wax_49 : decode cX12_wax 49 = .ok (.iload 4, 2) := by decide +kernel
theorem dX12_wax_51 : decode cX12_wax 51 = .ok (.aload_n 0, 1) := by decide +kernel
theorem dX12_wax_52 : decode cX12_wax 52 = .ok (.iconst 0, 1) := by decide +kernel
theorem dX12_wax_53 : decode cX12_wax 53 = .ok (.iload_n 1, 1) := by decide +kernel
theorem dX12_wax_54 : decode cX12_wax 54 = .ok (.iload 4, 2) := by decide +kernel
theorem dX12_wax_56 : decode cX12_wax 56 = .ok (.invokevirtual 530, 3) := by decide +kernel
theorem dX12_wax_59 : decode cX12_wax 59 = .ok (.iastore, 1) := by decide +kernel
theorem dX12_wax_60 : decode cX12_wax 60 = .ok (.iinc 4 1, 3) := by decide +kernel
theorem dX12_wax_63 : decode cX12_wax 63 = .ok (.goto (-32), 3) := by decide +kernel
theorem dX12_wax_66 : decode cX12_wax 66 = .ok (.aload_n 0, 1) := by decide +kernel
theorem dX12_wax_67 : decode cX12_wax 67 = .ok (.iconst (-1), 1) := by decide +kernel
theorem dX12_wax_68 : decode cX12_wax 68 = .ok (.putfield 231, 3) := by decide +kernel
theorem dX12_wax_71 : decode cX12_wax 71 = .ok (.iconst 0, 1) := by decide +kernel
theorem dX12_wax_72 : decode cX12_wax 72 = .ok (.istore 4, 2) := by decide +kernel
theorem dX12_wax_74 : decode cX12_wax 74 = .ok (.iconst 1, 1) := by decide +kernel
theorem dX12_wax_75 : decode cX12_wax 75 = .ok (.aload_n 0, 1) := by decide +kernel
theorem dX12_wax_76 : decode cX12_wax 76 = .ok (.getfield 57, 3) := by decide +kernel
theorem dX12_wax_79 : decode cX12_wax 79 = .ok (.aload_n 0, 1) := by decide +kernel
theorem dX12_wax_80 : decode cX12_wax 80 = .ok (.getfield 51, 3) := by decide +kernel
theorem dX12_wax_83 : decode cX12_wax 83 = .ok (.iaload, 1) := by decide +kernel
theorem dX12_wax_84 : decode cX12_wax 84 = .ok (.ishl, 1) := by decide +kernel
theorem dX12_wax_85 : decode cX12_wax 85 = .ok (.iconst 1, 1) := by decide +kernel
theorem dX12_wax_86 : decode cX12_wax 86 = .ok (.isub, 1) := by decide +kernel
theorem dX12_wax_87 : decode cX12_wax 87 = .ok (.istore 5, 2) := by decide +kernel
theorem dX12_wax_89 : decode cX12_wax 89 = .ok (.iconst 0, 1) := by decide +kernel
theorem dX12_wax_90 : decode cX12_wax 90 = .ok (.istore 6, 2) := by decide +kernel
theorem dX12_wax_92 : decode cX12_wax 92 = .ok (.iconst 0, 1) := by decide +kernel
theorem dX12_wax_93 : decode cX12_wax 93 = .ok (.istore 7, 2) := by decide +kernel
theorem dX12_wax_95 : decode cX12_wax 95 = .ok (.iload 7, 2) := by decide +kernel
theorem dX12_wax_97 : decode cX12_wax 97 = .ok (.iconst 1, 1) := by decide +kernel
theorem dX12_wax_98 : decode cX12_wax 98 = .ok (.aload_n 0, 1) := by decide +kernel
theorem dX12_wax_99 : decode cX12_wax 99 = .ok (.getfield 57, 3) := by decide +kernel
theorem dX12_wax_102 : decode cX12_wax 102 = .ok (.aload_n 0, 1) := by decide +kernel
theorem dX12_wax_103 : decode cX12_wax 103 = .ok (.getfield 51, 3) := by decide +kernel
theorem dX12_wax_106 : decode cX12_wax 106 = .ok (.iaload, 1) := by decide +kernel
theorem dX12_wax_107 : decode cX12_wax 107 = .ok (.ishl, 1) := by decide +kernel
theorem dX12_wax_108 : decode cX12_wax 108 = .ok (.if_icmp .ge 120, 3) := by decide +kernel
theorem dX12_wax_111 : decode cX12_wax 111 = .ok (.iconst 0, 1) := by decide +kernel
theorem dX12_wax_112 : decode cX12_wax 112 = .ok (.istore 8, 2) := by decide +kernel
theorem dX12_wax_114 : decode cX12_wax 114 = .ok (.iconst 1, 1) := by decide +kernel
theorem dX12_wax_115 : decode cX12_wax 115 = .ok (.istore 9, 2) := by decide +kernel
theorem dX12_wax_117 : decode cX12_wax 117 = .ok (.iconst 0, 1) := by decide +kernel
theorem dX12_wax_118 : decode cX12_wax 118 = .ok (.istore 10, 2) := by decide +kernel
theorem dX12_wax_120 : decode cX12_wax 120 = .ok (.iload 10, 2) := by decide +kernel
theorem dX12_wax_122 : decode cX12_wax 122 = .ok (.aload_n 0, 1) := by decide +kernel
theorem dX12_wax_123 : decode cX12_wax 123 = .ok (.getfield 57, 3) := by decide +kernel
theorem dX12_wax_126 : decode cX12_wax 126 = .ok (.aload_n 0, 1) := by decide +kernel
theorem dX12_wax_127 : decode cX12_wax 127 = .ok (.getfield 51, 3) := by decide +kernel
theorem dX12_wax_130 : decode cX12_wax 130 = .ok (.iaload, 1) := by decide +kernel
theorem dX12_wax_131 : decode cX12_wax 131 = .ok (.if_icmp .ge 60, 3) := by decide +kernel
theorem dX12_wax_134 : decode cX12_wax 134 = .ok (.iload 9, 2) := by decide +kernel
theorem dX12_wax_136 : decode cX12_wax 136 = .ok (.ifCond .eq 55, 3) := by decide +kernel
theorem dX12_wax_139 : decode cX12_wax 139 = .ok (.iload 7, 2) := by decide +kernel
theorem dX12_wax_141 : decode cX12_wax 141 = .ok (.iload 10, 2) := by decide +kernel
theorem dX12_wax_143 : decode cX12_wax 143 = .ok (.invokestatic 552, 3) := by decide +kernel
theorem dX12_wax_146 : decode cX12_wax 146 = .ok (.ifCond .ne 6, 3) := by decide +kernel
theorem dX12_wax_149 : decode cX12_wax 149 = .ok (.goto 36, 3) := by decide +kernel
theorem dX12_wax_152 : decode cX12_wax 152 = .ok (.iload 8, 2) := by decide +kernel
theorem dX12_wax_154 : decode cX12_wax 154 = .ok (.aload_n 0, 1) := by decide +kernel
theorem dX12_wax_155 : decode cX12_wax 155 = .ok (.getfield 270, 3) := by decide +kernel
theorem dX12_wax_158 : decode cX12_wax 158 = .ok (.iload 10, 2) := by decide +kernel
theorem dX12_wax_160 : decode cX12_wax 160 = .ok (.iaload, 1) := by decide +kernel
theorem dX12_wax_161 : decode cX12_wax 161 = .ok (.iadd, 1) := by decide +kernel
theorem dX12_wax_162 : decode cX12_wax 162 = .ok (.istore 8, 2) := by decide +kernel
theorem dX12_wax_164 : decode cX12_wax 164 = .ok (.aload_n 0, 1) := by decide +kernel
theorem dX12_wax_165 : decode cX12_wax 165 = .ok (.iload 10, 2) := by decide +kernel
theorem dX12_wax_167 : decode cX12_wax 167 = .ok (.invokevirtual 470, 3) := by decide +kernel
theorem dX12_wax_170 : decode cX12_wax 170 = .ok (.iload 7, 2) := by decide +kernel
theorem dX12_wax_172 : decode cX12_wax 172 = .ok (.iconst (-1), 1) := by decide +kernel
theorem dX12_wax_173 : decode cX12_wax 173 = .ok (.ixor, 1) := by decide +kernel
theorem dX12_wax_174 : decode cX12_wax 174 = .ok (.iand, 1) := by decide +kernel
theorem dX12_wax_175 : decode cX12_wax 175 = .ok (.ifCond .ne 7, 3) := by decide +kernel
theorem dX12_wax_178 : decode cX12_wax 178 = .ok (.iconst 1, 1) := by decide +kernel
theorem dX12_wax_179 : decode cX12_wax 179 = .ok (.goto 4, 3) := by decide +kernel
theorem dX12_wax_182 : decode cX12_wax 182 = .ok (.iconst 0, 1) := by decide +kernel
theorem dX12_wax_183 : decode cX12_wax 183 = .ok (.istore 9, 2) := by decide +kernel
theorem dX12_wax_185 : decode cX12_wax 185 = .ok (.iinc 10 1, 3) := by decide +kernel
theorem dX12_wax_188 : decode cX12_wax 188 = .ok (.goto (-68), 3) := by decide +kernel
theorem dX12_wax_191 : decode cX12_wax 191 = .ok (.iload 9, 2) := by decide +kernel
theorem dX12_wax_193 : decode cX12_wax 193 = .ok (.ifCond .eq 29, 3) := by decide +kernel
theorem dX12_wax_196 : decode cX12_wax 196 = .ok (.iload 8, 2) := by decide +kernel
theorem dX12_wax_198 : decode cX12_wax 198 = .ok (.iload_n 2, 1) := by decide +kernel
theorem dX12_wax_199 : decode cX12_wax 199 = .ok (.if_icmp .eq 6, 3) := by decide +kernel
theorem dX12_wax_202 : decode cX12_wax 202 = .ok (.goto 20, 3) := by decide +kernel
theorem dX12_wax_205 : decode cX12_wax 205 = .ok (.iinc 4 1, 3) := by decide +kernel
theorem dX12_wax_208 : decode cX12_wax 208 = .ok (.iload 5, 2) := by decide +kernel
theorem dX12_wax_210 : decode cX12_wax 210 = .ok (.iload 7, 2) := by decide +kernel
theorem dX12_wax_212 : decode cX12_wax 212 = .ok (.iand, 1) := by decide +kernel
theorem dX12_wax_213 : decode cX12_wax 213 = .ok (.istore 5, 2) := by decide +kernel
theorem dX12_wax_215 : decode cX12_wax 215 = .ok (.iload 6, 2) := by decide +kernel
theorem dX12_wax_217 : decode cX12_wax 217 = .ok (.iload 7, 2) := by decide +kernel
theorem dX12_wax_219 : decode cX12_wax 219 = .ok (.ior, 1) := by decide +kernel
theorem dX12_wax_220 : decode cX12_wax 220 = .ok (.istore 6, 2) := by decide +kernel
theorem dX12_wax_222 : decode cX12_wax 222 = .ok (.iinc 7 1, 3) := by decide +kernel
theorem dX12_wax_225 : decode cX12_wax 225 = .ok (.goto (-130), 3) := by decide +kernel
theorem dX12_wax_228 : decode cX12_wax 228 = .ok (.iload_n 3, 1) := by decide +kernel
theorem dX12_wax_229 : decode cX12_wax 229 = .ok (.ifCond .ne 8, 3) := by decide +kernel
theorem dX12_wax_232 : decode cX12_wax 232 = .ok (.iload 4, 2) := by decide +kernel
theorem dX12_wax_234 : decode cX12_wax 234 = .ok (.goto 24, 3) := by decide +kernel
theorem dX12_wax_237 : decode cX12_wax 237 = .ok (.iload_n 3, 1) := by decide +kernel
theorem dX12_wax_238 : decode cX12_wax 238 = .ok (.iconst 1, 1) := by decide +kernel
theorem dX12_wax_239 : decode cX12_wax 239 = .ok (.if_icmp .ne 17, 3) := by decide +kernel
theorem dX12_wax_242 : decode cX12_wax 242 = .ok (.iload 4, 2) := by decide +kernel
theorem dX12_wax_244 : decode cX12_wax 244 = .ok (.ifCond .ne 7, 3) := by decide +kernel
theorem dX12_wax_247 : decode cX12_wax 247 = .ok (.iconst 0, 1) := by decide +kernel
theorem dX12_wax_248 : decode cX12_wax 248 = .ok (.goto 10, 3) := by decide +kernel
theorem dX12_wax_251 : decode cX12_wax 251 = .ok (.iload 5, 2) := by decide +kernel
theorem dX12_wax_253 : decode cX12_wax 253 = .ok (.goto 5, 3) := by decide +kernel
theorem dX12_wax_256 : decode cX12_wax 256 = .ok (.iload 6, 2) := by decide +kernel
theorem dX12_wax_258 : decode cX12_wax 258 = .ok (.ireturn, 1) := by decide +kernel
theorem dX12_allWork_0 : decode cX12_allWork 0 = .ok (.iconst 0, 1) := by decide +kernel
theorem dX12_allWork_1 : decode cX12_allWork 1 = .ok (.istore_n 3, 1) := by decide +kernel
theorem dX12_allWork_2 : decode cX12_allWork 2 = .ok (.iconst 0, 1) := by decide +kernel
theorem dX12_allWork_3 : decode cX12_allWork 3 = .ok (.istore 4, 2) := by decide +kernel
theorem dX12_allWork_5 : decode cX12_allWork 5 = .ok (.iload 4, 2) := by decide +kernel
theorem dX12_allWork_7 : decode cX12_allWork 7 = .ok (.aload_n 0, 1) := by decide +kernel
theorem dX12_allWork_8 : decode cX12_allWork 8 = .ok (.getfield 75, 3) := by decide +kernel
theorem dX12_allWork_11 : decode cX12_allWork 11 = .ok (.aload_n 0, 1) := by decide +kernel
theorem dX12_allWork_12 : decode cX12_allWork 12 = .ok (.getfield 51, 3) := by decide +kernel
theorem dX12_allWork_15 : decode cX12_allWork 15 = .ok (.iaload, 1) := by decide +kernel
theorem dX12_allWork_16 : decode cX12_allWork 16 = .ok (.if_icmp .ge 20, 3) := by decide +kernel
theorem dX12_allWork_19 : decode cX12_allWork 19 = .ok (.iload_n 3, 1) := by decide +kernel
theorem dX12_allWork_20 : decode cX12_allWork 20 = .ok (.aload_n 0, 1) := by decide +kernel
theorem dX12_allWork_21 : decode cX12_allWork 21 = .ok (.iload 4, 2) := by decide +kernel
theorem dX12_allWork_23 : decode cX12_allWork 23 = .ok (.iload_n 1, 1) := by decide +kernel
theorem dX12_allWork_24 : decode cX12_allWork 24 = .ok (.iload_n 2, 1) := by decide +kernel
theorem dX12_allWork_25 : decode cX12_allWork 25 = .ok (.invokevirtual 601, 3) := by decide +kernel
theorem dX12_allWork_28 : decode cX12_allWork 28 = .ok (.iadd, 1) := by decide +kernel
theorem dX12_allWork_29 : decode cX12_allWork 29 = .ok (.istore_n 3, 1) := by decide +kernel
theorem dX12_allWork_30 : decode cX12_allWork 30 = .ok (.iinc 4 1, 3) := by decide +kernel
theorem dX12_allWork_33 : decode cX12_allWork 33 = .ok (.goto (-28), 3) := by decide +kernel
theorem dX12_allWork_36 : decode cX12_allWork 36 = .ok (.iload_n 3, 1) := by decide +kernel
theorem dX12_allWork_37 : decode cX12_allWork 37 = .ok (.ireturn, 1) := by decide +kernel
theorem dX12_index_0 : decode cX12_index 0 = .ok (.aload_n 0, 1) := by decide +kernel
theorem dX12_index_1 : decode cX12_index 1 = .ok (.iload_n 1, 1) := by decide +kernel
theorem dX12_index_2 : decode cX12_index 2 = .ok (.invokevirtual 598, 3) := by decide +kernel
theorem dX12_index_5 : decode cX12_index 5 = .ok (.ifCond .eq 12, 3) := by decide +kernel
theorem dX12_index_8 : decode cX12_index 8 = .ok (.iload_n 2, 1) := by decide +kernel
theorem dX12_index_9 : decode cX12_index 9 = .ok (.iconst 0, 1) := by decide +kernel
theorem dX12_index_10 : decode cX12_index 10 = .ok (.iconst 1, 1) := by decide +kernel
theorem dX12_index_11 : decode cX12_index 11 = .ok (.invokestatic 369, 3) := by decide +kernel
theorem dX12_index_14 : decode cX12_index 14 = .ok (.ifCond .ne 5, 3) := by decide +kernel
theorem dX12_index_17 : decode cX12_index 17 = .ok (.iconst (-1), 1) := by decide +kernel
theorem dX12_index_18 : decode cX12_index 18 = .ok (.ireturn, 1) := by decide +kernel
theorem dX12_index_19 : decode cX12_index 19 = .ok (.aload_n 0, 1) := by decide +kernel
theorem dX12_index_20 : decode cX12_index 20 = .ok (.iload_n 1, 1) := by decide +kernel
theorem dX12_index_21 : decode cX12_index 21 = .ok (.iconst (-1), 1) := by decide +kernel
theorem dX12_index_22 : decode cX12_index 22 = .ok (.invokevirtual 614, 3) := by decide +kernel
theorem dX12_index_25 : decode cX12_index 25 = .ok (.istore_n 3, 1) := by decide +kernel
theorem dX12_index_26 : decode cX12_index 26 = .ok (.iconst (-1), 1) := by decide +kernel
theorem dX12_index_27 : decode cX12_index 27 = .ok (.istore 4, 2) := by decide +kernel
theorem dX12_index_29 : decode cX12_index 29 = .ok (.iload_n 3, 1) := by decide +kernel
theorem dX12_index_30 : decode cX12_index 30 = .ok (.istore 5, 2) := by decide +kernel
theorem dX12_index_32 : decode cX12_index 32 = .ok (.iconst 0, 1) := by decide +kernel
theorem dX12_index_33 : decode cX12_index 33 = .ok (.istore 6, 2) := by decide +kernel
theorem dX12_index_35 : decode cX12_index 35 = .ok (.iload 6, 2) := by decide +kernel
theorem dX12_index_37 : decode cX12_index 37 = .ok (.aload_n 0, 1) := by decide +kernel
theorem dX12_index_38 : decode cX12_index 38 = .ok (.getfield 57, 3) := by decide +kernel
theorem dX12_index_41 : decode cX12_index 41 = .ok (.aload_n 0, 1) := by decide +kernel
theorem dX12_index_42 : decode cX12_index 42 = .ok (.getfield 51, 3) := by decide +kernel
theorem dX12_index_45 : decode cX12_index 45 = .ok (.iaload, 1) := by decide +kernel
theorem dX12_index_46 : decode cX12_index 46 = .ok (.if_icmp .ge 48, 3) := by decide +kernel
theorem dX12_index_49 : decode cX12_index 49 = .ok (.iload_n 1, 1) := by decide +kernel
theorem dX12_index_50 : decode cX12_index 50 = .ok (.iload 6, 2) := by decide +kernel
theorem dX12_index_52 : decode cX12_index 52 = .ok (.invokestatic 552, 3) := by decide +kernel
theorem dX12_index_55 : decode cX12_index 55 = .ok (.ifCond .eq 6, 3) := by decide +kernel
theorem dX12_index_58 : decode cX12_index 58 = .ok (.goto 30, 3) := by decide +kernel
theorem dX12_index_61 : decode cX12_index 61 = .ok (.aload_n 0, 1) := by decide +kernel
theorem dX12_index_62 : decode cX12_index 62 = .ok (.iload_n 1, 1) := by decide +kernel
theorem dX12_index_63 : decode cX12_index 63 = .ok (.iload 6, 2) := by decide +kernel
theorem dX12_index_65 : decode cX12_index 65 = .ok (.invokevirtual 614, 3) := by decide +kernel
theorem dX12_index_68 : decode cX12_index 68 = .ok (.istore 7, 2) := by decide +kernel
theorem dX12_index_70 : decode cX12_index 70 = .ok (.iload 7, 2) := by decide +kernel
theorem dX12_index_72 : decode cX12_index 72 = .ok (.iload 5, 2) := by decide +kernel
theorem dX12_index_74 : decode cX12_index 74 = .ok (.if_icmp .lt 6, 3) := by decide +kernel
theorem dX12_index_77 : decode cX12_index 77 = .ok (.goto 11, 3) := by decide +kernel
theorem dX12_index_80 : decode cX12_index 80 = .ok (.iload 6, 2) := by decide +kernel
theorem dX12_index_82 : decode cX12_index 82 = .ok (.istore 4, 2) := by decide +kernel
theorem dX12_index_84 : decode cX12_index 84 = .ok (.iload 7, 2) := by decide +kernel
theorem dX12_index_86 : decode cX12_index 86 = .ok (.istore 5, 2) := by decide +kernel
theorem dX12_index_88 : decode cX12_index 88 = .ok (.iinc 6 1, 3) := by decide +kernel
theorem dX12_index_91 : decode cX12_index 91 = .ok (.goto (-56), 3) := by decide +kernel
theorem dX12_index_94 : decode cX12_index 94 = .ok (.iload 4, 2) := by decide +kernel
theorem dX12_index_96 : decode cX12_index 96 = .ok (.iconst (-1), 1) := by decide +kernel
theorem dX12_index_97 : decode cX12_index 97 = .ok (.if_icmp .eq 7, 3) := by decide +kernel
theorem dX12_index_100 : decode cX12_index 100 = .ok (.iload_n 2, 1) := by decide +kernel
theorem dX12_index_101 : decode cX12_index 101 = .ok (.ifCond .ne 8, 3) := by decide +kernel
theorem dX12_index_104 : decode cX12_index 104 = .ok (.iload 4, 2) := by decide +kernel
theorem dX12_index_106 : decode cX12_index 106 = .ok (.goto 7, 3) := by decide +kernel
theorem dX12_index_109 : decode cX12_index 109 = .ok (.iload_n 3, 1) := by decide +kernel
theorem dX12_index_110 : decode cX12_index 110 = .ok (.iload 5, 2) := by decide +kernel
theorem dX12_index_112 : decode cX12_index 112 = .ok (.isub, 1) := by decide +kernel
theorem dX12_index_113 : decode cX12_index 113 = .ok (.ireturn, 1) := by decide +kernel
theorem dX12_writes_0 : decode cX12_writes 0 = .ok (.aload_n 0, 1) := by decide +kernel
theorem dX12_writes_1 : decode cX12_writes 1 = .ok (.getfield 273, 3) := by decide +kernel
theorem dX12_writes_4 : decode cX12_writes 4 = .ok (.aload_n 0, 1) := by decide +kernel
theorem dX12_writes_5 : decode cX12_writes 5 = .ok (.getfield 276, 3) := by decide +kernel
theorem dX12_writes_8 : decode cX12_writes 8 = .ok (.iload_n 1, 1) := by decide +kernel
theorem dX12_writes_9 : decode cX12_writes 9 = .ok (.sipush 255, 3) := by decide +kernel
theorem dX12_writes_12 : decode cX12_writes 12 = .ok (.iand, 1) := by decide +kernel
theorem dX12_writes_13 : decode cX12_writes 13 = .ok (.iastore, 1) := by decide +kernel
theorem dX12_writes_14 : decode cX12_writes 14 = .ok (.aload_n 0, 1) := by decide +kernel
theorem dX12_writes_15 : decode cX12_writes 15 = .ok (.dup, 1) := by decide +kernel
theorem dX12_writes_16 : decode cX12_writes 16 = .ok (.getfield 276, 3) := by decide +kernel
theorem dX12_writes_19 : decode cX12_writes 19 = .ok (.iconst 1, 1) := by decide +kernel
theorem dX12_writes_20 : decode cX12_writes 20 = .ok (.iadd, 1) := by decide +kernel
theorem dX12_writes_21 : decode cX12_writes 21 = .ok (.putfield 276, 3) := by decide +kernel
theorem dX12_writes_24 : decode cX12_writes 24 = .ok (.return_, 1) := by decide +kernel
theorem dX12_writesTwo_0 : decode cX12_writesTwo 0 = .ok (.aload_n 0, 1) := by decide +kernel
theorem dX12_writesTwo_1 : decode cX12_writesTwo 1 = .ok (.iload_n 1, 1) := by decide +kernel
theorem dX12_writesTwo_2 : decode cX12_writesTwo 2 = .ok (.bipush 8, 2) := by decide +kernel
theorem dX12_writesTwo_4 : decode cX12_writesTwo 4 = .ok (.ishr, 1) := by decide +kernel
theorem dX12_writesTwo_5 : decode cX12_writesTwo 5 = .ok (.invokevirtual 617, 3) := by decide +kernel
theorem dX12_writesTwo_8 : decode cX12_writesTwo 8 = .ok (.aload_n 0, 1) := by decide +kernel
theorem dX12_writesTwo_9 : decode cX12_writesTwo 9 = .ok (.iload_n 1, 1) := by decide +kernel
theorem dX12_writesTwo_10 : decode cX12_writesTwo 10 = .ok (.invokevirtual 617, 3) := by decide +kernel
theorem dX12_writesTwo_13 : decode cX12_writesTwo 13 = .ok (.return_, 1) := by decide +kernel
theorem dX12_image_0 : decode cX12_image 0 = .ok (.aload_n 0, 1) := by decide +kernel
theorem dX12_image_1 : decode cX12_image 1 = .ok (.iconst 0, 1) := by decide +kernel
theorem dX12_image_2 : decode cX12_image 2 = .ok (.putfield 276, 3) := by decide +kernel
theorem dX12_image_5 : decode cX12_image 5 = .ok (.aload_n 0, 1) := by decide +kernel
theorem dX12_image_6 : decode cX12_image 6 = .ok (.aload_n 0, 1) := by decide +kernel
theorem dX12_image_7 : decode cX12_image 7 = .ok (.getfield 171, 3) := by decide +kernel
theorem dX12_image_10 : decode cX12_image 10 = .ok (.iconst 0, 1) := by decide +kernel
theorem dX12_image_11 : decode cX12_image 11 = .ok (.iaload, 1) := by decide +kernel
theorem dX12_image_12 : decode cX12_image 12 = .ok (.invokevirtual 620, 3) := by decide +kernel
theorem dX12_image_15 : decode cX12_image 15 = .ok (.aload_n 0, 1) := by decide +kernel
theorem dX12_image_16 : decode cX12_image 16 = .ok (.aload_n 0, 1) := by decide +kernel
theorem dX12_image_17 : decode cX12_image 17 = .ok (.getfield 174, 3) := by decide +kernel
theorem dX12_image_20 : decode cX12_image 20 = .ok (.iconst 0, 1) := by decide +kernel
theorem dX12_image_21 : decode cX12_image 21 = .ok (.iaload, 1) := by decide +kernel
theorem dX12_image_22 : decode cX12_image 22 = .ok (.invokevirtual 620, 3) := by decide +kernel
theorem dX12_image_25 : decode cX12_image 25 = .ok (.iconst 0, 1) := by decide +kernel
theorem dX12_image_26 : decode cX12_image 26 = .ok (.istore_n 1, 1) := by decide +kernel
theorem dX12_image_27 : decode cX12_image 27 = .ok (.iload_n 1, 1) := by decide +kernel
theorem dX12_image_28 : decode cX12_image 28 = .ok (.aload_n 0, 1) := by decide +kernel
theorem dX12_image_29 : decode cX12_image 29 = .ok (.getfield 75, 3) := by decide +kernel
theorem dX12_image_32 : decode cX12_image 32 = .ok (.aload_n 0, 1) := by decide +kernel
theorem dX12_image_33 : decode cX12_image 33 = .ok (.getfield 51, 3) := by decide +kernel
theorem dX12_image_36 : decode cX12_image 36 = .ok (.iaload, 1) := by decide +kernel
theorem dX12_image_37 : decode cX12_image 37 = .ok (.if_icmp .ge 104, 3) := by decide +kernel
theorem dX12_image_40 : decode cX12_image 40 = .ok (.aload_n 0, 1) := by decide +kernel
theorem dX12_image_41 : decode cX12_image 41 = .ok (.aload_n 0, 1) := by decide +kernel
theorem dX12_image_42 : decode cX12_image 42 = .ok (.getfield 177, 3) := by decide +kernel
theorem dX12_image_45 : decode cX12_image 45 = .ok (.iload_n 1, 1) := by decide +kernel
theorem dX12_image_46 : decode cX12_image 46 = .ok (.iaload, 1) := by decide +kernel
theorem dX12_image_47 : decode cX12_image 47 = .ok (.invokevirtual 617, 3) := by decide +kernel
theorem dX12_image_50 : decode cX12_image 50 = .ok (.aload_n 0, 1) := by decide +kernel
theorem dX12_image_51 : decode cX12_image 51 = .ok (.aload_n 0, 1) := by decide +kernel
theorem dX12_image_52 : decode cX12_image 52 = .ok (.getfield 180, 3) := by decide +kernel
theorem dX12_image_55 : decode cX12_image 55 = .ok (.iload_n 1, 1) := by decide +kernel
theorem dX12_image_56 : decode cX12_image 56 = .ok (.iaload, 1) := by decide +kernel
theorem dX12_image_57 : decode cX12_image 57 = .ok (.invokevirtual 620, 3) := by decide +kernel
theorem dX12_image_60 : decode cX12_image 60 = .ok (.aload_n 0, 1) := by decide +kernel
theorem dX12_image_61 : decode cX12_image 61 = .ok (.aload_n 0, 1) := by decide +kernel
theorem dX12_image_62 : decode cX12_image 62 = .ok (.getfield 183, 3) := by decide +kernel
theorem dX12_image_65 : decode cX12_image 65 = .ok (.iload_n 1, 1) := by decide +kernel
theorem dX12_image_66 : decode cX12_image 66 = .ok (.iaload, 1) := by decide +kernel
theorem dX12_image_67 : decode cX12_image 67 = .ok (.invokevirtual 620, 3) := by decide +kernel
theorem dX12_image_70 : decode cX12_image 70 = .ok (.aload_n 0, 1) := by decide +kernel
theorem dX12_image_71 : decode cX12_image 71 = .ok (.aload_n 0, 1) := by decide +kernel
theorem dX12_image_72 : decode cX12_image 72 = .ok (.getfield 186, 3) := by decide +kernel
theorem dX12_image_75 : decode cX12_image 75 = .ok (.iload_n 1, 1) := by decide +kernel
theorem dX12_image_76 : decode cX12_image 76 = .ok (.iaload, 1) := by decide +kernel
theorem dX12_image_77 : decode cX12_image 77 = .ok (.iconst 1, 1) := by decide +kernel
theorem dX12_image_78 : decode cX12_image 78 = .ok (.iadd, 1) := by decide +kernel
theorem dX12_image_79 : decode cX12_image 79 = .ok (.invokevirtual 617, 3) := by decide +kernel
theorem dX12_image_82 : decode cX12_image 82 = .ok (.aload_n 0, 1) := by decide +kernel
theorem dX12_image_83 : decode cX12_image 83 = .ok (.aload_n 0, 1) := by decide +kernel
theorem dX12_image_84 : decode cX12_image 84 = .ok (.getfield 189, 3) := by decide +kernel
theorem dX12_image_87 : decode cX12_image 87 = .ok (.iload_n 1, 1) := by decide +kernel
theorem dX12_image_88 : decode cX12_image 88 = .ok (.iaload, 1) := by decide +kernel
theorem dX12_image_89 : decode cX12_image 89 = .ok (.invokevirtual 620, 3) := by decide +kernel
theorem dX12_image_92 : decode cX12_image 92 = .ok (.aload_n 0, 1) := by decide +kernel
theorem dX12_image_93 : decode cX12_image 93 = .ok (.aload_n 0, 1) := by decide +kernel
theorem dX12_image_94 : decode cX12_image 94 = .ok (.getfield 192, 3) := by decide +kernel
theorem dX12_image_97 : decode cX12_image 97 = .ok (.iload_n 1, 1) := by decide +kernel
theorem dX12_image_98 : decode cX12_image 98 = .ok (.iaload, 1) := by decide +kernel
theorem dX12_image_99 : decode cX12_image 99 = .ok (.invokevirtual 617, 3) := by decide +kernel
theorem dX12_image_102 : decode cX12_image 102 = .ok (.iconst 0, 1) := by decide +kernel
theorem dX12_image_103 : decode cX12_image 103 = .ok (.istore_n 2, 1) := by decide +kernel
theorem dX12_image_104 : decode cX12_image 104 = .ok (.iload_n 2, 1) := by decide +kernel
theorem dX12_image_105 : decode cX12_image 105 = .ok (.aload_n 0, 1) := by decide +kernel
theorem dX12_image_106 : decode cX12_image 106 = .ok (.getfield 192, 3) := by decide +kernel
theorem dX12_image_109 : decode cX12_image 109 = .ok (.iload_n 1, 1) := by decide +kernel
theorem dX12_image_110 : decode cX12_image 110 = .ok (.iaload, 1) := by decide +kernel
theorem dX12_image_111 : decode cX12_image 111 = .ok (.if_icmp .ge 24, 3) := by decide +kernel
theorem dX12_image_114 : decode cX12_image 114 = .ok (.aload_n 0, 1) := by decide +kernel
theorem dX12_image_115 : decode cX12_image 115 = .ok (.aload_n 0, 1) := by decide +kernel
theorem dX12_image_116 : decode cX12_image 116 = .ok (.getfield 195, 3) := by decide +kernel
theorem dX12_image_119 : decode cX12_image 119 = .ok (.bipush 8, 2) := by decide +kernel
theorem dX12_image_121 : decode cX12_image 121 = .ok (.iload_n 1, 1) := by decide +kernel
theorem dX12_image_122 : decode cX12_image 122 = .ok (.imul, 1) := by decide +kernel
theorem dX12_image_123 : decode cX12_image 123 = .ok (.iload_n 2, 1) := by decide +kernel
theorem dX12_image_124 : decode cX12_image 124 = .ok (.iadd, 1) := by decide +kernel
theorem dX12_image_125 : decode cX12_image 125 = .ok (.iaload, 1) := by decide +kernel
theorem dX12_image_126 : decode cX12_image 126 = .ok (.invokevirtual 617, 3) := by decide +kernel
theorem dX12_image_129 : decode cX12_image 129 = .ok (.iinc 2 1, 3) := by decide +kernel
theorem dX12_image_132 : decode cX12_image 132 = .ok (.goto (-28), 3) := by decide +kernel
theorem dX12_image_135 : decode cX12_image 135 = .ok (.iinc 1 1, 3) := by decide +kernel
theorem dX12_image_138 : decode cX12_image 138 = .ok (.goto (-111), 3) := by decide +kernel
theorem dX12_image_141 : decode cX12_image 141 = .ok (.bipush 83, 2) := by decide +kernel
theorem dX12_image_143 : decode cX12_image 143 = .ok (.istore_n 1, 1) := by decide +kernel
theorem dX12_image_144 : decode cX12_image 144 = .ok (.iconst 0, 1) := by decide +kernel
theorem dX12_image_145 : decode cX12_image 145 = .ok (.istore_n 2, 1) := by decide +kernel
theorem dX12_image_146 : decode cX12_image 146 = .ok (.iload_n 2, 1) := by decide +kernel
theorem dX12_image_147 : decode cX12_image 147 = .ok (.aload_n 0, 1) := by decide +kernel
theorem dX12_image_148 : decode cX12_image 148 = .ok (.getfield 276, 3) := by decide +kernel
theorem dX12_image_151 : decode cX12_image 151 = .ok (.if_icmp .ge 24, 3) := by decide +kernel
theorem dX12_image_154 : decode cX12_image 154 = .ok (.iconst 5, 1) := by decide +kernel
theorem dX12_image_155 : decode cX12_image 155 = .ok (.iload_n 1, 1) := by decide +kernel
theorem dX12_image_156 : decode cX12_image 156 = .ok (.imul, 1) := by decide +kernel
theorem dX12_image_157 : decode cX12_image 157 = .ok (.aload_n 0, 1) := by decide +kernel
theorem dX12_image_158 : decode cX12_image 158 = .ok (.getfield 273, 3) := by decide +kernel
theorem dX12_image_161 : decode cX12_image 161 = .ok (.iload_n 2, 1) := by decide +kernel
theorem dX12_image_162 : decode cX12_image 162 = .ok (.iaload, 1) := by decide +kernel
theorem dX12_image_163 : decode cX12_image 163 = .ok (.iadd, 1) := by decide +kernel
theorem dX12_image_164 : decode cX12_image 164 = .ok (.sipush 251, 3) := by decide +kernel
theorem dX12_image_167 : decode cX12_image 167 = .ok (.irem, 1) := by decide +kernel
theorem dX12_image_168 : decode cX12_image 168 = .ok (.istore_n 1, 1) := by decide +kernel
theorem dX12_image_169 : decode cX12_image 169 = .ok (.iinc 2 1, 3) := by decide +kernel
theorem dX12_image_172 : decode cX12_image 172 = .ok (.goto (-26), 3) := by decide +kernel
theorem dX12_image_175 : decode cX12_image 175 = .ok (.aload_n 0, 1) := by decide +kernel
theorem dX12_image_176 : decode cX12_image 176 = .ok (.iload_n 1, 1) := by decide +kernel
theorem dX12_image_177 : decode cX12_image 177 = .ok (.invokevirtual 617, 3) := by decide +kernel
theorem dX12_image_180 : decode cX12_image 180 = .ok (.aload_n 0, 1) := by decide +kernel
theorem dX12_image_181 : decode cX12_image 181 = .ok (.getfield 276, 3) := by decide +kernel
theorem dX12_image_184 : decode cX12_image 184 = .ok (.ireturn, 1) := by decide +kernel
theorem dX12_octet_0 : decode cX12_octet 0 = .ok (.iload_n 1, 1) := by decide +kernel
theorem dX12_octet_1 : decode cX12_octet 1 = .ok (.iconst 0, 1) := by decide +kernel
theorem dX12_octet_2 : decode cX12_octet 2 = .ok (.aload_n 0, 1) := by decide +kernel
theorem dX12_octet_3 : decode cX12_octet 3 = .ok (.getfield 276, 3) := by decide +kernel
theorem dX12_octet_6 : decode cX12_octet 6 = .ok (.iconst 1, 1) := by decide +kernel
theorem dX12_octet_7 : decode cX12_octet 7 = .ok (.isub, 1) := by decide +kernel
theorem dX12_octet_8 : decode cX12_octet 8 = .ok (.invokestatic 369, 3) := by decide +kernel
theorem dX12_octet_11 : decode cX12_octet 11 = .ok (.ifCond .eq 12, 3) := by decide +kernel
theorem dX12_octet_14 : decode cX12_octet 14 = .ok (.aload_n 0, 1) := by decide +kernel
theorem dX12_octet_15 : decode cX12_octet 15 = .ok (.getfield 273, 3) := by decide +kernel
theorem dX12_octet_18 : decode cX12_octet 18 = .ok (.iload_n 1, 1) := by decide +kernel
theorem dX12_octet_19 : decode cX12_octet 19 = .ok (.iaload, 1) := by decide +kernel
theorem dX12_octet_20 : decode cX12_octet 20 = .ok (.goto 4, 3) := by decide +kernel
theorem dX12_octet_23 : decode cX12_octet 23 = .ok (.iconst (-1), 1) := by decide +kernel
theorem dX12_octet_24 : decode cX12_octet 24 = .ok (.ireturn, 1) := by decide +kernel
theorem dX12_twoBytes_0 : decode cX12_twoBytes 0 = .ok (.aload_n 0, 1) := by decide +kernel
theorem dX12_twoBytes_1 : decode cX12_twoBytes 1 = .ok (.getfield 7, 3) := by decide +kernel
theorem dX12_twoBytes_4 : decode cX12_twoBytes 4 = .ok (.iload_n 1, 1) := by decide +kernel
theorem dX12_twoBytes_5 : decode cX12_twoBytes 5 = .ok (.iaload, 1) := by decide +kernel
theorem dX12_twoBytes_6 : decode cX12_twoBytes 6 = .ok (.bipush 8, 2) := by decide +kernel
theorem dX12_twoBytes_8 : decode cX12_twoBytes 8 = .ok (.ishl, 1) := by decide +kernel
theorem dX12_twoBytes_9 : decode cX12_twoBytes 9 = .ok (.aload_n 0, 1) := by decide +kernel
theorem dX12_twoBytes_10 : decode cX12_twoBytes 10 = .ok (.getfield 7, 3) := by decide +kernel
theorem dX12_twoBytes_13 : decode cX12_twoBytes 13 = .ok (.iload_n 1, 1) := by decide +kernel
theorem dX12_twoBytes_14 : decode cX12_twoBytes 14 = .ok (.iconst 1, 1) := by decide +kernel
theorem dX12_twoBytes_15 : decode cX12_twoBytes 15 = .ok (.iadd, 1) := by decide +kernel
theorem dX12_twoBytes_16 : decode cX12_twoBytes 16 = .ok (.iaload, 1) := by decide +kernel
theorem dX12_twoBytes_17 : decode cX12_twoBytes 17 = .ok (.ior, 1) := by decide +kernel
theorem dX12_twoBytes_18 : decode cX12_twoBytes 18 = .ok (.ireturn, 1) := by decide +kernel
theorem dX12_readerOn_0 : decode cX12_readerOn 0 = .ok (.iload_n 2, 1) := by decide +kernel
theorem dX12_readerOn_1 : decode cX12_readerOn 1 = .ok (.bipush 9, 2) := by decide +kernel
theorem dX12_readerOn_3 : decode cX12_readerOn 3 = .ok (.iadd, 1) := by decide +kernel
theorem dX12_readerOn_4 : decode cX12_readerOn 4 = .ok (.iload_n 3, 1) := by decide +kernel
theorem dX12_readerOn_5 : decode cX12_readerOn 5 = .ok (.if_icmp .gt 35, 3) := by decide +kernel
theorem dX12_readerOn_8 : decode cX12_readerOn 8 = .ok (.aload_n 0, 1) := by decide +kernel
theorem dX12_readerOn_9 : decode cX12_readerOn 9 = .ok (.getfield 7, 3) := by decide +kernel
theorem dX12_readerOn_12 : decode cX12_readerOn 12 = .ok (.iload_n 2, 1) := by decide +kernel
theorem dX12_readerOn_13 : decode cX12_readerOn 13 = .ok (.bipush 8, 2) := by decide +kernel
theorem dX12_readerOn_15 : decode cX12_readerOn 15 = .ok (.iadd, 1) := by decide +kernel
theorem dX12_readerOn_16 : decode cX12_readerOn 16 = .ok (.iaload, 1) := by decide +kernel
theorem dX12_readerOn_17 : decode cX12_readerOn 17 = .ok (.bipush 8, 2) := by decide +kernel
theorem dX12_readerOn_19 : decode cX12_readerOn 19 = .ok (.if_icmp .gt 21, 3) := by decide +kernel
theorem dX12_readerOn_22 : decode cX12_readerOn 22 = .ok (.iload_n 2, 1) := by decide +kernel
theorem dX12_readerOn_23 : decode cX12_readerOn 23 = .ok (.bipush 9, 2) := by decide +kernel
theorem dX12_readerOn_25 : decode cX12_readerOn 25 = .ok (.iadd, 1) := by decide +kernel
theorem dX12_readerOn_26 : decode cX12_readerOn 26 = .ok (.aload_n 0, 1) := by decide +kernel
theorem dX12_readerOn_27 : decode cX12_readerOn 27 = .ok (.getfield 7, 3) := by decide +kernel
theorem dX12_readerOn_30 : decode cX12_readerOn 30 = .ok (.iload_n 2, 1) := by decide +kernel
theorem dX12_readerOn_31 : decode cX12_readerOn 31 = .ok (.bipush 8, 2) := by decide +kernel
theorem dX12_readerOn_33 : decode cX12_readerOn 33 = .ok (.iadd, 1) := by decide +kernel
theorem dX12_readerOn_34 : decode cX12_readerOn 34 = .ok (.iaload, 1) := by decide +kernel
theorem dX12_readerOn_35 : decode cX12_readerOn 35 = .ok (.iadd, 1) := by decide +kernel
theorem dX12_readerOn_36 : decode cX12_readerOn 36 = .ok (.iload_n 3, 1) := by decide +kernel
theorem dX12_readerOn_37 : decode cX12_readerOn 37 = .ok (.if_icmp .le 5, 3) := by decide +kernel
theorem dX12_readerOn_40 : decode cX12_readerOn 40 = .ok (.iconst (-1), 1) := by decide +kernel
theorem dX12_readerOn_41 : decode cX12_readerOn 41 = .ok (.ireturn, 1) := by decide +kernel
theorem dX12_readerOn_42 : decode cX12_readerOn 42 = .ok (.bipush 6, 2) := by decide +kernel
theorem dX12_readerOn_44 : decode cX12_readerOn 44 = .ok (.iload_n 1, 1) := by decide +kernel
theorem dX12_readerOn_45 : decode cX12_readerOn 45 = .ok (.iadd, 1) := by decide +kernel
theorem dX12_readerOn_46 : decode cX12_readerOn 46 = .ok (.istore 4, 2) := by decide +kernel
theorem dX12_readerOn_48 : decode cX12_readerOn 48 = .ok (.aload_n 0, 1) := by decide +kernel
theorem dX12_readerOn_49 : decode cX12_readerOn 49 = .ok (.getfield 177, 3) := by decide +kernel
theorem dX12_readerOn_52 : decode cX12_readerOn 52 = .ok (.iload 4, 2) := by decide +kernel
theorem dX12_readerOn_54 : decode cX12_readerOn 54 = .ok (.aload_n 0, 1) := by decide +kernel
theorem dX12_readerOn_55 : decode cX12_readerOn 55 = .ok (.getfield 7, 3) := by decide +kernel
theorem dX12_readerOn_58 : decode cX12_readerOn 58 = .ok (.iload_n 2, 1) := by decide +kernel
theorem dX12_readerOn_59 : decode cX12_readerOn 59 = .ok (.iaload, 1) := by decide +kernel
theorem dX12_readerOn_60 : decode cX12_readerOn 60 = .ok (.iastore, 1) := by decide +kernel
theorem dX12_readerOn_61 : decode cX12_readerOn 61 = .ok (.aload_n 0, 1) := by decide +kernel
theorem dX12_readerOn_62 : decode cX12_readerOn 62 = .ok (.getfield 180, 3) := by decide +kernel
theorem dX12_readerOn_65 : decode cX12_readerOn 65 = .ok (.iload 4, 2) := by decide +kernel
theorem dX12_readerOn_67 : decode cX12_readerOn 67 = .ok (.aload_n 0, 1) := by decide +kernel
theorem dX12_readerOn_68 : decode cX12_readerOn 68 = .ok (.iload_n 2, 1) := by decide +kernel
theorem dX12_readerOn_69 : decode cX12_readerOn 69 = .ok (.iconst 1, 1) := by decide +kernel
theorem dX12_readerOn_70 : decode cX12_readerOn 70 = .ok (.iadd, 1) := by decide +kernel
theorem dX12_readerOn_71 : decode cX12_readerOn 71 = .ok (.invokevirtual 623, 3) := by decide +kernel
theorem dX12_readerOn_74 : decode cX12_readerOn 74 = .ok (.iastore, 1) := by decide +kernel
theorem dX12_readerOn_75 : decode cX12_readerOn 75 = .ok (.aload_n 0, 1) := by decide +kernel
theorem dX12_readerOn_76 : decode cX12_readerOn 76 = .ok (.getfield 183, 3) := by decide +kernel
theorem dX12_readerOn_79 : decode cX12_readerOn 79 = .ok (.iload 4, 2) := by decide +kernel
theorem dX12_readerOn_81 : decode cX12_readerOn 81 = .ok (.aload_n 0, 1) := by decide +kernel
theorem dX12_readerOn_82 : decode cX12_readerOn 82 = .ok (.iload_n 2, 1) := by decide +kernel
theorem dX12_readerOn_83 : decode cX12_readerOn 83 = .ok (.iconst 3, 1) := by decide +kernel
theorem dX12_readerOn_84 : decode cX12_readerOn 84 = .ok (.iadd, 1) := by decide +kernel
theorem dX12_readerOn_85 : decode cX12_readerOn 85 = .ok (.invokevirtual 623, 3) := by decide +kernel
theorem dX12_readerOn_88 : decode cX12_readerOn 88 = .ok (.iastore, 1) := by decide +kernel
theorem dX12_readerOn_89 : decode cX12_readerOn 89 = .ok (.aload_n 0, 1) := by decide +kernel
theorem dX12_readerOn_90 : decode cX12_readerOn 90 = .ok (.getfield 186, 3) := by decide +kernel
theorem dX12_readerOn_93 : decode cX12_readerOn 93 = .ok (.iload 4, 2) := by decide +kernel
theorem dX12_readerOn_95 : decode cX12_readerOn 95 = .ok (.aload_n 0, 1) := by decide +kernel
theorem dX12_readerOn_96 : decode cX12_readerOn 96 = .ok (.getfield 7, 3) := by decide +kernel
theorem dX12_readerOn_99 : decode cX12_readerOn 99 = .ok (.iload_n 2, 1) := by decide +kernel
theorem dX12_readerOn_100 : decode cX12_readerOn 100 = .ok (.iconst 5, 1) := by decide +kernel
theorem dX12_readerOn_101 : decode cX12_readerOn 101 = .ok (.iadd, 1) := by decide +kernel
theorem dX12_readerOn_102 : decode cX12_readerOn 102 = .ok (.iaload, 1) := by decide +kernel
theorem dX12_readerOn_103 : decode cX12_readerOn 103 = .ok (.iconst 1, 1) := by decide +kernel
theorem dX12_readerOn_104 : decode cX12_readerOn 104 = .ok (.isub, 1) := by decide +kernel
theorem dX12_readerOn_105 : decode cX12_readerOn 105 = .ok (.iastore, 1) := by decide +kernel
theorem dX12_readerOn_106 : decode cX12_readerOn 106 = .ok (.aload_n 0, 1) := by decide +kernel
theorem dX12_readerOn_107 : decode cX12_readerOn 107 = .ok (.getfield 189, 3) := by decide +kernel
theorem dX12_readerOn_110 : decode cX12_readerOn 110 = .ok (.iload 4, 2) := by decide +kernel
theorem dX12_readerOn_112 : decode cX12_readerOn 112 = .ok (.aload_n 0, 1) := by decide +kernel
theorem dX12_readerOn_113 : decode cX12_readerOn 113 = .ok (.iload_n 2, 1) := by decide +kernel
theorem dX12_readerOn_114 : decode cX12_readerOn 114 = .ok (.bipush 6, 2) := by decide +kernel
theorem dX12_readerOn_116 : decode cX12_readerOn 116 = .ok (.iadd, 1) := by decide +kernel
theorem dX12_readerOn_117 : decode cX12_readerOn 117 = .ok (.invokevirtual 623, 3) := by decide +kernel
theorem dX12_readerOn_120 : decode cX12_readerOn 120 = .ok (.iastore, 1) := by decide +kernel
theorem dX12_readerOn_121 : decode cX12_readerOn 121 = .ok (.aload_n 0, 1) := by decide +kernel
theorem dX12_readerOn_122 : decode cX12_readerOn 122 = .ok (.getfield 192, 3) := by decide +kernel
theorem dX12_readerOn_125 : decode cX12_readerOn 125 = .ok (.iload 4, 2) := by decide +kernel
theorem dX12_readerOn_127 : decode cX12_readerOn 127 = .ok (.aload_n 0, 1) := by decide +kernel
theorem dX12_readerOn_128 : decode cX12_readerOn 128 = .ok (.getfield 7, 3) := by decide +kernel
theorem dX12_readerOn_131 : decode cX12_readerOn 131 = .ok (.iload_n 2, 1) := by decide +kernel
theorem dX12_readerOn_132 : decode cX12_readerOn 132 = .ok (.bipush 8, 2) := by decide +kernel
theorem dX12_readerOn_134 : decode cX12_readerOn 134 = .ok (.iadd, 1) := by decide +kernel
theorem dX12_readerOn_135 : decode cX12_readerOn 135 = .ok (.iaload, 1) := by decide +kernel
theorem dX12_readerOn_136 : decode cX12_readerOn 136 = .ok (.iastore, 1) := by decide +kernel
theorem dX12_readerOn_137 : decode cX12_readerOn 137 = .ok (.aload_n 0, 1) := by decide +kernel
theorem dX12_readerOn_138 : decode cX12_readerOn 138 = .ok (.getfield 180, 3) := by decide +kernel
theorem dX12_readerOn_141 : decode cX12_readerOn 141 = .ok (.iload 4, 2) := by decide +kernel
theorem dX12_readerOn_143 : decode cX12_readerOn 143 = .ok (.iaload, 1) := by decide +kernel
theorem dX12_readerOn_144 : decode cX12_readerOn 144 = .ok (.aload_n 0, 1) := by decide +kernel
theorem dX12_readerOn_145 : decode cX12_readerOn 145 = .ok (.getfield 183, 3) := by decide +kernel
theorem dX12_readerOn_148 : decode cX12_readerOn 148 = .ok (.iload 4, 2) := by decide +kernel
theorem dX12_readerOn_150 : decode cX12_readerOn 150 = .ok (.iaload, 1) := by decide +kernel
theorem dX12_readerOn_151 : decode cX12_readerOn 151 = .ok (.ior, 1) := by decide +kernel
theorem dX12_readerOn_152 : decode cX12_readerOn 152 = .ok (.istore 5, 2) := by decide +kernel
theorem dX12_readerOn_154 : decode cX12_readerOn 154 = .ok (.aload_n 0, 1) := by decide +kernel
theorem dX12_readerOn_155 : decode cX12_readerOn 155 = .ok (.aload_n 0, 1) := by decide +kernel
theorem dX12_readerOn_156 : decode cX12_readerOn 156 = .ok (.getfield 177, 3) := by decide +kernel
theorem dX12_readerOn_159 : decode cX12_readerOn 159 = .ok (.iload 4, 2) := by decide +kernel
theorem dX12_readerOn_161 : decode cX12_readerOn 161 = .ok (.iaload, 1) := by decide +kernel
theorem dX12_readerOn_162 : decode cX12_readerOn 162 = .ok (.invokevirtual 565, 3) := by decide +kernel
theorem dX12_readerOn_165 : decode cX12_readerOn 165 = .ok (.ifCond .eq 37, 3) := by decide +kernel
theorem dX12_readerOn_168 : decode cX12_readerOn 168 = .ok (.aload_n 0, 1) := by decide +kernel
theorem dX12_readerOn_169 : decode cX12_readerOn 169 = .ok (.getfield 180, 3) := by decide +kernel
theorem dX12_readerOn_172 : decode cX12_readerOn 172 = .ok (.iload 4, 2) := by decide +kernel
theorem dX12_readerOn_174 : decode cX12_readerOn 174 = .ok (.iaload, 1) := by decide +kernel
theorem dX12_readerOn_175 : decode cX12_readerOn 175 = .ok (.aload_n 0, 1) := by decide +kernel
theorem dX12_readerOn_176 : decode cX12_readerOn 176 = .ok (.getfield 183, 3) := by decide +kernel
theorem dX12_readerOn_179 : decode cX12_readerOn 179 = .ok (.iload 4, 2) := by decide +kernel
theorem dX12_readerOn_181 : decode cX12_readerOn 181 = .ok (.iaload, 1) := by decide +kernel
theorem dX12_readerOn_182 : decode cX12_readerOn 182 = .ok (.iand, 1) := by decide +kernel
theorem dX12_readerOn_183 : decode cX12_readerOn 183 = .ok (.ifCond .ne 19, 3) := by decide +kernel
theorem dX12_readerOn_186 : decode cX12_readerOn 186 = .ok (.iload 5, 2) := by decide +kernel
theorem dX12_readerOn_188 : decode cX12_readerOn 188 = .ok (.iconst 1, 1) := by decide +kernel
theorem dX12_readerOn_189 : decode cX12_readerOn 189 = .ok (.aload_n 0, 1) := by decide +kernel
theorem dX12_readerOn_190 : decode cX12_readerOn 190 = .ok (.getfield 57, 3) := by decide +kernel
theorem dX12_readerOn_193 : decode cX12_readerOn 193 = .ok (.aload_n 0, 1) := by decide +kernel
theorem dX12_readerOn_194 : decode cX12_readerOn 194 = .ok (.getfield 51, 3) := by decide +kernel
theorem dX12_readerOn_197 : decode cX12_readerOn 197 = .ok (.iaload, 1) := by decide +kernel
theorem dX12_readerOn_198 : decode cX12_readerOn 198 = .ok (.ishl, 1) := by decide +kernel
theorem dX12_readerOn_199 : decode cX12_readerOn 199 = .ok (.if_icmp .lt 5, 3) := by decide +kernel
theorem dX12_readerOn_202 : decode cX12_readerOn 202 = .ok (.iconst (-1), 1) := by decide +kernel
theorem dX12_readerOn_203 : decode cX12_readerOn 203 = .ok (.ireturn, 1) := by decide +kernel
theorem dX12_readerOn_204 : decode cX12_readerOn 204 = .ok (.iconst 0, 1) := by decide +kernel
theorem dX12_readerOn_205 : decode cX12_readerOn 205 = .ok (.istore 6, 2) := by decide +kernel
theorem dX12_readerOn_207 : decode cX12_readerOn 207 = .ok (.iconst 0, 1) := by decide +kernel
theorem dX12_readerOn_208 : decode cX12_readerOn 208 = .ok (.istore 7, 2) := by decide +kernel
theorem dX12_readerOn_210 : decode cX12_readerOn 210 = .ok (.iload 7, 2) := by decide +kernel
theorem dX12_readerOn_212 : decode cX12_readerOn 212 = .ok (.aload_n 0, 1) := by decide +kernel
theorem dX12_readerOn_213 : decode cX12_readerOn 213 = .ok (.getfield 192, 3) := by decide +kernel
theorem dX12_readerOn_216 : decode cX12_readerOn 216 = .ok (.iload 4, 2) := by decide +kernel
theorem dX12_readerOn_218 : decode cX12_readerOn 218 = .ok (.iaload, 1) := by decide +kernel
theorem dX12_readerOn_219 : decode cX12_readerOn 219 = .ok (.if_icmp .ge 71, 3) := by decide +kernel
theorem dX12_readerOn_222 : decode cX12_readerOn 222 = .ok (.aload_n 0, 1) := by decide +kernel
theorem dX12_readerOn_223 : decode cX12_readerOn 223 = .ok (.getfield 7, 3) := by decide +kernel
theorem dX12_readerOn_226 : decode cX12_readerOn 226 = .ok (.iload_n 2, 1) := by decide +kernel
theorem dX12_readerOn_227 : decode cX12_readerOn 227 = .ok (.bipush 9, 2) := by decide +kernel
theorem dX12_readerOn_229 : decode cX12_readerOn 229 = .ok (.iadd, 1) := by decide +kernel
theorem dX12_readerOn_230 : decode cX12_readerOn 230 = .ok (.iload 7, 2) := by decide +kernel
theorem dX12_readerOn_232 : decode cX12_readerOn 232 = .ok (.iadd, 1) := by decide +kernel
theorem dX12_readerOn_233 : decode cX12_readerOn 233 = .ok (.iaload, 1) := by decide +kernel
theorem dX12_readerOn_234 : decode cX12_readerOn 234 = .ok (.istore 8, 2) := by decide +kernel
theorem dX12_readerOn_236 : decode cX12_readerOn 236 = .ok (.aload_n 0, 1) := by decide +kernel
theorem dX12_readerOn_237 : decode cX12_readerOn 237 = .ok (.iload 8, 2) := by decide +kernel
theorem dX12_readerOn_239 : decode cX12_readerOn 239 = .ok (.invokevirtual 556, 3) := by decide +kernel
theorem dX12_readerOn_242 : decode cX12_readerOn 242 = .ok (.ifCond .eq 16, 3) := by decide +kernel
theorem dX12_readerOn_245 : decode cX12_readerOn 245 = .ok (.iload 5, 2) := by decide +kernel
theorem dX12_readerOn_247 : decode cX12_readerOn 247 = .ok (.iload 6, 2) := by decide +kernel
theorem dX12_readerOn_249 : decode cX12_readerOn 249 = .ok (.ior, 1) := by decide +kernel
theorem dX12_readerOn_250 : decode cX12_readerOn 250 = .ok (.iload 8, 2) := by decide +kernel
theorem dX12_readerOn_252 : decode cX12_readerOn 252 = .ok (.invokestatic 552, 3) := by decide +kernel
theorem dX12_readerOn_255 : decode cX12_readerOn 255 = .ok (.ifCond .eq 5, 3) := by decide +kernel
theorem dX12_readerOn_258 : decode cX12_readerOn 258 = .ok (.iconst (-1), 1) := by decide +kernel
theorem dX12_readerOn_259 : decode cX12_readerOn 259 = .ok (.ireturn, 1) := by decide +kernel
theorem dX12_readerOn_260 : decode cX12_readerOn 260 = .ok (.aload_n 0, 1) := by decide +kernel
theorem dX12_readerOn_261 : decode cX12_readerOn 261 = .ok (.getfield 195, 3) := by decide +kernel
theorem dX12_readerOn_264 : decode cX12_readerOn 264 = .ok (.bipush 8, 2) := by decide +kernel
theorem dX12_readerOn_266 : decode cX12_readerOn 266 = .ok (.iload 4, 2) := by decide +kernel
theorem dX12_readerOn_268 : decode cX12_readerOn 268 = .ok (.imul, 1) := by decide +kernel
theorem dX12_readerOn_269 : decode cX12_readerOn 269 = .ok (.iload 7, 2) := by decide +kernel
theorem dX12_readerOn_271 : decode cX12_readerOn 271 = .ok (.iadd, 1) := by decide +kernel
theorem dX12_readerOn_272 : decode cX12_readerOn 272 = .ok (.iload 8, 2) := by decide +kernel
theorem dX12_readerOn_274 : decode cX12_readerOn 274 = .ok (.iastore, 1) := by decide +kernel
theorem dX12_readerOn_275 : decode cX12_readerOn 275 = .ok (.iload 6, 2) := by decide +kernel
theorem dX12_readerOn_277 : decode cX12_readerOn 277 = .ok (.iconst 1, 1) := by decide +kernel
theorem dX12_readerOn_278 : decode cX12_readerOn 278 = .ok (.iload 8, 2) := by decide +kernel
theorem dX12_readerOn_280 : decode cX12_readerOn 280 = .ok (.ishl, 1) := by decide +kernel
theorem dX12_readerOn_281 : decode cX12_readerOn 281 = .ok (.ior, 1) := by decide +kernel
theorem dX12_readerOn_282 : decode cX12_readerOn 282 = .ok (.istore 6, 2) := by decide +kernel
theorem dX12_readerOn_284 : decode cX12_readerOn 284 = .ok (.iinc 7 1, 3) := by decide +kernel
theorem dX12_readerOn_287 : decode cX12_readerOn 287 = .ok (.goto (-77), 3) := by decide +kernel
theorem dX12_readerOn_290 : decode cX12_readerOn 290 = .ok (.aload_n 0, 1) := by decide +kernel
theorem dX12_readerOn_291 : decode cX12_readerOn 291 = .ok (.getfield 186, 3) := by decide +kernel
theorem dX12_readerOn_294 : decode cX12_readerOn 294 = .ok (.iload 4, 2) := by decide +kernel
theorem dX12_readerOn_296 : decode cX12_readerOn 296 = .ok (.iaload, 1) := by decide +kernel
theorem dX12_readerOn_297 : decode cX12_readerOn 297 = .ok (.iconst (-1), 1) := by decide +kernel
theorem dX12_readerOn_298 : decode cX12_readerOn 298 = .ok (.if_icmp .ne 16, 3) := by decide +kernel
theorem dX12_readerOn_301 : decode cX12_readerOn 301 = .ok (.aload_n 0, 1) := by decide +kernel
theorem dX12_readerOn_302 : decode cX12_readerOn 302 = .ok (.getfield 189, 3) := by decide +kernel
theorem dX12_readerOn_305 : decode cX12_readerOn 305 = .ok (.iload 4, 2) := by decide +kernel
theorem dX12_readerOn_307 : decode cX12_readerOn 307 = .ok (.iaload, 1) := by decide +kernel
theorem dX12_readerOn_308 : decode cX12_readerOn 308 = .ok (.ifCond .eq 52, 3) := by decide +kernel
theorem dX12_readerOn_311 : decode cX12_readerOn 311 = .ok (.goto 47, 3) := by decide +kernel
theorem dX12_readerOn_314 : decode cX12_readerOn 314 = .ok (.aload_n 0, 1) := by decide +kernel
theorem dX12_readerOn_315 : decode cX12_readerOn 315 = .ok (.getfield 186, 3) := by decide +kernel
theorem dX12_readerOn_318 : decode cX12_readerOn 318 = .ok (.iload 4, 2) := by decide +kernel
theorem dX12_readerOn_320 : decode cX12_readerOn 320 = .ok (.iaload, 1) := by decide +kernel
theorem dX12_readerOn_321 : decode cX12_readerOn 321 = .ok (.bipush 30, 2) := by decide +kernel
theorem dX12_readerOn_323 : decode cX12_readerOn 323 = .ok (.if_icmp .gt 35, 3) := by decide +kernel
theorem dX12_readerOn_326 : decode cX12_readerOn 326 = .ok (.iload 6, 2) := by decide +kernel
theorem dX12_readerOn_328 : decode cX12_readerOn 328 = .ok (.aload_n 0, 1) := by decide +kernel
theorem dX12_readerOn_329 : decode cX12_readerOn 329 = .ok (.getfield 186, 3) := by decide +kernel
theorem dX12_readerOn_332 : decode cX12_readerOn 332 = .ok (.iload 4, 2) := by decide +kernel
theorem dX12_readerOn_334 : decode cX12_readerOn 334 = .ok (.iaload, 1) := by decide +kernel
theorem dX12_readerOn_335 : decode cX12_readerOn 335 = .ok (.invokestatic 552, 3) := by decide +kernel
theorem dX12_readerOn_338 : decode cX12_readerOn 338 = .ok (.ifCond .eq 20, 3) := by decide +kernel
theorem dX12_readerOn_341 : decode cX12_readerOn 341 = .ok (.aload_n 0, 1) := by decide +kernel
theorem dX12_readerOn_342 : decode cX12_readerOn 342 = .ok (.getfield 189, 3) := by decide +kernel
theorem dX12_readerOn_345 : decode cX12_readerOn 345 = .ok (.iload 4, 2) := by decide +kernel
theorem dX12_readerOn_347 : decode cX12_readerOn 347 = .ok (.iaload, 1) := by decide +kernel
theorem dX12_readerOn_348 : decode cX12_readerOn 348 = .ok (.iconst 1, 1) := by decide +kernel
theorem dX12_readerOn_349 : decode cX12_readerOn 349 = .ok (.sipush 499, 3) := by decide +kernel
theorem dX12_readerOn_352 : decode cX12_readerOn 352 = .ok (.invokestatic 369, 3) := by decide +kernel
theorem dX12_readerOn_355 : decode cX12_readerOn 355 = .ok (.ifCond .ne 5, 3) := by decide +kernel
theorem dX12_readerOn_358 : decode cX12_readerOn 358 = .ok (.iconst (-1), 1) := by decide +kernel
theorem dX12_readerOn_359 : decode cX12_readerOn 359 = .ok (.ireturn, 1) := by decide +kernel
theorem dX12_readerOn_360 : decode cX12_readerOn 360 = .ok (.iload_n 2, 1) := by decide +kernel
theorem dX12_readerOn_361 : decode cX12_readerOn 361 = .ok (.bipush 9, 2) := by decide +kernel
theorem dX12_readerOn_363 : decode cX12_readerOn 363 = .ok (.iadd, 1) := by decide +kernel
theorem dX12_readerOn_364 : decode cX12_readerOn 364 = .ok (.aload_n 0, 1) := by decide +kernel
theorem dX12_readerOn_365 : decode cX12_readerOn 365 = .ok (.getfield 192, 3) := by decide +kernel
theorem dX12_readerOn_368 : decode cX12_readerOn 368 = .ok (.iload 4, 2) := by decide +kernel
theorem dX12_readerOn_370 : decode cX12_readerOn 370 = .ok (.iaload, 1) := by decide +kernel
theorem dX12_readerOn_371 : decode cX12_readerOn 371 = .ok (.iadd, 1) := by decide +kernel
theorem dX12_readerOn_372 : decode cX12_readerOn 372 = .ok (.ireturn, 1) := by decide +kernel
theorem dX12_comesOn_0 : decode cX12_comesOn 0 = .ok (.iload_n 1, 1) := by decide +kernel
theorem dX12_comesOn_1 : decode cX12_comesOn 1 = .ok (.iconst 5, 1) := by decide +kernel
theorem dX12_comesOn_2 : decode cX12_comesOn 2 = .ok (.if_icmp .lt 25, 3) := by decide +kernel
theorem dX12_comesOn_5 : decode cX12_comesOn 5 = .ok (.aload_n 0, 1) := by decide +kernel
theorem dX12_comesOn_6 : decode cX12_comesOn 6 = .ok (.iconst 0, 1) := by decide +kernel
theorem dX12_comesOn_7 : decode cX12_comesOn 7 = .ok (.invokevirtual 623, 3) := by decide +kernel
theorem dX12_comesOn_10 : decode cX12_comesOn 10 = .ok (.sipush 999, 3) := by decide +kernel
theorem dX12_comesOn_13 : decode cX12_comesOn 13 = .ok (.if_icmp .gt 14, 3) := by decide +kernel
theorem dX12_comesOn_16 : decode cX12_comesOn 16 = .ok (.aload_n 0, 1) := by decide +kernel
theorem dX12_comesOn_17 : decode cX12_comesOn 17 = .ok (.iconst 2, 1) := by decide +kernel
theorem dX12_comesOn_18 : decode cX12_comesOn 18 = .ok (.invokevirtual 623, 3) := by decide +kernel
theorem dX12_comesOn_21 : decode cX12_comesOn 21 = .ok (.sipush 9999, 3) := by decide +kernel
theorem dX12_comesOn_24 : decode cX12_comesOn 24 = .ok (.if_icmp .le 5, 3) := by decide +kernel
theorem dX12_comesOn_27 : decode cX12_comesOn 27 = .ok (.iconst 0, 1) := by decide +kernel
theorem dX12_comesOn_28 : decode cX12_comesOn 28 = .ok (.ireturn, 1) := by decide +kernel
theorem dX12_comesOn_29 : decode cX12_comesOn 29 = .ok (.bipush 83, 2) := by decide +kernel
theorem dX12_comesOn_31 : decode cX12_comesOn 31 = .ok (.istore_n 2, 1) := by decide +kernel
theorem dX12_comesOn_32 : decode cX12_comesOn 32 = .ok (.iconst 0, 1) := by decide +kernel
theorem dX12_comesOn_33 : decode cX12_comesOn 33 = .ok (.istore_n 3, 1) := by decide +kernel
theorem dX12_comesOn_34 : decode cX12_comesOn 34 = .ok (.iload_n 3, 1) := by decide +kernel
theorem dX12_comesOn_35 : decode cX12_comesOn 35 = .ok (.iload_n 1, 1) := by decide +kernel
theorem dX12_comesOn_36 : decode cX12_comesOn 36 = .ok (.iconst 1, 1) := by decide +kernel
theorem dX12_comesOn_37 : decode cX12_comesOn 37 = .ok (.isub, 1) := by decide +kernel
theorem dX12_comesOn_38 : decode cX12_comesOn 38 = .ok (.if_icmp .ge 24, 3) := by decide +kernel
theorem dX12_comesOn_41 : decode cX12_comesOn 41 = .ok (.iconst 5, 1) := by decide +kernel
theorem dX12_comesOn_42 : decode cX12_comesOn 42 = .ok (.iload_n 2, 1) := by decide +kernel
theorem dX12_comesOn_43 : decode cX12_comesOn 43 = .ok (.imul, 1) := by decide +kernel
theorem dX12_comesOn_44 : decode cX12_comesOn 44 = .ok (.aload_n 0, 1) := by decide +kernel
theorem dX12_comesOn_45 : decode cX12_comesOn 45 = .ok (.getfield 7, 3) := by decide +kernel
theorem dX12_comesOn_48 : decode cX12_comesOn 48 = .ok (.iload_n 3, 1) := by decide +kernel
theorem dX12_comesOn_49 : decode cX12_comesOn 49 = .ok (.iaload, 1) := by decide +kernel
theorem dX12_comesOn_50 : decode cX12_comesOn 50 = .ok (.iadd, 1) := by decide +kernel
theorem dX12_comesOn_51 : decode cX12_comesOn 51 = .ok (.sipush 251, 3) := by decide +kernel
theorem dX12_comesOn_54 : decode cX12_comesOn 54 = .ok (.irem, 1) := by decide +kernel
theorem dX12_comesOn_55 : decode cX12_comesOn 55 = .ok (.istore_n 2, 1) := by decide +kernel
theorem dX12_comesOn_56 : decode cX12_comesOn 56 = .ok (.iinc 3 1, 3) := by decide +kernel
theorem dX12_comesOn_59 : decode cX12_comesOn 59 = .ok (.goto (-25), 3) := by decide +kernel
theorem dX12_comesOn_62 : decode cX12_comesOn 62 = .ok (.aload_n 0, 1) := by decide +kernel
theorem dX12_comesOn_63 : decode cX12_comesOn 63 = .ok (.getfield 7, 3) := by decide +kernel
theorem dX12_comesOn_66 : decode cX12_comesOn 66 = .ok (.iload_n 1, 1) := by decide +kernel
theorem dX12_comesOn_67 : decode cX12_comesOn 67 = .ok (.iconst 1, 1) := by decide +kernel
theorem dX12_comesOn_68 : decode cX12_comesOn 68 = .ok (.isub, 1) := by decide +kernel
theorem dX12_comesOn_69 : decode cX12_comesOn 69 = .ok (.iaload, 1) := by decide +kernel
theorem dX12_comesOn_70 : decode cX12_comesOn 70 = .ok (.iload_n 2, 1) := by decide +kernel
theorem dX12_comesOn_71 : decode cX12_comesOn 71 = .ok (.if_icmp .eq 5, 3) := by decide +kernel
theorem dX12_comesOn_74 : decode cX12_comesOn 74 = .ok (.iconst 0, 1) := by decide +kernel
theorem dX12_comesOn_75 : decode cX12_comesOn 75 = .ok (.ireturn, 1) := by decide +kernel
theorem dX12_comesOn_76 : decode cX12_comesOn 76 = .ok (.aload_n 0, 1) := by decide +kernel
theorem dX12_comesOn_77 : decode cX12_comesOn 77 = .ok (.iconst 1, 1) := by decide +kernel
theorem dX12_comesOn_78 : decode cX12_comesOn 78 = .ok (.iconst 0, 1) := by decide +kernel
theorem dX12_comesOn_79 : decode cX12_comesOn 79 = .ok (.invokevirtual 479, 3) := by decide +kernel
theorem dX12_comesOn_82 : decode cX12_comesOn 82 = .ok (.iconst 4, 1) := by decide +kernel
theorem dX12_comesOn_83 : decode cX12_comesOn 83 = .ok (.istore_n 3, 1) := by decide +kernel
theorem dX12_comesOn_84 : decode cX12_comesOn 84 = .ok (.iconst 0, 1) := by decide +kernel
theorem dX12_comesOn_85 : decode cX12_comesOn 85 = .ok (.istore 4, 2) := by decide +kernel
theorem dX12_comesOn_87 : decode cX12_comesOn 87 = .ok (.iload 4, 2) := by decide +kernel
theorem dX12_comesOn_89 : decode cX12_comesOn 89 = .ok (.aload_n 0, 1) := by decide +kernel
theorem dX12_comesOn_90 : decode cX12_comesOn 90 = .ok (.getfield 75, 3) := by decide +kernel
theorem dX12_comesOn_93 : decode cX12_comesOn 93 = .ok (.aload_n 0, 1) := by decide +kernel
theorem dX12_comesOn_94 : decode cX12_comesOn 94 = .ok (.getfield 51, 3) := by decide +kernel
theorem dX12_comesOn_97 : decode cX12_comesOn 97 = .ok (.iaload, 1) := by decide +kernel
theorem dX12_comesOn_98 : decode cX12_comesOn 98 = .ok (.if_icmp .ge 25, 3) := by decide +kernel
theorem dX12_comesOn_101 : decode cX12_comesOn 101 = .ok (.iload_n 3, 1) := by decide +kernel
theorem dX12_comesOn_102 : decode cX12_comesOn 102 = .ok (.iconst (-1), 1) := by decide +kernel
theorem dX12_comesOn_103 : decode cX12_comesOn 103 = .ok (.if_icmp .eq 20, 3) := by decide +kernel
theorem dX12_comesOn_106 : decode cX12_comesOn 106 = .ok (.aload_n 0, 1) := by decide +kernel
theorem dX12_comesOn_107 : decode cX12_comesOn 107 = .ok (.iload 4, 2) := by decide +kernel
theorem dX12_comesOn_109 : decode cX12_comesOn 109 = .ok (.iload_n 3, 1) := by decide +kernel
theorem dX12_comesOn_110 : decode cX12_comesOn 110 = .ok (.iload_n 1, 1) := by decide +kernel
theorem dX12_comesOn_111 : decode cX12_comesOn 111 = .ok (.iconst 1, 1) := by decide +kernel
theorem dX12_comesOn_112 : decode cX12_comesOn 112 = .ok (.isub, 1) := by decide +kernel
theorem dX12_comesOn_113 : decode cX12_comesOn 113 = .ok (.invokevirtual 626, 3) := by decide +kernel
theorem dX12_comesOn_116 : decode cX12_comesOn 116 = .ok (.istore_n 3, 1) := by decide +kernel
theorem dX12_comesOn_117 : decode cX12_comesOn 117 = .ok (.iinc 4 1, 3) := by decide +kernel
theorem dX12_comesOn_120 : decode cX12_comesOn 120 = .ok (.goto (-33), 3) := by decide +kernel
theorem dX12_comesOn_123 : decode cX12_comesOn 123 = .ok (.iload_n 3, 1) := by decide +kernel
theorem dX12_comesOn_124 : decode cX12_comesOn 124 = .ok (.iload_n 1, 1) := by decide +kernel
theorem dX12_comesOn_125 : decode cX12_comesOn 125 = .ok (.iconst 1, 1) := by decide +kernel
theorem dX12_comesOn_126 : decode cX12_comesOn 126 = .ok (.isub, 1) := by decide +kernel
theorem dX12_comesOn_127 : decode cX12_comesOn 127 = .ok (.if_icmp .eq 5, 3) := by decide +kernel
theorem dX12_comesOn_130 : decode cX12_comesOn 130 = .ok (.iconst 0, 1) := by decide +kernel
theorem dX12_comesOn_131 : decode cX12_comesOn 131 = .ok (.ireturn, 1) := by decide +kernel
theorem dX12_comesOn_132 : decode cX12_comesOn 132 = .ok (.aload_n 0, 1) := by decide +kernel
theorem dX12_comesOn_133 : decode cX12_comesOn 133 = .ok (.getfield 171, 3) := by decide +kernel
theorem dX12_comesOn_136 : decode cX12_comesOn 136 = .ok (.iconst 1, 1) := by decide +kernel
theorem dX12_comesOn_137 : decode cX12_comesOn 137 = .ok (.aload_n 0, 1) := by decide +kernel
theorem dX12_comesOn_138 : decode cX12_comesOn 138 = .ok (.iconst 0, 1) := by decide +kernel
theorem dX12_comesOn_139 : decode cX12_comesOn 139 = .ok (.invokevirtual 623, 3) := by decide +kernel
theorem dX12_comesOn_142 : decode cX12_comesOn 142 = .ok (.iastore, 1) := by decide +kernel
theorem dX12_comesOn_143 : decode cX12_comesOn 143 = .ok (.aload_n 0, 1) := by decide +kernel
theorem dX12_comesOn_144 : decode cX12_comesOn 144 = .ok (.getfield 174, 3) := by decide +kernel
theorem dX12_comesOn_147 : decode cX12_comesOn 147 = .ok (.iconst 1, 1) := by decide +kernel
theorem dX12_comesOn_148 : decode cX12_comesOn 148 = .ok (.aload_n 0, 1) := by decide +kernel
theorem dX12_comesOn_149 : decode cX12_comesOn 149 = .ok (.iconst 2, 1) := by decide +kernel
theorem dX12_comesOn_150 : decode cX12_comesOn 150 = .ok (.invokevirtual 623, 3) := by decide +kernel
theorem dX12_comesOn_153 : decode cX12_comesOn 153 = .ok (.iastore, 1) := by decide +kernel
theorem dX12_comesOn_154 : decode cX12_comesOn 154 = .ok (.aload_n 0, 1) := by decide +kernel
theorem dX12_comesOn_155 : decode cX12_comesOn 155 = .ok (.getfield 198, 3) := by decide +kernel
theorem dX12_comesOn_158 : decode cX12_comesOn 158 = .ok (.iconst 1, 1) := by decide +kernel
theorem dX12_comesOn_159 : decode cX12_comesOn 159 = .ok (.iconst 0, 1) := by decide +kernel
theorem dX12_comesOn_160 : decode cX12_comesOn 160 = .ok (.iastore, 1) := by decide +kernel
theorem dX12_comesOn_161 : decode cX12_comesOn 161 = .ok (.iconst 1, 1) := by decide +kernel
theorem dX12_comesOn_162 : decode cX12_comesOn 162 = .ok (.ireturn, 1) := by decide +kernel
theorem dX12_on_0 : decode cX12_on 0 = .ok (.aload_n 0, 1) := by decide +kernel
theorem dX12_on_1 : decode cX12_on 1 = .ok (.getfield 13, 3) := by decide +kernel
theorem dX12_on_4 : decode cX12_on 4 = .ok (.istore_n 1, 1) := by decide +kernel
theorem dX12_on_5 : decode cX12_on 5 = .ok (.aload_n 0, 1) := by decide +kernel
theorem dX12_on_6 : decode cX12_on 6 = .ok (.iconst 0, 1) := by decide +kernel
theorem dX12_on_7 : decode cX12_on 7 = .ok (.putfield 13, 3) := by decide +kernel
theorem dX12_on_10 : decode cX12_on 10 = .ok (.aload_n 0, 1) := by decide +kernel
theorem dX12_on_11 : decode cX12_on 11 = .ok (.iload_n 1, 1) := by decide +kernel
theorem dX12_on_12 : decode cX12_on 12 = .ok (.invokevirtual 629, 3) := by decide +kernel
theorem dX12_on_15 : decode cX12_on 15 = .ok (.ifCond .ne 17, 3) := by decide +kernel
theorem dX12_on_18 : decode cX12_on 18 = .ok (.aload_n 0, 1) := by decide +kernel
theorem dX12_on_19 : decode cX12_on 19 = .ok (.iconst 5, 1) := by decide +kernel
theorem dX12_on_20 : decode cX12_on 20 = .ok (.invokevirtual 279, 3) := by decide +kernel
theorem dX12_on_23 : decode cX12_on 23 = .ok (.ifCond .lt 7, 3) := by decide +kernel
theorem dX12_on_26 : decode cX12_on 26 = .ok (.iconst 1, 1) := by decide +kernel
theorem dX12_on_27 : decode cX12_on 27 = .ok (.goto 4, 3) := by decide +kernel
theorem dX12_on_30 : decode cX12_on 30 = .ok (.iconst 0, 1) := by decide +kernel
theorem dX12_on_31 : decode cX12_on 31 = .ok (.ireturn, 1) := by decide +kernel
theorem dX12_on_32 : decode cX12_on 32 = .ok (.aload_n 0, 1) := by decide +kernel
theorem dX12_on_33 : decode cX12_on 33 = .ok (.iconst 0, 1) := by decide +kernel
theorem dX12_on_34 : decode cX12_on 34 = .ok (.iconst 1, 1) := by decide +kernel
theorem dX12_on_35 : decode cX12_on 35 = .ok (.invokevirtual 479, 3) := by decide +kernel
theorem dX12_on_38 : decode cX12_on 38 = .ok (.aload_n 0, 1) := by decide +kernel
theorem dX12_on_39 : decode cX12_on 39 = .ok (.iconst 0, 1) := by decide +kernel
theorem dX12_on_40 : decode cX12_on 40 = .ok (.putfield 213, 3) := by decide +kernel
theorem dX12_on_43 : decode cX12_on 43 = .ok (.iconst 1, 1) := by decide +kernel
theorem dX12_on_44 : decode cX12_on 44 = .ok (.ireturn, 1) := by decide +kernel
