theorem dX8_init_0 : decode cX8_init 0 = .ok (.aload_n 0, 1) := by decide +kernel
theorem dX8_init_1 : decode cX8_init 1 = .ok (.invokespecial 3, 3) := by decide +kernel
theorem dX8_init_4 : decode cX8_init 4 = .ok (.aload_n 0, 1) := by decide +kernel
theorem dX8_init_5 : decode cX8_init 5 = .ok (.sipush 258, 3) := by decide +kernel
theorem dX8_init_8 : decode cX8_init 8 = .ok (.newarray .int, 2) := by decide +kernel
theorem dX8_init_10 : decode cX8_init 10 = .ok (.putfield 11, 3) := by decide +kernel
theorem dX8_init_13 : decode cX8_init 13 = .ok (.aload_n 0, 1) := by decide +kernel
theorem dX8_init_14 : decode cX8_init 14 = .ok (.sipush 258, 3) := by decide +kernel
theorem dX8_init_17 : decode cX8_init 17 = .ok (.newarray .int, 2) := by decide +kernel
theorem dX8_init_19 : decode cX8_init 19 = .ok (.putfield 15, 3) := by decide +kernel
theorem dX8_init_22 : decode cX8_init 22 = .ok (.aload_n 0, 1) := by decide +kernel
theorem dX8_init_23 : decode cX8_init 23 = .ok (.sipush 258, 3) := by decide +kernel
theorem dX8_init_26 : decode cX8_init 26 = .ok (.newarray .int, 2) := by decide +kernel
theorem dX8_init_28 : decode cX8_init 28 = .ok (.putfield 18, 3) := by decide +kernel
theorem dX8_init_31 : decode cX8_init 31 = .ok (.aload_n 0, 1) := by decide +kernel
theorem dX8_init_32 : decode cX8_init 32 = .ok (.bipush 80, 2) := by decide +kernel
theorem dX8_init_34 : decode cX8_init 34 = .ok (.newarray .int, 2) := by decide +kernel
theorem dX8_init_36 : decode cX8_init 36 = .ok (.putfield 21, 3) := by decide +kernel
theorem dX8_init_39 : decode cX8_init 39 = .ok (.aload_n 0, 1) := by decide +kernel
theorem dX8_init_40 : decode cX8_init 40 = .ok (.bipush 100, 2) := by decide +kernel
theorem dX8_init_42 : decode cX8_init 42 = .ok (.newarray .int, 2) := by decide +kernel
theorem dX8_init_44 : decode cX8_init 44 = .ok (.putfield 24, 3) := by decide +kernel
theorem dX8_init_47 : decode cX8_init 47 = .ok (.aload_n 0, 1) := by decide +kernel
theorem dX8_init_48 : decode cX8_init 48 = .ok (.bipush 36, 2) := by decide +kernel
theorem dX8_init_50 : decode cX8_init 50 = .ok (.newarray .int, 2) := by decide +kernel
theorem dX8_init_52 : decode cX8_init 52 = .ok (.putfield 27, 3) := by decide +kernel
theorem dX8_init_55 : decode cX8_init 55 = .ok (.aload_n 0, 1) := by decide +kernel
theorem dX8_init_56 : decode cX8_init 56 = .ok (.bipush 16, 2) := by decide +kernel
theorem dX8_init_58 : decode cX8_init 58 = .ok (.newarray .int, 2) := by decide +kernel
theorem dX8_init_60 : decode cX8_init 60 = .ok (.putfield 30, 3) := by decide +kernel
theorem dX8_init_63 : decode cX8_init 63 = .ok (.aload_n 0, 1) := by decide +kernel
theorem dX8_init_64 : decode cX8_init 64 = .ok (.bipush 16, 2) := by decide +kernel
theorem dX8_init_66 : decode cX8_init 66 = .ok (.newarray .int, 2) := by decide +kernel
theorem dX8_init_68 : decode cX8_init 68 = .ok (.putfield 33, 3) := by decide +kernel
theorem dX8_init_71 : decode cX8_init 71 = .ok (.aload_n 0, 1) := by decide +kernel
theorem dX8_init_72 : decode cX8_init 72 = .ok (.bipush 16, 2) := by decide +kernel
theorem dX8_init_74 : decode cX8_init 74 = .ok (.newarray .int, 2) := by decide +kernel
theorem dX8_init_76 : decode cX8_init 76 = .ok (.putfield 36, 3) := by decide +kernel
theorem dX8_init_79 : decode cX8_init 79 = .ok (.aload_n 0, 1) := by decide +kernel
theorem dX8_init_80 : decode cX8_init 80 = .ok (.iconst 5, 1) := by decide +kernel
theorem dX8_init_81 : decode cX8_init 81 = .ok (.newarray .int, 2) := by decide +kernel
theorem dX8_init_83 : decode cX8_init 83 = .ok (.putfield 39, 3) := by decide +kernel
theorem dX8_init_86 : decode cX8_init 86 = .ok (.aload_n 0, 1) := by decide +kernel
theorem dX8_init_87 : decode cX8_init 87 = .ok (.bipush 6, 2) := by decide +kernel
theorem dX8_init_89 : decode cX8_init 89 = .ok (.newarray .int, 2) := by decide +kernel
theorem dX8_init_91 : decode cX8_init 91 = .ok (.putfield 42, 3) := by decide +kernel
theorem dX8_init_94 : decode cX8_init 94 = .ok (.aload_n 0, 1) := by decide +kernel
theorem dX8_init_95 : decode cX8_init 95 = .ok (.bipush 6, 2) := by decide +kernel
theorem dX8_init_97 : decode cX8_init 97 = .ok (.newarray .int, 2) := by decide +kernel
theorem dX8_init_99 : decode cX8_init 99 = .ok (.putfield 45, 3) := by decide +kernel
theorem dX8_init_102 : decode cX8_init 102 = .ok (.aload_n 0, 1) := by decide +kernel
theorem dX8_init_103 : decode cX8_init 103 = .ok (.sipush 360, 3) := by decide +kernel
theorem dX8_init_106 : decode cX8_init 106 = .ok (.newarray .long, 2) := by decide +kernel
theorem dX8_init_108 : decode cX8_init 108 = .ok (.putfield 48, 3) := by decide +kernel
theorem dX8_init_111 : decode cX8_init 111 = .ok (.aload_n 0, 1) := by decide +kernel
theorem dX8_init_112 : decode cX8_init 112 = .ok (.bipush 60, 2) := by decide +kernel
theorem dX8_init_114 : decode cX8_init 114 = .ok (.newarray .long, 2) := by decide +kernel
theorem dX8_init_116 : decode cX8_init 116 = .ok (.putfield 52, 3) := by decide +kernel
theorem dX8_init_119 : decode cX8_init 119 = .ok (.aload_n 0, 1) := by decide +kernel
theorem dX8_init_120 : decode cX8_init 120 = .ok (.getfield 11, 3) := by decide +kernel
theorem dX8_init_123 : decode cX8_init 123 = .ok (.iconst 0, 1) := by decide +kernel
theorem dX8_init_124 : decode cX8_init 124 = .ok (.bipush 32, 2) := by decide +kernel
theorem dX8_init_126 : decode cX8_init 126 = .ok (.iastore, 1) := by decide +kernel
theorem dX8_init_127 : decode cX8_init 127 = .ok (.aload_n 0, 1) := by decide +kernel
theorem dX8_init_128 : decode cX8_init 128 = .ok (.getfield 11, 3) := by decide +kernel
theorem dX8_init_131 : decode cX8_init 131 = .ok (.iconst 1, 1) := by decide +kernel
theorem dX8_init_132 : decode cX8_init 132 = .ok (.bipush 32, 2) := by decide +kernel
theorem dX8_init_134 : decode cX8_init 134 = .ok (.iastore, 1) := by decide +kernel
theorem dX8_init_135 : decode cX8_init 135 = .ok (.iconst 0, 1) := by decide +kernel
theorem dX8_init_136 : decode cX8_init 136 = .ok (.istore_n 1, 1) := by decide +kernel
theorem dX8_init_137 : decode cX8_init 137 = .ok (.iload_n 1, 1) := by decide +kernel
theorem dX8_init_138 : decode cX8_init 138 = .ok (.iconst 4, 1) := by decide +kernel
theorem dX8_init_139 : decode cX8_init 139 = .ok (.if_icmp .ge 44, 3) := by decide +kernel
theorem dX8_init_142 : decode cX8_init 142 = .ok (.aload_n 0, 1) := by decide +kernel
theorem dX8_init_143 : decode cX8_init 143 = .ok (.getfield 11, 3) := by decide +kernel
theorem dX8_init_146 : decode cX8_init 146 = .ok (.sipush 178, 3) := by decide +kernel
theorem dX8_init_149 : decode cX8_init 149 = .ok (.bipush 20, 2) := by decide +kernel
theorem dX8_init_151 : decode cX8_init 151 = .ok (.iload_n 1, 1) := by decide +kernel
theorem dX8_init_152 : decode cX8_init 152 = .ok (.imul, 1) := by decide +kernel
theorem dX8_init_153 : decode cX8_init 153 = .ok (.iadd, 1) := by decide +kernel
theorem dX8_init_154 : decode cX8_init 154 = .ok (.iconst 0, 1) := by decide +kernel
theorem dX8_init_155 : decode cX8_init 155 = .ok (.iadd, 1) := by decide +kernel
theorem dX8_init_156 : decode cX8_init 156 = .ok (.bipush 20, 2) := by decide +kernel
theorem dX8_init_158 : decode cX8_init 158 = .ok (.iastore, 1) := by decide +kernel
theorem dX8_init_159 : decode cX8_init 159 = .ok (.aload_n 0, 1) := by decide +kernel
theorem dX8_init_160 : decode cX8_init 160 = .ok (.getfield 11, 3) := by decide +kernel
theorem dX8_init_163 : decode cX8_init 163 = .ok (.sipush 178, 3) := by decide +kernel
theorem dX8_init_166 : decode cX8_init 166 = .ok (.bipush 20, 2) := by decide +kernel
theorem dX8_init_168 : decode cX8_init 168 = .ok (.iload_n 1, 1) := by decide +kernel
theorem dX8_init_169 : decode cX8_init 169 = .ok (.imul, 1) := by decide +kernel
theorem dX8_init_170 : decode cX8_init 170 = .ok (.iadd, 1) := by decide +kernel
theorem dX8_init_171 : decode cX8_init 171 = .ok (.iconst 2, 1) := by decide +kernel
theorem dX8_init_172 : decode cX8_init 172 = .ok (.iadd, 1) := by decide +kernel
theorem dX8_init_173 : decode cX8_init 173 = .ok (.sipush 1999, 3) := by decide +kernel
theorem dX8_init_176 : decode cX8_init 176 = .ok (.iastore, 1) := by decide +kernel
theorem dX8_init_177 : decode cX8_init 177 = .ok (.iinc 1 1, 3) := by decide +kernel
theorem dX8_init_180 : decode cX8_init 180 = .ok (.goto (-43), 3) := by decide +kernel
theorem dX8_init_183 : decode cX8_init 183 = .ok (.iconst 0, 1) := by decide +kernel
theorem dX8_init_184 : decode cX8_init 184 = .ok (.istore_n 1, 1) := by decide +kernel
theorem dX8_init_185 : decode cX8_init 185 = .ok (.iload_n 1, 1) := by decide +kernel
theorem dX8_init_186 : decode cX8_init 186 = .ok (.bipush 6, 2) := by decide +kernel
theorem dX8_init_188 : decode cX8_init 188 = .ok (.if_icmp .ge 16, 3) := by decide +kernel
theorem dX8_init_191 : decode cX8_init 191 = .ok (.aload_n 0, 1) := by decide +kernel
theorem dX8_init_192 : decode cX8_init 192 = .ok (.getfield 42, 3) := by decide +kernel
theorem dX8_init_195 : decode cX8_init 195 = .ok (.iload_n 1, 1) := by decide +kernel
theorem dX8_init_196 : decode cX8_init 196 = .ok (.iconst (-1), 1) := by decide +kernel
theorem dX8_init_197 : decode cX8_init 197 = .ok (.iastore, 1) := by decide +kernel
theorem dX8_init_198 : decode cX8_init 198 = .ok (.iinc 1 1, 3) := by decide +kernel
theorem dX8_init_201 : decode cX8_init 201 = .ok (.goto (-16), 3) := by decide +kernel
theorem dX8_init_204 : decode cX8_init 204 = .ok (.return_, 1) := by decide +kernel
theorem dX8_isIn_0 : decode cX8_isIn 0 = .ok (.iload_n 0, 1) := by decide +kernel
theorem dX8_isIn_1 : decode cX8_isIn 1 = .ok (.iload_n 1, 1) := by decide +kernel
theorem dX8_isIn_2 : decode cX8_isIn 2 = .ok (.if_icmp .lt 12, 3) := by decide +kernel
theorem dX8_isIn_5 : decode cX8_isIn 5 = .ok (.iload_n 0, 1) := by decide +kernel
theorem dX8_isIn_6 : decode cX8_isIn 6 = .ok (.iload_n 2, 1) := by decide +kernel
theorem dX8_isIn_7 : decode cX8_isIn 7 = .ok (.if_icmp .gt 7, 3) := by decide +kernel
theorem dX8_isIn_10 : decode cX8_isIn 10 = .ok (.iconst 1, 1) := by decide +kernel
theorem dX8_isIn_11 : decode cX8_isIn 11 = .ok (.goto 4, 3) := by decide +kernel
theorem dX8_isIn_14 : decode cX8_isIn 14 = .ok (.iconst 0, 1) := by decide +kernel
theorem dX8_isIn_15 : decode cX8_isIn 15 = .ok (.ireturn, 1) := by decide +kernel
theorem dX8_isStop_0 : decode cX8_isStop 0 = .ok (.iload_n 1, 1) := by decide +kernel
theorem dX8_isStop_1 : decode cX8_isStop 1 = .ok (.iconst 0, 1) := by decide +kernel
theorem dX8_isStop_2 : decode cX8_isStop 2 = .ok (.aload_n 0, 1) := by decide +kernel
theorem dX8_isStop_3 : decode cX8_isStop 3 = .ok (.getfield 11, 3) := by decide +kernel
theorem dX8_isStop_6 : decode cX8_isStop 6 = .ok (.iconst 4, 1) := by decide +kernel
theorem dX8_isStop_7 : decode cX8_isStop 7 = .ok (.iaload, 1) := by decide +kernel
theorem dX8_isStop_8 : decode cX8_isStop 8 = .ok (.iconst 1, 1) := by decide +kernel
theorem dX8_isStop_9 : decode cX8_isStop 9 = .ok (.isub, 1) := by decide +kernel
theorem dX8_isStop_10 : decode cX8_isStop 10 = .ok (.invokestatic 55, 3) := by decide +kernel
theorem dX8_isStop_13 : decode cX8_isStop 13 = .ok (.ireturn, 1) := by decide +kernel
theorem dX8_isRound_0 : decode cX8_isRound 0 = .ok (.iload_n 0, 1) := by decide +kernel
theorem dX8_isRound_1 : decode cX8_isRound 1 = .ok (.iconst 0, 1) := by decide +kernel
theorem dX8_isRound_2 : decode cX8_isRound 2 = .ok (.iconst 3, 1) := by decide +kernel
theorem dX8_isRound_3 : decode cX8_isRound 3 = .ok (.invokestatic 55, 3) := by decide +kernel
theorem dX8_isRound_6 : decode cX8_isRound 6 = .ok (.ireturn, 1) := by decide +kernel
theorem dX8_stopAt_0 : decode cX8_stopAt 0 = .ok (.aload_n 0, 1) := by decide +kernel
theorem dX8_stopAt_1 : decode cX8_stopAt 1 = .ok (.getfield 11, 3) := by decide +kernel
theorem dX8_stopAt_4 : decode cX8_stopAt 4 = .ok (.bipush 50, 2) := by decide +kernel
theorem dX8_stopAt_6 : decode cX8_stopAt 6 = .ok (.bipush 8, 2) := by decide +kernel
theorem dX8_stopAt_8 : decode cX8_stopAt 8 = .ok (.iload_n 1, 1) := by decide +kernel
theorem dX8_stopAt_9 : decode cX8_stopAt 9 = .ok (.imul, 1) := by decide +kernel
theorem dX8_stopAt_10 : decode cX8_stopAt 10 = .ok (.iadd, 1) := by decide +kernel
theorem dX8_stopAt_11 : decode cX8_stopAt 11 = .ok (.iload_n 2, 1) := by decide +kernel
theorem dX8_stopAt_12 : decode cX8_stopAt 12 = .ok (.iadd, 1) := by decide +kernel
theorem dX8_stopAt_13 : decode cX8_stopAt 13 = .ok (.iaload, 1) := by decide +kernel
theorem dX8_stopAt_14 : decode cX8_stopAt 14 = .ok (.ireturn, 1) := by decide +kernel
theorem dX8_roundAt_0 : decode cX8_roundAt 0 = .ok (.aload_n 0, 1) := by decide +kernel
theorem dX8_roundAt_1 : decode cX8_roundAt 1 = .ok (.getfield 11, 3) := by decide +kernel
theorem dX8_roundAt_4 : decode cX8_roundAt 4 = .ok (.sipush 178, 3) := by decide +kernel
theorem dX8_roundAt_7 : decode cX8_roundAt 7 = .ok (.bipush 20, 2) := by decide +kernel
theorem dX8_roundAt_9 : decode cX8_roundAt 9 = .ok (.iload_n 1, 1) := by decide +kernel
theorem dX8_roundAt_10 : decode cX8_roundAt 10 = .ok (.imul, 1) := by decide +kernel
theorem dX8_roundAt_11 : decode cX8_roundAt 11 = .ok (.iadd, 1) := by decide +kernel
theorem dX8_roundAt_12 : decode cX8_roundAt 12 = .ok (.iload_n 2, 1) := by decide +kernel
theorem dX8_roundAt_13 : decode cX8_roundAt 13 = .ok (.iadd, 1) := by decide +kernel
theorem dX8_roundAt_14 : decode cX8_roundAt 14 = .ok (.iaload, 1) := by decide +kernel
theorem dX8_roundAt_15 : decode cX8_roundAt 15 = .ok (.ireturn, 1) := by decide +kernel
theorem dX8_inRow_0 : decode cX8_inRow 0 = .ok (.aload_n 0, 1) := by decide +kernel
theorem dX8_inRow_1 : decode cX8_inRow 1 = .ok (.getfield 11, 3) := by decide +kernel
theorem dX8_inRow_4 : decode cX8_inRow 4 = .ok (.sipush 178, 3) := by decide +kernel
theorem dX8_inRow_7 : decode cX8_inRow 7 = .ok (.bipush 20, 2) := by decide +kernel
theorem dX8_inRow_9 : decode cX8_inRow 9 = .ok (.iload_n 1, 1) := by decide +kernel
theorem dX8_inRow_10 : decode cX8_inRow 10 = .ok (.imul, 1) := by decide +kernel
theorem dX8_inRow_11 : decode cX8_inRow 11 = .ok (.iadd, 1) := by decide +kernel
theorem dX8_inRow_12 : decode cX8_inRow 12 = .ok (.iconst 4, 1) := by decide +kernel
theorem dX8_inRow_13 : decode cX8_inRow 13 = .ok (.iadd, 1) := by decide +kernel
theorem dX8_inRow_14 : decode cX8_inRow 14 = .ok (.iload_n 2, 1) := by decide +kernel
theorem dX8_inRow_15 : decode cX8_inRow 15 = .ok (.iadd, 1) := by decide +kernel
theorem dX8_inRow_16 : decode cX8_inRow 16 = .ok (.iaload, 1) := by decide +kernel
theorem dX8_inRow_17 : decode cX8_inRow 17 = .ok (.ireturn, 1) := by decide +kernel
theorem dX8_copies_0 : decode cX8_copies 0 = .ok (.iconst 0, 1) := by decide +kernel
theorem dX8_copies_1 : decode cX8_copies 1 = .ok (.istore_n 2, 1) := by decide +kernel
theorem dX8_copies_2 : decode cX8_copies 2 = .ok (.iload_n 2, 1) := by decide +kernel
theorem dX8_copies_3 : decode cX8_copies 3 = .ok (.aload_n 0, 1) := by decide +kernel
theorem dX8_copies_4 : decode cX8_copies 4 = .ok (.arraylength, 1) := by decide +kernel
theorem dX8_copies_5 : decode cX8_copies 5 = .ok (.if_icmp .ge 15, 3) := by decide +kernel
theorem dX8_copies_8 : decode cX8_copies 8 = .ok (.aload_n 1, 1) := by decide +kernel
theorem dX8_copies_9 : decode cX8_copies 9 = .ok (.iload_n 2, 1) := by decide +kernel
theorem dX8_copies_10 : decode cX8_copies 10 = .ok (.aload_n 0, 1) := by decide +kernel
theorem dX8_copies_11 : decode cX8_copies 11 = .ok (.iload_n 2, 1) := by decide +kernel
theorem dX8_copies_12 : decode cX8_copies 12 = .ok (.iaload, 1) := by decide +kernel
theorem dX8_copies_13 : decode cX8_copies 13 = .ok (.iastore, 1) := by decide +kernel
theorem dX8_copies_14 : decode cX8_copies 14 = .ok (.iinc 2 1, 3) := by decide +kernel
theorem dX8_copies_17 : decode cX8_copies 17 = .ok (.goto (-15), 3) := by decide +kernel
theorem dX8_copies_20 : decode cX8_copies 20 = .ok (.return_, 1) := by decide +kernel
theorem dX8_laysAside_0 : decode cX8_laysAside 0 = .ok (.iconst 0, 1) := by decide +kernel
theorem dX8_laysAside_1 : decode cX8_laysAside 1 = .ok (.istore_n 1, 1) := by decide +kernel
theorem dX8_laysAside_2 : decode cX8_laysAside 2 = .ok (.iload_n 1, 1) := by decide +kernel
theorem dX8_laysAside_3 : decode cX8_laysAside 3 = .ok (.aload_n 0, 1) := by decide +kernel
theorem dX8_laysAside_4 : decode cX8_laysAside 4 = .ok (.getfield 21, 3) := by decide +kernel
theorem dX8_laysAside_7 : decode cX8_laysAside 7 = .ok (.arraylength, 1) := by decide +kernel
theorem dX8_laysAside_8 : decode cX8_laysAside 8 = .ok (.if_icmp .ge 25, 3) := by decide +kernel
theorem dX8_laysAside_11 : decode cX8_laysAside 11 = .ok (.aload_n 0, 1) := by decide +kernel
theorem dX8_laysAside_12 : decode cX8_laysAside 12 = .ok (.getfield 21, 3) := by decide +kernel
theorem dX8_laysAside_15 : decode cX8_laysAside 15 = .ok (.iload_n 1, 1) := by decide +kernel
theorem dX8_laysAside_16 : decode cX8_laysAside 16 = .ok (.aload_n 0, 1) := by decide +kernel
theorem dX8_laysAside_17 : decode cX8_laysAside 17 = .ok (.getfield 11, 3) := by decide +kernel
theorem dX8_laysAside_20 : decode cX8_laysAside 20 = .ok (.sipush 178, 3) := by decide +kernel
theorem dX8_laysAside_23 : decode cX8_laysAside 23 = .ok (.iload_n 1, 1) := by decide +kernel
theorem dX8_laysAside_24 : decode cX8_laysAside 24 = .ok (.iadd, 1) := by decide +kernel
theorem dX8_laysAside_25 : decode cX8_laysAside 25 = .ok (.iaload, 1) := by decide +kernel
theorem dX8_laysAside_26 : decode cX8_laysAside 26 = .ok (.iastore, 1) := by decide +kernel
theorem dX8_laysAside_27 : decode cX8_laysAside 27 = .ok (.iinc 1 1, 3) := by decide +kernel
theorem dX8_laysAside_30 : decode cX8_laysAside 30 = .ok (.goto (-28), 3) := by decide +kernel
theorem dX8_laysAside_33 : decode cX8_laysAside 33 = .ok (.return_, 1) := by decide +kernel
theorem dX8_laysBack_0 : decode cX8_laysBack 0 = .ok (.iconst 0, 1) := by decide +kernel
theorem dX8_laysBack_1 : decode cX8_laysBack 1 = .ok (.istore_n 1, 1) := by decide +kernel
theorem dX8_laysBack_2 : decode cX8_laysBack 2 = .ok (.iload_n 1, 1) := by decide +kernel
theorem dX8_laysBack_3 : decode cX8_laysBack 3 = .ok (.aload_n 0, 1) := by decide +kernel
theorem dX8_laysBack_4 : decode cX8_laysBack 4 = .ok (.getfield 21, 3) := by decide +kernel
theorem dX8_laysBack_7 : decode cX8_laysBack 7 = .ok (.arraylength, 1) := by decide +kernel
theorem dX8_laysBack_8 : decode cX8_laysBack 8 = .ok (.if_icmp .ge 25, 3) := by decide +kernel
theorem dX8_laysBack_11 : decode cX8_laysBack 11 = .ok (.aload_n 0, 1) := by decide +kernel
theorem dX8_laysBack_12 : decode cX8_laysBack 12 = .ok (.getfield 11, 3) := by decide +kernel
theorem dX8_laysBack_15 : decode cX8_laysBack 15 = .ok (.sipush 178, 3) := by decide +kernel
theorem dX8_laysBack_18 : decode cX8_laysBack 18 = .ok (.iload_n 1, 1) := by decide +kernel
theorem dX8_laysBack_19 : decode cX8_laysBack 19 = .ok (.iadd, 1) := by decide +kernel
theorem dX8_laysBack_20 : decode cX8_laysBack 20 = .ok (.aload_n 0, 1) := by decide +kernel
theorem dX8_laysBack_21 : decode cX8_laysBack 21 = .ok (.getfield 21, 3) := by decide +kernel
theorem dX8_laysBack_24 : decode cX8_laysBack 24 = .ok (.iload_n 1, 1) := by decide +kernel
theorem dX8_laysBack_25 : decode cX8_laysBack 25 = .ok (.iaload, 1) := by decide +kernel
theorem dX8_laysBack_26 : decode cX8_laysBack 26 = .ok (.iastore, 1) := by decide +kernel
theorem dX8_laysBack_27 : decode cX8_laysBack 27 = .ok (.iinc 1 1, 3) := by decide +kernel
theorem dX8_laysBack_30 : decode cX8_laysBack 30 = .ok (.goto (-28), 3) := by decide +kernel
theorem dX8_laysBack_33 : decode cX8_laysBack 33 = .ok (.return_, 1) := by decide +kernel
theorem dX8_placeIn_0 : decode cX8_placeIn 0 = .ok (.iconst 0, 1) := by decide +kernel
theorem dX8_placeIn_1 : decode cX8_placeIn 1 = .ok (.istore_n 3, 1) := by decide +kernel
theorem dX8_placeIn_2 : decode cX8_placeIn 2 = .ok (.iload_n 3, 1) := by decide +kernel
theorem dX8_placeIn_3 : decode cX8_placeIn 3 = .ok (.aload_n 0, 1) := by decide +kernel
theorem dX8_placeIn_4 : decode cX8_placeIn 4 = .ok (.iload_n 1, 1) := by decide +kernel
theorem dX8_placeIn_5 : decode cX8_placeIn 5 = .ok (.iconst 3, 1) := by decide +kernel
theorem dX8_placeIn_6 : decode cX8_placeIn 6 = .ok (.invokevirtual 59, 3) := by decide +kernel
theorem dX8_placeIn_9 : decode cX8_placeIn 9 = .ok (.if_icmp .ge 21, 3) := by decide +kernel
theorem dX8_placeIn_12 : decode cX8_placeIn 12 = .ok (.aload_n 0, 1) := by decide +kernel
theorem dX8_placeIn_13 : decode cX8_placeIn 13 = .ok (.iload_n 1, 1) := by decide +kernel
theorem dX8_placeIn_14 : decode cX8_placeIn 14 = .ok (.iload_n 3, 1) := by decide +kernel
theorem dX8_placeIn_15 : decode cX8_placeIn 15 = .ok (.invokevirtual 63, 3) := by decide +kernel
theorem dX8_placeIn_18 : decode cX8_placeIn 18 = .ok (.iload_n 2, 1) := by decide +kernel
theorem dX8_placeIn_19 : decode cX8_placeIn 19 = .ok (.if_icmp .ne 5, 3) := by decide +kernel
theorem dX8_placeIn_22 : decode cX8_placeIn 22 = .ok (.iload_n 3, 1) := by decide +kernel
theorem dX8_placeIn_23 : decode cX8_placeIn 23 = .ok (.ireturn, 1) := by decide +kernel
theorem dX8_placeIn_24 : decode cX8_placeIn 24 = .ok (.iinc 3 1, 3) := by decide +kernel
theorem dX8_placeIn_27 : decode cX8_placeIn 27 = .ok (.goto (-25), 3) := by decide +kernel
theorem dX8_placeIn_30 : decode cX8_placeIn 30 = .ok (.bipush (-5), 2) := by decide +kernel
theorem dX8_placeIn_32 : decode cX8_placeIn 32 = .ok (.ireturn, 1) := by decide +kernel
theorem dX8_roundOf_0 : decode cX8_roundOf 0 = .ok (.iconst 0, 1) := by decide +kernel
theorem dX8_roundOf_1 : decode cX8_roundOf 1 = .ok (.istore_n 2, 1) := by decide +kernel
theorem dX8_roundOf_2 : decode cX8_roundOf 2 = .ok (.iload_n 2, 1) := by decide +kernel
theorem dX8_roundOf_3 : decode cX8_roundOf 3 = .ok (.iconst 4, 1) := by decide +kernel
theorem dX8_roundOf_4 : decode cX8_roundOf 4 = .ok (.if_icmp .ge 20, 3) := by decide +kernel
theorem dX8_roundOf_7 : decode cX8_roundOf 7 = .ok (.aload_n 0, 1) := by decide +kernel
theorem dX8_roundOf_8 : decode cX8_roundOf 8 = .ok (.iload_n 2, 1) := by decide +kernel
theorem dX8_roundOf_9 : decode cX8_roundOf 9 = .ok (.iload_n 1, 1) := by decide +kernel
theorem dX8_roundOf_10 : decode cX8_roundOf 10 = .ok (.invokevirtual 66, 3) := by decide +kernel
theorem dX8_roundOf_13 : decode cX8_roundOf 13 = .ok (.ifCond .lt 5, 3) := by decide +kernel
theorem dX8_roundOf_16 : decode cX8_roundOf 16 = .ok (.iload_n 2, 1) := by decide +kernel
theorem dX8_roundOf_17 : decode cX8_roundOf 17 = .ok (.ireturn, 1) := by decide +kernel
theorem dX8_roundOf_18 : decode cX8_roundOf 18 = .ok (.iinc 2 1, 3) := by decide +kernel
theorem dX8_roundOf_21 : decode cX8_roundOf 21 = .ok (.goto (-19), 3) := by decide +kernel
theorem dX8_roundOf_24 : decode cX8_roundOf 24 = .ok (.bipush (-5), 2) := by decide +kernel
theorem dX8_roundOf_26 : decode cX8_roundOf 26 = .ok (.ireturn, 1) := by decide +kernel
theorem dX8_inserts_0 : decode cX8_inserts 0 = .ok (.sipush 178, 3) := by decide +kernel
theorem dX8_inserts_3 : decode cX8_inserts 3 = .ok (.bipush 20, 2) := by decide +kernel
theorem dX8_inserts_5 : decode cX8_inserts 5 = .ok (.iload_n 1, 1) := by decide +kernel
theorem dX8_inserts_6 : decode cX8_inserts 6 = .ok (.imul, 1) := by decide +kernel
theorem dX8_inserts_7 : decode cX8_inserts 7 = .ok (.iadd, 1) := by decide +kernel
theorem dX8_inserts_8 : decode cX8_inserts 8 = .ok (.istore 4, 2) := by decide +kernel
theorem dX8_inserts_10 : decode cX8_inserts 10 = .ok (.aload_n 0, 1) := by decide +kernel
theorem dX8_inserts_11 : decode cX8_inserts 11 = .ok (.getfield 11, 3) := by decide +kernel
theorem dX8_inserts_14 : decode cX8_inserts 14 = .ok (.iload 4, 2) := by decide +kernel
theorem dX8_inserts_16 : decode cX8_inserts 16 = .ok (.iconst 3, 1) := by decide +kernel
theorem dX8_inserts_17 : decode cX8_inserts 17 = .ok (.iadd, 1) := by decide +kernel
theorem dX8_inserts_18 : decode cX8_inserts 18 = .ok (.iaload, 1) := by decide +kernel
theorem dX8_inserts_19 : decode cX8_inserts 19 = .ok (.istore 5, 2) := by decide +kernel
theorem dX8_inserts_21 : decode cX8_inserts 21 = .ok (.iload 5, 2) := by decide +kernel
theorem dX8_inserts_23 : decode cX8_inserts 23 = .ok (.iload_n 2, 1) := by decide +kernel
theorem dX8_inserts_24 : decode cX8_inserts 24 = .ok (.if_icmp .le 35, 3) := by decide +kernel
theorem dX8_inserts_27 : decode cX8_inserts 27 = .ok (.aload_n 0, 1) := by decide +kernel
theorem dX8_inserts_28 : decode cX8_inserts 28 = .ok (.getfield 11, 3) := by decide +kernel
theorem dX8_inserts_31 : decode cX8_inserts 31 = .ok (.iload 4, 2) := by decide +kernel
theorem dX8_inserts_33 : decode cX8_inserts 33 = .ok (.iconst 4, 1) := by decide +kernel
theorem dX8_inserts_34 : decode cX8_inserts 34 = .ok (.iadd, 1) := by decide +kernel
theorem dX8_inserts_35 : decode cX8_inserts 35 = .ok (.iload 5, 2) := by decide +kernel
theorem dX8_inserts_37 : decode cX8_inserts 37 = .ok (.iadd, 1) := by decide +kernel
theorem dX8_inserts_38 : decode cX8_inserts 38 = .ok (.aload_n 0, 1) := by decide +kernel
theorem dX8_inserts_39 : decode cX8_inserts 39 = .ok (.getfield 11, 3) := by decide +kernel
theorem dX8_inserts_42 : decode cX8_inserts 42 = .ok (.iload 4, 2) := by decide +kernel
theorem dX8_inserts_44 : decode cX8_inserts 44 = .ok (.iconst 4, 1) := by decide +kernel
theorem dX8_inserts_45 : decode cX8_inserts 45 = .ok (.iadd, 1) := by decide +kernel
theorem dX8_inserts_46 : decode cX8_inserts 46 = .ok (.iload 5, 2) := by decide +kernel
theorem dX8_inserts_48 : decode cX8_inserts 48 = .ok (.iadd, 1) := by decide +kernel
theorem dX8_inserts_49 : decode cX8_inserts 49 = .ok (.iconst 1, 1) := by decide +kernel
theorem dX8_inserts_50 : decode cX8_inserts 50 = .ok (.isub, 1) := by decide +kernel
theorem dX8_inserts_51 : decode cX8_inserts 51 = .ok (.iaload, 1) := by decide +kernel
theorem dX8_inserts_52 : decode cX8_inserts 52 = .ok (.iastore, 1) := by decide +kernel
theorem dX8_inserts_53 : decode cX8_inserts 53 = .ok (.iinc 5 (-1), 3) := by decide +kernel
theorem dX8_inserts_56 : decode cX8_inserts 56 = .ok (.goto (-35), 3) := by decide +kernel
theorem dX8_inserts_59 : decode cX8_inserts 59 = .ok (.aload_n 0, 1) := by decide +kernel
theorem dX8_inserts_60 : decode cX8_inserts 60 = .ok (.getfield 11, 3) := by decide +kernel
theorem dX8_inserts_63 : decode cX8_inserts 63 = .ok (.iload 4, 2) := by decide +kernel
theorem dX8_inserts_65 : decode cX8_inserts 65 = .ok (.iconst 4, 1) := by decide +kernel
theorem dX8_inserts_66 : decode cX8_inserts 66 = .ok (.iadd, 1) := by decide +kernel
theorem dX8_inserts_67 : decode cX8_inserts 67 = .ok (.iload_n 2, 1) := by decide +kernel
theorem dX8_inserts_68 : decode cX8_inserts 68 = .ok (.iadd, 1) := by decide +kernel
theorem dX8_inserts_69 : decode cX8_inserts 69 = .ok (.iload_n 3, 1) := by decide +kernel
theorem dX8_inserts_70 : decode cX8_inserts 70 = .ok (.iastore, 1) := by decide +kernel
theorem dX8_inserts_71 : decode cX8_inserts 71 = .ok (.aload_n 0, 1) := by decide +kernel
theorem dX8_inserts_72 : decode cX8_inserts 72 = .ok (.getfield 11, 3) := by decide +kernel
theorem dX8_inserts_75 : decode cX8_inserts 75 = .ok (.iload 4, 2) := by decide +kernel
theorem dX8_inserts_77 : decode cX8_inserts 77 = .ok (.iconst 3, 1) := by decide +kernel
theorem dX8_inserts_78 : decode cX8_inserts 78 = .ok (.iadd, 1) := by decide +kernel
theorem dX8_inserts_79 : decode cX8_inserts 79 = .ok (.dup2, 1) := by decide +kernel
theorem dX8_inserts_80 : decode cX8_inserts 80 = .ok (.iaload, 1) := by decide +kernel
theorem dX8_inserts_81 : decode cX8_inserts 81 = .ok (.iconst 1, 1) := by decide +kernel
theorem dX8_inserts_82 : decode cX8_inserts 82 = .ok (.iadd, 1) := by decide +kernel
theorem dX8_inserts_83 : decode cX8_inserts 83 = .ok (.iastore, 1) := by decide +kernel
theorem dX8_inserts_84 : decode cX8_inserts 84 = .ok (.return_, 1) := by decide +kernel
theorem dX8_removes_0 : decode cX8_removes 0 = .ok (.sipush 178, 3) := by decide +kernel
theorem dX8_removes_3 : decode cX8_removes 3 = .ok (.bipush 20, 2) := by decide +kernel
theorem dX8_removes_5 : decode cX8_removes 5 = .ok (.iload_n 1, 1) := by decide +kernel
theorem dX8_removes_6 : decode cX8_removes 6 = .ok (.imul, 1) := by decide +kernel
theorem dX8_removes_7 : decode cX8_removes 7 = .ok (.iadd, 1) := by decide +kernel
theorem dX8_removes_8 : decode cX8_removes 8 = .ok (.istore_n 3, 1) := by decide +kernel
theorem dX8_removes_9 : decode cX8_removes 9 = .ok (.aload_n 0, 1) := by decide +kernel
theorem dX8_removes_10 : decode cX8_removes 10 = .ok (.getfield 11, 3) := by decide +kernel
theorem dX8_removes_13 : decode cX8_removes 13 = .ok (.iload_n 3, 1) := by decide +kernel
theorem dX8_removes_14 : decode cX8_removes 14 = .ok (.iconst 3, 1) := by decide +kernel
theorem dX8_removes_15 : decode cX8_removes 15 = .ok (.iadd, 1) := by decide +kernel
theorem dX8_removes_16 : decode cX8_removes 16 = .ok (.dup2, 1) := by decide +kernel
theorem dX8_removes_17 : decode cX8_removes 17 = .ok (.iaload, 1) := by decide +kernel
theorem dX8_removes_18 : decode cX8_removes 18 = .ok (.iconst 1, 1) := by decide +kernel
theorem dX8_removes_19 : decode cX8_removes 19 = .ok (.isub, 1) := by decide +kernel
theorem dX8_removes_20 : decode cX8_removes 20 = .ok (.iastore, 1) := by decide +kernel
theorem dX8_removes_21 : decode cX8_removes 21 = .ok (.iload_n 2, 1) := by decide +kernel
theorem dX8_removes_22 : decode cX8_removes 22 = .ok (.istore 4, 2) := by decide +kernel
theorem dX8_removes_24 : decode cX8_removes 24 = .ok (.iload 4, 2) := by decide +kernel
theorem dX8_removes_26 : decode cX8_removes 26 = .ok (.aload_n 0, 1) := by decide +kernel
theorem dX8_removes_27 : decode cX8_removes 27 = .ok (.getfield 11, 3) := by decide +kernel
theorem dX8_removes_30 : decode cX8_removes 30 = .ok (.iload_n 3, 1) := by decide +kernel
theorem dX8_removes_31 : decode cX8_removes 31 = .ok (.iconst 3, 1) := by decide +kernel
theorem dX8_removes_32 : decode cX8_removes 32 = .ok (.iadd, 1) := by decide +kernel
theorem dX8_removes_33 : decode cX8_removes 33 = .ok (.iaload, 1) := by decide +kernel
theorem dX8_removes_34 : decode cX8_removes 34 = .ok (.if_icmp .ge 33, 3) := by decide +kernel
theorem dX8_removes_37 : decode cX8_removes 37 = .ok (.aload_n 0, 1) := by decide +kernel
theorem dX8_removes_38 : decode cX8_removes 38 = .ok (.getfield 11, 3) := by decide +kernel
theorem dX8_removes_41 : decode cX8_removes 41 = .ok (.iload_n 3, 1) := by decide +kernel
theorem dX8_removes_42 : decode cX8_removes 42 = .ok (.iconst 4, 1) := by decide +kernel
theorem dX8_removes_43 : decode cX8_removes 43 = .ok (.iadd, 1) := by decide +kernel
theorem dX8_removes_44 : decode cX8_removes 44 = .ok (.iload 4, 2) := by decide +kernel
theorem dX8_removes_46 : decode cX8_removes 46 = .ok (.iadd, 1) := by decide +kernel
theorem dX8_removes_47 : decode cX8_removes 47 = .ok (.aload_n 0, 1) := by decide +kernel
theorem dX8_removes_48 : decode cX8_removes 48 = .ok (.getfield 11, 3) := by decide +kernel
theorem dX8_removes_51 : decode cX8_removes 51 = .ok (.iload_n 3, 1) := by decide +kernel
theorem dX8_removes_52 : decode cX8_removes 52 = .ok (.iconst 4, 1) := by decide +kernel
theorem dX8_removes_53 : decode cX8_removes 53 = .ok (.iadd, 1) := by decide +kernel
theorem dX8_removes_54 : decode cX8_removes 54 = .ok (.iload 4, 2) := by decide +kernel
theorem dX8_removes_56 : decode cX8_removes 56 = .ok (.iadd, 1) := by decide +kernel
theorem dX8_removes_57 : decode cX8_removes 57 = .ok (.iconst 1, 1) := by decide +kernel
theorem dX8_removes_58 : decode cX8_removes 58 = .ok (.iadd, 1) := by decide +kernel
theorem dX8_removes_59 : decode cX8_removes 59 = .ok (.iaload, 1) := by decide +kernel
theorem dX8_removes_60 : decode cX8_removes 60 = .ok (.iastore, 1) := by decide +kernel
theorem dX8_removes_61 : decode cX8_removes 61 = .ok (.iinc 4 1, 3) := by decide +kernel
theorem dX8_removes_64 : decode cX8_removes 64 = .ok (.goto (-40), 3) := by decide +kernel
theorem dX8_removes_67 : decode cX8_removes 67 = .ok (.return_, 1) := by decide +kernel
theorem dX8_apart_0 : decode cX8_apart 0 = .ok (.iload_n 1, 1) := by decide +kernel
theorem dX8_apart_1 : decode cX8_apart 1 = .ok (.iload_n 3, 1) := by decide +kernel
theorem dX8_apart_2 : decode cX8_apart 2 = .ok (.isub, 1) := by decide +kernel
theorem dX8_apart_3 : decode cX8_apart 3 = .ok (.invokestatic 69, 3) := by decide +kernel
theorem dX8_apart_6 : decode cX8_apart 6 = .ok (.istore 5, 2) := by decide +kernel
theorem dX8_apart_8 : decode cX8_apart 8 = .ok (.iload_n 2, 1) := by decide +kernel
theorem dX8_apart_9 : decode cX8_apart 9 = .ok (.iload 4, 2) := by decide +kernel
theorem dX8_apart_11 : decode cX8_apart 11 = .ok (.isub, 1) := by decide +kernel
theorem dX8_apart_12 : decode cX8_apart 12 = .ok (.invokestatic 69, 3) := by decide +kernel
theorem dX8_apart_15 : decode cX8_apart 15 = .ok (.istore 6, 2) := by decide +kernel
theorem dX8_apart_17 : decode cX8_apart 17 = .ok (.aload_n 0, 1) := by decide +kernel
theorem dX8_apart_18 : decode cX8_apart 18 = .ok (.getfield 11, 3) := by decide +kernel
theorem dX8_apart_21 : decode cX8_apart 21 = .ok (.iconst 2, 1) := by decide +kernel
theorem dX8_apart_22 : decode cX8_apart 22 = .ok (.iaload, 1) := by decide +kernel
theorem dX8_apart_23 : decode cX8_apart 23 = .ok (.iconst 1, 1) := by decide +kernel
theorem dX8_apart_24 : decode cX8_apart 24 = .ok (.if_icmp .ne 7, 3) := by decide +kernel
theorem dX8_apart_27 : decode cX8_apart 27 = .ok (.iconst 0, 1) := by decide +kernel
theorem dX8_apart_28 : decode cX8_apart 28 = .ok (.goto 8, 3) := by decide +kernel
theorem dX8_apart_31 : decode cX8_apart 31 = .ok (.iload 5, 2) := by decide +kernel
theorem dX8_apart_33 : decode cX8_apart 33 = .ok (.iload 6, 2) := by decide +kernel
theorem dX8_apart_35 : decode cX8_apart 35 = .ok (.iadd, 1) := by decide +kernel
theorem dX8_apart_36 : decode cX8_apart 36 = .ok (.aload_n 0, 1) := by decide +kernel
theorem dX8_apart_37 : decode cX8_apart 37 = .ok (.getfield 11, 3) := by decide +kernel
theorem dX8_apart_40 : decode cX8_apart 40 = .ok (.iconst 2, 1) := by decide +kernel
theorem dX8_apart_41 : decode cX8_apart 41 = .ok (.iaload, 1) := by decide +kernel
theorem dX8_apart_42 : decode cX8_apart 42 = .ok (.ifCond .ne 7, 3) := by decide +kernel
theorem dX8_apart_45 : decode cX8_apart 45 = .ok (.iconst 0, 1) := by decide +kernel
theorem dX8_apart_46 : decode cX8_apart 46 = .ok (.goto 10, 3) := by decide +kernel
theorem dX8_apart_49 : decode cX8_apart 49 = .ok (.iload 5, 2) := by decide +kernel
theorem dX8_apart_51 : decode cX8_apart 51 = .ok (.iload 6, 2) := by decide +kernel
theorem dX8_apart_53 : decode cX8_apart 53 = .ok (.invokestatic 75, 3) := by decide +kernel
theorem dX8_apart_56 : decode cX8_apart 56 = .ok (.iadd, 1) := by decide +kernel
theorem dX8_apart_57 : decode cX8_apart 57 = .ok (.ireturn, 1) := by decide +kernel
theorem dX8_fromDepot_0 : decode cX8_fromDepot 0 = .ok (.aload_n 0, 1) := by decide +kernel
theorem dX8_fromDepot_1 : decode cX8_fromDepot 1 = .ok (.aload_n 0, 1) := by decide +kernel
theorem dX8_fromDepot_2 : decode cX8_fromDepot 2 = .ok (.getfield 11, 3) := by decide +kernel
theorem dX8_fromDepot_5 : decode cX8_fromDepot 5 = .ok (.iconst 0, 1) := by decide +kernel
theorem dX8_fromDepot_6 : decode cX8_fromDepot 6 = .ok (.iaload, 1) := by decide +kernel
theorem dX8_fromDepot_7 : decode cX8_fromDepot 7 = .ok (.aload_n 0, 1) := by decide +kernel
theorem dX8_fromDepot_8 : decode cX8_fromDepot 8 = .ok (.getfield 11, 3) := by decide +kernel
theorem dX8_fromDepot_11 : decode cX8_fromDepot 11 = .ok (.iconst 1, 1) := by decide +kernel
theorem dX8_fromDepot_12 : decode cX8_fromDepot 12 = .ok (.iaload, 1) := by decide +kernel
theorem dX8_fromDepot_13 : decode cX8_fromDepot 13 = .ok (.aload_n 0, 1) := by decide +kernel
theorem dX8_fromDepot_14 : decode cX8_fromDepot 14 = .ok (.iload_n 1, 1) := by decide +kernel
theorem dX8_fromDepot_15 : decode cX8_fromDepot 15 = .ok (.iconst 0, 1) := by decide +kernel
theorem dX8_fromDepot_16 : decode cX8_fromDepot 16 = .ok (.invokevirtual 78, 3) := by decide +kernel
theorem dX8_fromDepot_19 : decode cX8_fromDepot 19 = .ok (.aload_n 0, 1) := by decide +kernel
theorem dX8_fromDepot_20 : decode cX8_fromDepot 20 = .ok (.iload_n 1, 1) := by decide +kernel
theorem dX8_fromDepot_21 : decode cX8_fromDepot 21 = .ok (.iconst 1, 1) := by decide +kernel
theorem dX8_fromDepot_22 : decode cX8_fromDepot 22 = .ok (.invokevirtual 78, 3) := by decide +kernel
theorem dX8_fromDepot_25 : decode cX8_fromDepot 25 = .ok (.invokevirtual 81, 3) := by decide +kernel
theorem dX8_fromDepot_28 : decode cX8_fromDepot 28 = .ok (.ireturn, 1) := by decide +kernel
theorem dX8_between_0 : decode cX8_between 0 = .ok (.aload_n 0, 1) := by decide +kernel
theorem dX8_between_1 : decode cX8_between 1 = .ok (.aload_n 0, 1) := by decide +kernel
theorem dX8_between_2 : decode cX8_between 2 = .ok (.iload_n 1, 1) := by decide +kernel
theorem dX8_between_3 : decode cX8_between 3 = .ok (.iconst 0, 1) := by decide +kernel
theorem dX8_between_4 : decode cX8_between 4 = .ok (.invokevirtual 78, 3) := by decide +kernel
theorem dX8_between_7 : decode cX8_between 7 = .ok (.aload_n 0, 1) := by decide +kernel
theorem dX8_between_8 : decode cX8_between 8 = .ok (.iload_n 1, 1) := by decide +kernel
theorem dX8_between_9 : decode cX8_between 9 = .ok (.iconst 1, 1) := by decide +kernel
theorem dX8_between_10 : decode cX8_between 10 = .ok (.invokevirtual 78, 3) := by decide +kernel
theorem dX8_between_13 : decode cX8_between 13 = .ok (.aload_n 0, 1) := by decide +kernel
theorem dX8_between_14 : decode cX8_between 14 = .ok (.iload_n 2, 1) := by decide +kernel
theorem dX8_between_15 : decode cX8_between 15 = .ok (.iconst 0, 1) := by decide +kernel
theorem dX8_between_16 : decode cX8_between 16 = .ok (.invokevirtual 78, 3) := by decide +kernel
theorem dX8_between_19 : decode cX8_between 19 = .ok (.aload_n 0, 1) := by decide +kernel
theorem dX8_between_20 : decode cX8_between 20 = .ok (.iload_n 2, 1) := by decide +kernel
theorem dX8_between_21 : decode cX8_between 21 = .ok (.iconst 1, 1) := by decide +kernel
theorem dX8_between_22 : decode cX8_between 22 = .ok (.invokevirtual 78, 3) := by decide +kernel
theorem dX8_between_25 : decode cX8_between 25 = .ok (.invokevirtual 81, 3) := by decide +kernel
theorem dX8_between_28 : decode cX8_between 28 = .ok (.ireturn, 1) := by decide +kernel
theorem dX8_milesOf_0 : decode cX8_milesOf 0 = .ok (.aload_n 0, 1) := by decide +kernel
theorem dX8_milesOf_1 : decode cX8_milesOf 1 = .ok (.iload_n 1, 1) := by decide +kernel
theorem dX8_milesOf_2 : decode cX8_milesOf 2 = .ok (.iconst 3, 1) := by decide +kernel
theorem dX8_milesOf_3 : decode cX8_milesOf 3 = .ok (.invokevirtual 59, 3) := by decide +kernel
theorem dX8_milesOf_6 : decode cX8_milesOf 6 = .ok (.istore_n 2, 1) := by decide +kernel
theorem dX8_milesOf_7 : decode cX8_milesOf 7 = .ok (.iload_n 2, 1) := by decide +kernel
theorem dX8_milesOf_8 : decode cX8_milesOf 8 = .ok (.ifCond .ne 5, 3) := by decide +kernel
theorem dX8_milesOf_11 : decode cX8_milesOf 11 = .ok (.iconst 0, 1) := by decide +kernel
theorem dX8_milesOf_12 : decode cX8_milesOf 12 = .ok (.ireturn, 1) := by decide +kernel
theorem dX8_milesOf_13 : decode cX8_milesOf 13 = .ok (.aload_n 0, 1) := by decide +kernel
theorem dX8_milesOf_14 : decode cX8_milesOf 14 = .ok (.aload_n 0, 1) := by decide +kernel
theorem dX8_milesOf_15 : decode cX8_milesOf 15 = .ok (.iload_n 1, 1) := by decide +kernel
theorem dX8_milesOf_16 : decode cX8_milesOf 16 = .ok (.iconst 0, 1) := by decide +kernel
theorem dX8_milesOf_17 : decode cX8_milesOf 17 = .ok (.invokevirtual 63, 3) := by decide +kernel
theorem dX8_milesOf_20 : decode cX8_milesOf 20 = .ok (.invokevirtual 85, 3) := by decide +kernel
theorem dX8_milesOf_23 : decode cX8_milesOf 23 = .ok (.aload_n 0, 1) := by decide +kernel
theorem dX8_milesOf_24 : decode cX8_milesOf 24 = .ok (.aload_n 0, 1) := by decide +kernel
theorem dX8_milesOf_25 : decode cX8_milesOf 25 = .ok (.iload_n 1, 1) := by decide +kernel
theorem dX8_milesOf_26 : decode cX8_milesOf 26 = .ok (.iload_n 2, 1) := by decide +kernel
theorem dX8_milesOf_27 : decode cX8_milesOf 27 = .ok (.iconst 1, 1) := by decide +kernel
theorem dX8_milesOf_28 : decode cX8_milesOf 28 = .ok (.isub, 1) := by decide +kernel
theorem dX8_milesOf_29 : decode cX8_milesOf 29 = .ok (.invokevirtual 63, 3) := by decide +kernel
theorem dX8_milesOf_32 : decode cX8_milesOf 32 = .ok (.invokevirtual 85, 3) := by decide +kernel
theorem dX8_milesOf_35 : decode cX8_milesOf 35 = .ok (.iadd, 1) := by decide +kernel
theorem dX8_milesOf_36 : decode cX8_milesOf 36 = .ok (.istore_n 3, 1) := by decide +kernel
theorem dX8_milesOf_37 : decode cX8_milesOf 37 = .ok (.iconst 1, 1) := by decide +kernel
theorem dX8_milesOf_38 : decode cX8_milesOf 38 = .ok (.istore 4, 2) := by decide +kernel
theorem dX8_milesOf_40 : decode cX8_milesOf 40 = .ok (.iload 4, 2) := by decide +kernel
theorem dX8_milesOf_42 : decode cX8_milesOf 42 = .ok (.iload_n 2, 1) := by decide +kernel
theorem dX8_milesOf_43 : decode cX8_milesOf 43 = .ok (.if_icmp .ge 32, 3) := by decide +kernel
theorem dX8_milesOf_46 : decode cX8_milesOf 46 = .ok (.iload_n 3, 1) := by decide +kernel
theorem dX8_milesOf_47 : decode cX8_milesOf 47 = .ok (.aload_n 0, 1) := by decide +kernel
theorem dX8_milesOf_48 : decode cX8_milesOf 48 = .ok (.aload_n 0, 1) := by decide +kernel
theorem dX8_milesOf_49 : decode cX8_milesOf 49 = .ok (.iload_n 1, 1) := by decide +kernel
theorem dX8_milesOf_50 : decode cX8_milesOf 50 = .ok (.iload 4, 2) := by decide +kernel
theorem dX8_milesOf_52 : decode cX8_milesOf 52 = .ok (.iconst 1, 1) := by decide +kernel
theorem dX8_milesOf_53 : decode cX8_milesOf 53 = .ok (.isub, 1) := by decide +kernel
theorem dX8_milesOf_54 : decode cX8_milesOf 54 = .ok (.invokevirtual 63, 3) := by decide +kernel
theorem dX8_milesOf_57 : decode cX8_milesOf 57 = .ok (.aload_n 0, 1) := by decide +kernel
theorem dX8_milesOf_58 : decode cX8_milesOf 58 = .ok (.iload_n 1, 1) := by decide +kernel
theorem dX8_milesOf_59 : decode cX8_milesOf 59 = .ok (.iload 4, 2) := by decide +kernel
theorem dX8_milesOf_61 : decode cX8_milesOf 61 = .ok (.invokevirtual 63, 3) := by decide +kernel
theorem dX8_milesOf_64 : decode cX8_milesOf 64 = .ok (.invokevirtual 88, 3) := by decide +kernel
theorem dX8_milesOf_67 : decode cX8_milesOf 67 = .ok (.iadd, 1) := by decide +kernel
theorem dX8_milesOf_68 : decode cX8_milesOf 68 = .ok (.istore_n 3, 1) := by decide +kernel
theorem dX8_milesOf_69 : decode cX8_milesOf 69 = .ok (.iinc 4 1, 3) := by decide +kernel
theorem dX8_milesOf_72 : decode cX8_milesOf 72 = .ok (.goto (-32), 3) := by decide +kernel
theorem dX8_milesOf_75 : decode cX8_milesOf 75 = .ok (.iload_n 3, 1) := by decide +kernel
theorem dX8_milesOf_76 : decode cX8_milesOf 76 = .ok (.ireturn, 1) := by decide +kernel
theorem dX8_lateBy_0 : decode cX8_lateBy 0 = .ok (.aload_n 0, 1) := by decide +kernel
theorem dX8_lateBy_1 : decode cX8_lateBy 1 = .ok (.iload_n 1, 1) := by decide +kernel
theorem dX8_lateBy_2 : decode cX8_lateBy 2 = .ok (.iconst 3, 1) := by decide +kernel
theorem dX8_lateBy_3 : decode cX8_lateBy 3 = .ok (.invokevirtual 59, 3) := by decide +kernel
theorem dX8_lateBy_6 : decode cX8_lateBy 6 = .ok (.istore_n 3, 1) := by decide +kernel
theorem dX8_lateBy_7 : decode cX8_lateBy 7 = .ok (.aload_n 0, 1) := by decide +kernel
theorem dX8_lateBy_8 : decode cX8_lateBy 8 = .ok (.iload_n 1, 1) := by decide +kernel
theorem dX8_lateBy_9 : decode cX8_lateBy 9 = .ok (.iconst 1, 1) := by decide +kernel
theorem dX8_lateBy_10 : decode cX8_lateBy 10 = .ok (.invokevirtual 59, 3) := by decide +kernel
theorem dX8_lateBy_13 : decode cX8_lateBy 13 = .ok (.iload_n 2, 1) := by decide +kernel
theorem dX8_lateBy_14 : decode cX8_lateBy 14 = .ok (.iadd, 1) := by decide +kernel
theorem dX8_lateBy_15 : decode cX8_lateBy 15 = .ok (.istore 4, 2) := by decide +kernel
theorem dX8_lateBy_17 : decode cX8_lateBy 17 = .ok (.bipush (-5), 2) := by decide +kernel
theorem dX8_lateBy_19 : decode cX8_lateBy 19 = .ok (.istore 5, 2) := by decide +kernel
theorem dX8_lateBy_21 : decode cX8_lateBy 21 = .ok (.aload_n 0, 1) := by decide +kernel
theorem dX8_lateBy_22 : decode cX8_lateBy 22 = .ok (.iconst 0, 1) := by decide +kernel
theorem dX8_lateBy_23 : decode cX8_lateBy 23 = .ok (.putfield 91, 3) := by decide +kernel
theorem dX8_lateBy_26 : decode cX8_lateBy 26 = .ok (.aload_n 0, 1) := by decide +kernel
theorem dX8_lateBy_27 : decode cX8_lateBy 27 = .ok (.iconst 0, 1) := by decide +kernel
theorem dX8_lateBy_28 : decode cX8_lateBy 28 = .ok (.putfield 95, 3) := by decide +kernel
theorem dX8_lateBy_31 : decode cX8_lateBy 31 = .ok (.iconst 0, 1) := by decide +kernel
theorem dX8_lateBy_32 : decode cX8_lateBy 32 = .ok (.istore 6, 2) := by decide +kernel
theorem dX8_lateBy_34 : decode cX8_lateBy 34 = .ok (.iload 6, 2) := by decide +kernel
theorem dX8_lateBy_36 : decode cX8_lateBy 36 = .ok (.iload_n 3, 1) := by decide +kernel
theorem dX8_lateBy_37 : decode cX8_lateBy 37 = .ok (.if_icmp .ge 158, 3) := by decide +kernel
theorem dX8_lateBy_40 : decode cX8_lateBy 40 = .ok (.aload_n 0, 1) := by decide +kernel
theorem dX8_lateBy_41 : decode cX8_lateBy 41 = .ok (.iload_n 1, 1) := by decide +kernel
theorem dX8_lateBy_42 : decode cX8_lateBy 42 = .ok (.iload 6, 2) := by decide +kernel
theorem dX8_lateBy_44 : decode cX8_lateBy 44 = .ok (.invokevirtual 63, 3) := by decide +kernel
theorem dX8_lateBy_47 : decode cX8_lateBy 47 = .ok (.istore 7, 2) := by decide +kernel
theorem dX8_lateBy_49 : decode cX8_lateBy 49 = .ok (.iload 4, 2) := by decide +kernel
theorem dX8_lateBy_51 : decode cX8_lateBy 51 = .ok (.iload 6, 2) := by decide +kernel
theorem dX8_lateBy_53 : decode cX8_lateBy 53 = .ok (.ifCond .ne 12, 3) := by decide +kernel
theorem dX8_lateBy_56 : decode cX8_lateBy 56 = .ok (.aload_n 0, 1) := by decide +kernel
theorem dX8_lateBy_57 : decode cX8_lateBy 57 = .ok (.iload 7, 2) := by decide +kernel
theorem dX8_lateBy_59 : decode cX8_lateBy 59 = .ok (.invokevirtual 85, 3) := by decide +kernel
theorem dX8_lateBy_62 : decode cX8_lateBy 62 = .ok (.goto 18, 3) := by decide +kernel
theorem dX8_lateBy_65 : decode cX8_lateBy 65 = .ok (.aload_n 0, 1) := by decide +kernel
theorem dX8_lateBy_66 : decode cX8_lateBy 66 = .ok (.aload_n 0, 1) := by decide +kernel
theorem dX8_lateBy_67 : decode cX8_lateBy 67 = .ok (.iload_n 1, 1) := by decide +kernel
theorem dX8_lateBy_68 : decode cX8_lateBy 68 = .ok (.iload 6, 2) := by decide +kernel
theorem dX8_lateBy_70 : decode cX8_lateBy 70 = .ok (.iconst 1, 1) := by decide +kernel
theorem dX8_lateBy_71 : decode cX8_lateBy 71 = .ok (.isub, 1) := by decide +kernel
theorem dX8_lateBy_72 : decode cX8_lateBy 72 = .ok (.invokevirtual 63, 3) := by decide +kernel
theorem dX8_lateBy_75 : decode cX8_lateBy 75 = .ok (.iload 7, 2) := by decide +kernel
theorem dX8_lateBy_77 : decode cX8_lateBy 77 = .ok (.invokevirtual 88, 3) := by decide +kernel
theorem dX8_lateBy_80 : decode cX8_lateBy 80 = .ok (.iadd, 1) := by decide +kernel
theorem dX8_lateBy_81 : decode cX8_lateBy 81 = .ok (.istore 4, 2) := by decide +kernel
theorem dX8_lateBy_83 : decode cX8_lateBy 83 = .ok (.aload_n 0, 1) := by decide +kernel
theorem dX8_lateBy_84 : decode cX8_lateBy 84 = .ok (.getfield 30, 3) := by decide +kernel
theorem dX8_lateBy_87 : decode cX8_lateBy 87 = .ok (.iload 6, 2) := by decide +kernel
theorem dX8_lateBy_89 : decode cX8_lateBy 89 = .ok (.iload 4, 2) := by decide +kernel
theorem dX8_lateBy_91 : decode cX8_lateBy 91 = .ok (.iastore, 1) := by decide +kernel
theorem dX8_lateBy_92 : decode cX8_lateBy 92 = .ok (.aload_n 0, 1) := by decide +kernel
theorem dX8_lateBy_93 : decode cX8_lateBy 93 = .ok (.getfield 33, 3) := by decide +kernel
theorem dX8_lateBy_96 : decode cX8_lateBy 96 = .ok (.iload 6, 2) := by decide +kernel
theorem dX8_lateBy_98 : decode cX8_lateBy 98 = .ok (.iload 4, 2) := by decide +kernel
theorem dX8_lateBy_100 : decode cX8_lateBy 100 = .ok (.aload_n 0, 1) := by decide +kernel
theorem dX8_lateBy_101 : decode cX8_lateBy 101 = .ok (.iload 7, 2) := by decide +kernel
theorem dX8_lateBy_103 : decode cX8_lateBy 103 = .ok (.iconst 3, 1) := by decide +kernel
theorem dX8_lateBy_104 : decode cX8_lateBy 104 = .ok (.invokevirtual 78, 3) := by decide +kernel
theorem dX8_lateBy_107 : decode cX8_lateBy 107 = .ok (.invokestatic 75, 3) := by decide +kernel
theorem dX8_lateBy_110 : decode cX8_lateBy 110 = .ok (.iastore, 1) := by decide +kernel
theorem dX8_lateBy_111 : decode cX8_lateBy 111 = .ok (.aload_n 0, 1) := by decide +kernel
theorem dX8_lateBy_112 : decode cX8_lateBy 112 = .ok (.dup, 1) := by decide +kernel
theorem dX8_lateBy_113 : decode cX8_lateBy 113 = .ok (.getfield 91, 3) := by decide +kernel
theorem dX8_lateBy_116 : decode cX8_lateBy 116 = .ok (.aload_n 0, 1) := by decide +kernel
theorem dX8_lateBy_117 : decode cX8_lateBy 117 = .ok (.getfield 33, 3) := by decide +kernel
theorem dX8_lateBy_120 : decode cX8_lateBy 120 = .ok (.iload 6, 2) := by decide +kernel
theorem dX8_lateBy_122 : decode cX8_lateBy 122 = .ok (.iaload, 1) := by decide +kernel
theorem dX8_lateBy_123 : decode cX8_lateBy 123 = .ok (.iload 4, 2) := by decide +kernel
theorem dX8_lateBy_125 : decode cX8_lateBy 125 = .ok (.isub, 1) := by decide +kernel
theorem dX8_lateBy_126 : decode cX8_lateBy 126 = .ok (.iadd, 1) := by decide +kernel
theorem dX8_lateBy_127 : decode cX8_lateBy 127 = .ok (.putfield 91, 3) := by decide +kernel
theorem dX8_lateBy_130 : decode cX8_lateBy 130 = .ok (.aload_n 0, 1) := by decide +kernel
theorem dX8_lateBy_131 : decode cX8_lateBy 131 = .ok (.dup, 1) := by decide +kernel
theorem dX8_lateBy_132 : decode cX8_lateBy 132 = .ok (.getfield 95, 3) := by decide +kernel
theorem dX8_lateBy_135 : decode cX8_lateBy 135 = .ok (.aload_n 0, 1) := by decide +kernel
theorem dX8_lateBy_136 : decode cX8_lateBy 136 = .ok (.iload 7, 2) := by decide +kernel
theorem dX8_lateBy_138 : decode cX8_lateBy 138 = .ok (.iconst 2, 1) := by decide +kernel
theorem dX8_lateBy_139 : decode cX8_lateBy 139 = .ok (.invokevirtual 78, 3) := by decide +kernel
theorem dX8_lateBy_142 : decode cX8_lateBy 142 = .ok (.iadd, 1) := by decide +kernel
theorem dX8_lateBy_143 : decode cX8_lateBy 143 = .ok (.putfield 95, 3) := by decide +kernel
theorem dX8_lateBy_146 : decode cX8_lateBy 146 = .ok (.aload_n 0, 1) := by decide +kernel
theorem dX8_lateBy_147 : decode cX8_lateBy 147 = .ok (.getfield 33, 3) := by decide +kernel
theorem dX8_lateBy_150 : decode cX8_lateBy 150 = .ok (.iload 6, 2) := by decide +kernel
theorem dX8_lateBy_152 : decode cX8_lateBy 152 = .ok (.iaload, 1) := by decide +kernel
theorem dX8_lateBy_153 : decode cX8_lateBy 153 = .ok (.aload_n 0, 1) := by decide +kernel
theorem dX8_lateBy_154 : decode cX8_lateBy 154 = .ok (.iload 7, 2) := by decide +kernel
theorem dX8_lateBy_156 : decode cX8_lateBy 156 = .ok (.iconst 4, 1) := by decide +kernel
theorem dX8_lateBy_157 : decode cX8_lateBy 157 = .ok (.invokevirtual 78, 3) := by decide +kernel
theorem dX8_lateBy_160 : decode cX8_lateBy 160 = .ok (.if_icmp .le 12, 3) := by decide +kernel
theorem dX8_lateBy_163 : decode cX8_lateBy 163 = .ok (.iload 5, 2) := by decide +kernel
theorem dX8_lateBy_165 : decode cX8_lateBy 165 = .ok (.ifCond .ge 7, 3) := by decide +kernel
theorem dX8_lateBy_168 : decode cX8_lateBy 168 = .ok (.iload 6, 2) := by decide +kernel
theorem dX8_lateBy_170 : decode cX8_lateBy 170 = .ok (.istore 5, 2) := by decide +kernel
theorem dX8_lateBy_172 : decode cX8_lateBy 172 = .ok (.aload_n 0, 1) := by decide +kernel
theorem dX8_lateBy_173 : decode cX8_lateBy 173 = .ok (.getfield 33, 3) := by decide +kernel
theorem dX8_lateBy_176 : decode cX8_lateBy 176 = .ok (.iload 6, 2) := by decide +kernel
theorem dX8_lateBy_178 : decode cX8_lateBy 178 = .ok (.iaload, 1) := by decide +kernel
theorem dX8_lateBy_179 : decode cX8_lateBy 179 = .ok (.aload_n 0, 1) := by decide +kernel
theorem dX8_lateBy_180 : decode cX8_lateBy 180 = .ok (.iload 7, 2) := by decide +kernel
theorem dX8_lateBy_182 : decode cX8_lateBy 182 = .ok (.iconst 5, 1) := by decide +kernel
theorem dX8_lateBy_183 : decode cX8_lateBy 183 = .ok (.invokevirtual 78, 3) := by decide +kernel
theorem dX8_lateBy_186 : decode cX8_lateBy 186 = .ok (.iadd, 1) := by decide +kernel
theorem dX8_lateBy_187 : decode cX8_lateBy 187 = .ok (.istore 4, 2) := by decide +kernel
theorem dX8_lateBy_189 : decode cX8_lateBy 189 = .ok (.iinc 6 1, 3) := by decide +kernel
theorem dX8_lateBy_192 : decode cX8_lateBy 192 = .ok (.goto (-158), 3) := by decide +kernel
theorem dX8_lateBy_195 : decode cX8_lateBy 195 = .ok (.aload_n 0, 1) := by decide +kernel
theorem dX8_lateBy_196 : decode cX8_lateBy 196 = .ok (.iload_n 3, 1) := by decide +kernel
theorem dX8_lateBy_197 : decode cX8_lateBy 197 = .ok (.ifCond .ne 12, 3) := by decide +kernel
theorem dX8_lateBy_200 : decode cX8_lateBy 200 = .ok (.aload_n 0, 1) := by decide +kernel
theorem dX8_lateBy_201 : decode cX8_lateBy 201 = .ok (.iload_n 1, 1) := by decide +kernel
theorem dX8_lateBy_202 : decode cX8_lateBy 202 = .ok (.iconst 1, 1) := by decide +kernel
theorem dX8_lateBy_203 : decode cX8_lateBy 203 = .ok (.invokevirtual 59, 3) := by decide +kernel
theorem dX8_lateBy_206 : decode cX8_lateBy 206 = .ok (.goto 18, 3) := by decide +kernel
theorem dX8_lateBy_209 : decode cX8_lateBy 209 = .ok (.iload 4, 2) := by decide +kernel
theorem dX8_lateBy_211 : decode cX8_lateBy 211 = .ok (.aload_n 0, 1) := by decide +kernel
theorem dX8_lateBy_212 : decode cX8_lateBy 212 = .ok (.aload_n 0, 1) := by decide +kernel
theorem dX8_lateBy_213 : decode cX8_lateBy 213 = .ok (.iload_n 1, 1) := by decide +kernel
theorem dX8_lateBy_214 : decode cX8_lateBy 214 = .ok (.iload_n 3, 1) := by decide +kernel
theorem dX8_lateBy_215 : decode cX8_lateBy 215 = .ok (.iconst 1, 1) := by decide +kernel
theorem dX8_lateBy_216 : decode cX8_lateBy 216 = .ok (.isub, 1) := by decide +kernel
theorem dX8_lateBy_217 : decode cX8_lateBy 217 = .ok (.invokevirtual 63, 3) := by decide +kernel
theorem dX8_lateBy_220 : decode cX8_lateBy 220 = .ok (.invokevirtual 85, 3) := by decide +kernel
theorem dX8_lateBy_223 : decode cX8_lateBy 223 = .ok (.iadd, 1) := by decide +kernel
theorem dX8_lateBy_224 : decode cX8_lateBy 224 = .ok (.putfield 98, 3) := by decide +kernel
theorem dX8_lateBy_227 : decode cX8_lateBy 227 = .ok (.iload 5, 2) := by decide +kernel
theorem dX8_lateBy_229 : decode cX8_lateBy 229 = .ok (.ifCond .ge 20, 3) := by decide +kernel
theorem dX8_lateBy_232 : decode cX8_lateBy 232 = .ok (.iload_n 3, 1) := by decide +kernel
theorem dX8_lateBy_233 : decode cX8_lateBy 233 = .ok (.ifCond .eq 16, 3) := by decide +kernel
theorem dX8_lateBy_236 : decode cX8_lateBy 236 = .ok (.aload_n 0, 1) := by decide +kernel
theorem dX8_lateBy_237 : decode cX8_lateBy 237 = .ok (.getfield 98, 3) := by decide +kernel
theorem dX8_lateBy_240 : decode cX8_lateBy 240 = .ok (.aload_n 0, 1) := by decide +kernel
theorem dX8_lateBy_241 : decode cX8_lateBy 241 = .ok (.iload_n 1, 1) := by decide +kernel
theorem dX8_lateBy_242 : decode cX8_lateBy 242 = .ok (.iconst 2, 1) := by decide +kernel
theorem dX8_lateBy_243 : decode cX8_lateBy 243 = .ok (.invokevirtual 59, 3) := by decide +kernel
theorem dX8_lateBy_246 : decode cX8_lateBy 246 = .ok (.if_icmp .gt 8, 3) := by decide +kernel
theorem dX8_lateBy_249 : decode cX8_lateBy 249 = .ok (.iload 5, 2) := by decide +kernel
theorem dX8_lateBy_251 : decode cX8_lateBy 251 = .ok (.goto 4, 3) := by decide +kernel
theorem dX8_lateBy_254 : decode cX8_lateBy 254 = .ok (.iload_n 3, 1) := by decide +kernel
theorem dX8_lateBy_255 : decode cX8_lateBy 255 = .ok (.ireturn, 1) := by decide +kernel
theorem dX8_holds_0 : decode cX8_holds 0 = .ok (.aload_n 0, 1) := by decide +kernel
theorem dX8_holds_1 : decode cX8_holds 1 = .ok (.iload_n 1, 1) := by decide +kernel
theorem dX8_holds_2 : decode cX8_holds 2 = .ok (.iconst 3, 1) := by decide +kernel
theorem dX8_holds_3 : decode cX8_holds 3 = .ok (.invokevirtual 59, 3) := by decide +kernel
theorem dX8_holds_6 : decode cX8_holds 6 = .ok (.ifCond .eq 25, 3) := by decide +kernel
theorem dX8_holds_9 : decode cX8_holds 9 = .ok (.aload_n 0, 1) := by decide +kernel
theorem dX8_holds_10 : decode cX8_holds 10 = .ok (.iload_n 1, 1) := by decide +kernel
theorem dX8_holds_11 : decode cX8_holds 11 = .ok (.iconst 0, 1) := by decide +kernel
theorem dX8_holds_12 : decode cX8_holds 12 = .ok (.invokevirtual 101, 3) := by decide +kernel
theorem dX8_holds_15 : decode cX8_holds 15 = .ok (.ifCond .ge 20, 3) := by decide +kernel
theorem dX8_holds_18 : decode cX8_holds 18 = .ok (.aload_n 0, 1) := by decide +kernel
theorem dX8_holds_19 : decode cX8_holds 19 = .ok (.getfield 95, 3) := by decide +kernel
theorem dX8_holds_22 : decode cX8_holds 22 = .ok (.aload_n 0, 1) := by decide +kernel
theorem dX8_holds_23 : decode cX8_holds 23 = .ok (.iload_n 1, 1) := by decide +kernel
theorem dX8_holds_24 : decode cX8_holds 24 = .ok (.iconst 0, 1) := by decide +kernel
theorem dX8_holds_25 : decode cX8_holds 25 = .ok (.invokevirtual 59, 3) := by decide +kernel
theorem dX8_holds_28 : decode cX8_holds 28 = .ok (.if_icmp .gt 7, 3) := by decide +kernel
theorem dX8_holds_31 : decode cX8_holds 31 = .ok (.iconst 1, 1) := by decide +kernel
theorem dX8_holds_32 : decode cX8_holds 32 = .ok (.goto 4, 3) := by decide +kernel
theorem dX8_holds_35 : decode cX8_holds 35 = .ok (.iconst 0, 1) := by decide +kernel
theorem dX8_holds_36 : decode cX8_holds 36 = .ok (.ireturn, 1) := by decide +kernel
theorem dX8_allHold_0 : decode cX8_allHold 0 = .ok (.iconst 0, 1) := by decide +kernel
theorem dX8_allHold_1 : decode cX8_allHold 1 = .ok (.istore_n 1, 1) := by decide +kernel
theorem dX8_allHold_2 : decode cX8_allHold 2 = .ok (.iload_n 1, 1) := by decide +kernel
theorem dX8_allHold_3 : decode cX8_allHold 3 = .ok (.iconst 4, 1) := by decide +kernel
theorem dX8_allHold_4 : decode cX8_allHold 4 = .ok (.if_icmp .ge 19, 3) := by decide +kernel
theorem dX8_allHold_7 : decode cX8_allHold 7 = .ok (.aload_n 0, 1) := by decide +kernel
theorem dX8_allHold_8 : decode cX8_allHold 8 = .ok (.iload_n 1, 1) := by decide +kernel
theorem dX8_allHold_9 : decode cX8_allHold 9 = .ok (.invokevirtual 104, 3) := by decide +kernel
theorem dX8_allHold_12 : decode cX8_allHold 12 = .ok (.ifCond .ne 5, 3) := by decide +kernel
theorem dX8_allHold_15 : decode cX8_allHold 15 = .ok (.iconst 0, 1) := by decide +kernel
theorem dX8_allHold_16 : decode cX8_allHold 16 = .ok (.ireturn, 1) := by decide +kernel
theorem dX8_allHold_17 : decode cX8_allHold 17 = .ok (.iinc 1 1, 3) := by decide +kernel
theorem dX8_allHold_20 : decode cX8_allHold 20 = .ok (.goto (-18), 3) := by decide +kernel
theorem dX8_allHold_23 : decode cX8_allHold 23 = .ok (.iconst 1, 1) := by decide +kernel
theorem dX8_allHold_24 : decode cX8_allHold 24 = .ok (.ireturn, 1) := by decide +kernel
theorem dX8_latest_0 : decode cX8_latest 0 = .ok (.aload_n 0, 1) := by decide +kernel
theorem dX8_latest_1 : decode cX8_latest 1 = .ok (.iload_n 1, 1) := by decide +kernel
theorem dX8_latest_2 : decode cX8_latest 2 = .ok (.iconst 0, 1) := by decide +kernel
theorem dX8_latest_3 : decode cX8_latest 3 = .ok (.invokevirtual 101, 3) := by decide +kernel
theorem dX8_latest_6 : decode cX8_latest 6 = .ok (.pop, 1) := by decide +kernel
theorem dX8_latest_7 : decode cX8_latest 7 = .ok (.aload_n 0, 1) := by decide +kernel
theorem dX8_latest_8 : decode cX8_latest 8 = .ok (.iload_n 1, 1) := by decide +kernel
theorem dX8_latest_9 : decode cX8_latest 9 = .ok (.iconst 3, 1) := by decide +kernel
theorem dX8_latest_10 : decode cX8_latest 10 = .ok (.invokevirtual 59, 3) := by decide +kernel
theorem dX8_latest_13 : decode cX8_latest 13 = .ok (.istore_n 2, 1) := by decide +kernel
theorem dX8_latest_14 : decode cX8_latest 14 = .ok (.iload_n 2, 1) := by decide +kernel
theorem dX8_latest_15 : decode cX8_latest 15 = .ok (.iconst 1, 1) := by decide +kernel
theorem dX8_latest_16 : decode cX8_latest 16 = .ok (.isub, 1) := by decide +kernel
theorem dX8_latest_17 : decode cX8_latest 17 = .ok (.istore_n 3, 1) := by decide +kernel
theorem dX8_latest_18 : decode cX8_latest 18 = .ok (.iload_n 3, 1) := by decide +kernel
theorem dX8_latest_19 : decode cX8_latest 19 = .ok (.ifCond .lt 91, 3) := by decide +kernel
theorem dX8_latest_22 : decode cX8_latest 22 = .ok (.aload_n 0, 1) := by decide +kernel
theorem dX8_latest_23 : decode cX8_latest 23 = .ok (.iload_n 1, 1) := by decide +kernel
theorem dX8_latest_24 : decode cX8_latest 24 = .ok (.iload_n 3, 1) := by decide +kernel
theorem dX8_latest_25 : decode cX8_latest 25 = .ok (.invokevirtual 63, 3) := by decide +kernel
theorem dX8_latest_28 : decode cX8_latest 28 = .ok (.istore 4, 2) := by decide +kernel
theorem dX8_latest_30 : decode cX8_latest 30 = .ok (.iload_n 3, 1) := by decide +kernel
theorem dX8_latest_31 : decode cX8_latest 31 = .ok (.iload_n 2, 1) := by decide +kernel
theorem dX8_latest_32 : decode cX8_latest 32 = .ok (.iconst 1, 1) := by decide +kernel
theorem dX8_latest_33 : decode cX8_latest 33 = .ok (.isub, 1) := by decide +kernel
theorem dX8_latest_34 : decode cX8_latest 34 = .ok (.if_icmp .ne 19, 3) := by decide +kernel
theorem dX8_latest_37 : decode cX8_latest 37 = .ok (.aload_n 0, 1) := by decide +kernel
theorem dX8_latest_38 : decode cX8_latest 38 = .ok (.iload_n 1, 1) := by decide +kernel
theorem dX8_latest_39 : decode cX8_latest 39 = .ok (.iconst 2, 1) := by decide +kernel
theorem dX8_latest_40 : decode cX8_latest 40 = .ok (.invokevirtual 59, 3) := by decide +kernel
theorem dX8_latest_43 : decode cX8_latest 43 = .ok (.aload_n 0, 1) := by decide +kernel
theorem dX8_latest_44 : decode cX8_latest 44 = .ok (.iload 4, 2) := by decide +kernel
theorem dX8_latest_46 : decode cX8_latest 46 = .ok (.invokevirtual 85, 3) := by decide +kernel
theorem dX8_latest_49 : decode cX8_latest 49 = .ok (.isub, 1) := by decide +kernel
theorem dX8_latest_50 : decode cX8_latest 50 = .ok (.goto 26, 3) := by decide +kernel
theorem dX8_latest_53 : decode cX8_latest 53 = .ok (.aload_n 0, 1) := by decide +kernel
theorem dX8_latest_54 : decode cX8_latest 54 = .ok (.getfield 36, 3) := by decide +kernel
theorem dX8_latest_57 : decode cX8_latest 57 = .ok (.iload_n 3, 1) := by decide +kernel
theorem dX8_latest_58 : decode cX8_latest 58 = .ok (.iconst 1, 1) := by decide +kernel
theorem dX8_latest_59 : decode cX8_latest 59 = .ok (.iadd, 1) := by decide +kernel
theorem dX8_latest_60 : decode cX8_latest 60 = .ok (.iaload, 1) := by decide +kernel
theorem dX8_latest_61 : decode cX8_latest 61 = .ok (.aload_n 0, 1) := by decide +kernel
theorem dX8_latest_62 : decode cX8_latest 62 = .ok (.iload 4, 2) := by decide +kernel
theorem dX8_latest_64 : decode cX8_latest 64 = .ok (.aload_n 0, 1) := by decide +kernel
theorem dX8_latest_65 : decode cX8_latest 65 = .ok (.iload_n 1, 1) := by decide +kernel
theorem dX8_latest_66 : decode cX8_latest 66 = .ok (.iload_n 3, 1) := by decide +kernel
theorem dX8_latest_67 : decode cX8_latest 67 = .ok (.iconst 1, 1) := by decide +kernel
theorem dX8_latest_68 : decode cX8_latest 68 = .ok (.iadd, 1) := by decide +kernel
theorem dX8_latest_69 : decode cX8_latest 69 = .ok (.invokevirtual 63, 3) := by decide +kernel
theorem dX8_latest_72 : decode cX8_latest 72 = .ok (.invokevirtual 88, 3) := by decide +kernel
theorem dX8_latest_75 : decode cX8_latest 75 = .ok (.isub, 1) := by decide +kernel
theorem dX8_latest_76 : decode cX8_latest 76 = .ok (.istore 5, 2) := by decide +kernel
theorem dX8_latest_78 : decode cX8_latest 78 = .ok (.aload_n 0, 1) := by decide +kernel
theorem dX8_latest_79 : decode cX8_latest 79 = .ok (.getfield 36, 3) := by decide +kernel
theorem dX8_latest_82 : decode cX8_latest 82 = .ok (.iload_n 3, 1) := by decide +kernel
theorem dX8_latest_83 : decode cX8_latest 83 = .ok (.aload_n 0, 1) := by decide +kernel
theorem dX8_latest_84 : decode cX8_latest 84 = .ok (.iload 4, 2) := by decide +kernel
theorem dX8_latest_86 : decode cX8_latest 86 = .ok (.iconst 4, 1) := by decide +kernel
theorem dX8_latest_87 : decode cX8_latest 87 = .ok (.invokevirtual 78, 3) := by decide +kernel
theorem dX8_latest_90 : decode cX8_latest 90 = .ok (.iload 5, 2) := by decide +kernel
theorem dX8_latest_92 : decode cX8_latest 92 = .ok (.aload_n 0, 1) := by decide +kernel
theorem dX8_latest_93 : decode cX8_latest 93 = .ok (.iload 4, 2) := by decide +kernel
theorem dX8_latest_95 : decode cX8_latest 95 = .ok (.iconst 5, 1) := by decide +kernel
theorem dX8_latest_96 : decode cX8_latest 96 = .ok (.invokevirtual 78, 3) := by decide +kernel
theorem dX8_latest_99 : decode cX8_latest 99 = .ok (.isub, 1) := by decide +kernel
theorem dX8_latest_100 : decode cX8_latest 100 = .ok (.invokestatic 108, 3) := by decide +kernel
theorem dX8_latest_103 : decode cX8_latest 103 = .ok (.iastore, 1) := by decide +kernel
theorem dX8_latest_104 : decode cX8_latest 104 = .ok (.iinc 3 (-1), 3) := by decide +kernel
theorem dX8_latest_107 : decode cX8_latest 107 = .ok (.goto (-89), 3) := by decide +kernel
theorem dX8_latest_110 : decode cX8_latest 110 = .ok (.return_, 1) := by decide +kernel
theorem dX8_cost_0 : decode cX8_cost 0 = .ok (.iconst 0, 1) := by decide +kernel
theorem dX8_cost_1 : decode cX8_cost 1 = .ok (.istore_n 1, 1) := by decide +kernel
theorem dX8_cost_2 : decode cX8_cost 2 = .ok (.iconst 0, 1) := by decide +kernel
theorem dX8_cost_3 : decode cX8_cost 3 = .ok (.istore_n 2, 1) := by decide +kernel
theorem dX8_cost_4 : decode cX8_cost 4 = .ok (.iload_n 2, 1) := by decide +kernel
theorem dX8_cost_5 : decode cX8_cost 5 = .ok (.iconst 4, 1) := by decide +kernel
theorem dX8_cost_6 : decode cX8_cost 6 = .ok (.if_icmp .ge 37, 3) := by decide +kernel
theorem dX8_cost_9 : decode cX8_cost 9 = .ok (.iload_n 1, 1) := by decide +kernel
theorem dX8_cost_10 : decode cX8_cost 10 = .ok (.aload_n 0, 1) := by decide +kernel
theorem dX8_cost_11 : decode cX8_cost 11 = .ok (.iload_n 2, 1) := by decide +kernel
theorem dX8_cost_12 : decode cX8_cost 12 = .ok (.invokevirtual 111, 3) := by decide +kernel
theorem dX8_cost_15 : decode cX8_cost 15 = .ok (.aload_n 0, 1) := by decide +kernel
theorem dX8_cost_16 : decode cX8_cost 16 = .ok (.iload_n 2, 1) := by decide +kernel
theorem dX8_cost_17 : decode cX8_cost 17 = .ok (.iconst 3, 1) := by decide +kernel
theorem dX8_cost_18 : decode cX8_cost 18 = .ok (.invokevirtual 59, 3) := by decide +kernel
theorem dX8_cost_21 : decode cX8_cost 21 = .ok (.ifCond .le 12, 3) := by decide +kernel
theorem dX8_cost_24 : decode cX8_cost 24 = .ok (.aload_n 0, 1) := by decide +kernel
theorem dX8_cost_25 : decode cX8_cost 25 = .ok (.getfield 11, 3) := by decide +kernel
theorem dX8_cost_28 : decode cX8_cost 28 = .ok (.iconst 3, 1) := by decide +kernel
theorem dX8_cost_29 : decode cX8_cost 29 = .ok (.iaload, 1) := by decide +kernel
theorem dX8_cost_30 : decode cX8_cost 30 = .ok (.goto 4, 3) := by decide +kernel
theorem dX8_cost_33 : decode cX8_cost 33 = .ok (.iconst 0, 1) := by decide +kernel
theorem dX8_cost_34 : decode cX8_cost 34 = .ok (.iadd, 1) := by decide +kernel
theorem dX8_cost_35 : decode cX8_cost 35 = .ok (.iadd, 1) := by decide +kernel
theorem dX8_cost_36 : decode cX8_cost 36 = .ok (.istore_n 1, 1) := by decide +kernel
theorem dX8_cost_37 : decode cX8_cost 37 = .ok (.iinc 2 1, 3) := by decide +kernel
theorem dX8_cost_40 : decode cX8_cost 40 = .ok (.goto (-36), 3) := by decide +kernel
theorem dX8_cost_43 : decode cX8_cost 43 = .ok (.iload_n 1, 1) := by decide +kernel
theorem dX8_cost_44 : decode cX8_cost 44 = .ok (.ireturn, 1) := by decide +kernel
theorem dX8_isTold_0 : decode cX8_isTold 0 = .ok (.iload_n 1, 1) := by decide +kernel
theorem dX8_isTold_1 : decode cX8_isTold 1 = .ok (.iconst 0, 1) := by decide +kernel
theorem dX8_isTold_2 : decode cX8_isTold 2 = .ok (.iload_n 0, 1) := by decide +kernel
theorem dX8_isTold_3 : decode cX8_isTold 3 = .ok (.iconst 2, 1) := by decide +kernel
theorem dX8_isTold_4 : decode cX8_isTold 4 = .ok (.if_icmp .ge 8, 3) := by decide +kernel
theorem dX8_isTold_7 : decode cX8_isTold 7 = .ok (.bipush 63, 2) := by decide +kernel
theorem dX8_isTold_9 : decode cX8_isTold 9 = .ok (.goto 26, 3) := by decide +kernel
theorem dX8_isTold_12 : decode cX8_isTold 12 = .ok (.iload_n 0, 1) := by decide +kernel
theorem dX8_isTold_13 : decode cX8_isTold 13 = .ok (.iconst 2, 1) := by decide +kernel
theorem dX8_isTold_14 : decode cX8_isTold 14 = .ok (.if_icmp .ne 8, 3) := by decide +kernel
theorem dX8_isTold_17 : decode cX8_isTold 17 = .ok (.bipush 20, 2) := by decide +kernel
theorem dX8_isTold_19 : decode cX8_isTold 19 = .ok (.goto 16, 3) := by decide +kernel
theorem dX8_isTold_22 : decode cX8_isTold 22 = .ok (.iload_n 0, 1) := by decide +kernel
theorem dX8_isTold_23 : decode cX8_isTold 23 = .ok (.iconst 5, 1) := by decide +kernel
theorem dX8_isTold_24 : decode cX8_isTold 24 = .ok (.if_icmp .ne 8, 3) := by decide +kernel
theorem dX8_isTold_27 : decode cX8_isTold 27 = .ok (.bipush 30, 2) := by decide +kernel
theorem dX8_isTold_29 : decode cX8_isTold 29 = .ok (.goto 6, 3) := by decide +kernel
theorem dX8_isTold_32 : decode cX8_isTold 32 = .ok (.sipush 999, 3) := by decide +kernel
theorem dX8_isTold_35 : decode cX8_isTold 35 = .ok (.invokestatic 55, 3) := by decide +kernel
theorem dX8_isTold_38 : decode cX8_isTold 38 = .ok (.ireturn, 1) := by decide +kernel
theorem dX8_comes_0 : decode cX8_comes 0 = .ok (.bipush 50, 2) := by decide +kernel
theorem dX8_comes_2 : decode cX8_comes 2 = .ok (.bipush 8, 2) := by decide +kernel
theorem dX8_comes_4 : decode cX8_comes 4 = .ok (.aload_n 0, 1) := by decide +kernel
theorem dX8_comes_5 : decode cX8_comes 5 = .ok (.getfield 11, 3) := by decide +kernel
theorem dX8_comes_8 : decode cX8_comes 8 = .ok (.iconst 4, 1) := by decide +kernel
theorem dX8_comes_9 : decode cX8_comes 9 = .ok (.iaload, 1) := by decide +kernel
theorem dX8_comes_10 : decode cX8_comes 10 = .ok (.imul, 1) := by decide +kernel
theorem dX8_comes_11 : decode cX8_comes 11 = .ok (.iadd, 1) := by decide +kernel
theorem dX8_comes_12 : decode cX8_comes 12 = .ok (.istore 7, 2) := by decide +kernel
theorem dX8_comes_14 : decode cX8_comes 14 = .ok (.aload_n 0, 1) := by decide +kernel
theorem dX8_comes_15 : decode cX8_comes 15 = .ok (.getfield 11, 3) := by decide +kernel
theorem dX8_comes_18 : decode cX8_comes 18 = .ok (.iload 7, 2) := by decide +kernel
theorem dX8_comes_20 : decode cX8_comes 20 = .ok (.iload_n 1, 1) := by decide +kernel
theorem dX8_comes_21 : decode cX8_comes 21 = .ok (.iastore, 1) := by decide +kernel
theorem dX8_comes_22 : decode cX8_comes 22 = .ok (.aload_n 0, 1) := by decide +kernel
theorem dX8_comes_23 : decode cX8_comes 23 = .ok (.getfield 11, 3) := by decide +kernel
theorem dX8_comes_26 : decode cX8_comes 26 = .ok (.iload 7, 2) := by decide +kernel
theorem dX8_comes_28 : decode cX8_comes 28 = .ok (.iconst 1, 1) := by decide +kernel
theorem dX8_comes_29 : decode cX8_comes 29 = .ok (.iadd, 1) := by decide +kernel
theorem dX8_comes_30 : decode cX8_comes 30 = .ok (.iload_n 2, 1) := by decide +kernel
theorem dX8_comes_31 : decode cX8_comes 31 = .ok (.iastore, 1) := by decide +kernel
theorem dX8_comes_32 : decode cX8_comes 32 = .ok (.aload_n 0, 1) := by decide +kernel
theorem dX8_comes_33 : decode cX8_comes 33 = .ok (.getfield 11, 3) := by decide +kernel
theorem dX8_comes_36 : decode cX8_comes 36 = .ok (.iload 7, 2) := by decide +kernel
theorem dX8_comes_38 : decode cX8_comes 38 = .ok (.iconst 2, 1) := by decide +kernel
theorem dX8_comes_39 : decode cX8_comes 39 = .ok (.iadd, 1) := by decide +kernel
theorem dX8_comes_40 : decode cX8_comes 40 = .ok (.iload_n 3, 1) := by decide +kernel
theorem dX8_comes_41 : decode cX8_comes 41 = .ok (.iastore, 1) := by decide +kernel
theorem dX8_comes_42 : decode cX8_comes 42 = .ok (.aload_n 0, 1) := by decide +kernel
theorem dX8_comes_43 : decode cX8_comes 43 = .ok (.getfield 11, 3) := by decide +kernel
theorem dX8_comes_46 : decode cX8_comes 46 = .ok (.iload 7, 2) := by decide +kernel
theorem dX8_comes_48 : decode cX8_comes 48 = .ok (.iconst 3, 1) := by decide +kernel
theorem dX8_comes_49 : decode cX8_comes 49 = .ok (.iadd, 1) := by decide +kernel
theorem dX8_comes_50 : decode cX8_comes 50 = .ok (.iload 4, 2) := by decide +kernel
theorem dX8_comes_52 : decode cX8_comes 52 = .ok (.iastore, 1) := by decide +kernel
theorem dX8_comes_53 : decode cX8_comes 53 = .ok (.aload_n 0, 1) := by decide +kernel
theorem dX8_comes_54 : decode cX8_comes 54 = .ok (.getfield 11, 3) := by decide +kernel
theorem dX8_comes_57 : decode cX8_comes 57 = .ok (.iload 7, 2) := by decide +kernel
theorem dX8_comes_59 : decode cX8_comes 59 = .ok (.iconst 4, 1) := by decide +kernel
theorem dX8_comes_60 : decode cX8_comes 60 = .ok (.iadd, 1) := by decide +kernel
theorem dX8_comes_61 : decode cX8_comes 61 = .ok (.iload 5, 2) := by decide +kernel
theorem dX8_comes_63 : decode cX8_comes 63 = .ok (.iastore, 1) := by decide +kernel
theorem dX8_comes_64 : decode cX8_comes 64 = .ok (.aload_n 0, 1) := by decide +kernel
theorem dX8_comes_65 : decode cX8_comes 65 = .ok (.getfield 11, 3) := by decide +kernel
theorem dX8_comes_68 : decode cX8_comes 68 = .ok (.iload 7, 2) := by decide +kernel
theorem dX8_comes_70 : decode cX8_comes 70 = .ok (.iconst 5, 1) := by decide +kernel
theorem dX8_comes_71 : decode cX8_comes 71 = .ok (.iadd, 1) := by decide +kernel
theorem dX8_comes_72 : decode cX8_comes 72 = .ok (.iload 6, 2) := by decide +kernel
theorem dX8_comes_74 : decode cX8_comes 74 = .ok (.iastore, 1) := by decide +kernel
theorem dX8_comes_75 : decode cX8_comes 75 = .ok (.aload_n 0, 1) := by decide +kernel
theorem dX8_comes_76 : decode cX8_comes 76 = .ok (.getfield 11, 3) := by decide +kernel
theorem dX8_comes_79 : decode cX8_comes 79 = .ok (.iload 7, 2) := by decide +kernel
theorem dX8_comes_81 : decode cX8_comes 81 = .ok (.bipush 6, 2) := by decide +kernel
theorem dX8_comes_83 : decode cX8_comes 83 = .ok (.iadd, 1) := by decide +kernel
theorem dX8_comes_84 : decode cX8_comes 84 = .ok (.iconst 0, 1) := by decide +kernel
theorem dX8_comes_85 : decode cX8_comes 85 = .ok (.iastore, 1) := by decide +kernel
theorem dX8_comes_86 : decode cX8_comes 86 = .ok (.aload_n 0, 1) := by decide +kernel
theorem dX8_comes_87 : decode cX8_comes 87 = .ok (.getfield 11, 3) := by decide +kernel
theorem dX8_comes_90 : decode cX8_comes 90 = .ok (.iconst 4, 1) := by decide +kernel
theorem dX8_comes_91 : decode cX8_comes 91 = .ok (.dup2, 1) := by decide +kernel
theorem dX8_comes_92 : decode cX8_comes 92 = .ok (.iaload, 1) := by decide +kernel
theorem dX8_comes_93 : decode cX8_comes 93 = .ok (.iconst 1, 1) := by decide +kernel
theorem dX8_comes_94 : decode cX8_comes 94 = .ok (.iadd, 1) := by decide +kernel
theorem dX8_comes_95 : decode cX8_comes 95 = .ok (.iastore, 1) := by decide +kernel
theorem dX8_comes_96 : decode cX8_comes 96 = .ok (.return_, 1) := by decide +kernel
theorem dX8_stop_0 : decode cX8_stop 0 = .ok (.iconst 0, 1) := by decide +kernel
theorem dX8_stop_1 : decode cX8_stop 1 = .ok (.iload_n 1, 1) := by decide +kernel
theorem dX8_stop_2 : decode cX8_stop 2 = .ok (.invokestatic 114, 3) := by decide +kernel
theorem dX8_stop_5 : decode cX8_stop 5 = .ok (.ifCond .eq 53, 3) := by decide +kernel
theorem dX8_stop_8 : decode cX8_stop 8 = .ok (.iconst 1, 1) := by decide +kernel
theorem dX8_stop_9 : decode cX8_stop 9 = .ok (.iload_n 2, 1) := by decide +kernel
theorem dX8_stop_10 : decode cX8_stop 10 = .ok (.invokestatic 114, 3) := by decide +kernel
theorem dX8_stop_13 : decode cX8_stop 13 = .ok (.ifCond .eq 45, 3) := by decide +kernel
theorem dX8_stop_16 : decode cX8_stop 16 = .ok (.iconst 2, 1) := by decide +kernel
theorem dX8_stop_17 : decode cX8_stop 17 = .ok (.iload_n 3, 1) := by decide +kernel
theorem dX8_stop_18 : decode cX8_stop 18 = .ok (.invokestatic 114, 3) := by decide +kernel
theorem dX8_stop_21 : decode cX8_stop 21 = .ok (.ifCond .eq 37, 3) := by decide +kernel
theorem dX8_stop_24 : decode cX8_stop 24 = .ok (.iconst 3, 1) := by decide +kernel
theorem dX8_stop_25 : decode cX8_stop 25 = .ok (.iload 4, 2) := by decide +kernel
theorem dX8_stop_27 : decode cX8_stop 27 = .ok (.invokestatic 114, 3) := by decide +kernel
theorem dX8_stop_30 : decode cX8_stop 30 = .ok (.ifCond .eq 28, 3) := by decide +kernel
theorem dX8_stop_33 : decode cX8_stop 33 = .ok (.iconst 4, 1) := by decide +kernel
theorem dX8_stop_34 : decode cX8_stop 34 = .ok (.iload 5, 2) := by decide +kernel
theorem dX8_stop_36 : decode cX8_stop 36 = .ok (.invokestatic 114, 3) := by decide +kernel
theorem dX8_stop_39 : decode cX8_stop 39 = .ok (.ifCond .eq 19, 3) := by decide +kernel
theorem dX8_stop_42 : decode cX8_stop 42 = .ok (.iload 4, 2) := by decide +kernel
theorem dX8_stop_44 : decode cX8_stop 44 = .ok (.iload 5, 2) := by decide +kernel
theorem dX8_stop_46 : decode cX8_stop 46 = .ok (.if_icmp .gt 12, 3) := by decide +kernel
theorem dX8_stop_49 : decode cX8_stop 49 = .ok (.iconst 5, 1) := by decide +kernel
theorem dX8_stop_50 : decode cX8_stop 50 = .ok (.iload 6, 2) := by decide +kernel
theorem dX8_stop_52 : decode cX8_stop 52 = .ok (.invokestatic 114, 3) := by decide +kernel
theorem dX8_stop_55 : decode cX8_stop 55 = .ok (.ifCond .ne 6, 3) := by decide +kernel
theorem dX8_stop_58 : decode cX8_stop 58 = .ok (.bipush (-2), 2) := by decide +kernel
theorem dX8_stop_60 : decode cX8_stop 60 = .ok (.ireturn, 1) := by decide +kernel
theorem dX8_stop_61 : decode cX8_stop 61 = .ok (.aload_n 0, 1) := by decide +kernel
theorem dX8_stop_62 : decode cX8_stop 62 = .ok (.getfield 11, 3) := by decide +kernel
theorem dX8_stop_65 : decode cX8_stop 65 = .ok (.iconst 4, 1) := by decide +kernel
theorem dX8_stop_66 : decode cX8_stop 66 = .ok (.iaload, 1) := by decide +kernel
theorem dX8_stop_67 : decode cX8_stop 67 = .ok (.bipush 16, 2) := by decide +kernel
theorem dX8_stop_69 : decode cX8_stop 69 = .ok (.if_icmp .ne 6, 3) := by decide +kernel
theorem dX8_stop_72 : decode cX8_stop 72 = .ok (.bipush (-4), 2) := by decide +kernel
theorem dX8_stop_74 : decode cX8_stop 74 = .ok (.ireturn, 1) := by decide +kernel
theorem dX8_stop_75 : decode cX8_stop 75 = .ok (.aload_n 0, 1) := by decide +kernel
theorem dX8_stop_76 : decode cX8_stop 76 = .ok (.iload_n 1, 1) := by decide +kernel
theorem dX8_stop_77 : decode cX8_stop 77 = .ok (.iload_n 2, 1) := by decide +kernel
theorem dX8_stop_78 : decode cX8_stop 78 = .ok (.iload_n 3, 1) := by decide +kernel
theorem dX8_stop_79 : decode cX8_stop 79 = .ok (.iload 4, 2) := by decide +kernel
theorem dX8_stop_81 : decode cX8_stop 81 = .ok (.iload 5, 2) := by decide +kernel
theorem dX8_stop_83 : decode cX8_stop 83 = .ok (.iload 6, 2) := by decide +kernel
theorem dX8_stop_85 : decode cX8_stop 85 = .ok (.invokevirtual 118, 3) := by decide +kernel
theorem dX8_stop_88 : decode cX8_stop 88 = .ok (.aload_n 0, 1) := by decide +kernel
theorem dX8_stop_89 : decode cX8_stop 89 = .ok (.getfield 11, 3) := by decide +kernel
theorem dX8_stop_92 : decode cX8_stop 92 = .ok (.iconst 4, 1) := by decide +kernel
theorem dX8_stop_93 : decode cX8_stop 93 = .ok (.iaload, 1) := by decide +kernel
theorem dX8_stop_94 : decode cX8_stop 94 = .ok (.iconst 1, 1) := by decide +kernel
theorem dX8_stop_95 : decode cX8_stop 95 = .ok (.isub, 1) := by decide +kernel
theorem dX8_stop_96 : decode cX8_stop 96 = .ok (.ireturn, 1) := by decide +kernel
theorem dX8_feed_0 : decode cX8_feed 0 = .ok (.iload_n 1, 1) := by decide +kernel
theorem dX8_feed_1 : decode cX8_feed 1 = .ok (.iconst 0, 1) := by decide +kernel
theorem dX8_feed_2 : decode cX8_feed 2 = .ok (.bipush 127, 2) := by decide +kernel
theorem dX8_feed_4 : decode cX8_feed 4 = .ok (.invokestatic 55, 3) := by decide +kernel
theorem dX8_feed_7 : decode cX8_feed 7 = .ok (.ifCond .ne 6, 3) := by decide +kernel
theorem dX8_feed_10 : decode cX8_feed 10 = .ok (.bipush (-2), 2) := by decide +kernel
theorem dX8_feed_12 : decode cX8_feed 12 = .ok (.ireturn, 1) := by decide +kernel
theorem dX8_feed_13 : decode cX8_feed 13 = .ok (.aload_n 0, 1) := by decide +kernel
theorem dX8_feed_14 : decode cX8_feed 14 = .ok (.getfield 121, 3) := by decide +kernel
theorem dX8_feed_17 : decode cX8_feed 17 = .ok (.bipush 100, 2) := by decide +kernel
theorem dX8_feed_19 : decode cX8_feed 19 = .ok (.if_icmp .ne 6, 3) := by decide +kernel
theorem dX8_feed_22 : decode cX8_feed 22 = .ok (.bipush (-4), 2) := by decide +kernel
theorem dX8_feed_24 : decode cX8_feed 24 = .ok (.ireturn, 1) := by decide +kernel
theorem dX8_feed_25 : decode cX8_feed 25 = .ok (.aload_n 0, 1) := by decide +kernel
theorem dX8_feed_26 : decode cX8_feed 26 = .ok (.getfield 24, 3) := by decide +kernel
theorem dX8_feed_29 : decode cX8_feed 29 = .ok (.aload_n 0, 1) := by decide +kernel
theorem dX8_feed_30 : decode cX8_feed 30 = .ok (.getfield 121, 3) := by decide +kernel
theorem dX8_feed_33 : decode cX8_feed 33 = .ok (.iload_n 1, 1) := by decide +kernel
theorem dX8_feed_34 : decode cX8_feed 34 = .ok (.iastore, 1) := by decide +kernel
theorem dX8_feed_35 : decode cX8_feed 35 = .ok (.aload_n 0, 1) := by decide +kernel
theorem dX8_feed_36 : decode cX8_feed 36 = .ok (.dup, 1) := by decide +kernel
theorem dX8_feed_37 : decode cX8_feed 37 = .ok (.getfield 121, 3) := by decide +kernel
theorem dX8_feed_40 : decode cX8_feed 40 = .ok (.iconst 1, 1) := by decide +kernel
theorem dX8_feed_41 : decode cX8_feed 41 = .ok (.iadd, 1) := by decide +kernel
theorem dX8_feed_42 : decode cX8_feed 42 = .ok (.putfield 121, 3) := by decide +kernel
theorem dX8_feed_45 : decode cX8_feed 45 = .ok (.aload_n 0, 1) := by decide +kernel
theorem dX8_feed_46 : decode cX8_feed 46 = .ok (.getfield 121, 3) := by decide +kernel
theorem dX8_feed_49 : decode cX8_feed 49 = .ok (.ireturn, 1) := by decide +kernel
theorem dX8_fails_0 : decode cX8_fails 0 = .ok (.aload_n 0, 1) := by decide +kernel
theorem dX8_fails_1 : decode cX8_fails 1 = .ok (.getfield 124, 3) := by decide +kernel
theorem dX8_fails_4 : decode cX8_fails 4 = .ok (.ifCond .ge 8, 3) := by decide +kernel
theorem dX8_fails_7 : decode cX8_fails 7 = .ok (.aload_n 0, 1) := by decide +kernel
theorem dX8_fails_8 : decode cX8_fails 8 = .ok (.iload_n 1, 1) := by decide +kernel
theorem dX8_fails_9 : decode cX8_fails 9 = .ok (.putfield 124, 3) := by decide +kernel
theorem dX8_fails_12 : decode cX8_fails 12 = .ok (.return_, 1) := by decide +kernel
theorem dX8_takes_0 : decode cX8_takes 0 = .ok (.aload_n 0, 1) := by decide +kernel
theorem dX8_takes_1 : decode cX8_takes 1 = .ok (.getfield 124, 3) := by decide +kernel
theorem dX8_takes_4 : decode cX8_takes 4 = .ok (.ifCond .ge 31, 3) := by decide +kernel
theorem dX8_takes_7 : decode cX8_takes 7 = .ok (.aload_n 0, 1) := by decide +kernel
theorem dX8_takes_8 : decode cX8_takes 8 = .ok (.getfield 127, 3) := by decide +kernel
theorem dX8_takes_11 : decode cX8_takes 11 = .ok (.aload_n 0, 1) := by decide +kernel
theorem dX8_takes_12 : decode cX8_takes 12 = .ok (.getfield 121, 3) := by decide +kernel
theorem dX8_takes_15 : decode cX8_takes 15 = .ok (.if_icmp .ge 20, 3) := by decide +kernel
theorem dX8_takes_18 : decode cX8_takes 18 = .ok (.aload_n 0, 1) := by decide +kernel
theorem dX8_takes_19 : decode cX8_takes 19 = .ok (.getfield 24, 3) := by decide +kernel
theorem dX8_takes_22 : decode cX8_takes 22 = .ok (.aload_n 0, 1) := by decide +kernel
theorem dX8_takes_23 : decode cX8_takes 23 = .ok (.getfield 127, 3) := by decide +kernel
theorem dX8_takes_26 : decode cX8_takes 26 = .ok (.iaload, 1) := by decide +kernel
theorem dX8_takes_27 : decode cX8_takes 27 = .ok (.iload_n 1, 1) := by decide +kernel
theorem dX8_takes_28 : decode cX8_takes 28 = .ok (.if_icmp .ne 7, 3) := by decide +kernel
theorem dX8_takes_31 : decode cX8_takes 31 = .ok (.iconst 1, 1) := by decide +kernel
theorem dX8_takes_32 : decode cX8_takes 32 = .ok (.goto 4, 3) := by decide +kernel
theorem dX8_takes_35 : decode cX8_takes 35 = .ok (.iconst 0, 1) := by decide +kernel
theorem dX8_takes_36 : decode cX8_takes 36 = .ok (.istore_n 2, 1) := by decide +kernel
theorem dX8_takes_37 : decode cX8_takes 37 = .ok (.aload_n 0, 1) := by decide +kernel
theorem dX8_takes_38 : decode cX8_takes 38 = .ok (.dup, 1) := by decide +kernel
theorem dX8_takes_39 : decode cX8_takes 39 = .ok (.getfield 127, 3) := by decide +kernel
theorem dX8_takes_42 : decode cX8_takes 42 = .ok (.iload_n 2, 1) := by decide +kernel
theorem dX8_takes_43 : decode cX8_takes 43 = .ok (.ifCond .eq 7, 3) := by decide +kernel
theorem dX8_takes_46 : decode cX8_takes 46 = .ok (.iconst 1, 1) := by decide +kernel
theorem dX8_takes_47 : decode cX8_takes 47 = .ok (.goto 4, 3) := by decide +kernel
theorem dX8_takes_50 : decode cX8_takes 50 = .ok (.iconst 0, 1) := by decide +kernel
theorem dX8_takes_51 : decode cX8_takes 51 = .ok (.iadd, 1) := by decide +kernel
theorem dX8_takes_52 : decode cX8_takes 52 = .ok (.putfield 127, 3) := by decide +kernel
theorem dX8_takes_55 : decode cX8_takes 55 = .ok (.iload_n 2, 1) := by decide +kernel
theorem dX8_takes_56 : decode cX8_takes 56 = .ok (.ireturn, 1) := by decide +kernel
theorem dX8_needs_0 : decode cX8_needs 0 = .ok (.aload_n 0, 1) := by decide +kernel
theorem dX8_needs_1 : decode cX8_needs 1 = .ok (.iload_n 1, 1) := by decide +kernel
theorem dX8_needs_2 : decode cX8_needs 2 = .ok (.invokevirtual 130, 3) := by decide +kernel
theorem dX8_needs_5 : decode cX8_needs 5 = .ok (.ifCond .ne 11, 3) := by decide +kernel
theorem dX8_needs_8 : decode cX8_needs 8 = .ok (.aload_n 0, 1) := by decide +kernel
theorem dX8_needs_9 : decode cX8_needs 9 = .ok (.aload_n 0, 1) := by decide +kernel
theorem dX8_needs_10 : decode cX8_needs 10 = .ok (.getfield 127, 3) := by decide +kernel
theorem dX8_needs_13 : decode cX8_needs 13 = .ok (.invokevirtual 133, 3) := by decide +kernel
theorem dX8_needs_16 : decode cX8_needs 16 = .ok (.return_, 1) := by decide +kernel
theorem dX8_number_0 : decode cX8_number 0 = .ok (.aload_n 0, 1) := by decide +kernel
theorem dX8_number_1 : decode cX8_number 1 = .ok (.getfield 127, 3) := by decide +kernel
theorem dX8_number_4 : decode cX8_number 4 = .ok (.istore 4, 2) := by decide +kernel
theorem dX8_number_6 : decode cX8_number 6 = .ok (.iconst 0, 1) := by decide +kernel
theorem dX8_number_7 : decode cX8_number 7 = .ok (.istore 5, 2) := by decide +kernel
theorem dX8_number_9 : decode cX8_number 9 = .ok (.aload_n 0, 1) := by decide +kernel
theorem dX8_number_10 : decode cX8_number 10 = .ok (.getfield 124, 3) := by decide +kernel
theorem dX8_number_13 : decode cX8_number 13 = .ok (.ifCond .ge 77, 3) := by decide +kernel
theorem dX8_number_16 : decode cX8_number 16 = .ok (.aload_n 0, 1) := by decide +kernel
theorem dX8_number_17 : decode cX8_number 17 = .ok (.getfield 127, 3) := by decide +kernel
theorem dX8_number_20 : decode cX8_number 20 = .ok (.aload_n 0, 1) := by decide +kernel
theorem dX8_number_21 : decode cX8_number 21 = .ok (.getfield 121, 3) := by decide +kernel
theorem dX8_number_24 : decode cX8_number 24 = .ok (.if_icmp .ge 66, 3) := by decide +kernel
theorem dX8_number_27 : decode cX8_number 27 = .ok (.aload_n 0, 1) := by decide +kernel
theorem dX8_number_28 : decode cX8_number 28 = .ok (.getfield 127, 3) := by decide +kernel
theorem dX8_number_31 : decode cX8_number 31 = .ok (.iload 4, 2) := by decide +kernel
theorem dX8_number_33 : decode cX8_number 33 = .ok (.iload_n 1, 1) := by decide +kernel
theorem dX8_number_34 : decode cX8_number 34 = .ok (.iadd, 1) := by decide +kernel
theorem dX8_number_35 : decode cX8_number 35 = .ok (.if_icmp .ge 55, 3) := by decide +kernel
theorem dX8_number_38 : decode cX8_number 38 = .ok (.aload_n 0, 1) := by decide +kernel
theorem dX8_number_39 : decode cX8_number 39 = .ok (.getfield 24, 3) := by decide +kernel
theorem dX8_number_42 : decode cX8_number 42 = .ok (.aload_n 0, 1) := by decide +kernel
theorem dX8_number_43 : decode cX8_number 43 = .ok (.getfield 127, 3) := by decide +kernel
theorem dX8_number_46 : decode cX8_number 46 = .ok (.iaload, 1) := by decide +kernel
theorem dX8_number_47 : decode cX8_number 47 = .ok (.bipush 48, 2) := by decide +kernel
theorem dX8_number_49 : decode cX8_number 49 = .ok (.bipush 57, 2) := by decide +kernel
theorem dX8_number_51 : decode cX8_number 51 = .ok (.invokestatic 55, 3) := by decide +kernel
theorem dX8_number_54 : decode cX8_number 54 = .ok (.ifCond .eq 36, 3) := by decide +kernel
theorem dX8_number_57 : decode cX8_number 57 = .ok (.bipush 10, 2) := by decide +kernel
theorem dX8_number_59 : decode cX8_number 59 = .ok (.iload 5, 2) := by decide +kernel
theorem dX8_number_61 : decode cX8_number 61 = .ok (.imul, 1) := by decide +kernel
theorem dX8_number_62 : decode cX8_number 62 = .ok (.aload_n 0, 1) := by decide +kernel
theorem dX8_number_63 : decode cX8_number 63 = .ok (.getfield 24, 3) := by decide +kernel
theorem dX8_number_66 : decode cX8_number 66 = .ok (.aload_n 0, 1) := by decide +kernel
theorem dX8_number_67 : decode cX8_number 67 = .ok (.getfield 127, 3) := by decide +kernel
theorem dX8_number_70 : decode cX8_number 70 = .ok (.iaload, 1) := by decide +kernel
theorem dX8_number_71 : decode cX8_number 71 = .ok (.iadd, 1) := by decide +kernel
theorem dX8_number_72 : decode cX8_number 72 = .ok (.bipush 48, 2) := by decide +kernel
theorem dX8_number_74 : decode cX8_number 74 = .ok (.isub, 1) := by decide +kernel
theorem dX8_number_75 : decode cX8_number 75 = .ok (.istore 5, 2) := by decide +kernel
theorem dX8_number_77 : decode cX8_number 77 = .ok (.aload_n 0, 1) := by decide +kernel
theorem dX8_number_78 : decode cX8_number 78 = .ok (.dup, 1) := by decide +kernel
theorem dX8_number_79 : decode cX8_number 79 = .ok (.getfield 127, 3) := by decide +kernel
theorem dX8_number_82 : decode cX8_number 82 = .ok (.iconst 1, 1) := by decide +kernel
theorem dX8_number_83 : decode cX8_number 83 = .ok (.iadd, 1) := by decide +kernel
theorem dX8_number_84 : decode cX8_number 84 = .ok (.putfield 127, 3) := by decide +kernel
theorem dX8_number_87 : decode cX8_number 87 = .ok (.goto (-78), 3) := by decide +kernel
theorem dX8_number_90 : decode cX8_number 90 = .ok (.aload_n 0, 1) := by decide +kernel
theorem dX8_number_91 : decode cX8_number 91 = .ok (.getfield 127, 3) := by decide +kernel
theorem dX8_number_94 : decode cX8_number 94 = .ok (.iload 4, 2) := by decide +kernel
theorem dX8_number_96 : decode cX8_number 96 = .ok (.if_icmp .ne 11, 3) := by decide +kernel
theorem dX8_number_99 : decode cX8_number 99 = .ok (.aload_n 0, 1) := by decide +kernel
theorem dX8_number_100 : decode cX8_number 100 = .ok (.aload_n 0, 1) := by decide +kernel
theorem dX8_number_101 : decode cX8_number 101 = .ok (.getfield 127, 3) := by decide +kernel
theorem dX8_number_104 : decode cX8_number 104 = .ok (.invokevirtual 133, 3) := by decide +kernel
theorem dX8_number_107 : decode cX8_number 107 = .ok (.iload 5, 2) := by decide +kernel
theorem dX8_number_109 : decode cX8_number 109 = .ok (.iload_n 2, 1) := by decide +kernel
theorem dX8_number_110 : decode cX8_number 110 = .ok (.iload_n 3, 1) := by decide +kernel
theorem dX8_number_111 : decode cX8_number 111 = .ok (.invokestatic 55, 3) := by decide +kernel
theorem dX8_number_114 : decode cX8_number 114 = .ok (.ifCond .ne 13, 3) := by decide +kernel
theorem dX8_number_117 : decode cX8_number 117 = .ok (.aload_n 0, 1) := by decide +kernel
theorem dX8_number_118 : decode cX8_number 118 = .ok (.aload_n 0, 1) := by decide +kernel
theorem dX8_number_119 : decode cX8_number 119 = .ok (.getfield 127, 3) := by decide +kernel
theorem dX8_number_122 : decode cX8_number 122 = .ok (.iconst 1, 1) := by decide +kernel
theorem dX8_number_123 : decode cX8_number 123 = .ok (.isub, 1) := by decide +kernel
theorem dX8_number_124 : decode cX8_number 124 = .ok (.invokevirtual 133, 3) := by decide +kernel
theorem dX8_number_127 : decode cX8_number 127 = .ok (.iload 5, 2) := by decide +kernel
theorem dX8_number_129 : decode cX8_number 129 = .ok (.ireturn, 1) := by decide +kernel
theorem dX8_clause_0 : decode cX8_clause 0 = .ok (.aload_n 0, 1) := by decide +kernel
theorem dX8_clause_1 : decode cX8_clause 1 = .ok (.getfield 27, 3) := by decide +kernel
theorem dX8_clause_4 : decode cX8_clause 4 = .ok (.iload_n 1, 1) := by decide +kernel
theorem dX8_clause_5 : decode cX8_clause 5 = .ok (.aload_n 0, 1) := by decide +kernel
theorem dX8_clause_6 : decode cX8_clause 6 = .ok (.iconst 2, 1) := by decide +kernel
theorem dX8_clause_7 : decode cX8_clause 7 = .ok (.iconst 0, 1) := by decide +kernel
theorem dX8_clause_8 : decode cX8_clause 8 = .ok (.bipush 63, 2) := by decide +kernel
theorem dX8_clause_10 : decode cX8_clause 10 = .ok (.invokevirtual 137, 3) := by decide +kernel
theorem dX8_clause_13 : decode cX8_clause 13 = .ok (.iastore, 1) := by decide +kernel
theorem dX8_clause_14 : decode cX8_clause 14 = .ok (.aload_n 0, 1) := by decide +kernel
theorem dX8_clause_15 : decode cX8_clause 15 = .ok (.bipush 44, 2) := by decide +kernel
theorem dX8_clause_17 : decode cX8_clause 17 = .ok (.invokevirtual 141, 3) := by decide +kernel
theorem dX8_clause_20 : decode cX8_clause 20 = .ok (.aload_n 0, 1) := by decide +kernel
theorem dX8_clause_21 : decode cX8_clause 21 = .ok (.getfield 27, 3) := by decide +kernel
theorem dX8_clause_24 : decode cX8_clause 24 = .ok (.iload_n 1, 1) := by decide +kernel
theorem dX8_clause_25 : decode cX8_clause 25 = .ok (.iconst 1, 1) := by decide +kernel
theorem dX8_clause_26 : decode cX8_clause 26 = .ok (.iadd, 1) := by decide +kernel
theorem dX8_clause_27 : decode cX8_clause 27 = .ok (.aload_n 0, 1) := by decide +kernel
theorem dX8_clause_28 : decode cX8_clause 28 = .ok (.iconst 2, 1) := by decide +kernel
theorem dX8_clause_29 : decode cX8_clause 29 = .ok (.iconst 0, 1) := by decide +kernel
theorem dX8_clause_30 : decode cX8_clause 30 = .ok (.bipush 63, 2) := by decide +kernel
theorem dX8_clause_32 : decode cX8_clause 32 = .ok (.invokevirtual 137, 3) := by decide +kernel
theorem dX8_clause_35 : decode cX8_clause 35 = .ok (.iastore, 1) := by decide +kernel
theorem dX8_clause_36 : decode cX8_clause 36 = .ok (.aload_n 0, 1) := by decide +kernel
theorem dX8_clause_37 : decode cX8_clause 37 = .ok (.getfield 27, 3) := by decide +kernel
theorem dX8_clause_40 : decode cX8_clause 40 = .ok (.iload_n 1, 1) := by decide +kernel
theorem dX8_clause_41 : decode cX8_clause 41 = .ok (.iconst 2, 1) := by decide +kernel
theorem dX8_clause_42 : decode cX8_clause 42 = .ok (.iadd, 1) := by decide +kernel
theorem dX8_clause_43 : decode cX8_clause 43 = .ok (.aload_n 0, 1) := by decide +kernel
theorem dX8_clause_44 : decode cX8_clause 44 = .ok (.bipush 42, 2) := by decide +kernel
theorem dX8_clause_46 : decode cX8_clause 46 = .ok (.invokevirtual 130, 3) := by decide +kernel
theorem dX8_clause_49 : decode cX8_clause 49 = .ok (.ifCond .eq 14, 3) := by decide +kernel
theorem dX8_clause_52 : decode cX8_clause 52 = .ok (.aload_n 0, 1) := by decide +kernel
theorem dX8_clause_53 : decode cX8_clause 53 = .ok (.iconst 2, 1) := by decide +kernel
theorem dX8_clause_54 : decode cX8_clause 54 = .ok (.iconst 0, 1) := by decide +kernel
theorem dX8_clause_55 : decode cX8_clause 55 = .ok (.bipush 20, 2) := by decide +kernel
theorem dX8_clause_57 : decode cX8_clause 57 = .ok (.invokevirtual 137, 3) := by decide +kernel
theorem dX8_clause_60 : decode cX8_clause 60 = .ok (.goto 4, 3) := by decide +kernel
theorem dX8_clause_63 : decode cX8_clause 63 = .ok (.iconst 1, 1) := by decide +kernel
theorem dX8_clause_64 : decode cX8_clause 64 = .ok (.iastore, 1) := by decide +kernel
theorem dX8_clause_65 : decode cX8_clause 65 = .ok (.aload_n 0, 1) := by decide +kernel
theorem dX8_clause_66 : decode cX8_clause 66 = .ok (.bipush 64, 2) := by decide +kernel
theorem dX8_clause_68 : decode cX8_clause 68 = .ok (.invokevirtual 130, 3) := by decide +kernel
theorem dX8_clause_71 : decode cX8_clause 71 = .ok (.istore_n 2, 1) := by decide +kernel
theorem dX8_clause_72 : decode cX8_clause 72 = .ok (.aload_n 0, 1) := by decide +kernel
theorem dX8_clause_73 : decode cX8_clause 73 = .ok (.getfield 27, 3) := by decide +kernel
theorem dX8_clause_76 : decode cX8_clause 76 = .ok (.iload_n 1, 1) := by decide +kernel
theorem dX8_clause_77 : decode cX8_clause 77 = .ok (.iconst 3, 1) := by decide +kernel
theorem dX8_clause_78 : decode cX8_clause 78 = .ok (.iadd, 1) := by decide +kernel
theorem dX8_clause_79 : decode cX8_clause 79 = .ok (.iload_n 2, 1) := by decide +kernel
theorem dX8_clause_80 : decode cX8_clause 80 = .ok (.ifCond .eq 15, 3) := by decide +kernel
theorem dX8_clause_83 : decode cX8_clause 83 = .ok (.aload_n 0, 1) := by decide +kernel
theorem dX8_clause_84 : decode cX8_clause 84 = .ok (.iconst 3, 1) := by decide +kernel
theorem dX8_clause_85 : decode cX8_clause 85 = .ok (.iconst 0, 1) := by decide +kernel
theorem dX8_clause_86 : decode cX8_clause 86 = .ok (.sipush 999, 3) := by decide +kernel
theorem dX8_clause_89 : decode cX8_clause 89 = .ok (.invokevirtual 137, 3) := by decide +kernel
theorem dX8_clause_92 : decode cX8_clause 92 = .ok (.goto 4, 3) := by decide +kernel
theorem dX8_clause_95 : decode cX8_clause 95 = .ok (.iconst 0, 1) := by decide +kernel
theorem dX8_clause_96 : decode cX8_clause 96 = .ok (.iastore, 1) := by decide +kernel
theorem dX8_clause_97 : decode cX8_clause 97 = .ok (.iload_n 2, 1) := by decide +kernel
theorem dX8_clause_98 : decode cX8_clause 98 = .ok (.ifCond .eq 9, 3) := by decide +kernel
theorem dX8_clause_101 : decode cX8_clause 101 = .ok (.aload_n 0, 1) := by decide +kernel
theorem dX8_clause_102 : decode cX8_clause 102 = .ok (.bipush 45, 2) := by decide +kernel
theorem dX8_clause_104 : decode cX8_clause 104 = .ok (.invokevirtual 141, 3) := by decide +kernel
theorem dX8_clause_107 : decode cX8_clause 107 = .ok (.aload_n 0, 1) := by decide +kernel
theorem dX8_clause_108 : decode cX8_clause 108 = .ok (.getfield 27, 3) := by decide +kernel
theorem dX8_clause_111 : decode cX8_clause 111 = .ok (.iload_n 1, 1) := by decide +kernel
theorem dX8_clause_112 : decode cX8_clause 112 = .ok (.iconst 4, 1) := by decide +kernel
theorem dX8_clause_113 : decode cX8_clause 113 = .ok (.iadd, 1) := by decide +kernel
theorem dX8_clause_114 : decode cX8_clause 114 = .ok (.iload_n 2, 1) := by decide +kernel
theorem dX8_clause_115 : decode cX8_clause 115 = .ok (.ifCond .eq 22, 3) := by decide +kernel
theorem dX8_clause_118 : decode cX8_clause 118 = .ok (.aload_n 0, 1) := by decide +kernel
theorem dX8_clause_119 : decode cX8_clause 119 = .ok (.iconst 3, 1) := by decide +kernel
theorem dX8_clause_120 : decode cX8_clause 120 = .ok (.aload_n 0, 1) := by decide +kernel
theorem dX8_clause_121 : decode cX8_clause 121 = .ok (.getfield 27, 3) := by decide +kernel
theorem dX8_clause_124 : decode cX8_clause 124 = .ok (.iload_n 1, 1) := by decide +kernel
theorem dX8_clause_125 : decode cX8_clause 125 = .ok (.iconst 3, 1) := by decide +kernel
theorem dX8_clause_126 : decode cX8_clause 126 = .ok (.iadd, 1) := by decide +kernel
theorem dX8_clause_127 : decode cX8_clause 127 = .ok (.iaload, 1) := by decide +kernel
theorem dX8_clause_128 : decode cX8_clause 128 = .ok (.sipush 999, 3) := by decide +kernel
theorem dX8_clause_131 : decode cX8_clause 131 = .ok (.invokevirtual 137, 3) := by decide +kernel
theorem dX8_clause_134 : decode cX8_clause 134 = .ok (.goto 6, 3) := by decide +kernel
theorem dX8_clause_137 : decode cX8_clause 137 = .ok (.sipush 999, 3) := by decide +kernel
theorem dX8_clause_140 : decode cX8_clause 140 = .ok (.iastore, 1) := by decide +kernel
theorem dX8_clause_141 : decode cX8_clause 141 = .ok (.aload_n 0, 1) := by decide +kernel
theorem dX8_clause_142 : decode cX8_clause 142 = .ok (.getfield 27, 3) := by decide +kernel
theorem dX8_clause_145 : decode cX8_clause 145 = .ok (.iload_n 1, 1) := by decide +kernel
theorem dX8_clause_146 : decode cX8_clause 146 = .ok (.iconst 5, 1) := by decide +kernel
theorem dX8_clause_147 : decode cX8_clause 147 = .ok (.iadd, 1) := by decide +kernel
theorem dX8_clause_148 : decode cX8_clause 148 = .ok (.aload_n 0, 1) := by decide +kernel
theorem dX8_clause_149 : decode cX8_clause 149 = .ok (.bipush 43, 2) := by decide +kernel
theorem dX8_clause_151 : decode cX8_clause 151 = .ok (.invokevirtual 130, 3) := by decide +kernel
theorem dX8_clause_154 : decode cX8_clause 154 = .ok (.ifCond .eq 14, 3) := by decide +kernel
theorem dX8_clause_157 : decode cX8_clause 157 = .ok (.aload_n 0, 1) := by decide +kernel
theorem dX8_clause_158 : decode cX8_clause 158 = .ok (.iconst 2, 1) := by decide +kernel
theorem dX8_clause_159 : decode cX8_clause 159 = .ok (.iconst 0, 1) := by decide +kernel
theorem dX8_clause_160 : decode cX8_clause 160 = .ok (.bipush 30, 2) := by decide +kernel
theorem dX8_clause_162 : decode cX8_clause 162 = .ok (.invokevirtual 137, 3) := by decide +kernel
theorem dX8_clause_165 : decode cX8_clause 165 = .ok (.goto 4, 3) := by decide +kernel
theorem dX8_clause_168 : decode cX8_clause 168 = .ok (.iconst 0, 1) := by decide +kernel
theorem dX8_clause_169 : decode cX8_clause 169 = .ok (.iastore, 1) := by decide +kernel
theorem dX8_clause_170 : decode cX8_clause 170 = .ok (.return_, 1) := by decide +kernel
theorem dX8_read_0 : decode cX8_read 0 = .ok (.aload_n 0, 1) := by decide +kernel
theorem dX8_read_1 : decode cX8_read 1 = .ok (.iconst 0, 1) := by decide +kernel
theorem dX8_read_2 : decode cX8_read 2 = .ok (.putfield 127, 3) := by decide +kernel
theorem dX8_read_5 : decode cX8_read 5 = .ok (.aload_n 0, 1) := by decide +kernel
theorem dX8_read_6 : decode cX8_read 6 = .ok (.iconst (-1), 1) := by decide +kernel
theorem dX8_read_7 : decode cX8_read 7 = .ok (.putfield 124, 3) := by decide +kernel
theorem dX8_read_10 : decode cX8_read 10 = .ok (.iconst 0, 1) := by decide +kernel
theorem dX8_read_11 : decode cX8_read 11 = .ok (.istore_n 1, 1) := by decide +kernel
theorem dX8_read_12 : decode cX8_read 12 = .ok (.aload_n 0, 1) := by decide +kernel
theorem dX8_read_13 : decode cX8_read 13 = .ok (.bipush 6, 2) := by decide +kernel
theorem dX8_read_15 : decode cX8_read 15 = .ok (.iload_n 1, 1) := by decide +kernel
theorem dX8_read_16 : decode cX8_read 16 = .ok (.imul, 1) := by decide +kernel
theorem dX8_read_17 : decode cX8_read 17 = .ok (.invokevirtual 144, 3) := by decide +kernel
theorem dX8_read_20 : decode cX8_read 20 = .ok (.iinc 1 1, 3) := by decide +kernel
theorem dX8_read_23 : decode cX8_read 23 = .ok (.iload_n 1, 1) := by decide +kernel
theorem dX8_read_24 : decode cX8_read 24 = .ok (.bipush 6, 2) := by decide +kernel
theorem dX8_read_26 : decode cX8_read 26 = .ok (.if_icmp .ge 12, 3) := by decide +kernel
theorem dX8_read_29 : decode cX8_read 29 = .ok (.aload_n 0, 1) := by decide +kernel
theorem dX8_read_30 : decode cX8_read 30 = .ok (.bipush 59, 2) := by decide +kernel
theorem dX8_read_32 : decode cX8_read 32 = .ok (.invokevirtual 130, 3) := by decide +kernel
theorem dX8_read_35 : decode cX8_read 35 = .ok (.ifCond .ne (-23), 3) := by decide +kernel
theorem dX8_read_38 : decode cX8_read 38 = .ok (.aload_n 0, 1) := by decide +kernel
theorem dX8_read_39 : decode cX8_read 39 = .ok (.getfield 127, 3) := by decide +kernel
theorem dX8_read_42 : decode cX8_read 42 = .ok (.aload_n 0, 1) := by decide +kernel
theorem dX8_read_43 : decode cX8_read 43 = .ok (.getfield 121, 3) := by decide +kernel
theorem dX8_read_46 : decode cX8_read 46 = .ok (.if_icmp .ge 11, 3) := by decide +kernel
theorem dX8_read_49 : decode cX8_read 49 = .ok (.aload_n 0, 1) := by decide +kernel
theorem dX8_read_50 : decode cX8_read 50 = .ok (.aload_n 0, 1) := by decide +kernel
theorem dX8_read_51 : decode cX8_read 51 = .ok (.getfield 127, 3) := by decide +kernel
theorem dX8_read_54 : decode cX8_read 54 = .ok (.invokevirtual 133, 3) := by decide +kernel
theorem dX8_read_57 : decode cX8_read 57 = .ok (.aload_n 0, 1) := by decide +kernel
theorem dX8_read_58 : decode cX8_read 58 = .ok (.iconst 0, 1) := by decide +kernel
theorem dX8_read_59 : decode cX8_read 59 = .ok (.putfield 121, 3) := by decide +kernel
theorem dX8_read_62 : decode cX8_read 62 = .ok (.aload_n 0, 1) := by decide +kernel
theorem dX8_read_63 : decode cX8_read 63 = .ok (.getfield 124, 3) := by decide +kernel
theorem dX8_read_66 : decode cX8_read 66 = .ok (.ifCond .lt 11, 3) := by decide +kernel
theorem dX8_read_69 : decode cX8_read 69 = .ok (.bipush (-10), 2) := by decide +kernel
theorem dX8_read_71 : decode cX8_read 71 = .ok (.aload_n 0, 1) := by decide +kernel
theorem dX8_read_72 : decode cX8_read 72 = .ok (.getfield 124, 3) := by decide +kernel
theorem dX8_read_75 : decode cX8_read 75 = .ok (.isub, 1) := by decide +kernel
theorem dX8_read_76 : decode cX8_read 76 = .ok (.ireturn, 1) := by decide +kernel
theorem dX8_read_77 : decode cX8_read 77 = .ok (.iconst 0, 1) := by decide +kernel
theorem dX8_read_78 : decode cX8_read 78 = .ok (.istore_n 2, 1) := by decide +kernel
theorem dX8_read_79 : decode cX8_read 79 = .ok (.iconst 0, 1) := by decide +kernel
theorem dX8_read_80 : decode cX8_read 80 = .ok (.istore_n 3, 1) := by decide +kernel
theorem dX8_read_81 : decode cX8_read 81 = .ok (.iload_n 3, 1) := by decide +kernel
theorem dX8_read_82 : decode cX8_read 82 = .ok (.iload_n 1, 1) := by decide +kernel
theorem dX8_read_83 : decode cX8_read 83 = .ok (.if_icmp .ge 85, 3) := by decide +kernel
theorem dX8_read_86 : decode cX8_read 86 = .ok (.aload_n 0, 1) := by decide +kernel
theorem dX8_read_87 : decode cX8_read 87 = .ok (.getfield 11, 3) := by decide +kernel
theorem dX8_read_90 : decode cX8_read 90 = .ok (.iconst 4, 1) := by decide +kernel
theorem dX8_read_91 : decode cX8_read 91 = .ok (.iaload, 1) := by decide +kernel
theorem dX8_read_92 : decode cX8_read 92 = .ok (.bipush 16, 2) := by decide +kernel
theorem dX8_read_94 : decode cX8_read 94 = .ok (.if_icmp .ge 74, 3) := by decide +kernel
theorem dX8_read_97 : decode cX8_read 97 = .ok (.bipush 6, 2) := by decide +kernel
theorem dX8_read_99 : decode cX8_read 99 = .ok (.iload_n 3, 1) := by decide +kernel
theorem dX8_read_100 : decode cX8_read 100 = .ok (.imul, 1) := by decide +kernel
theorem dX8_read_101 : decode cX8_read 101 = .ok (.istore 4, 2) := by decide +kernel
theorem dX8_read_103 : decode cX8_read 103 = .ok (.aload_n 0, 1) := by decide +kernel
theorem dX8_read_104 : decode cX8_read 104 = .ok (.aload_n 0, 1) := by decide +kernel
theorem dX8_read_105 : decode cX8_read 105 = .ok (.getfield 27, 3) := by decide +kernel
theorem dX8_read_108 : decode cX8_read 108 = .ok (.iload 4, 2) := by decide +kernel
theorem dX8_read_110 : decode cX8_read 110 = .ok (.iaload, 1) := by decide +kernel
theorem dX8_read_111 : decode cX8_read 111 = .ok (.aload_n 0, 1) := by decide +kernel
theorem dX8_read_112 : decode cX8_read 112 = .ok (.getfield 27, 3) := by decide +kernel
theorem dX8_read_115 : decode cX8_read 115 = .ok (.iload 4, 2) := by decide +kernel
theorem dX8_read_117 : decode cX8_read 117 = .ok (.iconst 1, 1) := by decide +kernel
theorem dX8_read_118 : decode cX8_read 118 = .ok (.iadd, 1) := by decide +kernel
theorem dX8_read_119 : decode cX8_read 119 = .ok (.iaload, 1) := by decide +kernel
theorem dX8_read_120 : decode cX8_read 120 = .ok (.aload_n 0, 1) := by decide +kernel
theorem dX8_read_121 : decode cX8_read 121 = .ok (.getfield 27, 3) := by decide +kernel
theorem dX8_read_124 : decode cX8_read 124 = .ok (.iload 4, 2) := by decide +kernel
theorem dX8_read_126 : decode cX8_read 126 = .ok (.iconst 2, 1) := by decide +kernel
theorem dX8_read_127 : decode cX8_read 127 = .ok (.iadd, 1) := by decide +kernel
theorem dX8_read_128 : decode cX8_read 128 = .ok (.iaload, 1) := by decide +kernel
theorem dX8_read_129 : decode cX8_read 129 = .ok (.aload_n 0, 1) := by decide +kernel
theorem dX8_read_130 : decode cX8_read 130 = .ok (.getfield 27, 3) := by decide +kernel
theorem dX8_read_133 : decode cX8_read 133 = .ok (.iload 4, 2) := by decide +kernel
theorem dX8_read_135 : decode cX8_read 135 = .ok (.iconst 3, 1) := by decide +kernel
theorem dX8_read_136 : decode cX8_read 136 = .ok (.iadd, 1) := by decide +kernel
theorem dX8_read_137 : decode cX8_read 137 = .ok (.iaload, 1) := by decide +kernel
theorem dX8_read_138 : decode cX8_read 138 = .ok (.aload_n 0, 1) := by decide +kernel
theorem dX8_read_139 : decode cX8_read 139 = .ok (.getfield 27, 3) := by decide +kernel
theorem dX8_read_142 : decode cX8_read 142 = .ok (.iload 4, 2) := by decide +kernel
theorem dX8_read_144 : decode cX8_read 144 = .ok (.iconst 4, 1) := by decide +kernel
theorem dX8_read_145 : decode cX8_read 145 = .ok (.iadd, 1) := by decide +kernel
theorem dX8_read_146 : decode cX8_read 146 = .ok (.iaload, 1) := by decide +kernel
theorem dX8_read_147 : decode cX8_read 147 = .ok (.aload_n 0, 1) := by decide +kernel
theorem dX8_read_148 : decode cX8_read 148 = .ok (.getfield 27, 3) := by decide +kernel
theorem dX8_read_151 : decode cX8_read 151 = .ok (.iload 4, 2) := by decide +kernel
theorem dX8_read_153 : decode cX8_read 153 = .ok (.iconst 5, 1) := by decide +kernel
theorem dX8_read_154 : decode cX8_read 154 = .ok (.iadd, 1) := by decide +kernel
theorem dX8_read_155 : decode cX8_read 155 = .ok (.iaload, 1) := by decide +kernel
theorem dX8_read_156 : decode cX8_read 156 = .ok (.invokevirtual 118, 3) := by decide +kernel
theorem dX8_read_159 : decode cX8_read 159 = .ok (.iinc 2 1, 3) := by decide +kernel
theorem dX8_read_162 : decode cX8_read 162 = .ok (.iinc 3 1, 3) := by decide +kernel
theorem dX8_read_165 : decode cX8_read 165 = .ok (.goto (-84), 3) := by decide +kernel
theorem dX8_read_168 : decode cX8_read 168 = .ok (.iload_n 2, 1) := by decide +kernel
theorem dX8_read_169 : decode cX8_read 169 = .ok (.ireturn, 1) := by decide +kernel
theorem dX8_becomes_0 : decode cX8_becomes 0 = .ok (.aload_n 0, 1) := by decide +kernel
theorem dX8_becomes_1 : decode cX8_becomes 1 = .ok (.getfield 11, 3) := by decide +kernel
theorem dX8_becomes_4 : decode cX8_becomes 4 = .ok (.iload_n 1, 1) := by decide +kernel
theorem dX8_becomes_5 : decode cX8_becomes 5 = .ok (.iaload, 1) := by decide +kernel
theorem dX8_becomes_6 : decode cX8_becomes 6 = .ok (.istore_n 3, 1) := by decide +kernel
theorem dX8_becomes_7 : decode cX8_becomes 7 = .ok (.aload_n 0, 1) := by decide +kernel
theorem dX8_becomes_8 : decode cX8_becomes 8 = .ok (.getfield 11, 3) := by decide +kernel
theorem dX8_becomes_11 : decode cX8_becomes 11 = .ok (.iload_n 1, 1) := by decide +kernel
theorem dX8_becomes_12 : decode cX8_becomes 12 = .ok (.iload_n 2, 1) := by decide +kernel
theorem dX8_becomes_13 : decode cX8_becomes 13 = .ok (.iastore, 1) := by decide +kernel
theorem dX8_becomes_14 : decode cX8_becomes 14 = .ok (.aload_n 0, 1) := by decide +kernel
theorem dX8_becomes_15 : decode cX8_becomes 15 = .ok (.invokevirtual 147, 3) := by decide +kernel
theorem dX8_becomes_18 : decode cX8_becomes 18 = .ok (.ifCond .eq 5, 3) := by decide +kernel
theorem dX8_becomes_21 : decode cX8_becomes 21 = .ok (.iload_n 3, 1) := by decide +kernel
theorem dX8_becomes_22 : decode cX8_becomes 22 = .ok (.ireturn, 1) := by decide +kernel
theorem dX8_becomes_23 : decode cX8_becomes 23 = .ok (.aload_n 0, 1) := by decide +kernel
theorem dX8_becomes_24 : decode cX8_becomes 24 = .ok (.getfield 11, 3) := by decide +kernel
theorem dX8_becomes_27 : decode cX8_becomes 27 = .ok (.iload_n 1, 1) := by decide +kernel
theorem dX8_becomes_28 : decode cX8_becomes 28 = .ok (.iload_n 3, 1) := by decide +kernel
theorem dX8_becomes_29 : decode cX8_becomes 29 = .ok (.iastore, 1) := by decide +kernel
theorem dX8_becomes_30 : decode cX8_becomes 30 = .ok (.bipush (-3), 2) := by decide +kernel
theorem dX8_becomes_32 : decode cX8_becomes 32 = .ok (.ireturn, 1) := by decide +kernel
theorem dX8_set_0 : decode cX8_set 0 = .ok (.aload_n 0, 1) := by decide +kernel
theorem dX8_set_1 : decode cX8_set 1 = .ok (.iload_n 1, 1) := by decide +kernel
theorem dX8_set_2 : decode cX8_set 2 = .ok (.invokevirtual 151, 3) := by decide +kernel
theorem dX8_set_5 : decode cX8_set 5 = .ok (.ifCond .eq 12, 3) := by decide +kernel
theorem dX8_set_8 : decode cX8_set 8 = .ok (.iload_n 2, 1) := by decide +kernel
theorem dX8_set_9 : decode cX8_set 9 = .ok (.iconst 0, 1) := by decide +kernel
theorem dX8_set_10 : decode cX8_set 10 = .ok (.iconst 5, 1) := by decide +kernel
theorem dX8_set_11 : decode cX8_set 11 = .ok (.invokestatic 55, 3) := by decide +kernel
theorem dX8_set_14 : decode cX8_set 14 = .ok (.ifCond .ne 5, 3) := by decide +kernel
theorem dX8_set_17 : decode cX8_set 17 = .ok (.iconst (-1), 1) := by decide +kernel
theorem dX8_set_18 : decode cX8_set 18 = .ok (.ireturn, 1) := by decide +kernel
theorem dX8_set_19 : decode cX8_set 19 = .ok (.iload_n 2, 1) := by decide +kernel
theorem dX8_set_20 : decode cX8_set 20 = .ok (.iload_n 3, 1) := by decide +kernel
theorem dX8_set_21 : decode cX8_set 21 = .ok (.invokestatic 114, 3) := by decide +kernel
theorem dX8_set_24 : decode cX8_set 24 = .ok (.ifCond .eq 33, 3) := by decide +kernel
theorem dX8_set_27 : decode cX8_set 27 = .ok (.iload_n 2, 1) := by decide +kernel
theorem dX8_set_28 : decode cX8_set 28 = .ok (.iconst 3, 1) := by decide +kernel
theorem dX8_set_29 : decode cX8_set 29 = .ok (.if_icmp .ne 13, 3) := by decide +kernel
theorem dX8_set_32 : decode cX8_set 32 = .ok (.iload_n 3, 1) := by decide +kernel
theorem dX8_set_33 : decode cX8_set 33 = .ok (.aload_n 0, 1) := by decide +kernel
theorem dX8_set_34 : decode cX8_set 34 = .ok (.iload_n 1, 1) := by decide +kernel
theorem dX8_set_35 : decode cX8_set 35 = .ok (.iconst 4, 1) := by decide +kernel
theorem dX8_set_36 : decode cX8_set 36 = .ok (.invokevirtual 78, 3) := by decide +kernel
theorem dX8_set_39 : decode cX8_set 39 = .ok (.if_icmp .gt 18, 3) := by decide +kernel
theorem dX8_set_42 : decode cX8_set 42 = .ok (.iload_n 2, 1) := by decide +kernel
theorem dX8_set_43 : decode cX8_set 43 = .ok (.iconst 4, 1) := by decide +kernel
theorem dX8_set_44 : decode cX8_set 44 = .ok (.if_icmp .ne 16, 3) := by decide +kernel
theorem dX8_set_47 : decode cX8_set 47 = .ok (.iload_n 3, 1) := by decide +kernel
theorem dX8_set_48 : decode cX8_set 48 = .ok (.aload_n 0, 1) := by decide +kernel
theorem dX8_set_49 : decode cX8_set 49 = .ok (.iload_n 1, 1) := by decide +kernel
theorem dX8_set_50 : decode cX8_set 50 = .ok (.iconst 3, 1) := by decide +kernel
theorem dX8_set_51 : decode cX8_set 51 = .ok (.invokevirtual 78, 3) := by decide +kernel
theorem dX8_set_54 : decode cX8_set 54 = .ok (.if_icmp .ge 6, 3) := by decide +kernel
theorem dX8_set_57 : decode cX8_set 57 = .ok (.bipush (-2), 2) := by decide +kernel
theorem dX8_set_59 : decode cX8_set 59 = .ok (.ireturn, 1) := by decide +kernel
theorem dX8_set_60 : decode cX8_set 60 = .ok (.aload_n 0, 1) := by decide +kernel
theorem dX8_set_61 : decode cX8_set 61 = .ok (.bipush 50, 2) := by decide +kernel
theorem dX8_set_63 : decode cX8_set 63 = .ok (.bipush 8, 2) := by decide +kernel
theorem dX8_set_65 : decode cX8_set 65 = .ok (.iload_n 1, 1) := by decide +kernel
theorem dX8_set_66 : decode cX8_set 66 = .ok (.imul, 1) := by decide +kernel
theorem dX8_set_67 : decode cX8_set 67 = .ok (.iadd, 1) := by decide +kernel
theorem dX8_set_68 : decode cX8_set 68 = .ok (.iload_n 2, 1) := by decide +kernel
theorem dX8_set_69 : decode cX8_set 69 = .ok (.iadd, 1) := by decide +kernel
theorem dX8_set_70 : decode cX8_set 70 = .ok (.iload_n 3, 1) := by decide +kernel
theorem dX8_set_71 : decode cX8_set 71 = .ok (.invokevirtual 154, 3) := by decide +kernel
theorem dX8_set_74 : decode cX8_set 74 = .ok (.ireturn, 1) := by decide +kernel
theorem dX8_of_0 : decode cX8_of 0 = .ok (.aload_n 0, 1) := by decide +kernel
theorem dX8_of_1 : decode cX8_of 1 = .ok (.iload_n 1, 1) := by decide +kernel
theorem dX8_of_2 : decode cX8_of 2 = .ok (.invokevirtual 151, 3) := by decide +kernel
theorem dX8_of_5 : decode cX8_of 5 = .ok (.ifCond .eq 13, 3) := by decide +kernel
theorem dX8_of_8 : decode cX8_of 8 = .ok (.iload_n 2, 1) := by decide +kernel
theorem dX8_of_9 : decode cX8_of 9 = .ok (.iconst 0, 1) := by decide +kernel
theorem dX8_of_10 : decode cX8_of 10 = .ok (.bipush 11, 2) := by decide +kernel
theorem dX8_of_12 : decode cX8_of 12 = .ok (.invokestatic 55, 3) := by decide +kernel
theorem dX8_of_15 : decode cX8_of 15 = .ok (.ifCond .ne 5, 3) := by decide +kernel
theorem dX8_of_18 : decode cX8_of 18 = .ok (.iconst (-1), 1) := by decide +kernel
theorem dX8_of_19 : decode cX8_of 19 = .ok (.ireturn, 1) := by decide +kernel
theorem dX8_of_20 : decode cX8_of 20 = .ok (.iload_n 2, 1) := by decide +kernel
theorem dX8_of_21 : decode cX8_of 21 = .ok (.bipush 6, 2) := by decide +kernel
theorem dX8_of_23 : decode cX8_of 23 = .ok (.if_icmp .ge 10, 3) := by decide +kernel
theorem dX8_of_26 : decode cX8_of 26 = .ok (.aload_n 0, 1) := by decide +kernel
theorem dX8_of_27 : decode cX8_of 27 = .ok (.iload_n 1, 1) := by decide +kernel
theorem dX8_of_28 : decode cX8_of 28 = .ok (.iload_n 2, 1) := by decide +kernel
theorem dX8_of_29 : decode cX8_of 29 = .ok (.invokevirtual 78, 3) := by decide +kernel
theorem dX8_of_32 : decode cX8_of 32 = .ok (.ireturn, 1) := by decide +kernel
theorem dX8_of_33 : decode cX8_of 33 = .ok (.aload_n 0, 1) := by decide +kernel
theorem dX8_of_34 : decode cX8_of 34 = .ok (.iload_n 1, 1) := by decide +kernel
theorem dX8_of_35 : decode cX8_of 35 = .ok (.invokevirtual 157, 3) := by decide +kernel
theorem dX8_of_38 : decode cX8_of 38 = .ok (.istore_n 3, 1) := by decide +kernel
theorem dX8_of_39 : decode cX8_of 39 = .ok (.iload_n 2, 1) := by decide +kernel
theorem dX8_of_40 : decode cX8_of 40 = .ok (.bipush 8, 2) := by decide +kernel
theorem dX8_of_42 : decode cX8_of 42 = .ok (.if_icmp .ne 11, 3) := by decide +kernel
theorem dX8_of_45 : decode cX8_of 45 = .ok (.aload_n 0, 1) := by decide +kernel
theorem dX8_of_46 : decode cX8_of 46 = .ok (.iload_n 1, 1) := by decide +kernel
theorem dX8_of_47 : decode cX8_of 47 = .ok (.bipush 6, 2) := by decide +kernel
theorem dX8_of_49 : decode cX8_of 49 = .ok (.invokevirtual 78, 3) := by decide +kernel
theorem dX8_of_52 : decode cX8_of 52 = .ok (.ireturn, 1) := by decide +kernel
theorem dX8_of_53 : decode cX8_of 53 = .ok (.iload_n 3, 1) := by decide +kernel
theorem dX8_of_54 : decode cX8_of 54 = .ok (.ifCond .ge 6, 3) := by decide +kernel
theorem dX8_of_57 : decode cX8_of 57 = .ok (.bipush (-5), 2) := by decide +kernel
theorem dX8_of_59 : decode cX8_of 59 = .ok (.ireturn, 1) := by decide +kernel
theorem dX8_of_60 : decode cX8_of 60 = .ok (.aload_n 0, 1) := by decide +kernel
theorem dX8_of_61 : decode cX8_of 61 = .ok (.iload_n 3, 1) := by decide +kernel
theorem dX8_of_62 : decode cX8_of 62 = .ok (.iload_n 1, 1) := by decide +kernel
theorem dX8_of_63 : decode cX8_of 63 = .ok (.invokevirtual 66, 3) := by decide +kernel
theorem dX8_of_66 : decode cX8_of 66 = .ok (.istore 4, 2) := by decide +kernel
theorem dX8_of_68 : decode cX8_of 68 = .ok (.aload_n 0, 1) := by decide +kernel
theorem dX8_of_69 : decode cX8_of 69 = .ok (.iload_n 3, 1) := by decide +kernel
theorem dX8_of_70 : decode cX8_of 70 = .ok (.invokevirtual 160, 3) := by decide +kernel
theorem dX8_of_73 : decode cX8_of 73 = .ok (.iload_n 2, 1) := by decide +kernel
theorem dX8_of_74 : decode cX8_of 74 = .ok (.bipush 6, 2) := by decide +kernel
theorem dX8_of_76 : decode cX8_of 76 = .ok (.if_icmp .ne 7, 3) := by decide +kernel
theorem dX8_of_79 : decode cX8_of 79 = .ok (.iload_n 3, 1) := by decide +kernel
theorem dX8_of_80 : decode cX8_of 80 = .ok (.goto 61, 3) := by decide +kernel
theorem dX8_of_83 : decode cX8_of 83 = .ok (.iload_n 2, 1) := by decide +kernel
theorem dX8_of_84 : decode cX8_of 84 = .ok (.bipush 7, 2) := by decide +kernel
theorem dX8_of_86 : decode cX8_of 86 = .ok (.if_icmp .ne 8, 3) := by decide +kernel
theorem dX8_of_89 : decode cX8_of 89 = .ok (.iload 4, 2) := by decide +kernel
theorem dX8_of_91 : decode cX8_of 91 = .ok (.goto 50, 3) := by decide +kernel
theorem dX8_of_94 : decode cX8_of 94 = .ok (.iload_n 2, 1) := by decide +kernel
theorem dX8_of_95 : decode cX8_of 95 = .ok (.bipush 9, 2) := by decide +kernel
theorem dX8_of_97 : decode cX8_of 97 = .ok (.if_icmp .ne 13, 3) := by decide +kernel
theorem dX8_of_100 : decode cX8_of 100 = .ok (.aload_n 0, 1) := by decide +kernel
theorem dX8_of_101 : decode cX8_of 101 = .ok (.getfield 30, 3) := by decide +kernel
theorem dX8_of_104 : decode cX8_of 104 = .ok (.iload 4, 2) := by decide +kernel
theorem dX8_of_106 : decode cX8_of 106 = .ok (.iaload, 1) := by decide +kernel
theorem dX8_of_107 : decode cX8_of 107 = .ok (.goto 34, 3) := by decide +kernel
theorem dX8_of_110 : decode cX8_of 110 = .ok (.iload_n 2, 1) := by decide +kernel
theorem dX8_of_111 : decode cX8_of 111 = .ok (.bipush 10, 2) := by decide +kernel
theorem dX8_of_113 : decode cX8_of 113 = .ok (.if_icmp .ne 13, 3) := by decide +kernel
theorem dX8_of_116 : decode cX8_of 116 = .ok (.aload_n 0, 1) := by decide +kernel
theorem dX8_of_117 : decode cX8_of 117 = .ok (.getfield 33, 3) := by decide +kernel
theorem dX8_of_120 : decode cX8_of 120 = .ok (.iload 4, 2) := by decide +kernel
theorem dX8_of_122 : decode cX8_of 122 = .ok (.iaload, 1) := by decide +kernel
theorem dX8_of_123 : decode cX8_of 123 = .ok (.goto 18, 3) := by decide +kernel
theorem dX8_of_126 : decode cX8_of 126 = .ok (.aload_n 0, 1) := by decide +kernel
theorem dX8_of_127 : decode cX8_of 127 = .ok (.getfield 36, 3) := by decide +kernel
theorem dX8_of_130 : decode cX8_of 130 = .ok (.iload 4, 2) := by decide +kernel
theorem dX8_of_132 : decode cX8_of 132 = .ok (.iaload, 1) := by decide +kernel
theorem dX8_of_133 : decode cX8_of 133 = .ok (.aload_n 0, 1) := by decide +kernel
theorem dX8_of_134 : decode cX8_of 134 = .ok (.getfield 33, 3) := by decide +kernel
theorem dX8_of_137 : decode cX8_of 137 = .ok (.iload 4, 2) := by decide +kernel
theorem dX8_of_139 : decode cX8_of 139 = .ok (.iaload, 1) := by decide +kernel
theorem dX8_of_140 : decode cX8_of 140 = .ok (.isub, 1) := by decide +kernel
theorem dX8_of_141 : decode cX8_of 141 = .ok (.ireturn, 1) := by decide +kernel
theorem dX8_lock_0 : decode cX8_lock 0 = .ok (.aload_n 0, 1) := by decide +kernel
theorem dX8_lock_1 : decode cX8_lock 1 = .ok (.iload_n 1, 1) := by decide +kernel
theorem dX8_lock_2 : decode cX8_lock 2 = .ok (.invokevirtual 151, 3) := by decide +kernel
theorem dX8_lock_5 : decode cX8_lock 5 = .ok (.ifCond .ne 5, 3) := by decide +kernel
theorem dX8_lock_8 : decode cX8_lock 8 = .ok (.iconst (-1), 1) := by decide +kernel
theorem dX8_lock_9 : decode cX8_lock 9 = .ok (.ireturn, 1) := by decide +kernel
theorem dX8_lock_10 : decode cX8_lock 10 = .ok (.aload_n 0, 1) := by decide +kernel
theorem dX8_lock_11 : decode cX8_lock 11 = .ok (.iload_n 1, 1) := by decide +kernel
theorem dX8_lock_12 : decode cX8_lock 12 = .ok (.invokevirtual 157, 3) := by decide +kernel
theorem dX8_lock_15 : decode cX8_lock 15 = .ok (.ifCond .ge 6, 3) := by decide +kernel
theorem dX8_lock_18 : decode cX8_lock 18 = .ok (.bipush (-3), 2) := by decide +kernel
theorem dX8_lock_20 : decode cX8_lock 20 = .ok (.ireturn, 1) := by decide +kernel
theorem dX8_lock_21 : decode cX8_lock 21 = .ok (.aload_n 0, 1) := by decide +kernel
theorem dX8_lock_22 : decode cX8_lock 22 = .ok (.iload_n 1, 1) := by decide +kernel
theorem dX8_lock_23 : decode cX8_lock 23 = .ok (.bipush 6, 2) := by decide +kernel
theorem dX8_lock_25 : decode cX8_lock 25 = .ok (.invokevirtual 78, 3) := by decide +kernel
theorem dX8_lock_28 : decode cX8_lock 28 = .ok (.istore_n 3, 1) := by decide +kernel
theorem dX8_lock_29 : decode cX8_lock 29 = .ok (.aload_n 0, 1) := by decide +kernel
theorem dX8_lock_30 : decode cX8_lock 30 = .ok (.getfield 11, 3) := by decide +kernel
theorem dX8_lock_33 : decode cX8_lock 33 = .ok (.bipush 50, 2) := by decide +kernel
theorem dX8_lock_35 : decode cX8_lock 35 = .ok (.bipush 8, 2) := by decide +kernel
theorem dX8_lock_37 : decode cX8_lock 37 = .ok (.iload_n 1, 1) := by decide +kernel
theorem dX8_lock_38 : decode cX8_lock 38 = .ok (.imul, 1) := by decide +kernel
theorem dX8_lock_39 : decode cX8_lock 39 = .ok (.iadd, 1) := by decide +kernel
theorem dX8_lock_40 : decode cX8_lock 40 = .ok (.bipush 6, 2) := by decide +kernel
theorem dX8_lock_42 : decode cX8_lock 42 = .ok (.iadd, 1) := by decide +kernel
theorem dX8_lock_43 : decode cX8_lock 43 = .ok (.iload_n 2, 1) := by decide +kernel
theorem dX8_lock_44 : decode cX8_lock 44 = .ok (.ifCond .eq 7, 3) := by decide +kernel
theorem dX8_lock_47 : decode cX8_lock 47 = .ok (.iconst 1, 1) := by decide +kernel
theorem dX8_lock_48 : decode cX8_lock 48 = .ok (.goto 4, 3) := by decide +kernel
theorem dX8_lock_51 : decode cX8_lock 51 = .ok (.iconst 0, 1) := by decide +kernel
theorem dX8_lock_52 : decode cX8_lock 52 = .ok (.iastore, 1) := by decide +kernel
theorem dX8_lock_53 : decode cX8_lock 53 = .ok (.iload_n 3, 1) := by decide +kernel
theorem dX8_lock_54 : decode cX8_lock 54 = .ok (.ireturn, 1) := by decide +kernel
theorem dX8_depot_0 : decode cX8_depot 0 = .ok (.iconst 0, 1) := by decide +kernel
theorem dX8_depot_1 : decode cX8_depot 1 = .ok (.iload_n 1, 1) := by decide +kernel
theorem dX8_depot_2 : decode cX8_depot 2 = .ok (.invokestatic 114, 3) := by decide +kernel
theorem dX8_depot_5 : decode cX8_depot 5 = .ok (.ifCond .eq 11, 3) := by decide +kernel
theorem dX8_depot_8 : decode cX8_depot 8 = .ok (.iconst 1, 1) := by decide +kernel
theorem dX8_depot_9 : decode cX8_depot 9 = .ok (.iload_n 2, 1) := by decide +kernel
theorem dX8_depot_10 : decode cX8_depot 10 = .ok (.invokestatic 114, 3) := by decide +kernel
theorem dX8_depot_13 : decode cX8_depot 13 = .ok (.ifCond .ne 6, 3) := by decide +kernel
theorem dX8_depot_16 : decode cX8_depot 16 = .ok (.bipush (-2), 2) := by decide +kernel
theorem dX8_depot_18 : decode cX8_depot 18 = .ok (.ireturn, 1) := by decide +kernel
theorem dX8_depot_19 : decode cX8_depot 19 = .ok (.aload_n 0, 1) := by decide +kernel
theorem dX8_depot_20 : decode cX8_depot 20 = .ok (.getfield 11, 3) := by decide +kernel
theorem dX8_depot_23 : decode cX8_depot 23 = .ok (.iconst 0, 1) := by decide +kernel
theorem dX8_depot_24 : decode cX8_depot 24 = .ok (.iaload, 1) := by decide +kernel
theorem dX8_depot_25 : decode cX8_depot 25 = .ok (.istore_n 3, 1) := by decide +kernel
theorem dX8_depot_26 : decode cX8_depot 26 = .ok (.aload_n 0, 1) := by decide +kernel
theorem dX8_depot_27 : decode cX8_depot 27 = .ok (.getfield 11, 3) := by decide +kernel
theorem dX8_depot_30 : decode cX8_depot 30 = .ok (.iconst 1, 1) := by decide +kernel
theorem dX8_depot_31 : decode cX8_depot 31 = .ok (.iaload, 1) := by decide +kernel
theorem dX8_depot_32 : decode cX8_depot 32 = .ok (.istore 4, 2) := by decide +kernel
theorem dX8_depot_34 : decode cX8_depot 34 = .ok (.aload_n 0, 1) := by decide +kernel
theorem dX8_depot_35 : decode cX8_depot 35 = .ok (.getfield 11, 3) := by decide +kernel
theorem dX8_depot_38 : decode cX8_depot 38 = .ok (.iconst 0, 1) := by decide +kernel
theorem dX8_depot_39 : decode cX8_depot 39 = .ok (.iload_n 1, 1) := by decide +kernel
theorem dX8_depot_40 : decode cX8_depot 40 = .ok (.iastore, 1) := by decide +kernel
theorem dX8_depot_41 : decode cX8_depot 41 = .ok (.aload_n 0, 1) := by decide +kernel
theorem dX8_depot_42 : decode cX8_depot 42 = .ok (.getfield 11, 3) := by decide +kernel
theorem dX8_depot_45 : decode cX8_depot 45 = .ok (.iconst 1, 1) := by decide +kernel
theorem dX8_depot_46 : decode cX8_depot 46 = .ok (.iload_n 2, 1) := by decide +kernel
theorem dX8_depot_47 : decode cX8_depot 47 = .ok (.iastore, 1) := by decide +kernel
theorem dX8_depot_48 : decode cX8_depot 48 = .ok (.aload_n 0, 1) := by decide +kernel
theorem dX8_depot_49 : decode cX8_depot 49 = .ok (.invokevirtual 147, 3) := by decide +kernel
theorem dX8_depot_52 : decode cX8_depot 52 = .ok (.ifCond .eq 13, 3) := by decide +kernel
theorem dX8_depot_55 : decode cX8_depot 55 = .ok (.aload_n 0, 1) := by decide +kernel
theorem dX8_depot_56 : decode cX8_depot 56 = .ok (.iload_n 1, 1) := by decide +kernel
theorem dX8_depot_57 : decode cX8_depot 57 = .ok (.iload_n 2, 1) := by decide +kernel
theorem dX8_depot_58 : decode cX8_depot 58 = .ok (.iload_n 3, 1) := by decide +kernel
theorem dX8_depot_59 : decode cX8_depot 59 = .ok (.iload 4, 2) := by decide +kernel
theorem dX8_depot_61 : decode cX8_depot 61 = .ok (.invokevirtual 81, 3) := by decide +kernel
theorem dX8_depot_64 : decode cX8_depot 64 = .ok (.ireturn, 1) := by decide +kernel
theorem dX8_depot_65 : decode cX8_depot 65 = .ok (.aload_n 0, 1) := by decide +kernel
theorem dX8_depot_66 : decode cX8_depot 66 = .ok (.getfield 11, 3) := by decide +kernel
theorem dX8_depot_69 : decode cX8_depot 69 = .ok (.iconst 0, 1) := by decide +kernel
theorem dX8_depot_70 : decode cX8_depot 70 = .ok (.iload_n 3, 1) := by decide +kernel
theorem dX8_depot_71 : decode cX8_depot 71 = .ok (.iastore, 1) := by decide +kernel
theorem dX8_depot_72 : decode cX8_depot 72 = .ok (.aload_n 0, 1) := by decide +kernel
theorem dX8_depot_73 : decode cX8_depot 73 = .ok (.getfield 11, 3) := by decide +kernel
theorem dX8_depot_76 : decode cX8_depot 76 = .ok (.iconst 1, 1) := by decide +kernel
theorem dX8_depot_77 : decode cX8_depot 77 = .ok (.iload 4, 2) := by decide +kernel
theorem dX8_depot_79 : decode cX8_depot 79 = .ok (.iastore, 1) := by decide +kernel
theorem dX8_depot_80 : decode cX8_depot 80 = .ok (.bipush (-3), 2) := by decide +kernel
theorem dX8_depot_82 : decode cX8_depot 82 = .ok (.ireturn, 1) := by decide +kernel
theorem dX8_rule_0 : decode cX8_rule 0 = .ok (.iload_n 1, 1) := by decide +kernel
theorem dX8_rule_1 : decode cX8_rule 1 = .ok (.invokestatic 162, 3) := by decide +kernel
theorem dX8_rule_4 : decode cX8_rule 4 = .ok (.ifCond .eq 12, 3) := by decide +kernel
theorem dX8_rule_7 : decode cX8_rule 7 = .ok (.iload_n 2, 1) := by decide +kernel
theorem dX8_rule_8 : decode cX8_rule 8 = .ok (.iconst 0, 1) := by decide +kernel
theorem dX8_rule_9 : decode cX8_rule 9 = .ok (.iconst 2, 1) := by decide +kernel
theorem dX8_rule_10 : decode cX8_rule 10 = .ok (.invokestatic 55, 3) := by decide +kernel
theorem dX8_rule_13 : decode cX8_rule 13 = .ok (.ifCond .ne 5, 3) := by decide +kernel
theorem dX8_rule_16 : decode cX8_rule 16 = .ok (.iconst (-1), 1) := by decide +kernel
theorem dX8_rule_17 : decode cX8_rule 17 = .ok (.ireturn, 1) := by decide +kernel
theorem dX8_rule_18 : decode cX8_rule 18 = .ok (.iload_n 3, 1) := by decide +kernel
theorem dX8_rule_19 : decode cX8_rule 19 = .ok (.iconst 0, 1) := by decide +kernel
theorem dX8_rule_20 : decode cX8_rule 20 = .ok (.iload_n 2, 1) := by decide +kernel
theorem dX8_rule_21 : decode cX8_rule 21 = .ok (.ifCond .ne 8, 3) := by decide +kernel
theorem dX8_rule_24 : decode cX8_rule 24 = .ok (.bipush 60, 2) := by decide +kernel
theorem dX8_rule_26 : decode cX8_rule 26 = .ok (.goto 17, 3) := by decide +kernel
theorem dX8_rule_29 : decode cX8_rule 29 = .ok (.iload_n 2, 1) := by decide +kernel
theorem dX8_rule_30 : decode cX8_rule 30 = .ok (.iconst 1, 1) := by decide +kernel
theorem dX8_rule_31 : decode cX8_rule 31 = .ok (.if_icmp .ne 9, 3) := by decide +kernel
theorem dX8_rule_34 : decode cX8_rule 34 = .ok (.sipush 999, 3) := by decide +kernel
theorem dX8_rule_37 : decode cX8_rule 37 = .ok (.goto 6, 3) := by decide +kernel
theorem dX8_rule_40 : decode cX8_rule 40 = .ok (.sipush 1999, 3) := by decide +kernel
theorem dX8_rule_43 : decode cX8_rule 43 = .ok (.invokestatic 55, 3) := by decide +kernel
theorem dX8_rule_46 : decode cX8_rule 46 = .ok (.ifCond .ne 6, 3) := by decide +kernel
theorem dX8_rule_49 : decode cX8_rule 49 = .ok (.bipush (-2), 2) := by decide +kernel
theorem dX8_rule_51 : decode cX8_rule 51 = .ok (.ireturn, 1) := by decide +kernel
theorem dX8_rule_52 : decode cX8_rule 52 = .ok (.aload_n 0, 1) := by decide +kernel
theorem dX8_rule_53 : decode cX8_rule 53 = .ok (.sipush 178, 3) := by decide +kernel
theorem dX8_rule_56 : decode cX8_rule 56 = .ok (.bipush 20, 2) := by decide +kernel
theorem dX8_rule_58 : decode cX8_rule 58 = .ok (.iload_n 1, 1) := by decide +kernel
theorem dX8_rule_59 : decode cX8_rule 59 = .ok (.imul, 1) := by decide +kernel
theorem dX8_rule_60 : decode cX8_rule 60 = .ok (.iadd, 1) := by decide +kernel
theorem dX8_rule_61 : decode cX8_rule 61 = .ok (.iload_n 2, 1) := by decide +kernel
theorem dX8_rule_62 : decode cX8_rule 62 = .ok (.iadd, 1) := by decide +kernel
theorem dX8_rule_63 : decode cX8_rule 63 = .ok (.iload_n 3, 1) := by decide +kernel
theorem dX8_rule_64 : decode cX8_rule 64 = .ok (.invokevirtual 154, 3) := by decide +kernel
theorem dX8_rule_67 : decode cX8_rule 67 = .ok (.ireturn, 1) := by decide +kernel
theorem dX8_price_0 : decode cX8_price 0 = .ok (.iload_n 1, 1) := by decide +kernel
theorem dX8_price_1 : decode cX8_price 1 = .ok (.iconst 0, 1) := by decide +kernel
theorem dX8_price_2 : decode cX8_price 2 = .ok (.iconst 1, 1) := by decide +kernel
theorem dX8_price_3 : decode cX8_price 3 = .ok (.invokestatic 55, 3) := by decide +kernel
theorem dX8_price_6 : decode cX8_price 6 = .ok (.ifCond .ne 5, 3) := by decide +kernel
theorem dX8_price_9 : decode cX8_price 9 = .ok (.iconst (-1), 1) := by decide +kernel
theorem dX8_price_10 : decode cX8_price 10 = .ok (.ireturn, 1) := by decide +kernel
theorem dX8_price_11 : decode cX8_price 11 = .ok (.iload_n 2, 1) := by decide +kernel
theorem dX8_price_12 : decode cX8_price 12 = .ok (.iconst 0, 1) := by decide +kernel
theorem dX8_price_13 : decode cX8_price 13 = .ok (.iload_n 1, 1) := by decide +kernel
theorem dX8_price_14 : decode cX8_price 14 = .ok (.ifCond .ne 7, 3) := by decide +kernel
theorem dX8_price_17 : decode cX8_price 17 = .ok (.iconst 2, 1) := by decide +kernel
theorem dX8_price_18 : decode cX8_price 18 = .ok (.goto 5, 3) := by decide +kernel
theorem dX8_price_21 : decode cX8_price 21 = .ok (.bipush 99, 2) := by decide +kernel
theorem dX8_price_23 : decode cX8_price 23 = .ok (.invokestatic 55, 3) := by decide +kernel
theorem dX8_price_26 : decode cX8_price 26 = .ok (.ifCond .ne 6, 3) := by decide +kernel
theorem dX8_price_29 : decode cX8_price 29 = .ok (.bipush (-2), 2) := by decide +kernel
theorem dX8_price_31 : decode cX8_price 31 = .ok (.ireturn, 1) := by decide +kernel
theorem dX8_price_32 : decode cX8_price 32 = .ok (.aload_n 0, 1) := by decide +kernel
theorem dX8_price_33 : decode cX8_price 33 = .ok (.iconst 2, 1) := by decide +kernel
theorem dX8_price_34 : decode cX8_price 34 = .ok (.iload_n 1, 1) := by decide +kernel
theorem dX8_price_35 : decode cX8_price 35 = .ok (.iadd, 1) := by decide +kernel
theorem dX8_price_36 : decode cX8_price 36 = .ok (.iload_n 2, 1) := by decide +kernel
theorem dX8_price_37 : decode cX8_price 37 = .ok (.invokevirtual 154, 3) := by decide +kernel
theorem dX8_price_40 : decode cX8_price 40 = .ok (.ireturn, 1) := by decide +kernel
theorem dX8_added_0 : decode cX8_added 0 = .ok (.aload_n 0, 1) := by decide +kernel
theorem dX8_added_1 : decode cX8_added 1 = .ok (.iload_n 2, 1) := by decide +kernel
theorem dX8_added_2 : decode cX8_added 2 = .ok (.invokevirtual 111, 3) := by decide +kernel
theorem dX8_added_5 : decode cX8_added 5 = .ok (.istore 4, 2) := by decide +kernel
theorem dX8_added_7 : decode cX8_added 7 = .ok (.aload_n 0, 1) := by decide +kernel
theorem dX8_added_8 : decode cX8_added 8 = .ok (.iload_n 2, 1) := by decide +kernel
theorem dX8_added_9 : decode cX8_added 9 = .ok (.iload_n 3, 1) := by decide +kernel
theorem dX8_added_10 : decode cX8_added 10 = .ok (.iload_n 1, 1) := by decide +kernel
theorem dX8_added_11 : decode cX8_added 11 = .ok (.invokevirtual 165, 3) := by decide +kernel
theorem dX8_added_14 : decode cX8_added 14 = .ok (.aload_n 0, 1) := by decide +kernel
theorem dX8_added_15 : decode cX8_added 15 = .ok (.iload_n 2, 1) := by decide +kernel
theorem dX8_added_16 : decode cX8_added 16 = .ok (.invokevirtual 104, 3) := by decide +kernel
theorem dX8_added_19 : decode cX8_added 19 = .ok (.ifCond .eq 35, 3) := by decide +kernel
theorem dX8_added_22 : decode cX8_added 22 = .ok (.aload_n 0, 1) := by decide +kernel
theorem dX8_added_23 : decode cX8_added 23 = .ok (.iload_n 2, 1) := by decide +kernel
theorem dX8_added_24 : decode cX8_added 24 = .ok (.invokevirtual 111, 3) := by decide +kernel
theorem dX8_added_27 : decode cX8_added 27 = .ok (.iload 4, 2) := by decide +kernel
theorem dX8_added_29 : decode cX8_added 29 = .ok (.isub, 1) := by decide +kernel
theorem dX8_added_30 : decode cX8_added 30 = .ok (.aload_n 0, 1) := by decide +kernel
theorem dX8_added_31 : decode cX8_added 31 = .ok (.iload_n 2, 1) := by decide +kernel
theorem dX8_added_32 : decode cX8_added 32 = .ok (.iconst 3, 1) := by decide +kernel
theorem dX8_added_33 : decode cX8_added 33 = .ok (.invokevirtual 59, 3) := by decide +kernel
theorem dX8_added_36 : decode cX8_added 36 = .ok (.iconst 1, 1) := by decide +kernel
theorem dX8_added_37 : decode cX8_added 37 = .ok (.if_icmp .ne 12, 3) := by decide +kernel
theorem dX8_added_40 : decode cX8_added 40 = .ok (.aload_n 0, 1) := by decide +kernel
theorem dX8_added_41 : decode cX8_added 41 = .ok (.getfield 11, 3) := by decide +kernel
theorem dX8_added_44 : decode cX8_added 44 = .ok (.iconst 3, 1) := by decide +kernel
theorem dX8_added_45 : decode cX8_added 45 = .ok (.iaload, 1) := by decide +kernel
theorem dX8_added_46 : decode cX8_added 46 = .ok (.goto 4, 3) := by decide +kernel
theorem dX8_added_49 : decode cX8_added 49 = .ok (.iconst 0, 1) := by decide +kernel
theorem dX8_added_50 : decode cX8_added 50 = .ok (.iadd, 1) := by decide +kernel
theorem dX8_added_51 : decode cX8_added 51 = .ok (.goto 5, 3) := by decide +kernel
theorem dX8_added_54 : decode cX8_added 54 = .ok (.ldc 169, 2) := by decide +kernel
theorem dX8_added_56 : decode cX8_added 56 = .ok (.istore 5, 2) := by decide +kernel
theorem dX8_added_58 : decode cX8_added 58 = .ok (.aload_n 0, 1) := by decide +kernel
theorem dX8_added_59 : decode cX8_added 59 = .ok (.iload_n 2, 1) := by decide +kernel
theorem dX8_added_60 : decode cX8_added 60 = .ok (.iload_n 3, 1) := by decide +kernel
theorem dX8_added_61 : decode cX8_added 61 = .ok (.invokevirtual 170, 3) := by decide +kernel
theorem dX8_added_64 : decode cX8_added 64 = .ok (.iload 5, 2) := by decide +kernel
theorem dX8_added_66 : decode cX8_added 66 = .ok (.ireturn, 1) := by decide +kernel
theorem dX8_put_0 : decode cX8_put 0 = .ok (.aload_n 0, 1) := by decide +kernel
theorem dX8_put_1 : decode cX8_put 1 = .ok (.iload_n 1, 1) := by decide +kernel
theorem dX8_put_2 : decode cX8_put 2 = .ok (.invokevirtual 151, 3) := by decide +kernel
theorem dX8_put_5 : decode cX8_put 5 = .ok (.ifCond .eq 10, 3) := by decide +kernel
theorem dX8_put_8 : decode cX8_put 8 = .ok (.iload_n 2, 1) := by decide +kernel
theorem dX8_put_9 : decode cX8_put 9 = .ok (.invokestatic 162, 3) := by decide +kernel
theorem dX8_put_12 : decode cX8_put 12 = .ok (.ifCond .ne 5, 3) := by decide +kernel
theorem dX8_put_15 : decode cX8_put 15 = .ok (.iconst (-1), 1) := by decide +kernel
theorem dX8_put_16 : decode cX8_put 16 = .ok (.ireturn, 1) := by decide +kernel
theorem dX8_put_17 : decode cX8_put 17 = .ok (.aload_n 0, 1) := by decide +kernel
theorem dX8_put_18 : decode cX8_put 18 = .ok (.iload_n 1, 1) := by decide +kernel
theorem dX8_put_19 : decode cX8_put 19 = .ok (.invokevirtual 157, 3) := by decide +kernel
theorem dX8_put_22 : decode cX8_put 22 = .ok (.ifCond .lt 6, 3) := by decide +kernel
theorem dX8_put_25 : decode cX8_put 25 = .ok (.bipush (-3), 2) := by decide +kernel
theorem dX8_put_27 : decode cX8_put 27 = .ok (.ireturn, 1) := by decide +kernel
theorem dX8_put_28 : decode cX8_put 28 = .ok (.iload_n 3, 1) := by decide +kernel
theorem dX8_put_29 : decode cX8_put 29 = .ok (.iconst 0, 1) := by decide +kernel
theorem dX8_put_30 : decode cX8_put 30 = .ok (.aload_n 0, 1) := by decide +kernel
theorem dX8_put_31 : decode cX8_put 31 = .ok (.iload_n 2, 1) := by decide +kernel
theorem dX8_put_32 : decode cX8_put 32 = .ok (.iconst 3, 1) := by decide +kernel
theorem dX8_put_33 : decode cX8_put 33 = .ok (.invokevirtual 59, 3) := by decide +kernel
theorem dX8_put_36 : decode cX8_put 36 = .ok (.invokestatic 55, 3) := by decide +kernel
theorem dX8_put_39 : decode cX8_put 39 = .ok (.ifCond .ne 6, 3) := by decide +kernel
theorem dX8_put_42 : decode cX8_put 42 = .ok (.bipush (-2), 2) := by decide +kernel
theorem dX8_put_44 : decode cX8_put 44 = .ok (.ireturn, 1) := by decide +kernel
theorem dX8_put_45 : decode cX8_put 45 = .ok (.aload_n 0, 1) := by decide +kernel
theorem dX8_put_46 : decode cX8_put 46 = .ok (.iload_n 1, 1) := by decide +kernel
theorem dX8_put_47 : decode cX8_put 47 = .ok (.iload_n 2, 1) := by decide +kernel
theorem dX8_put_48 : decode cX8_put 48 = .ok (.iload_n 3, 1) := by decide +kernel
theorem dX8_put_49 : decode cX8_put 49 = .ok (.invokevirtual 174, 3) := by decide +kernel
theorem dX8_put_52 : decode cX8_put 52 = .ok (.istore 4, 2) := by decide +kernel
theorem dX8_put_54 : decode cX8_put 54 = .ok (.iload 4, 2) := by decide +kernel
theorem dX8_put_56 : decode cX8_put 56 = .ok (.ldc 169, 2) := by decide +kernel
theorem dX8_put_58 : decode cX8_put 58 = .ok (.if_icmp .ne 6, 3) := by decide +kernel
theorem dX8_put_61 : decode cX8_put 61 = .ok (.bipush (-3), 2) := by decide +kernel
theorem dX8_put_63 : decode cX8_put 63 = .ok (.ireturn, 1) := by decide +kernel
theorem dX8_put_64 : decode cX8_put 64 = .ok (.aload_n 0, 1) := by decide +kernel
theorem dX8_put_65 : decode cX8_put 65 = .ok (.iload_n 2, 1) := by decide +kernel
theorem dX8_put_66 : decode cX8_put 66 = .ok (.iload_n 3, 1) := by decide +kernel
theorem dX8_put_67 : decode cX8_put 67 = .ok (.iload_n 1, 1) := by decide +kernel
theorem dX8_put_68 : decode cX8_put 68 = .ok (.invokevirtual 165, 3) := by decide +kernel
theorem dX8_put_71 : decode cX8_put 71 = .ok (.iload 4, 2) := by decide +kernel
theorem dX8_put_73 : decode cX8_put 73 = .ok (.ireturn, 1) := by decide +kernel
theorem dX8_take_0 : decode cX8_take 0 = .ok (.aload_n 0, 1) := by decide +kernel
theorem dX8_take_1 : decode cX8_take 1 = .ok (.iload_n 1, 1) := by decide +kernel
theorem dX8_take_2 : decode cX8_take 2 = .ok (.invokevirtual 151, 3) := by decide +kernel
theorem dX8_take_5 : decode cX8_take 5 = .ok (.ifCond .ne 5, 3) := by decide +kernel
theorem dX8_take_8 : decode cX8_take 8 = .ok (.iconst (-1), 1) := by decide +kernel
theorem dX8_take_9 : decode cX8_take 9 = .ok (.ireturn, 1) := by decide +kernel
theorem dX8_take_10 : decode cX8_take 10 = .ok (.aload_n 0, 1) := by decide +kernel
theorem dX8_take_11 : decode cX8_take 11 = .ok (.iload_n 1, 1) := by decide +kernel
theorem dX8_take_12 : decode cX8_take 12 = .ok (.invokevirtual 157, 3) := by decide +kernel
theorem dX8_take_15 : decode cX8_take 15 = .ok (.istore_n 2, 1) := by decide +kernel
theorem dX8_take_16 : decode cX8_take 16 = .ok (.iload_n 2, 1) := by decide +kernel
theorem dX8_take_17 : decode cX8_take 17 = .ok (.ifCond .lt 14, 3) := by decide +kernel
theorem dX8_take_20 : decode cX8_take 20 = .ok (.aload_n 0, 1) := by decide +kernel
theorem dX8_take_21 : decode cX8_take 21 = .ok (.iload_n 1, 1) := by decide +kernel
theorem dX8_take_22 : decode cX8_take 22 = .ok (.bipush 6, 2) := by decide +kernel
theorem dX8_take_24 : decode cX8_take 24 = .ok (.invokevirtual 78, 3) := by decide +kernel
theorem dX8_take_27 : decode cX8_take 27 = .ok (.iconst 1, 1) := by decide +kernel
theorem dX8_take_28 : decode cX8_take 28 = .ok (.if_icmp .ne 6, 3) := by decide +kernel
theorem dX8_take_31 : decode cX8_take 31 = .ok (.bipush (-3), 2) := by decide +kernel
theorem dX8_take_33 : decode cX8_take 33 = .ok (.ireturn, 1) := by decide +kernel
theorem dX8_take_34 : decode cX8_take 34 = .ok (.aload_n 0, 1) := by decide +kernel
theorem dX8_take_35 : decode cX8_take 35 = .ok (.invokevirtual 177, 3) := by decide +kernel
theorem dX8_take_38 : decode cX8_take 38 = .ok (.istore_n 3, 1) := by decide +kernel
theorem dX8_take_39 : decode cX8_take 39 = .ok (.aload_n 0, 1) := by decide +kernel
theorem dX8_take_40 : decode cX8_take 40 = .ok (.iload_n 2, 1) := by decide +kernel
theorem dX8_take_41 : decode cX8_take 41 = .ok (.iload_n 1, 1) := by decide +kernel
theorem dX8_take_42 : decode cX8_take 42 = .ok (.invokevirtual 66, 3) := by decide +kernel
theorem dX8_take_45 : decode cX8_take 45 = .ok (.istore 4, 2) := by decide +kernel
theorem dX8_take_47 : decode cX8_take 47 = .ok (.aload_n 0, 1) := by decide +kernel
theorem dX8_take_48 : decode cX8_take 48 = .ok (.iload_n 2, 1) := by decide +kernel
theorem dX8_take_49 : decode cX8_take 49 = .ok (.iload 4, 2) := by decide +kernel
theorem dX8_take_51 : decode cX8_take 51 = .ok (.invokevirtual 170, 3) := by decide +kernel
theorem dX8_take_54 : decode cX8_take 54 = .ok (.aload_n 0, 1) := by decide +kernel
theorem dX8_take_55 : decode cX8_take 55 = .ok (.iload_n 2, 1) := by decide +kernel
theorem dX8_take_56 : decode cX8_take 56 = .ok (.invokevirtual 104, 3) := by decide +kernel
theorem dX8_take_59 : decode cX8_take 59 = .ok (.ifCond .eq 10, 3) := by decide +kernel
theorem dX8_take_62 : decode cX8_take 62 = .ok (.iload_n 3, 1) := by decide +kernel
theorem dX8_take_63 : decode cX8_take 63 = .ok (.aload_n 0, 1) := by decide +kernel
theorem dX8_take_64 : decode cX8_take 64 = .ok (.invokevirtual 177, 3) := by decide +kernel
theorem dX8_take_67 : decode cX8_take 67 = .ok (.isub, 1) := by decide +kernel
theorem dX8_take_68 : decode cX8_take 68 = .ok (.ireturn, 1) := by decide +kernel
theorem dX8_take_69 : decode cX8_take 69 = .ok (.aload_n 0, 1) := by decide +kernel
theorem dX8_take_70 : decode cX8_take 70 = .ok (.iload_n 2, 1) := by decide +kernel
theorem dX8_take_71 : decode cX8_take 71 = .ok (.iload 4, 2) := by decide +kernel
theorem dX8_take_73 : decode cX8_take 73 = .ok (.iload_n 1, 1) := by decide +kernel
theorem dX8_take_74 : decode cX8_take 74 = .ok (.invokevirtual 165, 3) := by decide +kernel
theorem dX8_take_77 : decode cX8_take 77 = .ok (.bipush (-3), 2) := by decide +kernel
theorem dX8_take_79 : decode cX8_take 79 = .ok (.ireturn, 1) := by decide +kernel
theorem dX8_clear_0 : decode cX8_clear 0 = .ok (.iload_n 1, 1) := by decide +kernel
theorem dX8_clear_1 : decode cX8_clear 1 = .ok (.invokestatic 162, 3) := by decide +kernel
theorem dX8_clear_4 : decode cX8_clear 4 = .ok (.ifCond .ne 5, 3) := by decide +kernel
theorem dX8_clear_7 : decode cX8_clear 7 = .ok (.iconst (-1), 1) := by decide +kernel
theorem dX8_clear_8 : decode cX8_clear 8 = .ok (.ireturn, 1) := by decide +kernel
theorem dX8_clear_9 : decode cX8_clear 9 = .ok (.aload_n 0, 1) := by decide +kernel
theorem dX8_clear_10 : decode cX8_clear 10 = .ok (.invokevirtual 181, 3) := by decide +kernel
theorem dX8_clear_13 : decode cX8_clear 13 = .ok (.iconst 0, 1) := by decide +kernel
theorem dX8_clear_14 : decode cX8_clear 14 = .ok (.istore_n 2, 1) := by decide +kernel
theorem dX8_clear_15 : decode cX8_clear 15 = .ok (.aload_n 0, 1) := by decide +kernel
theorem dX8_clear_16 : decode cX8_clear 16 = .ok (.iload_n 1, 1) := by decide +kernel
theorem dX8_clear_17 : decode cX8_clear 17 = .ok (.iconst 3, 1) := by decide +kernel
theorem dX8_clear_18 : decode cX8_clear 18 = .ok (.invokevirtual 59, 3) := by decide +kernel
theorem dX8_clear_21 : decode cX8_clear 21 = .ok (.iconst 1, 1) := by decide +kernel
theorem dX8_clear_22 : decode cX8_clear 22 = .ok (.isub, 1) := by decide +kernel
theorem dX8_clear_23 : decode cX8_clear 23 = .ok (.istore_n 3, 1) := by decide +kernel
theorem dX8_clear_24 : decode cX8_clear 24 = .ok (.iload_n 3, 1) := by decide +kernel
theorem dX8_clear_25 : decode cX8_clear 25 = .ok (.ifCond .lt 37, 3) := by decide +kernel
theorem dX8_clear_28 : decode cX8_clear 28 = .ok (.aload_n 0, 1) := by decide +kernel
theorem dX8_clear_29 : decode cX8_clear 29 = .ok (.aload_n 0, 1) := by decide +kernel
theorem dX8_clear_30 : decode cX8_clear 30 = .ok (.iload_n 1, 1) := by decide +kernel
theorem dX8_clear_31 : decode cX8_clear 31 = .ok (.iload_n 3, 1) := by decide +kernel
theorem dX8_clear_32 : decode cX8_clear 32 = .ok (.invokevirtual 63, 3) := by decide +kernel
theorem dX8_clear_35 : decode cX8_clear 35 = .ok (.bipush 6, 2) := by decide +kernel
theorem dX8_clear_37 : decode cX8_clear 37 = .ok (.invokevirtual 78, 3) := by decide +kernel
theorem dX8_clear_40 : decode cX8_clear 40 = .ok (.iconst 1, 1) := by decide +kernel
theorem dX8_clear_41 : decode cX8_clear 41 = .ok (.if_icmp .ne 6, 3) := by decide +kernel
theorem dX8_clear_44 : decode cX8_clear 44 = .ok (.goto 12, 3) := by decide +kernel
theorem dX8_clear_47 : decode cX8_clear 47 = .ok (.aload_n 0, 1) := by decide +kernel
theorem dX8_clear_48 : decode cX8_clear 48 = .ok (.iload_n 1, 1) := by decide +kernel
theorem dX8_clear_49 : decode cX8_clear 49 = .ok (.iload_n 3, 1) := by decide +kernel
theorem dX8_clear_50 : decode cX8_clear 50 = .ok (.invokevirtual 170, 3) := by decide +kernel
theorem dX8_clear_53 : decode cX8_clear 53 = .ok (.iinc 2 1, 3) := by decide +kernel
theorem dX8_clear_56 : decode cX8_clear 56 = .ok (.iinc 3 (-1), 3) := by decide +kernel
theorem dX8_clear_59 : decode cX8_clear 59 = .ok (.goto (-35), 3) := by decide +kernel
theorem dX8_clear_62 : decode cX8_clear 62 = .ok (.aload_n 0, 1) := by decide +kernel
theorem dX8_clear_63 : decode cX8_clear 63 = .ok (.iload_n 1, 1) := by decide +kernel
theorem dX8_clear_64 : decode cX8_clear 64 = .ok (.invokevirtual 104, 3) := by decide +kernel
theorem dX8_clear_67 : decode cX8_clear 67 = .ok (.ifCond .eq 5, 3) := by decide +kernel
theorem dX8_clear_70 : decode cX8_clear 70 = .ok (.iload_n 2, 1) := by decide +kernel
theorem dX8_clear_71 : decode cX8_clear 71 = .ok (.ireturn, 1) := by decide +kernel
theorem dX8_clear_72 : decode cX8_clear 72 = .ok (.aload_n 0, 1) := by decide +kernel
theorem dX8_clear_73 : decode cX8_clear 73 = .ok (.invokevirtual 184, 3) := by decide +kernel
theorem dX8_clear_76 : decode cX8_clear 76 = .ok (.bipush (-3), 2) := by decide +kernel
theorem dX8_clear_78 : decode cX8_clear 78 = .ok (.ireturn, 1) := by decide +kernel
theorem dX8_cheapestOf_0 : decode cX8_cheapestOf 0 = .ok (.aload_n 0, 1) := by decide +kernel
theorem dX8_cheapestOf_1 : decode cX8_cheapestOf 1 = .ok (.bipush (-5), 2) := by decide +kernel
theorem dX8_cheapestOf_3 : decode cX8_cheapestOf 3 = .ok (.putfield 187, 3) := by decide +kernel
theorem dX8_cheapestOf_6 : decode cX8_cheapestOf 6 = .ok (.aload_n 0, 1) := by decide +kernel
theorem dX8_cheapestOf_7 : decode cX8_cheapestOf 7 = .ok (.ldc 169, 2) := by decide +kernel
theorem dX8_cheapestOf_9 : decode cX8_cheapestOf 9 = .ok (.putfield 190, 3) := by decide +kernel
theorem dX8_cheapestOf_12 : decode cX8_cheapestOf 12 = .ok (.iconst 0, 1) := by decide +kernel
theorem dX8_cheapestOf_13 : decode cX8_cheapestOf 13 = .ok (.istore_n 3, 1) := by decide +kernel
theorem dX8_cheapestOf_14 : decode cX8_cheapestOf 14 = .ok (.iload_n 3, 1) := by decide +kernel
theorem dX8_cheapestOf_15 : decode cX8_cheapestOf 15 = .ok (.aload_n 0, 1) := by decide +kernel
theorem dX8_cheapestOf_16 : decode cX8_cheapestOf 16 = .ok (.iload_n 2, 1) := by decide +kernel
theorem dX8_cheapestOf_17 : decode cX8_cheapestOf 17 = .ok (.iconst 3, 1) := by decide +kernel
theorem dX8_cheapestOf_18 : decode cX8_cheapestOf 18 = .ok (.invokevirtual 59, 3) := by decide +kernel
theorem dX8_cheapestOf_21 : decode cX8_cheapestOf 21 = .ok (.if_icmp .gt 55, 3) := by decide +kernel
theorem dX8_cheapestOf_24 : decode cX8_cheapestOf 24 = .ok (.aload_n 0, 1) := by decide +kernel
theorem dX8_cheapestOf_25 : decode cX8_cheapestOf 25 = .ok (.iload_n 1, 1) := by decide +kernel
theorem dX8_cheapestOf_26 : decode cX8_cheapestOf 26 = .ok (.iload_n 2, 1) := by decide +kernel
theorem dX8_cheapestOf_27 : decode cX8_cheapestOf 27 = .ok (.iload_n 3, 1) := by decide +kernel
theorem dX8_cheapestOf_28 : decode cX8_cheapestOf 28 = .ok (.invokevirtual 174, 3) := by decide +kernel
theorem dX8_cheapestOf_31 : decode cX8_cheapestOf 31 = .ok (.istore 4, 2) := by decide +kernel
theorem dX8_cheapestOf_33 : decode cX8_cheapestOf 33 = .ok (.iload 4, 2) := by decide +kernel
theorem dX8_cheapestOf_35 : decode cX8_cheapestOf 35 = .ok (.ldc 169, 2) := by decide +kernel
theorem dX8_cheapestOf_37 : decode cX8_cheapestOf 37 = .ok (.if_icmp .eq 33, 3) := by decide +kernel
theorem dX8_cheapestOf_40 : decode cX8_cheapestOf 40 = .ok (.aload_n 0, 1) := by decide +kernel
theorem dX8_cheapestOf_41 : decode cX8_cheapestOf 41 = .ok (.getfield 187, 3) := by decide +kernel
theorem dX8_cheapestOf_44 : decode cX8_cheapestOf 44 = .ok (.ifCond .lt 15, 3) := by decide +kernel
theorem dX8_cheapestOf_47 : decode cX8_cheapestOf 47 = .ok (.iload 4, 2) := by decide +kernel
theorem dX8_cheapestOf_49 : decode cX8_cheapestOf 49 = .ok (.aload_n 0, 1) := by decide +kernel
theorem dX8_cheapestOf_50 : decode cX8_cheapestOf 50 = .ok (.getfield 190, 3) := by decide +kernel
theorem dX8_cheapestOf_53 : decode cX8_cheapestOf 53 = .ok (.if_icmp .lt 6, 3) := by decide +kernel
theorem dX8_cheapestOf_56 : decode cX8_cheapestOf 56 = .ok (.goto 14, 3) := by decide +kernel
theorem dX8_cheapestOf_59 : decode cX8_cheapestOf 59 = .ok (.aload_n 0, 1) := by decide +kernel
theorem dX8_cheapestOf_60 : decode cX8_cheapestOf 60 = .ok (.iload_n 3, 1) := by decide +kernel
theorem dX8_cheapestOf_61 : decode cX8_cheapestOf 61 = .ok (.putfield 187, 3) := by decide +kernel
theorem dX8_cheapestOf_64 : decode cX8_cheapestOf 64 = .ok (.aload_n 0, 1) := by decide +kernel
theorem dX8_cheapestOf_65 : decode cX8_cheapestOf 65 = .ok (.iload 4, 2) := by decide +kernel
theorem dX8_cheapestOf_67 : decode cX8_cheapestOf 67 = .ok (.putfield 190, 3) := by decide +kernel
theorem dX8_cheapestOf_70 : decode cX8_cheapestOf 70 = .ok (.iinc 3 1, 3) := by decide +kernel
theorem dX8_cheapestOf_73 : decode cX8_cheapestOf 73 = .ok (.goto (-59), 3) := by decide +kernel
theorem dX8_cheapestOf_76 : decode cX8_cheapestOf 76 = .ok (.aload_n 0, 1) := by decide +kernel
theorem dX8_cheapestOf_77 : decode cX8_cheapestOf 77 = .ok (.getfield 187, 3) := by decide +kernel
theorem dX8_cheapestOf_80 : decode cX8_cheapestOf 80 = .ok (.ifCond .lt 7, 3) := by decide +kernel
theorem dX8_cheapestOf_83 : decode cX8_cheapestOf 83 = .ok (.iconst 1, 1) := by decide +kernel
theorem dX8_cheapestOf_84 : decode cX8_cheapestOf 84 = .ok (.goto 4, 3) := by decide +kernel
theorem dX8_cheapestOf_87 : decode cX8_cheapestOf 87 = .ok (.iconst 0, 1) := by decide +kernel
theorem dX8_cheapestOf_88 : decode cX8_cheapestOf 88 = .ok (.ireturn, 1) := by decide +kernel
theorem dX8_cheapestOfAll_0 : decode cX8_cheapestOfAll 0 = .ok (.aload_n 0, 1) := by decide +kernel
theorem dX8_cheapestOfAll_1 : decode cX8_cheapestOfAll 1 = .ok (.bipush (-5), 2) := by decide +kernel
theorem dX8_cheapestOfAll_3 : decode cX8_cheapestOfAll 3 = .ok (.putfield 193, 3) := by decide +kernel
theorem dX8_cheapestOfAll_6 : decode cX8_cheapestOfAll 6 = .ok (.bipush (-5), 2) := by decide +kernel
theorem dX8_cheapestOfAll_8 : decode cX8_cheapestOfAll 8 = .ok (.istore_n 2, 1) := by decide +kernel
theorem dX8_cheapestOfAll_9 : decode cX8_cheapestOfAll 9 = .ok (.ldc 169, 2) := by decide +kernel
theorem dX8_cheapestOfAll_11 : decode cX8_cheapestOfAll 11 = .ok (.istore_n 3, 1) := by decide +kernel
theorem dX8_cheapestOfAll_12 : decode cX8_cheapestOfAll 12 = .ok (.ldc 169, 2) := by decide +kernel
theorem dX8_cheapestOfAll_14 : decode cX8_cheapestOfAll 14 = .ok (.istore 4, 2) := by decide +kernel
theorem dX8_cheapestOfAll_16 : decode cX8_cheapestOfAll 16 = .ok (.iconst 0, 1) := by decide +kernel
theorem dX8_cheapestOfAll_17 : decode cX8_cheapestOfAll 17 = .ok (.istore 5, 2) := by decide +kernel
theorem dX8_cheapestOfAll_19 : decode cX8_cheapestOfAll 19 = .ok (.iload 5, 2) := by decide +kernel
theorem dX8_cheapestOfAll_21 : decode cX8_cheapestOfAll 21 = .ok (.iconst 4, 1) := by decide +kernel
theorem dX8_cheapestOfAll_22 : decode cX8_cheapestOfAll 22 = .ok (.if_icmp .ge 81, 3) := by decide +kernel
theorem dX8_cheapestOfAll_25 : decode cX8_cheapestOfAll 25 = .ok (.aload_n 0, 1) := by decide +kernel
theorem dX8_cheapestOfAll_26 : decode cX8_cheapestOfAll 26 = .ok (.iload_n 1, 1) := by decide +kernel
theorem dX8_cheapestOfAll_27 : decode cX8_cheapestOfAll 27 = .ok (.iload 5, 2) := by decide +kernel
theorem dX8_cheapestOfAll_29 : decode cX8_cheapestOfAll 29 = .ok (.invokevirtual 196, 3) := by decide +kernel
theorem dX8_cheapestOfAll_32 : decode cX8_cheapestOfAll 32 = .ok (.ifCond .ne 6, 3) := by decide +kernel
theorem dX8_cheapestOfAll_35 : decode cX8_cheapestOfAll 35 = .ok (.goto 62, 3) := by decide +kernel
theorem dX8_cheapestOfAll_38 : decode cX8_cheapestOfAll 38 = .ok (.aload_n 0, 1) := by decide +kernel
theorem dX8_cheapestOfAll_39 : decode cX8_cheapestOfAll 39 = .ok (.getfield 193, 3) := by decide +kernel
theorem dX8_cheapestOfAll_42 : decode cX8_cheapestOfAll 42 = .ok (.ifCond .lt 11, 3) := by decide +kernel
theorem dX8_cheapestOfAll_45 : decode cX8_cheapestOfAll 45 = .ok (.aload_n 0, 1) := by decide +kernel
theorem dX8_cheapestOfAll_46 : decode cX8_cheapestOfAll 46 = .ok (.getfield 190, 3) := by decide +kernel
theorem dX8_cheapestOfAll_49 : decode cX8_cheapestOfAll 49 = .ok (.iload_n 3, 1) := by decide +kernel
theorem dX8_cheapestOfAll_50 : decode cX8_cheapestOfAll 50 = .ok (.if_icmp .ge 25, 3) := by decide +kernel
theorem dX8_cheapestOfAll_53 : decode cX8_cheapestOfAll 53 = .ok (.iload_n 3, 1) := by decide +kernel
theorem dX8_cheapestOfAll_54 : decode cX8_cheapestOfAll 54 = .ok (.istore 4, 2) := by decide +kernel
theorem dX8_cheapestOfAll_56 : decode cX8_cheapestOfAll 56 = .ok (.aload_n 0, 1) := by decide +kernel
theorem dX8_cheapestOfAll_57 : decode cX8_cheapestOfAll 57 = .ok (.getfield 190, 3) := by decide +kernel
theorem dX8_cheapestOfAll_60 : decode cX8_cheapestOfAll 60 = .ok (.istore_n 3, 1) := by decide +kernel
theorem dX8_cheapestOfAll_61 : decode cX8_cheapestOfAll 61 = .ok (.aload_n 0, 1) := by decide +kernel
theorem dX8_cheapestOfAll_62 : decode cX8_cheapestOfAll 62 = .ok (.getfield 187, 3) := by decide +kernel
theorem dX8_cheapestOfAll_65 : decode cX8_cheapestOfAll 65 = .ok (.istore_n 2, 1) := by decide +kernel
theorem dX8_cheapestOfAll_66 : decode cX8_cheapestOfAll 66 = .ok (.aload_n 0, 1) := by decide +kernel
theorem dX8_cheapestOfAll_67 : decode cX8_cheapestOfAll 67 = .ok (.iload 5, 2) := by decide +kernel
theorem dX8_cheapestOfAll_69 : decode cX8_cheapestOfAll 69 = .ok (.putfield 193, 3) := by decide +kernel
theorem dX8_cheapestOfAll_72 : decode cX8_cheapestOfAll 72 = .ok (.goto 25, 3) := by decide +kernel
theorem dX8_cheapestOfAll_75 : decode cX8_cheapestOfAll 75 = .ok (.iload 4, 2) := by decide +kernel
theorem dX8_cheapestOfAll_77 : decode cX8_cheapestOfAll 77 = .ok (.ldc 169, 2) := by decide +kernel
theorem dX8_cheapestOfAll_79 : decode cX8_cheapestOfAll 79 = .ok (.if_icmp .eq 12, 3) := by decide +kernel
theorem dX8_cheapestOfAll_82 : decode cX8_cheapestOfAll 82 = .ok (.aload_n 0, 1) := by decide +kernel
theorem dX8_cheapestOfAll_83 : decode cX8_cheapestOfAll 83 = .ok (.getfield 190, 3) := by decide +kernel
theorem dX8_cheapestOfAll_86 : decode cX8_cheapestOfAll 86 = .ok (.iload 4, 2) := by decide +kernel
theorem dX8_cheapestOfAll_88 : decode cX8_cheapestOfAll 88 = .ok (.if_icmp .ge 9, 3) := by decide +kernel
theorem dX8_cheapestOfAll_91 : decode cX8_cheapestOfAll 91 = .ok (.aload_n 0, 1) := by decide +kernel
theorem dX8_cheapestOfAll_92 : decode cX8_cheapestOfAll 92 = .ok (.getfield 190, 3) := by decide +kernel
theorem dX8_cheapestOfAll_95 : decode cX8_cheapestOfAll 95 = .ok (.istore 4, 2) := by decide +kernel
theorem dX8_cheapestOfAll_97 : decode cX8_cheapestOfAll 97 = .ok (.iinc 5 1, 3) := by decide +kernel
theorem dX8_cheapestOfAll_100 : decode cX8_cheapestOfAll 100 = .ok (.goto (-81), 3) := by decide +kernel
theorem dX8_cheapestOfAll_103 : decode cX8_cheapestOfAll 103 = .ok (.aload_n 0, 1) := by decide +kernel
theorem dX8_cheapestOfAll_104 : decode cX8_cheapestOfAll 104 = .ok (.iload_n 2, 1) := by decide +kernel
theorem dX8_cheapestOfAll_105 : decode cX8_cheapestOfAll 105 = .ok (.putfield 187, 3) := by decide +kernel
theorem dX8_cheapestOfAll_108 : decode cX8_cheapestOfAll 108 = .ok (.aload_n 0, 1) := by decide +kernel
theorem dX8_cheapestOfAll_109 : decode cX8_cheapestOfAll 109 = .ok (.iload_n 3, 1) := by decide +kernel
theorem dX8_cheapestOfAll_110 : decode cX8_cheapestOfAll 110 = .ok (.putfield 190, 3) := by decide +kernel
theorem dX8_cheapestOfAll_113 : decode cX8_cheapestOfAll 113 = .ok (.aload_n 0, 1) := by decide +kernel
theorem dX8_cheapestOfAll_114 : decode cX8_cheapestOfAll 114 = .ok (.iload 4, 2) := by decide +kernel
theorem dX8_cheapestOfAll_116 : decode cX8_cheapestOfAll 116 = .ok (.ldc 169, 2) := by decide +kernel
theorem dX8_cheapestOfAll_118 : decode cX8_cheapestOfAll 118 = .ok (.if_icmp .ne 9, 3) := by decide +kernel
theorem dX8_cheapestOfAll_121 : decode cX8_cheapestOfAll 121 = .ok (.sipush 10000, 3) := by decide +kernel
theorem dX8_cheapestOfAll_124 : decode cX8_cheapestOfAll 124 = .ok (.goto 7, 3) := by decide +kernel
theorem dX8_cheapestOfAll_127 : decode cX8_cheapestOfAll 127 = .ok (.iload 4, 2) := by decide +kernel
theorem dX8_cheapestOfAll_129 : decode cX8_cheapestOfAll 129 = .ok (.iload_n 3, 1) := by decide +kernel
theorem dX8_cheapestOfAll_130 : decode cX8_cheapestOfAll 130 = .ok (.isub, 1) := by decide +kernel
theorem dX8_cheapestOfAll_131 : decode cX8_cheapestOfAll 131 = .ok (.putfield 199, 3) := by decide +kernel
theorem dX8_cheapestOfAll_134 : decode cX8_cheapestOfAll 134 = .ok (.aload_n 0, 1) := by decide +kernel
theorem dX8_cheapestOfAll_135 : decode cX8_cheapestOfAll 135 = .ok (.getfield 193, 3) := by decide +kernel
theorem dX8_cheapestOfAll_138 : decode cX8_cheapestOfAll 138 = .ok (.ifCond .lt 7, 3) := by decide +kernel
theorem dX8_cheapestOfAll_141 : decode cX8_cheapestOfAll 141 = .ok (.iconst 1, 1) := by decide +kernel
theorem dX8_cheapestOfAll_142 : decode cX8_cheapestOfAll 142 = .ok (.goto 4, 3) := by decide +kernel
theorem dX8_cheapestOfAll_145 : decode cX8_cheapestOfAll 145 = .ok (.iconst 0, 1) := by decide +kernel
theorem dX8_cheapestOfAll_146 : decode cX8_cheapestOfAll 146 = .ok (.ireturn, 1) := by decide +kernel
theorem dX8_fills_0 : decode cX8_fills 0 = .ok (.iconst 0, 1) := by decide +kernel
theorem dX8_fills_1 : decode cX8_fills 1 = .ok (.istore_n 1, 1) := by decide +kernel
theorem dX8_fills_2 : decode cX8_fills 2 = .ok (.bipush (-5), 2) := by decide +kernel
theorem dX8_fills_4 : decode cX8_fills 4 = .ok (.istore_n 2, 1) := by decide +kernel
theorem dX8_fills_5 : decode cX8_fills 5 = .ok (.iconst 0, 1) := by decide +kernel
theorem dX8_fills_6 : decode cX8_fills 6 = .ok (.istore_n 3, 1) := by decide +kernel
theorem dX8_fills_7 : decode cX8_fills 7 = .ok (.iconst 0, 1) := by decide +kernel
theorem dX8_fills_8 : decode cX8_fills 8 = .ok (.istore 4, 2) := by decide +kernel
theorem dX8_fills_10 : decode cX8_fills 10 = .ok (.iconst 0, 1) := by decide +kernel
theorem dX8_fills_11 : decode cX8_fills 11 = .ok (.istore 5, 2) := by decide +kernel
theorem dX8_fills_13 : decode cX8_fills 13 = .ok (.iconst 0, 1) := by decide +kernel
theorem dX8_fills_14 : decode cX8_fills 14 = .ok (.istore 6, 2) := by decide +kernel
theorem dX8_fills_16 : decode cX8_fills 16 = .ok (.iconst 0, 1) := by decide +kernel
theorem dX8_fills_17 : decode cX8_fills 17 = .ok (.istore 7, 2) := by decide +kernel
theorem dX8_fills_19 : decode cX8_fills 19 = .ok (.iload 7, 2) := by decide +kernel
theorem dX8_fills_21 : decode cX8_fills 21 = .ok (.aload_n 0, 1) := by decide +kernel
theorem dX8_fills_22 : decode cX8_fills 22 = .ok (.getfield 11, 3) := by decide +kernel
theorem dX8_fills_25 : decode cX8_fills 25 = .ok (.iconst 4, 1) := by decide +kernel
theorem dX8_fills_26 : decode cX8_fills 26 = .ok (.iaload, 1) := by decide +kernel
theorem dX8_fills_27 : decode cX8_fills 27 = .ok (.if_icmp .ge 88, 3) := by decide +kernel
theorem dX8_fills_30 : decode cX8_fills 30 = .ok (.aload_n 0, 1) := by decide +kernel
theorem dX8_fills_31 : decode cX8_fills 31 = .ok (.iload 7, 2) := by decide +kernel
theorem dX8_fills_33 : decode cX8_fills 33 = .ok (.invokevirtual 157, 3) := by decide +kernel
theorem dX8_fills_36 : decode cX8_fills 36 = .ok (.ifCond .ge 73, 3) := by decide +kernel
theorem dX8_fills_39 : decode cX8_fills 39 = .ok (.aload_n 0, 1) := by decide +kernel
theorem dX8_fills_40 : decode cX8_fills 40 = .ok (.iload 7, 2) := by decide +kernel
theorem dX8_fills_42 : decode cX8_fills 42 = .ok (.invokevirtual 202, 3) := by decide +kernel
theorem dX8_fills_45 : decode cX8_fills 45 = .ok (.ifCond .ne 6, 3) := by decide +kernel
theorem dX8_fills_48 : decode cX8_fills 48 = .ok (.goto 61, 3) := by decide +kernel
theorem dX8_fills_51 : decode cX8_fills 51 = .ok (.iload_n 2, 1) := by decide +kernel
theorem dX8_fills_52 : decode cX8_fills 52 = .ok (.ifCond .lt 31, 3) := by decide +kernel
theorem dX8_fills_55 : decode cX8_fills 55 = .ok (.aload_n 0, 1) := by decide +kernel
theorem dX8_fills_56 : decode cX8_fills 56 = .ok (.getfield 199, 3) := by decide +kernel
theorem dX8_fills_59 : decode cX8_fills 59 = .ok (.iload_n 3, 1) := by decide +kernel
theorem dX8_fills_60 : decode cX8_fills 60 = .ok (.if_icmp .lt 49, 3) := by decide +kernel
theorem dX8_fills_63 : decode cX8_fills 63 = .ok (.aload_n 0, 1) := by decide +kernel
theorem dX8_fills_64 : decode cX8_fills 64 = .ok (.getfield 199, 3) := by decide +kernel
theorem dX8_fills_67 : decode cX8_fills 67 = .ok (.iload_n 3, 1) := by decide +kernel
theorem dX8_fills_68 : decode cX8_fills 68 = .ok (.if_icmp .ne 15, 3) := by decide +kernel
theorem dX8_fills_71 : decode cX8_fills 71 = .ok (.aload_n 0, 1) := by decide +kernel
theorem dX8_fills_72 : decode cX8_fills 72 = .ok (.getfield 190, 3) := by decide +kernel
theorem dX8_fills_75 : decode cX8_fills 75 = .ok (.iload 4, 2) := by decide +kernel
theorem dX8_fills_77 : decode cX8_fills 77 = .ok (.if_icmp .lt 6, 3) := by decide +kernel
theorem dX8_fills_80 : decode cX8_fills 80 = .ok (.goto 29, 3) := by decide +kernel
theorem dX8_fills_83 : decode cX8_fills 83 = .ok (.iload 7, 2) := by decide +kernel
theorem dX8_fills_85 : decode cX8_fills 85 = .ok (.istore_n 2, 1) := by decide +kernel
theorem dX8_fills_86 : decode cX8_fills 86 = .ok (.aload_n 0, 1) := by decide +kernel
theorem dX8_fills_87 : decode cX8_fills 87 = .ok (.getfield 199, 3) := by decide +kernel
theorem dX8_fills_90 : decode cX8_fills 90 = .ok (.istore_n 3, 1) := by decide +kernel
theorem dX8_fills_91 : decode cX8_fills 91 = .ok (.aload_n 0, 1) := by decide +kernel
theorem dX8_fills_92 : decode cX8_fills 92 = .ok (.getfield 190, 3) := by decide +kernel
theorem dX8_fills_95 : decode cX8_fills 95 = .ok (.istore 4, 2) := by decide +kernel
theorem dX8_fills_97 : decode cX8_fills 97 = .ok (.aload_n 0, 1) := by decide +kernel
theorem dX8_fills_98 : decode cX8_fills 98 = .ok (.getfield 193, 3) := by decide +kernel
theorem dX8_fills_101 : decode cX8_fills 101 = .ok (.istore 5, 2) := by decide +kernel
theorem dX8_fills_103 : decode cX8_fills 103 = .ok (.aload_n 0, 1) := by decide +kernel
theorem dX8_fills_104 : decode cX8_fills 104 = .ok (.getfield 187, 3) := by decide +kernel
theorem dX8_fills_107 : decode cX8_fills 107 = .ok (.istore 6, 2) := by decide +kernel
theorem dX8_fills_109 : decode cX8_fills 109 = .ok (.iinc 7 1, 3) := by decide +kernel
theorem dX8_fills_112 : decode cX8_fills 112 = .ok (.goto (-93), 3) := by decide +kernel
theorem dX8_fills_115 : decode cX8_fills 115 = .ok (.iload_n 2, 1) := by decide +kernel
theorem dX8_fills_116 : decode cX8_fills 116 = .ok (.ifCond .ge 5, 3) := by decide +kernel
theorem dX8_fills_119 : decode cX8_fills 119 = .ok (.iload_n 1, 1) := by decide +kernel
theorem dX8_fills_120 : decode cX8_fills 120 = .ok (.ireturn, 1) := by decide +kernel
theorem dX8_fills_121 : decode cX8_fills 121 = .ok (.aload_n 0, 1) := by decide +kernel
theorem dX8_fills_122 : decode cX8_fills 122 = .ok (.iload 5, 2) := by decide +kernel
theorem dX8_fills_124 : decode cX8_fills 124 = .ok (.iload 6, 2) := by decide +kernel
theorem dX8_fills_126 : decode cX8_fills 126 = .ok (.iload_n 2, 1) := by decide +kernel
theorem dX8_fills_127 : decode cX8_fills 127 = .ok (.invokevirtual 165, 3) := by decide +kernel
theorem dX8_fills_130 : decode cX8_fills 130 = .ok (.iinc 1 1, 3) := by decide +kernel
theorem dX8_fills_133 : decode cX8_fills 133 = .ok (.goto (-131), 3) := by decide +kernel
theorem dX8_works_0 : decode cX8_works 0 = .ok (.aload_n 0, 1) := by decide +kernel
theorem dX8_works_1 : decode cX8_works 1 = .ok (.getfield 205, 3) := by decide +kernel
theorem dX8_works_4 : decode cX8_works 4 = .ok (.iload_n 1, 1) := by decide +kernel
theorem dX8_works_5 : decode cX8_works 5 = .ok (.iadd, 1) := by decide +kernel
theorem dX8_works_6 : decode cX8_works 6 = .ok (.sipush 1500, 3) := by decide +kernel
theorem dX8_works_9 : decode cX8_works 9 = .ok (.if_icmp .le 5, 3) := by decide +kernel
theorem dX8_works_12 : decode cX8_works 12 = .ok (.iconst 0, 1) := by decide +kernel
theorem dX8_works_13 : decode cX8_works 13 = .ok (.ireturn, 1) := by decide +kernel
theorem dX8_works_14 : decode cX8_works 14 = .ok (.aload_n 0, 1) := by decide +kernel
theorem dX8_works_15 : decode cX8_works 15 = .ok (.dup, 1) := by decide +kernel
theorem dX8_works_16 : decode cX8_works 16 = .ok (.getfield 205, 3) := by decide +kernel
theorem dX8_works_19 : decode cX8_works 19 = .ok (.iload_n 1, 1) := by decide +kernel
theorem dX8_works_20 : decode cX8_works 20 = .ok (.iadd, 1) := by decide +kernel
theorem dX8_works_21 : decode cX8_works 21 = .ok (.putfield 205, 3) := by decide +kernel
theorem dX8_works_24 : decode cX8_works 24 = .ok (.iconst 1, 1) := by decide +kernel
theorem dX8_works_25 : decode cX8_works 25 = .ok (.ireturn, 1) := by decide +kernel
theorem dX8_fill_0 : decode cX8_fill 0 = .ok (.aload_n 0, 1) := by decide +kernel
theorem dX8_fill_1 : decode cX8_fill 1 = .ok (.iconst 1, 1) := by decide +kernel
theorem dX8_fill_2 : decode cX8_fill 2 = .ok (.invokevirtual 208, 3) := by decide +kernel
theorem dX8_fill_5 : decode cX8_fill 5 = .ok (.ifCond .eq 10, 3) := by decide +kernel
theorem dX8_fill_8 : decode cX8_fill 8 = .ok (.aload_n 0, 1) := by decide +kernel
theorem dX8_fill_9 : decode cX8_fill 9 = .ok (.invokevirtual 211, 3) := by decide +kernel
theorem dX8_fill_12 : decode cX8_fill 12 = .ok (.goto 5, 3) := by decide +kernel
theorem dX8_fill_15 : decode cX8_fill 15 = .ok (.bipush (-4), 2) := by decide +kernel
theorem dX8_fill_17 : decode cX8_fill 17 = .ok (.ireturn, 1) := by decide +kernel
theorem dX8_reverses_0 : decode cX8_reverses 0 = .ok (.sipush 178, 3) := by decide +kernel
theorem dX8_reverses_3 : decode cX8_reverses 3 = .ok (.bipush 20, 2) := by decide +kernel
theorem dX8_reverses_5 : decode cX8_reverses 5 = .ok (.iload_n 1, 1) := by decide +kernel
theorem dX8_reverses_6 : decode cX8_reverses 6 = .ok (.imul, 1) := by decide +kernel
theorem dX8_reverses_7 : decode cX8_reverses 7 = .ok (.iadd, 1) := by decide +kernel
theorem dX8_reverses_8 : decode cX8_reverses 8 = .ok (.iconst 4, 1) := by decide +kernel
theorem dX8_reverses_9 : decode cX8_reverses 9 = .ok (.iadd, 1) := by decide +kernel
theorem dX8_reverses_10 : decode cX8_reverses 10 = .ok (.istore 4, 2) := by decide +kernel
theorem dX8_reverses_12 : decode cX8_reverses 12 = .ok (.iload_n 2, 1) := by decide +kernel
theorem dX8_reverses_13 : decode cX8_reverses 13 = .ok (.istore 5, 2) := by decide +kernel
theorem dX8_reverses_15 : decode cX8_reverses 15 = .ok (.iload_n 3, 1) := by decide +kernel
theorem dX8_reverses_16 : decode cX8_reverses 16 = .ok (.istore 6, 2) := by decide +kernel
theorem dX8_reverses_18 : decode cX8_reverses 18 = .ok (.iload 5, 2) := by decide +kernel
theorem dX8_reverses_20 : decode cX8_reverses 20 = .ok (.iload 6, 2) := by decide +kernel
theorem dX8_reverses_22 : decode cX8_reverses 22 = .ok (.if_icmp .ge 56, 3) := by decide +kernel
theorem dX8_reverses_25 : decode cX8_reverses 25 = .ok (.aload_n 0, 1) := by decide +kernel
theorem dX8_reverses_26 : decode cX8_reverses 26 = .ok (.getfield 11, 3) := by decide +kernel
theorem dX8_reverses_29 : decode cX8_reverses 29 = .ok (.iload 4, 2) := by decide +kernel
theorem dX8_reverses_31 : decode cX8_reverses 31 = .ok (.iload 5, 2) := by decide +kernel
theorem dX8_reverses_33 : decode cX8_reverses 33 = .ok (.iadd, 1) := by decide +kernel
theorem dX8_reverses_34 : decode cX8_reverses 34 = .ok (.iaload, 1) := by decide +kernel
theorem dX8_reverses_35 : decode cX8_reverses 35 = .ok (.istore 7, 2) := by decide +kernel
theorem dX8_reverses_37 : decode cX8_reverses 37 = .ok (.aload_n 0, 1) := by decide +kernel
theorem dX8_reverses_38 : decode cX8_reverses 38 = .ok (.getfield 11, 3) := by decide +kernel
theorem dX8_reverses_41 : decode cX8_reverses 41 = .ok (.iload 4, 2) := by decide +kernel
theorem dX8_reverses_43 : decode cX8_reverses 43 = .ok (.iload 5, 2) := by decide +kernel
theorem dX8_reverses_45 : decode cX8_reverses 45 = .ok (.iadd, 1) := by decide +kernel
theorem dX8_reverses_46 : decode cX8_reverses 46 = .ok (.aload_n 0, 1) := by decide +kernel
theorem dX8_reverses_47 : decode cX8_reverses 47 = .ok (.getfield 11, 3) := by decide +kernel
theorem dX8_reverses_50 : decode cX8_reverses 50 = .ok (.iload 4, 2) := by decide +kernel
theorem dX8_reverses_52 : decode cX8_reverses 52 = .ok (.iload 6, 2) := by decide +kernel
theorem dX8_reverses_54 : decode cX8_reverses 54 = .ok (.iadd, 1) := by decide +kernel
theorem dX8_reverses_55 : decode cX8_reverses 55 = .ok (.iaload, 1) := by decide +kernel
theorem dX8_reverses_56 : decode cX8_reverses 56 = .ok (.iastore, 1) := by decide +kernel
theorem dX8_reverses_57 : decode cX8_reverses 57 = .ok (.aload_n 0, 1) := by decide +kernel
theorem dX8_reverses_58 : decode cX8_reverses 58 = .ok (.getfield 11, 3) := by decide +kernel
theorem dX8_reverses_61 : decode cX8_reverses 61 = .ok (.iload 4, 2) := by decide +kernel
theorem dX8_reverses_63 : decode cX8_reverses 63 = .ok (.iload 6, 2) := by decide +kernel
theorem dX8_reverses_65 : decode cX8_reverses 65 = .ok (.iadd, 1) := by decide +kernel
theorem dX8_reverses_66 : decode cX8_reverses 66 = .ok (.iload 7, 2) := by decide +kernel
theorem dX8_reverses_68 : decode cX8_reverses 68 = .ok (.iastore, 1) := by decide +kernel
theorem dX8_reverses_69 : decode cX8_reverses 69 = .ok (.iinc 5 1, 3) := by decide +kernel
theorem dX8_reverses_72 : decode cX8_reverses 72 = .ok (.iinc 6 (-1), 3) := by decide +kernel
theorem dX8_reverses_75 : decode cX8_reverses 75 = .ok (.goto (-57), 3) := by decide +kernel
theorem dX8_reverses_78 : decode cX8_reverses 78 = .ok (.return_, 1) := by decide +kernel
theorem dX8_turnGains_0 : decode cX8_turnGains 0 = .ok (.iload_n 2, 1) := by decide +kernel
theorem dX8_turnGains_1 : decode cX8_turnGains 1 = .ok (.istore 4, 2) := by decide +kernel
theorem dX8_turnGains_3 : decode cX8_turnGains 3 = .ok (.iload 4, 2) := by decide +kernel
theorem dX8_turnGains_5 : decode cX8_turnGains 5 = .ok (.iload_n 3, 1) := by decide +kernel
theorem dX8_turnGains_6 : decode cX8_turnGains 6 = .ok (.if_icmp .gt 29, 3) := by decide +kernel
theorem dX8_turnGains_9 : decode cX8_turnGains 9 = .ok (.aload_n 0, 1) := by decide +kernel
theorem dX8_turnGains_10 : decode cX8_turnGains 10 = .ok (.aload_n 0, 1) := by decide +kernel
theorem dX8_turnGains_11 : decode cX8_turnGains 11 = .ok (.iload_n 1, 1) := by decide +kernel
theorem dX8_turnGains_12 : decode cX8_turnGains 12 = .ok (.iload 4, 2) := by decide +kernel
theorem dX8_turnGains_14 : decode cX8_turnGains 14 = .ok (.invokevirtual 63, 3) := by decide +kernel
theorem dX8_turnGains_17 : decode cX8_turnGains 17 = .ok (.bipush 6, 2) := by decide +kernel
theorem dX8_turnGains_19 : decode cX8_turnGains 19 = .ok (.invokevirtual 78, 3) := by decide +kernel
theorem dX8_turnGains_22 : decode cX8_turnGains 22 = .ok (.iconst 1, 1) := by decide +kernel
theorem dX8_turnGains_23 : decode cX8_turnGains 23 = .ok (.if_icmp .ne 6, 3) := by decide +kernel
theorem dX8_turnGains_26 : decode cX8_turnGains 26 = .ok (.ldc 169, 2) := by decide +kernel
theorem dX8_turnGains_28 : decode cX8_turnGains 28 = .ok (.ireturn, 1) := by decide +kernel
theorem dX8_turnGains_29 : decode cX8_turnGains 29 = .ok (.iinc 4 1, 3) := by decide +kernel
theorem dX8_turnGains_32 : decode cX8_turnGains 32 = .ok (.goto (-29), 3) := by decide +kernel
theorem dX8_turnGains_35 : decode cX8_turnGains 35 = .ok (.aload_n 0, 1) := by decide +kernel
theorem dX8_turnGains_36 : decode cX8_turnGains 36 = .ok (.iload_n 1, 1) := by decide +kernel
theorem dX8_turnGains_37 : decode cX8_turnGains 37 = .ok (.invokevirtual 111, 3) := by decide +kernel
theorem dX8_turnGains_40 : decode cX8_turnGains 40 = .ok (.istore 4, 2) := by decide +kernel
theorem dX8_turnGains_42 : decode cX8_turnGains 42 = .ok (.aload_n 0, 1) := by decide +kernel
theorem dX8_turnGains_43 : decode cX8_turnGains 43 = .ok (.iload_n 1, 1) := by decide +kernel
theorem dX8_turnGains_44 : decode cX8_turnGains 44 = .ok (.iload_n 2, 1) := by decide +kernel
theorem dX8_turnGains_45 : decode cX8_turnGains 45 = .ok (.iload_n 3, 1) := by decide +kernel
theorem dX8_turnGains_46 : decode cX8_turnGains 46 = .ok (.invokevirtual 214, 3) := by decide +kernel
theorem dX8_turnGains_49 : decode cX8_turnGains 49 = .ok (.aload_n 0, 1) := by decide +kernel
theorem dX8_turnGains_50 : decode cX8_turnGains 50 = .ok (.iload_n 1, 1) := by decide +kernel
theorem dX8_turnGains_51 : decode cX8_turnGains 51 = .ok (.invokevirtual 104, 3) := by decide +kernel
theorem dX8_turnGains_54 : decode cX8_turnGains 54 = .ok (.ifCond .eq 14, 3) := by decide +kernel
theorem dX8_turnGains_57 : decode cX8_turnGains 57 = .ok (.iload 4, 2) := by decide +kernel
theorem dX8_turnGains_59 : decode cX8_turnGains 59 = .ok (.aload_n 0, 1) := by decide +kernel
theorem dX8_turnGains_60 : decode cX8_turnGains 60 = .ok (.iload_n 1, 1) := by decide +kernel
theorem dX8_turnGains_61 : decode cX8_turnGains 61 = .ok (.invokevirtual 111, 3) := by decide +kernel
theorem dX8_turnGains_64 : decode cX8_turnGains 64 = .ok (.isub, 1) := by decide +kernel
theorem dX8_turnGains_65 : decode cX8_turnGains 65 = .ok (.goto 5, 3) := by decide +kernel
theorem dX8_turnGains_68 : decode cX8_turnGains 68 = .ok (.ldc 169, 2) := by decide +kernel
theorem dX8_turnGains_70 : decode cX8_turnGains 70 = .ok (.istore 5, 2) := by decide +kernel
theorem dX8_turnGains_72 : decode cX8_turnGains 72 = .ok (.aload_n 0, 1) := by decide +kernel
theorem dX8_turnGains_73 : decode cX8_turnGains 73 = .ok (.iload_n 1, 1) := by decide +kernel
theorem dX8_turnGains_74 : decode cX8_turnGains 74 = .ok (.iload_n 2, 1) := by decide +kernel
theorem dX8_turnGains_75 : decode cX8_turnGains 75 = .ok (.iload_n 3, 1) := by decide +kernel
theorem dX8_turnGains_76 : decode cX8_turnGains 76 = .ok (.invokevirtual 214, 3) := by decide +kernel
theorem dX8_turnGains_79 : decode cX8_turnGains 79 = .ok (.iload 5, 2) := by decide +kernel
theorem dX8_turnGains_81 : decode cX8_turnGains 81 = .ok (.ireturn, 1) := by decide +kernel
theorem dX8_shiftGains_0 : decode cX8_shiftGains 0 = .ok (.aload_n 0, 1) := by decide +kernel
theorem dX8_shiftGains_1 : decode cX8_shiftGains 1 = .ok (.iload_n 1, 1) := by decide +kernel
theorem dX8_shiftGains_2 : decode cX8_shiftGains 2 = .ok (.bipush 6, 2) := by decide +kernel
theorem dX8_shiftGains_4 : decode cX8_shiftGains 4 = .ok (.invokevirtual 78, 3) := by decide +kernel
theorem dX8_shiftGains_7 : decode cX8_shiftGains 7 = .ok (.iconst 1, 1) := by decide +kernel
theorem dX8_shiftGains_8 : decode cX8_shiftGains 8 = .ok (.if_icmp .ne 6, 3) := by decide +kernel
theorem dX8_shiftGains_11 : decode cX8_shiftGains 11 = .ok (.ldc 169, 2) := by decide +kernel
theorem dX8_shiftGains_13 : decode cX8_shiftGains 13 = .ok (.ireturn, 1) := by decide +kernel
theorem dX8_shiftGains_14 : decode cX8_shiftGains 14 = .ok (.aload_n 0, 1) := by decide +kernel
theorem dX8_shiftGains_15 : decode cX8_shiftGains 15 = .ok (.iload_n 1, 1) := by decide +kernel
theorem dX8_shiftGains_16 : decode cX8_shiftGains 16 = .ok (.invokevirtual 157, 3) := by decide +kernel
theorem dX8_shiftGains_19 : decode cX8_shiftGains 19 = .ok (.istore 4, 2) := by decide +kernel
theorem dX8_shiftGains_21 : decode cX8_shiftGains 21 = .ok (.aload_n 0, 1) := by decide +kernel
theorem dX8_shiftGains_22 : decode cX8_shiftGains 22 = .ok (.iload 4, 2) := by decide +kernel
theorem dX8_shiftGains_24 : decode cX8_shiftGains 24 = .ok (.iload_n 1, 1) := by decide +kernel
theorem dX8_shiftGains_25 : decode cX8_shiftGains 25 = .ok (.invokevirtual 66, 3) := by decide +kernel
theorem dX8_shiftGains_28 : decode cX8_shiftGains 28 = .ok (.istore 5, 2) := by decide +kernel
theorem dX8_shiftGains_30 : decode cX8_shiftGains 30 = .ok (.aload_n 0, 1) := by decide +kernel
theorem dX8_shiftGains_31 : decode cX8_shiftGains 31 = .ok (.invokevirtual 177, 3) := by decide +kernel
theorem dX8_shiftGains_34 : decode cX8_shiftGains 34 = .ok (.istore 6, 2) := by decide +kernel
theorem dX8_shiftGains_36 : decode cX8_shiftGains 36 = .ok (.aload_n 0, 1) := by decide +kernel
theorem dX8_shiftGains_37 : decode cX8_shiftGains 37 = .ok (.iload 4, 2) := by decide +kernel
theorem dX8_shiftGains_39 : decode cX8_shiftGains 39 = .ok (.iload 5, 2) := by decide +kernel
theorem dX8_shiftGains_41 : decode cX8_shiftGains 41 = .ok (.invokevirtual 170, 3) := by decide +kernel
theorem dX8_shiftGains_44 : decode cX8_shiftGains 44 = .ok (.aload_n 0, 1) := by decide +kernel
theorem dX8_shiftGains_45 : decode cX8_shiftGains 45 = .ok (.iload_n 2, 1) := by decide +kernel
theorem dX8_shiftGains_46 : decode cX8_shiftGains 46 = .ok (.iload_n 3, 1) := by decide +kernel
theorem dX8_shiftGains_47 : decode cX8_shiftGains 47 = .ok (.iload_n 1, 1) := by decide +kernel
theorem dX8_shiftGains_48 : decode cX8_shiftGains 48 = .ok (.invokevirtual 165, 3) := by decide +kernel
theorem dX8_shiftGains_51 : decode cX8_shiftGains 51 = .ok (.aload_n 0, 1) := by decide +kernel
theorem dX8_shiftGains_52 : decode cX8_shiftGains 52 = .ok (.iload 4, 2) := by decide +kernel
theorem dX8_shiftGains_54 : decode cX8_shiftGains 54 = .ok (.invokevirtual 104, 3) := by decide +kernel
theorem dX8_shiftGains_57 : decode cX8_shiftGains 57 = .ok (.ifCond .eq 21, 3) := by decide +kernel
theorem dX8_shiftGains_60 : decode cX8_shiftGains 60 = .ok (.aload_n 0, 1) := by decide +kernel
theorem dX8_shiftGains_61 : decode cX8_shiftGains 61 = .ok (.iload_n 2, 1) := by decide +kernel
theorem dX8_shiftGains_62 : decode cX8_shiftGains 62 = .ok (.invokevirtual 104, 3) := by decide +kernel
theorem dX8_shiftGains_65 : decode cX8_shiftGains 65 = .ok (.ifCond .eq 13, 3) := by decide +kernel
theorem dX8_shiftGains_68 : decode cX8_shiftGains 68 = .ok (.iload 6, 2) := by decide +kernel
theorem dX8_shiftGains_70 : decode cX8_shiftGains 70 = .ok (.aload_n 0, 1) := by decide +kernel
theorem dX8_shiftGains_71 : decode cX8_shiftGains 71 = .ok (.invokevirtual 177, 3) := by decide +kernel
theorem dX8_shiftGains_74 : decode cX8_shiftGains 74 = .ok (.isub, 1) := by decide +kernel
theorem dX8_shiftGains_75 : decode cX8_shiftGains 75 = .ok (.goto 5, 3) := by decide +kernel
theorem dX8_shiftGains_78 : decode cX8_shiftGains 78 = .ok (.ldc 169, 2) := by decide +kernel
theorem dX8_shiftGains_80 : decode cX8_shiftGains 80 = .ok (.istore 7, 2) := by decide +kernel
theorem dX8_shiftGains_82 : decode cX8_shiftGains 82 = .ok (.aload_n 0, 1) := by decide +kernel
theorem dX8_shiftGains_83 : decode cX8_shiftGains 83 = .ok (.iload_n 2, 1) := by decide +kernel
theorem dX8_shiftGains_84 : decode cX8_shiftGains 84 = .ok (.iload_n 3, 1) := by decide +kernel
theorem dX8_shiftGains_85 : decode cX8_shiftGains 85 = .ok (.invokevirtual 170, 3) := by decide +kernel
theorem dX8_shiftGains_88 : decode cX8_shiftGains 88 = .ok (.aload_n 0, 1) := by decide +kernel
theorem dX8_shiftGains_89 : decode cX8_shiftGains 89 = .ok (.iload 4, 2) := by decide +kernel
theorem dX8_shiftGains_91 : decode cX8_shiftGains 91 = .ok (.iload 5, 2) := by decide +kernel
theorem dX8_shiftGains_93 : decode cX8_shiftGains 93 = .ok (.iload_n 1, 1) := by decide +kernel
theorem dX8_shiftGains_94 : decode cX8_shiftGains 94 = .ok (.invokevirtual 165, 3) := by decide +kernel
theorem dX8_shiftGains_97 : decode cX8_shiftGains 97 = .ok (.iload 7, 2) := by decide +kernel
theorem dX8_shiftGains_99 : decode cX8_shiftGains 99 = .ok (.ireturn, 1) := by decide +kernel
theorem dX8_swaps_0 : decode cX8_swaps 0 = .ok (.aload_n 0, 1) := by decide +kernel
theorem dX8_swaps_1 : decode cX8_swaps 1 = .ok (.iload_n 1, 1) := by decide +kernel
theorem dX8_swaps_2 : decode cX8_swaps 2 = .ok (.invokevirtual 157, 3) := by decide +kernel
theorem dX8_swaps_5 : decode cX8_swaps 5 = .ok (.istore_n 3, 1) := by decide +kernel
theorem dX8_swaps_6 : decode cX8_swaps 6 = .ok (.aload_n 0, 1) := by decide +kernel
theorem dX8_swaps_7 : decode cX8_swaps 7 = .ok (.iload_n 2, 1) := by decide +kernel
theorem dX8_swaps_8 : decode cX8_swaps 8 = .ok (.invokevirtual 157, 3) := by decide +kernel
theorem dX8_swaps_11 : decode cX8_swaps 11 = .ok (.istore 4, 2) := by decide +kernel
theorem dX8_swaps_13 : decode cX8_swaps 13 = .ok (.sipush 178, 3) := by decide +kernel
theorem dX8_swaps_16 : decode cX8_swaps 16 = .ok (.bipush 20, 2) := by decide +kernel
theorem dX8_swaps_18 : decode cX8_swaps 18 = .ok (.iload_n 3, 1) := by decide +kernel
theorem dX8_swaps_19 : decode cX8_swaps 19 = .ok (.imul, 1) := by decide +kernel
theorem dX8_swaps_20 : decode cX8_swaps 20 = .ok (.iadd, 1) := by decide +kernel
theorem dX8_swaps_21 : decode cX8_swaps 21 = .ok (.iconst 4, 1) := by decide +kernel
theorem dX8_swaps_22 : decode cX8_swaps 22 = .ok (.iadd, 1) := by decide +kernel
theorem dX8_swaps_23 : decode cX8_swaps 23 = .ok (.aload_n 0, 1) := by decide +kernel
theorem dX8_swaps_24 : decode cX8_swaps 24 = .ok (.iload_n 3, 1) := by decide +kernel
theorem dX8_swaps_25 : decode cX8_swaps 25 = .ok (.iload_n 1, 1) := by decide +kernel
theorem dX8_swaps_26 : decode cX8_swaps 26 = .ok (.invokevirtual 66, 3) := by decide +kernel
theorem dX8_swaps_29 : decode cX8_swaps 29 = .ok (.iadd, 1) := by decide +kernel
theorem dX8_swaps_30 : decode cX8_swaps 30 = .ok (.istore 5, 2) := by decide +kernel
theorem dX8_swaps_32 : decode cX8_swaps 32 = .ok (.sipush 178, 3) := by decide +kernel
theorem dX8_swaps_35 : decode cX8_swaps 35 = .ok (.bipush 20, 2) := by decide +kernel
theorem dX8_swaps_37 : decode cX8_swaps 37 = .ok (.iload 4, 2) := by decide +kernel
theorem dX8_swaps_39 : decode cX8_swaps 39 = .ok (.imul, 1) := by decide +kernel
theorem dX8_swaps_40 : decode cX8_swaps 40 = .ok (.iadd, 1) := by decide +kernel
theorem dX8_swaps_41 : decode cX8_swaps 41 = .ok (.iconst 4, 1) := by decide +kernel
theorem dX8_swaps_42 : decode cX8_swaps 42 = .ok (.iadd, 1) := by decide +kernel
theorem dX8_swaps_43 : decode cX8_swaps 43 = .ok (.aload_n 0, 1) := by decide +kernel
theorem dX8_swaps_44 : decode cX8_swaps 44 = .ok (.iload 4, 2) := by decide +kernel
theorem dX8_swaps_46 : decode cX8_swaps 46 = .ok (.iload_n 2, 1) := by decide +kernel
theorem dX8_swaps_47 : decode cX8_swaps 47 = .ok (.invokevirtual 66, 3) := by decide +kernel
theorem dX8_swaps_50 : decode cX8_swaps 50 = .ok (.iadd, 1) := by decide +kernel
theorem dX8_swaps_51 : decode cX8_swaps 51 = .ok (.istore 6, 2) := by decide +kernel
theorem dX8_swaps_53 : decode cX8_swaps 53 = .ok (.aload_n 0, 1) := by decide +kernel
theorem dX8_swaps_54 : decode cX8_swaps 54 = .ok (.getfield 11, 3) := by decide +kernel
theorem dX8_swaps_57 : decode cX8_swaps 57 = .ok (.iload 5, 2) := by decide +kernel
theorem dX8_swaps_59 : decode cX8_swaps 59 = .ok (.iload_n 2, 1) := by decide +kernel
theorem dX8_swaps_60 : decode cX8_swaps 60 = .ok (.iastore, 1) := by decide +kernel
theorem dX8_swaps_61 : decode cX8_swaps 61 = .ok (.aload_n 0, 1) := by decide +kernel
theorem dX8_swaps_62 : decode cX8_swaps 62 = .ok (.getfield 11, 3) := by decide +kernel
theorem dX8_swaps_65 : decode cX8_swaps 65 = .ok (.iload 6, 2) := by decide +kernel
theorem dX8_swaps_67 : decode cX8_swaps 67 = .ok (.iload_n 1, 1) := by decide +kernel
theorem dX8_swaps_68 : decode cX8_swaps 68 = .ok (.iastore, 1) := by decide +kernel
theorem dX8_swaps_69 : decode cX8_swaps 69 = .ok (.return_, 1) := by decide +kernel
theorem dX8_swapGains_0 : decode cX8_swapGains 0 = .ok (.aload_n 0, 1) := by decide +kernel
theorem dX8_swapGains_1 : decode cX8_swapGains 1 = .ok (.iload_n 1, 1) := by decide +kernel
theorem dX8_swapGains_2 : decode cX8_swapGains 2 = .ok (.bipush 6, 2) := by decide +kernel
theorem dX8_swapGains_4 : decode cX8_swapGains 4 = .ok (.invokevirtual 78, 3) := by decide +kernel
theorem dX8_swapGains_7 : decode cX8_swapGains 7 = .ok (.iconst 1, 1) := by decide +kernel
theorem dX8_swapGains_8 : decode cX8_swapGains 8 = .ok (.if_icmp .eq 14, 3) := by decide +kernel
theorem dX8_swapGains_11 : decode cX8_swapGains 11 = .ok (.aload_n 0, 1) := by decide +kernel
theorem dX8_swapGains_12 : decode cX8_swapGains 12 = .ok (.iload_n 2, 1) := by decide +kernel
theorem dX8_swapGains_13 : decode cX8_swapGains 13 = .ok (.bipush 6, 2) := by decide +kernel
theorem dX8_swapGains_15 : decode cX8_swapGains 15 = .ok (.invokevirtual 78, 3) := by decide +kernel
theorem dX8_swapGains_18 : decode cX8_swapGains 18 = .ok (.iconst 1, 1) := by decide +kernel
theorem dX8_swapGains_19 : decode cX8_swapGains 19 = .ok (.if_icmp .ne 6, 3) := by decide +kernel
theorem dX8_swapGains_22 : decode cX8_swapGains 22 = .ok (.ldc 169, 2) := by decide +kernel
theorem dX8_swapGains_24 : decode cX8_swapGains 24 = .ok (.ireturn, 1) := by decide +kernel
theorem dX8_swapGains_25 : decode cX8_swapGains 25 = .ok (.aload_n 0, 1) := by decide +kernel
theorem dX8_swapGains_26 : decode cX8_swapGains 26 = .ok (.iload_n 1, 1) := by decide +kernel
theorem dX8_swapGains_27 : decode cX8_swapGains 27 = .ok (.invokevirtual 157, 3) := by decide +kernel
theorem dX8_swapGains_30 : decode cX8_swapGains 30 = .ok (.istore_n 3, 1) := by decide +kernel
theorem dX8_swapGains_31 : decode cX8_swapGains 31 = .ok (.aload_n 0, 1) := by decide +kernel
theorem dX8_swapGains_32 : decode cX8_swapGains 32 = .ok (.iload_n 2, 1) := by decide +kernel
theorem dX8_swapGains_33 : decode cX8_swapGains 33 = .ok (.invokevirtual 157, 3) := by decide +kernel
theorem dX8_swapGains_36 : decode cX8_swapGains 36 = .ok (.istore 4, 2) := by decide +kernel
theorem dX8_swapGains_38 : decode cX8_swapGains 38 = .ok (.aload_n 0, 1) := by decide +kernel
theorem dX8_swapGains_39 : decode cX8_swapGains 39 = .ok (.invokevirtual 177, 3) := by decide +kernel
theorem dX8_swapGains_42 : decode cX8_swapGains 42 = .ok (.istore 5, 2) := by decide +kernel
theorem dX8_swapGains_44 : decode cX8_swapGains 44 = .ok (.aload_n 0, 1) := by decide +kernel
theorem dX8_swapGains_45 : decode cX8_swapGains 45 = .ok (.iload_n 1, 1) := by decide +kernel
theorem dX8_swapGains_46 : decode cX8_swapGains 46 = .ok (.iload_n 2, 1) := by decide +kernel
theorem dX8_swapGains_47 : decode cX8_swapGains 47 = .ok (.invokevirtual 217, 3) := by decide +kernel
theorem dX8_swapGains_50 : decode cX8_swapGains 50 = .ok (.aload_n 0, 1) := by decide +kernel
theorem dX8_swapGains_51 : decode cX8_swapGains 51 = .ok (.iload_n 3, 1) := by decide +kernel
theorem dX8_swapGains_52 : decode cX8_swapGains 52 = .ok (.invokevirtual 104, 3) := by decide +kernel
theorem dX8_swapGains_55 : decode cX8_swapGains 55 = .ok (.ifCond .eq 22, 3) := by decide +kernel
theorem dX8_swapGains_58 : decode cX8_swapGains 58 = .ok (.aload_n 0, 1) := by decide +kernel
theorem dX8_swapGains_59 : decode cX8_swapGains 59 = .ok (.iload 4, 2) := by decide +kernel
theorem dX8_swapGains_61 : decode cX8_swapGains 61 = .ok (.invokevirtual 104, 3) := by decide +kernel
theorem dX8_swapGains_64 : decode cX8_swapGains 64 = .ok (.ifCond .eq 13, 3) := by decide +kernel
theorem dX8_swapGains_67 : decode cX8_swapGains 67 = .ok (.iload 5, 2) := by decide +kernel
theorem dX8_swapGains_69 : decode cX8_swapGains 69 = .ok (.aload_n 0, 1) := by decide +kernel
theorem dX8_swapGains_70 : decode cX8_swapGains 70 = .ok (.invokevirtual 177, 3) := by decide +kernel
theorem dX8_swapGains_73 : decode cX8_swapGains 73 = .ok (.isub, 1) := by decide +kernel
theorem dX8_swapGains_74 : decode cX8_swapGains 74 = .ok (.goto 5, 3) := by decide +kernel
theorem dX8_swapGains_77 : decode cX8_swapGains 77 = .ok (.ldc 169, 2) := by decide +kernel
theorem dX8_swapGains_79 : decode cX8_swapGains 79 = .ok (.istore 6, 2) := by decide +kernel
theorem dX8_swapGains_81 : decode cX8_swapGains 81 = .ok (.aload_n 0, 1) := by decide +kernel
theorem dX8_swapGains_82 : decode cX8_swapGains 82 = .ok (.iload_n 1, 1) := by decide +kernel
theorem dX8_swapGains_83 : decode cX8_swapGains 83 = .ok (.iload_n 2, 1) := by decide +kernel
theorem dX8_swapGains_84 : decode cX8_swapGains 84 = .ok (.invokevirtual 217, 3) := by decide +kernel
theorem dX8_swapGains_87 : decode cX8_swapGains 87 = .ok (.iload 6, 2) := by decide +kernel
theorem dX8_swapGains_89 : decode cX8_swapGains 89 = .ok (.ireturn, 1) := by decide +kernel
theorem dX8_finds_0 : decode cX8_finds 0 = .ok (.iload_n 2, 1) := by decide +kernel
theorem dX8_finds_1 : decode cX8_finds 1 = .ok (.aload_n 0, 1) := by decide +kernel
theorem dX8_finds_2 : decode cX8_finds 2 = .ok (.getfield 39, 3) := by decide +kernel
theorem dX8_finds_5 : decode cX8_finds 5 = .ok (.iconst 1, 1) := by decide +kernel
theorem dX8_finds_6 : decode cX8_finds 6 = .ok (.iaload, 1) := by decide +kernel
theorem dX8_finds_7 : decode cX8_finds 7 = .ok (.if_icmp .gt 4, 3) := by decide +kernel
theorem dX8_finds_10 : decode cX8_finds 10 = .ok (.return_, 1) := by decide +kernel
theorem dX8_finds_11 : decode cX8_finds 11 = .ok (.aload_n 0, 1) := by decide +kernel
theorem dX8_finds_12 : decode cX8_finds 12 = .ok (.getfield 39, 3) := by decide +kernel
theorem dX8_finds_15 : decode cX8_finds 15 = .ok (.iconst 0, 1) := by decide +kernel
theorem dX8_finds_16 : decode cX8_finds 16 = .ok (.iload_n 1, 1) := by decide +kernel
theorem dX8_finds_17 : decode cX8_finds 17 = .ok (.iastore, 1) := by decide +kernel
theorem dX8_finds_18 : decode cX8_finds 18 = .ok (.aload_n 0, 1) := by decide +kernel
theorem dX8_finds_19 : decode cX8_finds 19 = .ok (.getfield 39, 3) := by decide +kernel
theorem dX8_finds_22 : decode cX8_finds 22 = .ok (.iconst 1, 1) := by decide +kernel
theorem dX8_finds_23 : decode cX8_finds 23 = .ok (.iload_n 2, 1) := by decide +kernel
theorem dX8_finds_24 : decode cX8_finds 24 = .ok (.iastore, 1) := by decide +kernel
theorem dX8_finds_25 : decode cX8_finds 25 = .ok (.aload_n 0, 1) := by decide +kernel
theorem dX8_finds_26 : decode cX8_finds 26 = .ok (.getfield 39, 3) := by decide +kernel
theorem dX8_finds_29 : decode cX8_finds 29 = .ok (.iconst 2, 1) := by decide +kernel
theorem dX8_finds_30 : decode cX8_finds 30 = .ok (.iload_n 3, 1) := by decide +kernel
theorem dX8_finds_31 : decode cX8_finds 31 = .ok (.iastore, 1) := by decide +kernel
theorem dX8_finds_32 : decode cX8_finds 32 = .ok (.aload_n 0, 1) := by decide +kernel
theorem dX8_finds_33 : decode cX8_finds 33 = .ok (.getfield 39, 3) := by decide +kernel
theorem dX8_finds_36 : decode cX8_finds 36 = .ok (.iconst 3, 1) := by decide +kernel
theorem dX8_finds_37 : decode cX8_finds 37 = .ok (.iload 4, 2) := by decide +kernel
theorem dX8_finds_39 : decode cX8_finds 39 = .ok (.iastore, 1) := by decide +kernel
theorem dX8_finds_40 : decode cX8_finds 40 = .ok (.aload_n 0, 1) := by decide +kernel
theorem dX8_finds_41 : decode cX8_finds 41 = .ok (.getfield 39, 3) := by decide +kernel
theorem dX8_finds_44 : decode cX8_finds 44 = .ok (.iconst 4, 1) := by decide +kernel
theorem dX8_finds_45 : decode cX8_finds 45 = .ok (.iload 5, 2) := by decide +kernel
theorem dX8_finds_47 : decode cX8_finds 47 = .ok (.iastore, 1) := by decide +kernel
theorem dX8_finds_48 : decode cX8_finds 48 = .ok (.return_, 1) := by decide +kernel
theorem dX8_findsBest_0 : decode cX8_findsBest 0 = .ok (.aload_n 0, 1) := by decide +kernel
theorem dX8_findsBest_1 : decode cX8_findsBest 1 = .ok (.getfield 39, 3) := by decide +kernel
theorem dX8_findsBest_4 : decode cX8_findsBest 4 = .ok (.iconst 0, 1) := by decide +kernel
theorem dX8_findsBest_5 : decode cX8_findsBest 5 = .ok (.bipush (-5), 2) := by decide +kernel
theorem dX8_findsBest_7 : decode cX8_findsBest 7 = .ok (.iastore, 1) := by decide +kernel
theorem dX8_findsBest_8 : decode cX8_findsBest 8 = .ok (.aload_n 0, 1) := by decide +kernel
theorem dX8_findsBest_9 : decode cX8_findsBest 9 = .ok (.getfield 39, 3) := by decide +kernel
theorem dX8_findsBest_12 : decode cX8_findsBest 12 = .ok (.iconst 1, 1) := by decide +kernel
theorem dX8_findsBest_13 : decode cX8_findsBest 13 = .ok (.iconst 0, 1) := by decide +kernel
theorem dX8_findsBest_14 : decode cX8_findsBest 14 = .ok (.iastore, 1) := by decide +kernel
theorem dX8_findsBest_15 : decode cX8_findsBest 15 = .ok (.iconst 0, 1) := by decide +kernel
theorem dX8_findsBest_16 : decode cX8_findsBest 16 = .ok (.istore_n 1, 1) := by decide +kernel
theorem dX8_findsBest_17 : decode cX8_findsBest 17 = .ok (.iload_n 1, 1) := by decide +kernel
theorem dX8_findsBest_18 : decode cX8_findsBest 18 = .ok (.iconst 4, 1) := by decide +kernel
theorem dX8_findsBest_19 : decode cX8_findsBest 19 = .ok (.if_icmp .ge 62, 3) := by decide +kernel
theorem dX8_findsBest_22 : decode cX8_findsBest 22 = .ok (.iconst 0, 1) := by decide +kernel
theorem dX8_findsBest_23 : decode cX8_findsBest 23 = .ok (.istore_n 2, 1) := by decide +kernel
theorem dX8_findsBest_24 : decode cX8_findsBest 24 = .ok (.iload_n 2, 1) := by decide +kernel
theorem dX8_findsBest_25 : decode cX8_findsBest 25 = .ok (.aload_n 0, 1) := by decide +kernel
theorem dX8_findsBest_26 : decode cX8_findsBest 26 = .ok (.iload_n 1, 1) := by decide +kernel
theorem dX8_findsBest_27 : decode cX8_findsBest 27 = .ok (.iconst 3, 1) := by decide +kernel
theorem dX8_findsBest_28 : decode cX8_findsBest 28 = .ok (.invokevirtual 59, 3) := by decide +kernel
theorem dX8_findsBest_31 : decode cX8_findsBest 31 = .ok (.if_icmp .ge 44, 3) := by decide +kernel
theorem dX8_findsBest_34 : decode cX8_findsBest 34 = .ok (.iload_n 2, 1) := by decide +kernel
theorem dX8_findsBest_35 : decode cX8_findsBest 35 = .ok (.iconst 1, 1) := by decide +kernel
theorem dX8_findsBest_36 : decode cX8_findsBest 36 = .ok (.iadd, 1) := by decide +kernel
theorem dX8_findsBest_37 : decode cX8_findsBest 37 = .ok (.istore_n 3, 1) := by decide +kernel
theorem dX8_findsBest_38 : decode cX8_findsBest 38 = .ok (.iload_n 3, 1) := by decide +kernel
theorem dX8_findsBest_39 : decode cX8_findsBest 39 = .ok (.aload_n 0, 1) := by decide +kernel
theorem dX8_findsBest_40 : decode cX8_findsBest 40 = .ok (.iload_n 1, 1) := by decide +kernel
theorem dX8_findsBest_41 : decode cX8_findsBest 41 = .ok (.iconst 3, 1) := by decide +kernel
theorem dX8_findsBest_42 : decode cX8_findsBest 42 = .ok (.invokevirtual 59, 3) := by decide +kernel
theorem dX8_findsBest_45 : decode cX8_findsBest 45 = .ok (.if_icmp .ge 24, 3) := by decide +kernel
theorem dX8_findsBest_48 : decode cX8_findsBest 48 = .ok (.aload_n 0, 1) := by decide +kernel
theorem dX8_findsBest_49 : decode cX8_findsBest 49 = .ok (.iconst 1, 1) := by decide +kernel
theorem dX8_findsBest_50 : decode cX8_findsBest 50 = .ok (.aload_n 0, 1) := by decide +kernel
theorem dX8_findsBest_51 : decode cX8_findsBest 51 = .ok (.iload_n 1, 1) := by decide +kernel
theorem dX8_findsBest_52 : decode cX8_findsBest 52 = .ok (.iload_n 2, 1) := by decide +kernel
theorem dX8_findsBest_53 : decode cX8_findsBest 53 = .ok (.iload_n 3, 1) := by decide +kernel
theorem dX8_findsBest_54 : decode cX8_findsBest 54 = .ok (.invokevirtual 220, 3) := by decide +kernel
theorem dX8_findsBest_57 : decode cX8_findsBest 57 = .ok (.iload_n 1, 1) := by decide +kernel
theorem dX8_findsBest_58 : decode cX8_findsBest 58 = .ok (.iload_n 2, 1) := by decide +kernel
theorem dX8_findsBest_59 : decode cX8_findsBest 59 = .ok (.iload_n 3, 1) := by decide +kernel
theorem dX8_findsBest_60 : decode cX8_findsBest 60 = .ok (.invokevirtual 223, 3) := by decide +kernel
theorem dX8_findsBest_63 : decode cX8_findsBest 63 = .ok (.iinc 3 1, 3) := by decide +kernel
theorem dX8_findsBest_66 : decode cX8_findsBest 66 = .ok (.goto (-28), 3) := by decide +kernel
theorem dX8_findsBest_69 : decode cX8_findsBest 69 = .ok (.iinc 2 1, 3) := by decide +kernel
theorem dX8_findsBest_72 : decode cX8_findsBest 72 = .ok (.goto (-48), 3) := by decide +kernel
theorem dX8_findsBest_75 : decode cX8_findsBest 75 = .ok (.iinc 1 1, 3) := by decide +kernel
theorem dX8_findsBest_78 : decode cX8_findsBest 78 = .ok (.goto (-61), 3) := by decide +kernel
theorem dX8_findsBest_81 : decode cX8_findsBest 81 = .ok (.iconst 0, 1) := by decide +kernel
theorem dX8_findsBest_82 : decode cX8_findsBest 82 = .ok (.istore_n 1, 1) := by decide +kernel
theorem dX8_findsBest_83 : decode cX8_findsBest 83 = .ok (.iload_n 1, 1) := by decide +kernel
theorem dX8_findsBest_84 : decode cX8_findsBest 84 = .ok (.aload_n 0, 1) := by decide +kernel
theorem dX8_findsBest_85 : decode cX8_findsBest 85 = .ok (.getfield 11, 3) := by decide +kernel
theorem dX8_findsBest_88 : decode cX8_findsBest 88 = .ok (.iconst 4, 1) := by decide +kernel
theorem dX8_findsBest_89 : decode cX8_findsBest 89 = .ok (.iaload, 1) := by decide +kernel
theorem dX8_findsBest_90 : decode cX8_findsBest 90 = .ok (.if_icmp .ge 123, 3) := by decide +kernel
theorem dX8_findsBest_93 : decode cX8_findsBest 93 = .ok (.aload_n 0, 1) := by decide +kernel
theorem dX8_findsBest_94 : decode cX8_findsBest 94 = .ok (.iload_n 1, 1) := by decide +kernel
theorem dX8_findsBest_95 : decode cX8_findsBest 95 = .ok (.invokevirtual 157, 3) := by decide +kernel
theorem dX8_findsBest_98 : decode cX8_findsBest 98 = .ok (.istore_n 2, 1) := by decide +kernel
theorem dX8_findsBest_99 : decode cX8_findsBest 99 = .ok (.iload_n 2, 1) := by decide +kernel
theorem dX8_findsBest_100 : decode cX8_findsBest 100 = .ok (.ifCond .lt 107, 3) := by decide +kernel
theorem dX8_findsBest_103 : decode cX8_findsBest 103 = .ok (.aload_n 0, 1) := by decide +kernel
theorem dX8_findsBest_104 : decode cX8_findsBest 104 = .ok (.iload_n 1, 1) := by decide +kernel
theorem dX8_findsBest_105 : decode cX8_findsBest 105 = .ok (.bipush 6, 2) := by decide +kernel
theorem dX8_findsBest_107 : decode cX8_findsBest 107 = .ok (.invokevirtual 78, 3) := by decide +kernel
theorem dX8_findsBest_110 : decode cX8_findsBest 110 = .ok (.iconst 1, 1) := by decide +kernel
theorem dX8_findsBest_111 : decode cX8_findsBest 111 = .ok (.if_icmp .ne 6, 3) := by decide +kernel
theorem dX8_findsBest_114 : decode cX8_findsBest 114 = .ok (.goto 93, 3) := by decide +kernel
theorem dX8_findsBest_117 : decode cX8_findsBest 117 = .ok (.aload_n 0, 1) := by decide +kernel
theorem dX8_findsBest_118 : decode cX8_findsBest 118 = .ok (.iload_n 2, 1) := by decide +kernel
theorem dX8_findsBest_119 : decode cX8_findsBest 119 = .ok (.iload_n 1, 1) := by decide +kernel
theorem dX8_findsBest_120 : decode cX8_findsBest 120 = .ok (.invokevirtual 66, 3) := by decide +kernel
theorem dX8_findsBest_123 : decode cX8_findsBest 123 = .ok (.istore_n 3, 1) := by decide +kernel
theorem dX8_findsBest_124 : decode cX8_findsBest 124 = .ok (.iconst 0, 1) := by decide +kernel
theorem dX8_findsBest_125 : decode cX8_findsBest 125 = .ok (.istore 4, 2) := by decide +kernel
theorem dX8_findsBest_127 : decode cX8_findsBest 127 = .ok (.iload 4, 2) := by decide +kernel
theorem dX8_findsBest_129 : decode cX8_findsBest 129 = .ok (.iconst 4, 1) := by decide +kernel
theorem dX8_findsBest_130 : decode cX8_findsBest 130 = .ok (.if_icmp .ge 77, 3) := by decide +kernel
theorem dX8_findsBest_133 : decode cX8_findsBest 133 = .ok (.aload_n 0, 1) := by decide +kernel
theorem dX8_findsBest_134 : decode cX8_findsBest 134 = .ok (.iload 4, 2) := by decide +kernel
theorem dX8_findsBest_136 : decode cX8_findsBest 136 = .ok (.iconst 3, 1) := by decide +kernel
theorem dX8_findsBest_137 : decode cX8_findsBest 137 = .ok (.invokevirtual 59, 3) := by decide +kernel
theorem dX8_findsBest_140 : decode cX8_findsBest 140 = .ok (.iload 4, 2) := by decide +kernel
theorem dX8_findsBest_142 : decode cX8_findsBest 142 = .ok (.iload_n 2, 1) := by decide +kernel
theorem dX8_findsBest_143 : decode cX8_findsBest 143 = .ok (.if_icmp .ne 7, 3) := by decide +kernel
theorem dX8_findsBest_146 : decode cX8_findsBest 146 = .ok (.iconst 1, 1) := by decide +kernel
theorem dX8_findsBest_147 : decode cX8_findsBest 147 = .ok (.goto 4, 3) := by decide +kernel
theorem dX8_findsBest_150 : decode cX8_findsBest 150 = .ok (.iconst 0, 1) := by decide +kernel
theorem dX8_findsBest_151 : decode cX8_findsBest 151 = .ok (.isub, 1) := by decide +kernel
theorem dX8_findsBest_152 : decode cX8_findsBest 152 = .ok (.istore 5, 2) := by decide +kernel
theorem dX8_findsBest_154 : decode cX8_findsBest 154 = .ok (.iconst 0, 1) := by decide +kernel
theorem dX8_findsBest_155 : decode cX8_findsBest 155 = .ok (.istore 6, 2) := by decide +kernel
theorem dX8_findsBest_157 : decode cX8_findsBest 157 = .ok (.iload 6, 2) := by decide +kernel
theorem dX8_findsBest_159 : decode cX8_findsBest 159 = .ok (.iload 5, 2) := by decide +kernel
theorem dX8_findsBest_161 : decode cX8_findsBest 161 = .ok (.if_icmp .gt 40, 3) := by decide +kernel
theorem dX8_findsBest_164 : decode cX8_findsBest 164 = .ok (.iload 4, 2) := by decide +kernel
theorem dX8_findsBest_166 : decode cX8_findsBest 166 = .ok (.iload_n 2, 1) := by decide +kernel
theorem dX8_findsBest_167 : decode cX8_findsBest 167 = .ok (.if_icmp .ne 9, 3) := by decide +kernel
theorem dX8_findsBest_170 : decode cX8_findsBest 170 = .ok (.iload 6, 2) := by decide +kernel
theorem dX8_findsBest_172 : decode cX8_findsBest 172 = .ok (.iload_n 3, 1) := by decide +kernel
theorem dX8_findsBest_173 : decode cX8_findsBest 173 = .ok (.if_icmp .eq 22, 3) := by decide +kernel
theorem dX8_findsBest_176 : decode cX8_findsBest 176 = .ok (.aload_n 0, 1) := by decide +kernel
theorem dX8_findsBest_177 : decode cX8_findsBest 177 = .ok (.iconst 2, 1) := by decide +kernel
theorem dX8_findsBest_178 : decode cX8_findsBest 178 = .ok (.aload_n 0, 1) := by decide +kernel
theorem dX8_findsBest_179 : decode cX8_findsBest 179 = .ok (.iload_n 1, 1) := by decide +kernel
theorem dX8_findsBest_180 : decode cX8_findsBest 180 = .ok (.iload 4, 2) := by decide +kernel
theorem dX8_findsBest_182 : decode cX8_findsBest 182 = .ok (.iload 6, 2) := by decide +kernel
theorem dX8_findsBest_184 : decode cX8_findsBest 184 = .ok (.invokevirtual 227, 3) := by decide +kernel
theorem dX8_findsBest_187 : decode cX8_findsBest 187 = .ok (.iload_n 1, 1) := by decide +kernel
theorem dX8_findsBest_188 : decode cX8_findsBest 188 = .ok (.iload 4, 2) := by decide +kernel
theorem dX8_findsBest_190 : decode cX8_findsBest 190 = .ok (.iload 6, 2) := by decide +kernel
theorem dX8_findsBest_192 : decode cX8_findsBest 192 = .ok (.invokevirtual 223, 3) := by decide +kernel
theorem dX8_findsBest_195 : decode cX8_findsBest 195 = .ok (.iinc 6 1, 3) := by decide +kernel
theorem dX8_findsBest_198 : decode cX8_findsBest 198 = .ok (.goto (-41), 3) := by decide +kernel
theorem dX8_findsBest_201 : decode cX8_findsBest 201 = .ok (.iinc 4 1, 3) := by decide +kernel
theorem dX8_findsBest_204 : decode cX8_findsBest 204 = .ok (.goto (-77), 3) := by decide +kernel
theorem dX8_findsBest_207 : decode cX8_findsBest 207 = .ok (.iinc 1 1, 3) := by decide +kernel
theorem dX8_findsBest_210 : decode cX8_findsBest 210 = .ok (.goto (-127), 3) := by decide +kernel
theorem dX8_findsBest_213 : decode cX8_findsBest 213 = .ok (.iconst 0, 1) := by decide +kernel
theorem dX8_findsBest_214 : decode cX8_findsBest 214 = .ok (.istore_n 1, 1) := by decide +kernel
theorem dX8_findsBest_215 : decode cX8_findsBest 215 = .ok (.iload_n 1, 1) := by decide +kernel
theorem dX8_findsBest_216 : decode cX8_findsBest 216 = .ok (.aload_n 0, 1) := by decide +kernel
theorem dX8_findsBest_217 : decode cX8_findsBest 217 = .ok (.getfield 11, 3) := by decide +kernel
theorem dX8_findsBest_220 : decode cX8_findsBest 220 = .ok (.iconst 4, 1) := by decide +kernel
theorem dX8_findsBest_221 : decode cX8_findsBest 221 = .ok (.iaload, 1) := by decide +kernel
theorem dX8_findsBest_222 : decode cX8_findsBest 222 = .ok (.if_icmp .ge 60, 3) := by decide +kernel
theorem dX8_findsBest_225 : decode cX8_findsBest 225 = .ok (.iload_n 1, 1) := by decide +kernel
theorem dX8_findsBest_226 : decode cX8_findsBest 226 = .ok (.iconst 1, 1) := by decide +kernel
theorem dX8_findsBest_227 : decode cX8_findsBest 227 = .ok (.iadd, 1) := by decide +kernel
theorem dX8_findsBest_228 : decode cX8_findsBest 228 = .ok (.istore_n 2, 1) := by decide +kernel
theorem dX8_findsBest_229 : decode cX8_findsBest 229 = .ok (.iload_n 2, 1) := by decide +kernel
theorem dX8_findsBest_230 : decode cX8_findsBest 230 = .ok (.aload_n 0, 1) := by decide +kernel
theorem dX8_findsBest_231 : decode cX8_findsBest 231 = .ok (.getfield 11, 3) := by decide +kernel
theorem dX8_findsBest_234 : decode cX8_findsBest 234 = .ok (.iconst 4, 1) := by decide +kernel
theorem dX8_findsBest_235 : decode cX8_findsBest 235 = .ok (.iaload, 1) := by decide +kernel
theorem dX8_findsBest_236 : decode cX8_findsBest 236 = .ok (.if_icmp .ge 40, 3) := by decide +kernel
theorem dX8_findsBest_239 : decode cX8_findsBest 239 = .ok (.aload_n 0, 1) := by decide +kernel
theorem dX8_findsBest_240 : decode cX8_findsBest 240 = .ok (.iload_n 1, 1) := by decide +kernel
theorem dX8_findsBest_241 : decode cX8_findsBest 241 = .ok (.invokevirtual 157, 3) := by decide +kernel
theorem dX8_findsBest_244 : decode cX8_findsBest 244 = .ok (.ifCond .lt 26, 3) := by decide +kernel
theorem dX8_findsBest_247 : decode cX8_findsBest 247 = .ok (.aload_n 0, 1) := by decide +kernel
theorem dX8_findsBest_248 : decode cX8_findsBest 248 = .ok (.iload_n 2, 1) := by decide +kernel
theorem dX8_findsBest_249 : decode cX8_findsBest 249 = .ok (.invokevirtual 157, 3) := by decide +kernel
theorem dX8_findsBest_252 : decode cX8_findsBest 252 = .ok (.ifCond .lt 18, 3) := by decide +kernel
theorem dX8_findsBest_255 : decode cX8_findsBest 255 = .ok (.aload_n 0, 1) := by decide +kernel
theorem dX8_findsBest_256 : decode cX8_findsBest 256 = .ok (.iconst 3, 1) := by decide +kernel
theorem dX8_findsBest_257 : decode cX8_findsBest 257 = .ok (.aload_n 0, 1) := by decide +kernel
theorem dX8_findsBest_258 : decode cX8_findsBest 258 = .ok (.iload_n 1, 1) := by decide +kernel
theorem dX8_findsBest_259 : decode cX8_findsBest 259 = .ok (.iload_n 2, 1) := by decide +kernel
theorem dX8_findsBest_260 : decode cX8_findsBest 260 = .ok (.invokevirtual 230, 3) := by decide +kernel
theorem dX8_findsBest_263 : decode cX8_findsBest 263 = .ok (.iload_n 1, 1) := by decide +kernel
theorem dX8_findsBest_264 : decode cX8_findsBest 264 = .ok (.iload_n 2, 1) := by decide +kernel
theorem dX8_findsBest_265 : decode cX8_findsBest 265 = .ok (.bipush (-5), 2) := by decide +kernel
theorem dX8_findsBest_267 : decode cX8_findsBest 267 = .ok (.invokevirtual 223, 3) := by decide +kernel
theorem dX8_findsBest_270 : decode cX8_findsBest 270 = .ok (.iinc 2 1, 3) := by decide +kernel
theorem dX8_findsBest_273 : decode cX8_findsBest 273 = .ok (.goto (-44), 3) := by decide +kernel
theorem dX8_findsBest_276 : decode cX8_findsBest 276 = .ok (.iinc 1 1, 3) := by decide +kernel
theorem dX8_findsBest_279 : decode cX8_findsBest 279 = .ok (.goto (-64), 3) := by decide +kernel
theorem dX8_findsBest_282 : decode cX8_findsBest 282 = .ok (.aload_n 0, 1) := by decide +kernel
theorem dX8_findsBest_283 : decode cX8_findsBest 283 = .ok (.getfield 39, 3) := by decide +kernel
theorem dX8_findsBest_286 : decode cX8_findsBest 286 = .ok (.iconst 0, 1) := by decide +kernel
theorem dX8_findsBest_287 : decode cX8_findsBest 287 = .ok (.iaload, 1) := by decide +kernel
theorem dX8_findsBest_288 : decode cX8_findsBest 288 = .ok (.ifCond .le 7, 3) := by decide +kernel
theorem dX8_findsBest_291 : decode cX8_findsBest 291 = .ok (.iconst 1, 1) := by decide +kernel
theorem dX8_findsBest_292 : decode cX8_findsBest 292 = .ok (.goto 4, 3) := by decide +kernel
theorem dX8_findsBest_295 : decode cX8_findsBest 295 = .ok (.iconst 0, 1) := by decide +kernel
theorem dX8_findsBest_296 : decode cX8_findsBest 296 = .ok (.ireturn, 1) := by decide +kernel
theorem dX8_doesBest_0 : decode cX8_doesBest 0 = .ok (.aload_n 0, 1) := by decide +kernel
theorem dX8_doesBest_1 : decode cX8_doesBest 1 = .ok (.getfield 39, 3) := by decide +kernel
theorem dX8_doesBest_4 : decode cX8_doesBest 4 = .ok (.iconst 0, 1) := by decide +kernel
theorem dX8_doesBest_5 : decode cX8_doesBest 5 = .ok (.iaload, 1) := by decide +kernel
theorem dX8_doesBest_6 : decode cX8_doesBest 6 = .ok (.iconst 1, 1) := by decide +kernel
theorem dX8_doesBest_7 : decode cX8_doesBest 7 = .ok (.if_icmp .ne 28, 3) := by decide +kernel
theorem dX8_doesBest_10 : decode cX8_doesBest 10 = .ok (.aload_n 0, 1) := by decide +kernel
theorem dX8_doesBest_11 : decode cX8_doesBest 11 = .ok (.aload_n 0, 1) := by decide +kernel
theorem dX8_doesBest_12 : decode cX8_doesBest 12 = .ok (.getfield 39, 3) := by decide +kernel
theorem dX8_doesBest_15 : decode cX8_doesBest 15 = .ok (.iconst 2, 1) := by decide +kernel
theorem dX8_doesBest_16 : decode cX8_doesBest 16 = .ok (.iaload, 1) := by decide +kernel
theorem dX8_doesBest_17 : decode cX8_doesBest 17 = .ok (.aload_n 0, 1) := by decide +kernel
theorem dX8_doesBest_18 : decode cX8_doesBest 18 = .ok (.getfield 39, 3) := by decide +kernel
theorem dX8_doesBest_21 : decode cX8_doesBest 21 = .ok (.iconst 3, 1) := by decide +kernel
theorem dX8_doesBest_22 : decode cX8_doesBest 22 = .ok (.iaload, 1) := by decide +kernel
theorem dX8_doesBest_23 : decode cX8_doesBest 23 = .ok (.aload_n 0, 1) := by decide +kernel
theorem dX8_doesBest_24 : decode cX8_doesBest 24 = .ok (.getfield 39, 3) := by decide +kernel
theorem dX8_doesBest_27 : decode cX8_doesBest 27 = .ok (.iconst 4, 1) := by decide +kernel
theorem dX8_doesBest_28 : decode cX8_doesBest 28 = .ok (.iaload, 1) := by decide +kernel
theorem dX8_doesBest_29 : decode cX8_doesBest 29 = .ok (.invokevirtual 214, 3) := by decide +kernel
theorem dX8_doesBest_32 : decode cX8_doesBest 32 = .ok (.goto 81, 3) := by decide +kernel
theorem dX8_doesBest_35 : decode cX8_doesBest 35 = .ok (.aload_n 0, 1) := by decide +kernel
theorem dX8_doesBest_36 : decode cX8_doesBest 36 = .ok (.getfield 39, 3) := by decide +kernel
theorem dX8_doesBest_39 : decode cX8_doesBest 39 = .ok (.iconst 0, 1) := by decide +kernel
theorem dX8_doesBest_40 : decode cX8_doesBest 40 = .ok (.iaload, 1) := by decide +kernel
theorem dX8_doesBest_41 : decode cX8_doesBest 41 = .ok (.iconst 2, 1) := by decide +kernel
theorem dX8_doesBest_42 : decode cX8_doesBest 42 = .ok (.if_icmp .ne 55, 3) := by decide +kernel
theorem dX8_doesBest_45 : decode cX8_doesBest 45 = .ok (.aload_n 0, 1) := by decide +kernel
theorem dX8_doesBest_46 : decode cX8_doesBest 46 = .ok (.aload_n 0, 1) := by decide +kernel
theorem dX8_doesBest_47 : decode cX8_doesBest 47 = .ok (.getfield 39, 3) := by decide +kernel
theorem dX8_doesBest_50 : decode cX8_doesBest 50 = .ok (.iconst 2, 1) := by decide +kernel
theorem dX8_doesBest_51 : decode cX8_doesBest 51 = .ok (.iaload, 1) := by decide +kernel
theorem dX8_doesBest_52 : decode cX8_doesBest 52 = .ok (.invokevirtual 157, 3) := by decide +kernel
theorem dX8_doesBest_55 : decode cX8_doesBest 55 = .ok (.istore_n 1, 1) := by decide +kernel
theorem dX8_doesBest_56 : decode cX8_doesBest 56 = .ok (.aload_n 0, 1) := by decide +kernel
theorem dX8_doesBest_57 : decode cX8_doesBest 57 = .ok (.iload_n 1, 1) := by decide +kernel
theorem dX8_doesBest_58 : decode cX8_doesBest 58 = .ok (.aload_n 0, 1) := by decide +kernel
theorem dX8_doesBest_59 : decode cX8_doesBest 59 = .ok (.iload_n 1, 1) := by decide +kernel
theorem dX8_doesBest_60 : decode cX8_doesBest 60 = .ok (.aload_n 0, 1) := by decide +kernel
theorem dX8_doesBest_61 : decode cX8_doesBest 61 = .ok (.getfield 39, 3) := by decide +kernel
theorem dX8_doesBest_64 : decode cX8_doesBest 64 = .ok (.iconst 2, 1) := by decide +kernel
theorem dX8_doesBest_65 : decode cX8_doesBest 65 = .ok (.iaload, 1) := by decide +kernel
theorem dX8_doesBest_66 : decode cX8_doesBest 66 = .ok (.invokevirtual 66, 3) := by decide +kernel
theorem dX8_doesBest_69 : decode cX8_doesBest 69 = .ok (.invokevirtual 170, 3) := by decide +kernel
theorem dX8_doesBest_72 : decode cX8_doesBest 72 = .ok (.aload_n 0, 1) := by decide +kernel
theorem dX8_doesBest_73 : decode cX8_doesBest 73 = .ok (.aload_n 0, 1) := by decide +kernel
theorem dX8_doesBest_74 : decode cX8_doesBest 74 = .ok (.getfield 39, 3) := by decide +kernel
theorem dX8_doesBest_77 : decode cX8_doesBest 77 = .ok (.iconst 3, 1) := by decide +kernel
theorem dX8_doesBest_78 : decode cX8_doesBest 78 = .ok (.iaload, 1) := by decide +kernel
theorem dX8_doesBest_79 : decode cX8_doesBest 79 = .ok (.aload_n 0, 1) := by decide +kernel
theorem dX8_doesBest_80 : decode cX8_doesBest 80 = .ok (.getfield 39, 3) := by decide +kernel
theorem dX8_doesBest_83 : decode cX8_doesBest 83 = .ok (.iconst 4, 1) := by decide +kernel
theorem dX8_doesBest_84 : decode cX8_doesBest 84 = .ok (.iaload, 1) := by decide +kernel
theorem dX8_doesBest_85 : decode cX8_doesBest 85 = .ok (.aload_n 0, 1) := by decide +kernel
theorem dX8_doesBest_86 : decode cX8_doesBest 86 = .ok (.getfield 39, 3) := by decide +kernel
theorem dX8_doesBest_89 : decode cX8_doesBest 89 = .ok (.iconst 2, 1) := by decide +kernel
theorem dX8_doesBest_90 : decode cX8_doesBest 90 = .ok (.iaload, 1) := by decide +kernel
theorem dX8_doesBest_91 : decode cX8_doesBest 91 = .ok (.invokevirtual 165, 3) := by decide +kernel
theorem dX8_doesBest_94 : decode cX8_doesBest 94 = .ok (.goto 19, 3) := by decide +kernel
theorem dX8_doesBest_97 : decode cX8_doesBest 97 = .ok (.aload_n 0, 1) := by decide +kernel
theorem dX8_doesBest_98 : decode cX8_doesBest 98 = .ok (.aload_n 0, 1) := by decide +kernel
theorem dX8_doesBest_99 : decode cX8_doesBest 99 = .ok (.getfield 39, 3) := by decide +kernel
theorem dX8_doesBest_102 : decode cX8_doesBest 102 = .ok (.iconst 2, 1) := by decide +kernel
theorem dX8_doesBest_103 : decode cX8_doesBest 103 = .ok (.iaload, 1) := by decide +kernel
theorem dX8_doesBest_104 : decode cX8_doesBest 104 = .ok (.aload_n 0, 1) := by decide +kernel
theorem dX8_doesBest_105 : decode cX8_doesBest 105 = .ok (.getfield 39, 3) := by decide +kernel
theorem dX8_doesBest_108 : decode cX8_doesBest 108 = .ok (.iconst 3, 1) := by decide +kernel
theorem dX8_doesBest_109 : decode cX8_doesBest 109 = .ok (.iaload, 1) := by decide +kernel
theorem dX8_doesBest_110 : decode cX8_doesBest 110 = .ok (.invokevirtual 217, 3) := by decide +kernel
theorem dX8_doesBest_113 : decode cX8_doesBest 113 = .ok (.return_, 1) := by decide +kernel
theorem dX8_improve_0 : decode cX8_improve 0 = .ok (.iload_n 1, 1) := by decide +kernel
theorem dX8_improve_1 : decode cX8_improve 1 = .ok (.iconst 1, 1) := by decide +kernel
theorem dX8_improve_2 : decode cX8_improve 2 = .ok (.bipush 20, 2) := by decide +kernel
theorem dX8_improve_4 : decode cX8_improve 4 = .ok (.invokestatic 55, 3) := by decide +kernel
theorem dX8_improve_7 : decode cX8_improve 7 = .ok (.ifCond .ne 6, 3) := by decide +kernel
theorem dX8_improve_10 : decode cX8_improve 10 = .ok (.bipush (-2), 2) := by decide +kernel
theorem dX8_improve_12 : decode cX8_improve 12 = .ok (.ireturn, 1) := by decide +kernel
theorem dX8_improve_13 : decode cX8_improve 13 = .ok (.aload_n 0, 1) := by decide +kernel
theorem dX8_improve_14 : decode cX8_improve 14 = .ok (.iload_n 1, 1) := by decide +kernel
theorem dX8_improve_15 : decode cX8_improve 15 = .ok (.invokevirtual 208, 3) := by decide +kernel
theorem dX8_improve_18 : decode cX8_improve 18 = .ok (.ifCond .ne 6, 3) := by decide +kernel
theorem dX8_improve_21 : decode cX8_improve 21 = .ok (.bipush (-4), 2) := by decide +kernel
theorem dX8_improve_23 : decode cX8_improve 23 = .ok (.ireturn, 1) := by decide +kernel
theorem dX8_improve_24 : decode cX8_improve 24 = .ok (.iconst 0, 1) := by decide +kernel
theorem dX8_improve_25 : decode cX8_improve 25 = .ok (.istore_n 2, 1) := by decide +kernel
theorem dX8_improve_26 : decode cX8_improve 26 = .ok (.iload_n 2, 1) := by decide +kernel
theorem dX8_improve_27 : decode cX8_improve 27 = .ok (.iload_n 1, 1) := by decide +kernel
theorem dX8_improve_28 : decode cX8_improve 28 = .ok (.if_icmp .ge 20, 3) := by decide +kernel
theorem dX8_improve_31 : decode cX8_improve 31 = .ok (.aload_n 0, 1) := by decide +kernel
theorem dX8_improve_32 : decode cX8_improve 32 = .ok (.invokevirtual 233, 3) := by decide +kernel
theorem dX8_improve_35 : decode cX8_improve 35 = .ok (.ifCond .eq 13, 3) := by decide +kernel
theorem dX8_improve_38 : decode cX8_improve 38 = .ok (.aload_n 0, 1) := by decide +kernel
theorem dX8_improve_39 : decode cX8_improve 39 = .ok (.invokevirtual 236, 3) := by decide +kernel
theorem dX8_improve_42 : decode cX8_improve 42 = .ok (.iinc 2 1, 3) := by decide +kernel
theorem dX8_improve_45 : decode cX8_improve 45 = .ok (.goto (-19), 3) := by decide +kernel
theorem dX8_improve_48 : decode cX8_improve 48 = .ok (.iload_n 2, 1) := by decide +kernel
theorem dX8_improve_49 : decode cX8_improve 49 = .ok (.ireturn, 1) := by decide +kernel
theorem dX8_tight_0 : decode cX8_tight 0 = .ok (.bipush (-5), 2) := by decide +kernel
theorem dX8_tight_2 : decode cX8_tight 2 = .ok (.istore_n 2, 1) := by decide +kernel
theorem dX8_tight_3 : decode cX8_tight 3 = .ok (.iconst 0, 1) := by decide +kernel
theorem dX8_tight_4 : decode cX8_tight 4 = .ok (.istore_n 3, 1) := by decide +kernel
theorem dX8_tight_5 : decode cX8_tight 5 = .ok (.aload_n 0, 1) := by decide +kernel
theorem dX8_tight_6 : decode cX8_tight 6 = .ok (.iload_n 1, 1) := by decide +kernel
theorem dX8_tight_7 : decode cX8_tight 7 = .ok (.invokevirtual 160, 3) := by decide +kernel
theorem dX8_tight_10 : decode cX8_tight 10 = .ok (.iconst 0, 1) := by decide +kernel
theorem dX8_tight_11 : decode cX8_tight 11 = .ok (.istore 4, 2) := by decide +kernel
theorem dX8_tight_13 : decode cX8_tight 13 = .ok (.iload 4, 2) := by decide +kernel
theorem dX8_tight_15 : decode cX8_tight 15 = .ok (.aload_n 0, 1) := by decide +kernel
theorem dX8_tight_16 : decode cX8_tight 16 = .ok (.iload_n 1, 1) := by decide +kernel
theorem dX8_tight_17 : decode cX8_tight 17 = .ok (.iconst 3, 1) := by decide +kernel
theorem dX8_tight_18 : decode cX8_tight 18 = .ok (.invokevirtual 59, 3) := by decide +kernel
theorem dX8_tight_21 : decode cX8_tight 21 = .ok (.if_icmp .ge 50, 3) := by decide +kernel
theorem dX8_tight_24 : decode cX8_tight 24 = .ok (.aload_n 0, 1) := by decide +kernel
theorem dX8_tight_25 : decode cX8_tight 25 = .ok (.getfield 36, 3) := by decide +kernel
theorem dX8_tight_28 : decode cX8_tight 28 = .ok (.iload 4, 2) := by decide +kernel
theorem dX8_tight_30 : decode cX8_tight 30 = .ok (.iaload, 1) := by decide +kernel
theorem dX8_tight_31 : decode cX8_tight 31 = .ok (.aload_n 0, 1) := by decide +kernel
theorem dX8_tight_32 : decode cX8_tight 32 = .ok (.getfield 33, 3) := by decide +kernel
theorem dX8_tight_35 : decode cX8_tight 35 = .ok (.iload 4, 2) := by decide +kernel
theorem dX8_tight_37 : decode cX8_tight 37 = .ok (.iaload, 1) := by decide +kernel
theorem dX8_tight_38 : decode cX8_tight 38 = .ok (.isub, 1) := by decide +kernel
theorem dX8_tight_39 : decode cX8_tight 39 = .ok (.istore 5, 2) := by decide +kernel
theorem dX8_tight_41 : decode cX8_tight 41 = .ok (.iload_n 2, 1) := by decide +kernel
theorem dX8_tight_42 : decode cX8_tight 42 = .ok (.ifCond .lt 12, 3) := by decide +kernel
theorem dX8_tight_45 : decode cX8_tight 45 = .ok (.iload 5, 2) := by decide +kernel
theorem dX8_tight_47 : decode cX8_tight 47 = .ok (.iload_n 3, 1) := by decide +kernel
theorem dX8_tight_48 : decode cX8_tight 48 = .ok (.if_icmp .lt 6, 3) := by decide +kernel
theorem dX8_tight_51 : decode cX8_tight 51 = .ok (.goto 14, 3) := by decide +kernel
theorem dX8_tight_54 : decode cX8_tight 54 = .ok (.aload_n 0, 1) := by decide +kernel
theorem dX8_tight_55 : decode cX8_tight 55 = .ok (.iload_n 1, 1) := by decide +kernel
theorem dX8_tight_56 : decode cX8_tight 56 = .ok (.iload 4, 2) := by decide +kernel
theorem dX8_tight_58 : decode cX8_tight 58 = .ok (.invokevirtual 63, 3) := by decide +kernel
theorem dX8_tight_61 : decode cX8_tight 61 = .ok (.istore_n 2, 1) := by decide +kernel
theorem dX8_tight_62 : decode cX8_tight 62 = .ok (.iload 5, 2) := by decide +kernel
theorem dX8_tight_64 : decode cX8_tight 64 = .ok (.istore_n 3, 1) := by decide +kernel
theorem dX8_tight_65 : decode cX8_tight 65 = .ok (.iinc 4 1, 3) := by decide +kernel
theorem dX8_tight_68 : decode cX8_tight 68 = .ok (.goto (-55), 3) := by decide +kernel
theorem dX8_tight_71 : decode cX8_tight 71 = .ok (.iload_n 2, 1) := by decide +kernel
theorem dX8_tight_72 : decode cX8_tight 72 = .ok (.ireturn, 1) := by decide +kernel
theorem dX8_round_0 : decode cX8_round 0 = .ok (.iload_n 1, 1) := by decide +kernel
theorem dX8_round_1 : decode cX8_round 1 = .ok (.invokestatic 162, 3) := by decide +kernel
theorem dX8_round_4 : decode cX8_round 4 = .ok (.ifCond .eq 13, 3) := by decide +kernel
theorem dX8_round_7 : decode cX8_round 7 = .ok (.iload_n 2, 1) := by decide +kernel
theorem dX8_round_8 : decode cX8_round 8 = .ok (.iconst 0, 1) := by decide +kernel
theorem dX8_round_9 : decode cX8_round 9 = .ok (.bipush 9, 2) := by decide +kernel
theorem dX8_round_11 : decode cX8_round 11 = .ok (.invokestatic 55, 3) := by decide +kernel
theorem dX8_round_14 : decode cX8_round 14 = .ok (.ifCond .ne 5, 3) := by decide +kernel
theorem dX8_round_17 : decode cX8_round 17 = .ok (.iconst (-1), 1) := by decide +kernel
theorem dX8_round_18 : decode cX8_round 18 = .ok (.ireturn, 1) := by decide +kernel
theorem dX8_round_19 : decode cX8_round 19 = .ok (.iload_n 2, 1) := by decide +kernel
theorem dX8_round_20 : decode cX8_round 20 = .ok (.iconst 4, 1) := by decide +kernel
theorem dX8_round_21 : decode cX8_round 21 = .ok (.if_icmp .ge 10, 3) := by decide +kernel
theorem dX8_round_24 : decode cX8_round 24 = .ok (.aload_n 0, 1) := by decide +kernel
theorem dX8_round_25 : decode cX8_round 25 = .ok (.iload_n 1, 1) := by decide +kernel
theorem dX8_round_26 : decode cX8_round 26 = .ok (.iload_n 2, 1) := by decide +kernel
theorem dX8_round_27 : decode cX8_round 27 = .ok (.invokevirtual 59, 3) := by decide +kernel
theorem dX8_round_30 : decode cX8_round 30 = .ok (.ireturn, 1) := by decide +kernel
theorem dX8_round_31 : decode cX8_round 31 = .ok (.iload_n 2, 1) := by decide +kernel
theorem dX8_round_32 : decode cX8_round 32 = .ok (.iconst 5, 1) := by decide +kernel
theorem dX8_round_33 : decode cX8_round 33 = .ok (.if_icmp .ne 9, 3) := by decide +kernel
theorem dX8_round_36 : decode cX8_round 36 = .ok (.aload_n 0, 1) := by decide +kernel
theorem dX8_round_37 : decode cX8_round 37 = .ok (.iload_n 1, 1) := by decide +kernel
theorem dX8_round_38 : decode cX8_round 38 = .ok (.invokevirtual 111, 3) := by decide +kernel
theorem dX8_round_41 : decode cX8_round 41 = .ok (.ireturn, 1) := by decide +kernel
theorem dX8_round_42 : decode cX8_round 42 = .ok (.iload_n 2, 1) := by decide +kernel
theorem dX8_round_43 : decode cX8_round 43 = .ok (.bipush 8, 2) := by decide +kernel
theorem dX8_round_45 : decode cX8_round 45 = .ok (.if_icmp .ne 9, 3) := by decide +kernel
theorem dX8_round_48 : decode cX8_round 48 = .ok (.aload_n 0, 1) := by decide +kernel
theorem dX8_round_49 : decode cX8_round 49 = .ok (.iload_n 1, 1) := by decide +kernel
theorem dX8_round_50 : decode cX8_round 50 = .ok (.invokevirtual 239, 3) := by decide +kernel
theorem dX8_round_53 : decode cX8_round 53 = .ok (.ireturn, 1) := by decide +kernel
theorem dX8_round_54 : decode cX8_round 54 = .ok (.aload_n 0, 1) := by decide +kernel
theorem dX8_round_55 : decode cX8_round 55 = .ok (.iload_n 1, 1) := by decide +kernel
theorem dX8_round_56 : decode cX8_round 56 = .ok (.invokevirtual 160, 3) := by decide +kernel
theorem dX8_round_59 : decode cX8_round 59 = .ok (.iload_n 2, 1) := by decide +kernel
theorem dX8_round_60 : decode cX8_round 60 = .ok (.bipush 9, 2) := by decide +kernel
theorem dX8_round_62 : decode cX8_round 62 = .ok (.if_icmp .ne 31, 3) := by decide +kernel
theorem dX8_round_65 : decode cX8_round 65 = .ok (.aload_n 0, 1) := by decide +kernel
theorem dX8_round_66 : decode cX8_round 66 = .ok (.iload_n 1, 1) := by decide +kernel
theorem dX8_round_67 : decode cX8_round 67 = .ok (.iconst 3, 1) := by decide +kernel
theorem dX8_round_68 : decode cX8_round 68 = .ok (.invokevirtual 59, 3) := by decide +kernel
theorem dX8_round_71 : decode cX8_round 71 = .ok (.ifCond .ne 8, 3) := by decide +kernel
theorem dX8_round_74 : decode cX8_round 74 = .ok (.bipush (-5), 2) := by decide +kernel
theorem dX8_round_76 : decode cX8_round 76 = .ok (.goto 16, 3) := by decide +kernel
theorem dX8_round_79 : decode cX8_round 79 = .ok (.aload_n 0, 1) := by decide +kernel
theorem dX8_round_80 : decode cX8_round 80 = .ok (.getfield 36, 3) := by decide +kernel
theorem dX8_round_83 : decode cX8_round 83 = .ok (.iconst 0, 1) := by decide +kernel
theorem dX8_round_84 : decode cX8_round 84 = .ok (.iaload, 1) := by decide +kernel
theorem dX8_round_85 : decode cX8_round 85 = .ok (.aload_n 0, 1) := by decide +kernel
theorem dX8_round_86 : decode cX8_round 86 = .ok (.getfield 30, 3) := by decide +kernel
theorem dX8_round_89 : decode cX8_round 89 = .ok (.iconst 0, 1) := by decide +kernel
theorem dX8_round_90 : decode cX8_round 90 = .ok (.iaload, 1) := by decide +kernel
theorem dX8_round_91 : decode cX8_round 91 = .ok (.isub, 1) := by decide +kernel
theorem dX8_round_92 : decode cX8_round 92 = .ok (.ireturn, 1) := by decide +kernel
theorem dX8_round_93 : decode cX8_round 93 = .ok (.iload_n 2, 1) := by decide +kernel
theorem dX8_round_94 : decode cX8_round 94 = .ok (.iconst 4, 1) := by decide +kernel
theorem dX8_round_95 : decode cX8_round 95 = .ok (.if_icmp .ne 10, 3) := by decide +kernel
theorem dX8_round_98 : decode cX8_round 98 = .ok (.aload_n 0, 1) := by decide +kernel
theorem dX8_round_99 : decode cX8_round 99 = .ok (.getfield 95, 3) := by decide +kernel
theorem dX8_round_102 : decode cX8_round 102 = .ok (.goto 20, 3) := by decide +kernel
theorem dX8_round_105 : decode cX8_round 105 = .ok (.iload_n 2, 1) := by decide +kernel
theorem dX8_round_106 : decode cX8_round 106 = .ok (.bipush 6, 2) := by decide +kernel
theorem dX8_round_108 : decode cX8_round 108 = .ok (.if_icmp .ne 10, 3) := by decide +kernel
theorem dX8_round_111 : decode cX8_round 111 = .ok (.aload_n 0, 1) := by decide +kernel
theorem dX8_round_112 : decode cX8_round 112 = .ok (.getfield 98, 3) := by decide +kernel
theorem dX8_round_115 : decode cX8_round 115 = .ok (.goto 7, 3) := by decide +kernel
theorem dX8_round_118 : decode cX8_round 118 = .ok (.aload_n 0, 1) := by decide +kernel
theorem dX8_round_119 : decode cX8_round 119 = .ok (.getfield 91, 3) := by decide +kernel
theorem dX8_round_122 : decode cX8_round 122 = .ok (.ireturn, 1) := by decide +kernel
theorem dX8_at_0 : decode cX8_at 0 = .ok (.iload_n 1, 1) := by decide +kernel
theorem dX8_at_1 : decode cX8_at 1 = .ok (.invokestatic 162, 3) := by decide +kernel
theorem dX8_at_4 : decode cX8_at 4 = .ok (.ifCond .ne 5, 3) := by decide +kernel
theorem dX8_at_7 : decode cX8_at 7 = .ok (.iconst (-1), 1) := by decide +kernel
theorem dX8_at_8 : decode cX8_at 8 = .ok (.ireturn, 1) := by decide +kernel
theorem dX8_at_9 : decode cX8_at 9 = .ok (.iload_n 2, 1) := by decide +kernel
theorem dX8_at_10 : decode cX8_at 10 = .ok (.iconst 0, 1) := by decide +kernel
theorem dX8_at_11 : decode cX8_at 11 = .ok (.aload_n 0, 1) := by decide +kernel
theorem dX8_at_12 : decode cX8_at 12 = .ok (.iload_n 1, 1) := by decide +kernel
theorem dX8_at_13 : decode cX8_at 13 = .ok (.iconst 3, 1) := by decide +kernel
theorem dX8_at_14 : decode cX8_at 14 = .ok (.invokevirtual 59, 3) := by decide +kernel
theorem dX8_at_17 : decode cX8_at 17 = .ok (.iconst 1, 1) := by decide +kernel
theorem dX8_at_18 : decode cX8_at 18 = .ok (.isub, 1) := by decide +kernel
theorem dX8_at_19 : decode cX8_at 19 = .ok (.invokestatic 55, 3) := by decide +kernel
theorem dX8_at_22 : decode cX8_at 22 = .ok (.ifCond .eq 12, 3) := by decide +kernel
theorem dX8_at_25 : decode cX8_at 25 = .ok (.aload_n 0, 1) := by decide +kernel
theorem dX8_at_26 : decode cX8_at 26 = .ok (.iload_n 1, 1) := by decide +kernel
theorem dX8_at_27 : decode cX8_at 27 = .ok (.iload_n 2, 1) := by decide +kernel
theorem dX8_at_28 : decode cX8_at 28 = .ok (.invokevirtual 63, 3) := by decide +kernel
theorem dX8_at_31 : decode cX8_at 31 = .ok (.goto 5, 3) := by decide +kernel
theorem dX8_at_34 : decode cX8_at 34 = .ok (.bipush (-2), 2) := by decide +kernel
theorem dX8_at_36 : decode cX8_at 36 = .ok (.ireturn, 1) := by decide +kernel
theorem dX8_inNone_0 : decode cX8_inNone 0 = .ok (.iconst 0, 1) := by decide +kernel
theorem dX8_inNone_1 : decode cX8_inNone 1 = .ok (.istore_n 1, 1) := by decide +kernel
theorem dX8_inNone_2 : decode cX8_inNone 2 = .ok (.iconst 0, 1) := by decide +kernel
theorem dX8_inNone_3 : decode cX8_inNone 3 = .ok (.istore_n 2, 1) := by decide +kernel
theorem dX8_inNone_4 : decode cX8_inNone 4 = .ok (.iload_n 2, 1) := by decide +kernel
theorem dX8_inNone_5 : decode cX8_inNone 5 = .ok (.aload_n 0, 1) := by decide +kernel
theorem dX8_inNone_6 : decode cX8_inNone 6 = .ok (.getfield 11, 3) := by decide +kernel
theorem dX8_inNone_9 : decode cX8_inNone 9 = .ok (.iconst 4, 1) := by decide +kernel
theorem dX8_inNone_10 : decode cX8_inNone 10 = .ok (.iaload, 1) := by decide +kernel
theorem dX8_inNone_11 : decode cX8_inNone 11 = .ok (.if_icmp .ge 25, 3) := by decide +kernel
theorem dX8_inNone_14 : decode cX8_inNone 14 = .ok (.iload_n 1, 1) := by decide +kernel
theorem dX8_inNone_15 : decode cX8_inNone 15 = .ok (.aload_n 0, 1) := by decide +kernel
theorem dX8_inNone_16 : decode cX8_inNone 16 = .ok (.iload_n 2, 1) := by decide +kernel
theorem dX8_inNone_17 : decode cX8_inNone 17 = .ok (.invokevirtual 157, 3) := by decide +kernel
theorem dX8_inNone_20 : decode cX8_inNone 20 = .ok (.ifCond .ge 7, 3) := by decide +kernel
theorem dX8_inNone_23 : decode cX8_inNone 23 = .ok (.iconst 1, 1) := by decide +kernel
theorem dX8_inNone_24 : decode cX8_inNone 24 = .ok (.goto 4, 3) := by decide +kernel
theorem dX8_inNone_27 : decode cX8_inNone 27 = .ok (.iconst 0, 1) := by decide +kernel
theorem dX8_inNone_28 : decode cX8_inNone 28 = .ok (.iadd, 1) := by decide +kernel
theorem dX8_inNone_29 : decode cX8_inNone 29 = .ok (.istore_n 1, 1) := by decide +kernel
theorem dX8_inNone_30 : decode cX8_inNone 30 = .ok (.iinc 2 1, 3) := by decide +kernel
theorem dX8_inNone_33 : decode cX8_inNone 33 = .ok (.goto (-29), 3) := by decide +kernel
theorem dX8_inNone_36 : decode cX8_inNone 36 = .ok (.iload_n 1, 1) := by decide +kernel
theorem dX8_inNone_37 : decode cX8_inNone 37 = .ok (.ireturn, 1) := by decide +kernel
theorem dX8_allWaits_0 : decode cX8_allWaits 0 = .ok (.iconst 0, 1) := by decide +kernel
theorem dX8_allWaits_1 : decode cX8_allWaits 1 = .ok (.istore_n 1, 1) := by decide +kernel
theorem dX8_allWaits_2 : decode cX8_allWaits 2 = .ok (.iconst 0, 1) := by decide +kernel
theorem dX8_allWaits_3 : decode cX8_allWaits 3 = .ok (.istore_n 2, 1) := by decide +kernel
theorem dX8_allWaits_4 : decode cX8_allWaits 4 = .ok (.iload_n 2, 1) := by decide +kernel
theorem dX8_allWaits_5 : decode cX8_allWaits 5 = .ok (.iconst 4, 1) := by decide +kernel
theorem dX8_allWaits_6 : decode cX8_allWaits 6 = .ok (.if_icmp .ge 23, 3) := by decide +kernel
theorem dX8_allWaits_9 : decode cX8_allWaits 9 = .ok (.aload_n 0, 1) := by decide +kernel
theorem dX8_allWaits_10 : decode cX8_allWaits 10 = .ok (.iload_n 2, 1) := by decide +kernel
theorem dX8_allWaits_11 : decode cX8_allWaits 11 = .ok (.iconst 0, 1) := by decide +kernel
theorem dX8_allWaits_12 : decode cX8_allWaits 12 = .ok (.invokevirtual 101, 3) := by decide +kernel
theorem dX8_allWaits_15 : decode cX8_allWaits 15 = .ok (.pop, 1) := by decide +kernel
theorem dX8_allWaits_16 : decode cX8_allWaits 16 = .ok (.iload_n 1, 1) := by decide +kernel
theorem dX8_allWaits_17 : decode cX8_allWaits 17 = .ok (.aload_n 0, 1) := by decide +kernel
theorem dX8_allWaits_18 : decode cX8_allWaits 18 = .ok (.getfield 91, 3) := by decide +kernel
theorem dX8_allWaits_21 : decode cX8_allWaits 21 = .ok (.iadd, 1) := by decide +kernel
theorem dX8_allWaits_22 : decode cX8_allWaits 22 = .ok (.istore_n 1, 1) := by decide +kernel
theorem dX8_allWaits_23 : decode cX8_allWaits 23 = .ok (.iinc 2 1, 3) := by decide +kernel
theorem dX8_allWaits_26 : decode cX8_allWaits 26 = .ok (.goto (-22), 3) := by decide +kernel
theorem dX8_allWaits_29 : decode cX8_allWaits 29 = .ok (.iload_n 1, 1) := by decide +kernel
theorem dX8_allWaits_30 : decode cX8_allWaits 30 = .ok (.ireturn, 1) := by decide +kernel
theorem dX8_told_0 : decode cX8_told 0 = .ok (.iconst 0, 1) := by decide +kernel
theorem dX8_told_1 : decode cX8_told 1 = .ok (.istore_n 2, 1) := by decide +kernel
theorem dX8_told_2 : decode cX8_told 2 = .ok (.iload_n 1, 1) := by decide +kernel
theorem dX8_told_3 : decode cX8_told 3 = .ok (.tableswitch 137 0 5 #[37, 42, 65, 70, 100, 132], 37) := by decide +kernel
theorem dX8_told_40 : decode cX8_told 40 = .ok (.aload_n 0, 1) := by decide +kernel
theorem dX8_told_41 : decode cX8_told 41 = .ok (.invokevirtual 177, 3) := by decide +kernel
theorem dX8_told_44 : decode cX8_told 44 = .ok (.ireturn, 1) := by decide +kernel
theorem dX8_told_45 : decode cX8_told 45 = .ok (.iconst 0, 1) := by decide +kernel
theorem dX8_told_46 : decode cX8_told 46 = .ok (.istore_n 3, 1) := by decide +kernel
theorem dX8_told_47 : decode cX8_told 47 = .ok (.iload_n 3, 1) := by decide +kernel
theorem dX8_told_48 : decode cX8_told 48 = .ok (.iconst 4, 1) := by decide +kernel
theorem dX8_told_49 : decode cX8_told 49 = .ok (.if_icmp .ge 17, 3) := by decide +kernel
theorem dX8_told_52 : decode cX8_told 52 = .ok (.iload_n 2, 1) := by decide +kernel
theorem dX8_told_53 : decode cX8_told 53 = .ok (.aload_n 0, 1) := by decide +kernel
theorem dX8_told_54 : decode cX8_told 54 = .ok (.iload_n 3, 1) := by decide +kernel
theorem dX8_told_55 : decode cX8_told 55 = .ok (.invokevirtual 111, 3) := by decide +kernel
theorem dX8_told_58 : decode cX8_told 58 = .ok (.iadd, 1) := by decide +kernel
theorem dX8_told_59 : decode cX8_told 59 = .ok (.istore_n 2, 1) := by decide +kernel
theorem dX8_told_60 : decode cX8_told 60 = .ok (.iinc 3 1, 3) := by decide +kernel
theorem dX8_told_63 : decode cX8_told 63 = .ok (.goto (-16), 3) := by decide +kernel
theorem dX8_told_66 : decode cX8_told 66 = .ok (.iload_n 2, 1) := by decide +kernel
theorem dX8_told_67 : decode cX8_told 67 = .ok (.ireturn, 1) := by decide +kernel
theorem dX8_told_68 : decode cX8_told 68 = .ok (.aload_n 0, 1) := by decide +kernel
theorem dX8_told_69 : decode cX8_told 69 = .ok (.invokevirtual 242, 3) := by decide +kernel
theorem dX8_told_72 : decode cX8_told 72 = .ok (.ireturn, 1) := by decide +kernel
theorem dX8_told_73 : decode cX8_told 73 = .ok (.iconst 0, 1) := by decide +kernel
theorem dX8_told_74 : decode cX8_told 74 = .ok (.istore_n 3, 1) := by decide +kernel
theorem dX8_told_75 : decode cX8_told 75 = .ok (.iload_n 3, 1) := by decide +kernel
theorem dX8_told_76 : decode cX8_told 76 = .ok (.aload_n 0, 1) := by decide +kernel
theorem dX8_told_77 : decode cX8_told 77 = .ok (.getfield 11, 3) := by decide +kernel
theorem dX8_told_80 : decode cX8_told 80 = .ok (.iconst 4, 1) := by decide +kernel
theorem dX8_told_81 : decode cX8_told 81 = .ok (.iaload, 1) := by decide +kernel
theorem dX8_told_82 : decode cX8_told 82 = .ok (.if_icmp .ge 19, 3) := by decide +kernel
theorem dX8_told_85 : decode cX8_told 85 = .ok (.iload_n 2, 1) := by decide +kernel
theorem dX8_told_86 : decode cX8_told 86 = .ok (.aload_n 0, 1) := by decide +kernel
theorem dX8_told_87 : decode cX8_told 87 = .ok (.iload_n 3, 1) := by decide +kernel
theorem dX8_told_88 : decode cX8_told 88 = .ok (.bipush 6, 2) := by decide +kernel
theorem dX8_told_90 : decode cX8_told 90 = .ok (.invokevirtual 78, 3) := by decide +kernel
theorem dX8_told_93 : decode cX8_told 93 = .ok (.iadd, 1) := by decide +kernel
theorem dX8_told_94 : decode cX8_told 94 = .ok (.istore_n 2, 1) := by decide +kernel
theorem dX8_told_95 : decode cX8_told 95 = .ok (.iinc 3 1, 3) := by decide +kernel
theorem dX8_told_98 : decode cX8_told 98 = .ok (.goto (-23), 3) := by decide +kernel
theorem dX8_told_101 : decode cX8_told 101 = .ok (.iload_n 2, 1) := by decide +kernel
theorem dX8_told_102 : decode cX8_told 102 = .ok (.ireturn, 1) := by decide +kernel
theorem dX8_told_103 : decode cX8_told 103 = .ok (.iconst 0, 1) := by decide +kernel
theorem dX8_told_104 : decode cX8_told 104 = .ok (.istore_n 3, 1) := by decide +kernel
theorem dX8_told_105 : decode cX8_told 105 = .ok (.iload_n 3, 1) := by decide +kernel
theorem dX8_told_106 : decode cX8_told 106 = .ok (.iconst 4, 1) := by decide +kernel
theorem dX8_told_107 : decode cX8_told 107 = .ok (.if_icmp .ge 26, 3) := by decide +kernel
theorem dX8_told_110 : decode cX8_told 110 = .ok (.iload_n 2, 1) := by decide +kernel
theorem dX8_told_111 : decode cX8_told 111 = .ok (.aload_n 0, 1) := by decide +kernel
theorem dX8_told_112 : decode cX8_told 112 = .ok (.iload_n 3, 1) := by decide +kernel
theorem dX8_told_113 : decode cX8_told 113 = .ok (.iconst 3, 1) := by decide +kernel
theorem dX8_told_114 : decode cX8_told 114 = .ok (.invokevirtual 59, 3) := by decide +kernel
theorem dX8_told_117 : decode cX8_told 117 = .ok (.ifCond .le 7, 3) := by decide +kernel
theorem dX8_told_120 : decode cX8_told 120 = .ok (.iconst 1, 1) := by decide +kernel
theorem dX8_told_121 : decode cX8_told 121 = .ok (.goto 4, 3) := by decide +kernel
theorem dX8_told_124 : decode cX8_told 124 = .ok (.iconst 0, 1) := by decide +kernel
theorem dX8_told_125 : decode cX8_told 125 = .ok (.iadd, 1) := by decide +kernel
theorem dX8_told_126 : decode cX8_told 126 = .ok (.istore_n 2, 1) := by decide +kernel
theorem dX8_told_127 : decode cX8_told 127 = .ok (.iinc 3 1, 3) := by decide +kernel
theorem dX8_told_130 : decode cX8_told 130 = .ok (.goto (-25), 3) := by decide +kernel
theorem dX8_told_133 : decode cX8_told 133 = .ok (.iload_n 2, 1) := by decide +kernel
theorem dX8_told_134 : decode cX8_told 134 = .ok (.ireturn, 1) := by decide +kernel
theorem dX8_told_135 : decode cX8_told 135 = .ok (.aload_n 0, 1) := by decide +kernel
theorem dX8_told_136 : decode cX8_told 136 = .ok (.invokevirtual 245, 3) := by decide +kernel
theorem dX8_told_139 : decode cX8_told 139 = .ok (.ireturn, 1) := by decide +kernel
theorem dX8_told_140 : decode cX8_told 140 = .ok (.iconst (-1), 1) := by decide +kernel
theorem dX8_told_141 : decode cX8_told 141 = .ok (.ireturn, 1) := by decide +kernel
theorem dX8_far_0 : decode cX8_far 0 = .ok (.iconst 0, 1) := by decide +kernel
theorem dX8_far_1 : decode cX8_far 1 = .ok (.iload_n 1, 1) := by decide +kernel
theorem dX8_far_2 : decode cX8_far 2 = .ok (.invokestatic 114, 3) := by decide +kernel
theorem dX8_far_5 : decode cX8_far 5 = .ok (.ifCond .eq 40, 3) := by decide +kernel
theorem dX8_far_8 : decode cX8_far 8 = .ok (.iconst 1, 1) := by decide +kernel
theorem dX8_far_9 : decode cX8_far 9 = .ok (.iload_n 2, 1) := by decide +kernel
theorem dX8_far_10 : decode cX8_far 10 = .ok (.invokestatic 114, 3) := by decide +kernel
theorem dX8_far_13 : decode cX8_far 13 = .ok (.ifCond .eq 32, 3) := by decide +kernel
theorem dX8_far_16 : decode cX8_far 16 = .ok (.iconst 0, 1) := by decide +kernel
theorem dX8_far_17 : decode cX8_far 17 = .ok (.iload_n 3, 1) := by decide +kernel
theorem dX8_far_18 : decode cX8_far 18 = .ok (.invokestatic 114, 3) := by decide +kernel
theorem dX8_far_21 : decode cX8_far 21 = .ok (.ifCond .eq 24, 3) := by decide +kernel
theorem dX8_far_24 : decode cX8_far 24 = .ok (.iconst 1, 1) := by decide +kernel
theorem dX8_far_25 : decode cX8_far 25 = .ok (.iload 4, 2) := by decide +kernel
theorem dX8_far_27 : decode cX8_far 27 = .ok (.invokestatic 114, 3) := by decide +kernel
theorem dX8_far_30 : decode cX8_far 30 = .ok (.ifCond .eq 15, 3) := by decide +kernel
theorem dX8_far_33 : decode cX8_far 33 = .ok (.aload_n 0, 1) := by decide +kernel
theorem dX8_far_34 : decode cX8_far 34 = .ok (.iload_n 1, 1) := by decide +kernel
theorem dX8_far_35 : decode cX8_far 35 = .ok (.iload_n 2, 1) := by decide +kernel
theorem dX8_far_36 : decode cX8_far 36 = .ok (.iload_n 3, 1) := by decide +kernel
theorem dX8_far_37 : decode cX8_far 37 = .ok (.iload 4, 2) := by decide +kernel
theorem dX8_far_39 : decode cX8_far 39 = .ok (.invokevirtual 81, 3) := by decide +kernel
theorem dX8_far_42 : decode cX8_far 42 = .ok (.goto 5, 3) := by decide +kernel
theorem dX8_far_45 : decode cX8_far 45 = .ok (.bipush (-2), 2) := by decide +kernel
theorem dX8_far_47 : decode cX8_far 47 = .ok (.ireturn, 1) := by decide +kernel
theorem dX8_adds_0 : decode cX8_adds 0 = .ok (.aload_n 0, 1) := by decide +kernel
theorem dX8_adds_1 : decode cX8_adds 1 = .ok (.iload_n 1, 1) := by decide +kernel
theorem dX8_adds_2 : decode cX8_adds 2 = .ok (.invokevirtual 151, 3) := by decide +kernel
theorem dX8_adds_5 : decode cX8_adds 5 = .ok (.ifCond .eq 10, 3) := by decide +kernel
theorem dX8_adds_8 : decode cX8_adds 8 = .ok (.iload_n 2, 1) := by decide +kernel
theorem dX8_adds_9 : decode cX8_adds 9 = .ok (.invokestatic 162, 3) := by decide +kernel
theorem dX8_adds_12 : decode cX8_adds 12 = .ok (.ifCond .ne 5, 3) := by decide +kernel
theorem dX8_adds_15 : decode cX8_adds 15 = .ok (.iconst (-1), 1) := by decide +kernel
theorem dX8_adds_16 : decode cX8_adds 16 = .ok (.ireturn, 1) := by decide +kernel
theorem dX8_adds_17 : decode cX8_adds 17 = .ok (.aload_n 0, 1) := by decide +kernel
theorem dX8_adds_18 : decode cX8_adds 18 = .ok (.iload_n 1, 1) := by decide +kernel
theorem dX8_adds_19 : decode cX8_adds 19 = .ok (.invokevirtual 157, 3) := by decide +kernel
theorem dX8_adds_22 : decode cX8_adds 22 = .ok (.ifCond .lt 6, 3) := by decide +kernel
theorem dX8_adds_25 : decode cX8_adds 25 = .ok (.bipush (-3), 2) := by decide +kernel
theorem dX8_adds_27 : decode cX8_adds 27 = .ok (.ireturn, 1) := by decide +kernel
theorem dX8_adds_28 : decode cX8_adds 28 = .ok (.iload_n 3, 1) := by decide +kernel
theorem dX8_adds_29 : decode cX8_adds 29 = .ok (.iconst 0, 1) := by decide +kernel
theorem dX8_adds_30 : decode cX8_adds 30 = .ok (.aload_n 0, 1) := by decide +kernel
theorem dX8_adds_31 : decode cX8_adds 31 = .ok (.iload_n 2, 1) := by decide +kernel
theorem dX8_adds_32 : decode cX8_adds 32 = .ok (.iconst 3, 1) := by decide +kernel
theorem dX8_adds_33 : decode cX8_adds 33 = .ok (.invokevirtual 59, 3) := by decide +kernel
theorem dX8_adds_36 : decode cX8_adds 36 = .ok (.invokestatic 55, 3) := by decide +kernel
theorem dX8_adds_39 : decode cX8_adds 39 = .ok (.ifCond .ne 6, 3) := by decide +kernel
theorem dX8_adds_42 : decode cX8_adds 42 = .ok (.bipush (-2), 2) := by decide +kernel
theorem dX8_adds_44 : decode cX8_adds 44 = .ok (.ireturn, 1) := by decide +kernel
theorem dX8_adds_45 : decode cX8_adds 45 = .ok (.aload_n 0, 1) := by decide +kernel
theorem dX8_adds_46 : decode cX8_adds 46 = .ok (.iload_n 1, 1) := by decide +kernel
theorem dX8_adds_47 : decode cX8_adds 47 = .ok (.iload_n 2, 1) := by decide +kernel
theorem dX8_adds_48 : decode cX8_adds 48 = .ok (.iload_n 3, 1) := by decide +kernel
theorem dX8_adds_49 : decode cX8_adds 49 = .ok (.invokevirtual 174, 3) := by decide +kernel
theorem dX8_adds_52 : decode cX8_adds 52 = .ok (.istore 4, 2) := by decide +kernel
theorem dX8_adds_54 : decode cX8_adds 54 = .ok (.iload 4, 2) := by decide +kernel
theorem dX8_adds_56 : decode cX8_adds 56 = .ok (.ldc 169, 2) := by decide +kernel
theorem dX8_adds_58 : decode cX8_adds 58 = .ok (.if_icmp .ne 8, 3) := by decide +kernel
theorem dX8_adds_61 : decode cX8_adds 61 = .ok (.bipush (-5), 2) := by decide +kernel
theorem dX8_adds_63 : decode cX8_adds 63 = .ok (.goto 5, 3) := by decide +kernel
theorem dX8_adds_66 : decode cX8_adds 66 = .ok (.iload 4, 2) := by decide +kernel
theorem dX8_adds_68 : decode cX8_adds 68 = .ok (.ireturn, 1) := by decide +kernel
theorem dX8_cheapest_0 : decode cX8_cheapest 0 = .ok (.aload_n 0, 1) := by decide +kernel
theorem dX8_cheapest_1 : decode cX8_cheapest 1 = .ok (.iload_n 1, 1) := by decide +kernel
theorem dX8_cheapest_2 : decode cX8_cheapest 2 = .ok (.invokevirtual 151, 3) := by decide +kernel
theorem dX8_cheapest_5 : decode cX8_cheapest 5 = .ok (.ifCond .eq 29, 3) := by decide +kernel
theorem dX8_cheapest_8 : decode cX8_cheapest 8 = .ok (.iload_n 2, 1) := by decide +kernel
theorem dX8_cheapest_9 : decode cX8_cheapest 9 = .ok (.iconst (-1), 1) := by decide +kernel
theorem dX8_cheapest_10 : decode cX8_cheapest 10 = .ok (.iconst 3, 1) := by decide +kernel
theorem dX8_cheapest_11 : decode cX8_cheapest 11 = .ok (.invokestatic 55, 3) := by decide +kernel
theorem dX8_cheapest_14 : decode cX8_cheapest 14 = .ok (.ifCond .eq 20, 3) := by decide +kernel
theorem dX8_cheapest_17 : decode cX8_cheapest 17 = .ok (.iload_n 3, 1) := by decide +kernel
theorem dX8_cheapest_18 : decode cX8_cheapest 18 = .ok (.iconst 0, 1) := by decide +kernel
theorem dX8_cheapest_19 : decode cX8_cheapest 19 = .ok (.iload_n 2, 1) := by decide +kernel
theorem dX8_cheapest_20 : decode cX8_cheapest 20 = .ok (.ifCond .ge 7, 3) := by decide +kernel
theorem dX8_cheapest_23 : decode cX8_cheapest 23 = .ok (.iconst 3, 1) := by decide +kernel
theorem dX8_cheapest_24 : decode cX8_cheapest 24 = .ok (.goto 4, 3) := by decide +kernel
theorem dX8_cheapest_27 : decode cX8_cheapest 27 = .ok (.iconst 2, 1) := by decide +kernel
theorem dX8_cheapest_28 : decode cX8_cheapest 28 = .ok (.invokestatic 55, 3) := by decide +kernel
theorem dX8_cheapest_31 : decode cX8_cheapest 31 = .ok (.ifCond .ne 5, 3) := by decide +kernel
theorem dX8_cheapest_34 : decode cX8_cheapest 34 = .ok (.iconst (-1), 1) := by decide +kernel
theorem dX8_cheapest_35 : decode cX8_cheapest 35 = .ok (.ireturn, 1) := by decide +kernel
theorem dX8_cheapest_36 : decode cX8_cheapest 36 = .ok (.aload_n 0, 1) := by decide +kernel
theorem dX8_cheapest_37 : decode cX8_cheapest 37 = .ok (.iload_n 1, 1) := by decide +kernel
theorem dX8_cheapest_38 : decode cX8_cheapest 38 = .ok (.invokevirtual 157, 3) := by decide +kernel
theorem dX8_cheapest_41 : decode cX8_cheapest 41 = .ok (.ifCond .lt 6, 3) := by decide +kernel
theorem dX8_cheapest_44 : decode cX8_cheapest 44 = .ok (.bipush (-3), 2) := by decide +kernel
theorem dX8_cheapest_46 : decode cX8_cheapest 46 = .ok (.ireturn, 1) := by decide +kernel
theorem dX8_cheapest_47 : decode cX8_cheapest 47 = .ok (.iload_n 2, 1) := by decide +kernel
theorem dX8_cheapest_48 : decode cX8_cheapest 48 = .ok (.ifCond .ge 11, 3) := by decide +kernel
theorem dX8_cheapest_51 : decode cX8_cheapest 51 = .ok (.aload_n 0, 1) := by decide +kernel
theorem dX8_cheapest_52 : decode cX8_cheapest 52 = .ok (.iload_n 1, 1) := by decide +kernel
theorem dX8_cheapest_53 : decode cX8_cheapest 53 = .ok (.invokevirtual 202, 3) := by decide +kernel
theorem dX8_cheapest_56 : decode cX8_cheapest 56 = .ok (.goto 9, 3) := by decide +kernel
theorem dX8_cheapest_59 : decode cX8_cheapest 59 = .ok (.aload_n 0, 1) := by decide +kernel
theorem dX8_cheapest_60 : decode cX8_cheapest 60 = .ok (.iload_n 1, 1) := by decide +kernel
theorem dX8_cheapest_61 : decode cX8_cheapest 61 = .ok (.iload_n 2, 1) := by decide +kernel
theorem dX8_cheapest_62 : decode cX8_cheapest 62 = .ok (.invokevirtual 196, 3) := by decide +kernel
theorem dX8_cheapest_65 : decode cX8_cheapest 65 = .ok (.istore 4, 2) := by decide +kernel
theorem dX8_cheapest_67 : decode cX8_cheapest 67 = .ok (.iload 4, 2) := by decide +kernel
theorem dX8_cheapest_69 : decode cX8_cheapest 69 = .ok (.ifCond .ne 6, 3) := by decide +kernel
theorem dX8_cheapest_72 : decode cX8_cheapest 72 = .ok (.bipush (-5), 2) := by decide +kernel
theorem dX8_cheapest_74 : decode cX8_cheapest 74 = .ok (.ireturn, 1) := by decide +kernel
theorem dX8_cheapest_75 : decode cX8_cheapest 75 = .ok (.iload_n 3, 1) := by decide +kernel
theorem dX8_cheapest_76 : decode cX8_cheapest 76 = .ok (.ifCond .ne 18, 3) := by decide +kernel
theorem dX8_cheapest_79 : decode cX8_cheapest 79 = .ok (.iload_n 2, 1) := by decide +kernel
theorem dX8_cheapest_80 : decode cX8_cheapest 80 = .ok (.ifCond .ge 10, 3) := by decide +kernel
theorem dX8_cheapest_83 : decode cX8_cheapest 83 = .ok (.aload_n 0, 1) := by decide +kernel
theorem dX8_cheapest_84 : decode cX8_cheapest 84 = .ok (.getfield 193, 3) := by decide +kernel
theorem dX8_cheapest_87 : decode cX8_cheapest 87 = .ok (.goto 35, 3) := by decide +kernel
theorem dX8_cheapest_90 : decode cX8_cheapest 90 = .ok (.iload_n 2, 1) := by decide +kernel
theorem dX8_cheapest_91 : decode cX8_cheapest 91 = .ok (.goto 31, 3) := by decide +kernel
theorem dX8_cheapest_94 : decode cX8_cheapest 94 = .ok (.iload_n 3, 1) := by decide +kernel
theorem dX8_cheapest_95 : decode cX8_cheapest 95 = .ok (.iconst 1, 1) := by decide +kernel
theorem dX8_cheapest_96 : decode cX8_cheapest 96 = .ok (.if_icmp .ne 10, 3) := by decide +kernel
theorem dX8_cheapest_99 : decode cX8_cheapest 99 = .ok (.aload_n 0, 1) := by decide +kernel
theorem dX8_cheapest_100 : decode cX8_cheapest 100 = .ok (.getfield 187, 3) := by decide +kernel
theorem dX8_cheapest_103 : decode cX8_cheapest 103 = .ok (.goto 19, 3) := by decide +kernel
theorem dX8_cheapest_106 : decode cX8_cheapest 106 = .ok (.iload_n 3, 1) := by decide +kernel
theorem dX8_cheapest_107 : decode cX8_cheapest 107 = .ok (.iconst 2, 1) := by decide +kernel
theorem dX8_cheapest_108 : decode cX8_cheapest 108 = .ok (.if_icmp .ne 10, 3) := by decide +kernel
theorem dX8_cheapest_111 : decode cX8_cheapest 111 = .ok (.aload_n 0, 1) := by decide +kernel
theorem dX8_cheapest_112 : decode cX8_cheapest 112 = .ok (.getfield 190, 3) := by decide +kernel
theorem dX8_cheapest_115 : decode cX8_cheapest 115 = .ok (.goto 7, 3) := by decide +kernel
theorem dX8_cheapest_118 : decode cX8_cheapest 118 = .ok (.aload_n 0, 1) := by decide +kernel
theorem dX8_cheapest_119 : decode cX8_cheapest 119 = .ok (.getfield 199, 3) := by decide +kernel
theorem dX8_cheapest_122 : decode cX8_cheapest 122 = .ok (.ireturn, 1) := by decide +kernel
theorem dX8_best_0 : decode cX8_best 0 = .ok (.iload_n 1, 1) := by decide +kernel
theorem dX8_best_1 : decode cX8_best 1 = .ok (.iconst 0, 1) := by decide +kernel
theorem dX8_best_2 : decode cX8_best 2 = .ok (.iconst 4, 1) := by decide +kernel
theorem dX8_best_3 : decode cX8_best 3 = .ok (.invokestatic 55, 3) := by decide +kernel
theorem dX8_best_6 : decode cX8_best 6 = .ok (.ifCond .ne 5, 3) := by decide +kernel
theorem dX8_best_9 : decode cX8_best 9 = .ok (.iconst (-1), 1) := by decide +kernel
theorem dX8_best_10 : decode cX8_best 10 = .ok (.ireturn, 1) := by decide +kernel
theorem dX8_best_11 : decode cX8_best 11 = .ok (.aload_n 0, 1) := by decide +kernel
theorem dX8_best_12 : decode cX8_best 12 = .ok (.iconst 1, 1) := by decide +kernel
theorem dX8_best_13 : decode cX8_best 13 = .ok (.invokevirtual 208, 3) := by decide +kernel
theorem dX8_best_16 : decode cX8_best 16 = .ok (.ifCond .ne 6, 3) := by decide +kernel
theorem dX8_best_19 : decode cX8_best 19 = .ok (.bipush (-4), 2) := by decide +kernel
theorem dX8_best_21 : decode cX8_best 21 = .ok (.ireturn, 1) := by decide +kernel
theorem dX8_best_22 : decode cX8_best 22 = .ok (.aload_n 0, 1) := by decide +kernel
theorem dX8_best_23 : decode cX8_best 23 = .ok (.invokevirtual 233, 3) := by decide +kernel
theorem dX8_best_26 : decode cX8_best 26 = .ok (.istore_n 2, 1) := by decide +kernel
theorem dX8_best_27 : decode cX8_best 27 = .ok (.aload_n 0, 1) := by decide +kernel
theorem dX8_best_28 : decode cX8_best 28 = .ok (.iload_n 2, 1) := by decide +kernel
theorem dX8_best_29 : decode cX8_best 29 = .ok (.ifCond .eq 12, 3) := by decide +kernel
theorem dX8_best_32 : decode cX8_best 32 = .ok (.aload_n 0, 1) := by decide +kernel
theorem dX8_best_33 : decode cX8_best 33 = .ok (.getfield 39, 3) := by decide +kernel
theorem dX8_best_36 : decode cX8_best 36 = .ok (.iconst 0, 1) := by decide +kernel
theorem dX8_best_37 : decode cX8_best 37 = .ok (.iaload, 1) := by decide +kernel
theorem dX8_best_38 : decode cX8_best 38 = .ok (.goto 4, 3) := by decide +kernel
theorem dX8_best_41 : decode cX8_best 41 = .ok (.iconst 0, 1) := by decide +kernel
theorem dX8_best_42 : decode cX8_best 42 = .ok (.putfield 248, 3) := by decide +kernel
theorem dX8_best_45 : decode cX8_best 45 = .ok (.iload_n 2, 1) := by decide +kernel
theorem dX8_best_46 : decode cX8_best 46 = .ok (.ifCond .eq 12, 3) := by decide +kernel
theorem dX8_best_49 : decode cX8_best 49 = .ok (.aload_n 0, 1) := by decide +kernel
theorem dX8_best_50 : decode cX8_best 50 = .ok (.getfield 39, 3) := by decide +kernel
theorem dX8_best_53 : decode cX8_best 53 = .ok (.iload_n 1, 1) := by decide +kernel
theorem dX8_best_54 : decode cX8_best 54 = .ok (.iaload, 1) := by decide +kernel
theorem dX8_best_55 : decode cX8_best 55 = .ok (.goto 5, 3) := by decide +kernel
theorem dX8_best_58 : decode cX8_best 58 = .ok (.bipush (-5), 2) := by decide +kernel
theorem dX8_best_60 : decode cX8_best 60 = .ok (.ireturn, 1) := by decide +kernel
theorem dX8_turn_0 : decode cX8_turn 0 = .ok (.iload_n 1, 1) := by decide +kernel
theorem dX8_turn_1 : decode cX8_turn 1 = .ok (.invokestatic 162, 3) := by decide +kernel
theorem dX8_turn_4 : decode cX8_turn 4 = .ok (.ifCond .ne 5, 3) := by decide +kernel
theorem dX8_turn_7 : decode cX8_turn 7 = .ok (.iconst (-1), 1) := by decide +kernel
theorem dX8_turn_8 : decode cX8_turn 8 = .ok (.ireturn, 1) := by decide +kernel
theorem dX8_turn_9 : decode cX8_turn 9 = .ok (.iload_n 2, 1) := by decide +kernel
theorem dX8_turn_10 : decode cX8_turn 10 = .ok (.ifCond .lt 28, 3) := by decide +kernel
theorem dX8_turn_13 : decode cX8_turn 13 = .ok (.iload_n 2, 1) := by decide +kernel
theorem dX8_turn_14 : decode cX8_turn 14 = .ok (.iload_n 3, 1) := by decide +kernel
theorem dX8_turn_15 : decode cX8_turn 15 = .ok (.if_icmp .ge 23, 3) := by decide +kernel
theorem dX8_turn_18 : decode cX8_turn 18 = .ok (.iload_n 3, 1) := by decide +kernel
theorem dX8_turn_19 : decode cX8_turn 19 = .ok (.aload_n 0, 1) := by decide +kernel
theorem dX8_turn_20 : decode cX8_turn 20 = .ok (.iload_n 1, 1) := by decide +kernel
theorem dX8_turn_21 : decode cX8_turn 21 = .ok (.iconst 3, 1) := by decide +kernel
theorem dX8_turn_22 : decode cX8_turn 22 = .ok (.invokevirtual 59, 3) := by decide +kernel
theorem dX8_turn_25 : decode cX8_turn 25 = .ok (.if_icmp .ge 13, 3) := by decide +kernel
theorem dX8_turn_28 : decode cX8_turn 28 = .ok (.aload_n 0, 1) := by decide +kernel
theorem dX8_turn_29 : decode cX8_turn 29 = .ok (.iload_n 1, 1) := by decide +kernel
theorem dX8_turn_30 : decode cX8_turn 30 = .ok (.iload_n 2, 1) := by decide +kernel
theorem dX8_turn_31 : decode cX8_turn 31 = .ok (.iload_n 3, 1) := by decide +kernel
theorem dX8_turn_32 : decode cX8_turn 32 = .ok (.invokevirtual 220, 3) := by decide +kernel
theorem dX8_turn_35 : decode cX8_turn 35 = .ok (.goto 5, 3) := by decide +kernel
theorem dX8_turn_38 : decode cX8_turn 38 = .ok (.bipush (-2), 2) := by decide +kernel
theorem dX8_turn_40 : decode cX8_turn 40 = .ok (.ireturn, 1) := by decide +kernel
theorem dX8_shift_0 : decode cX8_shift 0 = .ok (.aload_n 0, 1) := by decide +kernel
theorem dX8_shift_1 : decode cX8_shift 1 = .ok (.iload_n 1, 1) := by decide +kernel
theorem dX8_shift_2 : decode cX8_shift 2 = .ok (.invokevirtual 151, 3) := by decide +kernel
theorem dX8_shift_5 : decode cX8_shift 5 = .ok (.ifCond .eq 10, 3) := by decide +kernel
theorem dX8_shift_8 : decode cX8_shift 8 = .ok (.iload_n 2, 1) := by decide +kernel
theorem dX8_shift_9 : decode cX8_shift 9 = .ok (.invokestatic 162, 3) := by decide +kernel
theorem dX8_shift_12 : decode cX8_shift 12 = .ok (.ifCond .ne 5, 3) := by decide +kernel
theorem dX8_shift_15 : decode cX8_shift 15 = .ok (.iconst (-1), 1) := by decide +kernel
theorem dX8_shift_16 : decode cX8_shift 16 = .ok (.ireturn, 1) := by decide +kernel
theorem dX8_shift_17 : decode cX8_shift 17 = .ok (.aload_n 0, 1) := by decide +kernel
theorem dX8_shift_18 : decode cX8_shift 18 = .ok (.iload_n 1, 1) := by decide +kernel
theorem dX8_shift_19 : decode cX8_shift 19 = .ok (.invokevirtual 157, 3) := by decide +kernel
theorem dX8_shift_22 : decode cX8_shift 22 = .ok (.istore 4, 2) := by decide +kernel
theorem dX8_shift_24 : decode cX8_shift 24 = .ok (.iload 4, 2) := by decide +kernel
theorem dX8_shift_26 : decode cX8_shift 26 = .ok (.ifCond .ge 6, 3) := by decide +kernel
theorem dX8_shift_29 : decode cX8_shift 29 = .ok (.bipush (-3), 2) := by decide +kernel
theorem dX8_shift_31 : decode cX8_shift 31 = .ok (.ireturn, 1) := by decide +kernel
theorem dX8_shift_32 : decode cX8_shift 32 = .ok (.iload_n 3, 1) := by decide +kernel
theorem dX8_shift_33 : decode cX8_shift 33 = .ok (.iconst 0, 1) := by decide +kernel
theorem dX8_shift_34 : decode cX8_shift 34 = .ok (.aload_n 0, 1) := by decide +kernel
theorem dX8_shift_35 : decode cX8_shift 35 = .ok (.iload_n 2, 1) := by decide +kernel
theorem dX8_shift_36 : decode cX8_shift 36 = .ok (.iconst 3, 1) := by decide +kernel
theorem dX8_shift_37 : decode cX8_shift 37 = .ok (.invokevirtual 59, 3) := by decide +kernel
theorem dX8_shift_40 : decode cX8_shift 40 = .ok (.iload_n 2, 1) := by decide +kernel
theorem dX8_shift_41 : decode cX8_shift 41 = .ok (.iload 4, 2) := by decide +kernel
theorem dX8_shift_43 : decode cX8_shift 43 = .ok (.if_icmp .ne 7, 3) := by decide +kernel
theorem dX8_shift_46 : decode cX8_shift 46 = .ok (.iconst 1, 1) := by decide +kernel
theorem dX8_shift_47 : decode cX8_shift 47 = .ok (.goto 4, 3) := by decide +kernel
theorem dX8_shift_50 : decode cX8_shift 50 = .ok (.iconst 0, 1) := by decide +kernel
theorem dX8_shift_51 : decode cX8_shift 51 = .ok (.isub, 1) := by decide +kernel
theorem dX8_shift_52 : decode cX8_shift 52 = .ok (.invokestatic 55, 3) := by decide +kernel
theorem dX8_shift_55 : decode cX8_shift 55 = .ok (.ifCond .eq 20, 3) := by decide +kernel
theorem dX8_shift_58 : decode cX8_shift 58 = .ok (.iload_n 2, 1) := by decide +kernel
theorem dX8_shift_59 : decode cX8_shift 59 = .ok (.iload 4, 2) := by decide +kernel
theorem dX8_shift_61 : decode cX8_shift 61 = .ok (.if_icmp .ne 17, 3) := by decide +kernel
theorem dX8_shift_64 : decode cX8_shift 64 = .ok (.iload_n 3, 1) := by decide +kernel
theorem dX8_shift_65 : decode cX8_shift 65 = .ok (.aload_n 0, 1) := by decide +kernel
theorem dX8_shift_66 : decode cX8_shift 66 = .ok (.iload 4, 2) := by decide +kernel
theorem dX8_shift_68 : decode cX8_shift 68 = .ok (.iload_n 1, 1) := by decide +kernel
theorem dX8_shift_69 : decode cX8_shift 69 = .ok (.invokevirtual 66, 3) := by decide +kernel
theorem dX8_shift_72 : decode cX8_shift 72 = .ok (.if_icmp .ne 6, 3) := by decide +kernel
theorem dX8_shift_75 : decode cX8_shift 75 = .ok (.bipush (-2), 2) := by decide +kernel
theorem dX8_shift_77 : decode cX8_shift 77 = .ok (.ireturn, 1) := by decide +kernel
theorem dX8_shift_78 : decode cX8_shift 78 = .ok (.aload_n 0, 1) := by decide +kernel
theorem dX8_shift_79 : decode cX8_shift 79 = .ok (.iload_n 1, 1) := by decide +kernel
theorem dX8_shift_80 : decode cX8_shift 80 = .ok (.iload_n 2, 1) := by decide +kernel
theorem dX8_shift_81 : decode cX8_shift 81 = .ok (.iload_n 3, 1) := by decide +kernel
theorem dX8_shift_82 : decode cX8_shift 82 = .ok (.invokevirtual 227, 3) := by decide +kernel
theorem dX8_shift_85 : decode cX8_shift 85 = .ok (.ireturn, 1) := by decide +kernel
theorem dX8_swap_0 : decode cX8_swap 0 = .ok (.aload_n 0, 1) := by decide +kernel
theorem dX8_swap_1 : decode cX8_swap 1 = .ok (.iload_n 1, 1) := by decide +kernel
theorem dX8_swap_2 : decode cX8_swap 2 = .ok (.invokevirtual 151, 3) := by decide +kernel
theorem dX8_swap_5 : decode cX8_swap 5 = .ok (.ifCond .eq 16, 3) := by decide +kernel
theorem dX8_swap_8 : decode cX8_swap 8 = .ok (.aload_n 0, 1) := by decide +kernel
theorem dX8_swap_9 : decode cX8_swap 9 = .ok (.iload_n 2, 1) := by decide +kernel
theorem dX8_swap_10 : decode cX8_swap 10 = .ok (.invokevirtual 151, 3) := by decide +kernel
theorem dX8_swap_13 : decode cX8_swap 13 = .ok (.ifCond .eq 8, 3) := by decide +kernel
theorem dX8_swap_16 : decode cX8_swap 16 = .ok (.iload_n 1, 1) := by decide +kernel
theorem dX8_swap_17 : decode cX8_swap 17 = .ok (.iload_n 2, 1) := by decide +kernel
theorem dX8_swap_18 : decode cX8_swap 18 = .ok (.if_icmp .ne 5, 3) := by decide +kernel
theorem dX8_swap_21 : decode cX8_swap 21 = .ok (.iconst (-1), 1) := by decide +kernel
theorem dX8_swap_22 : decode cX8_swap 22 = .ok (.ireturn, 1) := by decide +kernel
theorem dX8_swap_23 : decode cX8_swap 23 = .ok (.aload_n 0, 1) := by decide +kernel
theorem dX8_swap_24 : decode cX8_swap 24 = .ok (.iload_n 1, 1) := by decide +kernel
theorem dX8_swap_25 : decode cX8_swap 25 = .ok (.invokevirtual 157, 3) := by decide +kernel
theorem dX8_swap_28 : decode cX8_swap 28 = .ok (.ifCond .lt 11, 3) := by decide +kernel
theorem dX8_swap_31 : decode cX8_swap 31 = .ok (.aload_n 0, 1) := by decide +kernel
theorem dX8_swap_32 : decode cX8_swap 32 = .ok (.iload_n 2, 1) := by decide +kernel
theorem dX8_swap_33 : decode cX8_swap 33 = .ok (.invokevirtual 157, 3) := by decide +kernel
theorem dX8_swap_36 : decode cX8_swap 36 = .ok (.ifCond .ge 8, 3) := by decide +kernel
theorem dX8_swap_39 : decode cX8_swap 39 = .ok (.bipush (-3), 2) := by decide +kernel
theorem dX8_swap_41 : decode cX8_swap 41 = .ok (.goto 9, 3) := by decide +kernel
theorem dX8_swap_44 : decode cX8_swap 44 = .ok (.aload_n 0, 1) := by decide +kernel
theorem dX8_swap_45 : decode cX8_swap 45 = .ok (.iload_n 1, 1) := by decide +kernel
theorem dX8_swap_46 : decode cX8_swap 46 = .ok (.iload_n 2, 1) := by decide +kernel
theorem dX8_swap_47 : decode cX8_swap 47 = .ok (.invokevirtual 230, 3) := by decide +kernel
theorem dX8_swap_50 : decode cX8_swap 50 = .ok (.ireturn, 1) := by decide +kernel
theorem dX8_late_0 : decode cX8_late 0 = .ok (.iload_n 1, 1) := by decide +kernel
theorem dX8_late_1 : decode cX8_late 1 = .ok (.invokestatic 162, 3) := by decide +kernel
theorem dX8_late_4 : decode cX8_late 4 = .ok (.ifCond .ne 5, 3) := by decide +kernel
theorem dX8_late_7 : decode cX8_late 7 = .ok (.iconst (-1), 1) := by decide +kernel
theorem dX8_late_8 : decode cX8_late 8 = .ok (.ireturn, 1) := by decide +kernel
theorem dX8_late_9 : decode cX8_late 9 = .ok (.iload_n 2, 1) := by decide +kernel
theorem dX8_late_10 : decode cX8_late 10 = .ok (.iconst 0, 1) := by decide +kernel
theorem dX8_late_11 : decode cX8_late 11 = .ok (.sipush 1999, 3) := by decide +kernel
theorem dX8_late_14 : decode cX8_late 14 = .ok (.invokestatic 55, 3) := by decide +kernel
theorem dX8_late_17 : decode cX8_late 17 = .ok (.ifCond .ne 6, 3) := by decide +kernel
theorem dX8_late_20 : decode cX8_late 20 = .ok (.bipush (-2), 2) := by decide +kernel
theorem dX8_late_22 : decode cX8_late 22 = .ok (.ireturn, 1) := by decide +kernel
theorem dX8_late_23 : decode cX8_late 23 = .ok (.aload_n 0, 1) := by decide +kernel
theorem dX8_late_24 : decode cX8_late 24 = .ok (.iload_n 1, 1) := by decide +kernel
theorem dX8_late_25 : decode cX8_late 25 = .ok (.iconst 3, 1) := by decide +kernel
theorem dX8_late_26 : decode cX8_late 26 = .ok (.invokevirtual 59, 3) := by decide +kernel
theorem dX8_late_29 : decode cX8_late 29 = .ok (.ifCond .ne 8, 3) := by decide +kernel
theorem dX8_late_32 : decode cX8_late 32 = .ok (.bipush (-5), 2) := by decide +kernel
theorem dX8_late_34 : decode cX8_late 34 = .ok (.goto 9, 3) := by decide +kernel
theorem dX8_late_37 : decode cX8_late 37 = .ok (.aload_n 0, 1) := by decide +kernel
theorem dX8_late_38 : decode cX8_late 38 = .ok (.iload_n 1, 1) := by decide +kernel
theorem dX8_late_39 : decode cX8_late 39 = .ok (.iload_n 2, 1) := by decide +kernel
theorem dX8_late_40 : decode cX8_late 40 = .ok (.invokevirtual 101, 3) := by decide +kernel
theorem dX8_late_43 : decode cX8_late 43 = .ok (.ireturn, 1) := by decide +kernel
theorem dX8_isDueAhead_0 : decode cX8_isDueAhead 0 = .ok (.iconst 4, 1) := by decide +kernel
theorem dX8_isDueAhead_1 : decode cX8_isDueAhead 1 = .ok (.istore_n 3, 1) := by decide +kernel
theorem dX8_isDueAhead_2 : decode cX8_isDueAhead 2 = .ok (.iload_n 3, 1) := by decide +kernel
theorem dX8_isDueAhead_3 : decode cX8_isDueAhead 3 = .ok (.iconst 3, 1) := by decide +kernel
theorem dX8_isDueAhead_4 : decode cX8_isDueAhead 4 = .ok (.if_icmp .lt 45, 3) := by decide +kernel
theorem dX8_isDueAhead_7 : decode cX8_isDueAhead 7 = .ok (.aload_n 0, 1) := by decide +kernel
theorem dX8_isDueAhead_8 : decode cX8_isDueAhead 8 = .ok (.iload_n 1, 1) := by decide +kernel
theorem dX8_isDueAhead_9 : decode cX8_isDueAhead 9 = .ok (.iload_n 3, 1) := by decide +kernel
theorem dX8_isDueAhead_10 : decode cX8_isDueAhead 10 = .ok (.invokevirtual 78, 3) := by decide +kernel
theorem dX8_isDueAhead_13 : decode cX8_isDueAhead 13 = .ok (.aload_n 0, 1) := by decide +kernel
theorem dX8_isDueAhead_14 : decode cX8_isDueAhead 14 = .ok (.iload_n 2, 1) := by decide +kernel
theorem dX8_isDueAhead_15 : decode cX8_isDueAhead 15 = .ok (.iload_n 3, 1) := by decide +kernel
theorem dX8_isDueAhead_16 : decode cX8_isDueAhead 16 = .ok (.invokevirtual 78, 3) := by decide +kernel
theorem dX8_isDueAhead_19 : decode cX8_isDueAhead 19 = .ok (.if_icmp .eq 24, 3) := by decide +kernel
theorem dX8_isDueAhead_22 : decode cX8_isDueAhead 22 = .ok (.aload_n 0, 1) := by decide +kernel
theorem dX8_isDueAhead_23 : decode cX8_isDueAhead 23 = .ok (.iload_n 1, 1) := by decide +kernel
theorem dX8_isDueAhead_24 : decode cX8_isDueAhead 24 = .ok (.iload_n 3, 1) := by decide +kernel
theorem dX8_isDueAhead_25 : decode cX8_isDueAhead 25 = .ok (.invokevirtual 78, 3) := by decide +kernel
theorem dX8_isDueAhead_28 : decode cX8_isDueAhead 28 = .ok (.aload_n 0, 1) := by decide +kernel
theorem dX8_isDueAhead_29 : decode cX8_isDueAhead 29 = .ok (.iload_n 2, 1) := by decide +kernel
theorem dX8_isDueAhead_30 : decode cX8_isDueAhead 30 = .ok (.iload_n 3, 1) := by decide +kernel
theorem dX8_isDueAhead_31 : decode cX8_isDueAhead 31 = .ok (.invokevirtual 78, 3) := by decide +kernel
theorem dX8_isDueAhead_34 : decode cX8_isDueAhead 34 = .ok (.if_icmp .ge 7, 3) := by decide +kernel
theorem dX8_isDueAhead_37 : decode cX8_isDueAhead 37 = .ok (.iconst 1, 1) := by decide +kernel
theorem dX8_isDueAhead_38 : decode cX8_isDueAhead 38 = .ok (.goto 4, 3) := by decide +kernel
theorem dX8_isDueAhead_41 : decode cX8_isDueAhead 41 = .ok (.iconst 0, 1) := by decide +kernel
theorem dX8_isDueAhead_42 : decode cX8_isDueAhead 42 = .ok (.ireturn, 1) := by decide +kernel
theorem dX8_isDueAhead_43 : decode cX8_isDueAhead 43 = .ok (.iinc 3 (-1), 3) := by decide +kernel
theorem dX8_isDueAhead_46 : decode cX8_isDueAhead 46 = .ok (.goto (-44), 3) := by decide +kernel
theorem dX8_isDueAhead_49 : decode cX8_isDueAhead 49 = .ok (.iload_n 1, 1) := by decide +kernel
theorem dX8_isDueAhead_50 : decode cX8_isDueAhead 50 = .ok (.iload_n 2, 1) := by decide +kernel
theorem dX8_isDueAhead_51 : decode cX8_isDueAhead 51 = .ok (.if_icmp .ge 7, 3) := by decide +kernel
theorem dX8_isDueAhead_54 : decode cX8_isDueAhead 54 = .ok (.iconst 1, 1) := by decide +kernel
theorem dX8_isDueAhead_55 : decode cX8_isDueAhead 55 = .ok (.goto 4, 3) := by decide +kernel
theorem dX8_isDueAhead_58 : decode cX8_isDueAhead 58 = .ok (.iconst 0, 1) := by decide +kernel
theorem dX8_isDueAhead_59 : decode cX8_isDueAhead 59 = .ok (.ireturn, 1) := by decide +kernel
theorem dX8_due_0 : decode cX8_due 0 = .ok (.iconst 0, 1) := by decide +kernel
theorem dX8_due_1 : decode cX8_due 1 = .ok (.istore_n 2, 1) := by decide +kernel
theorem dX8_due_2 : decode cX8_due 2 = .ok (.iload_n 2, 1) := by decide +kernel
theorem dX8_due_3 : decode cX8_due 3 = .ok (.aload_n 0, 1) := by decide +kernel
theorem dX8_due_4 : decode cX8_due 4 = .ok (.getfield 11, 3) := by decide +kernel
theorem dX8_due_7 : decode cX8_due 7 = .ok (.iconst 4, 1) := by decide +kernel
theorem dX8_due_8 : decode cX8_due 8 = .ok (.iaload, 1) := by decide +kernel
theorem dX8_due_9 : decode cX8_due 9 = .ok (.if_icmp .ge 62, 3) := by decide +kernel
theorem dX8_due_12 : decode cX8_due 12 = .ok (.iconst 0, 1) := by decide +kernel
theorem dX8_due_13 : decode cX8_due 13 = .ok (.istore_n 3, 1) := by decide +kernel
theorem dX8_due_14 : decode cX8_due 14 = .ok (.iconst 0, 1) := by decide +kernel
theorem dX8_due_15 : decode cX8_due 15 = .ok (.istore 4, 2) := by decide +kernel
theorem dX8_due_17 : decode cX8_due 17 = .ok (.iload 4, 2) := by decide +kernel
theorem dX8_due_19 : decode cX8_due 19 = .ok (.aload_n 0, 1) := by decide +kernel
theorem dX8_due_20 : decode cX8_due 20 = .ok (.getfield 11, 3) := by decide +kernel
theorem dX8_due_23 : decode cX8_due 23 = .ok (.iconst 4, 1) := by decide +kernel
theorem dX8_due_24 : decode cX8_due 24 = .ok (.iaload, 1) := by decide +kernel
theorem dX8_due_25 : decode cX8_due 25 = .ok (.if_icmp .ge 33, 3) := by decide +kernel
theorem dX8_due_28 : decode cX8_due 28 = .ok (.iload_n 3, 1) := by decide +kernel
theorem dX8_due_29 : decode cX8_due 29 = .ok (.iload 4, 2) := by decide +kernel
theorem dX8_due_31 : decode cX8_due 31 = .ok (.iload_n 2, 1) := by decide +kernel
theorem dX8_due_32 : decode cX8_due 32 = .ok (.if_icmp .eq 17, 3) := by decide +kernel
theorem dX8_due_35 : decode cX8_due 35 = .ok (.aload_n 0, 1) := by decide +kernel
theorem dX8_due_36 : decode cX8_due 36 = .ok (.iload 4, 2) := by decide +kernel
theorem dX8_due_38 : decode cX8_due 38 = .ok (.iload_n 2, 1) := by decide +kernel
theorem dX8_due_39 : decode cX8_due 39 = .ok (.invokevirtual 251, 3) := by decide +kernel
theorem dX8_due_42 : decode cX8_due 42 = .ok (.ifCond .eq 7, 3) := by decide +kernel
theorem dX8_due_45 : decode cX8_due 45 = .ok (.iconst 1, 1) := by decide +kernel
theorem dX8_due_46 : decode cX8_due 46 = .ok (.goto 4, 3) := by decide +kernel
theorem dX8_due_49 : decode cX8_due 49 = .ok (.iconst 0, 1) := by decide +kernel
theorem dX8_due_50 : decode cX8_due 50 = .ok (.iadd, 1) := by decide +kernel
theorem dX8_due_51 : decode cX8_due 51 = .ok (.istore_n 3, 1) := by decide +kernel
theorem dX8_due_52 : decode cX8_due 52 = .ok (.iinc 4 1, 3) := by decide +kernel
theorem dX8_due_55 : decode cX8_due 55 = .ok (.goto (-38), 3) := by decide +kernel
theorem dX8_due_58 : decode cX8_due 58 = .ok (.iload_n 3, 1) := by decide +kernel
theorem dX8_due_59 : decode cX8_due 59 = .ok (.iload_n 1, 1) := by decide +kernel
theorem dX8_due_60 : decode cX8_due 60 = .ok (.if_icmp .ne 5, 3) := by decide +kernel
theorem dX8_due_63 : decode cX8_due 63 = .ok (.iload_n 2, 1) := by decide +kernel
theorem dX8_due_64 : decode cX8_due 64 = .ok (.ireturn, 1) := by decide +kernel
theorem dX8_due_65 : decode cX8_due 65 = .ok (.iinc 2 1, 3) := by decide +kernel
theorem dX8_due_68 : decode cX8_due 68 = .ok (.goto (-66), 3) := by decide +kernel
theorem dX8_due_71 : decode cX8_due 71 = .ok (.bipush (-2), 2) := by decide +kernel
theorem dX8_due_73 : decode cX8_due 73 = .ok (.ireturn, 1) := by decide +kernel
theorem dX8_see_0 : decode cX8_see 0 = .ok (.iload_n 1, 1) := by decide +kernel
theorem dX8_see_1 : decode cX8_see 1 = .ok (.iconst (-1), 1) := by decide +kernel
theorem dX8_see_2 : decode cX8_see 2 = .ok (.if_icmp .ne 12, 3) := by decide +kernel
theorem dX8_see_5 : decode cX8_see 5 = .ok (.aload_n 0, 1) := by decide +kernel
theorem dX8_see_6 : decode cX8_see 6 = .ok (.getfield 11, 3) := by decide +kernel
theorem dX8_see_9 : decode cX8_see 9 = .ok (.iconst 5, 1) := by decide +kernel
theorem dX8_see_10 : decode cX8_see 10 = .ok (.iconst 0, 1) := by decide +kernel
theorem dX8_see_11 : decode cX8_see 11 = .ok (.iastore, 1) := by decide +kernel
theorem dX8_see_12 : decode cX8_see 12 = .ok (.iconst 0, 1) := by decide +kernel
theorem dX8_see_13 : decode cX8_see 13 = .ok (.ireturn, 1) := by decide +kernel
theorem dX8_see_14 : decode cX8_see 14 = .ok (.aload_n 0, 1) := by decide +kernel
theorem dX8_see_15 : decode cX8_see 15 = .ok (.iload_n 1, 1) := by decide +kernel
theorem dX8_see_16 : decode cX8_see 16 = .ok (.invokevirtual 151, 3) := by decide +kernel
theorem dX8_see_19 : decode cX8_see 19 = .ok (.ifCond .ne 5, 3) := by decide +kernel
theorem dX8_see_22 : decode cX8_see 22 = .ok (.iconst (-1), 1) := by decide +kernel
theorem dX8_see_23 : decode cX8_see 23 = .ok (.ireturn, 1) := by decide +kernel
theorem dX8_see_24 : decode cX8_see 24 = .ok (.iload_n 2, 1) := by decide +kernel
theorem dX8_see_25 : decode cX8_see 25 = .ok (.iconst 0, 1) := by decide +kernel
theorem dX8_see_26 : decode cX8_see 26 = .ok (.sipush 1999, 3) := by decide +kernel
theorem dX8_see_29 : decode cX8_see 29 = .ok (.invokestatic 55, 3) := by decide +kernel
theorem dX8_see_32 : decode cX8_see 32 = .ok (.ifCond .ne 6, 3) := by decide +kernel
theorem dX8_see_35 : decode cX8_see 35 = .ok (.bipush (-2), 2) := by decide +kernel
theorem dX8_see_37 : decode cX8_see 37 = .ok (.ireturn, 1) := by decide +kernel
theorem dX8_see_38 : decode cX8_see 38 = .ok (.aload_n 0, 1) := by decide +kernel
theorem dX8_see_39 : decode cX8_see 39 = .ok (.getfield 11, 3) := by decide +kernel
theorem dX8_see_42 : decode cX8_see 42 = .ok (.iconst 5, 1) := by decide +kernel
theorem dX8_see_43 : decode cX8_see 43 = .ok (.iaload, 1) := by decide +kernel
theorem dX8_see_44 : decode cX8_see 44 = .ok (.iconst 5, 1) := by decide +kernel
theorem dX8_see_45 : decode cX8_see 45 = .ok (.if_icmp .ne 6, 3) := by decide +kernel
theorem dX8_see_48 : decode cX8_see 48 = .ok (.bipush (-4), 2) := by decide +kernel
theorem dX8_see_50 : decode cX8_see 50 = .ok (.ireturn, 1) := by decide +kernel
theorem dX8_see_51 : decode cX8_see 51 = .ok (.aload_n 0, 1) := by decide +kernel
theorem dX8_see_52 : decode cX8_see 52 = .ok (.getfield 11, 3) := by decide +kernel
theorem dX8_see_55 : decode cX8_see 55 = .ok (.bipush 8, 2) := by decide +kernel
theorem dX8_see_57 : decode cX8_see 57 = .ok (.iconst 2, 1) := by decide +kernel
theorem dX8_see_58 : decode cX8_see 58 = .ok (.aload_n 0, 1) := by decide +kernel
theorem dX8_see_59 : decode cX8_see 59 = .ok (.getfield 11, 3) := by decide +kernel
theorem dX8_see_62 : decode cX8_see 62 = .ok (.iconst 5, 1) := by decide +kernel
theorem dX8_see_63 : decode cX8_see 63 = .ok (.iaload, 1) := by decide +kernel
theorem dX8_see_64 : decode cX8_see 64 = .ok (.imul, 1) := by decide +kernel
theorem dX8_see_65 : decode cX8_see 65 = .ok (.iadd, 1) := by decide +kernel
theorem dX8_see_66 : decode cX8_see 66 = .ok (.iload_n 1, 1) := by decide +kernel
theorem dX8_see_67 : decode cX8_see 67 = .ok (.iastore, 1) := by decide +kernel
theorem dX8_see_68 : decode cX8_see 68 = .ok (.aload_n 0, 1) := by decide +kernel
theorem dX8_see_69 : decode cX8_see 69 = .ok (.getfield 11, 3) := by decide +kernel
theorem dX8_see_72 : decode cX8_see 72 = .ok (.bipush 8, 2) := by decide +kernel
theorem dX8_see_74 : decode cX8_see 74 = .ok (.iconst 2, 1) := by decide +kernel
theorem dX8_see_75 : decode cX8_see 75 = .ok (.aload_n 0, 1) := by decide +kernel
theorem dX8_see_76 : decode cX8_see 76 = .ok (.getfield 11, 3) := by decide +kernel
theorem dX8_see_79 : decode cX8_see 79 = .ok (.iconst 5, 1) := by decide +kernel
theorem dX8_see_80 : decode cX8_see 80 = .ok (.iaload, 1) := by decide +kernel
theorem dX8_see_81 : decode cX8_see 81 = .ok (.imul, 1) := by decide +kernel
theorem dX8_see_82 : decode cX8_see 82 = .ok (.iadd, 1) := by decide +kernel
theorem dX8_see_83 : decode cX8_see 83 = .ok (.iconst 1, 1) := by decide +kernel
theorem dX8_see_84 : decode cX8_see 84 = .ok (.iadd, 1) := by decide +kernel
theorem dX8_see_85 : decode cX8_see 85 = .ok (.iload_n 2, 1) := by decide +kernel
theorem dX8_see_86 : decode cX8_see 86 = .ok (.iastore, 1) := by decide +kernel
theorem dX8_see_87 : decode cX8_see 87 = .ok (.aload_n 0, 1) := by decide +kernel
theorem dX8_see_88 : decode cX8_see 88 = .ok (.getfield 11, 3) := by decide +kernel
theorem dX8_see_91 : decode cX8_see 91 = .ok (.iconst 5, 1) := by decide +kernel
theorem dX8_see_92 : decode cX8_see 92 = .ok (.dup2, 1) := by decide +kernel
theorem dX8_see_93 : decode cX8_see 93 = .ok (.iaload, 1) := by decide +kernel
theorem dX8_see_94 : decode cX8_see 94 = .ok (.iconst 1, 1) := by decide +kernel
theorem dX8_see_95 : decode cX8_see 95 = .ok (.iadd, 1) := by decide +kernel
theorem dX8_see_96 : decode cX8_see 96 = .ok (.iastore, 1) := by decide +kernel
theorem dX8_see_97 : decode cX8_see 97 = .ok (.aload_n 0, 1) := by decide +kernel
theorem dX8_see_98 : decode cX8_see 98 = .ok (.getfield 11, 3) := by decide +kernel
theorem dX8_see_101 : decode cX8_see 101 = .ok (.iconst 5, 1) := by decide +kernel
theorem dX8_see_102 : decode cX8_see 102 = .ok (.iaload, 1) := by decide +kernel
theorem dX8_see_103 : decode cX8_see 103 = .ok (.ireturn, 1) := by decide +kernel
theorem dX8_isAsSeen_0 : decode cX8_isAsSeen 0 = .ok (.aload_n 0, 1) := by decide +kernel
theorem dX8_isAsSeen_1 : decode cX8_isAsSeen 1 = .ok (.iload_n 1, 1) := by decide +kernel
theorem dX8_isAsSeen_2 : decode cX8_isAsSeen 2 = .ok (.invokevirtual 104, 3) := by decide +kernel
theorem dX8_isAsSeen_5 : decode cX8_isAsSeen 5 = .ok (.ifCond .ne 5, 3) := by decide +kernel
theorem dX8_isAsSeen_8 : decode cX8_isAsSeen 8 = .ok (.iconst 0, 1) := by decide +kernel
theorem dX8_isAsSeen_9 : decode cX8_isAsSeen 9 = .ok (.ireturn, 1) := by decide +kernel
theorem dX8_isAsSeen_10 : decode cX8_isAsSeen 10 = .ok (.iconst 0, 1) := by decide +kernel
theorem dX8_isAsSeen_11 : decode cX8_isAsSeen 11 = .ok (.istore_n 2, 1) := by decide +kernel
theorem dX8_isAsSeen_12 : decode cX8_isAsSeen 12 = .ok (.iload_n 2, 1) := by decide +kernel
theorem dX8_isAsSeen_13 : decode cX8_isAsSeen 13 = .ok (.aload_n 0, 1) := by decide +kernel
theorem dX8_isAsSeen_14 : decode cX8_isAsSeen 14 = .ok (.getfield 11, 3) := by decide +kernel
theorem dX8_isAsSeen_17 : decode cX8_isAsSeen 17 = .ok (.iconst 5, 1) := by decide +kernel
theorem dX8_isAsSeen_18 : decode cX8_isAsSeen 18 = .ok (.iaload, 1) := by decide +kernel
theorem dX8_isAsSeen_19 : decode cX8_isAsSeen 19 = .ok (.if_icmp .ge 54, 3) := by decide +kernel
theorem dX8_isAsSeen_22 : decode cX8_isAsSeen 22 = .ok (.aload_n 0, 1) := by decide +kernel
theorem dX8_isAsSeen_23 : decode cX8_isAsSeen 23 = .ok (.iload_n 1, 1) := by decide +kernel
theorem dX8_isAsSeen_24 : decode cX8_isAsSeen 24 = .ok (.aload_n 0, 1) := by decide +kernel
theorem dX8_isAsSeen_25 : decode cX8_isAsSeen 25 = .ok (.getfield 11, 3) := by decide +kernel
theorem dX8_isAsSeen_28 : decode cX8_isAsSeen 28 = .ok (.bipush 8, 2) := by decide +kernel
theorem dX8_isAsSeen_30 : decode cX8_isAsSeen 30 = .ok (.iconst 2, 1) := by decide +kernel
theorem dX8_isAsSeen_31 : decode cX8_isAsSeen 31 = .ok (.iload_n 2, 1) := by decide +kernel
theorem dX8_isAsSeen_32 : decode cX8_isAsSeen 32 = .ok (.imul, 1) := by decide +kernel
theorem dX8_isAsSeen_33 : decode cX8_isAsSeen 33 = .ok (.iadd, 1) := by decide +kernel
theorem dX8_isAsSeen_34 : decode cX8_isAsSeen 34 = .ok (.iaload, 1) := by decide +kernel
theorem dX8_isAsSeen_35 : decode cX8_isAsSeen 35 = .ok (.invokevirtual 66, 3) := by decide +kernel
theorem dX8_isAsSeen_38 : decode cX8_isAsSeen 38 = .ok (.istore_n 3, 1) := by decide +kernel
theorem dX8_isAsSeen_39 : decode cX8_isAsSeen 39 = .ok (.iload_n 3, 1) := by decide +kernel
theorem dX8_isAsSeen_40 : decode cX8_isAsSeen 40 = .ok (.ifCond .lt 27, 3) := by decide +kernel
theorem dX8_isAsSeen_43 : decode cX8_isAsSeen 43 = .ok (.aload_n 0, 1) := by decide +kernel
theorem dX8_isAsSeen_44 : decode cX8_isAsSeen 44 = .ok (.getfield 33, 3) := by decide +kernel
theorem dX8_isAsSeen_47 : decode cX8_isAsSeen 47 = .ok (.iload_n 3, 1) := by decide +kernel
theorem dX8_isAsSeen_48 : decode cX8_isAsSeen 48 = .ok (.iaload, 1) := by decide +kernel
theorem dX8_isAsSeen_49 : decode cX8_isAsSeen 49 = .ok (.aload_n 0, 1) := by decide +kernel
theorem dX8_isAsSeen_50 : decode cX8_isAsSeen 50 = .ok (.getfield 11, 3) := by decide +kernel
theorem dX8_isAsSeen_53 : decode cX8_isAsSeen 53 = .ok (.bipush 8, 2) := by decide +kernel
theorem dX8_isAsSeen_55 : decode cX8_isAsSeen 55 = .ok (.iconst 2, 1) := by decide +kernel
theorem dX8_isAsSeen_56 : decode cX8_isAsSeen 56 = .ok (.iload_n 2, 1) := by decide +kernel
theorem dX8_isAsSeen_57 : decode cX8_isAsSeen 57 = .ok (.imul, 1) := by decide +kernel
theorem dX8_isAsSeen_58 : decode cX8_isAsSeen 58 = .ok (.iadd, 1) := by decide +kernel
theorem dX8_isAsSeen_59 : decode cX8_isAsSeen 59 = .ok (.iconst 1, 1) := by decide +kernel
theorem dX8_isAsSeen_60 : decode cX8_isAsSeen 60 = .ok (.iadd, 1) := by decide +kernel
theorem dX8_isAsSeen_61 : decode cX8_isAsSeen 61 = .ok (.iaload, 1) := by decide +kernel
theorem dX8_isAsSeen_62 : decode cX8_isAsSeen 62 = .ok (.if_icmp .eq 5, 3) := by decide +kernel
theorem dX8_isAsSeen_65 : decode cX8_isAsSeen 65 = .ok (.iconst 0, 1) := by decide +kernel
theorem dX8_isAsSeen_66 : decode cX8_isAsSeen 66 = .ok (.ireturn, 1) := by decide +kernel
theorem dX8_isAsSeen_67 : decode cX8_isAsSeen 67 = .ok (.iinc 2 1, 3) := by decide +kernel
theorem dX8_isAsSeen_70 : decode cX8_isAsSeen 70 = .ok (.goto (-58), 3) := by decide +kernel
theorem dX8_isAsSeen_73 : decode cX8_isAsSeen 73 = .ok (.iconst 1, 1) := by decide +kernel
theorem dX8_isAsSeen_74 : decode cX8_isAsSeen 74 = .ok (.ireturn, 1) := by decide +kernel
theorem dX8_fits_0 : decode cX8_fits 0 = .ok (.iload_n 1, 1) := by decide +kernel
theorem dX8_fits_1 : decode cX8_fits 1 = .ok (.invokestatic 162, 3) := by decide +kernel
theorem dX8_fits_4 : decode cX8_fits 4 = .ok (.ifCond .eq 12, 3) := by decide +kernel
theorem dX8_fits_7 : decode cX8_fits 7 = .ok (.iload_n 2, 1) := by decide +kernel
theorem dX8_fits_8 : decode cX8_fits 8 = .ok (.iconst 0, 1) := by decide +kernel
theorem dX8_fits_9 : decode cX8_fits 9 = .ok (.iconst 1, 1) := by decide +kernel
theorem dX8_fits_10 : decode cX8_fits 10 = .ok (.invokestatic 55, 3) := by decide +kernel
theorem dX8_fits_13 : decode cX8_fits 13 = .ok (.ifCond .ne 5, 3) := by decide +kernel
theorem dX8_fits_16 : decode cX8_fits 16 = .ok (.iconst (-1), 1) := by decide +kernel
theorem dX8_fits_17 : decode cX8_fits 17 = .ok (.ireturn, 1) := by decide +kernel
theorem dX8_fits_18 : decode cX8_fits 18 = .ok (.aload_n 0, 1) := by decide +kernel
theorem dX8_fits_19 : decode cX8_fits 19 = .ok (.iload_n 1, 1) := by decide +kernel
theorem dX8_fits_20 : decode cX8_fits 20 = .ok (.iconst 1, 1) := by decide +kernel
theorem dX8_fits_21 : decode cX8_fits 21 = .ok (.invokevirtual 59, 3) := by decide +kernel
theorem dX8_fits_24 : decode cX8_fits 24 = .ok (.istore_n 3, 1) := by decide +kernel
theorem dX8_fits_25 : decode cX8_fits 25 = .ok (.iconst 0, 1) := by decide +kernel
theorem dX8_fits_26 : decode cX8_fits 26 = .ok (.istore 4, 2) := by decide +kernel
theorem dX8_fits_28 : decode cX8_fits 28 = .ok (.bipush (-5), 2) := by decide +kernel
theorem dX8_fits_30 : decode cX8_fits 30 = .ok (.istore 5, 2) := by decide +kernel
theorem dX8_fits_32 : decode cX8_fits 32 = .ok (.bipush 99, 2) := by decide +kernel
theorem dX8_fits_34 : decode cX8_fits 34 = .ok (.istore 6, 2) := by decide +kernel
theorem dX8_fits_36 : decode cX8_fits 36 = .ok (.iload 6, 2) := by decide +kernel
theorem dX8_fits_38 : decode cX8_fits 38 = .ok (.ifCond .lt 44, 3) := by decide +kernel
theorem dX8_fits_41 : decode cX8_fits 41 = .ok (.aload_n 0, 1) := by decide +kernel
theorem dX8_fits_42 : decode cX8_fits 42 = .ok (.getfield 11, 3) := by decide +kernel
theorem dX8_fits_45 : decode cX8_fits 45 = .ok (.sipush 178, 3) := by decide +kernel
theorem dX8_fits_48 : decode cX8_fits 48 = .ok (.bipush 20, 2) := by decide +kernel
theorem dX8_fits_50 : decode cX8_fits 50 = .ok (.iload_n 1, 1) := by decide +kernel
theorem dX8_fits_51 : decode cX8_fits 51 = .ok (.imul, 1) := by decide +kernel
theorem dX8_fits_52 : decode cX8_fits 52 = .ok (.iadd, 1) := by decide +kernel
theorem dX8_fits_53 : decode cX8_fits 53 = .ok (.iconst 1, 1) := by decide +kernel
theorem dX8_fits_54 : decode cX8_fits 54 = .ok (.iadd, 1) := by decide +kernel
theorem dX8_fits_55 : decode cX8_fits 55 = .ok (.iload 6, 2) := by decide +kernel
theorem dX8_fits_57 : decode cX8_fits 57 = .ok (.iastore, 1) := by decide +kernel
theorem dX8_fits_58 : decode cX8_fits 58 = .ok (.aload_n 0, 1) := by decide +kernel
theorem dX8_fits_59 : decode cX8_fits 59 = .ok (.iload_n 1, 1) := by decide +kernel
theorem dX8_fits_60 : decode cX8_fits 60 = .ok (.invokevirtual 254, 3) := by decide +kernel
theorem dX8_fits_63 : decode cX8_fits 63 = .ok (.ifCond .ne 6, 3) := by decide +kernel
theorem dX8_fits_66 : decode cX8_fits 66 = .ok (.goto 10, 3) := by decide +kernel
theorem dX8_fits_69 : decode cX8_fits 69 = .ok (.iinc 4 1, 3) := by decide +kernel
theorem dX8_fits_72 : decode cX8_fits 72 = .ok (.iload 6, 2) := by decide +kernel
theorem dX8_fits_74 : decode cX8_fits 74 = .ok (.istore 5, 2) := by decide +kernel
theorem dX8_fits_76 : decode cX8_fits 76 = .ok (.iinc 6 (-1), 3) := by decide +kernel
theorem dX8_fits_79 : decode cX8_fits 79 = .ok (.goto (-43), 3) := by decide +kernel
theorem dX8_fits_82 : decode cX8_fits 82 = .ok (.aload_n 0, 1) := by decide +kernel
theorem dX8_fits_83 : decode cX8_fits 83 = .ok (.getfield 11, 3) := by decide +kernel
theorem dX8_fits_86 : decode cX8_fits 86 = .ok (.sipush 178, 3) := by decide +kernel
theorem dX8_fits_89 : decode cX8_fits 89 = .ok (.bipush 20, 2) := by decide +kernel
theorem dX8_fits_91 : decode cX8_fits 91 = .ok (.iload_n 1, 1) := by decide +kernel
theorem dX8_fits_92 : decode cX8_fits 92 = .ok (.imul, 1) := by decide +kernel
theorem dX8_fits_93 : decode cX8_fits 93 = .ok (.iadd, 1) := by decide +kernel
theorem dX8_fits_94 : decode cX8_fits 94 = .ok (.iconst 1, 1) := by decide +kernel
theorem dX8_fits_95 : decode cX8_fits 95 = .ok (.iadd, 1) := by decide +kernel
theorem dX8_fits_96 : decode cX8_fits 96 = .ok (.iload_n 3, 1) := by decide +kernel
theorem dX8_fits_97 : decode cX8_fits 97 = .ok (.iastore, 1) := by decide +kernel
theorem dX8_fits_98 : decode cX8_fits 98 = .ok (.iload_n 2, 1) := by decide +kernel
theorem dX8_fits_99 : decode cX8_fits 99 = .ok (.ifCond .ne 8, 3) := by decide +kernel
theorem dX8_fits_102 : decode cX8_fits 102 = .ok (.iload 4, 2) := by decide +kernel
theorem dX8_fits_104 : decode cX8_fits 104 = .ok (.goto 5, 3) := by decide +kernel
theorem dX8_fits_107 : decode cX8_fits 107 = .ok (.iload 5, 2) := by decide +kernel
theorem dX8_fits_109 : decode cX8_fits 109 = .ok (.ireturn, 1) := by decide +kernel
theorem dX8_common_0 : decode cX8_common 0 = .ok (.iload_n 1, 1) := by decide +kernel
theorem dX8_common_1 : decode cX8_common 1 = .ok (.ifCond .ne 7, 3) := by decide +kernel
theorem dX8_common_4 : decode cX8_common 4 = .ok (.iload_n 0, 1) := by decide +kernel
theorem dX8_common_5 : decode cX8_common 5 = .ok (.goto 10, 3) := by decide +kernel
theorem dX8_common_8 : decode cX8_common 8 = .ok (.iload_n 1, 1) := by decide +kernel
theorem dX8_common_9 : decode cX8_common 9 = .ok (.iload_n 0, 1) := by decide +kernel
theorem dX8_common_10 : decode cX8_common 10 = .ok (.iload_n 1, 1) := by decide +kernel
theorem dX8_common_11 : decode cX8_common 11 = .ok (.irem, 1) := by decide +kernel
theorem dX8_common_12 : decode cX8_common 12 = .ok (.invokestatic 257, 3) := by decide +kernel
theorem dX8_common_15 : decode cX8_common 15 = .ok (.ireturn, 1) := by decide +kernel
theorem dX8_part_0 : decode cX8_part 0 = .ok (.iload_n 2, 1) := by decide +kernel
theorem dX8_part_1 : decode cX8_part 1 = .ok (.ifCond .ne 7, 3) := by decide +kernel
theorem dX8_part_4 : decode cX8_part 4 = .ok (.iload_n 0, 1) := by decide +kernel
theorem dX8_part_5 : decode cX8_part 5 = .ok (.goto 4, 3) := by decide +kernel
theorem dX8_part_8 : decode cX8_part 8 = .ok (.iload_n 1, 1) := by decide +kernel
theorem dX8_part_9 : decode cX8_part 9 = .ok (.iload_n 0, 1) := by decide +kernel
theorem dX8_part_10 : decode cX8_part 10 = .ok (.iload_n 1, 1) := by decide +kernel
theorem dX8_part_11 : decode cX8_part 11 = .ok (.invokestatic 257, 3) := by decide +kernel
theorem dX8_part_14 : decode cX8_part 14 = .ok (.idiv, 1) := by decide +kernel
theorem dX8_part_15 : decode cX8_part 15 = .ok (.ireturn, 1) := by decide +kernel
theorem dX8_odds_0 : decode cX8_odds 0 = .ok (.aload_n 0, 1) := by decide +kernel
theorem dX8_odds_1 : decode cX8_odds 1 = .ok (.invokevirtual 242, 3) := by decide +kernel
theorem dX8_odds_4 : decode cX8_odds 4 = .ok (.istore_n 2, 1) := by decide +kernel
theorem dX8_odds_5 : decode cX8_odds 5 = .ok (.iload_n 1, 1) := by decide +kernel
theorem dX8_odds_6 : decode cX8_odds 6 = .ok (.iconst 0, 1) := by decide +kernel
theorem dX8_odds_7 : decode cX8_odds 7 = .ok (.iconst 1, 1) := by decide +kernel
theorem dX8_odds_8 : decode cX8_odds 8 = .ok (.invokestatic 55, 3) := by decide +kernel
theorem dX8_odds_11 : decode cX8_odds 11 = .ok (.ifCond .eq 7, 3) := by decide +kernel
theorem dX8_odds_14 : decode cX8_odds 14 = .ok (.iload_n 2, 1) := by decide +kernel
theorem dX8_odds_15 : decode cX8_odds 15 = .ok (.ifCond .ne 7, 3) := by decide +kernel
theorem dX8_odds_18 : decode cX8_odds 18 = .ok (.ldc2_w 260, 3) := by decide +kernel
theorem dX8_odds_21 : decode cX8_odds 21 = .ok (.lreturn, 1) := by decide +kernel
theorem dX8_odds_22 : decode cX8_odds 22 = .ok (.iconst 0, 1) := by decide +kernel
theorem dX8_odds_23 : decode cX8_odds 23 = .ok (.istore_n 3, 1) := by decide +kernel
theorem dX8_odds_24 : decode cX8_odds 24 = .ok (.iconst 0, 1) := by decide +kernel
theorem dX8_odds_25 : decode cX8_odds 25 = .ok (.istore 4, 2) := by decide +kernel
theorem dX8_odds_27 : decode cX8_odds 27 = .ok (.iload 4, 2) := by decide +kernel
theorem dX8_odds_29 : decode cX8_odds 29 = .ok (.aload_n 0, 1) := by decide +kernel
theorem dX8_odds_30 : decode cX8_odds 30 = .ok (.getfield 11, 3) := by decide +kernel
theorem dX8_odds_33 : decode cX8_odds 33 = .ok (.iconst 4, 1) := by decide +kernel
theorem dX8_odds_34 : decode cX8_odds 34 = .ok (.iaload, 1) := by decide +kernel
theorem dX8_odds_35 : decode cX8_odds 35 = .ok (.if_icmp .ge 35, 3) := by decide +kernel
theorem dX8_odds_38 : decode cX8_odds 38 = .ok (.iload_n 3, 1) := by decide +kernel
theorem dX8_odds_39 : decode cX8_odds 39 = .ok (.aload_n 0, 1) := by decide +kernel
theorem dX8_odds_40 : decode cX8_odds 40 = .ok (.iload 4, 2) := by decide +kernel
theorem dX8_odds_42 : decode cX8_odds 42 = .ok (.invokevirtual 157, 3) := by decide +kernel
theorem dX8_odds_45 : decode cX8_odds 45 = .ok (.ifCond .ge 16, 3) := by decide +kernel
theorem dX8_odds_48 : decode cX8_odds 48 = .ok (.aload_n 0, 1) := by decide +kernel
theorem dX8_odds_49 : decode cX8_odds 49 = .ok (.iload 4, 2) := by decide +kernel
theorem dX8_odds_51 : decode cX8_odds 51 = .ok (.invokevirtual 202, 3) := by decide +kernel
theorem dX8_odds_54 : decode cX8_odds 54 = .ok (.ifCond .eq 7, 3) := by decide +kernel
theorem dX8_odds_57 : decode cX8_odds 57 = .ok (.iconst 1, 1) := by decide +kernel
theorem dX8_odds_58 : decode cX8_odds 58 = .ok (.goto 4, 3) := by decide +kernel
theorem dX8_odds_61 : decode cX8_odds 61 = .ok (.iconst 0, 1) := by decide +kernel
theorem dX8_odds_62 : decode cX8_odds 62 = .ok (.iadd, 1) := by decide +kernel
theorem dX8_odds_63 : decode cX8_odds 63 = .ok (.istore_n 3, 1) := by decide +kernel
theorem dX8_odds_64 : decode cX8_odds 64 = .ok (.iinc 4 1, 3) := by decide +kernel
theorem dX8_odds_67 : decode cX8_odds 67 = .ok (.goto (-40), 3) := by decide +kernel
theorem dX8_odds_70 : decode cX8_odds 70 = .ok (.iload_n 3, 1) := by decide +kernel
theorem dX8_odds_71 : decode cX8_odds 71 = .ok (.iload_n 2, 1) := by decide +kernel
theorem dX8_odds_72 : decode cX8_odds 72 = .ok (.iload_n 1, 1) := by decide +kernel
theorem dX8_odds_73 : decode cX8_odds 73 = .ok (.invokestatic 262, 3) := by decide +kernel
theorem dX8_odds_76 : decode cX8_odds 76 = .ok (.i2l, 1) := by decide +kernel
theorem dX8_odds_77 : decode cX8_odds 77 = .ok (.lreturn, 1) := by decide +kernel
theorem dX8_mean_0 : decode cX8_mean 0 = .ok (.aload_n 0, 1) := by decide +kernel
theorem dX8_mean_1 : decode cX8_mean 1 = .ok (.getfield 11, 3) := by decide +kernel
theorem dX8_mean_4 : decode cX8_mean 4 = .ok (.iconst 4, 1) := by decide +kernel
theorem dX8_mean_5 : decode cX8_mean 5 = .ok (.iaload, 1) := by decide +kernel
theorem dX8_mean_6 : decode cX8_mean 6 = .ok (.aload_n 0, 1) := by decide +kernel
theorem dX8_mean_7 : decode cX8_mean 7 = .ok (.invokevirtual 242, 3) := by decide +kernel
theorem dX8_mean_10 : decode cX8_mean 10 = .ok (.isub, 1) := by decide +kernel
theorem dX8_mean_11 : decode cX8_mean 11 = .ok (.istore_n 2, 1) := by decide +kernel
theorem dX8_mean_12 : decode cX8_mean 12 = .ok (.iload_n 1, 1) := by decide +kernel
theorem dX8_mean_13 : decode cX8_mean 13 = .ok (.iconst 0, 1) := by decide +kernel
theorem dX8_mean_14 : decode cX8_mean 14 = .ok (.iconst 1, 1) := by decide +kernel
theorem dX8_mean_15 : decode cX8_mean 15 = .ok (.invokestatic 55, 3) := by decide +kernel
theorem dX8_mean_18 : decode cX8_mean 18 = .ok (.ifCond .eq 7, 3) := by decide +kernel
theorem dX8_mean_21 : decode cX8_mean 21 = .ok (.iload_n 2, 1) := by decide +kernel
theorem dX8_mean_22 : decode cX8_mean 22 = .ok (.ifCond .ne 7, 3) := by decide +kernel
theorem dX8_mean_25 : decode cX8_mean 25 = .ok (.ldc2_w 260, 3) := by decide +kernel
theorem dX8_mean_28 : decode cX8_mean 28 = .ok (.lreturn, 1) := by decide +kernel
theorem dX8_mean_29 : decode cX8_mean 29 = .ok (.aload_n 0, 1) := by decide +kernel
theorem dX8_mean_30 : decode cX8_mean 30 = .ok (.invokevirtual 245, 3) := by decide +kernel
theorem dX8_mean_33 : decode cX8_mean 33 = .ok (.iload_n 2, 1) := by decide +kernel
theorem dX8_mean_34 : decode cX8_mean 34 = .ok (.iload_n 1, 1) := by decide +kernel
theorem dX8_mean_35 : decode cX8_mean 35 = .ok (.invokestatic 262, 3) := by decide +kernel
theorem dX8_mean_38 : decode cX8_mean 38 = .ok (.i2l, 1) := by decide +kernel
theorem dX8_mean_39 : decode cX8_mean 39 = .ok (.lreturn, 1) := by decide +kernel
theorem dX8_draws_0 : decode cX8_draws 0 = .ok (.aload_n 0, 1) := by decide +kernel
theorem dX8_draws_1 : decode cX8_draws 1 = .ok (.aload_n 0, 1) := by decide +kernel
theorem dX8_draws_2 : decode cX8_draws 2 = .ok (.getfield 265, 3) := by decide +kernel
theorem dX8_draws_5 : decode cX8_draws 5 = .ok (.ldc_w 268, 3) := by decide +kernel
theorem dX8_draws_8 : decode cX8_draws 8 = .ok (.imul, 1) := by decide +kernel
theorem dX8_draws_9 : decode cX8_draws 9 = .ok (.sipush 12345, 3) := by decide +kernel
theorem dX8_draws_12 : decode cX8_draws 12 = .ok (.iadd, 1) := by decide +kernel
theorem dX8_draws_13 : decode cX8_draws 13 = .ok (.putfield 265, 3) := by decide +kernel
theorem dX8_draws_16 : decode cX8_draws 16 = .ok (.aload_n 0, 1) := by decide +kernel
theorem dX8_draws_17 : decode cX8_draws 17 = .ok (.getfield 265, 3) := by decide +kernel
theorem dX8_draws_20 : decode cX8_draws 20 = .ok (.bipush 9, 2) := by decide +kernel
theorem dX8_draws_22 : decode cX8_draws 22 = .ok (.iushr, 1) := by decide +kernel
theorem dX8_draws_23 : decode cX8_draws 23 = .ok (.iload_n 1, 1) := by decide +kernel
theorem dX8_draws_24 : decode cX8_draws 24 = .ok (.irem, 1) := by decide +kernel
theorem dX8_draws_25 : decode cX8_draws 25 = .ok (.ireturn, 1) := by decide +kernel
theorem dX8_drawnBy_0 : decode cX8_drawnBy 0 = .ok (.aload_n 0, 1) := by decide +kernel
theorem dX8_drawnBy_1 : decode cX8_drawnBy 1 = .ok (.getfield 11, 3) := by decide +kernel
theorem dX8_drawnBy_4 : decode cX8_drawnBy 4 = .ok (.aload_n 0, 1) := by decide +kernel
theorem dX8_drawnBy_5 : decode cX8_drawnBy 5 = .ok (.getfield 18, 3) := by decide +kernel
theorem dX8_drawnBy_8 : decode cX8_drawnBy 8 = .ok (.invokestatic 269, 3) := by decide +kernel
theorem dX8_drawnBy_11 : decode cX8_drawnBy 11 = .ok (.aload_n 0, 1) := by decide +kernel
theorem dX8_drawnBy_12 : decode cX8_drawnBy 12 = .ok (.iload_n 1, 1) := by decide +kernel
theorem dX8_drawnBy_13 : decode cX8_drawnBy 13 = .ok (.putfield 265, 3) := by decide +kernel
theorem dX8_drawnBy_16 : decode cX8_drawnBy 16 = .ok (.iconst 0, 1) := by decide +kernel
theorem dX8_drawnBy_17 : decode cX8_drawnBy 17 = .ok (.istore_n 3, 1) := by decide +kernel
theorem dX8_drawnBy_18 : decode cX8_drawnBy 18 = .ok (.iload_n 3, 1) := by decide +kernel
theorem dX8_drawnBy_19 : decode cX8_drawnBy 19 = .ok (.iload_n 2, 1) := by decide +kernel
theorem dX8_drawnBy_20 : decode cX8_drawnBy 20 = .ok (.if_icmp .ge 88, 3) := by decide +kernel
theorem dX8_drawnBy_23 : decode cX8_drawnBy 23 = .ok (.aload_n 0, 1) := by decide +kernel
theorem dX8_drawnBy_24 : decode cX8_drawnBy 24 = .ok (.getfield 11, 3) := by decide +kernel
theorem dX8_drawnBy_27 : decode cX8_drawnBy 27 = .ok (.iconst 4, 1) := by decide +kernel
theorem dX8_drawnBy_28 : decode cX8_drawnBy 28 = .ok (.iaload, 1) := by decide +kernel
theorem dX8_drawnBy_29 : decode cX8_drawnBy 29 = .ok (.bipush 16, 2) := by decide +kernel
theorem dX8_drawnBy_31 : decode cX8_drawnBy 31 = .ok (.if_icmp .ge 77, 3) := by decide +kernel
theorem dX8_drawnBy_34 : decode cX8_drawnBy 34 = .ok (.aload_n 0, 1) := by decide +kernel
theorem dX8_drawnBy_35 : decode cX8_drawnBy 35 = .ok (.bipush 64, 2) := by decide +kernel
theorem dX8_drawnBy_37 : decode cX8_drawnBy 37 = .ok (.invokevirtual 273, 3) := by decide +kernel
theorem dX8_drawnBy_40 : decode cX8_drawnBy 40 = .ok (.istore 4, 2) := by decide +kernel
theorem dX8_drawnBy_42 : decode cX8_drawnBy 42 = .ok (.aload_n 0, 1) := by decide +kernel
theorem dX8_drawnBy_43 : decode cX8_drawnBy 43 = .ok (.bipush 64, 2) := by decide +kernel
theorem dX8_drawnBy_45 : decode cX8_drawnBy 45 = .ok (.invokevirtual 273, 3) := by decide +kernel
theorem dX8_drawnBy_48 : decode cX8_drawnBy 48 = .ok (.istore 5, 2) := by decide +kernel
theorem dX8_drawnBy_50 : decode cX8_drawnBy 50 = .ok (.aload_n 0, 1) := by decide +kernel
theorem dX8_drawnBy_51 : decode cX8_drawnBy 51 = .ok (.bipush 10, 2) := by decide +kernel
theorem dX8_drawnBy_53 : decode cX8_drawnBy 53 = .ok (.invokevirtual 273, 3) := by decide +kernel
theorem dX8_drawnBy_56 : decode cX8_drawnBy 56 = .ok (.istore 6, 2) := by decide +kernel
theorem dX8_drawnBy_58 : decode cX8_drawnBy 58 = .ok (.aload_n 0, 1) := by decide +kernel
theorem dX8_drawnBy_59 : decode cX8_drawnBy 59 = .ok (.sipush 400, 3) := by decide +kernel
theorem dX8_drawnBy_62 : decode cX8_drawnBy 62 = .ok (.invokevirtual 273, 3) := by decide +kernel
theorem dX8_drawnBy_65 : decode cX8_drawnBy 65 = .ok (.istore 7, 2) := by decide +kernel
theorem dX8_drawnBy_67 : decode cX8_drawnBy 67 = .ok (.iload 7, 2) := by decide +kernel
theorem dX8_drawnBy_69 : decode cX8_drawnBy 69 = .ok (.bipush 20, 2) := by decide +kernel
theorem dX8_drawnBy_71 : decode cX8_drawnBy 71 = .ok (.iadd, 1) := by decide +kernel
theorem dX8_drawnBy_72 : decode cX8_drawnBy 72 = .ok (.aload_n 0, 1) := by decide +kernel
theorem dX8_drawnBy_73 : decode cX8_drawnBy 73 = .ok (.sipush 200, 3) := by decide +kernel
theorem dX8_drawnBy_76 : decode cX8_drawnBy 76 = .ok (.invokevirtual 273, 3) := by decide +kernel
theorem dX8_drawnBy_79 : decode cX8_drawnBy 79 = .ok (.iadd, 1) := by decide +kernel
theorem dX8_drawnBy_80 : decode cX8_drawnBy 80 = .ok (.istore 8, 2) := by decide +kernel
theorem dX8_drawnBy_82 : decode cX8_drawnBy 82 = .ok (.aload_n 0, 1) := by decide +kernel
theorem dX8_drawnBy_83 : decode cX8_drawnBy 83 = .ok (.iload 4, 2) := by decide +kernel
theorem dX8_drawnBy_85 : decode cX8_drawnBy 85 = .ok (.iload 5, 2) := by decide +kernel
theorem dX8_drawnBy_87 : decode cX8_drawnBy 87 = .ok (.iload 6, 2) := by decide +kernel
theorem dX8_drawnBy_89 : decode cX8_drawnBy 89 = .ok (.iload 7, 2) := by decide +kernel
theorem dX8_drawnBy_91 : decode cX8_drawnBy 91 = .ok (.iload 8, 2) := by decide +kernel
theorem dX8_drawnBy_93 : decode cX8_drawnBy 93 = .ok (.aload_n 0, 1) := by decide +kernel
theorem dX8_drawnBy_94 : decode cX8_drawnBy 94 = .ok (.bipush 20, 2) := by decide +kernel
theorem dX8_drawnBy_96 : decode cX8_drawnBy 96 = .ok (.invokevirtual 273, 3) := by decide +kernel
theorem dX8_drawnBy_99 : decode cX8_drawnBy 99 = .ok (.invokevirtual 118, 3) := by decide +kernel
theorem dX8_drawnBy_102 : decode cX8_drawnBy 102 = .ok (.iinc 3 1, 3) := by decide +kernel
theorem dX8_drawnBy_105 : decode cX8_drawnBy 105 = .ok (.goto (-87), 3) := by decide +kernel
theorem dX8_drawnBy_108 : decode cX8_drawnBy 108 = .ok (.aload_n 0, 1) := by decide +kernel
theorem dX8_drawnBy_109 : decode cX8_drawnBy 109 = .ok (.invokevirtual 211, 3) := by decide +kernel
theorem dX8_drawnBy_112 : decode cX8_drawnBy 112 = .ok (.pop, 1) := by decide +kernel
theorem dX8_drawnBy_113 : decode cX8_drawnBy 113 = .ok (.aload_n 0, 1) := by decide +kernel
theorem dX8_drawnBy_114 : decode cX8_drawnBy 114 = .ok (.invokevirtual 242, 3) := by decide +kernel
theorem dX8_drawnBy_117 : decode cX8_drawnBy 117 = .ok (.istore_n 3, 1) := by decide +kernel
theorem dX8_drawnBy_118 : decode cX8_drawnBy 118 = .ok (.aload_n 0, 1) := by decide +kernel
theorem dX8_drawnBy_119 : decode cX8_drawnBy 119 = .ok (.getfield 18, 3) := by decide +kernel
theorem dX8_drawnBy_122 : decode cX8_drawnBy 122 = .ok (.aload_n 0, 1) := by decide +kernel
theorem dX8_drawnBy_123 : decode cX8_drawnBy 123 = .ok (.getfield 11, 3) := by decide +kernel
theorem dX8_drawnBy_126 : decode cX8_drawnBy 126 = .ok (.invokestatic 269, 3) := by decide +kernel
theorem dX8_drawnBy_129 : decode cX8_drawnBy 129 = .ok (.iload_n 3, 1) := by decide +kernel
theorem dX8_drawnBy_130 : decode cX8_drawnBy 130 = .ok (.ireturn, 1) := by decide +kernel
theorem dX8_drawn_0 : decode cX8_drawn 0 = .ok (.iload_n 2, 1) := by decide +kernel
theorem dX8_drawn_1 : decode cX8_drawn 1 = .ok (.iconst 0, 1) := by decide +kernel
theorem dX8_drawn_2 : decode cX8_drawn 2 = .ok (.bipush 8, 2) := by decide +kernel
theorem dX8_drawn_4 : decode cX8_drawn 4 = .ok (.invokestatic 55, 3) := by decide +kernel
theorem dX8_drawn_7 : decode cX8_drawn 7 = .ok (.ifCond .ne 6, 3) := by decide +kernel
theorem dX8_drawn_10 : decode cX8_drawn 10 = .ok (.bipush (-2), 2) := by decide +kernel
theorem dX8_drawn_12 : decode cX8_drawn 12 = .ok (.ireturn, 1) := by decide +kernel
theorem dX8_drawn_13 : decode cX8_drawn 13 = .ok (.aload_n 0, 1) := by decide +kernel
theorem dX8_drawn_14 : decode cX8_drawn 14 = .ok (.iconst 1, 1) := by decide +kernel
theorem dX8_drawn_15 : decode cX8_drawn 15 = .ok (.invokevirtual 208, 3) := by decide +kernel
theorem dX8_drawn_18 : decode cX8_drawn 18 = .ok (.ifCond .eq 12, 3) := by decide +kernel
theorem dX8_drawn_21 : decode cX8_drawn 21 = .ok (.aload_n 0, 1) := by decide +kernel
theorem dX8_drawn_22 : decode cX8_drawn 22 = .ok (.iload_n 1, 1) := by decide +kernel
theorem dX8_drawn_23 : decode cX8_drawn 23 = .ok (.iload_n 2, 1) := by decide +kernel
theorem dX8_drawn_24 : decode cX8_drawn 24 = .ok (.invokevirtual 276, 3) := by decide +kernel
theorem dX8_drawn_27 : decode cX8_drawn 27 = .ok (.goto 5, 3) := by decide +kernel
theorem dX8_drawn_30 : decode cX8_drawn 30 = .ok (.bipush (-4), 2) := by decide +kernel
theorem dX8_drawn_32 : decode cX8_drawn 32 = .ok (.ireturn, 1) := by decide +kernel
theorem dX8_chance_0 : decode cX8_chance 0 = .ok (.iload_n 2, 1) := by decide +kernel
theorem dX8_chance_1 : decode cX8_chance 1 = .ok (.iconst 0, 1) := by decide +kernel
theorem dX8_chance_2 : decode cX8_chance 2 = .ok (.bipush 8, 2) := by decide +kernel
theorem dX8_chance_4 : decode cX8_chance 4 = .ok (.invokestatic 55, 3) := by decide +kernel
theorem dX8_chance_7 : decode cX8_chance 7 = .ok (.ifCond .eq 22, 3) := by decide +kernel
theorem dX8_chance_10 : decode cX8_chance 10 = .ok (.iload_n 3, 1) := by decide +kernel
theorem dX8_chance_11 : decode cX8_chance 11 = .ok (.iconst 1, 1) := by decide +kernel
theorem dX8_chance_12 : decode cX8_chance 12 = .ok (.iconst 4, 1) := by decide +kernel
theorem dX8_chance_13 : decode cX8_chance 13 = .ok (.invokestatic 55, 3) := by decide +kernel
theorem dX8_chance_16 : decode cX8_chance 16 = .ok (.ifCond .eq 13, 3) := by decide +kernel
theorem dX8_chance_19 : decode cX8_chance 19 = .ok (.iload 4, 2) := by decide +kernel
theorem dX8_chance_21 : decode cX8_chance 21 = .ok (.iconst 0, 1) := by decide +kernel
theorem dX8_chance_22 : decode cX8_chance 22 = .ok (.iconst 1, 1) := by decide +kernel
theorem dX8_chance_23 : decode cX8_chance 23 = .ok (.invokestatic 55, 3) := by decide +kernel
theorem dX8_chance_26 : decode cX8_chance 26 = .ok (.ifCond .ne 6, 3) := by decide +kernel
theorem dX8_chance_29 : decode cX8_chance 29 = .ok (.bipush (-2), 2) := by decide +kernel
theorem dX8_chance_31 : decode cX8_chance 31 = .ok (.ireturn, 1) := by decide +kernel
theorem dX8_chance_32 : decode cX8_chance 32 = .ok (.aload_n 0, 1) := by decide +kernel
theorem dX8_chance_33 : decode cX8_chance 33 = .ok (.iload_n 3, 1) := by decide +kernel
theorem dX8_chance_34 : decode cX8_chance 34 = .ok (.invokevirtual 208, 3) := by decide +kernel
theorem dX8_chance_37 : decode cX8_chance 37 = .ok (.ifCond .ne 6, 3) := by decide +kernel
theorem dX8_chance_40 : decode cX8_chance 40 = .ok (.bipush (-4), 2) := by decide +kernel
theorem dX8_chance_42 : decode cX8_chance 42 = .ok (.ireturn, 1) := by decide +kernel
theorem dX8_chance_43 : decode cX8_chance 43 = .ok (.iconst 0, 1) := by decide +kernel
theorem dX8_chance_44 : decode cX8_chance 44 = .ok (.istore 5, 2) := by decide +kernel
theorem dX8_chance_46 : decode cX8_chance 46 = .ok (.iconst 0, 1) := by decide +kernel
theorem dX8_chance_47 : decode cX8_chance 47 = .ok (.istore 6, 2) := by decide +kernel
theorem dX8_chance_49 : decode cX8_chance 49 = .ok (.iload 6, 2) := by decide +kernel
theorem dX8_chance_51 : decode cX8_chance 51 = .ok (.iload_n 3, 1) := by decide +kernel
theorem dX8_chance_52 : decode cX8_chance 52 = .ok (.if_icmp .ge 31, 3) := by decide +kernel
theorem dX8_chance_55 : decode cX8_chance 55 = .ok (.iload 5, 2) := by decide +kernel
theorem dX8_chance_57 : decode cX8_chance 57 = .ok (.aload_n 0, 1) := by decide +kernel
theorem dX8_chance_58 : decode cX8_chance 58 = .ok (.iload_n 1, 1) := by decide +kernel
theorem dX8_chance_59 : decode cX8_chance 59 = .ok (.iload 6, 2) := by decide +kernel
theorem dX8_chance_61 : decode cX8_chance 61 = .ok (.iadd, 1) := by decide +kernel
theorem dX8_chance_62 : decode cX8_chance 62 = .ok (.iload_n 2, 1) := by decide +kernel
theorem dX8_chance_63 : decode cX8_chance 63 = .ok (.invokevirtual 276, 3) := by decide +kernel
theorem dX8_chance_66 : decode cX8_chance 66 = .ok (.ifCond .ne 7, 3) := by decide +kernel
theorem dX8_chance_69 : decode cX8_chance 69 = .ok (.iconst 1, 1) := by decide +kernel
theorem dX8_chance_70 : decode cX8_chance 70 = .ok (.goto 4, 3) := by decide +kernel
theorem dX8_chance_73 : decode cX8_chance 73 = .ok (.iconst 0, 1) := by decide +kernel
theorem dX8_chance_74 : decode cX8_chance 74 = .ok (.iadd, 1) := by decide +kernel
theorem dX8_chance_75 : decode cX8_chance 75 = .ok (.istore 5, 2) := by decide +kernel
theorem dX8_chance_77 : decode cX8_chance 77 = .ok (.iinc 6 1, 3) := by decide +kernel
theorem dX8_chance_80 : decode cX8_chance 80 = .ok (.goto (-31), 3) := by decide +kernel
theorem dX8_chance_83 : decode cX8_chance 83 = .ok (.iload 5, 2) := by decide +kernel
theorem dX8_chance_85 : decode cX8_chance 85 = .ok (.iload_n 3, 1) := by decide +kernel
theorem dX8_chance_86 : decode cX8_chance 86 = .ok (.iload 4, 2) := by decide +kernel
theorem dX8_chance_88 : decode cX8_chance 88 = .ok (.invokestatic 262, 3) := by decide +kernel
theorem dX8_chance_91 : decode cX8_chance 91 = .ok (.ireturn, 1) := by decide +kernel
theorem dX8_plan_0 : decode cX8_plan 0 = .ok (.iload_n 1, 1) := by decide +kernel
theorem dX8_plan_1 : decode cX8_plan 1 = .ok (.iconst (-1), 1) := by decide +kernel
theorem dX8_plan_2 : decode cX8_plan 2 = .ok (.if_icmp .ne 13, 3) := by decide +kernel
theorem dX8_plan_5 : decode cX8_plan 5 = .ok (.aload_n 0, 1) := by decide +kernel
theorem dX8_plan_6 : decode cX8_plan 6 = .ok (.getfield 11, 3) := by decide +kernel
theorem dX8_plan_9 : decode cX8_plan 9 = .ok (.bipush 6, 2) := by decide +kernel
theorem dX8_plan_11 : decode cX8_plan 11 = .ok (.iconst 0, 1) := by decide +kernel
theorem dX8_plan_12 : decode cX8_plan 12 = .ok (.iastore, 1) := by decide +kernel
theorem dX8_plan_13 : decode cX8_plan 13 = .ok (.iconst 0, 1) := by decide +kernel
theorem dX8_plan_14 : decode cX8_plan 14 = .ok (.ireturn, 1) := by decide +kernel
theorem dX8_plan_15 : decode cX8_plan 15 = .ok (.iload_n 1, 1) := by decide +kernel
theorem dX8_plan_16 : decode cX8_plan 16 = .ok (.iconst 0, 1) := by decide +kernel
theorem dX8_plan_17 : decode cX8_plan 17 = .ok (.iconst 3, 1) := by decide +kernel
theorem dX8_plan_18 : decode cX8_plan 18 = .ok (.invokestatic 55, 3) := by decide +kernel
theorem dX8_plan_21 : decode cX8_plan 21 = .ok (.ifCond .eq 16, 3) := by decide +kernel
theorem dX8_plan_24 : decode cX8_plan 24 = .ok (.iload_n 1, 1) := by decide +kernel
theorem dX8_plan_25 : decode cX8_plan 25 = .ok (.iconst 2, 1) := by decide +kernel
theorem dX8_plan_26 : decode cX8_plan 26 = .ok (.if_icmp .ne 13, 3) := by decide +kernel
theorem dX8_plan_29 : decode cX8_plan 29 = .ok (.aload_n 0, 1) := by decide +kernel
theorem dX8_plan_30 : decode cX8_plan 30 = .ok (.iload_n 2, 1) := by decide +kernel
theorem dX8_plan_31 : decode cX8_plan 31 = .ok (.invokevirtual 151, 3) := by decide +kernel
theorem dX8_plan_34 : decode cX8_plan 34 = .ok (.ifCond .ne 5, 3) := by decide +kernel
theorem dX8_plan_37 : decode cX8_plan 37 = .ok (.iconst (-1), 1) := by decide +kernel
theorem dX8_plan_38 : decode cX8_plan 38 = .ok (.ireturn, 1) := by decide +kernel
theorem dX8_plan_39 : decode cX8_plan 39 = .ok (.iload_n 1, 1) := by decide +kernel
theorem dX8_plan_40 : decode cX8_plan 40 = .ok (.iconst 3, 1) := by decide +kernel
theorem dX8_plan_41 : decode cX8_plan 41 = .ok (.if_icmp .ne 16, 3) := by decide +kernel
theorem dX8_plan_44 : decode cX8_plan 44 = .ok (.iload_n 2, 1) := by decide +kernel
theorem dX8_plan_45 : decode cX8_plan 45 = .ok (.iconst 0, 1) := by decide +kernel
theorem dX8_plan_46 : decode cX8_plan 46 = .ok (.bipush 99, 2) := by decide +kernel
theorem dX8_plan_48 : decode cX8_plan 48 = .ok (.invokestatic 55, 3) := by decide +kernel
theorem dX8_plan_51 : decode cX8_plan 51 = .ok (.ifCond .ne 6, 3) := by decide +kernel
theorem dX8_plan_54 : decode cX8_plan 54 = .ok (.bipush (-2), 2) := by decide +kernel
theorem dX8_plan_56 : decode cX8_plan 56 = .ok (.ireturn, 1) := by decide +kernel
theorem dX8_plan_57 : decode cX8_plan 57 = .ok (.aload_n 0, 1) := by decide +kernel
theorem dX8_plan_58 : decode cX8_plan 58 = .ok (.getfield 11, 3) := by decide +kernel
theorem dX8_plan_61 : decode cX8_plan 61 = .ok (.bipush 6, 2) := by decide +kernel
theorem dX8_plan_63 : decode cX8_plan 63 = .ok (.iaload, 1) := by decide +kernel
theorem dX8_plan_64 : decode cX8_plan 64 = .ok (.bipush 8, 2) := by decide +kernel
theorem dX8_plan_66 : decode cX8_plan 66 = .ok (.if_icmp .ne 6, 3) := by decide +kernel
theorem dX8_plan_69 : decode cX8_plan 69 = .ok (.bipush (-4), 2) := by decide +kernel
theorem dX8_plan_71 : decode cX8_plan 71 = .ok (.ireturn, 1) := by decide +kernel
theorem dX8_plan_72 : decode cX8_plan 72 = .ok (.aload_n 0, 1) := by decide +kernel
theorem dX8_plan_73 : decode cX8_plan 73 = .ok (.getfield 11, 3) := by decide +kernel
theorem dX8_plan_76 : decode cX8_plan 76 = .ok (.bipush 18, 2) := by decide +kernel
theorem dX8_plan_78 : decode cX8_plan 78 = .ok (.iconst 2, 1) := by decide +kernel
theorem dX8_plan_79 : decode cX8_plan 79 = .ok (.aload_n 0, 1) := by decide +kernel
theorem dX8_plan_80 : decode cX8_plan 80 = .ok (.getfield 11, 3) := by decide +kernel
theorem dX8_plan_83 : decode cX8_plan 83 = .ok (.bipush 6, 2) := by decide +kernel
theorem dX8_plan_85 : decode cX8_plan 85 = .ok (.iaload, 1) := by decide +kernel
theorem dX8_plan_86 : decode cX8_plan 86 = .ok (.imul, 1) := by decide +kernel
theorem dX8_plan_87 : decode cX8_plan 87 = .ok (.iadd, 1) := by decide +kernel
theorem dX8_plan_88 : decode cX8_plan 88 = .ok (.iload_n 1, 1) := by decide +kernel
theorem dX8_plan_89 : decode cX8_plan 89 = .ok (.iastore, 1) := by decide +kernel
theorem dX8_plan_90 : decode cX8_plan 90 = .ok (.aload_n 0, 1) := by decide +kernel
theorem dX8_plan_91 : decode cX8_plan 91 = .ok (.getfield 11, 3) := by decide +kernel
theorem dX8_plan_94 : decode cX8_plan 94 = .ok (.bipush 18, 2) := by decide +kernel
theorem dX8_plan_96 : decode cX8_plan 96 = .ok (.iconst 2, 1) := by decide +kernel
theorem dX8_plan_97 : decode cX8_plan 97 = .ok (.aload_n 0, 1) := by decide +kernel
theorem dX8_plan_98 : decode cX8_plan 98 = .ok (.getfield 11, 3) := by decide +kernel
theorem dX8_plan_101 : decode cX8_plan 101 = .ok (.bipush 6, 2) := by decide +kernel
theorem dX8_plan_103 : decode cX8_plan 103 = .ok (.iaload, 1) := by decide +kernel
theorem dX8_plan_104 : decode cX8_plan 104 = .ok (.imul, 1) := by decide +kernel
theorem dX8_plan_105 : decode cX8_plan 105 = .ok (.iadd, 1) := by decide +kernel
theorem dX8_plan_106 : decode cX8_plan 106 = .ok (.iconst 1, 1) := by decide +kernel
theorem dX8_plan_107 : decode cX8_plan 107 = .ok (.iadd, 1) := by decide +kernel
theorem dX8_plan_108 : decode cX8_plan 108 = .ok (.iload_n 2, 1) := by decide +kernel
theorem dX8_plan_109 : decode cX8_plan 109 = .ok (.iastore, 1) := by decide +kernel
theorem dX8_plan_110 : decode cX8_plan 110 = .ok (.aload_n 0, 1) := by decide +kernel
theorem dX8_plan_111 : decode cX8_plan 111 = .ok (.getfield 11, 3) := by decide +kernel
theorem dX8_plan_114 : decode cX8_plan 114 = .ok (.bipush 6, 2) := by decide +kernel
theorem dX8_plan_116 : decode cX8_plan 116 = .ok (.dup2, 1) := by decide +kernel
theorem dX8_plan_117 : decode cX8_plan 117 = .ok (.iaload, 1) := by decide +kernel
theorem dX8_plan_118 : decode cX8_plan 118 = .ok (.iconst 1, 1) := by decide +kernel
theorem dX8_plan_119 : decode cX8_plan 119 = .ok (.iadd, 1) := by decide +kernel
theorem dX8_plan_120 : decode cX8_plan 120 = .ok (.iastore, 1) := by decide +kernel
theorem dX8_plan_121 : decode cX8_plan 121 = .ok (.aload_n 0, 1) := by decide +kernel
theorem dX8_plan_122 : decode cX8_plan 122 = .ok (.getfield 11, 3) := by decide +kernel
theorem dX8_plan_125 : decode cX8_plan 125 = .ok (.bipush 6, 2) := by decide +kernel
theorem dX8_plan_127 : decode cX8_plan 127 = .ok (.iaload, 1) := by decide +kernel
theorem dX8_plan_128 : decode cX8_plan 128 = .ok (.ireturn, 1) := by decide +kernel
theorem dX8_goes_0 : decode cX8_goes 0 = .ok (.iload_n 1, 1) := by decide +kernel
theorem dX8_goes_1 : decode cX8_goes 1 = .ok (.ifCond .ne 8, 3) := by decide +kernel
theorem dX8_goes_4 : decode cX8_goes 4 = .ok (.aload_n 0, 1) := by decide +kernel
theorem dX8_goes_5 : decode cX8_goes 5 = .ok (.invokevirtual 211, 3) := by decide +kernel
theorem dX8_goes_8 : decode cX8_goes 8 = .ok (.pop, 1) := by decide +kernel
theorem dX8_goes_9 : decode cX8_goes 9 = .ok (.iload_n 1, 1) := by decide +kernel
theorem dX8_goes_10 : decode cX8_goes 10 = .ok (.iconst 1, 1) := by decide +kernel
theorem dX8_goes_11 : decode cX8_goes 11 = .ok (.if_icmp .ne 14, 3) := by decide +kernel
theorem dX8_goes_14 : decode cX8_goes 14 = .ok (.aload_n 0, 1) := by decide +kernel
theorem dX8_goes_15 : decode cX8_goes 15 = .ok (.invokevirtual 233, 3) := by decide +kernel
theorem dX8_goes_18 : decode cX8_goes 18 = .ok (.ifCond .eq 7, 3) := by decide +kernel
theorem dX8_goes_21 : decode cX8_goes 21 = .ok (.aload_n 0, 1) := by decide +kernel
theorem dX8_goes_22 : decode cX8_goes 22 = .ok (.invokevirtual 236, 3) := by decide +kernel
theorem dX8_goes_25 : decode cX8_goes 25 = .ok (.iload_n 1, 1) := by decide +kernel
theorem dX8_goes_26 : decode cX8_goes 26 = .ok (.iconst 2, 1) := by decide +kernel
theorem dX8_goes_27 : decode cX8_goes 27 = .ok (.if_icmp .ne 9, 3) := by decide +kernel
theorem dX8_goes_30 : decode cX8_goes 30 = .ok (.aload_n 0, 1) := by decide +kernel
theorem dX8_goes_31 : decode cX8_goes 31 = .ok (.iload_n 2, 1) := by decide +kernel
theorem dX8_goes_32 : decode cX8_goes 32 = .ok (.invokevirtual 279, 3) := by decide +kernel
theorem dX8_goes_35 : decode cX8_goes 35 = .ok (.pop, 1) := by decide +kernel
theorem dX8_goes_36 : decode cX8_goes 36 = .ok (.iload_n 1, 1) := by decide +kernel
theorem dX8_goes_37 : decode cX8_goes 37 = .ok (.iconst 3, 1) := by decide +kernel
theorem dX8_goes_38 : decode cX8_goes 38 = .ok (.if_icmp .ne 10, 3) := by decide +kernel
theorem dX8_goes_41 : decode cX8_goes 41 = .ok (.aload_n 0, 1) := by decide +kernel
theorem dX8_goes_42 : decode cX8_goes 42 = .ok (.getfield 11, 3) := by decide +kernel
theorem dX8_goes_45 : decode cX8_goes 45 = .ok (.iconst 3, 1) := by decide +kernel
theorem dX8_goes_46 : decode cX8_goes 46 = .ok (.iload_n 2, 1) := by decide +kernel
theorem dX8_goes_47 : decode cX8_goes 47 = .ok (.iastore, 1) := by decide +kernel
theorem dX8_goes_48 : decode cX8_goes 48 = .ok (.return_, 1) := by decide +kernel
theorem dX8_ends_0 : decode cX8_ends 0 = .ok (.iload_n 1, 1) := by decide +kernel
theorem dX8_ends_1 : decode cX8_ends 1 = .ok (.iconst 0, 1) := by decide +kernel
theorem dX8_ends_2 : decode cX8_ends 2 = .ok (.iconst 1, 1) := by decide +kernel
theorem dX8_ends_3 : decode cX8_ends 3 = .ok (.invokestatic 55, 3) := by decide +kernel
theorem dX8_ends_6 : decode cX8_ends 6 = .ok (.ifCond .ne 5, 3) := by decide +kernel
theorem dX8_ends_9 : decode cX8_ends 9 = .ok (.iconst (-1), 1) := by decide +kernel
theorem dX8_ends_10 : decode cX8_ends 10 = .ok (.ireturn, 1) := by decide +kernel
theorem dX8_ends_11 : decode cX8_ends 11 = .ok (.aload_n 0, 1) := by decide +kernel
theorem dX8_ends_12 : decode cX8_ends 12 = .ok (.aload_n 0, 1) := by decide +kernel
theorem dX8_ends_13 : decode cX8_ends 13 = .ok (.getfield 11, 3) := by decide +kernel
theorem dX8_ends_16 : decode cX8_ends 16 = .ok (.bipush 6, 2) := by decide +kernel
theorem dX8_ends_18 : decode cX8_ends 18 = .ok (.iaload, 1) := by decide +kernel
theorem dX8_ends_19 : decode cX8_ends 19 = .ok (.invokevirtual 208, 3) := by decide +kernel
theorem dX8_ends_22 : decode cX8_ends 22 = .ok (.ifCond .ne 6, 3) := by decide +kernel
theorem dX8_ends_25 : decode cX8_ends 25 = .ok (.bipush (-4), 2) := by decide +kernel
theorem dX8_ends_27 : decode cX8_ends 27 = .ok (.ireturn, 1) := by decide +kernel
theorem dX8_ends_28 : decode cX8_ends 28 = .ok (.aload_n 0, 1) := by decide +kernel
theorem dX8_ends_29 : decode cX8_ends 29 = .ok (.getfield 11, 3) := by decide +kernel
theorem dX8_ends_32 : decode cX8_ends 32 = .ok (.aload_n 0, 1) := by decide +kernel
theorem dX8_ends_33 : decode cX8_ends 33 = .ok (.getfield 18, 3) := by decide +kernel
theorem dX8_ends_36 : decode cX8_ends 36 = .ok (.invokestatic 269, 3) := by decide +kernel
theorem dX8_ends_39 : decode cX8_ends 39 = .ok (.iconst 0, 1) := by decide +kernel
theorem dX8_ends_40 : decode cX8_ends 40 = .ok (.istore_n 2, 1) := by decide +kernel
theorem dX8_ends_41 : decode cX8_ends 41 = .ok (.iload_n 2, 1) := by decide +kernel
theorem dX8_ends_42 : decode cX8_ends 42 = .ok (.aload_n 0, 1) := by decide +kernel
theorem dX8_ends_43 : decode cX8_ends 43 = .ok (.getfield 11, 3) := by decide +kernel
theorem dX8_ends_46 : decode cX8_ends 46 = .ok (.bipush 6, 2) := by decide +kernel
theorem dX8_ends_48 : decode cX8_ends 48 = .ok (.iaload, 1) := by decide +kernel
theorem dX8_ends_49 : decode cX8_ends 49 = .ok (.if_icmp .ge 37, 3) := by decide +kernel
theorem dX8_ends_52 : decode cX8_ends 52 = .ok (.aload_n 0, 1) := by decide +kernel
theorem dX8_ends_53 : decode cX8_ends 53 = .ok (.aload_n 0, 1) := by decide +kernel
theorem dX8_ends_54 : decode cX8_ends 54 = .ok (.getfield 11, 3) := by decide +kernel
theorem dX8_ends_57 : decode cX8_ends 57 = .ok (.bipush 18, 2) := by decide +kernel
theorem dX8_ends_59 : decode cX8_ends 59 = .ok (.iconst 2, 1) := by decide +kernel
theorem dX8_ends_60 : decode cX8_ends 60 = .ok (.iload_n 2, 1) := by decide +kernel
theorem dX8_ends_61 : decode cX8_ends 61 = .ok (.imul, 1) := by decide +kernel
theorem dX8_ends_62 : decode cX8_ends 62 = .ok (.iadd, 1) := by decide +kernel
theorem dX8_ends_63 : decode cX8_ends 63 = .ok (.iaload, 1) := by decide +kernel
theorem dX8_ends_64 : decode cX8_ends 64 = .ok (.aload_n 0, 1) := by decide +kernel
theorem dX8_ends_65 : decode cX8_ends 65 = .ok (.getfield 11, 3) := by decide +kernel
theorem dX8_ends_68 : decode cX8_ends 68 = .ok (.bipush 18, 2) := by decide +kernel
theorem dX8_ends_70 : decode cX8_ends 70 = .ok (.iconst 2, 1) := by decide +kernel
theorem dX8_ends_71 : decode cX8_ends 71 = .ok (.iload_n 2, 1) := by decide +kernel
theorem dX8_ends_72 : decode cX8_ends 72 = .ok (.imul, 1) := by decide +kernel
theorem dX8_ends_73 : decode cX8_ends 73 = .ok (.iadd, 1) := by decide +kernel
theorem dX8_ends_74 : decode cX8_ends 74 = .ok (.iconst 1, 1) := by decide +kernel
theorem dX8_ends_75 : decode cX8_ends 75 = .ok (.iadd, 1) := by decide +kernel
theorem dX8_ends_76 : decode cX8_ends 76 = .ok (.iaload, 1) := by decide +kernel
theorem dX8_ends_77 : decode cX8_ends 77 = .ok (.invokevirtual 282, 3) := by decide +kernel
theorem dX8_ends_80 : decode cX8_ends 80 = .ok (.iinc 2 1, 3) := by decide +kernel
theorem dX8_ends_83 : decode cX8_ends 83 = .ok (.goto (-42), 3) := by decide +kernel
theorem dX8_ends_86 : decode cX8_ends 86 = .ok (.iload_n 1, 1) := by decide +kernel
theorem dX8_ends_87 : decode cX8_ends 87 = .ok (.ifCond .ne 10, 3) := by decide +kernel
theorem dX8_ends_90 : decode cX8_ends 90 = .ok (.aload_n 0, 1) := by decide +kernel
theorem dX8_ends_91 : decode cX8_ends 91 = .ok (.invokevirtual 177, 3) := by decide +kernel
theorem dX8_ends_94 : decode cX8_ends 94 = .ok (.goto 7, 3) := by decide +kernel
theorem dX8_ends_97 : decode cX8_ends 97 = .ok (.aload_n 0, 1) := by decide +kernel
theorem dX8_ends_98 : decode cX8_ends 98 = .ok (.invokevirtual 242, 3) := by decide +kernel
theorem dX8_ends_101 : decode cX8_ends 101 = .ok (.istore_n 2, 1) := by decide +kernel
theorem dX8_ends_102 : decode cX8_ends 102 = .ok (.aload_n 0, 1) := by decide +kernel
theorem dX8_ends_103 : decode cX8_ends 103 = .ok (.getfield 18, 3) := by decide +kernel
theorem dX8_ends_106 : decode cX8_ends 106 = .ok (.aload_n 0, 1) := by decide +kernel
theorem dX8_ends_107 : decode cX8_ends 107 = .ok (.getfield 11, 3) := by decide +kernel
theorem dX8_ends_110 : decode cX8_ends 110 = .ok (.invokestatic 269, 3) := by decide +kernel
theorem dX8_ends_113 : decode cX8_ends 113 = .ok (.iload_n 2, 1) := by decide +kernel
theorem dX8_ends_114 : decode cX8_ends 114 = .ok (.ireturn, 1) := by decide +kernel
theorem dX8_book_0 : decode cX8_book 0 = .ok (.iload_n 1, 1) := by decide +kernel
theorem dX8_book_1 : decode cX8_book 1 = .ok (.iconst (-1), 1) := by decide +kernel
theorem dX8_book_2 : decode cX8_book 2 = .ok (.if_icmp .ne 13, 3) := by decide +kernel
theorem dX8_book_5 : decode cX8_book 5 = .ok (.aload_n 0, 1) := by decide +kernel
theorem dX8_book_6 : decode cX8_book 6 = .ok (.getfield 11, 3) := by decide +kernel
theorem dX8_book_9 : decode cX8_book 9 = .ok (.bipush 7, 2) := by decide +kernel
theorem dX8_book_11 : decode cX8_book 11 = .ok (.iconst 0, 1) := by decide +kernel
theorem dX8_book_12 : decode cX8_book 12 = .ok (.iastore, 1) := by decide +kernel
theorem dX8_book_13 : decode cX8_book 13 = .ok (.iconst 0, 1) := by decide +kernel
theorem dX8_book_14 : decode cX8_book 14 = .ok (.ireturn, 1) := by decide +kernel
theorem dX8_book_15 : decode cX8_book 15 = .ok (.iload_n 1, 1) := by decide +kernel
theorem dX8_book_16 : decode cX8_book 16 = .ok (.invokestatic 162, 3) := by decide +kernel
theorem dX8_book_19 : decode cX8_book 19 = .ok (.ifCond .ne 5, 3) := by decide +kernel
theorem dX8_book_22 : decode cX8_book 22 = .ok (.iconst (-1), 1) := by decide +kernel
theorem dX8_book_23 : decode cX8_book 23 = .ok (.ireturn, 1) := by decide +kernel
theorem dX8_book_24 : decode cX8_book 24 = .ok (.iload_n 2, 1) := by decide +kernel
theorem dX8_book_25 : decode cX8_book 25 = .ok (.iconst 0, 1) := by decide +kernel
theorem dX8_book_26 : decode cX8_book 26 = .ok (.bipush 16, 2) := by decide +kernel
theorem dX8_book_28 : decode cX8_book 28 = .ok (.invokestatic 55, 3) := by decide +kernel
theorem dX8_book_31 : decode cX8_book 31 = .ok (.ifCond .ne 6, 3) := by decide +kernel
theorem dX8_book_34 : decode cX8_book 34 = .ok (.bipush (-2), 2) := by decide +kernel
theorem dX8_book_36 : decode cX8_book 36 = .ok (.ireturn, 1) := by decide +kernel
theorem dX8_book_37 : decode cX8_book 37 = .ok (.aload_n 0, 1) := by decide +kernel
theorem dX8_book_38 : decode cX8_book 38 = .ok (.getfield 11, 3) := by decide +kernel
theorem dX8_book_41 : decode cX8_book 41 = .ok (.bipush 7, 2) := by decide +kernel
theorem dX8_book_43 : decode cX8_book 43 = .ok (.iaload, 1) := by decide +kernel
theorem dX8_book_44 : decode cX8_book 44 = .ok (.bipush 8, 2) := by decide +kernel
theorem dX8_book_46 : decode cX8_book 46 = .ok (.if_icmp .ne 6, 3) := by decide +kernel
theorem dX8_book_49 : decode cX8_book 49 = .ok (.bipush (-4), 2) := by decide +kernel
theorem dX8_book_51 : decode cX8_book 51 = .ok (.ireturn, 1) := by decide +kernel
theorem dX8_book_52 : decode cX8_book 52 = .ok (.aload_n 0, 1) := by decide +kernel
theorem dX8_book_53 : decode cX8_book 53 = .ok (.getfield 11, 3) := by decide +kernel
theorem dX8_book_56 : decode cX8_book 56 = .ok (.bipush 34, 2) := by decide +kernel
theorem dX8_book_58 : decode cX8_book 58 = .ok (.iconst 2, 1) := by decide +kernel
theorem dX8_book_59 : decode cX8_book 59 = .ok (.aload_n 0, 1) := by decide +kernel
theorem dX8_book_60 : decode cX8_book 60 = .ok (.getfield 11, 3) := by decide +kernel
theorem dX8_book_63 : decode cX8_book 63 = .ok (.bipush 7, 2) := by decide +kernel
theorem dX8_book_65 : decode cX8_book 65 = .ok (.iaload, 1) := by decide +kernel
theorem dX8_book_66 : decode cX8_book 66 = .ok (.imul, 1) := by decide +kernel
theorem dX8_book_67 : decode cX8_book 67 = .ok (.iadd, 1) := by decide +kernel
theorem dX8_book_68 : decode cX8_book 68 = .ok (.iload_n 1, 1) := by decide +kernel
theorem dX8_book_69 : decode cX8_book 69 = .ok (.iastore, 1) := by decide +kernel
theorem dX8_book_70 : decode cX8_book 70 = .ok (.aload_n 0, 1) := by decide +kernel
theorem dX8_book_71 : decode cX8_book 71 = .ok (.getfield 11, 3) := by decide +kernel
theorem dX8_book_74 : decode cX8_book 74 = .ok (.bipush 34, 2) := by decide +kernel
theorem dX8_book_76 : decode cX8_book 76 = .ok (.iconst 2, 1) := by decide +kernel
theorem dX8_book_77 : decode cX8_book 77 = .ok (.aload_n 0, 1) := by decide +kernel
theorem dX8_book_78 : decode cX8_book 78 = .ok (.getfield 11, 3) := by decide +kernel
theorem dX8_book_81 : decode cX8_book 81 = .ok (.bipush 7, 2) := by decide +kernel
theorem dX8_book_83 : decode cX8_book 83 = .ok (.iaload, 1) := by decide +kernel
theorem dX8_book_84 : decode cX8_book 84 = .ok (.imul, 1) := by decide +kernel
theorem dX8_book_85 : decode cX8_book 85 = .ok (.iadd, 1) := by decide +kernel
theorem dX8_book_86 : decode cX8_book 86 = .ok (.iconst 1, 1) := by decide +kernel
theorem dX8_book_87 : decode cX8_book 87 = .ok (.iadd, 1) := by decide +kernel
theorem dX8_book_88 : decode cX8_book 88 = .ok (.iload_n 2, 1) := by decide +kernel
theorem dX8_book_89 : decode cX8_book 89 = .ok (.iastore, 1) := by decide +kernel
theorem dX8_book_90 : decode cX8_book 90 = .ok (.aload_n 0, 1) := by decide +kernel
theorem dX8_book_91 : decode cX8_book 91 = .ok (.getfield 11, 3) := by decide +kernel
theorem dX8_book_94 : decode cX8_book 94 = .ok (.bipush 7, 2) := by decide +kernel
theorem dX8_book_96 : decode cX8_book 96 = .ok (.dup2, 1) := by decide +kernel
theorem dX8_book_97 : decode cX8_book 97 = .ok (.iaload, 1) := by decide +kernel
theorem dX8_book_98 : decode cX8_book 98 = .ok (.iconst 1, 1) := by decide +kernel
theorem dX8_book_99 : decode cX8_book 99 = .ok (.iadd, 1) := by decide +kernel
theorem dX8_book_100 : decode cX8_book 100 = .ok (.iastore, 1) := by decide +kernel
theorem dX8_book_101 : decode cX8_book 101 = .ok (.aload_n 0, 1) := by decide +kernel
theorem dX8_book_102 : decode cX8_book 102 = .ok (.getfield 11, 3) := by decide +kernel
theorem dX8_book_105 : decode cX8_book 105 = .ok (.bipush 7, 2) := by decide +kernel
theorem dX8_book_107 : decode cX8_book 107 = .ok (.iaload, 1) := by decide +kernel
theorem dX8_book_108 : decode cX8_book 108 = .ok (.ireturn, 1) := by decide +kernel
theorem dX8_looked_0 : decode cX8_looked 0 = .ok (.iconst 0, 1) := by decide +kernel
theorem dX8_looked_1 : decode cX8_looked 1 = .ok (.istore_n 1, 1) := by decide +kernel
theorem dX8_looked_2 : decode cX8_looked 2 = .ok (.iload_n 1, 1) := by decide +kernel
theorem dX8_looked_3 : decode cX8_looked 3 = .ok (.aload_n 0, 1) := by decide +kernel
theorem dX8_looked_4 : decode cX8_looked 4 = .ok (.getfield 11, 3) := by decide +kernel
theorem dX8_looked_7 : decode cX8_looked 7 = .ok (.bipush 7, 2) := by decide +kernel
theorem dX8_looked_9 : decode cX8_looked 9 = .ok (.iaload, 1) := by decide +kernel
theorem dX8_looked_10 : decode cX8_looked 10 = .ok (.if_icmp .ge 43, 3) := by decide +kernel
theorem dX8_looked_13 : decode cX8_looked 13 = .ok (.aload_n 0, 1) := by decide +kernel
theorem dX8_looked_14 : decode cX8_looked 14 = .ok (.aload_n 0, 1) := by decide +kernel
theorem dX8_looked_15 : decode cX8_looked 15 = .ok (.getfield 11, 3) := by decide +kernel
theorem dX8_looked_18 : decode cX8_looked 18 = .ok (.bipush 34, 2) := by decide +kernel
theorem dX8_looked_20 : decode cX8_looked 20 = .ok (.iconst 2, 1) := by decide +kernel
theorem dX8_looked_21 : decode cX8_looked 21 = .ok (.iload_n 1, 1) := by decide +kernel
theorem dX8_looked_22 : decode cX8_looked 22 = .ok (.imul, 1) := by decide +kernel
theorem dX8_looked_23 : decode cX8_looked 23 = .ok (.iadd, 1) := by decide +kernel
theorem dX8_looked_24 : decode cX8_looked 24 = .ok (.iaload, 1) := by decide +kernel
theorem dX8_looked_25 : decode cX8_looked 25 = .ok (.iconst 3, 1) := by decide +kernel
theorem dX8_looked_26 : decode cX8_looked 26 = .ok (.invokevirtual 59, 3) := by decide +kernel
theorem dX8_looked_29 : decode cX8_looked 29 = .ok (.aload_n 0, 1) := by decide +kernel
theorem dX8_looked_30 : decode cX8_looked 30 = .ok (.getfield 11, 3) := by decide +kernel
theorem dX8_looked_33 : decode cX8_looked 33 = .ok (.bipush 34, 2) := by decide +kernel
theorem dX8_looked_35 : decode cX8_looked 35 = .ok (.iconst 2, 1) := by decide +kernel
theorem dX8_looked_36 : decode cX8_looked 36 = .ok (.iload_n 1, 1) := by decide +kernel
theorem dX8_looked_37 : decode cX8_looked 37 = .ok (.imul, 1) := by decide +kernel
theorem dX8_looked_38 : decode cX8_looked 38 = .ok (.iadd, 1) := by decide +kernel
theorem dX8_looked_39 : decode cX8_looked 39 = .ok (.iconst 1, 1) := by decide +kernel
theorem dX8_looked_40 : decode cX8_looked 40 = .ok (.iadd, 1) := by decide +kernel
theorem dX8_looked_41 : decode cX8_looked 41 = .ok (.iaload, 1) := by decide +kernel
theorem dX8_looked_42 : decode cX8_looked 42 = .ok (.if_icmp .eq 5, 3) := by decide +kernel
theorem dX8_looked_45 : decode cX8_looked 45 = .ok (.iload_n 1, 1) := by decide +kernel
theorem dX8_looked_46 : decode cX8_looked 46 = .ok (.ireturn, 1) := by decide +kernel
theorem dX8_looked_47 : decode cX8_looked 47 = .ok (.iinc 1 1, 3) := by decide +kernel
theorem dX8_looked_50 : decode cX8_looked 50 = .ok (.goto (-48), 3) := by decide +kernel
theorem dX8_looked_53 : decode cX8_looked 53 = .ok (.bipush (-5), 2) := by decide +kernel
theorem dX8_looked_55 : decode cX8_looked 55 = .ok (.ireturn, 1) := by decide +kernel
theorem dX8_isTape_0 : decode cX8_isTape 0 = .ok (.iload_n 0, 1) := by decide +kernel
theorem dX8_isTape_1 : decode cX8_isTape 1 = .ok (.iconst 0, 1) := by decide +kernel
theorem dX8_isTape_2 : decode cX8_isTape 2 = .ok (.iconst 5, 1) := by decide +kernel
theorem dX8_isTape_3 : decode cX8_isTape 3 = .ok (.invokestatic 55, 3) := by decide +kernel
theorem dX8_isTape_6 : decode cX8_isTape 6 = .ok (.ireturn, 1) := by decide +kernel
theorem dX8_judge_0 : decode cX8_judge 0 = .ok (.iload_n 1, 1) := by decide +kernel
theorem dX8_judge_1 : decode cX8_judge 1 = .ok (.invokestatic 162, 3) := by decide +kernel
theorem dX8_judge_4 : decode cX8_judge 4 = .ok (.ifCond .eq 10, 3) := by decide +kernel
theorem dX8_judge_7 : decode cX8_judge 7 = .ok (.iload_n 2, 1) := by decide +kernel
theorem dX8_judge_8 : decode cX8_judge 8 = .ok (.invokestatic 285, 3) := by decide +kernel
theorem dX8_judge_11 : decode cX8_judge 11 = .ok (.ifCond .ne 5, 3) := by decide +kernel
theorem dX8_judge_14 : decode cX8_judge 14 = .ok (.iconst (-1), 1) := by decide +kernel
theorem dX8_judge_15 : decode cX8_judge 15 = .ok (.ireturn, 1) := by decide +kernel
theorem dX8_judge_16 : decode cX8_judge 16 = .ok (.aload_n 0, 1) := by decide +kernel
theorem dX8_judge_17 : decode cX8_judge 17 = .ok (.getfield 42, 3) := by decide +kernel
theorem dX8_judge_20 : decode cX8_judge 20 = .ok (.iload_n 2, 1) := by decide +kernel
theorem dX8_judge_21 : decode cX8_judge 21 = .ok (.iaload, 1) := by decide +kernel
theorem dX8_judge_22 : decode cX8_judge 22 = .ok (.ifCond .le 6, 3) := by decide +kernel
theorem dX8_judge_25 : decode cX8_judge 25 = .ok (.bipush (-12), 2) := by decide +kernel
theorem dX8_judge_27 : decode cX8_judge 27 = .ok (.ireturn, 1) := by decide +kernel
theorem dX8_judge_28 : decode cX8_judge 28 = .ok (.iconst 0, 1) := by decide +kernel
theorem dX8_judge_29 : decode cX8_judge 29 = .ok (.istore 4, 2) := by decide +kernel
theorem dX8_judge_31 : decode cX8_judge 31 = .ok (.iload 4, 2) := by decide +kernel
theorem dX8_judge_33 : decode cX8_judge 33 = .ok (.aload_n 0, 1) := by decide +kernel
theorem dX8_judge_34 : decode cX8_judge 34 = .ok (.iload_n 1, 1) := by decide +kernel
theorem dX8_judge_35 : decode cX8_judge 35 = .ok (.iconst 3, 1) := by decide +kernel
theorem dX8_judge_36 : decode cX8_judge 36 = .ok (.invokevirtual 59, 3) := by decide +kernel
theorem dX8_judge_39 : decode cX8_judge 39 = .ok (.if_icmp .ge 72, 3) := by decide +kernel
theorem dX8_judge_42 : decode cX8_judge 42 = .ok (.aload_n 0, 1) := by decide +kernel
theorem dX8_judge_43 : decode cX8_judge 43 = .ok (.getfield 42, 3) := by decide +kernel
theorem dX8_judge_46 : decode cX8_judge 46 = .ok (.iload_n 2, 1) := by decide +kernel
theorem dX8_judge_47 : decode cX8_judge 47 = .ok (.iaload, 1) := by decide +kernel
theorem dX8_judge_48 : decode cX8_judge 48 = .ok (.ifCond .lt 22, 3) := by decide +kernel
theorem dX8_judge_51 : decode cX8_judge 51 = .ok (.iload_n 3, 1) := by decide +kernel
theorem dX8_judge_52 : decode cX8_judge 52 = .ok (.iconst 0, 1) := by decide +kernel
theorem dX8_judge_53 : decode cX8_judge 53 = .ok (.aload_n 0, 1) := by decide +kernel
theorem dX8_judge_54 : decode cX8_judge 54 = .ok (.getfield 45, 3) := by decide +kernel
theorem dX8_judge_57 : decode cX8_judge 57 = .ok (.iload_n 2, 1) := by decide +kernel
theorem dX8_judge_58 : decode cX8_judge 58 = .ok (.iaload, 1) := by decide +kernel
theorem dX8_judge_59 : decode cX8_judge 59 = .ok (.iconst 1, 1) := by decide +kernel
theorem dX8_judge_60 : decode cX8_judge 60 = .ok (.isub, 1) := by decide +kernel
theorem dX8_judge_61 : decode cX8_judge 61 = .ok (.iload 4, 2) := by decide +kernel
theorem dX8_judge_63 : decode cX8_judge 63 = .ok (.isub, 1) := by decide +kernel
theorem dX8_judge_64 : decode cX8_judge 64 = .ok (.invokestatic 55, 3) := by decide +kernel
theorem dX8_judge_67 : decode cX8_judge 67 = .ok (.ifCond .ne 9, 3) := by decide +kernel
theorem dX8_judge_70 : decode cX8_judge 70 = .ok (.bipush 100, 2) := by decide +kernel
theorem dX8_judge_72 : decode cX8_judge 72 = .ok (.iload 4, 2) := by decide +kernel
theorem dX8_judge_74 : decode cX8_judge 74 = .ok (.iadd, 1) := by decide +kernel
theorem dX8_judge_75 : decode cX8_judge 75 = .ok (.ireturn, 1) := by decide +kernel
theorem dX8_judge_76 : decode cX8_judge 76 = .ok (.aload_n 0, 1) := by decide +kernel
theorem dX8_judge_77 : decode cX8_judge 77 = .ok (.getfield 48, 3) := by decide +kernel
theorem dX8_judge_80 : decode cX8_judge 80 = .ok (.bipush 60, 2) := by decide +kernel
theorem dX8_judge_82 : decode cX8_judge 82 = .ok (.iload_n 2, 1) := by decide +kernel
theorem dX8_judge_83 : decode cX8_judge 83 = .ok (.imul, 1) := by decide +kernel
theorem dX8_judge_84 : decode cX8_judge 84 = .ok (.iload_n 3, 1) := by decide +kernel
theorem dX8_judge_85 : decode cX8_judge 85 = .ok (.iadd, 1) := by decide +kernel
theorem dX8_judge_86 : decode cX8_judge 86 = .ok (.iload 4, 2) := by decide +kernel
theorem dX8_judge_88 : decode cX8_judge 88 = .ok (.iadd, 1) := by decide +kernel
theorem dX8_judge_89 : decode cX8_judge 89 = .ok (.laload, 1) := by decide +kernel
theorem dX8_judge_90 : decode cX8_judge 90 = .ok (.aload_n 0, 1) := by decide +kernel
theorem dX8_judge_91 : decode cX8_judge 91 = .ok (.iload_n 1, 1) := by decide +kernel
theorem dX8_judge_92 : decode cX8_judge 92 = .ok (.iload 4, 2) := by decide +kernel
theorem dX8_judge_94 : decode cX8_judge 94 = .ok (.invokevirtual 63, 3) := by decide +kernel
theorem dX8_judge_97 : decode cX8_judge 97 = .ok (.i2l, 1) := by decide +kernel
theorem dX8_judge_98 : decode cX8_judge 98 = .ok (.lcmp, 1) := by decide +kernel
theorem dX8_judge_99 : decode cX8_judge 99 = .ok (.ifCond .eq 6, 3) := by decide +kernel
theorem dX8_judge_102 : decode cX8_judge 102 = .ok (.iload 4, 2) := by decide +kernel
theorem dX8_judge_104 : decode cX8_judge 104 = .ok (.ireturn, 1) := by decide +kernel
theorem dX8_judge_105 : decode cX8_judge 105 = .ok (.iinc 4 1, 3) := by decide +kernel
theorem dX8_judge_108 : decode cX8_judge 108 = .ok (.goto (-77), 3) := by decide +kernel
theorem dX8_judge_111 : decode cX8_judge 111 = .ok (.bipush (-5), 2) := by decide +kernel
theorem dX8_judge_113 : decode cX8_judge 113 = .ok (.ireturn, 1) := by decide +kernel
theorem dX8_taken_0 : decode cX8_taken 0 = .ok (.iload_n 1, 1) := by decide +kernel
theorem dX8_taken_1 : decode cX8_taken 1 = .ok (.iconst 0, 1) := by decide +kernel
theorem dX8_taken_2 : decode cX8_taken 2 = .ok (.iconst 4, 1) := by decide +kernel
theorem dX8_taken_3 : decode cX8_taken 3 = .ok (.invokestatic 55, 3) := by decide +kernel
theorem dX8_taken_6 : decode cX8_taken 6 = .ok (.ifCond .ne 6, 3) := by decide +kernel
theorem dX8_taken_9 : decode cX8_taken 9 = .ok (.bipush (-2), 2) := by decide +kernel
theorem dX8_taken_11 : decode cX8_taken 11 = .ok (.ireturn, 1) := by decide +kernel
theorem dX8_taken_12 : decode cX8_taken 12 = .ok (.aload_n 0, 1) := by decide +kernel
theorem dX8_taken_13 : decode cX8_taken 13 = .ok (.getfield 248, 3) := by decide +kernel
theorem dX8_taken_16 : decode cX8_taken 16 = .ok (.ifCond .ne 6, 3) := by decide +kernel
theorem dX8_taken_19 : decode cX8_taken 19 = .ok (.bipush (-11), 2) := by decide +kernel
theorem dX8_taken_21 : decode cX8_taken 21 = .ok (.ireturn, 1) := by decide +kernel
theorem dX8_taken_22 : decode cX8_taken 22 = .ok (.iload_n 1, 1) := by decide +kernel
theorem dX8_taken_23 : decode cX8_taken 23 = .ok (.ifCond .eq 24, 3) := by decide +kernel
theorem dX8_taken_26 : decode cX8_taken 26 = .ok (.iload_n 1, 1) := by decide +kernel
theorem dX8_taken_27 : decode cX8_taken 27 = .ok (.aload_n 0, 1) := by decide +kernel
theorem dX8_taken_28 : decode cX8_taken 28 = .ok (.getfield 248, 3) := by decide +kernel
theorem dX8_taken_31 : decode cX8_taken 31 = .ok (.if_icmp .eq 16, 3) := by decide +kernel
theorem dX8_taken_34 : decode cX8_taken 34 = .ok (.iload_n 1, 1) := by decide +kernel
theorem dX8_taken_35 : decode cX8_taken 35 = .ok (.iconst 4, 1) := by decide +kernel
theorem dX8_taken_36 : decode cX8_taken 36 = .ok (.if_icmp .ne 18, 3) := by decide +kernel
theorem dX8_taken_39 : decode cX8_taken 39 = .ok (.aload_n 0, 1) := by decide +kernel
theorem dX8_taken_40 : decode cX8_taken 40 = .ok (.getfield 248, 3) := by decide +kernel
theorem dX8_taken_43 : decode cX8_taken 43 = .ok (.iconst 1, 1) := by decide +kernel
theorem dX8_taken_44 : decode cX8_taken 44 = .ok (.if_icmp .le 10, 3) := by decide +kernel
theorem dX8_taken_47 : decode cX8_taken 47 = .ok (.aload_n 0, 1) := by decide +kernel
theorem dX8_taken_48 : decode cX8_taken 48 = .ok (.getfield 248, 3) := by decide +kernel
theorem dX8_taken_51 : decode cX8_taken 51 = .ok (.goto 5, 3) := by decide +kernel
theorem dX8_taken_54 : decode cX8_taken 54 = .ok (.bipush (-12), 2) := by decide +kernel
theorem dX8_taken_56 : decode cX8_taken 56 = .ok (.ireturn, 1) := by decide +kernel
theorem dX8_image_0 : decode cX8_image 0 = .ok (.aload_n 0, 1) := by decide +kernel
theorem dX8_image_1 : decode cX8_image 1 = .ok (.getfield 11, 3) := by decide +kernel
theorem dX8_image_4 : decode cX8_image 4 = .ok (.aload_n 0, 1) := by decide +kernel
theorem dX8_image_5 : decode cX8_image 5 = .ok (.getfield 15, 3) := by decide +kernel
theorem dX8_image_8 : decode cX8_image 8 = .ok (.invokestatic 269, 3) := by decide +kernel
theorem dX8_image_11 : decode cX8_image 11 = .ok (.aload_n 0, 1) := by decide +kernel
theorem dX8_image_12 : decode cX8_image 12 = .ok (.iconst 1, 1) := by decide +kernel
theorem dX8_image_13 : decode cX8_image 13 = .ok (.putfield 288, 3) := by decide +kernel
theorem dX8_image_16 : decode cX8_image 16 = .ok (.aload_n 0, 1) := by decide +kernel
theorem dX8_image_17 : decode cX8_image 17 = .ok (.getfield 11, 3) := by decide +kernel
theorem dX8_image_20 : decode cX8_image 20 = .ok (.iconst 4, 1) := by decide +kernel
theorem dX8_image_21 : decode cX8_image 21 = .ok (.iaload, 1) := by decide +kernel
theorem dX8_image_22 : decode cX8_image 22 = .ok (.ireturn, 1) := by decide +kernel
theorem dX8_undo_0 : decode cX8_undo 0 = .ok (.aload_n 0, 1) := by decide +kernel
theorem dX8_undo_1 : decode cX8_undo 1 = .ok (.getfield 288, 3) := by decide +kernel
theorem dX8_undo_4 : decode cX8_undo 4 = .ok (.ifCond .ne 6, 3) := by decide +kernel
theorem dX8_undo_7 : decode cX8_undo 7 = .ok (.bipush (-3), 2) := by decide +kernel
theorem dX8_undo_9 : decode cX8_undo 9 = .ok (.ireturn, 1) := by decide +kernel
theorem dX8_undo_10 : decode cX8_undo 10 = .ok (.aload_n 0, 1) := by decide +kernel
theorem dX8_undo_11 : decode cX8_undo 11 = .ok (.getfield 15, 3) := by decide +kernel
theorem dX8_undo_14 : decode cX8_undo 14 = .ok (.aload_n 0, 1) := by decide +kernel
theorem dX8_undo_15 : decode cX8_undo 15 = .ok (.getfield 11, 3) := by decide +kernel
theorem dX8_undo_18 : decode cX8_undo 18 = .ok (.invokestatic 269, 3) := by decide +kernel
theorem dX8_undo_21 : decode cX8_undo 21 = .ok (.aload_n 0, 1) := by decide +kernel
theorem dX8_undo_22 : decode cX8_undo 22 = .ok (.getfield 11, 3) := by decide +kernel
theorem dX8_undo_25 : decode cX8_undo 25 = .ok (.iconst 4, 1) := by decide +kernel
theorem dX8_undo_26 : decode cX8_undo 26 = .ok (.iaload, 1) := by decide +kernel
theorem dX8_undo_27 : decode cX8_undo 27 = .ok (.ireturn, 1) := by decide +kernel
theorem dX8_count_0 : decode cX8_count 0 = .ok (.iload_n 1, 1) := by decide +kernel
theorem dX8_count_1 : decode cX8_count 1 = .ok (.tableswitch 79 0 5 #[39, 46, 53, 61, 69, 74], 39) := by decide +kernel
theorem dX8_count_40 : decode cX8_count 40 = .ok (.aload_n 0, 1) := by decide +kernel
theorem dX8_count_41 : decode cX8_count 41 = .ok (.getfield 11, 3) := by decide +kernel
theorem dX8_count_44 : decode cX8_count 44 = .ok (.iconst 4, 1) := by decide +kernel
theorem dX8_count_45 : decode cX8_count 45 = .ok (.iaload, 1) := by decide +kernel
theorem dX8_count_46 : decode cX8_count 46 = .ok (.ireturn, 1) := by decide +kernel
theorem dX8_count_47 : decode cX8_count 47 = .ok (.aload_n 0, 1) := by decide +kernel
theorem dX8_count_48 : decode cX8_count 48 = .ok (.getfield 11, 3) := by decide +kernel
theorem dX8_count_51 : decode cX8_count 51 = .ok (.iconst 5, 1) := by decide +kernel
theorem dX8_count_52 : decode cX8_count 52 = .ok (.iaload, 1) := by decide +kernel
theorem dX8_count_53 : decode cX8_count 53 = .ok (.ireturn, 1) := by decide +kernel
theorem dX8_count_54 : decode cX8_count 54 = .ok (.aload_n 0, 1) := by decide +kernel
theorem dX8_count_55 : decode cX8_count 55 = .ok (.getfield 11, 3) := by decide +kernel
theorem dX8_count_58 : decode cX8_count 58 = .ok (.bipush 6, 2) := by decide +kernel
theorem dX8_count_60 : decode cX8_count 60 = .ok (.iaload, 1) := by decide +kernel
theorem dX8_count_61 : decode cX8_count 61 = .ok (.ireturn, 1) := by decide +kernel
theorem dX8_count_62 : decode cX8_count 62 = .ok (.aload_n 0, 1) := by decide +kernel
theorem dX8_count_63 : decode cX8_count 63 = .ok (.getfield 11, 3) := by decide +kernel
theorem dX8_count_66 : decode cX8_count 66 = .ok (.bipush 7, 2) := by decide +kernel
theorem dX8_count_68 : decode cX8_count 68 = .ok (.iaload, 1) := by decide +kernel
theorem dX8_count_69 : decode cX8_count 69 = .ok (.ireturn, 1) := by decide +kernel
theorem dX8_count_70 : decode cX8_count 70 = .ok (.aload_n 0, 1) := by decide +kernel
theorem dX8_count_71 : decode cX8_count 71 = .ok (.getfield 121, 3) := by decide +kernel
theorem dX8_count_74 : decode cX8_count 74 = .ok (.ireturn, 1) := by decide +kernel
theorem dX8_count_75 : decode cX8_count 75 = .ok (.aload_n 0, 1) := by decide +kernel
theorem dX8_count_76 : decode cX8_count 76 = .ok (.getfield 205, 3) := by decide +kernel
theorem dX8_count_79 : decode cX8_count 79 = .ok (.ireturn, 1) := by decide +kernel
theorem dX8_count_80 : decode cX8_count 80 = .ok (.bipush (-2), 2) := by decide +kernel
theorem dX8_count_82 : decode cX8_count 82 = .ok (.ireturn, 1) := by decide +kernel
theorem dX8_tape_0 : decode cX8_tape 0 = .ok (.iload_n 1, 1) := by decide +kernel
theorem dX8_tape_1 : decode cX8_tape 1 = .ok (.invokestatic 285, 3) := by decide +kernel
theorem dX8_tape_4 : decode cX8_tape 4 = .ok (.ifCond .ne 5, 3) := by decide +kernel
theorem dX8_tape_7 : decode cX8_tape 7 = .ok (.iconst (-1), 1) := by decide +kernel
theorem dX8_tape_8 : decode cX8_tape 8 = .ok (.ireturn, 1) := by decide +kernel
theorem dX8_tape_9 : decode cX8_tape 9 = .ok (.iload_n 2, 1) := by decide +kernel
theorem dX8_tape_10 : decode cX8_tape 10 = .ok (.iconst (-1), 1) := by decide +kernel
theorem dX8_tape_11 : decode cX8_tape 11 = .ok (.iconst 4, 1) := by decide +kernel
theorem dX8_tape_12 : decode cX8_tape 12 = .ok (.invokestatic 55, 3) := by decide +kernel
theorem dX8_tape_15 : decode cX8_tape 15 = .ok (.ifCond .eq 13, 3) := by decide +kernel
theorem dX8_tape_18 : decode cX8_tape 18 = .ok (.iload_n 2, 1) := by decide +kernel
theorem dX8_tape_19 : decode cX8_tape 19 = .ok (.ifCond .lt 12, 3) := by decide +kernel
theorem dX8_tape_22 : decode cX8_tape 22 = .ok (.iload_n 3, 1) := by decide +kernel
theorem dX8_tape_23 : decode cX8_tape 23 = .ok (.bipush 60, 2) := by decide +kernel
theorem dX8_tape_25 : decode cX8_tape 25 = .ok (.if_icmp .le 6, 3) := by decide +kernel
theorem dX8_tape_28 : decode cX8_tape 28 = .ok (.bipush (-2), 2) := by decide +kernel
theorem dX8_tape_30 : decode cX8_tape 30 = .ok (.ireturn, 1) := by decide +kernel
theorem dX8_tape_31 : decode cX8_tape 31 = .ok (.iload_n 2, 1) := by decide +kernel
theorem dX8_tape_32 : decode cX8_tape 32 = .ok (.ifCond .lt 10, 3) := by decide +kernel
theorem dX8_tape_35 : decode cX8_tape 35 = .ok (.iload_n 3, 1) := by decide +kernel
theorem dX8_tape_36 : decode cX8_tape 36 = .ok (.ifCond .ge 6, 3) := by decide +kernel
theorem dX8_tape_39 : decode cX8_tape 39 = .ok (.bipush (-14), 2) := by decide +kernel
theorem dX8_tape_41 : decode cX8_tape 41 = .ok (.ireturn, 1) := by decide +kernel
theorem dX8_tape_42 : decode cX8_tape 42 = .ok (.aload_n 0, 1) := by decide +kernel
theorem dX8_tape_43 : decode cX8_tape 43 = .ok (.getfield 42, 3) := by decide +kernel
theorem dX8_tape_46 : decode cX8_tape 46 = .ok (.iload_n 1, 1) := by decide +kernel
theorem dX8_tape_47 : decode cX8_tape 47 = .ok (.iload_n 2, 1) := by decide +kernel
theorem dX8_tape_48 : decode cX8_tape 48 = .ok (.iastore, 1) := by decide +kernel
theorem dX8_tape_49 : decode cX8_tape 49 = .ok (.aload_n 0, 1) := by decide +kernel
theorem dX8_tape_50 : decode cX8_tape 50 = .ok (.getfield 45, 3) := by decide +kernel
theorem dX8_tape_53 : decode cX8_tape 53 = .ok (.iload_n 1, 1) := by decide +kernel
theorem dX8_tape_54 : decode cX8_tape 54 = .ok (.iload_n 2, 1) := by decide +kernel
theorem dX8_tape_55 : decode cX8_tape 55 = .ok (.ifCond .ge 7, 3) := by decide +kernel
theorem dX8_tape_58 : decode cX8_tape 58 = .ok (.iconst 0, 1) := by decide +kernel
theorem dX8_tape_59 : decode cX8_tape 59 = .ok (.goto 4, 3) := by decide +kernel
theorem dX8_tape_62 : decode cX8_tape 62 = .ok (.iload_n 3, 1) := by decide +kernel
theorem dX8_tape_63 : decode cX8_tape 63 = .ok (.iastore, 1) := by decide +kernel
theorem dX8_tape_64 : decode cX8_tape 64 = .ok (.iconst 0, 1) := by decide +kernel
theorem dX8_tape_65 : decode cX8_tape 65 = .ok (.istore 4, 2) := by decide +kernel
theorem dX8_tape_67 : decode cX8_tape 67 = .ok (.iload 4, 2) := by decide +kernel
theorem dX8_tape_69 : decode cX8_tape 69 = .ok (.aload_n 0, 1) := by decide +kernel
theorem dX8_tape_70 : decode cX8_tape 70 = .ok (.getfield 45, 3) := by decide +kernel
theorem dX8_tape_73 : decode cX8_tape 73 = .ok (.iload_n 1, 1) := by decide +kernel
theorem dX8_tape_74 : decode cX8_tape 74 = .ok (.iaload, 1) := by decide +kernel
theorem dX8_tape_75 : decode cX8_tape 75 = .ok (.if_icmp .ge 22, 3) := by decide +kernel
theorem dX8_tape_78 : decode cX8_tape 78 = .ok (.aload_n 0, 1) := by decide +kernel
theorem dX8_tape_79 : decode cX8_tape 79 = .ok (.getfield 48, 3) := by decide +kernel
theorem dX8_tape_82 : decode cX8_tape 82 = .ok (.bipush 60, 2) := by decide +kernel
theorem dX8_tape_84 : decode cX8_tape 84 = .ok (.iload_n 1, 1) := by decide +kernel
theorem dX8_tape_85 : decode cX8_tape 85 = .ok (.imul, 1) := by decide +kernel
theorem dX8_tape_86 : decode cX8_tape 86 = .ok (.iload 4, 2) := by decide +kernel
theorem dX8_tape_88 : decode cX8_tape 88 = .ok (.iadd, 1) := by decide +kernel
theorem dX8_tape_89 : decode cX8_tape 89 = .ok (.lconst 0, 1) := by decide +kernel
theorem dX8_tape_90 : decode cX8_tape 90 = .ok (.lastore, 1) := by decide +kernel
theorem dX8_tape_91 : decode cX8_tape 91 = .ok (.iinc 4 1, 3) := by decide +kernel
theorem dX8_tape_94 : decode cX8_tape 94 = .ok (.goto (-27), 3) := by decide +kernel
theorem dX8_tape_97 : decode cX8_tape 97 = .ok (.iconst 1, 1) := by decide +kernel
theorem dX8_tape_98 : decode cX8_tape 98 = .ok (.ireturn, 1) := by decide +kernel
theorem dX8_item_0 : decode cX8_item 0 = .ok (.iload_n 1, 1) := by decide +kernel
theorem dX8_item_1 : decode cX8_item 1 = .ok (.invokestatic 285, 3) := by decide +kernel
theorem dX8_item_4 : decode cX8_item 4 = .ok (.ifCond .ne 5, 3) := by decide +kernel
theorem dX8_item_7 : decode cX8_item 7 = .ok (.iconst (-1), 1) := by decide +kernel
theorem dX8_item_8 : decode cX8_item 8 = .ok (.ireturn, 1) := by decide +kernel
theorem dX8_item_9 : decode cX8_item 9 = .ok (.aload_n 0, 1) := by decide +kernel
theorem dX8_item_10 : decode cX8_item 10 = .ok (.getfield 42, 3) := by decide +kernel
theorem dX8_item_13 : decode cX8_item 13 = .ok (.iload_n 1, 1) := by decide +kernel
theorem dX8_item_14 : decode cX8_item 14 = .ok (.iaload, 1) := by decide +kernel
theorem dX8_item_15 : decode cX8_item 15 = .ok (.ifCond .ge 6, 3) := by decide +kernel
theorem dX8_item_18 : decode cX8_item 18 = .ok (.bipush (-11), 2) := by decide +kernel
theorem dX8_item_20 : decode cX8_item 20 = .ok (.ireturn, 1) := by decide +kernel
theorem dX8_item_21 : decode cX8_item 21 = .ok (.iload_n 2, 1) := by decide +kernel
theorem dX8_item_22 : decode cX8_item 22 = .ok (.iconst 0, 1) := by decide +kernel
theorem dX8_item_23 : decode cX8_item 23 = .ok (.aload_n 0, 1) := by decide +kernel
theorem dX8_item_24 : decode cX8_item 24 = .ok (.getfield 45, 3) := by decide +kernel
theorem dX8_item_27 : decode cX8_item 27 = .ok (.iload_n 1, 1) := by decide +kernel
theorem dX8_item_28 : decode cX8_item 28 = .ok (.iaload, 1) := by decide +kernel
theorem dX8_item_29 : decode cX8_item 29 = .ok (.iconst 1, 1) := by decide +kernel
theorem dX8_item_30 : decode cX8_item 30 = .ok (.isub, 1) := by decide +kernel
theorem dX8_item_31 : decode cX8_item 31 = .ok (.invokestatic 55, 3) := by decide +kernel
theorem dX8_item_34 : decode cX8_item 34 = .ok (.ifCond .ne 6, 3) := by decide +kernel
theorem dX8_item_37 : decode cX8_item 37 = .ok (.bipush (-13), 2) := by decide +kernel
theorem dX8_item_39 : decode cX8_item 39 = .ok (.ireturn, 1) := by decide +kernel
theorem dX8_item_40 : decode cX8_item 40 = .ok (.aload_n 0, 1) := by decide +kernel
theorem dX8_item_41 : decode cX8_item 41 = .ok (.getfield 48, 3) := by decide +kernel
theorem dX8_item_44 : decode cX8_item 44 = .ok (.bipush 60, 2) := by decide +kernel
theorem dX8_item_46 : decode cX8_item 46 = .ok (.iload_n 1, 1) := by decide +kernel
theorem dX8_item_47 : decode cX8_item 47 = .ok (.imul, 1) := by decide +kernel
theorem dX8_item_48 : decode cX8_item 48 = .ok (.iload_n 2, 1) := by decide +kernel
theorem dX8_item_49 : decode cX8_item 49 = .ok (.iadd, 1) := by decide +kernel
theorem dX8_item_50 : decode cX8_item 50 = .ok (.aload_n 0, 1) := by decide +kernel
theorem dX8_item_51 : decode cX8_item 51 = .ok (.getfield 42, 3) := by decide +kernel
theorem dX8_item_54 : decode cX8_item 54 = .ok (.iload_n 1, 1) := by decide +kernel
theorem dX8_item_55 : decode cX8_item 55 = .ok (.iaload, 1) := by decide +kernel
theorem dX8_item_56 : decode cX8_item 56 = .ok (.ifCond .ne 10, 3) := by decide +kernel
theorem dX8_item_59 : decode cX8_item 59 = .ok (.lload_n 3, 1) := by decide +kernel
theorem dX8_item_60 : decode cX8_item 60 = .ok (.l2i, 1) := by decide +kernel
theorem dX8_item_61 : decode cX8_item 61 = .ok (.i2b, 1) := by decide +kernel
theorem dX8_item_62 : decode cX8_item 62 = .ok (.i2l, 1) := by decide +kernel
theorem dX8_item_63 : decode cX8_item 63 = .ok (.goto 61, 3) := by decide +kernel
theorem dX8_item_66 : decode cX8_item 66 = .ok (.aload_n 0, 1) := by decide +kernel
theorem dX8_item_67 : decode cX8_item 67 = .ok (.getfield 42, 3) := by decide +kernel
theorem dX8_item_70 : decode cX8_item 70 = .ok (.iload_n 1, 1) := by decide +kernel
theorem dX8_item_71 : decode cX8_item 71 = .ok (.iaload, 1) := by decide +kernel
theorem dX8_item_72 : decode cX8_item 72 = .ok (.iconst 1, 1) := by decide +kernel
theorem dX8_item_73 : decode cX8_item 73 = .ok (.if_icmp .ne 10, 3) := by decide +kernel
theorem dX8_item_76 : decode cX8_item 76 = .ok (.lload_n 3, 1) := by decide +kernel
theorem dX8_item_77 : decode cX8_item 77 = .ok (.l2i, 1) := by decide +kernel
theorem dX8_item_78 : decode cX8_item 78 = .ok (.i2s, 1) := by decide +kernel
theorem dX8_item_79 : decode cX8_item 79 = .ok (.i2l, 1) := by decide +kernel
theorem dX8_item_80 : decode cX8_item 80 = .ok (.goto 44, 3) := by decide +kernel
theorem dX8_item_83 : decode cX8_item 83 = .ok (.aload_n 0, 1) := by decide +kernel
theorem dX8_item_84 : decode cX8_item 84 = .ok (.getfield 42, 3) := by decide +kernel
theorem dX8_item_87 : decode cX8_item 87 = .ok (.iload_n 1, 1) := by decide +kernel
theorem dX8_item_88 : decode cX8_item 88 = .ok (.iaload, 1) := by decide +kernel
theorem dX8_item_89 : decode cX8_item 89 = .ok (.iconst 2, 1) := by decide +kernel
theorem dX8_item_90 : decode cX8_item 90 = .ok (.if_icmp .ne 9, 3) := by decide +kernel
theorem dX8_item_93 : decode cX8_item 93 = .ok (.lload_n 3, 1) := by decide +kernel
theorem dX8_item_94 : decode cX8_item 94 = .ok (.l2i, 1) := by decide +kernel
theorem dX8_item_95 : decode cX8_item 95 = .ok (.i2l, 1) := by decide +kernel
theorem dX8_item_96 : decode cX8_item 96 = .ok (.goto 28, 3) := by decide +kernel
theorem dX8_item_99 : decode cX8_item 99 = .ok (.aload_n 0, 1) := by decide +kernel
theorem dX8_item_100 : decode cX8_item 100 = .ok (.getfield 42, 3) := by decide +kernel
theorem dX8_item_103 : decode cX8_item 103 = .ok (.iload_n 1, 1) := by decide +kernel
theorem dX8_item_104 : decode cX8_item 104 = .ok (.iaload, 1) := by decide +kernel
theorem dX8_item_105 : decode cX8_item 105 = .ok (.iconst 3, 1) := by decide +kernel
theorem dX8_item_106 : decode cX8_item 106 = .ok (.if_icmp .ne 7, 3) := by decide +kernel
theorem dX8_item_109 : decode cX8_item 109 = .ok (.lload_n 3, 1) := by decide +kernel
theorem dX8_item_110 : decode cX8_item 110 = .ok (.goto 14, 3) := by decide +kernel
theorem dX8_item_113 : decode cX8_item 113 = .ok (.lload_n 3, 1) := by decide +kernel
theorem dX8_item_114 : decode cX8_item 114 = .ok (.lconst 0, 1) := by decide +kernel
theorem dX8_item_115 : decode cX8_item 115 = .ok (.lcmp, 1) := by decide +kernel
theorem dX8_item_116 : decode cX8_item 116 = .ok (.ifCond .eq 7, 3) := by decide +kernel
theorem dX8_item_119 : decode cX8_item 119 = .ok (.lconst 1, 1) := by decide +kernel
theorem dX8_item_120 : decode cX8_item 120 = .ok (.goto 4, 3) := by decide +kernel
theorem dX8_item_123 : decode cX8_item 123 = .ok (.lconst 0, 1) := by decide +kernel
theorem dX8_item_124 : decode cX8_item 124 = .ok (.lastore, 1) := by decide +kernel
theorem dX8_item_125 : decode cX8_item 125 = .ok (.iconst 1, 1) := by decide +kernel
theorem dX8_item_126 : decode cX8_item 126 = .ok (.ireturn, 1) := by decide +kernel
theorem dX8_peek_0 : decode cX8_peek 0 = .ok (.iload_n 1, 1) := by decide +kernel
theorem dX8_peek_1 : decode cX8_peek 1 = .ok (.invokestatic 285, 3) := by decide +kernel
theorem dX8_peek_4 : decode cX8_peek 4 = .ok (.ifCond .eq 42, 3) := by decide +kernel
theorem dX8_peek_7 : decode cX8_peek 7 = .ok (.aload_n 0, 1) := by decide +kernel
theorem dX8_peek_8 : decode cX8_peek 8 = .ok (.getfield 42, 3) := by decide +kernel
theorem dX8_peek_11 : decode cX8_peek 11 = .ok (.iload_n 1, 1) := by decide +kernel
theorem dX8_peek_12 : decode cX8_peek 12 = .ok (.iaload, 1) := by decide +kernel
theorem dX8_peek_13 : decode cX8_peek 13 = .ok (.ifCond .lt 33, 3) := by decide +kernel
theorem dX8_peek_16 : decode cX8_peek 16 = .ok (.iload_n 2, 1) := by decide +kernel
theorem dX8_peek_17 : decode cX8_peek 17 = .ok (.iconst 0, 1) := by decide +kernel
theorem dX8_peek_18 : decode cX8_peek 18 = .ok (.aload_n 0, 1) := by decide +kernel
theorem dX8_peek_19 : decode cX8_peek 19 = .ok (.getfield 45, 3) := by decide +kernel
theorem dX8_peek_22 : decode cX8_peek 22 = .ok (.iload_n 1, 1) := by decide +kernel
theorem dX8_peek_23 : decode cX8_peek 23 = .ok (.iaload, 1) := by decide +kernel
theorem dX8_peek_24 : decode cX8_peek 24 = .ok (.iconst 1, 1) := by decide +kernel
theorem dX8_peek_25 : decode cX8_peek 25 = .ok (.isub, 1) := by decide +kernel
theorem dX8_peek_26 : decode cX8_peek 26 = .ok (.invokestatic 55, 3) := by decide +kernel
theorem dX8_peek_29 : decode cX8_peek 29 = .ok (.ifCond .eq 17, 3) := by decide +kernel
theorem dX8_peek_32 : decode cX8_peek 32 = .ok (.aload_n 0, 1) := by decide +kernel
theorem dX8_peek_33 : decode cX8_peek 33 = .ok (.getfield 48, 3) := by decide +kernel
theorem dX8_peek_36 : decode cX8_peek 36 = .ok (.bipush 60, 2) := by decide +kernel
theorem dX8_peek_38 : decode cX8_peek 38 = .ok (.iload_n 1, 1) := by decide +kernel
theorem dX8_peek_39 : decode cX8_peek 39 = .ok (.imul, 1) := by decide +kernel
theorem dX8_peek_40 : decode cX8_peek 40 = .ok (.iload_n 2, 1) := by decide +kernel
theorem dX8_peek_41 : decode cX8_peek 41 = .ok (.iadd, 1) := by decide +kernel
theorem dX8_peek_42 : decode cX8_peek 42 = .ok (.laload, 1) := by decide +kernel
theorem dX8_peek_43 : decode cX8_peek 43 = .ok (.goto 6, 3) := by decide +kernel
theorem dX8_peek_46 : decode cX8_peek 46 = .ok (.ldc2_w 260, 3) := by decide +kernel
theorem dX8_peek_49 : decode cX8_peek 49 = .ok (.lreturn, 1) := by decide +kernel
theorem dX8_slide_0 : decode cX8_slide 0 = .ok (.iload_n 1, 1) := by decide +kernel
theorem dX8_slide_1 : decode cX8_slide 1 = .ok (.invokestatic 285, 3) := by decide +kernel
theorem dX8_slide_4 : decode cX8_slide 4 = .ok (.ifCond .eq 10, 3) := by decide +kernel
theorem dX8_slide_7 : decode cX8_slide 7 = .ok (.iload_n 3, 1) := by decide +kernel
theorem dX8_slide_8 : decode cX8_slide 8 = .ok (.invokestatic 285, 3) := by decide +kernel
theorem dX8_slide_11 : decode cX8_slide 11 = .ok (.ifCond .ne 5, 3) := by decide +kernel
theorem dX8_slide_14 : decode cX8_slide 14 = .ok (.iconst (-1), 1) := by decide +kernel
theorem dX8_slide_15 : decode cX8_slide 15 = .ok (.ireturn, 1) := by decide +kernel
theorem dX8_slide_16 : decode cX8_slide 16 = .ok (.aload_n 0, 1) := by decide +kernel
theorem dX8_slide_17 : decode cX8_slide 17 = .ok (.getfield 42, 3) := by decide +kernel
theorem dX8_slide_20 : decode cX8_slide 20 = .ok (.iload_n 1, 1) := by decide +kernel
theorem dX8_slide_21 : decode cX8_slide 21 = .ok (.iaload, 1) := by decide +kernel
theorem dX8_slide_22 : decode cX8_slide 22 = .ok (.ifCond .lt 12, 3) := by decide +kernel
theorem dX8_slide_25 : decode cX8_slide 25 = .ok (.aload_n 0, 1) := by decide +kernel
theorem dX8_slide_26 : decode cX8_slide 26 = .ok (.getfield 42, 3) := by decide +kernel
theorem dX8_slide_29 : decode cX8_slide 29 = .ok (.iload_n 3, 1) := by decide +kernel
theorem dX8_slide_30 : decode cX8_slide 30 = .ok (.iaload, 1) := by decide +kernel
theorem dX8_slide_31 : decode cX8_slide 31 = .ok (.ifCond .ge 6, 3) := by decide +kernel
theorem dX8_slide_34 : decode cX8_slide 34 = .ok (.bipush (-11), 2) := by decide +kernel
theorem dX8_slide_36 : decode cX8_slide 36 = .ok (.ireturn, 1) := by decide +kernel
theorem dX8_slide_37 : decode cX8_slide 37 = .ok (.aload_n 0, 1) := by decide +kernel
theorem dX8_slide_38 : decode cX8_slide 38 = .ok (.getfield 42, 3) := by decide +kernel
theorem dX8_slide_41 : decode cX8_slide 41 = .ok (.iload_n 1, 1) := by decide +kernel
theorem dX8_slide_42 : decode cX8_slide 42 = .ok (.iaload, 1) := by decide +kernel
theorem dX8_slide_43 : decode cX8_slide 43 = .ok (.aload_n 0, 1) := by decide +kernel
theorem dX8_slide_44 : decode cX8_slide 44 = .ok (.getfield 42, 3) := by decide +kernel
theorem dX8_slide_47 : decode cX8_slide 47 = .ok (.iload_n 3, 1) := by decide +kernel
theorem dX8_slide_48 : decode cX8_slide 48 = .ok (.iaload, 1) := by decide +kernel
theorem dX8_slide_49 : decode cX8_slide 49 = .ok (.if_icmp .eq 6, 3) := by decide +kernel
theorem dX8_slide_52 : decode cX8_slide 52 = .ok (.bipush (-12), 2) := by decide +kernel
theorem dX8_slide_54 : decode cX8_slide 54 = .ok (.ireturn, 1) := by decide +kernel
theorem dX8_slide_55 : decode cX8_slide 55 = .ok (.iload 5, 2) := by decide +kernel
theorem dX8_slide_57 : decode cX8_slide 57 = .ok (.ifCond .lt 39, 3) := by decide +kernel
theorem dX8_slide_60 : decode cX8_slide 60 = .ok (.iload_n 2, 1) := by decide +kernel
theorem dX8_slide_61 : decode cX8_slide 61 = .ok (.ifCond .lt 35, 3) := by decide +kernel
theorem dX8_slide_64 : decode cX8_slide 64 = .ok (.iload 4, 2) := by decide +kernel
theorem dX8_slide_66 : decode cX8_slide 66 = .ok (.ifCond .lt 30, 3) := by decide +kernel
theorem dX8_slide_69 : decode cX8_slide 69 = .ok (.iload 5, 2) := by decide +kernel
theorem dX8_slide_71 : decode cX8_slide 71 = .ok (.aload_n 0, 1) := by decide +kernel
theorem dX8_slide_72 : decode cX8_slide 72 = .ok (.getfield 45, 3) := by decide +kernel
theorem dX8_slide_75 : decode cX8_slide 75 = .ok (.iload_n 1, 1) := by decide +kernel
theorem dX8_slide_76 : decode cX8_slide 76 = .ok (.iaload, 1) := by decide +kernel
theorem dX8_slide_77 : decode cX8_slide 77 = .ok (.iload_n 2, 1) := by decide +kernel
theorem dX8_slide_78 : decode cX8_slide 78 = .ok (.isub, 1) := by decide +kernel
theorem dX8_slide_79 : decode cX8_slide 79 = .ok (.if_icmp .gt 17, 3) := by decide +kernel
theorem dX8_slide_82 : decode cX8_slide 82 = .ok (.iload 5, 2) := by decide +kernel
theorem dX8_slide_84 : decode cX8_slide 84 = .ok (.aload_n 0, 1) := by decide +kernel
theorem dX8_slide_85 : decode cX8_slide 85 = .ok (.getfield 45, 3) := by decide +kernel
theorem dX8_slide_88 : decode cX8_slide 88 = .ok (.iload_n 3, 1) := by decide +kernel
theorem dX8_slide_89 : decode cX8_slide 89 = .ok (.iaload, 1) := by decide +kernel
theorem dX8_slide_90 : decode cX8_slide 90 = .ok (.iload 4, 2) := by decide +kernel
theorem dX8_slide_92 : decode cX8_slide 92 = .ok (.isub, 1) := by decide +kernel
theorem dX8_slide_93 : decode cX8_slide 93 = .ok (.if_icmp .le 6, 3) := by decide +kernel
theorem dX8_slide_96 : decode cX8_slide 96 = .ok (.bipush (-13), 2) := by decide +kernel
theorem dX8_slide_98 : decode cX8_slide 98 = .ok (.ireturn, 1) := by decide +kernel
theorem dX8_slide_99 : decode cX8_slide 99 = .ok (.iconst 0, 1) := by decide +kernel
theorem dX8_slide_100 : decode cX8_slide 100 = .ok (.istore 6, 2) := by decide +kernel
theorem dX8_slide_102 : decode cX8_slide 102 = .ok (.iload 6, 2) := by decide +kernel
theorem dX8_slide_104 : decode cX8_slide 104 = .ok (.iload 5, 2) := by decide +kernel
theorem dX8_slide_106 : decode cX8_slide 106 = .ok (.if_icmp .ge 30, 3) := by decide +kernel
theorem dX8_slide_109 : decode cX8_slide 109 = .ok (.aload_n 0, 1) := by decide +kernel
theorem dX8_slide_110 : decode cX8_slide 110 = .ok (.getfield 52, 3) := by decide +kernel
theorem dX8_slide_113 : decode cX8_slide 113 = .ok (.iload 6, 2) := by decide +kernel
theorem dX8_slide_115 : decode cX8_slide 115 = .ok (.aload_n 0, 1) := by decide +kernel
theorem dX8_slide_116 : decode cX8_slide 116 = .ok (.getfield 48, 3) := by decide +kernel
theorem dX8_slide_119 : decode cX8_slide 119 = .ok (.bipush 60, 2) := by decide +kernel
theorem dX8_slide_121 : decode cX8_slide 121 = .ok (.iload_n 1, 1) := by decide +kernel
theorem dX8_slide_122 : decode cX8_slide 122 = .ok (.imul, 1) := by decide +kernel
theorem dX8_slide_123 : decode cX8_slide 123 = .ok (.iload_n 2, 1) := by decide +kernel
theorem dX8_slide_124 : decode cX8_slide 124 = .ok (.iadd, 1) := by decide +kernel
theorem dX8_slide_125 : decode cX8_slide 125 = .ok (.iload 6, 2) := by decide +kernel
theorem dX8_slide_127 : decode cX8_slide 127 = .ok (.iadd, 1) := by decide +kernel
theorem dX8_slide_128 : decode cX8_slide 128 = .ok (.laload, 1) := by decide +kernel
theorem dX8_slide_129 : decode cX8_slide 129 = .ok (.lastore, 1) := by decide +kernel
theorem dX8_slide_130 : decode cX8_slide 130 = .ok (.iinc 6 1, 3) := by decide +kernel
theorem dX8_slide_133 : decode cX8_slide 133 = .ok (.goto (-31), 3) := by decide +kernel
theorem dX8_slide_136 : decode cX8_slide 136 = .ok (.iconst 0, 1) := by decide +kernel
theorem dX8_slide_137 : decode cX8_slide 137 = .ok (.istore 6, 2) := by decide +kernel
theorem dX8_slide_139 : decode cX8_slide 139 = .ok (.iload 6, 2) := by decide +kernel
theorem dX8_slide_141 : decode cX8_slide 141 = .ok (.iload 5, 2) := by decide +kernel
theorem dX8_slide_143 : decode cX8_slide 143 = .ok (.if_icmp .ge 31, 3) := by decide +kernel
theorem dX8_slide_146 : decode cX8_slide 146 = .ok (.aload_n 0, 1) := by decide +kernel
theorem dX8_slide_147 : decode cX8_slide 147 = .ok (.getfield 48, 3) := by decide +kernel
theorem dX8_slide_150 : decode cX8_slide 150 = .ok (.bipush 60, 2) := by decide +kernel
theorem dX8_slide_152 : decode cX8_slide 152 = .ok (.iload_n 3, 1) := by decide +kernel
theorem dX8_slide_153 : decode cX8_slide 153 = .ok (.imul, 1) := by decide +kernel
theorem dX8_slide_154 : decode cX8_slide 154 = .ok (.iload 4, 2) := by decide +kernel
theorem dX8_slide_156 : decode cX8_slide 156 = .ok (.iadd, 1) := by decide +kernel
theorem dX8_slide_157 : decode cX8_slide 157 = .ok (.iload 6, 2) := by decide +kernel
theorem dX8_slide_159 : decode cX8_slide 159 = .ok (.iadd, 1) := by decide +kernel
theorem dX8_slide_160 : decode cX8_slide 160 = .ok (.aload_n 0, 1) := by decide +kernel
theorem dX8_slide_161 : decode cX8_slide 161 = .ok (.getfield 52, 3) := by decide +kernel
theorem dX8_slide_164 : decode cX8_slide 164 = .ok (.iload 6, 2) := by decide +kernel
theorem dX8_slide_166 : decode cX8_slide 166 = .ok (.laload, 1) := by decide +kernel
theorem dX8_slide_167 : decode cX8_slide 167 = .ok (.lastore, 1) := by decide +kernel
theorem dX8_slide_168 : decode cX8_slide 168 = .ok (.iinc 6 1, 3) := by decide +kernel
theorem dX8_slide_171 : decode cX8_slide 171 = .ok (.goto (-32), 3) := by decide +kernel
theorem dX8_slide_174 : decode cX8_slide 174 = .ok (.iload 5, 2) := by decide +kernel
theorem dX8_slide_176 : decode cX8_slide 176 = .ok (.ireturn, 1) := by decide +kernel
