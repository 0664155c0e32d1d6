theorem dX3_init_0 : decode cX3_init 0 = .ok (.aload_n 0, 1) := by decide +kernel
theorem dX3_init_1 : decode cX3_init 1 = .ok (.invokespecial 3, 3) := by decide +kernel
theorem dX3_init_4 : decode cX3_init 4 = .ok (.aload_n 0, 1) := by decide +kernel
theorem dX3_init_5 : decode cX3_init 5 = .ok (.bipush 50, 2) := by decide +kernel
theorem dX3_init_7 : decode cX3_init 7 = .ok (.newarray .byte, 2) := by decide +kernel
theorem dX3_init_9 : decode cX3_init 9 = .ok (.putfield 9, 3) := by decide +kernel
theorem dX3_init_12 : decode cX3_init 12 = .ok (.aload_n 0, 1) := by decide +kernel
theorem dX3_init_13 : decode cX3_init 13 = .ok (.bipush 112, 2) := by decide +kernel
theorem dX3_init_15 : decode cX3_init 15 = .ok (.newarray .int, 2) := by decide +kernel
theorem dX3_init_17 : decode cX3_init 17 = .ok (.putfield 15, 3) := by decide +kernel
theorem dX3_init_20 : decode cX3_init 20 = .ok (.aload_n 0, 1) := by decide +kernel
theorem dX3_init_21 : decode cX3_init 21 = .ok (.bipush 14, 2) := by decide +kernel
theorem dX3_init_23 : decode cX3_init 23 = .ok (.newarray .int, 2) := by decide +kernel
theorem dX3_init_25 : decode cX3_init 25 = .ok (.putfield 19, 3) := by decide +kernel
theorem dX3_init_28 : decode cX3_init 28 = .ok (.aload_n 0, 1) := by decide +kernel
theorem dX3_init_29 : decode cX3_init 29 = .ok (.bipush 14, 2) := by decide +kernel
theorem dX3_init_31 : decode cX3_init 31 = .ok (.newarray .int, 2) := by decide +kernel
theorem dX3_init_33 : decode cX3_init 33 = .ok (.putfield 22, 3) := by decide +kernel
theorem dX3_init_36 : decode cX3_init 36 = .ok (.aload_n 0, 1) := by decide +kernel
theorem dX3_init_37 : decode cX3_init 37 = .ok (.bipush 14, 2) := by decide +kernel
theorem dX3_init_39 : decode cX3_init 39 = .ok (.newarray .int, 2) := by decide +kernel
theorem dX3_init_41 : decode cX3_init 41 = .ok (.putfield 25, 3) := by decide +kernel
theorem dX3_init_44 : decode cX3_init 44 = .ok (.aload_n 0, 1) := by decide +kernel
theorem dX3_init_45 : decode cX3_init 45 = .ok (.bipush 14, 2) := by decide +kernel
theorem dX3_init_47 : decode cX3_init 47 = .ok (.newarray .int, 2) := by decide +kernel
theorem dX3_init_49 : decode cX3_init 49 = .ok (.putfield 28, 3) := by decide +kernel
theorem dX3_init_52 : decode cX3_init 52 = .ok (.aload_n 0, 1) := by decide +kernel
theorem dX3_init_53 : decode cX3_init 53 = .ok (.bipush 10, 2) := by decide +kernel
theorem dX3_init_55 : decode cX3_init 55 = .ok (.newarray .int, 2) := by decide +kernel
theorem dX3_init_57 : decode cX3_init 57 = .ok (.putfield 31, 3) := by decide +kernel
theorem dX3_init_60 : decode cX3_init 60 = .ok (.aload_n 0, 1) := by decide +kernel
theorem dX3_init_61 : decode cX3_init 61 = .ok (.bipush 10, 2) := by decide +kernel
theorem dX3_init_63 : decode cX3_init 63 = .ok (.newarray .int, 2) := by decide +kernel
theorem dX3_init_65 : decode cX3_init 65 = .ok (.putfield 34, 3) := by decide +kernel
theorem dX3_init_68 : decode cX3_init 68 = .ok (.aload_n 0, 1) := by decide +kernel
theorem dX3_init_69 : decode cX3_init 69 = .ok (.bipush 10, 2) := by decide +kernel
theorem dX3_init_71 : decode cX3_init 71 = .ok (.newarray .int, 2) := by decide +kernel
theorem dX3_init_73 : decode cX3_init 73 = .ok (.putfield 37, 3) := by decide +kernel
theorem dX3_init_76 : decode cX3_init 76 = .ok (.aload_n 0, 1) := by decide +kernel
theorem dX3_init_77 : decode cX3_init 77 = .ok (.bipush 10, 2) := by decide +kernel
theorem dX3_init_79 : decode cX3_init 79 = .ok (.newarray .int, 2) := by decide +kernel
theorem dX3_init_81 : decode cX3_init 81 = .ok (.putfield 40, 3) := by decide +kernel
theorem dX3_init_84 : decode cX3_init 84 = .ok (.aload_n 0, 1) := by decide +kernel
theorem dX3_init_85 : decode cX3_init 85 = .ok (.new 43, 3) := by decide +kernel
theorem dX3_init_88 : decode cX3_init 88 = .ok (.dup, 1) := by decide +kernel
theorem dX3_init_89 : decode cX3_init 89 = .ok (.invokespecial 45, 3) := by decide +kernel
theorem dX3_init_92 : decode cX3_init 92 = .ok (.putfield 46, 3) := by decide +kernel
theorem dX3_init_95 : decode cX3_init 95 = .ok (.aload_n 0, 1) := by decide +kernel
theorem dX3_init_96 : decode cX3_init 96 = .ok (.new 43, 3) := by decide +kernel
theorem dX3_init_99 : decode cX3_init 99 = .ok (.dup, 1) := by decide +kernel
theorem dX3_init_100 : decode cX3_init 100 = .ok (.invokespecial 45, 3) := by decide +kernel
theorem dX3_init_103 : decode cX3_init 103 = .ok (.putfield 50, 3) := by decide +kernel
theorem dX3_init_106 : decode cX3_init 106 = .ok (.aload_n 0, 1) := by decide +kernel
theorem dX3_init_107 : decode cX3_init 107 = .ok (.iconst 1, 1) := by decide +kernel
theorem dX3_init_108 : decode cX3_init 108 = .ok (.putfield 53, 3) := by decide +kernel
theorem dX3_init_111 : decode cX3_init 111 = .ok (.aload_n 0, 1) := by decide +kernel
theorem dX3_init_112 : decode cX3_init 112 = .ok (.bipush 20, 2) := by decide +kernel
theorem dX3_init_114 : decode cX3_init 114 = .ok (.newarray .int, 2) := by decide +kernel
theorem dX3_init_116 : decode cX3_init 116 = .ok (.putfield 57, 3) := by decide +kernel
theorem dX3_init_119 : decode cX3_init 119 = .ok (.return_, 1) := by decide +kernel
theorem dX3_copyFrom_0 : decode cX3_copyFrom 0 = .ok (.aload_n 1, 1) := by decide +kernel
theorem dX3_copyFrom_1 : decode cX3_copyFrom 1 = .ok (.getfield 9, 3) := by decide +kernel
theorem dX3_copyFrom_4 : decode cX3_copyFrom 4 = .ok (.iconst 0, 1) := by decide +kernel
theorem dX3_copyFrom_5 : decode cX3_copyFrom 5 = .ok (.aload_n 0, 1) := by decide +kernel
theorem dX3_copyFrom_6 : decode cX3_copyFrom 6 = .ok (.getfield 9, 3) := by decide +kernel
theorem dX3_copyFrom_9 : decode cX3_copyFrom 9 = .ok (.iconst 0, 1) := by decide +kernel
theorem dX3_copyFrom_10 : decode cX3_copyFrom 10 = .ok (.bipush 50, 2) := by decide +kernel
theorem dX3_copyFrom_12 : decode cX3_copyFrom 12 = .ok (.invokestatic 60, 3) := by decide +kernel
theorem dX3_copyFrom_15 : decode cX3_copyFrom 15 = .ok (.aload_n 0, 1) := by decide +kernel
theorem dX3_copyFrom_16 : decode cX3_copyFrom 16 = .ok (.aload_n 1, 1) := by decide +kernel
theorem dX3_copyFrom_17 : decode cX3_copyFrom 17 = .ok (.getfield 66, 3) := by decide +kernel
theorem dX3_copyFrom_20 : decode cX3_copyFrom 20 = .ok (.putfield 66, 3) := by decide +kernel
theorem dX3_copyFrom_23 : decode cX3_copyFrom 23 = .ok (.aload_n 0, 1) := by decide +kernel
theorem dX3_copyFrom_24 : decode cX3_copyFrom 24 = .ok (.aload_n 1, 1) := by decide +kernel
theorem dX3_copyFrom_25 : decode cX3_copyFrom 25 = .ok (.getfield 69, 3) := by decide +kernel
theorem dX3_copyFrom_28 : decode cX3_copyFrom 28 = .ok (.putfield 69, 3) := by decide +kernel
theorem dX3_copyFrom_31 : decode cX3_copyFrom 31 = .ok (.aload_n 1, 1) := by decide +kernel
theorem dX3_copyFrom_32 : decode cX3_copyFrom 32 = .ok (.getfield 15, 3) := by decide +kernel
theorem dX3_copyFrom_35 : decode cX3_copyFrom 35 = .ok (.iconst 0, 1) := by decide +kernel
theorem dX3_copyFrom_36 : decode cX3_copyFrom 36 = .ok (.aload_n 0, 1) := by decide +kernel
theorem dX3_copyFrom_37 : decode cX3_copyFrom 37 = .ok (.getfield 15, 3) := by decide +kernel
theorem dX3_copyFrom_40 : decode cX3_copyFrom 40 = .ok (.iconst 0, 1) := by decide +kernel
theorem dX3_copyFrom_41 : decode cX3_copyFrom 41 = .ok (.bipush 112, 2) := by decide +kernel
theorem dX3_copyFrom_43 : decode cX3_copyFrom 43 = .ok (.invokestatic 60, 3) := by decide +kernel
theorem dX3_copyFrom_46 : decode cX3_copyFrom 46 = .ok (.aload_n 1, 1) := by decide +kernel
theorem dX3_copyFrom_47 : decode cX3_copyFrom 47 = .ok (.getfield 19, 3) := by decide +kernel
theorem dX3_copyFrom_50 : decode cX3_copyFrom 50 = .ok (.iconst 0, 1) := by decide +kernel
theorem dX3_copyFrom_51 : decode cX3_copyFrom 51 = .ok (.aload_n 0, 1) := by decide +kernel
theorem dX3_copyFrom_52 : decode cX3_copyFrom 52 = .ok (.getfield 19, 3) := by decide +kernel
theorem dX3_copyFrom_55 : decode cX3_copyFrom 55 = .ok (.iconst 0, 1) := by decide +kernel
theorem dX3_copyFrom_56 : decode cX3_copyFrom 56 = .ok (.bipush 14, 2) := by decide +kernel
theorem dX3_copyFrom_58 : decode cX3_copyFrom 58 = .ok (.invokestatic 60, 3) := by decide +kernel
theorem dX3_copyFrom_61 : decode cX3_copyFrom 61 = .ok (.aload_n 1, 1) := by decide +kernel
theorem dX3_copyFrom_62 : decode cX3_copyFrom 62 = .ok (.getfield 22, 3) := by decide +kernel
theorem dX3_copyFrom_65 : decode cX3_copyFrom 65 = .ok (.iconst 0, 1) := by decide +kernel
theorem dX3_copyFrom_66 : decode cX3_copyFrom 66 = .ok (.aload_n 0, 1) := by decide +kernel
theorem dX3_copyFrom_67 : decode cX3_copyFrom 67 = .ok (.getfield 22, 3) := by decide +kernel
theorem dX3_copyFrom_70 : decode cX3_copyFrom 70 = .ok (.iconst 0, 1) := by decide +kernel
theorem dX3_copyFrom_71 : decode cX3_copyFrom 71 = .ok (.bipush 14, 2) := by decide +kernel
theorem dX3_copyFrom_73 : decode cX3_copyFrom 73 = .ok (.invokestatic 60, 3) := by decide +kernel
theorem dX3_copyFrom_76 : decode cX3_copyFrom 76 = .ok (.aload_n 1, 1) := by decide +kernel
theorem dX3_copyFrom_77 : decode cX3_copyFrom 77 = .ok (.getfield 25, 3) := by decide +kernel
theorem dX3_copyFrom_80 : decode cX3_copyFrom 80 = .ok (.iconst 0, 1) := by decide +kernel
theorem dX3_copyFrom_81 : decode cX3_copyFrom 81 = .ok (.aload_n 0, 1) := by decide +kernel
theorem dX3_copyFrom_82 : decode cX3_copyFrom 82 = .ok (.getfield 25, 3) := by decide +kernel
theorem dX3_copyFrom_85 : decode cX3_copyFrom 85 = .ok (.iconst 0, 1) := by decide +kernel
theorem dX3_copyFrom_86 : decode cX3_copyFrom 86 = .ok (.bipush 14, 2) := by decide +kernel
theorem dX3_copyFrom_88 : decode cX3_copyFrom 88 = .ok (.invokestatic 60, 3) := by decide +kernel
theorem dX3_copyFrom_91 : decode cX3_copyFrom 91 = .ok (.aload_n 1, 1) := by decide +kernel
theorem dX3_copyFrom_92 : decode cX3_copyFrom 92 = .ok (.getfield 28, 3) := by decide +kernel
theorem dX3_copyFrom_95 : decode cX3_copyFrom 95 = .ok (.iconst 0, 1) := by decide +kernel
theorem dX3_copyFrom_96 : decode cX3_copyFrom 96 = .ok (.aload_n 0, 1) := by decide +kernel
theorem dX3_copyFrom_97 : decode cX3_copyFrom 97 = .ok (.getfield 28, 3) := by decide +kernel
theorem dX3_copyFrom_100 : decode cX3_copyFrom 100 = .ok (.iconst 0, 1) := by decide +kernel
theorem dX3_copyFrom_101 : decode cX3_copyFrom 101 = .ok (.bipush 14, 2) := by decide +kernel
theorem dX3_copyFrom_103 : decode cX3_copyFrom 103 = .ok (.invokestatic 60, 3) := by decide +kernel
theorem dX3_copyFrom_106 : decode cX3_copyFrom 106 = .ok (.aload_n 0, 1) := by decide +kernel
theorem dX3_copyFrom_107 : decode cX3_copyFrom 107 = .ok (.aload_n 1, 1) := by decide +kernel
theorem dX3_copyFrom_108 : decode cX3_copyFrom 108 = .ok (.getfield 72, 3) := by decide +kernel
theorem dX3_copyFrom_111 : decode cX3_copyFrom 111 = .ok (.putfield 72, 3) := by decide +kernel
theorem dX3_copyFrom_114 : decode cX3_copyFrom 114 = .ok (.aload_n 1, 1) := by decide +kernel
theorem dX3_copyFrom_115 : decode cX3_copyFrom 115 = .ok (.getfield 31, 3) := by decide +kernel
theorem dX3_copyFrom_118 : decode cX3_copyFrom 118 = .ok (.iconst 0, 1) := by decide +kernel
theorem dX3_copyFrom_119 : decode cX3_copyFrom 119 = .ok (.aload_n 0, 1) := by decide +kernel
theorem dX3_copyFrom_120 : decode cX3_copyFrom 120 = .ok (.getfield 31, 3) := by decide +kernel
theorem dX3_copyFrom_123 : decode cX3_copyFrom 123 = .ok (.iconst 0, 1) := by decide +kernel
theorem dX3_copyFrom_124 : decode cX3_copyFrom 124 = .ok (.bipush 10, 2) := by decide +kernel
theorem dX3_copyFrom_126 : decode cX3_copyFrom 126 = .ok (.invokestatic 60, 3) := by decide +kernel
theorem dX3_copyFrom_129 : decode cX3_copyFrom 129 = .ok (.aload_n 1, 1) := by decide +kernel
theorem dX3_copyFrom_130 : decode cX3_copyFrom 130 = .ok (.getfield 34, 3) := by decide +kernel
theorem dX3_copyFrom_133 : decode cX3_copyFrom 133 = .ok (.iconst 0, 1) := by decide +kernel
theorem dX3_copyFrom_134 : decode cX3_copyFrom 134 = .ok (.aload_n 0, 1) := by decide +kernel
theorem dX3_copyFrom_135 : decode cX3_copyFrom 135 = .ok (.getfield 34, 3) := by decide +kernel
theorem dX3_copyFrom_138 : decode cX3_copyFrom 138 = .ok (.iconst 0, 1) := by decide +kernel
theorem dX3_copyFrom_139 : decode cX3_copyFrom 139 = .ok (.bipush 10, 2) := by decide +kernel
theorem dX3_copyFrom_141 : decode cX3_copyFrom 141 = .ok (.invokestatic 60, 3) := by decide +kernel
theorem dX3_copyFrom_144 : decode cX3_copyFrom 144 = .ok (.aload_n 1, 1) := by decide +kernel
theorem dX3_copyFrom_145 : decode cX3_copyFrom 145 = .ok (.getfield 37, 3) := by decide +kernel
theorem dX3_copyFrom_148 : decode cX3_copyFrom 148 = .ok (.iconst 0, 1) := by decide +kernel
theorem dX3_copyFrom_149 : decode cX3_copyFrom 149 = .ok (.aload_n 0, 1) := by decide +kernel
theorem dX3_copyFrom_150 : decode cX3_copyFrom 150 = .ok (.getfield 37, 3) := by decide +kernel
theorem dX3_copyFrom_153 : decode cX3_copyFrom 153 = .ok (.iconst 0, 1) := by decide +kernel
theorem dX3_copyFrom_154 : decode cX3_copyFrom 154 = .ok (.bipush 10, 2) := by decide +kernel
theorem dX3_copyFrom_156 : decode cX3_copyFrom 156 = .ok (.invokestatic 60, 3) := by decide +kernel
theorem dX3_copyFrom_159 : decode cX3_copyFrom 159 = .ok (.aload_n 1, 1) := by decide +kernel
theorem dX3_copyFrom_160 : decode cX3_copyFrom 160 = .ok (.getfield 40, 3) := by decide +kernel
theorem dX3_copyFrom_163 : decode cX3_copyFrom 163 = .ok (.iconst 0, 1) := by decide +kernel
theorem dX3_copyFrom_164 : decode cX3_copyFrom 164 = .ok (.aload_n 0, 1) := by decide +kernel
theorem dX3_copyFrom_165 : decode cX3_copyFrom 165 = .ok (.getfield 40, 3) := by decide +kernel
theorem dX3_copyFrom_168 : decode cX3_copyFrom 168 = .ok (.iconst 0, 1) := by decide +kernel
theorem dX3_copyFrom_169 : decode cX3_copyFrom 169 = .ok (.bipush 10, 2) := by decide +kernel
theorem dX3_copyFrom_171 : decode cX3_copyFrom 171 = .ok (.invokestatic 60, 3) := by decide +kernel
theorem dX3_copyFrom_174 : decode cX3_copyFrom 174 = .ok (.aload_n 0, 1) := by decide +kernel
theorem dX3_copyFrom_175 : decode cX3_copyFrom 175 = .ok (.aload_n 1, 1) := by decide +kernel
theorem dX3_copyFrom_176 : decode cX3_copyFrom 176 = .ok (.getfield 75, 3) := by decide +kernel
theorem dX3_copyFrom_179 : decode cX3_copyFrom 179 = .ok (.putfield 75, 3) := by decide +kernel
theorem dX3_copyFrom_182 : decode cX3_copyFrom 182 = .ok (.aload_n 0, 1) := by decide +kernel
theorem dX3_copyFrom_183 : decode cX3_copyFrom 183 = .ok (.getfield 46, 3) := by decide +kernel
theorem dX3_copyFrom_186 : decode cX3_copyFrom 186 = .ok (.aload_n 1, 1) := by decide +kernel
theorem dX3_copyFrom_187 : decode cX3_copyFrom 187 = .ok (.getfield 46, 3) := by decide +kernel
theorem dX3_copyFrom_190 : decode cX3_copyFrom 190 = .ok (.invokevirtual 78, 3) := by decide +kernel
theorem dX3_copyFrom_193 : decode cX3_copyFrom 193 = .ok (.aload_n 0, 1) := by decide +kernel
theorem dX3_copyFrom_194 : decode cX3_copyFrom 194 = .ok (.getfield 50, 3) := by decide +kernel
theorem dX3_copyFrom_197 : decode cX3_copyFrom 197 = .ok (.aload_n 1, 1) := by decide +kernel
theorem dX3_copyFrom_198 : decode cX3_copyFrom 198 = .ok (.getfield 50, 3) := by decide +kernel
theorem dX3_copyFrom_201 : decode cX3_copyFrom 201 = .ok (.invokevirtual 78, 3) := by decide +kernel
theorem dX3_copyFrom_204 : decode cX3_copyFrom 204 = .ok (.aload_n 0, 1) := by decide +kernel
theorem dX3_copyFrom_205 : decode cX3_copyFrom 205 = .ok (.aload_n 1, 1) := by decide +kernel
theorem dX3_copyFrom_206 : decode cX3_copyFrom 206 = .ok (.getfield 53, 3) := by decide +kernel
theorem dX3_copyFrom_209 : decode cX3_copyFrom 209 = .ok (.putfield 53, 3) := by decide +kernel
theorem dX3_copyFrom_212 : decode cX3_copyFrom 212 = .ok (.aload_n 1, 1) := by decide +kernel
theorem dX3_copyFrom_213 : decode cX3_copyFrom 213 = .ok (.getfield 57, 3) := by decide +kernel
theorem dX3_copyFrom_216 : decode cX3_copyFrom 216 = .ok (.iconst 0, 1) := by decide +kernel
theorem dX3_copyFrom_217 : decode cX3_copyFrom 217 = .ok (.aload_n 0, 1) := by decide +kernel
theorem dX3_copyFrom_218 : decode cX3_copyFrom 218 = .ok (.getfield 57, 3) := by decide +kernel
theorem dX3_copyFrom_221 : decode cX3_copyFrom 221 = .ok (.iconst 0, 1) := by decide +kernel
theorem dX3_copyFrom_222 : decode cX3_copyFrom 222 = .ok (.bipush 20, 2) := by decide +kernel
theorem dX3_copyFrom_224 : decode cX3_copyFrom 224 = .ok (.invokestatic 60, 3) := by decide +kernel
theorem dX3_copyFrom_227 : decode cX3_copyFrom 227 = .ok (.aload_n 0, 1) := by decide +kernel
theorem dX3_copyFrom_228 : decode cX3_copyFrom 228 = .ok (.aload_n 1, 1) := by decide +kernel
theorem dX3_copyFrom_229 : decode cX3_copyFrom 229 = .ok (.getfield 82, 3) := by decide +kernel
theorem dX3_copyFrom_232 : decode cX3_copyFrom 232 = .ok (.putfield 82, 3) := by decide +kernel
theorem dX3_copyFrom_235 : decode cX3_copyFrom 235 = .ok (.return_, 1) := by decide +kernel
theorem dX3_isName_0 : decode cX3_isName 0 = .ok (.iload_n 1, 1) := by decide +kernel
theorem dX3_isName_1 : decode cX3_isName 1 = .ok (.ifCond .lt 15, 3) := by decide +kernel
theorem dX3_isName_4 : decode cX3_isName 4 = .ok (.iload_n 1, 1) := by decide +kernel
theorem dX3_isName_5 : decode cX3_isName 5 = .ok (.aload_n 0, 1) := by decide +kernel
theorem dX3_isName_6 : decode cX3_isName 6 = .ok (.getfield 69, 3) := by decide +kernel
theorem dX3_isName_9 : decode cX3_isName 9 = .ok (.if_icmp .ge 7, 3) := by decide +kernel
theorem dX3_isName_12 : decode cX3_isName 12 = .ok (.iconst 1, 1) := by decide +kernel
theorem dX3_isName_13 : decode cX3_isName 13 = .ok (.goto 4, 3) := by decide +kernel
theorem dX3_isName_16 : decode cX3_isName 16 = .ok (.iconst 0, 1) := by decide +kernel
theorem dX3_isName_17 : decode cX3_isName 17 = .ok (.ireturn, 1) := by decide +kernel
theorem dX3_isOne_0 : decode cX3_isOne 0 = .ok (.iload_n 1, 1) := by decide +kernel
theorem dX3_isOne_1 : decode cX3_isOne 1 = .ok (.ifCond .lt 15, 3) := by decide +kernel
theorem dX3_isOne_4 : decode cX3_isOne 4 = .ok (.iload_n 1, 1) := by decide +kernel
theorem dX3_isOne_5 : decode cX3_isOne 5 = .ok (.aload_n 0, 1) := by decide +kernel
theorem dX3_isOne_6 : decode cX3_isOne 6 = .ok (.getfield 72, 3) := by decide +kernel
theorem dX3_isOne_9 : decode cX3_isOne 9 = .ok (.if_icmp .ge 7, 3) := by decide +kernel
theorem dX3_isOne_12 : decode cX3_isOne 12 = .ok (.iconst 1, 1) := by decide +kernel
theorem dX3_isOne_13 : decode cX3_isOne 13 = .ok (.goto 4, 3) := by decide +kernel
theorem dX3_isOne_16 : decode cX3_isOne 16 = .ok (.iconst 0, 1) := by decide +kernel
theorem dX3_isOne_17 : decode cX3_isOne 17 = .ok (.ireturn, 1) := by decide +kernel
theorem dX3_areTwo_0 : decode cX3_areTwo 0 = .ok (.aload_n 0, 1) := by decide +kernel
theorem dX3_areTwo_1 : decode cX3_areTwo 1 = .ok (.iload_n 1, 1) := by decide +kernel
theorem dX3_areTwo_2 : decode cX3_areTwo 2 = .ok (.invokevirtual 85, 3) := by decide +kernel
theorem dX3_areTwo_5 : decode cX3_areTwo 5 = .ok (.ifCond .eq 20, 3) := by decide +kernel
theorem dX3_areTwo_8 : decode cX3_areTwo 8 = .ok (.aload_n 0, 1) := by decide +kernel
theorem dX3_areTwo_9 : decode cX3_areTwo 9 = .ok (.iload_n 2, 1) := by decide +kernel
theorem dX3_areTwo_10 : decode cX3_areTwo 10 = .ok (.invokevirtual 85, 3) := by decide +kernel
theorem dX3_areTwo_13 : decode cX3_areTwo 13 = .ok (.ifCond .eq 12, 3) := by decide +kernel
theorem dX3_areTwo_16 : decode cX3_areTwo 16 = .ok (.iload_n 1, 1) := by decide +kernel
theorem dX3_areTwo_17 : decode cX3_areTwo 17 = .ok (.iload_n 2, 1) := by decide +kernel
theorem dX3_areTwo_18 : decode cX3_areTwo 18 = .ok (.if_icmp .eq 7, 3) := by decide +kernel
theorem dX3_areTwo_21 : decode cX3_areTwo 21 = .ok (.iconst 1, 1) := by decide +kernel
theorem dX3_areTwo_22 : decode cX3_areTwo 22 = .ok (.goto 4, 3) := by decide +kernel
theorem dX3_areTwo_25 : decode cX3_areTwo 25 = .ok (.iconst 0, 1) := by decide +kernel
theorem dX3_areTwo_26 : decode cX3_areTwo 26 = .ok (.ireturn, 1) := by decide +kernel
theorem dX3_textOf_0 : decode cX3_textOf 0 = .ok (.iload_n 1, 1) := by decide +kernel
theorem dX3_textOf_1 : decode cX3_textOf 1 = .ok (.ifCond .ne 10, 3) := by decide +kernel
theorem dX3_textOf_4 : decode cX3_textOf 4 = .ok (.aload_n 0, 1) := by decide +kernel
theorem dX3_textOf_5 : decode cX3_textOf 5 = .ok (.getfield 46, 3) := by decide +kernel
theorem dX3_textOf_8 : decode cX3_textOf 8 = .ok (.goto 7, 3) := by decide +kernel
theorem dX3_textOf_11 : decode cX3_textOf 11 = .ok (.aload_n 0, 1) := by decide +kernel
theorem dX3_textOf_12 : decode cX3_textOf 12 = .ok (.getfield 50, 3) := by decide +kernel
theorem dX3_textOf_15 : decode cX3_textOf 15 = .ok (.areturn, 1) := by decide +kernel
theorem dX3_append_0 : decode cX3_append 0 = .ok (.iconst 0, 1) := by decide +kernel
theorem dX3_append_1 : decode cX3_append 1 = .ok (.istore 4, 2) := by decide +kernel
theorem dX3_append_3 : decode cX3_append 3 = .ok (.iload 4, 2) := by decide +kernel
theorem dX3_append_5 : decode cX3_append 5 = .ok (.iload_n 3, 1) := by decide +kernel
theorem dX3_append_6 : decode cX3_append 6 = .ok (.if_icmp .ge 46, 3) := by decide +kernel
theorem dX3_append_9 : decode cX3_append 9 = .ok (.aload_n 0, 1) := by decide +kernel
theorem dX3_append_10 : decode cX3_append 10 = .ok (.getfield 66, 3) := by decide +kernel
theorem dX3_append_13 : decode cX3_append 13 = .ok (.bipush 50, 2) := by decide +kernel
theorem dX3_append_15 : decode cX3_append 15 = .ok (.if_icmp .ge 37, 3) := by decide +kernel
theorem dX3_append_18 : decode cX3_append 18 = .ok (.aload_n 0, 1) := by decide +kernel
theorem dX3_append_19 : decode cX3_append 19 = .ok (.getfield 9, 3) := by decide +kernel
theorem dX3_append_22 : decode cX3_append 22 = .ok (.aload_n 0, 1) := by decide +kernel
theorem dX3_append_23 : decode cX3_append 23 = .ok (.getfield 66, 3) := by decide +kernel
theorem dX3_append_26 : decode cX3_append 26 = .ok (.lload_n 1, 1) := by decide +kernel
theorem dX3_append_27 : decode cX3_append 27 = .ok (.bipush 8, 2) := by decide +kernel
theorem dX3_append_29 : decode cX3_append 29 = .ok (.iload 4, 2) := by decide +kernel
theorem dX3_append_31 : decode cX3_append 31 = .ok (.imul, 1) := by decide +kernel
theorem dX3_append_32 : decode cX3_append 32 = .ok (.lushr, 1) := by decide +kernel
theorem dX3_append_33 : decode cX3_append 33 = .ok (.l2i, 1) := by decide +kernel
theorem dX3_append_34 : decode cX3_append 34 = .ok (.i2b, 1) := by decide +kernel
theorem dX3_append_35 : decode cX3_append 35 = .ok (.bastore, 1) := by decide +kernel
theorem dX3_append_36 : decode cX3_append 36 = .ok (.aload_n 0, 1) := by decide +kernel
theorem dX3_append_37 : decode cX3_append 37 = .ok (.dup, 1) := by decide +kernel
theorem dX3_append_38 : decode cX3_append 38 = .ok (.getfield 66, 3) := by decide +kernel
theorem dX3_append_41 : decode cX3_append 41 = .ok (.iconst 1, 1) := by decide +kernel
theorem dX3_append_42 : decode cX3_append 42 = .ok (.iadd, 1) := by decide +kernel
theorem dX3_append_43 : decode cX3_append 43 = .ok (.putfield 66, 3) := by decide +kernel
theorem dX3_append_46 : decode cX3_append 46 = .ok (.iinc 4 1, 3) := by decide +kernel
theorem dX3_append_49 : decode cX3_append 49 = .ok (.goto (-46), 3) := by decide +kernel
theorem dX3_append_52 : decode cX3_append 52 = .ok (.aload_n 0, 1) := by decide +kernel
theorem dX3_append_53 : decode cX3_append 53 = .ok (.getfield 66, 3) := by decide +kernel
theorem dX3_append_56 : decode cX3_append 56 = .ok (.ireturn, 1) := by decide +kernel
theorem dX3_lettersAhead_0 : decode cX3_lettersAhead 0 = .ok (.iconst 0, 1) := by decide +kernel
theorem dX3_lettersAhead_1 : decode cX3_lettersAhead 1 = .ok (.istore_n 1, 1) := by decide +kernel
theorem dX3_lettersAhead_2 : decode cX3_lettersAhead 2 = .ok (.iload_n 1, 1) := by decide +kernel
theorem dX3_lettersAhead_3 : decode cX3_lettersAhead 3 = .ok (.aload_n 0, 1) := by decide +kernel
theorem dX3_lettersAhead_4 : decode cX3_lettersAhead 4 = .ok (.getfield 66, 3) := by decide +kernel
theorem dX3_lettersAhead_7 : decode cX3_lettersAhead 7 = .ok (.if_icmp .ge 37, 3) := by decide +kernel
theorem dX3_lettersAhead_10 : decode cX3_lettersAhead 10 = .ok (.iload_n 1, 1) := by decide +kernel
theorem dX3_lettersAhead_11 : decode cX3_lettersAhead 11 = .ok (.bipush 8, 2) := by decide +kernel
theorem dX3_lettersAhead_13 : decode cX3_lettersAhead 13 = .ok (.if_icmp .ge 31, 3) := by decide +kernel
theorem dX3_lettersAhead_16 : decode cX3_lettersAhead 16 = .ok (.aload_n 0, 1) := by decide +kernel
theorem dX3_lettersAhead_17 : decode cX3_lettersAhead 17 = .ok (.getfield 9, 3) := by decide +kernel
theorem dX3_lettersAhead_20 : decode cX3_lettersAhead 20 = .ok (.iload_n 1, 1) := by decide +kernel
theorem dX3_lettersAhead_21 : decode cX3_lettersAhead 21 = .ok (.baload, 1) := by decide +kernel
theorem dX3_lettersAhead_22 : decode cX3_lettersAhead 22 = .ok (.bipush 97, 2) := by decide +kernel
theorem dX3_lettersAhead_24 : decode cX3_lettersAhead 24 = .ok (.if_icmp .lt 20, 3) := by decide +kernel
theorem dX3_lettersAhead_27 : decode cX3_lettersAhead 27 = .ok (.aload_n 0, 1) := by decide +kernel
theorem dX3_lettersAhead_28 : decode cX3_lettersAhead 28 = .ok (.getfield 9, 3) := by decide +kernel
theorem dX3_lettersAhead_31 : decode cX3_lettersAhead 31 = .ok (.iload_n 1, 1) := by decide +kernel
theorem dX3_lettersAhead_32 : decode cX3_lettersAhead 32 = .ok (.baload, 1) := by decide +kernel
theorem dX3_lettersAhead_33 : decode cX3_lettersAhead 33 = .ok (.bipush 122, 2) := by decide +kernel
theorem dX3_lettersAhead_35 : decode cX3_lettersAhead 35 = .ok (.if_icmp .gt 9, 3) := by decide +kernel
theorem dX3_lettersAhead_38 : decode cX3_lettersAhead 38 = .ok (.iinc 1 1, 3) := by decide +kernel
theorem dX3_lettersAhead_41 : decode cX3_lettersAhead 41 = .ok (.goto (-39), 3) := by decide +kernel
theorem dX3_lettersAhead_44 : decode cX3_lettersAhead 44 = .ok (.iload_n 1, 1) := by decide +kernel
theorem dX3_lettersAhead_45 : decode cX3_lettersAhead 45 = .ok (.ireturn, 1) := by decide +kernel
theorem dX3_addName_0 : decode cX3_addName 0 = .ok (.aload_n 0, 1) := by decide +kernel
theorem dX3_addName_1 : decode cX3_addName 1 = .ok (.getfield 69, 3) := by decide +kernel
theorem dX3_addName_4 : decode cX3_addName 4 = .ok (.istore_n 3, 1) := by decide +kernel
theorem dX3_addName_5 : decode cX3_addName 5 = .ok (.iconst 0, 1) := by decide +kernel
theorem dX3_addName_6 : decode cX3_addName 6 = .ok (.istore 4, 2) := by decide +kernel
theorem dX3_addName_8 : decode cX3_addName 8 = .ok (.iconst 0, 1) := by decide +kernel
theorem dX3_addName_9 : decode cX3_addName 9 = .ok (.istore 5, 2) := by decide +kernel
theorem dX3_addName_11 : decode cX3_addName 11 = .ok (.iload 5, 2) := by decide +kernel
theorem dX3_addName_13 : decode cX3_addName 13 = .ok (.iload_n 1, 1) := by decide +kernel
theorem dX3_addName_14 : decode cX3_addName 14 = .ok (.if_icmp .ge 51, 3) := by decide +kernel
theorem dX3_addName_17 : decode cX3_addName 17 = .ok (.iload 5, 2) := by decide +kernel
theorem dX3_addName_19 : decode cX3_addName 19 = .ok (.bipush 8, 2) := by decide +kernel
theorem dX3_addName_21 : decode cX3_addName 21 = .ok (.if_icmp .ge 44, 3) := by decide +kernel
theorem dX3_addName_24 : decode cX3_addName 24 = .ok (.aload_n 0, 1) := by decide +kernel
theorem dX3_addName_25 : decode cX3_addName 25 = .ok (.getfield 9, 3) := by decide +kernel
theorem dX3_addName_28 : decode cX3_addName 28 = .ok (.iload 5, 2) := by decide +kernel
theorem dX3_addName_30 : decode cX3_addName 30 = .ok (.baload, 1) := by decide +kernel
theorem dX3_addName_31 : decode cX3_addName 31 = .ok (.bipush 97, 2) := by decide +kernel
theorem dX3_addName_33 : decode cX3_addName 33 = .ok (.isub, 1) := by decide +kernel
theorem dX3_addName_34 : decode cX3_addName 34 = .ok (.istore 6, 2) := by decide +kernel
theorem dX3_addName_36 : decode cX3_addName 36 = .ok (.aload_n 0, 1) := by decide +kernel
theorem dX3_addName_37 : decode cX3_addName 37 = .ok (.getfield 15, 3) := by decide +kernel
theorem dX3_addName_40 : decode cX3_addName 40 = .ok (.iload_n 3, 1) := by decide +kernel
theorem dX3_addName_41 : decode cX3_addName 41 = .ok (.bipush 8, 2) := by decide +kernel
theorem dX3_addName_43 : decode cX3_addName 43 = .ok (.imul, 1) := by decide +kernel
theorem dX3_addName_44 : decode cX3_addName 44 = .ok (.iload 5, 2) := by decide +kernel
theorem dX3_addName_46 : decode cX3_addName 46 = .ok (.iadd, 1) := by decide +kernel
theorem dX3_addName_47 : decode cX3_addName 47 = .ok (.iload 6, 2) := by decide +kernel
theorem dX3_addName_49 : decode cX3_addName 49 = .ok (.iastore, 1) := by decide +kernel
theorem dX3_addName_50 : decode cX3_addName 50 = .ok (.iload 4, 2) := by decide +kernel
theorem dX3_addName_52 : decode cX3_addName 52 = .ok (.iconst 1, 1) := by decide +kernel
theorem dX3_addName_53 : decode cX3_addName 53 = .ok (.iload 6, 2) := by decide +kernel
theorem dX3_addName_55 : decode cX3_addName 55 = .ok (.ishl, 1) := by decide +kernel
theorem dX3_addName_56 : decode cX3_addName 56 = .ok (.ior, 1) := by decide +kernel
theorem dX3_addName_57 : decode cX3_addName 57 = .ok (.istore 4, 2) := by decide +kernel
theorem dX3_addName_59 : decode cX3_addName 59 = .ok (.iinc 5 1, 3) := by decide +kernel
theorem dX3_addName_62 : decode cX3_addName 62 = .ok (.goto (-51), 3) := by decide +kernel
theorem dX3_addName_65 : decode cX3_addName 65 = .ok (.aload_n 0, 1) := by decide +kernel
theorem dX3_addName_66 : decode cX3_addName 66 = .ok (.getfield 19, 3) := by decide +kernel
theorem dX3_addName_69 : decode cX3_addName 69 = .ok (.iload_n 3, 1) := by decide +kernel
theorem dX3_addName_70 : decode cX3_addName 70 = .ok (.iload_n 1, 1) := by decide +kernel
theorem dX3_addName_71 : decode cX3_addName 71 = .ok (.iastore, 1) := by decide +kernel
theorem dX3_addName_72 : decode cX3_addName 72 = .ok (.aload_n 0, 1) := by decide +kernel
theorem dX3_addName_73 : decode cX3_addName 73 = .ok (.getfield 22, 3) := by decide +kernel
theorem dX3_addName_76 : decode cX3_addName 76 = .ok (.iload_n 3, 1) := by decide +kernel
theorem dX3_addName_77 : decode cX3_addName 77 = .ok (.iload_n 2, 1) := by decide +kernel
theorem dX3_addName_78 : decode cX3_addName 78 = .ok (.iastore, 1) := by decide +kernel
theorem dX3_addName_79 : decode cX3_addName 79 = .ok (.aload_n 0, 1) := by decide +kernel
theorem dX3_addName_80 : decode cX3_addName 80 = .ok (.getfield 25, 3) := by decide +kernel
theorem dX3_addName_83 : decode cX3_addName 83 = .ok (.iload_n 3, 1) := by decide +kernel
theorem dX3_addName_84 : decode cX3_addName 84 = .ok (.iload 4, 2) := by decide +kernel
theorem dX3_addName_86 : decode cX3_addName 86 = .ok (.iastore, 1) := by decide +kernel
theorem dX3_addName_87 : decode cX3_addName 87 = .ok (.aload_n 0, 1) := by decide +kernel
theorem dX3_addName_88 : decode cX3_addName 88 = .ok (.getfield 28, 3) := by decide +kernel
theorem dX3_addName_91 : decode cX3_addName 91 = .ok (.iload_n 3, 1) := by decide +kernel
theorem dX3_addName_92 : decode cX3_addName 92 = .ok (.iconst 0, 1) := by decide +kernel
theorem dX3_addName_93 : decode cX3_addName 93 = .ok (.iastore, 1) := by decide +kernel
theorem dX3_addName_94 : decode cX3_addName 94 = .ok (.iconst 0, 1) := by decide +kernel
theorem dX3_addName_95 : decode cX3_addName 95 = .ok (.istore 5, 2) := by decide +kernel
theorem dX3_addName_97 : decode cX3_addName 97 = .ok (.iload 5, 2) := by decide +kernel
theorem dX3_addName_99 : decode cX3_addName 99 = .ok (.iload_n 3, 1) := by decide +kernel
theorem dX3_addName_100 : decode cX3_addName 100 = .ok (.if_icmp .ge 48, 3) := by decide +kernel
theorem dX3_addName_103 : decode cX3_addName 103 = .ok (.aload_n 0, 1) := by decide +kernel
theorem dX3_addName_104 : decode cX3_addName 104 = .ok (.getfield 25, 3) := by decide +kernel
theorem dX3_addName_107 : decode cX3_addName 107 = .ok (.iload 5, 2) := by decide +kernel
theorem dX3_addName_109 : decode cX3_addName 109 = .ok (.iaload, 1) := by decide +kernel
theorem dX3_addName_110 : decode cX3_addName 110 = .ok (.iload 4, 2) := by decide +kernel
theorem dX3_addName_112 : decode cX3_addName 112 = .ok (.iand, 1) := by decide +kernel
theorem dX3_addName_113 : decode cX3_addName 113 = .ok (.ifCond .ne 29, 3) := by decide +kernel
theorem dX3_addName_116 : decode cX3_addName 116 = .ok (.aload_n 0, 1) := by decide +kernel
theorem dX3_addName_117 : decode cX3_addName 117 = .ok (.getfield 28, 3) := by decide +kernel
theorem dX3_addName_120 : decode cX3_addName 120 = .ok (.iload_n 3, 1) := by decide +kernel
theorem dX3_addName_121 : decode cX3_addName 121 = .ok (.dup2, 1) := by decide +kernel
theorem dX3_addName_122 : decode cX3_addName 122 = .ok (.iaload, 1) := by decide +kernel
theorem dX3_addName_123 : decode cX3_addName 123 = .ok (.iconst 1, 1) := by decide +kernel
theorem dX3_addName_124 : decode cX3_addName 124 = .ok (.iload 5, 2) := by decide +kernel
theorem dX3_addName_126 : decode cX3_addName 126 = .ok (.ishl, 1) := by decide +kernel
theorem dX3_addName_127 : decode cX3_addName 127 = .ok (.ior, 1) := by decide +kernel
theorem dX3_addName_128 : decode cX3_addName 128 = .ok (.iastore, 1) := by decide +kernel
theorem dX3_addName_129 : decode cX3_addName 129 = .ok (.aload_n 0, 1) := by decide +kernel
theorem dX3_addName_130 : decode cX3_addName 130 = .ok (.getfield 28, 3) := by decide +kernel
theorem dX3_addName_133 : decode cX3_addName 133 = .ok (.iload 5, 2) := by decide +kernel
theorem dX3_addName_135 : decode cX3_addName 135 = .ok (.dup2, 1) := by decide +kernel
theorem dX3_addName_136 : decode cX3_addName 136 = .ok (.iaload, 1) := by decide +kernel
theorem dX3_addName_137 : decode cX3_addName 137 = .ok (.iconst 1, 1) := by decide +kernel
theorem dX3_addName_138 : decode cX3_addName 138 = .ok (.iload_n 3, 1) := by decide +kernel
theorem dX3_addName_139 : decode cX3_addName 139 = .ok (.ishl, 1) := by decide +kernel
theorem dX3_addName_140 : decode cX3_addName 140 = .ok (.ior, 1) := by decide +kernel
theorem dX3_addName_141 : decode cX3_addName 141 = .ok (.iastore, 1) := by decide +kernel
theorem dX3_addName_142 : decode cX3_addName 142 = .ok (.iinc 5 1, 3) := by decide +kernel
theorem dX3_addName_145 : decode cX3_addName 145 = .ok (.goto (-48), 3) := by decide +kernel
theorem dX3_addName_148 : decode cX3_addName 148 = .ok (.aload_n 0, 1) := by decide +kernel
theorem dX3_addName_149 : decode cX3_addName 149 = .ok (.dup, 1) := by decide +kernel
theorem dX3_addName_150 : decode cX3_addName 150 = .ok (.getfield 69, 3) := by decide +kernel
theorem dX3_addName_153 : decode cX3_addName 153 = .ok (.iconst 1, 1) := by decide +kernel
theorem dX3_addName_154 : decode cX3_addName 154 = .ok (.iadd, 1) := by decide +kernel
theorem dX3_addName_155 : decode cX3_addName 155 = .ok (.putfield 69, 3) := by decide +kernel
theorem dX3_addName_158 : decode cX3_addName 158 = .ok (.iload_n 3, 1) := by decide +kernel
theorem dX3_addName_159 : decode cX3_addName 159 = .ok (.ireturn, 1) := by decide +kernel
theorem dX3_letterAt_0 : decode cX3_letterAt 0 = .ok (.iload_n 2, 1) := by decide +kernel
theorem dX3_letterAt_1 : decode cX3_letterAt 1 = .ok (.ifCond .lt 27, 3) := by decide +kernel
theorem dX3_letterAt_4 : decode cX3_letterAt 4 = .ok (.iload_n 2, 1) := by decide +kernel
theorem dX3_letterAt_5 : decode cX3_letterAt 5 = .ok (.aload_n 0, 1) := by decide +kernel
theorem dX3_letterAt_6 : decode cX3_letterAt 6 = .ok (.getfield 19, 3) := by decide +kernel
theorem dX3_letterAt_9 : decode cX3_letterAt 9 = .ok (.iload_n 1, 1) := by decide +kernel
theorem dX3_letterAt_10 : decode cX3_letterAt 10 = .ok (.iaload, 1) := by decide +kernel
theorem dX3_letterAt_11 : decode cX3_letterAt 11 = .ok (.if_icmp .ge 17, 3) := by decide +kernel
theorem dX3_letterAt_14 : decode cX3_letterAt 14 = .ok (.aload_n 0, 1) := by decide +kernel
theorem dX3_letterAt_15 : decode cX3_letterAt 15 = .ok (.getfield 15, 3) := by decide +kernel
theorem dX3_letterAt_18 : decode cX3_letterAt 18 = .ok (.iload_n 1, 1) := by decide +kernel
theorem dX3_letterAt_19 : decode cX3_letterAt 19 = .ok (.bipush 8, 2) := by decide +kernel
theorem dX3_letterAt_21 : decode cX3_letterAt 21 = .ok (.imul, 1) := by decide +kernel
theorem dX3_letterAt_22 : decode cX3_letterAt 22 = .ok (.iload_n 2, 1) := by decide +kernel
theorem dX3_letterAt_23 : decode cX3_letterAt 23 = .ok (.iadd, 1) := by decide +kernel
theorem dX3_letterAt_24 : decode cX3_letterAt 24 = .ok (.iaload, 1) := by decide +kernel
theorem dX3_letterAt_25 : decode cX3_letterAt 25 = .ok (.goto 4, 3) := by decide +kernel
theorem dX3_letterAt_28 : decode cX3_letterAt 28 = .ok (.iconst (-1), 1) := by decide +kernel
theorem dX3_letterAt_29 : decode cX3_letterAt 29 = .ok (.ireturn, 1) := by decide +kernel
theorem dX3_addOne_0 : decode cX3_addOne 0 = .ok (.aload_n 0, 1) := by decide +kernel
theorem dX3_addOne_1 : decode cX3_addOne 1 = .ok (.getfield 72, 3) := by decide +kernel
theorem dX3_addOne_4 : decode cX3_addOne 4 = .ok (.istore_n 3, 1) := by decide +kernel
theorem dX3_addOne_5 : decode cX3_addOne 5 = .ok (.aload_n 0, 1) := by decide +kernel
theorem dX3_addOne_6 : decode cX3_addOne 6 = .ok (.getfield 31, 3) := by decide +kernel
theorem dX3_addOne_9 : decode cX3_addOne 9 = .ok (.iload_n 3, 1) := by decide +kernel
theorem dX3_addOne_10 : decode cX3_addOne 10 = .ok (.iload_n 1, 1) := by decide +kernel
theorem dX3_addOne_11 : decode cX3_addOne 11 = .ok (.iastore, 1) := by decide +kernel
theorem dX3_addOne_12 : decode cX3_addOne 12 = .ok (.aload_n 0, 1) := by decide +kernel
theorem dX3_addOne_13 : decode cX3_addOne 13 = .ok (.getfield 34, 3) := by decide +kernel
theorem dX3_addOne_16 : decode cX3_addOne 16 = .ok (.iload_n 3, 1) := by decide +kernel
theorem dX3_addOne_17 : decode cX3_addOne 17 = .ok (.iload_n 2, 1) := by decide +kernel
theorem dX3_addOne_18 : decode cX3_addOne 18 = .ok (.iastore, 1) := by decide +kernel
theorem dX3_addOne_19 : decode cX3_addOne 19 = .ok (.aload_n 0, 1) := by decide +kernel
theorem dX3_addOne_20 : decode cX3_addOne 20 = .ok (.getfield 37, 3) := by decide +kernel
theorem dX3_addOne_23 : decode cX3_addOne 23 = .ok (.iload_n 3, 1) := by decide +kernel
theorem dX3_addOne_24 : decode cX3_addOne 24 = .ok (.iconst (-1), 1) := by decide +kernel
theorem dX3_addOne_25 : decode cX3_addOne 25 = .ok (.iastore, 1) := by decide +kernel
theorem dX3_addOne_26 : decode cX3_addOne 26 = .ok (.aload_n 0, 1) := by decide +kernel
theorem dX3_addOne_27 : decode cX3_addOne 27 = .ok (.getfield 40, 3) := by decide +kernel
theorem dX3_addOne_30 : decode cX3_addOne 30 = .ok (.iload_n 3, 1) := by decide +kernel
theorem dX3_addOne_31 : decode cX3_addOne 31 = .ok (.iconst 0, 1) := by decide +kernel
theorem dX3_addOne_32 : decode cX3_addOne 32 = .ok (.iastore, 1) := by decide +kernel
theorem dX3_addOne_33 : decode cX3_addOne 33 = .ok (.aload_n 0, 1) := by decide +kernel
theorem dX3_addOne_34 : decode cX3_addOne 34 = .ok (.dup, 1) := by decide +kernel
theorem dX3_addOne_35 : decode cX3_addOne 35 = .ok (.getfield 72, 3) := by decide +kernel
theorem dX3_addOne_38 : decode cX3_addOne 38 = .ok (.iconst 1, 1) := by decide +kernel
theorem dX3_addOne_39 : decode cX3_addOne 39 = .ok (.iadd, 1) := by decide +kernel
theorem dX3_addOne_40 : decode cX3_addOne 40 = .ok (.putfield 72, 3) := by decide +kernel
theorem dX3_addOne_43 : decode cX3_addOne 43 = .ok (.iload_n 3, 1) := by decide +kernel
theorem dX3_addOne_44 : decode cX3_addOne 44 = .ok (.ireturn, 1) := by decide +kernel
theorem dX3_setBeside_0 : decode cX3_setBeside 0 = .ok (.aload_n 0, 1) := by decide +kernel
theorem dX3_setBeside_1 : decode cX3_setBeside 1 = .ok (.getfield 40, 3) := by decide +kernel
theorem dX3_setBeside_4 : decode cX3_setBeside 4 = .ok (.iload_n 1, 1) := by decide +kernel
theorem dX3_setBeside_5 : decode cX3_setBeside 5 = .ok (.aload_n 0, 1) := by decide +kernel
theorem dX3_setBeside_6 : decode cX3_setBeside 6 = .ok (.getfield 40, 3) := by decide +kernel
theorem dX3_setBeside_9 : decode cX3_setBeside 9 = .ok (.iload_n 1, 1) := by decide +kernel
theorem dX3_setBeside_10 : decode cX3_setBeside 10 = .ok (.iaload, 1) := by decide +kernel
theorem dX3_setBeside_11 : decode cX3_setBeside 11 = .ok (.iconst 1, 1) := by decide +kernel
theorem dX3_setBeside_12 : decode cX3_setBeside 12 = .ok (.iload_n 2, 1) := by decide +kernel
theorem dX3_setBeside_13 : decode cX3_setBeside 13 = .ok (.ishl, 1) := by decide +kernel
theorem dX3_setBeside_14 : decode cX3_setBeside 14 = .ok (.iconst (-1), 1) := by decide +kernel
theorem dX3_setBeside_15 : decode cX3_setBeside 15 = .ok (.ixor, 1) := by decide +kernel
theorem dX3_setBeside_16 : decode cX3_setBeside 16 = .ok (.iand, 1) := by decide +kernel
theorem dX3_setBeside_17 : decode cX3_setBeside 17 = .ok (.iload_n 3, 1) := by decide +kernel
theorem dX3_setBeside_18 : decode cX3_setBeside 18 = .ok (.iload_n 2, 1) := by decide +kernel
theorem dX3_setBeside_19 : decode cX3_setBeside 19 = .ok (.ishl, 1) := by decide +kernel
theorem dX3_setBeside_20 : decode cX3_setBeside 20 = .ok (.ior, 1) := by decide +kernel
theorem dX3_setBeside_21 : decode cX3_setBeside 21 = .ok (.iastore, 1) := by decide +kernel
theorem dX3_setBeside_22 : decode cX3_setBeside 22 = .ok (.aload_n 0, 1) := by decide +kernel
theorem dX3_setBeside_23 : decode cX3_setBeside 23 = .ok (.getfield 40, 3) := by decide +kernel
theorem dX3_setBeside_26 : decode cX3_setBeside 26 = .ok (.iload_n 2, 1) := by decide +kernel
theorem dX3_setBeside_27 : decode cX3_setBeside 27 = .ok (.aload_n 0, 1) := by decide +kernel
theorem dX3_setBeside_28 : decode cX3_setBeside 28 = .ok (.getfield 40, 3) := by decide +kernel
theorem dX3_setBeside_31 : decode cX3_setBeside 31 = .ok (.iload_n 2, 1) := by decide +kernel
theorem dX3_setBeside_32 : decode cX3_setBeside 32 = .ok (.iaload, 1) := by decide +kernel
theorem dX3_setBeside_33 : decode cX3_setBeside 33 = .ok (.iconst 1, 1) := by decide +kernel
theorem dX3_setBeside_34 : decode cX3_setBeside 34 = .ok (.iload_n 1, 1) := by decide +kernel
theorem dX3_setBeside_35 : decode cX3_setBeside 35 = .ok (.ishl, 1) := by decide +kernel
theorem dX3_setBeside_36 : decode cX3_setBeside 36 = .ok (.iconst (-1), 1) := by decide +kernel
theorem dX3_setBeside_37 : decode cX3_setBeside 37 = .ok (.ixor, 1) := by decide +kernel
theorem dX3_setBeside_38 : decode cX3_setBeside 38 = .ok (.iand, 1) := by decide +kernel
theorem dX3_setBeside_39 : decode cX3_setBeside 39 = .ok (.iload_n 3, 1) := by decide +kernel
theorem dX3_setBeside_40 : decode cX3_setBeside 40 = .ok (.iload_n 1, 1) := by decide +kernel
theorem dX3_setBeside_41 : decode cX3_setBeside 41 = .ok (.ishl, 1) := by decide +kernel
theorem dX3_setBeside_42 : decode cX3_setBeside 42 = .ok (.ior, 1) := by decide +kernel
theorem dX3_setBeside_43 : decode cX3_setBeside 43 = .ok (.iastore, 1) := by decide +kernel
theorem dX3_setBeside_44 : decode cX3_setBeside 44 = .ok (.return_, 1) := by decide +kernel
theorem dX3_lettersOf_0 : decode cX3_lettersOf 0 = .ok (.aload_n 0, 1) := by decide +kernel
theorem dX3_lettersOf_1 : decode cX3_lettersOf 1 = .ok (.getfield 37, 3) := by decide +kernel
theorem dX3_lettersOf_4 : decode cX3_lettersOf 4 = .ok (.iload_n 1, 1) := by decide +kernel
theorem dX3_lettersOf_5 : decode cX3_lettersOf 5 = .ok (.iaload, 1) := by decide +kernel
theorem dX3_lettersOf_6 : decode cX3_lettersOf 6 = .ok (.ifCond .lt 17, 3) := by decide +kernel
theorem dX3_lettersOf_9 : decode cX3_lettersOf 9 = .ok (.aload_n 0, 1) := by decide +kernel
theorem dX3_lettersOf_10 : decode cX3_lettersOf 10 = .ok (.getfield 25, 3) := by decide +kernel
theorem dX3_lettersOf_13 : decode cX3_lettersOf 13 = .ok (.aload_n 0, 1) := by decide +kernel
theorem dX3_lettersOf_14 : decode cX3_lettersOf 14 = .ok (.getfield 37, 3) := by decide +kernel
theorem dX3_lettersOf_17 : decode cX3_lettersOf 17 = .ok (.iload_n 1, 1) := by decide +kernel
theorem dX3_lettersOf_18 : decode cX3_lettersOf 18 = .ok (.iaload, 1) := by decide +kernel
theorem dX3_lettersOf_19 : decode cX3_lettersOf 19 = .ok (.iaload, 1) := by decide +kernel
theorem dX3_lettersOf_20 : decode cX3_lettersOf 20 = .ok (.goto 4, 3) := by decide +kernel
theorem dX3_lettersOf_23 : decode cX3_lettersOf 23 = .ok (.iconst 0, 1) := by decide +kernel
theorem dX3_lettersOf_24 : decode cX3_lettersOf 24 = .ok (.ireturn, 1) := by decide +kernel
theorem dX3_lettersOfMother_0 : decode cX3_lettersOfMother 0 = .ok (.aload_n 0, 1) := by decide +kernel
theorem dX3_lettersOfMother_1 : decode cX3_lettersOfMother 1 = .ok (.getfield 34, 3) := by decide +kernel
theorem dX3_lettersOfMother_4 : decode cX3_lettersOfMother 4 = .ok (.iload_n 1, 1) := by decide +kernel
theorem dX3_lettersOfMother_5 : decode cX3_lettersOfMother 5 = .ok (.iaload, 1) := by decide +kernel
theorem dX3_lettersOfMother_6 : decode cX3_lettersOfMother 6 = .ok (.ifCond .lt 16, 3) := by decide +kernel
theorem dX3_lettersOfMother_9 : decode cX3_lettersOfMother 9 = .ok (.aload_n 0, 1) := by decide +kernel
theorem dX3_lettersOfMother_10 : decode cX3_lettersOfMother 10 = .ok (.aload_n 0, 1) := by decide +kernel
theorem dX3_lettersOfMother_11 : decode cX3_lettersOfMother 11 = .ok (.getfield 34, 3) := by decide +kernel
theorem dX3_lettersOfMother_14 : decode cX3_lettersOfMother 14 = .ok (.iload_n 1, 1) := by decide +kernel
theorem dX3_lettersOfMother_15 : decode cX3_lettersOfMother 15 = .ok (.iaload, 1) := by decide +kernel
theorem dX3_lettersOfMother_16 : decode cX3_lettersOfMother 16 = .ok (.invokevirtual 89, 3) := by decide +kernel
theorem dX3_lettersOfMother_19 : decode cX3_lettersOfMother 19 = .ok (.goto 4, 3) := by decide +kernel
theorem dX3_lettersOfMother_22 : decode cX3_lettersOfMother 22 = .ok (.iconst 0, 1) := by decide +kernel
theorem dX3_lettersOfMother_23 : decode cX3_lettersOfMother 23 = .ok (.ireturn, 1) := by decide +kernel
theorem dX3_lettersInUse_0 : decode cX3_lettersInUse 0 = .ok (.iconst 0, 1) := by decide +kernel
theorem dX3_lettersInUse_1 : decode cX3_lettersInUse 1 = .ok (.istore_n 1, 1) := by decide +kernel
theorem dX3_lettersInUse_2 : decode cX3_lettersInUse 2 = .ok (.iconst 0, 1) := by decide +kernel
theorem dX3_lettersInUse_3 : decode cX3_lettersInUse 3 = .ok (.istore_n 2, 1) := by decide +kernel
theorem dX3_lettersInUse_4 : decode cX3_lettersInUse 4 = .ok (.iload_n 2, 1) := by decide +kernel
theorem dX3_lettersInUse_5 : decode cX3_lettersInUse 5 = .ok (.aload_n 0, 1) := by decide +kernel
theorem dX3_lettersInUse_6 : decode cX3_lettersInUse 6 = .ok (.getfield 72, 3) := by decide +kernel
theorem dX3_lettersInUse_9 : decode cX3_lettersInUse 9 = .ok (.if_icmp .ge 17, 3) := by decide +kernel
theorem dX3_lettersInUse_12 : decode cX3_lettersInUse 12 = .ok (.iload_n 1, 1) := by decide +kernel
theorem dX3_lettersInUse_13 : decode cX3_lettersInUse 13 = .ok (.aload_n 0, 1) := by decide +kernel
theorem dX3_lettersInUse_14 : decode cX3_lettersInUse 14 = .ok (.iload_n 2, 1) := by decide +kernel
theorem dX3_lettersInUse_15 : decode cX3_lettersInUse 15 = .ok (.invokevirtual 89, 3) := by decide +kernel
theorem dX3_lettersInUse_18 : decode cX3_lettersInUse 18 = .ok (.ior, 1) := by decide +kernel
theorem dX3_lettersInUse_19 : decode cX3_lettersInUse 19 = .ok (.istore_n 1, 1) := by decide +kernel
theorem dX3_lettersInUse_20 : decode cX3_lettersInUse 20 = .ok (.iinc 2 1, 3) := by decide +kernel
theorem dX3_lettersInUse_23 : decode cX3_lettersInUse 23 = .ok (.goto (-19), 3) := by decide +kernel
theorem dX3_lettersInUse_26 : decode cX3_lettersInUse 26 = .ok (.iload_n 1, 1) := by decide +kernel
theorem dX3_lettersInUse_27 : decode cX3_lettersInUse 27 = .ok (.ireturn, 1) := by decide +kernel
theorem dX3_holding_0 : decode cX3_holding 0 = .ok (.iconst 0, 1) := by decide +kernel
theorem dX3_holding_1 : decode cX3_holding 1 = .ok (.istore_n 2, 1) := by decide +kernel
theorem dX3_holding_2 : decode cX3_holding 2 = .ok (.iconst 0, 1) := by decide +kernel
theorem dX3_holding_3 : decode cX3_holding 3 = .ok (.istore_n 3, 1) := by decide +kernel
theorem dX3_holding_4 : decode cX3_holding 4 = .ok (.iload_n 3, 1) := by decide +kernel
theorem dX3_holding_5 : decode cX3_holding 5 = .ok (.aload_n 0, 1) := by decide +kernel
theorem dX3_holding_6 : decode cX3_holding 6 = .ok (.getfield 72, 3) := by decide +kernel
theorem dX3_holding_9 : decode cX3_holding 9 = .ok (.if_icmp .ge 25, 3) := by decide +kernel
theorem dX3_holding_12 : decode cX3_holding 12 = .ok (.aload_n 0, 1) := by decide +kernel
theorem dX3_holding_13 : decode cX3_holding 13 = .ok (.iload_n 3, 1) := by decide +kernel
theorem dX3_holding_14 : decode cX3_holding 14 = .ok (.invokevirtual 89, 3) := by decide +kernel
theorem dX3_holding_17 : decode cX3_holding 17 = .ok (.iload_n 1, 1) := by decide +kernel
theorem dX3_holding_18 : decode cX3_holding 18 = .ok (.iand, 1) := by decide +kernel
theorem dX3_holding_19 : decode cX3_holding 19 = .ok (.ifCond .eq 9, 3) := by decide +kernel
theorem dX3_holding_22 : decode cX3_holding 22 = .ok (.iload_n 2, 1) := by decide +kernel
theorem dX3_holding_23 : decode cX3_holding 23 = .ok (.iconst 1, 1) := by decide +kernel
theorem dX3_holding_24 : decode cX3_holding 24 = .ok (.iload_n 3, 1) := by decide +kernel
theorem dX3_holding_25 : decode cX3_holding 25 = .ok (.ishl, 1) := by decide +kernel
theorem dX3_holding_26 : decode cX3_holding 26 = .ok (.ior, 1) := by decide +kernel
theorem dX3_holding_27 : decode cX3_holding 27 = .ok (.istore_n 2, 1) := by decide +kernel
theorem dX3_holding_28 : decode cX3_holding 28 = .ok (.iinc 3 1, 3) := by decide +kernel
theorem dX3_holding_31 : decode cX3_holding 31 = .ok (.goto (-27), 3) := by decide +kernel
theorem dX3_holding_34 : decode cX3_holding 34 = .ok (.iload_n 2, 1) := by decide +kernel
theorem dX3_holding_35 : decode cX3_holding 35 = .ok (.ireturn, 1) := by decide +kernel
theorem dX3_clashing_0 : decode cX3_clashing 0 = .ok (.aload_n 0, 1) := by decide +kernel
theorem dX3_clashing_1 : decode cX3_clashing 1 = .ok (.getfield 40, 3) := by decide +kernel
theorem dX3_clashing_4 : decode cX3_clashing 4 = .ok (.iload_n 1, 1) := by decide +kernel
theorem dX3_clashing_5 : decode cX3_clashing 5 = .ok (.iaload, 1) := by decide +kernel
theorem dX3_clashing_6 : decode cX3_clashing 6 = .ok (.aload_n 0, 1) := by decide +kernel
theorem dX3_clashing_7 : decode cX3_clashing 7 = .ok (.aload_n 0, 1) := by decide +kernel
theorem dX3_clashing_8 : decode cX3_clashing 8 = .ok (.iload_n 1, 1) := by decide +kernel
theorem dX3_clashing_9 : decode cX3_clashing 9 = .ok (.invokevirtual 89, 3) := by decide +kernel
theorem dX3_clashing_12 : decode cX3_clashing 12 = .ok (.invokevirtual 93, 3) := by decide +kernel
theorem dX3_clashing_15 : decode cX3_clashing 15 = .ok (.iand, 1) := by decide +kernel
theorem dX3_clashing_16 : decode cX3_clashing 16 = .ok (.ireturn, 1) := by decide +kernel
theorem dX3_nameless_0 : decode cX3_nameless 0 = .ok (.iconst 0, 1) := by decide +kernel
theorem dX3_nameless_1 : decode cX3_nameless 1 = .ok (.istore_n 1, 1) := by decide +kernel
theorem dX3_nameless_2 : decode cX3_nameless 2 = .ok (.iconst 0, 1) := by decide +kernel
theorem dX3_nameless_3 : decode cX3_nameless 3 = .ok (.istore_n 2, 1) := by decide +kernel
theorem dX3_nameless_4 : decode cX3_nameless 4 = .ok (.iload_n 2, 1) := by decide +kernel
theorem dX3_nameless_5 : decode cX3_nameless 5 = .ok (.aload_n 0, 1) := by decide +kernel
theorem dX3_nameless_6 : decode cX3_nameless 6 = .ok (.getfield 72, 3) := by decide +kernel
theorem dX3_nameless_9 : decode cX3_nameless 9 = .ok (.if_icmp .ge 24, 3) := by decide +kernel
theorem dX3_nameless_12 : decode cX3_nameless 12 = .ok (.aload_n 0, 1) := by decide +kernel
theorem dX3_nameless_13 : decode cX3_nameless 13 = .ok (.getfield 37, 3) := by decide +kernel
theorem dX3_nameless_16 : decode cX3_nameless 16 = .ok (.iload_n 2, 1) := by decide +kernel
theorem dX3_nameless_17 : decode cX3_nameless 17 = .ok (.iaload, 1) := by decide +kernel
theorem dX3_nameless_18 : decode cX3_nameless 18 = .ok (.ifCond .ge 9, 3) := by decide +kernel
theorem dX3_nameless_21 : decode cX3_nameless 21 = .ok (.iload_n 1, 1) := by decide +kernel
theorem dX3_nameless_22 : decode cX3_nameless 22 = .ok (.iconst 1, 1) := by decide +kernel
theorem dX3_nameless_23 : decode cX3_nameless 23 = .ok (.iload_n 2, 1) := by decide +kernel
theorem dX3_nameless_24 : decode cX3_nameless 24 = .ok (.ishl, 1) := by decide +kernel
theorem dX3_nameless_25 : decode cX3_nameless 25 = .ok (.ior, 1) := by decide +kernel
theorem dX3_nameless_26 : decode cX3_nameless 26 = .ok (.istore_n 1, 1) := by decide +kernel
theorem dX3_nameless_27 : decode cX3_nameless 27 = .ok (.iinc 2 1, 3) := by decide +kernel
theorem dX3_nameless_30 : decode cX3_nameless 30 = .ok (.goto (-26), 3) := by decide +kernel
theorem dX3_nameless_33 : decode cX3_nameless 33 = .ok (.iload_n 1, 1) := by decide +kernel
theorem dX3_nameless_34 : decode cX3_nameless 34 = .ok (.ireturn, 1) := by decide +kernel
theorem dX3_isLawful_0 : decode cX3_isLawful 0 = .ok (.iconst 0, 1) := by decide +kernel
theorem dX3_isLawful_1 : decode cX3_isLawful 1 = .ok (.istore_n 1, 1) := by decide +kernel
theorem dX3_isLawful_2 : decode cX3_isLawful 2 = .ok (.iload_n 1, 1) := by decide +kernel
theorem dX3_isLawful_3 : decode cX3_isLawful 3 = .ok (.aload_n 0, 1) := by decide +kernel
theorem dX3_isLawful_4 : decode cX3_isLawful 4 = .ok (.getfield 72, 3) := by decide +kernel
theorem dX3_isLawful_7 : decode cX3_isLawful 7 = .ok (.if_icmp .ge 32, 3) := by decide +kernel
theorem dX3_isLawful_10 : decode cX3_isLawful 10 = .ok (.aload_n 0, 1) := by decide +kernel
theorem dX3_isLawful_11 : decode cX3_isLawful 11 = .ok (.iload_n 1, 1) := by decide +kernel
theorem dX3_isLawful_12 : decode cX3_isLawful 12 = .ok (.invokevirtual 89, 3) := by decide +kernel
theorem dX3_isLawful_15 : decode cX3_isLawful 15 = .ok (.aload_n 0, 1) := by decide +kernel
theorem dX3_isLawful_16 : decode cX3_isLawful 16 = .ok (.getfield 75, 3) := by decide +kernel
theorem dX3_isLawful_19 : decode cX3_isLawful 19 = .ok (.iand, 1) := by decide +kernel
theorem dX3_isLawful_20 : decode cX3_isLawful 20 = .ok (.ifCond .ne 11, 3) := by decide +kernel
theorem dX3_isLawful_23 : decode cX3_isLawful 23 = .ok (.aload_n 0, 1) := by decide +kernel
theorem dX3_isLawful_24 : decode cX3_isLawful 24 = .ok (.iload_n 1, 1) := by decide +kernel
theorem dX3_isLawful_25 : decode cX3_isLawful 25 = .ok (.invokevirtual 96, 3) := by decide +kernel
theorem dX3_isLawful_28 : decode cX3_isLawful 28 = .ok (.ifCond .eq 5, 3) := by decide +kernel
theorem dX3_isLawful_31 : decode cX3_isLawful 31 = .ok (.iconst 0, 1) := by decide +kernel
theorem dX3_isLawful_32 : decode cX3_isLawful 32 = .ok (.ireturn, 1) := by decide +kernel
theorem dX3_isLawful_33 : decode cX3_isLawful 33 = .ok (.iinc 1 1, 3) := by decide +kernel
theorem dX3_isLawful_36 : decode cX3_isLawful 36 = .ok (.goto (-34), 3) := by decide +kernel
theorem dX3_isLawful_39 : decode cX3_isLawful 39 = .ok (.iconst 1, 1) := by decide +kernel
theorem dX3_isLawful_40 : decode cX3_isLawful 40 = .ok (.ireturn, 1) := by decide +kernel
theorem dX3_unstruck_0 : decode cX3_unstruck 0 = .ok (.iconst 0, 1) := by decide +kernel
theorem dX3_unstruck_1 : decode cX3_unstruck 1 = .ok (.istore_n 1, 1) := by decide +kernel
theorem dX3_unstruck_2 : decode cX3_unstruck 2 = .ok (.iconst 0, 1) := by decide +kernel
theorem dX3_unstruck_3 : decode cX3_unstruck 3 = .ok (.istore_n 2, 1) := by decide +kernel
theorem dX3_unstruck_4 : decode cX3_unstruck 4 = .ok (.iload_n 2, 1) := by decide +kernel
theorem dX3_unstruck_5 : decode cX3_unstruck 5 = .ok (.aload_n 0, 1) := by decide +kernel
theorem dX3_unstruck_6 : decode cX3_unstruck 6 = .ok (.getfield 69, 3) := by decide +kernel
theorem dX3_unstruck_9 : decode cX3_unstruck 9 = .ok (.if_icmp .ge 29, 3) := by decide +kernel
theorem dX3_unstruck_12 : decode cX3_unstruck 12 = .ok (.aload_n 0, 1) := by decide +kernel
theorem dX3_unstruck_13 : decode cX3_unstruck 13 = .ok (.getfield 25, 3) := by decide +kernel
theorem dX3_unstruck_16 : decode cX3_unstruck 16 = .ok (.iload_n 2, 1) := by decide +kernel
theorem dX3_unstruck_17 : decode cX3_unstruck 17 = .ok (.iaload, 1) := by decide +kernel
theorem dX3_unstruck_18 : decode cX3_unstruck 18 = .ok (.aload_n 0, 1) := by decide +kernel
theorem dX3_unstruck_19 : decode cX3_unstruck 19 = .ok (.getfield 75, 3) := by decide +kernel
theorem dX3_unstruck_22 : decode cX3_unstruck 22 = .ok (.iand, 1) := by decide +kernel
theorem dX3_unstruck_23 : decode cX3_unstruck 23 = .ok (.ifCond .ne 9, 3) := by decide +kernel
theorem dX3_unstruck_26 : decode cX3_unstruck 26 = .ok (.iload_n 1, 1) := by decide +kernel
theorem dX3_unstruck_27 : decode cX3_unstruck 27 = .ok (.iconst 1, 1) := by decide +kernel
theorem dX3_unstruck_28 : decode cX3_unstruck 28 = .ok (.iload_n 2, 1) := by decide +kernel
theorem dX3_unstruck_29 : decode cX3_unstruck 29 = .ok (.ishl, 1) := by decide +kernel
theorem dX3_unstruck_30 : decode cX3_unstruck 30 = .ok (.ior, 1) := by decide +kernel
theorem dX3_unstruck_31 : decode cX3_unstruck 31 = .ok (.istore_n 1, 1) := by decide +kernel
theorem dX3_unstruck_32 : decode cX3_unstruck 32 = .ok (.iinc 2 1, 3) := by decide +kernel
theorem dX3_unstruck_35 : decode cX3_unstruck 35 = .ok (.goto (-31), 3) := by decide +kernel
theorem dX3_unstruck_38 : decode cX3_unstruck 38 = .ok (.iload_n 1, 1) := by decide +kernel
theorem dX3_unstruck_39 : decode cX3_unstruck 39 = .ok (.ireturn, 1) := by decide +kernel
theorem dX3_esteem_0 : decode cX3_esteem 0 = .ok (.aload_n 0, 1) := by decide +kernel
theorem dX3_esteem_1 : decode cX3_esteem 1 = .ok (.getfield 22, 3) := by decide +kernel
theorem dX3_esteem_4 : decode cX3_esteem 4 = .ok (.iload_n 2, 1) := by decide +kernel
theorem dX3_esteem_5 : decode cX3_esteem 5 = .ok (.iaload, 1) := by decide +kernel
theorem dX3_esteem_6 : decode cX3_esteem 6 = .ok (.istore 5, 2) := by decide +kernel
theorem dX3_esteem_8 : decode cX3_esteem 8 = .ok (.bipush 8, 2) := by decide +kernel
theorem dX3_esteem_10 : decode cX3_esteem 10 = .ok (.aload_n 0, 1) := by decide +kernel
theorem dX3_esteem_11 : decode cX3_esteem 11 = .ok (.getfield 19, 3) := by decide +kernel
theorem dX3_esteem_14 : decode cX3_esteem 14 = .ok (.iload_n 2, 1) := by decide +kernel
theorem dX3_esteem_15 : decode cX3_esteem 15 = .ok (.iaload, 1) := by decide +kernel
theorem dX3_esteem_16 : decode cX3_esteem 16 = .ok (.isub, 1) := by decide +kernel
theorem dX3_esteem_17 : decode cX3_esteem 17 = .ok (.iconst 5, 1) := by decide +kernel
theorem dX3_esteem_18 : decode cX3_esteem 18 = .ok (.imul, 1) := by decide +kernel
theorem dX3_esteem_19 : decode cX3_esteem 19 = .ok (.istore 6, 2) := by decide +kernel
theorem dX3_esteem_21 : decode cX3_esteem 21 = .ok (.aload_n 0, 1) := by decide +kernel
theorem dX3_esteem_22 : decode cX3_esteem 22 = .ok (.getfield 25, 3) := by decide +kernel
theorem dX3_esteem_25 : decode cX3_esteem 25 = .ok (.iload_n 2, 1) := by decide +kernel
theorem dX3_esteem_26 : decode cX3_esteem 26 = .ok (.iaload, 1) := by decide +kernel
theorem dX3_esteem_27 : decode cX3_esteem 27 = .ok (.iload_n 3, 1) := by decide +kernel
theorem dX3_esteem_28 : decode cX3_esteem 28 = .ok (.iand, 1) := by decide +kernel
theorem dX3_esteem_29 : decode cX3_esteem 29 = .ok (.invokestatic 99, 3) := by decide +kernel
theorem dX3_esteem_32 : decode cX3_esteem 32 = .ok (.bipush 10, 2) := by decide +kernel
theorem dX3_esteem_34 : decode cX3_esteem 34 = .ok (.imul, 1) := by decide +kernel
theorem dX3_esteem_35 : decode cX3_esteem 35 = .ok (.istore 7, 2) := by decide +kernel
theorem dX3_esteem_37 : decode cX3_esteem 37 = .ok (.iload_n 1, 1) := by decide +kernel
theorem dX3_esteem_38 : decode cX3_esteem 38 = .ok (.tableswitch 108 1 6 #[38, 44, 50, 65, 73, 93], 38) := by decide +kernel
theorem dX3_esteem_76 : decode cX3_esteem 76 = .ok (.iload 5, 2) := by decide +kernel
theorem dX3_esteem_78 : decode cX3_esteem 78 = .ok (.iload 6, 2) := by decide +kernel
theorem dX3_esteem_80 : decode cX3_esteem 80 = .ok (.iadd, 1) := by decide +kernel
theorem dX3_esteem_81 : decode cX3_esteem 81 = .ok (.ireturn, 1) := by decide +kernel
theorem dX3_esteem_82 : decode cX3_esteem 82 = .ok (.iload 5, 2) := by decide +kernel
theorem dX3_esteem_84 : decode cX3_esteem 84 = .ok (.iload 7, 2) := by decide +kernel
theorem dX3_esteem_86 : decode cX3_esteem 86 = .ok (.iadd, 1) := by decide +kernel
theorem dX3_esteem_87 : decode cX3_esteem 87 = .ok (.ireturn, 1) := by decide +kernel
theorem dX3_esteem_88 : decode cX3_esteem 88 = .ok (.iload 5, 2) := by decide +kernel
theorem dX3_esteem_90 : decode cX3_esteem 90 = .ok (.iload 4, 2) := by decide +kernel
theorem dX3_esteem_92 : decode cX3_esteem 92 = .ok (.ifCond .eq 8, 3) := by decide +kernel
theorem dX3_esteem_95 : decode cX3_esteem 95 = .ok (.bipush 30, 2) := by decide +kernel
theorem dX3_esteem_97 : decode cX3_esteem 97 = .ok (.goto 4, 3) := by decide +kernel
theorem dX3_esteem_100 : decode cX3_esteem 100 = .ok (.iconst 0, 1) := by decide +kernel
theorem dX3_esteem_101 : decode cX3_esteem 101 = .ok (.iadd, 1) := by decide +kernel
theorem dX3_esteem_102 : decode cX3_esteem 102 = .ok (.ireturn, 1) := by decide +kernel
theorem dX3_esteem_103 : decode cX3_esteem 103 = .ok (.iconst 2, 1) := by decide +kernel
theorem dX3_esteem_104 : decode cX3_esteem 104 = .ok (.iload 5, 2) := by decide +kernel
theorem dX3_esteem_106 : decode cX3_esteem 106 = .ok (.iload 7, 2) := by decide +kernel
theorem dX3_esteem_108 : decode cX3_esteem 108 = .ok (.iadd, 1) := by decide +kernel
theorem dX3_esteem_109 : decode cX3_esteem 109 = .ok (.imul, 1) := by decide +kernel
theorem dX3_esteem_110 : decode cX3_esteem 110 = .ok (.ireturn, 1) := by decide +kernel
theorem dX3_esteem_111 : decode cX3_esteem 111 = .ok (.aload_n 0, 1) := by decide +kernel
theorem dX3_esteem_112 : decode cX3_esteem 112 = .ok (.getfield 19, 3) := by decide +kernel
theorem dX3_esteem_115 : decode cX3_esteem 115 = .ok (.iload_n 2, 1) := by decide +kernel
theorem dX3_esteem_116 : decode cX3_esteem 116 = .ok (.iaload, 1) := by decide +kernel
theorem dX3_esteem_117 : decode cX3_esteem 117 = .ok (.iconst 4, 1) := by decide +kernel
theorem dX3_esteem_118 : decode cX3_esteem 118 = .ok (.if_icmp .le 7, 3) := by decide +kernel
theorem dX3_esteem_121 : decode cX3_esteem 121 = .ok (.iconst 0, 1) := by decide +kernel
theorem dX3_esteem_122 : decode cX3_esteem 122 = .ok (.goto 8, 3) := by decide +kernel
theorem dX3_esteem_125 : decode cX3_esteem 125 = .ok (.iload 5, 2) := by decide +kernel
theorem dX3_esteem_127 : decode cX3_esteem 127 = .ok (.iload 6, 2) := by decide +kernel
theorem dX3_esteem_129 : decode cX3_esteem 129 = .ok (.iadd, 1) := by decide +kernel
theorem dX3_esteem_130 : decode cX3_esteem 130 = .ok (.ireturn, 1) := by decide +kernel
theorem dX3_esteem_131 : decode cX3_esteem 131 = .ok (.iload 5, 2) := by decide +kernel
theorem dX3_esteem_133 : decode cX3_esteem 133 = .ok (.iload 4, 2) := by decide +kernel
theorem dX3_esteem_135 : decode cX3_esteem 135 = .ok (.ifCond .eq 8, 3) := by decide +kernel
theorem dX3_esteem_138 : decode cX3_esteem 138 = .ok (.bipush 80, 2) := by decide +kernel
theorem dX3_esteem_140 : decode cX3_esteem 140 = .ok (.goto 4, 3) := by decide +kernel
theorem dX3_esteem_143 : decode cX3_esteem 143 = .ok (.iconst 0, 1) := by decide +kernel
theorem dX3_esteem_144 : decode cX3_esteem 144 = .ok (.iadd, 1) := by decide +kernel
theorem dX3_esteem_145 : decode cX3_esteem 145 = .ok (.ireturn, 1) := by decide +kernel
theorem dX3_esteem_146 : decode cX3_esteem 146 = .ok (.iload 5, 2) := by decide +kernel
theorem dX3_esteem_148 : decode cX3_esteem 148 = .ok (.ireturn, 1) := by decide +kernel
theorem dX3_likesLaw_0 : decode cX3_likesLaw 0 = .ok (.aload_n 0, 1) := by decide +kernel
theorem dX3_likesLaw_1 : decode cX3_likesLaw 1 = .ok (.getfield 50, 3) := by decide +kernel
theorem dX3_likesLaw_4 : decode cX3_likesLaw 4 = .ok (.invokevirtual 104, 3) := by decide +kernel
theorem dX3_likesLaw_7 : decode cX3_likesLaw 7 = .ok (.ifCond .eq 5, 3) := by decide +kernel
theorem dX3_likesLaw_10 : decode cX3_likesLaw 10 = .ok (.iconst 0, 1) := by decide +kernel
theorem dX3_likesLaw_11 : decode cX3_likesLaw 11 = .ok (.ireturn, 1) := by decide +kernel
theorem dX3_likesLaw_12 : decode cX3_likesLaw 12 = .ok (.bipush (-99), 2) := by decide +kernel
theorem dX3_likesLaw_14 : decode cX3_likesLaw 14 = .ok (.bipush 99, 2) := by decide +kernel
theorem dX3_likesLaw_16 : decode cX3_likesLaw 16 = .ok (.aload_n 0, 1) := by decide +kernel
theorem dX3_likesLaw_17 : decode cX3_likesLaw 17 = .ok (.getfield 50, 3) := by decide +kernel
theorem dX3_likesLaw_20 : decode cX3_likesLaw 20 = .ok (.iload_n 1, 1) := by decide +kernel
theorem dX3_likesLaw_21 : decode cX3_likesLaw 21 = .ok (.iload_n 2, 1) := by decide +kernel
theorem dX3_likesLaw_22 : decode cX3_likesLaw 22 = .ok (.iload_n 3, 1) := by decide +kernel
theorem dX3_likesLaw_23 : decode cX3_likesLaw 23 = .ok (.invokevirtual 108, 3) := by decide +kernel
theorem dX3_likesLaw_26 : decode cX3_likesLaw 26 = .ok (.invokestatic 112, 3) := by decide +kernel
theorem dX3_likesLaw_29 : decode cX3_likesLaw 29 = .ok (.invokestatic 118, 3) := by decide +kernel
theorem dX3_likesLaw_32 : decode cX3_likesLaw 32 = .ok (.ireturn, 1) := by decide +kernel
theorem dX3_followsLaw_0 : decode cX3_followsLaw 0 = .ok (.aload_n 0, 1) := by decide +kernel
theorem dX3_followsLaw_1 : decode cX3_followsLaw 1 = .ok (.getfield 46, 3) := by decide +kernel
theorem dX3_followsLaw_4 : decode cX3_followsLaw 4 = .ok (.invokevirtual 104, 3) := by decide +kernel
theorem dX3_followsLaw_7 : decode cX3_followsLaw 7 = .ok (.ifCond .eq 28, 3) := by decide +kernel
theorem dX3_followsLaw_10 : decode cX3_followsLaw 10 = .ok (.iload_n 3, 1) := by decide +kernel
theorem dX3_followsLaw_11 : decode cX3_followsLaw 11 = .ok (.ifCond .eq 14, 3) := by decide +kernel
theorem dX3_followsLaw_14 : decode cX3_followsLaw 14 = .ok (.iload_n 1, 1) := by decide +kernel
theorem dX3_followsLaw_15 : decode cX3_followsLaw 15 = .ok (.invokestatic 121, 3) := by decide +kernel
theorem dX3_followsLaw_18 : decode cX3_followsLaw 18 = .ok (.iload_n 2, 1) := by decide +kernel
theorem dX3_followsLaw_19 : decode cX3_followsLaw 19 = .ok (.invokestatic 121, 3) := by decide +kernel
theorem dX3_followsLaw_22 : decode cX3_followsLaw 22 = .ok (.if_icmp .eq 7, 3) := by decide +kernel
theorem dX3_followsLaw_25 : decode cX3_followsLaw 25 = .ok (.iconst 1, 1) := by decide +kernel
theorem dX3_followsLaw_26 : decode cX3_followsLaw 26 = .ok (.goto 4, 3) := by decide +kernel
theorem dX3_followsLaw_29 : decode cX3_followsLaw 29 = .ok (.iconst 0, 1) := by decide +kernel
theorem dX3_followsLaw_30 : decode cX3_followsLaw 30 = .ok (.istore 4, 2) := by decide +kernel
theorem dX3_followsLaw_32 : decode cX3_followsLaw 32 = .ok (.goto 23, 3) := by decide +kernel
theorem dX3_followsLaw_35 : decode cX3_followsLaw 35 = .ok (.aload_n 0, 1) := by decide +kernel
theorem dX3_followsLaw_36 : decode cX3_followsLaw 36 = .ok (.getfield 46, 3) := by decide +kernel
theorem dX3_followsLaw_39 : decode cX3_followsLaw 39 = .ok (.iload_n 1, 1) := by decide +kernel
theorem dX3_followsLaw_40 : decode cX3_followsLaw 40 = .ok (.iload_n 2, 1) := by decide +kernel
theorem dX3_followsLaw_41 : decode cX3_followsLaw 41 = .ok (.iload_n 3, 1) := by decide +kernel
theorem dX3_followsLaw_42 : decode cX3_followsLaw 42 = .ok (.invokevirtual 108, 3) := by decide +kernel
theorem dX3_followsLaw_45 : decode cX3_followsLaw 45 = .ok (.ifCond .eq 7, 3) := by decide +kernel
theorem dX3_followsLaw_48 : decode cX3_followsLaw 48 = .ok (.iconst 1, 1) := by decide +kernel
theorem dX3_followsLaw_49 : decode cX3_followsLaw 49 = .ok (.goto 4, 3) := by decide +kernel
theorem dX3_followsLaw_52 : decode cX3_followsLaw 52 = .ok (.iconst 0, 1) := by decide +kernel
theorem dX3_followsLaw_53 : decode cX3_followsLaw 53 = .ok (.istore 4, 2) := by decide +kernel
theorem dX3_followsLaw_55 : decode cX3_followsLaw 55 = .ok (.iload 4, 2) := by decide +kernel
theorem dX3_followsLaw_57 : decode cX3_followsLaw 57 = .ok (.ifCond .eq 7, 3) := by decide +kernel
theorem dX3_followsLaw_60 : decode cX3_followsLaw 60 = .ok (.iconst 1, 1) := by decide +kernel
theorem dX3_followsLaw_61 : decode cX3_followsLaw 61 = .ok (.goto 4, 3) := by decide +kernel
theorem dX3_followsLaw_64 : decode cX3_followsLaw 64 = .ok (.iconst 0, 1) := by decide +kernel
theorem dX3_followsLaw_65 : decode cX3_followsLaw 65 = .ok (.ireturn, 1) := by decide +kernel
theorem dX3_isVowel_0 : decode cX3_isVowel 0 = .ok (.iload_n 0, 1) := by decide +kernel
theorem dX3_isVowel_1 : decode cX3_isVowel 1 = .ok (.ifCond .eq 26, 3) := by decide +kernel
theorem dX3_isVowel_4 : decode cX3_isVowel 4 = .ok (.iload_n 0, 1) := by decide +kernel
theorem dX3_isVowel_5 : decode cX3_isVowel 5 = .ok (.iconst 4, 1) := by decide +kernel
theorem dX3_isVowel_6 : decode cX3_isVowel 6 = .ok (.if_icmp .eq 21, 3) := by decide +kernel
theorem dX3_isVowel_9 : decode cX3_isVowel 9 = .ok (.iload_n 0, 1) := by decide +kernel
theorem dX3_isVowel_10 : decode cX3_isVowel 10 = .ok (.bipush 8, 2) := by decide +kernel
theorem dX3_isVowel_12 : decode cX3_isVowel 12 = .ok (.if_icmp .eq 15, 3) := by decide +kernel
theorem dX3_isVowel_15 : decode cX3_isVowel 15 = .ok (.iload_n 0, 1) := by decide +kernel
theorem dX3_isVowel_16 : decode cX3_isVowel 16 = .ok (.bipush 14, 2) := by decide +kernel
theorem dX3_isVowel_18 : decode cX3_isVowel 18 = .ok (.if_icmp .eq 9, 3) := by decide +kernel
theorem dX3_isVowel_21 : decode cX3_isVowel 21 = .ok (.iload_n 0, 1) := by decide +kernel
theorem dX3_isVowel_22 : decode cX3_isVowel 22 = .ok (.bipush 20, 2) := by decide +kernel
theorem dX3_isVowel_24 : decode cX3_isVowel 24 = .ok (.if_icmp .ne 7, 3) := by decide +kernel
theorem dX3_isVowel_27 : decode cX3_isVowel 27 = .ok (.iconst 1, 1) := by decide +kernel
theorem dX3_isVowel_28 : decode cX3_isVowel 28 = .ok (.goto 4, 3) := by decide +kernel
theorem dX3_isVowel_31 : decode cX3_isVowel 31 = .ok (.iconst 0, 1) := by decide +kernel
theorem dX3_isVowel_32 : decode cX3_isVowel 32 = .ok (.ireturn, 1) := by decide +kernel
theorem dX3_draw_0 : decode cX3_draw 0 = .ok (.aload_n 0, 1) := by decide +kernel
theorem dX3_draw_1 : decode cX3_draw 1 = .ok (.aload_n 0, 1) := by decide +kernel
theorem dX3_draw_2 : decode cX3_draw 2 = .ok (.getfield 53, 3) := by decide +kernel
theorem dX3_draw_5 : decode cX3_draw 5 = .ok (.ldc 124, 2) := by decide +kernel
theorem dX3_draw_7 : decode cX3_draw 7 = .ok (.imul, 1) := by decide +kernel
theorem dX3_draw_8 : decode cX3_draw 8 = .ok (.sipush 12345, 3) := by decide +kernel
theorem dX3_draw_11 : decode cX3_draw 11 = .ok (.iadd, 1) := by decide +kernel
theorem dX3_draw_12 : decode cX3_draw 12 = .ok (.putfield 53, 3) := by decide +kernel
theorem dX3_draw_15 : decode cX3_draw 15 = .ok (.aload_n 0, 1) := by decide +kernel
theorem dX3_draw_16 : decode cX3_draw 16 = .ok (.getfield 53, 3) := by decide +kernel
theorem dX3_draw_19 : decode cX3_draw 19 = .ok (.bipush 8, 2) := by decide +kernel
theorem dX3_draw_21 : decode cX3_draw 21 = .ok (.iushr, 1) := by decide +kernel
theorem dX3_draw_22 : decode cX3_draw 22 = .ok (.ireturn, 1) := by decide +kernel
theorem dX3_bear_0 : decode cX3_bear 0 = .ok (.aload_n 0, 1) := by decide +kernel
theorem dX3_bear_1 : decode cX3_bear 1 = .ok (.invokevirtual 125, 3) := by decide +kernel
theorem dX3_bear_4 : decode cX3_bear 4 = .ok (.bipush 7, 2) := by decide +kernel
theorem dX3_bear_6 : decode cX3_bear 6 = .ok (.irem, 1) := by decide +kernel
theorem dX3_bear_7 : decode cX3_bear 7 = .ok (.istore_n 1, 1) := by decide +kernel
theorem dX3_bear_8 : decode cX3_bear 8 = .ok (.aload_n 0, 1) := by decide +kernel
theorem dX3_bear_9 : decode cX3_bear 9 = .ok (.getfield 72, 3) := by decide +kernel
theorem dX3_bear_12 : decode cX3_bear 12 = .ok (.ifCond .le 15, 3) := by decide +kernel
theorem dX3_bear_15 : decode cX3_bear 15 = .ok (.aload_n 0, 1) := by decide +kernel
theorem dX3_bear_16 : decode cX3_bear 16 = .ok (.invokevirtual 125, 3) := by decide +kernel
theorem dX3_bear_19 : decode cX3_bear 19 = .ok (.aload_n 0, 1) := by decide +kernel
theorem dX3_bear_20 : decode cX3_bear 20 = .ok (.getfield 72, 3) := by decide +kernel
theorem dX3_bear_23 : decode cX3_bear 23 = .ok (.irem, 1) := by decide +kernel
theorem dX3_bear_24 : decode cX3_bear 24 = .ok (.goto 4, 3) := by decide +kernel
theorem dX3_bear_27 : decode cX3_bear 27 = .ok (.iconst (-1), 1) := by decide +kernel
theorem dX3_bear_28 : decode cX3_bear 28 = .ok (.istore_n 2, 1) := by decide +kernel
theorem dX3_bear_29 : decode cX3_bear 29 = .ok (.aload_n 0, 1) := by decide +kernel
theorem dX3_bear_30 : decode cX3_bear 30 = .ok (.iload_n 1, 1) := by decide +kernel
theorem dX3_bear_31 : decode cX3_bear 31 = .ok (.iload_n 2, 1) := by decide +kernel
theorem dX3_bear_32 : decode cX3_bear 32 = .ok (.invokevirtual 129, 3) := by decide +kernel
theorem dX3_bear_35 : decode cX3_bear 35 = .ok (.istore_n 3, 1) := by decide +kernel
theorem dX3_bear_36 : decode cX3_bear 36 = .ok (.iload_n 2, 1) := by decide +kernel
theorem dX3_bear_37 : decode cX3_bear 37 = .ok (.ifCond .lt 10, 3) := by decide +kernel
theorem dX3_bear_40 : decode cX3_bear 40 = .ok (.aload_n 0, 1) := by decide +kernel
theorem dX3_bear_41 : decode cX3_bear 41 = .ok (.iload_n 3, 1) := by decide +kernel
theorem dX3_bear_42 : decode cX3_bear 42 = .ok (.iload_n 2, 1) := by decide +kernel
theorem dX3_bear_43 : decode cX3_bear 43 = .ok (.iconst 1, 1) := by decide +kernel
theorem dX3_bear_44 : decode cX3_bear 44 = .ok (.invokevirtual 132, 3) := by decide +kernel
theorem dX3_bear_47 : decode cX3_bear 47 = .ok (.iload_n 3, 1) := by decide +kernel
theorem dX3_bear_48 : decode cX3_bear 48 = .ok (.ifCond .le 12, 3) := by decide +kernel
theorem dX3_bear_51 : decode cX3_bear 51 = .ok (.aload_n 0, 1) := by decide +kernel
theorem dX3_bear_52 : decode cX3_bear 52 = .ok (.iload_n 3, 1) := by decide +kernel
theorem dX3_bear_53 : decode cX3_bear 53 = .ok (.iload_n 3, 1) := by decide +kernel
theorem dX3_bear_54 : decode cX3_bear 54 = .ok (.iconst 1, 1) := by decide +kernel
theorem dX3_bear_55 : decode cX3_bear 55 = .ok (.isub, 1) := by decide +kernel
theorem dX3_bear_56 : decode cX3_bear 56 = .ok (.iconst 1, 1) := by decide +kernel
theorem dX3_bear_57 : decode cX3_bear 57 = .ok (.invokevirtual 132, 3) := by decide +kernel
theorem dX3_bear_60 : decode cX3_bear 60 = .ok (.aload_n 0, 1) := by decide +kernel
theorem dX3_bear_61 : decode cX3_bear 61 = .ok (.invokevirtual 125, 3) := by decide +kernel
theorem dX3_bear_64 : decode cX3_bear 64 = .ok (.iconst 1, 1) := by decide +kernel
theorem dX3_bear_65 : decode cX3_bear 65 = .ok (.aload_n 0, 1) := by decide +kernel
theorem dX3_bear_66 : decode cX3_bear 66 = .ok (.getfield 69, 3) := by decide +kernel
theorem dX3_bear_69 : decode cX3_bear 69 = .ok (.invokestatic 118, 3) := by decide +kernel
theorem dX3_bear_72 : decode cX3_bear 72 = .ok (.irem, 1) := by decide +kernel
theorem dX3_bear_73 : decode cX3_bear 73 = .ok (.istore 4, 2) := by decide +kernel
theorem dX3_bear_75 : decode cX3_bear 75 = .ok (.aload_n 0, 1) := by decide +kernel
theorem dX3_bear_76 : decode cX3_bear 76 = .ok (.iload_n 3, 1) := by decide +kernel
theorem dX3_bear_77 : decode cX3_bear 77 = .ok (.invokevirtual 136, 3) := by decide +kernel
theorem dX3_bear_80 : decode cX3_bear 80 = .ok (.istore 5, 2) := by decide +kernel
theorem dX3_bear_82 : decode cX3_bear 82 = .ok (.iconst 0, 1) := by decide +kernel
theorem dX3_bear_83 : decode cX3_bear 83 = .ok (.istore 6, 2) := by decide +kernel
theorem dX3_bear_85 : decode cX3_bear 85 = .ok (.iload 6, 2) := by decide +kernel
theorem dX3_bear_87 : decode cX3_bear 87 = .ok (.aload_n 0, 1) := by decide +kernel
theorem dX3_bear_88 : decode cX3_bear 88 = .ok (.getfield 69, 3) := by decide +kernel
theorem dX3_bear_91 : decode cX3_bear 91 = .ok (.if_icmp .ge 61, 3) := by decide +kernel
theorem dX3_bear_94 : decode cX3_bear 94 = .ok (.iload 4, 2) := by decide +kernel
theorem dX3_bear_96 : decode cX3_bear 96 = .ok (.iload 6, 2) := by decide +kernel
theorem dX3_bear_98 : decode cX3_bear 98 = .ok (.iadd, 1) := by decide +kernel
theorem dX3_bear_99 : decode cX3_bear 99 = .ok (.aload_n 0, 1) := by decide +kernel
theorem dX3_bear_100 : decode cX3_bear 100 = .ok (.getfield 69, 3) := by decide +kernel
theorem dX3_bear_103 : decode cX3_bear 103 = .ok (.if_icmp .ge 11, 3) := by decide +kernel
theorem dX3_bear_106 : decode cX3_bear 106 = .ok (.iload 4, 2) := by decide +kernel
theorem dX3_bear_108 : decode cX3_bear 108 = .ok (.iload 6, 2) := by decide +kernel
theorem dX3_bear_110 : decode cX3_bear 110 = .ok (.iadd, 1) := by decide +kernel
theorem dX3_bear_111 : decode cX3_bear 111 = .ok (.goto 13, 3) := by decide +kernel
theorem dX3_bear_114 : decode cX3_bear 114 = .ok (.iload 4, 2) := by decide +kernel
theorem dX3_bear_116 : decode cX3_bear 116 = .ok (.iload 6, 2) := by decide +kernel
theorem dX3_bear_118 : decode cX3_bear 118 = .ok (.iadd, 1) := by decide +kernel
theorem dX3_bear_119 : decode cX3_bear 119 = .ok (.aload_n 0, 1) := by decide +kernel
theorem dX3_bear_120 : decode cX3_bear 120 = .ok (.getfield 69, 3) := by decide +kernel
theorem dX3_bear_123 : decode cX3_bear 123 = .ok (.isub, 1) := by decide +kernel
theorem dX3_bear_124 : decode cX3_bear 124 = .ok (.istore 7, 2) := by decide +kernel
theorem dX3_bear_126 : decode cX3_bear 126 = .ok (.iload 5, 2) := by decide +kernel
theorem dX3_bear_128 : decode cX3_bear 128 = .ok (.iload 7, 2) := by decide +kernel
theorem dX3_bear_130 : decode cX3_bear 130 = .ok (.ishr, 1) := by decide +kernel
theorem dX3_bear_131 : decode cX3_bear 131 = .ok (.iconst 1, 1) := by decide +kernel
theorem dX3_bear_132 : decode cX3_bear 132 = .ok (.iand, 1) := by decide +kernel
theorem dX3_bear_133 : decode cX3_bear 133 = .ok (.ifCond .eq 13, 3) := by decide +kernel
theorem dX3_bear_136 : decode cX3_bear 136 = .ok (.aload_n 0, 1) := by decide +kernel
theorem dX3_bear_137 : decode cX3_bear 137 = .ok (.getfield 37, 3) := by decide +kernel
theorem dX3_bear_140 : decode cX3_bear 140 = .ok (.iload_n 3, 1) := by decide +kernel
theorem dX3_bear_141 : decode cX3_bear 141 = .ok (.iload 7, 2) := by decide +kernel
theorem dX3_bear_143 : decode cX3_bear 143 = .ok (.iastore, 1) := by decide +kernel
theorem dX3_bear_144 : decode cX3_bear 144 = .ok (.iconst 1, 1) := by decide +kernel
theorem dX3_bear_145 : decode cX3_bear 145 = .ok (.ireturn, 1) := by decide +kernel
theorem dX3_bear_146 : decode cX3_bear 146 = .ok (.iinc 6 1, 3) := by decide +kernel
theorem dX3_bear_149 : decode cX3_bear 149 = .ok (.goto (-64), 3) := by decide +kernel
theorem dX3_bear_152 : decode cX3_bear 152 = .ok (.iconst 0, 1) := by decide +kernel
theorem dX3_bear_153 : decode cX3_bear 153 = .ok (.ireturn, 1) := by decide +kernel
theorem dX3_freeBeside_0 : decode cX3_freeBeside 0 = .ok (.aload_n 0, 1) := by decide +kernel
theorem dX3_freeBeside_1 : decode cX3_freeBeside 1 = .ok (.invokevirtual 139, 3) := by decide +kernel
theorem dX3_freeBeside_4 : decode cX3_freeBeside 4 = .ok (.istore_n 2, 1) := by decide +kernel
theorem dX3_freeBeside_5 : decode cX3_freeBeside 5 = .ok (.iconst 0, 1) := by decide +kernel
theorem dX3_freeBeside_6 : decode cX3_freeBeside 6 = .ok (.istore_n 3, 1) := by decide +kernel
theorem dX3_freeBeside_7 : decode cX3_freeBeside 7 = .ok (.iload_n 3, 1) := by decide +kernel
theorem dX3_freeBeside_8 : decode cX3_freeBeside 8 = .ok (.aload_n 0, 1) := by decide +kernel
theorem dX3_freeBeside_9 : decode cX3_freeBeside 9 = .ok (.getfield 72, 3) := by decide +kernel
theorem dX3_freeBeside_12 : decode cX3_freeBeside 12 = .ok (.if_icmp .ge 45, 3) := by decide +kernel
theorem dX3_freeBeside_15 : decode cX3_freeBeside 15 = .ok (.aload_n 0, 1) := by decide +kernel
theorem dX3_freeBeside_16 : decode cX3_freeBeside 16 = .ok (.getfield 40, 3) := by decide +kernel
theorem dX3_freeBeside_19 : decode cX3_freeBeside 19 = .ok (.iload_n 1, 1) := by decide +kernel
theorem dX3_freeBeside_20 : decode cX3_freeBeside 20 = .ok (.iaload, 1) := by decide +kernel
theorem dX3_freeBeside_21 : decode cX3_freeBeside 21 = .ok (.iload_n 3, 1) := by decide +kernel
theorem dX3_freeBeside_22 : decode cX3_freeBeside 22 = .ok (.ishr, 1) := by decide +kernel
theorem dX3_freeBeside_23 : decode cX3_freeBeside 23 = .ok (.iconst 1, 1) := by decide +kernel
theorem dX3_freeBeside_24 : decode cX3_freeBeside 24 = .ok (.iand, 1) := by decide +kernel
theorem dX3_freeBeside_25 : decode cX3_freeBeside 25 = .ok (.ifCond .eq 26, 3) := by decide +kernel
theorem dX3_freeBeside_28 : decode cX3_freeBeside 28 = .ok (.aload_n 0, 1) := by decide +kernel
theorem dX3_freeBeside_29 : decode cX3_freeBeside 29 = .ok (.getfield 37, 3) := by decide +kernel
theorem dX3_freeBeside_32 : decode cX3_freeBeside 32 = .ok (.iload_n 3, 1) := by decide +kernel
theorem dX3_freeBeside_33 : decode cX3_freeBeside 33 = .ok (.iaload, 1) := by decide +kernel
theorem dX3_freeBeside_34 : decode cX3_freeBeside 34 = .ok (.ifCond .lt 17, 3) := by decide +kernel
theorem dX3_freeBeside_37 : decode cX3_freeBeside 37 = .ok (.iload_n 2, 1) := by decide +kernel
theorem dX3_freeBeside_38 : decode cX3_freeBeside 38 = .ok (.aload_n 0, 1) := by decide +kernel
theorem dX3_freeBeside_39 : decode cX3_freeBeside 39 = .ok (.getfield 28, 3) := by decide +kernel
theorem dX3_freeBeside_42 : decode cX3_freeBeside 42 = .ok (.aload_n 0, 1) := by decide +kernel
theorem dX3_freeBeside_43 : decode cX3_freeBeside 43 = .ok (.getfield 37, 3) := by decide +kernel
theorem dX3_freeBeside_46 : decode cX3_freeBeside 46 = .ok (.iload_n 3, 1) := by decide +kernel
theorem dX3_freeBeside_47 : decode cX3_freeBeside 47 = .ok (.iaload, 1) := by decide +kernel
theorem dX3_freeBeside_48 : decode cX3_freeBeside 48 = .ok (.iaload, 1) := by decide +kernel
theorem dX3_freeBeside_49 : decode cX3_freeBeside 49 = .ok (.iand, 1) := by decide +kernel
theorem dX3_freeBeside_50 : decode cX3_freeBeside 50 = .ok (.istore_n 2, 1) := by decide +kernel
theorem dX3_freeBeside_51 : decode cX3_freeBeside 51 = .ok (.iinc 3 1, 3) := by decide +kernel
theorem dX3_freeBeside_54 : decode cX3_freeBeside 54 = .ok (.goto (-47), 3) := by decide +kernel
theorem dX3_freeBeside_57 : decode cX3_freeBeside 57 = .ok (.iload_n 2, 1) := by decide +kernel
theorem dX3_freeBeside_58 : decode cX3_freeBeside 58 = .ok (.ireturn, 1) := by decide +kernel
theorem dX3_firstWrong_0 : decode cX3_firstWrong 0 = .ok (.aload_n 0, 1) := by decide +kernel
theorem dX3_firstWrong_1 : decode cX3_firstWrong 1 = .ok (.getfield 82, 3) := by decide +kernel
theorem dX3_firstWrong_4 : decode cX3_firstWrong 4 = .ok (.aload_n 0, 1) := by decide +kernel
theorem dX3_firstWrong_5 : decode cX3_firstWrong 5 = .ok (.getfield 72, 3) := by decide +kernel
theorem dX3_firstWrong_8 : decode cX3_firstWrong 8 = .ok (.invokestatic 118, 3) := by decide +kernel
theorem dX3_firstWrong_11 : decode cX3_firstWrong 11 = .ok (.istore_n 1, 1) := by decide +kernel
theorem dX3_firstWrong_12 : decode cX3_firstWrong 12 = .ok (.iconst 0, 1) := by decide +kernel
theorem dX3_firstWrong_13 : decode cX3_firstWrong 13 = .ok (.istore_n 2, 1) := by decide +kernel
theorem dX3_firstWrong_14 : decode cX3_firstWrong 14 = .ok (.iload_n 2, 1) := by decide +kernel
theorem dX3_firstWrong_15 : decode cX3_firstWrong 15 = .ok (.iload_n 1, 1) := by decide +kernel
theorem dX3_firstWrong_16 : decode cX3_firstWrong 16 = .ok (.if_icmp .ge 35, 3) := by decide +kernel
theorem dX3_firstWrong_19 : decode cX3_firstWrong 19 = .ok (.iload_n 2, 1) := by decide +kernel
theorem dX3_firstWrong_20 : decode cX3_firstWrong 20 = .ok (.aload_n 0, 1) := by decide +kernel
theorem dX3_firstWrong_21 : decode cX3_firstWrong 21 = .ok (.getfield 82, 3) := by decide +kernel
theorem dX3_firstWrong_24 : decode cX3_firstWrong 24 = .ok (.if_icmp .ge 19, 3) := by decide +kernel
theorem dX3_firstWrong_27 : decode cX3_firstWrong 27 = .ok (.iload_n 2, 1) := by decide +kernel
theorem dX3_firstWrong_28 : decode cX3_firstWrong 28 = .ok (.aload_n 0, 1) := by decide +kernel
theorem dX3_firstWrong_29 : decode cX3_firstWrong 29 = .ok (.getfield 72, 3) := by decide +kernel
theorem dX3_firstWrong_32 : decode cX3_firstWrong 32 = .ok (.if_icmp .ge 11, 3) := by decide +kernel
theorem dX3_firstWrong_35 : decode cX3_firstWrong 35 = .ok (.aload_n 0, 1) := by decide +kernel
theorem dX3_firstWrong_36 : decode cX3_firstWrong 36 = .ok (.iload_n 2, 1) := by decide +kernel
theorem dX3_firstWrong_37 : decode cX3_firstWrong 37 = .ok (.invokevirtual 142, 3) := by decide +kernel
theorem dX3_firstWrong_40 : decode cX3_firstWrong 40 = .ok (.ifCond .ne 5, 3) := by decide +kernel
theorem dX3_firstWrong_43 : decode cX3_firstWrong 43 = .ok (.iload_n 2, 1) := by decide +kernel
theorem dX3_firstWrong_44 : decode cX3_firstWrong 44 = .ok (.ireturn, 1) := by decide +kernel
theorem dX3_firstWrong_45 : decode cX3_firstWrong 45 = .ok (.iinc 2 1, 3) := by decide +kernel
theorem dX3_firstWrong_48 : decode cX3_firstWrong 48 = .ok (.goto (-34), 3) := by decide +kernel
theorem dX3_firstWrong_51 : decode cX3_firstWrong 51 = .ok (.iconst (-1), 1) := by decide +kernel
theorem dX3_firstWrong_52 : decode cX3_firstWrong 52 = .ok (.ireturn, 1) := by decide +kernel
theorem dX3_standsWell_0 : decode cX3_standsWell 0 = .ok (.aload_n 0, 1) := by decide +kernel
theorem dX3_standsWell_1 : decode cX3_standsWell 1 = .ok (.getfield 57, 3) := by decide +kernel
theorem dX3_standsWell_4 : decode cX3_standsWell 4 = .ok (.iload_n 1, 1) := by decide +kernel
theorem dX3_standsWell_5 : decode cX3_standsWell 5 = .ok (.iaload, 1) := by decide +kernel
theorem dX3_standsWell_6 : decode cX3_standsWell 6 = .ok (.istore_n 2, 1) := by decide +kernel
theorem dX3_standsWell_7 : decode cX3_standsWell 7 = .ok (.aload_n 0, 1) := by decide +kernel
theorem dX3_standsWell_8 : decode cX3_standsWell 8 = .ok (.iload_n 2, 1) := by decide +kernel
theorem dX3_standsWell_9 : decode cX3_standsWell 9 = .ok (.invokevirtual 145, 3) := by decide +kernel
theorem dX3_standsWell_12 : decode cX3_standsWell 12 = .ok (.ifCond .eq 17, 3) := by decide +kernel
theorem dX3_standsWell_15 : decode cX3_standsWell 15 = .ok (.aload_n 0, 1) := by decide +kernel
theorem dX3_standsWell_16 : decode cX3_standsWell 16 = .ok (.getfield 25, 3) := by decide +kernel
theorem dX3_standsWell_19 : decode cX3_standsWell 19 = .ok (.iload_n 2, 1) := by decide +kernel
theorem dX3_standsWell_20 : decode cX3_standsWell 20 = .ok (.iaload, 1) := by decide +kernel
theorem dX3_standsWell_21 : decode cX3_standsWell 21 = .ok (.aload_n 0, 1) := by decide +kernel
theorem dX3_standsWell_22 : decode cX3_standsWell 22 = .ok (.getfield 75, 3) := by decide +kernel
theorem dX3_standsWell_25 : decode cX3_standsWell 25 = .ok (.iand, 1) := by decide +kernel
theorem dX3_standsWell_26 : decode cX3_standsWell 26 = .ok (.ifCond .eq 5, 3) := by decide +kernel
theorem dX3_standsWell_29 : decode cX3_standsWell 29 = .ok (.iconst 0, 1) := by decide +kernel
theorem dX3_standsWell_30 : decode cX3_standsWell 30 = .ok (.ireturn, 1) := by decide +kernel
theorem dX3_standsWell_31 : decode cX3_standsWell 31 = .ok (.iconst 0, 1) := by decide +kernel
theorem dX3_standsWell_32 : decode cX3_standsWell 32 = .ok (.istore_n 3, 1) := by decide +kernel
theorem dX3_standsWell_33 : decode cX3_standsWell 33 = .ok (.iload_n 3, 1) := by decide +kernel
theorem dX3_standsWell_34 : decode cX3_standsWell 34 = .ok (.iload_n 1, 1) := by decide +kernel
theorem dX3_standsWell_35 : decode cX3_standsWell 35 = .ok (.if_icmp .ge 58, 3) := by decide +kernel
theorem dX3_standsWell_38 : decode cX3_standsWell 38 = .ok (.aload_n 0, 1) := by decide +kernel
theorem dX3_standsWell_39 : decode cX3_standsWell 39 = .ok (.getfield 57, 3) := by decide +kernel
theorem dX3_standsWell_42 : decode cX3_standsWell 42 = .ok (.iload_n 3, 1) := by decide +kernel
theorem dX3_standsWell_43 : decode cX3_standsWell 43 = .ok (.iaload, 1) := by decide +kernel
theorem dX3_standsWell_44 : decode cX3_standsWell 44 = .ok (.istore 4, 2) := by decide +kernel
theorem dX3_standsWell_46 : decode cX3_standsWell 46 = .ok (.aload_n 0, 1) := by decide +kernel
theorem dX3_standsWell_47 : decode cX3_standsWell 47 = .ok (.getfield 40, 3) := by decide +kernel
theorem dX3_standsWell_50 : decode cX3_standsWell 50 = .ok (.iload_n 1, 1) := by decide +kernel
theorem dX3_standsWell_51 : decode cX3_standsWell 51 = .ok (.iaload, 1) := by decide +kernel
theorem dX3_standsWell_52 : decode cX3_standsWell 52 = .ok (.iload_n 3, 1) := by decide +kernel
theorem dX3_standsWell_53 : decode cX3_standsWell 53 = .ok (.ishr, 1) := by decide +kernel
theorem dX3_standsWell_54 : decode cX3_standsWell 54 = .ok (.iconst 1, 1) := by decide +kernel
theorem dX3_standsWell_55 : decode cX3_standsWell 55 = .ok (.iand, 1) := by decide +kernel
theorem dX3_standsWell_56 : decode cX3_standsWell 56 = .ok (.ifCond .eq 31, 3) := by decide +kernel
theorem dX3_standsWell_59 : decode cX3_standsWell 59 = .ok (.aload_n 0, 1) := by decide +kernel
theorem dX3_standsWell_60 : decode cX3_standsWell 60 = .ok (.iload 4, 2) := by decide +kernel
theorem dX3_standsWell_62 : decode cX3_standsWell 62 = .ok (.invokevirtual 145, 3) := by decide +kernel
theorem dX3_standsWell_65 : decode cX3_standsWell 65 = .ok (.ifCond .eq 22, 3) := by decide +kernel
theorem dX3_standsWell_68 : decode cX3_standsWell 68 = .ok (.aload_n 0, 1) := by decide +kernel
theorem dX3_standsWell_69 : decode cX3_standsWell 69 = .ok (.getfield 25, 3) := by decide +kernel
theorem dX3_standsWell_72 : decode cX3_standsWell 72 = .ok (.iload_n 2, 1) := by decide +kernel
theorem dX3_standsWell_73 : decode cX3_standsWell 73 = .ok (.iaload, 1) := by decide +kernel
theorem dX3_standsWell_74 : decode cX3_standsWell 74 = .ok (.aload_n 0, 1) := by decide +kernel
theorem dX3_standsWell_75 : decode cX3_standsWell 75 = .ok (.getfield 25, 3) := by decide +kernel
theorem dX3_standsWell_78 : decode cX3_standsWell 78 = .ok (.iload 4, 2) := by decide +kernel
theorem dX3_standsWell_80 : decode cX3_standsWell 80 = .ok (.iaload, 1) := by decide +kernel
theorem dX3_standsWell_81 : decode cX3_standsWell 81 = .ok (.iand, 1) := by decide +kernel
theorem dX3_standsWell_82 : decode cX3_standsWell 82 = .ok (.ifCond .eq 5, 3) := by decide +kernel
theorem dX3_standsWell_85 : decode cX3_standsWell 85 = .ok (.iconst 0, 1) := by decide +kernel
theorem dX3_standsWell_86 : decode cX3_standsWell 86 = .ok (.ireturn, 1) := by decide +kernel
theorem dX3_standsWell_87 : decode cX3_standsWell 87 = .ok (.iinc 3 1, 3) := by decide +kernel
theorem dX3_standsWell_90 : decode cX3_standsWell 90 = .ok (.goto (-57), 3) := by decide +kernel
theorem dX3_standsWell_93 : decode cX3_standsWell 93 = .ok (.iconst 1, 1) := by decide +kernel
theorem dX3_standsWell_94 : decode cX3_standsWell 94 = .ok (.ireturn, 1) := by decide +kernel
theorem dX9_init_0 : decode cX9_init 0 = .ok (.aload_n 0, 1) := by decide +kernel
theorem dX9_init_1 : decode cX9_init 1 = .ok (.invokespecial 3, 3) := by decide +kernel
theorem dX9_init_4 : decode cX9_init 4 = .ok (.new 9, 3) := by decide +kernel
theorem dX9_init_7 : decode cX9_init 7 = .ok (.dup, 1) := by decide +kernel
theorem dX9_init_8 : decode cX9_init 8 = .ok (.invokespecial 11, 3) := by decide +kernel
theorem dX9_init_11 : decode cX9_init 11 = .ok (.astore_n 1, 1) := by decide +kernel
theorem dX9_init_12 : decode cX9_init 12 = .ok (.new 12, 3) := by decide +kernel
theorem dX9_init_15 : decode cX9_init 15 = .ok (.dup, 1) := by decide +kernel
theorem dX9_init_16 : decode cX9_init 16 = .ok (.aload_n 1, 1) := by decide +kernel
theorem dX9_init_17 : decode cX9_init 17 = .ok (.invokespecial 14, 3) := by decide +kernel
theorem dX9_init_20 : decode cX9_init 20 = .ok (.astore_n 2, 1) := by decide +kernel
theorem dX9_init_21 : decode cX9_init 21 = .ok (.aload_n 0, 1) := by decide +kernel
theorem dX9_init_22 : decode cX9_init 22 = .ok (.aload_n 1, 1) := by decide +kernel
theorem dX9_init_23 : decode cX9_init 23 = .ok (.putfield 17, 3) := by decide +kernel
theorem dX9_init_26 : decode cX9_init 26 = .ok (.aload_n 0, 1) := by decide +kernel
theorem dX9_init_27 : decode cX9_init 27 = .ok (.new 9, 3) := by decide +kernel
theorem dX9_init_30 : decode cX9_init 30 = .ok (.dup, 1) := by decide +kernel
theorem dX9_init_31 : decode cX9_init 31 = .ok (.invokespecial 11, 3) := by decide +kernel
theorem dX9_init_34 : decode cX9_init 34 = .ok (.putfield 21, 3) := by decide +kernel
theorem dX9_init_37 : decode cX9_init 37 = .ok (.aload_n 0, 1) := by decide +kernel
theorem dX9_init_38 : decode cX9_init 38 = .ok (.new 24, 3) := by decide +kernel
theorem dX9_init_41 : decode cX9_init 41 = .ok (.dup, 1) := by decide +kernel
theorem dX9_init_42 : decode cX9_init 42 = .ok (.invokespecial 26, 3) := by decide +kernel
theorem dX9_init_45 : decode cX9_init 45 = .ok (.putfield 27, 3) := by decide +kernel
theorem dX9_init_48 : decode cX9_init 48 = .ok (.aload_n 0, 1) := by decide +kernel
theorem dX9_init_49 : decode cX9_init 49 = .ok (.aload_n 2, 1) := by decide +kernel
theorem dX9_init_50 : decode cX9_init 50 = .ok (.putfield 31, 3) := by decide +kernel
theorem dX9_init_53 : decode cX9_init 53 = .ok (.aload_n 0, 1) := by decide +kernel
theorem dX9_init_54 : decode cX9_init 54 = .ok (.new 35, 3) := by decide +kernel
theorem dX9_init_57 : decode cX9_init 57 = .ok (.dup, 1) := by decide +kernel
theorem dX9_init_58 : decode cX9_init 58 = .ok (.aload_n 1, 1) := by decide +kernel
theorem dX9_init_59 : decode cX9_init 59 = .ok (.aload_n 2, 1) := by decide +kernel
theorem dX9_init_60 : decode cX9_init 60 = .ok (.invokespecial 37, 3) := by decide +kernel
theorem dX9_init_63 : decode cX9_init 63 = .ok (.putfield 40, 3) := by decide +kernel
theorem dX9_init_66 : decode cX9_init 66 = .ok (.aload_n 0, 1) := by decide +kernel
theorem dX9_init_67 : decode cX9_init 67 = .ok (.new 44, 3) := by decide +kernel
theorem dX9_init_70 : decode cX9_init 70 = .ok (.dup, 1) := by decide +kernel
theorem dX9_init_71 : decode cX9_init 71 = .ok (.aload_n 1, 1) := by decide +kernel
theorem dX9_init_72 : decode cX9_init 72 = .ok (.invokespecial 46, 3) := by decide +kernel
theorem dX9_init_75 : decode cX9_init 75 = .ok (.putfield 47, 3) := by decide +kernel
theorem dX9_init_78 : decode cX9_init 78 = .ok (.aload_n 0, 1) := by decide +kernel
theorem dX9_init_79 : decode cX9_init 79 = .ok (.new 51, 3) := by decide +kernel
theorem dX9_init_82 : decode cX9_init 82 = .ok (.dup, 1) := by decide +kernel
theorem dX9_init_83 : decode cX9_init 83 = .ok (.aload_n 1, 1) := by decide +kernel
theorem dX9_init_84 : decode cX9_init 84 = .ok (.invokespecial 53, 3) := by decide +kernel
theorem dX9_init_87 : decode cX9_init 87 = .ok (.putfield 54, 3) := by decide +kernel
theorem dX9_init_90 : decode cX9_init 90 = .ok (.aload_n 0, 1) := by decide +kernel
theorem dX9_init_91 : decode cX9_init 91 = .ok (.new 58, 3) := by decide +kernel
theorem dX9_init_94 : decode cX9_init 94 = .ok (.dup, 1) := by decide +kernel
theorem dX9_init_95 : decode cX9_init 95 = .ok (.invokespecial 60, 3) := by decide +kernel
theorem dX9_init_98 : decode cX9_init 98 = .ok (.putfield 61, 3) := by decide +kernel
theorem dX9_init_101 : decode cX9_init 101 = .ok (.aload_n 0, 1) := by decide +kernel
theorem dX9_init_102 : decode cX9_init 102 = .ok (.new 65, 3) := by decide +kernel
theorem dX9_init_105 : decode cX9_init 105 = .ok (.dup, 1) := by decide +kernel
theorem dX9_init_106 : decode cX9_init 106 = .ok (.invokespecial 67, 3) := by decide +kernel
theorem dX9_init_109 : decode cX9_init 109 = .ok (.putfield 68, 3) := by decide +kernel
theorem dX9_init_112 : decode cX9_init 112 = .ok (.aload_n 0, 1) := by decide +kernel
theorem dX9_init_113 : decode cX9_init 113 = .ok (.bipush 6, 2) := by decide +kernel
theorem dX9_init_115 : decode cX9_init 115 = .ok (.newarray .int, 2) := by decide +kernel
theorem dX9_init_117 : decode cX9_init 117 = .ok (.putfield 72, 3) := by decide +kernel
theorem dX9_init_120 : decode cX9_init 120 = .ok (.aload_n 0, 1) := by decide +kernel
theorem dX9_init_121 : decode cX9_init 121 = .ok (.iconst 0, 1) := by decide +kernel
theorem dX9_init_122 : decode cX9_init 122 = .ok (.putfield 76, 3) := by decide +kernel
theorem dX9_init_125 : decode cX9_init 125 = .ok (.return_, 1) := by decide +kernel
theorem dX9_feed_0 : decode cX9_feed 0 = .ok (.iload_n 3, 1) := by decide +kernel
theorem dX9_feed_1 : decode cX9_feed 1 = .ok (.iconst 1, 1) := by decide +kernel
theorem dX9_feed_2 : decode cX9_feed 2 = .ok (.if_icmp .lt 9, 3) := by decide +kernel
theorem dX9_feed_5 : decode cX9_feed 5 = .ok (.iload_n 3, 1) := by decide +kernel
theorem dX9_feed_6 : decode cX9_feed 6 = .ok (.bipush 8, 2) := by decide +kernel
theorem dX9_feed_8 : decode cX9_feed 8 = .ok (.if_icmp .le 10, 3) := by decide +kernel
theorem dX9_feed_11 : decode cX9_feed 11 = .ok (.aload_n 0, 1) := by decide +kernel
theorem dX9_feed_12 : decode cX9_feed 12 = .ok (.ldc 80, 2) := by decide +kernel
theorem dX9_feed_14 : decode cX9_feed 14 = .ok (.invokevirtual 81, 3) := by decide +kernel
theorem dX9_feed_17 : decode cX9_feed 17 = .ok (.ireturn, 1) := by decide +kernel
theorem dX9_feed_18 : decode cX9_feed 18 = .ok (.aload_n 0, 1) := by decide +kernel
theorem dX9_feed_19 : decode cX9_feed 19 = .ok (.getfield 17, 3) := by decide +kernel
theorem dX9_feed_22 : decode cX9_feed 22 = .ok (.getfield 85, 3) := by decide +kernel
theorem dX9_feed_25 : decode cX9_feed 25 = .ok (.iload_n 3, 1) := by decide +kernel
theorem dX9_feed_26 : decode cX9_feed 26 = .ok (.iadd, 1) := by decide +kernel
theorem dX9_feed_27 : decode cX9_feed 27 = .ok (.bipush 50, 2) := by decide +kernel
theorem dX9_feed_29 : decode cX9_feed 29 = .ok (.if_icmp .le 10, 3) := by decide +kernel
theorem dX9_feed_32 : decode cX9_feed 32 = .ok (.aload_n 0, 1) := by decide +kernel
theorem dX9_feed_33 : decode cX9_feed 33 = .ok (.ldc 88, 2) := by decide +kernel
theorem dX9_feed_35 : decode cX9_feed 35 = .ok (.invokevirtual 81, 3) := by decide +kernel
theorem dX9_feed_38 : decode cX9_feed 38 = .ok (.ireturn, 1) := by decide +kernel
theorem dX9_feed_39 : decode cX9_feed 39 = .ok (.aload_n 0, 1) := by decide +kernel
theorem dX9_feed_40 : decode cX9_feed 40 = .ok (.getfield 17, 3) := by decide +kernel
theorem dX9_feed_43 : decode cX9_feed 43 = .ok (.lload_n 1, 1) := by decide +kernel
theorem dX9_feed_44 : decode cX9_feed 44 = .ok (.iload_n 3, 1) := by decide +kernel
theorem dX9_feed_45 : decode cX9_feed 45 = .ok (.invokevirtual 89, 3) := by decide +kernel
theorem dX9_feed_48 : decode cX9_feed 48 = .ok (.ireturn, 1) := by decide +kernel
theorem dX9_name_0 : decode cX9_name 0 = .ok (.iload_n 1, 1) := by decide +kernel
theorem dX9_name_1 : decode cX9_name 1 = .ok (.invokestatic 93, 3) := by decide +kernel
theorem dX9_name_4 : decode cX9_name 4 = .ok (.ifCond .ne 10, 3) := by decide +kernel
theorem dX9_name_7 : decode cX9_name 7 = .ok (.aload_n 0, 1) := by decide +kernel
theorem dX9_name_8 : decode cX9_name 8 = .ok (.ldc 80, 2) := by decide +kernel
theorem dX9_name_10 : decode cX9_name 10 = .ok (.invokevirtual 81, 3) := by decide +kernel
theorem dX9_name_13 : decode cX9_name 13 = .ok (.ireturn, 1) := by decide +kernel
theorem dX9_name_14 : decode cX9_name 14 = .ok (.aload_n 0, 1) := by decide +kernel
theorem dX9_name_15 : decode cX9_name 15 = .ok (.getfield 17, 3) := by decide +kernel
theorem dX9_name_18 : decode cX9_name 18 = .ok (.getfield 97, 3) := by decide +kernel
theorem dX9_name_21 : decode cX9_name 21 = .ok (.bipush 14, 2) := by decide +kernel
theorem dX9_name_23 : decode cX9_name 23 = .ok (.if_icmp .lt 10, 3) := by decide +kernel
theorem dX9_name_26 : decode cX9_name 26 = .ok (.aload_n 0, 1) := by decide +kernel
theorem dX9_name_27 : decode cX9_name 27 = .ok (.ldc 88, 2) := by decide +kernel
theorem dX9_name_29 : decode cX9_name 29 = .ok (.invokevirtual 81, 3) := by decide +kernel
theorem dX9_name_32 : decode cX9_name 32 = .ok (.ireturn, 1) := by decide +kernel
theorem dX9_name_33 : decode cX9_name 33 = .ok (.aload_n 0, 1) := by decide +kernel
theorem dX9_name_34 : decode cX9_name 34 = .ok (.getfield 17, 3) := by decide +kernel
theorem dX9_name_37 : decode cX9_name 37 = .ok (.getfield 85, 3) := by decide +kernel
theorem dX9_name_40 : decode cX9_name 40 = .ok (.istore_n 2, 1) := by decide +kernel
theorem dX9_name_41 : decode cX9_name 41 = .ok (.aload_n 0, 1) := by decide +kernel
theorem dX9_name_42 : decode cX9_name 42 = .ok (.getfield 17, 3) := by decide +kernel
theorem dX9_name_45 : decode cX9_name 45 = .ok (.invokevirtual 100, 3) := by decide +kernel
theorem dX9_name_48 : decode cX9_name 48 = .ok (.istore_n 3, 1) := by decide +kernel
theorem dX9_name_49 : decode cX9_name 49 = .ok (.aload_n 0, 1) := by decide +kernel
theorem dX9_name_50 : decode cX9_name 50 = .ok (.getfield 17, 3) := by decide +kernel
theorem dX9_name_53 : decode cX9_name 53 = .ok (.iconst 0, 1) := by decide +kernel
theorem dX9_name_54 : decode cX9_name 54 = .ok (.putfield 85, 3) := by decide +kernel
theorem dX9_name_57 : decode cX9_name 57 = .ok (.iload_n 3, 1) := by decide +kernel
theorem dX9_name_58 : decode cX9_name 58 = .ok (.iload_n 2, 1) := by decide +kernel
theorem dX9_name_59 : decode cX9_name 59 = .ok (.if_icmp .lt 7, 3) := by decide +kernel
theorem dX9_name_62 : decode cX9_name 62 = .ok (.iload_n 2, 1) := by decide +kernel
theorem dX9_name_63 : decode cX9_name 63 = .ok (.ifCond .ne 8, 3) := by decide +kernel
theorem dX9_name_66 : decode cX9_name 66 = .ok (.bipush (-10), 2) := by decide +kernel
theorem dX9_name_68 : decode cX9_name 68 = .ok (.iload_n 3, 1) := by decide +kernel
theorem dX9_name_69 : decode cX9_name 69 = .ok (.isub, 1) := by decide +kernel
theorem dX9_name_70 : decode cX9_name 70 = .ok (.ireturn, 1) := by decide +kernel
theorem dX9_name_71 : decode cX9_name 71 = .ok (.aload_n 0, 1) := by decide +kernel
theorem dX9_name_72 : decode cX9_name 72 = .ok (.getfield 17, 3) := by decide +kernel
theorem dX9_name_75 : decode cX9_name 75 = .ok (.iload_n 2, 1) := by decide +kernel
theorem dX9_name_76 : decode cX9_name 76 = .ok (.iload_n 1, 1) := by decide +kernel
theorem dX9_name_77 : decode cX9_name 77 = .ok (.invokevirtual 104, 3) := by decide +kernel
theorem dX9_name_80 : decode cX9_name 80 = .ok (.ireturn, 1) := by decide +kernel
theorem dX9_ofName_0 : decode cX9_ofName 0 = .ok (.aload_n 0, 1) := by decide +kernel
theorem dX9_ofName_1 : decode cX9_ofName 1 = .ok (.getfield 17, 3) := by decide +kernel
theorem dX9_ofName_4 : decode cX9_ofName 4 = .ok (.iload_n 1, 1) := by decide +kernel
theorem dX9_ofName_5 : decode cX9_ofName 5 = .ok (.invokevirtual 108, 3) := by decide +kernel
theorem dX9_ofName_8 : decode cX9_ofName 8 = .ok (.ifCond .eq 13, 3) := by decide +kernel
theorem dX9_ofName_11 : decode cX9_ofName 11 = .ok (.iload_n 2, 1) := by decide +kernel
theorem dX9_ofName_12 : decode cX9_ofName 12 = .ok (.ifCond .lt 9, 3) := by decide +kernel
theorem dX9_ofName_15 : decode cX9_ofName 15 = .ok (.iload_n 2, 1) := by decide +kernel
theorem dX9_ofName_16 : decode cX9_ofName 16 = .ok (.bipush 11, 2) := by decide +kernel
theorem dX9_ofName_18 : decode cX9_ofName 18 = .ok (.if_icmp .lt 10, 3) := by decide +kernel
theorem dX9_ofName_21 : decode cX9_ofName 21 = .ok (.aload_n 0, 1) := by decide +kernel
theorem dX9_ofName_22 : decode cX9_ofName 22 = .ok (.ldc 80, 2) := by decide +kernel
theorem dX9_ofName_24 : decode cX9_ofName 24 = .ok (.invokevirtual 81, 3) := by decide +kernel
theorem dX9_ofName_27 : decode cX9_ofName 27 = .ok (.ireturn, 1) := by decide +kernel
theorem dX9_ofName_28 : decode cX9_ofName 28 = .ok (.iload_n 2, 1) := by decide +kernel
theorem dX9_ofName_29 : decode cX9_ofName 29 = .ok (.tableswitch 57 0 2 #[27, 37, 47], 27) := by decide +kernel
theorem dX9_ofName_56 : decode cX9_ofName 56 = .ok (.aload_n 0, 1) := by decide +kernel
theorem dX9_ofName_57 : decode cX9_ofName 57 = .ok (.getfield 17, 3) := by decide +kernel
theorem dX9_ofName_60 : decode cX9_ofName 60 = .ok (.getfield 111, 3) := by decide +kernel
theorem dX9_ofName_63 : decode cX9_ofName 63 = .ok (.iload_n 1, 1) := by decide +kernel
theorem dX9_ofName_64 : decode cX9_ofName 64 = .ok (.iaload, 1) := by decide +kernel
theorem dX9_ofName_65 : decode cX9_ofName 65 = .ok (.ireturn, 1) := by decide +kernel
theorem dX9_ofName_66 : decode cX9_ofName 66 = .ok (.aload_n 0, 1) := by decide +kernel
theorem dX9_ofName_67 : decode cX9_ofName 67 = .ok (.getfield 17, 3) := by decide +kernel
theorem dX9_ofName_70 : decode cX9_ofName 70 = .ok (.getfield 114, 3) := by decide +kernel
theorem dX9_ofName_73 : decode cX9_ofName 73 = .ok (.iload_n 1, 1) := by decide +kernel
theorem dX9_ofName_74 : decode cX9_ofName 74 = .ok (.iaload, 1) := by decide +kernel
theorem dX9_ofName_75 : decode cX9_ofName 75 = .ok (.ireturn, 1) := by decide +kernel
theorem dX9_ofName_76 : decode cX9_ofName 76 = .ok (.aload_n 0, 1) := by decide +kernel
theorem dX9_ofName_77 : decode cX9_ofName 77 = .ok (.getfield 17, 3) := by decide +kernel
theorem dX9_ofName_80 : decode cX9_ofName 80 = .ok (.getfield 117, 3) := by decide +kernel
theorem dX9_ofName_83 : decode cX9_ofName 83 = .ok (.iload_n 1, 1) := by decide +kernel
theorem dX9_ofName_84 : decode cX9_ofName 84 = .ok (.iaload, 1) := by decide +kernel
theorem dX9_ofName_85 : decode cX9_ofName 85 = .ok (.ireturn, 1) := by decide +kernel
theorem dX9_ofName_86 : decode cX9_ofName 86 = .ok (.aload_n 0, 1) := by decide +kernel
theorem dX9_ofName_87 : decode cX9_ofName 87 = .ok (.getfield 17, 3) := by decide +kernel
theorem dX9_ofName_90 : decode cX9_ofName 90 = .ok (.iload_n 1, 1) := by decide +kernel
theorem dX9_ofName_91 : decode cX9_ofName 91 = .ok (.iload_n 2, 1) := by decide +kernel
theorem dX9_ofName_92 : decode cX9_ofName 92 = .ok (.iconst 3, 1) := by decide +kernel
theorem dX9_ofName_93 : decode cX9_ofName 93 = .ok (.isub, 1) := by decide +kernel
theorem dX9_ofName_94 : decode cX9_ofName 94 = .ok (.invokevirtual 120, 3) := by decide +kernel
theorem dX9_ofName_97 : decode cX9_ofName 97 = .ok (.ireturn, 1) := by decide +kernel
theorem dX9_sound_0 : decode cX9_sound 0 = .ok (.aload_n 0, 1) := by decide +kernel
theorem dX9_sound_1 : decode cX9_sound 1 = .ok (.getfield 17, 3) := by decide +kernel
theorem dX9_sound_4 : decode cX9_sound 4 = .ok (.iload_n 1, 1) := by decide +kernel
theorem dX9_sound_5 : decode cX9_sound 5 = .ok (.invokevirtual 108, 3) := by decide +kernel
theorem dX9_sound_8 : decode cX9_sound 8 = .ok (.ifCond .eq 10, 3) := by decide +kernel
theorem dX9_sound_11 : decode cX9_sound 11 = .ok (.iload_n 2, 1) := by decide +kernel
theorem dX9_sound_12 : decode cX9_sound 12 = .ok (.invokestatic 93, 3) := by decide +kernel
theorem dX9_sound_15 : decode cX9_sound 15 = .ok (.ifCond .ne 10, 3) := by decide +kernel
theorem dX9_sound_18 : decode cX9_sound 18 = .ok (.aload_n 0, 1) := by decide +kernel
theorem dX9_sound_19 : decode cX9_sound 19 = .ok (.ldc 80, 2) := by decide +kernel
theorem dX9_sound_21 : decode cX9_sound 21 = .ok (.invokevirtual 81, 3) := by decide +kernel
theorem dX9_sound_24 : decode cX9_sound 24 = .ok (.ireturn, 1) := by decide +kernel
theorem dX9_sound_25 : decode cX9_sound 25 = .ok (.aload_n 0, 1) := by decide +kernel
theorem dX9_sound_26 : decode cX9_sound 26 = .ok (.getfield 17, 3) := by decide +kernel
theorem dX9_sound_29 : decode cX9_sound 29 = .ok (.getfield 111, 3) := by decide +kernel
theorem dX9_sound_32 : decode cX9_sound 32 = .ok (.iload_n 1, 1) := by decide +kernel
theorem dX9_sound_33 : decode cX9_sound 33 = .ok (.iaload, 1) := by decide +kernel
theorem dX9_sound_34 : decode cX9_sound 34 = .ok (.istore_n 3, 1) := by decide +kernel
theorem dX9_sound_35 : decode cX9_sound 35 = .ok (.aload_n 0, 1) := by decide +kernel
theorem dX9_sound_36 : decode cX9_sound 36 = .ok (.getfield 17, 3) := by decide +kernel
theorem dX9_sound_39 : decode cX9_sound 39 = .ok (.getfield 111, 3) := by decide +kernel
theorem dX9_sound_42 : decode cX9_sound 42 = .ok (.iload_n 1, 1) := by decide +kernel
theorem dX9_sound_43 : decode cX9_sound 43 = .ok (.iload_n 2, 1) := by decide +kernel
theorem dX9_sound_44 : decode cX9_sound 44 = .ok (.iastore, 1) := by decide +kernel
theorem dX9_sound_45 : decode cX9_sound 45 = .ok (.iload_n 3, 1) := by decide +kernel
theorem dX9_sound_46 : decode cX9_sound 46 = .ok (.ireturn, 1) := by decide +kernel
theorem dX9_clash_0 : decode cX9_clash 0 = .ok (.aload_n 0, 1) := by decide +kernel
theorem dX9_clash_1 : decode cX9_clash 1 = .ok (.getfield 17, 3) := by decide +kernel
theorem dX9_clash_4 : decode cX9_clash 4 = .ok (.iload_n 1, 1) := by decide +kernel
theorem dX9_clash_5 : decode cX9_clash 5 = .ok (.invokevirtual 108, 3) := by decide +kernel
theorem dX9_clash_8 : decode cX9_clash 8 = .ok (.ifCond .eq 14, 3) := by decide +kernel
theorem dX9_clash_11 : decode cX9_clash 11 = .ok (.aload_n 0, 1) := by decide +kernel
theorem dX9_clash_12 : decode cX9_clash 12 = .ok (.getfield 17, 3) := by decide +kernel
theorem dX9_clash_15 : decode cX9_clash 15 = .ok (.iload_n 2, 1) := by decide +kernel
theorem dX9_clash_16 : decode cX9_clash 16 = .ok (.invokevirtual 108, 3) := by decide +kernel
theorem dX9_clash_19 : decode cX9_clash 19 = .ok (.ifCond .ne 10, 3) := by decide +kernel
theorem dX9_clash_22 : decode cX9_clash 22 = .ok (.aload_n 0, 1) := by decide +kernel
theorem dX9_clash_23 : decode cX9_clash 23 = .ok (.ldc 80, 2) := by decide +kernel
theorem dX9_clash_25 : decode cX9_clash 25 = .ok (.invokevirtual 81, 3) := by decide +kernel
theorem dX9_clash_28 : decode cX9_clash 28 = .ok (.ireturn, 1) := by decide +kernel
theorem dX9_clash_29 : decode cX9_clash 29 = .ok (.aload_n 0, 1) := by decide +kernel
theorem dX9_clash_30 : decode cX9_clash 30 = .ok (.getfield 17, 3) := by decide +kernel
theorem dX9_clash_33 : decode cX9_clash 33 = .ok (.getfield 117, 3) := by decide +kernel
theorem dX9_clash_36 : decode cX9_clash 36 = .ok (.iload_n 1, 1) := by decide +kernel
theorem dX9_clash_37 : decode cX9_clash 37 = .ok (.iaload, 1) := by decide +kernel
theorem dX9_clash_38 : decode cX9_clash 38 = .ok (.aload_n 0, 1) := by decide +kernel
theorem dX9_clash_39 : decode cX9_clash 39 = .ok (.getfield 17, 3) := by decide +kernel
theorem dX9_clash_42 : decode cX9_clash 42 = .ok (.getfield 117, 3) := by decide +kernel
theorem dX9_clash_45 : decode cX9_clash 45 = .ok (.iload_n 2, 1) := by decide +kernel
theorem dX9_clash_46 : decode cX9_clash 46 = .ok (.iaload, 1) := by decide +kernel
theorem dX9_clash_47 : decode cX9_clash 47 = .ok (.iand, 1) := by decide +kernel
theorem dX9_clash_48 : decode cX9_clash 48 = .ok (.ireturn, 1) := by decide +kernel
theorem dX9_strike_0 : decode cX9_strike 0 = .ok (.iload_n 1, 1) := by decide +kernel
theorem dX9_strike_1 : decode cX9_strike 1 = .ok (.invokestatic 123, 3) := by decide +kernel
theorem dX9_strike_4 : decode cX9_strike 4 = .ok (.ifCond .eq 10, 3) := by decide +kernel
theorem dX9_strike_7 : decode cX9_strike 7 = .ok (.iload_n 2, 1) := by decide +kernel
theorem dX9_strike_8 : decode cX9_strike 8 = .ok (.invokestatic 126, 3) := by decide +kernel
theorem dX9_strike_11 : decode cX9_strike 11 = .ok (.ifCond .ne 10, 3) := by decide +kernel
theorem dX9_strike_14 : decode cX9_strike 14 = .ok (.aload_n 0, 1) := by decide +kernel
theorem dX9_strike_15 : decode cX9_strike 15 = .ok (.ldc 80, 2) := by decide +kernel
theorem dX9_strike_17 : decode cX9_strike 17 = .ok (.invokevirtual 81, 3) := by decide +kernel
theorem dX9_strike_20 : decode cX9_strike 20 = .ok (.ireturn, 1) := by decide +kernel
theorem dX9_strike_21 : decode cX9_strike 21 = .ok (.aload_n 0, 1) := by decide +kernel
theorem dX9_strike_22 : decode cX9_strike 22 = .ok (.getfield 17, 3) := by decide +kernel
theorem dX9_strike_25 : decode cX9_strike 25 = .ok (.getfield 129, 3) := by decide +kernel
theorem dX9_strike_28 : decode cX9_strike 28 = .ok (.iload_n 1, 1) := by decide +kernel
theorem dX9_strike_29 : decode cX9_strike 29 = .ok (.ishr, 1) := by decide +kernel
theorem dX9_strike_30 : decode cX9_strike 30 = .ok (.iconst 1, 1) := by decide +kernel
theorem dX9_strike_31 : decode cX9_strike 31 = .ok (.iand, 1) := by decide +kernel
theorem dX9_strike_32 : decode cX9_strike 32 = .ok (.istore_n 3, 1) := by decide +kernel
theorem dX9_strike_33 : decode cX9_strike 33 = .ok (.aload_n 0, 1) := by decide +kernel
theorem dX9_strike_34 : decode cX9_strike 34 = .ok (.getfield 17, 3) := by decide +kernel
theorem dX9_strike_37 : decode cX9_strike 37 = .ok (.aload_n 0, 1) := by decide +kernel
theorem dX9_strike_38 : decode cX9_strike 38 = .ok (.getfield 17, 3) := by decide +kernel
theorem dX9_strike_41 : decode cX9_strike 41 = .ok (.getfield 129, 3) := by decide +kernel
theorem dX9_strike_44 : decode cX9_strike 44 = .ok (.iconst 1, 1) := by decide +kernel
theorem dX9_strike_45 : decode cX9_strike 45 = .ok (.iload_n 1, 1) := by decide +kernel
theorem dX9_strike_46 : decode cX9_strike 46 = .ok (.ishl, 1) := by decide +kernel
theorem dX9_strike_47 : decode cX9_strike 47 = .ok (.iconst (-1), 1) := by decide +kernel
theorem dX9_strike_48 : decode cX9_strike 48 = .ok (.ixor, 1) := by decide +kernel
theorem dX9_strike_49 : decode cX9_strike 49 = .ok (.iand, 1) := by decide +kernel
theorem dX9_strike_50 : decode cX9_strike 50 = .ok (.iload_n 2, 1) := by decide +kernel
theorem dX9_strike_51 : decode cX9_strike 51 = .ok (.iload_n 1, 1) := by decide +kernel
theorem dX9_strike_52 : decode cX9_strike 52 = .ok (.ishl, 1) := by decide +kernel
theorem dX9_strike_53 : decode cX9_strike 53 = .ok (.ior, 1) := by decide +kernel
theorem dX9_strike_54 : decode cX9_strike 54 = .ok (.putfield 129, 3) := by decide +kernel
theorem dX9_strike_57 : decode cX9_strike 57 = .ok (.iload_n 3, 1) := by decide +kernel
theorem dX9_strike_58 : decode cX9_strike 58 = .ok (.ireturn, 1) := by decide +kernel
theorem dX9_person_0 : decode cX9_person 0 = .ok (.iload_n 1, 1) := by decide +kernel
theorem dX9_person_1 : decode cX9_person 1 = .ok (.invokestatic 132, 3) := by decide +kernel
theorem dX9_person_4 : decode cX9_person 4 = .ok (.ifCond .eq 19, 3) := by decide +kernel
theorem dX9_person_7 : decode cX9_person 7 = .ok (.iload_n 2, 1) := by decide +kernel
theorem dX9_person_8 : decode cX9_person 8 = .ok (.iconst (-1), 1) := by decide +kernel
theorem dX9_person_9 : decode cX9_person 9 = .ok (.if_icmp .eq 21, 3) := by decide +kernel
theorem dX9_person_12 : decode cX9_person 12 = .ok (.aload_n 0, 1) := by decide +kernel
theorem dX9_person_13 : decode cX9_person 13 = .ok (.getfield 17, 3) := by decide +kernel
theorem dX9_person_16 : decode cX9_person 16 = .ok (.iload_n 2, 1) := by decide +kernel
theorem dX9_person_17 : decode cX9_person 17 = .ok (.invokevirtual 135, 3) := by decide +kernel
theorem dX9_person_20 : decode cX9_person 20 = .ok (.ifCond .ne 10, 3) := by decide +kernel
theorem dX9_person_23 : decode cX9_person 23 = .ok (.aload_n 0, 1) := by decide +kernel
theorem dX9_person_24 : decode cX9_person 24 = .ok (.ldc 80, 2) := by decide +kernel
theorem dX9_person_26 : decode cX9_person 26 = .ok (.invokevirtual 81, 3) := by decide +kernel
theorem dX9_person_29 : decode cX9_person 29 = .ok (.ireturn, 1) := by decide +kernel
theorem dX9_person_30 : decode cX9_person 30 = .ok (.aload_n 0, 1) := by decide +kernel
theorem dX9_person_31 : decode cX9_person 31 = .ok (.getfield 17, 3) := by decide +kernel
theorem dX9_person_34 : decode cX9_person 34 = .ok (.getfield 138, 3) := by decide +kernel
theorem dX9_person_37 : decode cX9_person 37 = .ok (.bipush 10, 2) := by decide +kernel
theorem dX9_person_39 : decode cX9_person 39 = .ok (.if_icmp .lt 10, 3) := by decide +kernel
theorem dX9_person_42 : decode cX9_person 42 = .ok (.aload_n 0, 1) := by decide +kernel
theorem dX9_person_43 : decode cX9_person 43 = .ok (.ldc 88, 2) := by decide +kernel
theorem dX9_person_45 : decode cX9_person 45 = .ok (.invokevirtual 81, 3) := by decide +kernel
theorem dX9_person_48 : decode cX9_person 48 = .ok (.ireturn, 1) := by decide +kernel
theorem dX9_person_49 : decode cX9_person 49 = .ok (.aload_n 0, 1) := by decide +kernel
theorem dX9_person_50 : decode cX9_person 50 = .ok (.getfield 17, 3) := by decide +kernel
theorem dX9_person_53 : decode cX9_person 53 = .ok (.iload_n 1, 1) := by decide +kernel
theorem dX9_person_54 : decode cX9_person 54 = .ok (.iload_n 2, 1) := by decide +kernel
theorem dX9_person_55 : decode cX9_person 55 = .ok (.invokevirtual 141, 3) := by decide +kernel
theorem dX9_person_58 : decode cX9_person 58 = .ok (.ireturn, 1) := by decide +kernel
theorem dX9_ofPerson_0 : decode cX9_ofPerson 0 = .ok (.aload_n 0, 1) := by decide +kernel
theorem dX9_ofPerson_1 : decode cX9_ofPerson 1 = .ok (.getfield 17, 3) := by decide +kernel
theorem dX9_ofPerson_4 : decode cX9_ofPerson 4 = .ok (.iload_n 1, 1) := by decide +kernel
theorem dX9_ofPerson_5 : decode cX9_ofPerson 5 = .ok (.invokevirtual 135, 3) := by decide +kernel
theorem dX9_ofPerson_8 : decode cX9_ofPerson 8 = .ok (.ifCond .ne 10, 3) := by decide +kernel
theorem dX9_ofPerson_11 : decode cX9_ofPerson 11 = .ok (.aload_n 0, 1) := by decide +kernel
theorem dX9_ofPerson_12 : decode cX9_ofPerson 12 = .ok (.ldc 80, 2) := by decide +kernel
theorem dX9_ofPerson_14 : decode cX9_ofPerson 14 = .ok (.invokevirtual 81, 3) := by decide +kernel
theorem dX9_ofPerson_17 : decode cX9_ofPerson 17 = .ok (.ireturn, 1) := by decide +kernel
theorem dX9_ofPerson_18 : decode cX9_ofPerson 18 = .ok (.iload_n 2, 1) := by decide +kernel
theorem dX9_ofPerson_19 : decode cX9_ofPerson 19 = .ok (.tableswitch 82 0 4 #[33, 43, 53, 63, 73], 33) := by decide +kernel
theorem dX9_ofPerson_52 : decode cX9_ofPerson 52 = .ok (.aload_n 0, 1) := by decide +kernel
theorem dX9_ofPerson_53 : decode cX9_ofPerson 53 = .ok (.getfield 17, 3) := by decide +kernel
theorem dX9_ofPerson_56 : decode cX9_ofPerson 56 = .ok (.getfield 144, 3) := by decide +kernel
theorem dX9_ofPerson_59 : decode cX9_ofPerson 59 = .ok (.iload_n 1, 1) := by decide +kernel
theorem dX9_ofPerson_60 : decode cX9_ofPerson 60 = .ok (.iaload, 1) := by decide +kernel
theorem dX9_ofPerson_61 : decode cX9_ofPerson 61 = .ok (.ireturn, 1) := by decide +kernel
theorem dX9_ofPerson_62 : decode cX9_ofPerson 62 = .ok (.aload_n 0, 1) := by decide +kernel
theorem dX9_ofPerson_63 : decode cX9_ofPerson 63 = .ok (.getfield 17, 3) := by decide +kernel
theorem dX9_ofPerson_66 : decode cX9_ofPerson 66 = .ok (.getfield 147, 3) := by decide +kernel
theorem dX9_ofPerson_69 : decode cX9_ofPerson 69 = .ok (.iload_n 1, 1) := by decide +kernel
theorem dX9_ofPerson_70 : decode cX9_ofPerson 70 = .ok (.iaload, 1) := by decide +kernel
theorem dX9_ofPerson_71 : decode cX9_ofPerson 71 = .ok (.ireturn, 1) := by decide +kernel
theorem dX9_ofPerson_72 : decode cX9_ofPerson 72 = .ok (.aload_n 0, 1) := by decide +kernel
theorem dX9_ofPerson_73 : decode cX9_ofPerson 73 = .ok (.getfield 17, 3) := by decide +kernel
theorem dX9_ofPerson_76 : decode cX9_ofPerson 76 = .ok (.getfield 150, 3) := by decide +kernel
theorem dX9_ofPerson_79 : decode cX9_ofPerson 79 = .ok (.iload_n 1, 1) := by decide +kernel
theorem dX9_ofPerson_80 : decode cX9_ofPerson 80 = .ok (.iaload, 1) := by decide +kernel
theorem dX9_ofPerson_81 : decode cX9_ofPerson 81 = .ok (.ireturn, 1) := by decide +kernel
theorem dX9_ofPerson_82 : decode cX9_ofPerson 82 = .ok (.aload_n 0, 1) := by decide +kernel
theorem dX9_ofPerson_83 : decode cX9_ofPerson 83 = .ok (.getfield 17, 3) := by decide +kernel
theorem dX9_ofPerson_86 : decode cX9_ofPerson 86 = .ok (.getfield 153, 3) := by decide +kernel
theorem dX9_ofPerson_89 : decode cX9_ofPerson 89 = .ok (.iload_n 1, 1) := by decide +kernel
theorem dX9_ofPerson_90 : decode cX9_ofPerson 90 = .ok (.iaload, 1) := by decide +kernel
theorem dX9_ofPerson_91 : decode cX9_ofPerson 91 = .ok (.ireturn, 1) := by decide +kernel
theorem dX9_ofPerson_92 : decode cX9_ofPerson 92 = .ok (.aload_n 0, 1) := by decide +kernel
theorem dX9_ofPerson_93 : decode cX9_ofPerson 93 = .ok (.getfield 17, 3) := by decide +kernel
theorem dX9_ofPerson_96 : decode cX9_ofPerson 96 = .ok (.iload_n 1, 1) := by decide +kernel
theorem dX9_ofPerson_97 : decode cX9_ofPerson 97 = .ok (.invokevirtual 156, 3) := by decide +kernel
theorem dX9_ofPerson_100 : decode cX9_ofPerson 100 = .ok (.ireturn, 1) := by decide +kernel
theorem dX9_ofPerson_101 : decode cX9_ofPerson 101 = .ok (.aload_n 0, 1) := by decide +kernel
theorem dX9_ofPerson_102 : decode cX9_ofPerson 102 = .ok (.ldc 80, 2) := by decide +kernel
theorem dX9_ofPerson_104 : decode cX9_ofPerson 104 = .ok (.invokevirtual 81, 3) := by decide +kernel
theorem dX9_ofPerson_107 : decode cX9_ofPerson 107 = .ok (.ireturn, 1) := by decide +kernel
theorem dX9_as_0 : decode cX9_as 0 = .ok (.aload_n 0, 1) := by decide +kernel
theorem dX9_as_1 : decode cX9_as 1 = .ok (.getfield 17, 3) := by decide +kernel
theorem dX9_as_4 : decode cX9_as 4 = .ok (.iload_n 1, 1) := by decide +kernel
theorem dX9_as_5 : decode cX9_as 5 = .ok (.invokevirtual 135, 3) := by decide +kernel
theorem dX9_as_8 : decode cX9_as 8 = .ok (.ifCond .eq 10, 3) := by decide +kernel
theorem dX9_as_11 : decode cX9_as 11 = .ok (.iload_n 2, 1) := by decide +kernel
theorem dX9_as_12 : decode cX9_as 12 = .ok (.invokestatic 132, 3) := by decide +kernel
theorem dX9_as_15 : decode cX9_as 15 = .ok (.ifCond .ne 10, 3) := by decide +kernel
theorem dX9_as_18 : decode cX9_as 18 = .ok (.aload_n 0, 1) := by decide +kernel
theorem dX9_as_19 : decode cX9_as 19 = .ok (.ldc 80, 2) := by decide +kernel
theorem dX9_as_21 : decode cX9_as 21 = .ok (.invokevirtual 81, 3) := by decide +kernel
theorem dX9_as_24 : decode cX9_as 24 = .ok (.ireturn, 1) := by decide +kernel
theorem dX9_as_25 : decode cX9_as 25 = .ok (.aload_n 0, 1) := by decide +kernel
theorem dX9_as_26 : decode cX9_as 26 = .ok (.getfield 17, 3) := by decide +kernel
theorem dX9_as_29 : decode cX9_as 29 = .ok (.getfield 144, 3) := by decide +kernel
theorem dX9_as_32 : decode cX9_as 32 = .ok (.iload_n 1, 1) := by decide +kernel
theorem dX9_as_33 : decode cX9_as 33 = .ok (.iaload, 1) := by decide +kernel
theorem dX9_as_34 : decode cX9_as 34 = .ok (.iload_n 2, 1) := by decide +kernel
theorem dX9_as_35 : decode cX9_as 35 = .ok (.invokestatic 159, 3) := by decide +kernel
theorem dX9_as_38 : decode cX9_as 38 = .ok (.ifCond .ne 10, 3) := by decide +kernel
theorem dX9_as_41 : decode cX9_as 41 = .ok (.aload_n 0, 1) := by decide +kernel
theorem dX9_as_42 : decode cX9_as 42 = .ok (.ldc 163, 2) := by decide +kernel
theorem dX9_as_44 : decode cX9_as 44 = .ok (.invokevirtual 81, 3) := by decide +kernel
theorem dX9_as_47 : decode cX9_as 47 = .ok (.ireturn, 1) := by decide +kernel
theorem dX9_as_48 : decode cX9_as 48 = .ok (.aload_n 0, 1) := by decide +kernel
theorem dX9_as_49 : decode cX9_as 49 = .ok (.getfield 17, 3) := by decide +kernel
theorem dX9_as_52 : decode cX9_as 52 = .ok (.getfield 150, 3) := by decide +kernel
theorem dX9_as_55 : decode cX9_as 55 = .ok (.iload_n 1, 1) := by decide +kernel
theorem dX9_as_56 : decode cX9_as 56 = .ok (.iaload, 1) := by decide +kernel
theorem dX9_as_57 : decode cX9_as 57 = .ok (.ireturn, 1) := by decide +kernel
theorem dX9_call_0 : decode cX9_call 0 = .ok (.aload_n 0, 1) := by decide +kernel
theorem dX9_call_1 : decode cX9_call 1 = .ok (.getfield 17, 3) := by decide +kernel
theorem dX9_call_4 : decode cX9_call 4 = .ok (.iload_n 1, 1) := by decide +kernel
theorem dX9_call_5 : decode cX9_call 5 = .ok (.invokevirtual 135, 3) := by decide +kernel
theorem dX9_call_8 : decode cX9_call 8 = .ok (.ifCond .eq 19, 3) := by decide +kernel
theorem dX9_call_11 : decode cX9_call 11 = .ok (.iload_n 2, 1) := by decide +kernel
theorem dX9_call_12 : decode cX9_call 12 = .ok (.iconst (-1), 1) := by decide +kernel
theorem dX9_call_13 : decode cX9_call 13 = .ok (.if_icmp .eq 21, 3) := by decide +kernel
theorem dX9_call_16 : decode cX9_call 16 = .ok (.aload_n 0, 1) := by decide +kernel
theorem dX9_call_17 : decode cX9_call 17 = .ok (.getfield 17, 3) := by decide +kernel
theorem dX9_call_20 : decode cX9_call 20 = .ok (.iload_n 2, 1) := by decide +kernel
theorem dX9_call_21 : decode cX9_call 21 = .ok (.invokevirtual 108, 3) := by decide +kernel
theorem dX9_call_24 : decode cX9_call 24 = .ok (.ifCond .ne 10, 3) := by decide +kernel
theorem dX9_call_27 : decode cX9_call 27 = .ok (.aload_n 0, 1) := by decide +kernel
theorem dX9_call_28 : decode cX9_call 28 = .ok (.ldc 80, 2) := by decide +kernel
theorem dX9_call_30 : decode cX9_call 30 = .ok (.invokevirtual 81, 3) := by decide +kernel
theorem dX9_call_33 : decode cX9_call 33 = .ok (.ireturn, 1) := by decide +kernel
theorem dX9_call_34 : decode cX9_call 34 = .ok (.aload_n 0, 1) := by decide +kernel
theorem dX9_call_35 : decode cX9_call 35 = .ok (.getfield 17, 3) := by decide +kernel
theorem dX9_call_38 : decode cX9_call 38 = .ok (.getfield 150, 3) := by decide +kernel
theorem dX9_call_41 : decode cX9_call 41 = .ok (.iload_n 1, 1) := by decide +kernel
theorem dX9_call_42 : decode cX9_call 42 = .ok (.iaload, 1) := by decide +kernel
theorem dX9_call_43 : decode cX9_call 43 = .ok (.istore_n 3, 1) := by decide +kernel
theorem dX9_call_44 : decode cX9_call 44 = .ok (.aload_n 0, 1) := by decide +kernel
theorem dX9_call_45 : decode cX9_call 45 = .ok (.getfield 17, 3) := by decide +kernel
theorem dX9_call_48 : decode cX9_call 48 = .ok (.getfield 150, 3) := by decide +kernel
theorem dX9_call_51 : decode cX9_call 51 = .ok (.iload_n 1, 1) := by decide +kernel
theorem dX9_call_52 : decode cX9_call 52 = .ok (.iload_n 2, 1) := by decide +kernel
theorem dX9_call_53 : decode cX9_call 53 = .ok (.iastore, 1) := by decide +kernel
theorem dX9_call_54 : decode cX9_call 54 = .ok (.iload_n 3, 1) := by decide +kernel
theorem dX9_call_55 : decode cX9_call 55 = .ok (.ireturn, 1) := by decide +kernel
theorem dX9_near_0 : decode cX9_near 0 = .ok (.aload_n 0, 1) := by decide +kernel
theorem dX9_near_1 : decode cX9_near 1 = .ok (.getfield 17, 3) := by decide +kernel
theorem dX9_near_4 : decode cX9_near 4 = .ok (.iload_n 1, 1) := by decide +kernel
theorem dX9_near_5 : decode cX9_near 5 = .ok (.iload_n 2, 1) := by decide +kernel
theorem dX9_near_6 : decode cX9_near 6 = .ok (.invokevirtual 164, 3) := by decide +kernel
theorem dX9_near_9 : decode cX9_near 9 = .ok (.ifCond .eq 10, 3) := by decide +kernel
theorem dX9_near_12 : decode cX9_near 12 = .ok (.iload_n 3, 1) := by decide +kernel
theorem dX9_near_13 : decode cX9_near 13 = .ok (.invokestatic 126, 3) := by decide +kernel
theorem dX9_near_16 : decode cX9_near 16 = .ok (.ifCond .ne 10, 3) := by decide +kernel
theorem dX9_near_19 : decode cX9_near 19 = .ok (.aload_n 0, 1) := by decide +kernel
theorem dX9_near_20 : decode cX9_near 20 = .ok (.ldc 80, 2) := by decide +kernel
theorem dX9_near_22 : decode cX9_near 22 = .ok (.invokevirtual 81, 3) := by decide +kernel
theorem dX9_near_25 : decode cX9_near 25 = .ok (.ireturn, 1) := by decide +kernel
theorem dX9_near_26 : decode cX9_near 26 = .ok (.aload_n 0, 1) := by decide +kernel
theorem dX9_near_27 : decode cX9_near 27 = .ok (.getfield 17, 3) := by decide +kernel
theorem dX9_near_30 : decode cX9_near 30 = .ok (.getfield 153, 3) := by decide +kernel
theorem dX9_near_33 : decode cX9_near 33 = .ok (.iload_n 1, 1) := by decide +kernel
theorem dX9_near_34 : decode cX9_near 34 = .ok (.iaload, 1) := by decide +kernel
theorem dX9_near_35 : decode cX9_near 35 = .ok (.iload_n 2, 1) := by decide +kernel
theorem dX9_near_36 : decode cX9_near 36 = .ok (.ishr, 1) := by decide +kernel
theorem dX9_near_37 : decode cX9_near 37 = .ok (.iconst 1, 1) := by decide +kernel
theorem dX9_near_38 : decode cX9_near 38 = .ok (.iand, 1) := by decide +kernel
theorem dX9_near_39 : decode cX9_near 39 = .ok (.istore 4, 2) := by decide +kernel
theorem dX9_near_41 : decode cX9_near 41 = .ok (.aload_n 0, 1) := by decide +kernel
theorem dX9_near_42 : decode cX9_near 42 = .ok (.getfield 17, 3) := by decide +kernel
theorem dX9_near_45 : decode cX9_near 45 = .ok (.iload_n 1, 1) := by decide +kernel
theorem dX9_near_46 : decode cX9_near 46 = .ok (.iload_n 2, 1) := by decide +kernel
theorem dX9_near_47 : decode cX9_near 47 = .ok (.iload_n 3, 1) := by decide +kernel
theorem dX9_near_48 : decode cX9_near 48 = .ok (.invokevirtual 167, 3) := by decide +kernel
theorem dX9_near_51 : decode cX9_near 51 = .ok (.iload 4, 2) := by decide +kernel
theorem dX9_near_53 : decode cX9_near 53 = .ok (.ireturn, 1) := by decide +kernel
theorem dX9_nears_0 : decode cX9_nears 0 = .ok (.aload_n 0, 1) := by decide +kernel
theorem dX9_nears_1 : decode cX9_nears 1 = .ok (.getfield 68, 3) := by decide +kernel
theorem dX9_nears_4 : decode cX9_nears 4 = .ok (.iload_n 1, 1) := by decide +kernel
theorem dX9_nears_5 : decode cX9_nears 5 = .ok (.invokevirtual 171, 3) := by decide +kernel
theorem dX9_nears_8 : decode cX9_nears 8 = .ok (.ifCond .ne 10, 3) := by decide +kernel
theorem dX9_nears_11 : decode cX9_nears 11 = .ok (.aload_n 0, 1) := by decide +kernel
theorem dX9_nears_12 : decode cX9_nears 12 = .ok (.ldc 80, 2) := by decide +kernel
theorem dX9_nears_14 : decode cX9_nears 14 = .ok (.invokevirtual 81, 3) := by decide +kernel
theorem dX9_nears_17 : decode cX9_nears 17 = .ok (.ireturn, 1) := by decide +kernel
theorem dX9_nears_18 : decode cX9_nears 18 = .ok (.aload_n 0, 1) := by decide +kernel
theorem dX9_nears_19 : decode cX9_nears 19 = .ok (.getfield 68, 3) := by decide +kernel
theorem dX9_nears_22 : decode cX9_nears 22 = .ok (.iload_n 1, 1) := by decide +kernel
theorem dX9_nears_23 : decode cX9_nears 23 = .ok (.invokevirtual 174, 3) := by decide +kernel
theorem dX9_nears_26 : decode cX9_nears 26 = .ok (.ifCond .eq 10, 3) := by decide +kernel
theorem dX9_nears_29 : decode cX9_nears 29 = .ok (.aload_n 0, 1) := by decide +kernel
theorem dX9_nears_30 : decode cX9_nears 30 = .ok (.ldc 177, 2) := by decide +kernel
theorem dX9_nears_32 : decode cX9_nears 32 = .ok (.invokevirtual 81, 3) := by decide +kernel
theorem dX9_nears_35 : decode cX9_nears 35 = .ok (.ireturn, 1) := by decide +kernel
theorem dX9_nears_36 : decode cX9_nears 36 = .ok (.aload_n 0, 1) := by decide +kernel
theorem dX9_nears_37 : decode cX9_nears 37 = .ok (.getfield 68, 3) := by decide +kernel
theorem dX9_nears_40 : decode cX9_nears 40 = .ok (.getfield 178, 3) := by decide +kernel
theorem dX9_nears_43 : decode cX9_nears 43 = .ok (.iload_n 1, 1) := by decide +kernel
theorem dX9_nears_44 : decode cX9_nears 44 = .ok (.iaload, 1) := by decide +kernel
theorem dX9_nears_45 : decode cX9_nears 45 = .ok (.iconst 2, 1) := by decide +kernel
theorem dX9_nears_46 : decode cX9_nears 46 = .ok (.idiv, 1) := by decide +kernel
theorem dX9_nears_47 : decode cX9_nears 47 = .ok (.istore_n 2, 1) := by decide +kernel
theorem dX9_nears_48 : decode cX9_nears 48 = .ok (.iconst 0, 1) := by decide +kernel
theorem dX9_nears_49 : decode cX9_nears 49 = .ok (.istore_n 3, 1) := by decide +kernel
theorem dX9_nears_50 : decode cX9_nears 50 = .ok (.iload_n 3, 1) := by decide +kernel
theorem dX9_nears_51 : decode cX9_nears 51 = .ok (.iload_n 2, 1) := by decide +kernel
theorem dX9_nears_52 : decode cX9_nears 52 = .ok (.if_icmp .ge 65, 3) := by decide +kernel
theorem dX9_nears_55 : decode cX9_nears 55 = .ok (.aload_n 0, 1) := by decide +kernel
theorem dX9_nears_56 : decode cX9_nears 56 = .ok (.getfield 68, 3) := by decide +kernel
theorem dX9_nears_59 : decode cX9_nears 59 = .ok (.iload_n 1, 1) := by decide +kernel
theorem dX9_nears_60 : decode cX9_nears 60 = .ok (.iconst 2, 1) := by decide +kernel
theorem dX9_nears_61 : decode cX9_nears 61 = .ok (.iload_n 3, 1) := by decide +kernel
theorem dX9_nears_62 : decode cX9_nears 62 = .ok (.imul, 1) := by decide +kernel
theorem dX9_nears_63 : decode cX9_nears 63 = .ok (.invokevirtual 181, 3) := by decide +kernel
theorem dX9_nears_66 : decode cX9_nears 66 = .ok (.istore 4, 2) := by decide +kernel
theorem dX9_nears_68 : decode cX9_nears 68 = .ok (.aload_n 0, 1) := by decide +kernel
theorem dX9_nears_69 : decode cX9_nears 69 = .ok (.getfield 68, 3) := by decide +kernel
theorem dX9_nears_72 : decode cX9_nears 72 = .ok (.iload_n 1, 1) := by decide +kernel
theorem dX9_nears_73 : decode cX9_nears 73 = .ok (.iconst 2, 1) := by decide +kernel
theorem dX9_nears_74 : decode cX9_nears 74 = .ok (.iload_n 3, 1) := by decide +kernel
theorem dX9_nears_75 : decode cX9_nears 75 = .ok (.imul, 1) := by decide +kernel
theorem dX9_nears_76 : decode cX9_nears 76 = .ok (.iconst 1, 1) := by decide +kernel
theorem dX9_nears_77 : decode cX9_nears 77 = .ok (.iadd, 1) := by decide +kernel
theorem dX9_nears_78 : decode cX9_nears 78 = .ok (.invokevirtual 181, 3) := by decide +kernel
theorem dX9_nears_81 : decode cX9_nears 81 = .ok (.istore 5, 2) := by decide +kernel
theorem dX9_nears_83 : decode cX9_nears 83 = .ok (.aload_n 0, 1) := by decide +kernel
theorem dX9_nears_84 : decode cX9_nears 84 = .ok (.getfield 17, 3) := by decide +kernel
theorem dX9_nears_87 : decode cX9_nears 87 = .ok (.iload 4, 2) := by decide +kernel
theorem dX9_nears_89 : decode cX9_nears 89 = .ok (.iload 5, 2) := by decide +kernel
theorem dX9_nears_91 : decode cX9_nears 91 = .ok (.invokevirtual 164, 3) := by decide +kernel
theorem dX9_nears_94 : decode cX9_nears 94 = .ok (.ifCond .ne 5, 3) := by decide +kernel
theorem dX9_nears_97 : decode cX9_nears 97 = .ok (.iload_n 3, 1) := by decide +kernel
theorem dX9_nears_98 : decode cX9_nears 98 = .ok (.ireturn, 1) := by decide +kernel
theorem dX9_nears_99 : decode cX9_nears 99 = .ok (.aload_n 0, 1) := by decide +kernel
theorem dX9_nears_100 : decode cX9_nears 100 = .ok (.getfield 17, 3) := by decide +kernel
theorem dX9_nears_103 : decode cX9_nears 103 = .ok (.iload 4, 2) := by decide +kernel
theorem dX9_nears_105 : decode cX9_nears 105 = .ok (.iload 5, 2) := by decide +kernel
theorem dX9_nears_107 : decode cX9_nears 107 = .ok (.iconst 1, 1) := by decide +kernel
theorem dX9_nears_108 : decode cX9_nears 108 = .ok (.invokevirtual 167, 3) := by decide +kernel
theorem dX9_nears_111 : decode cX9_nears 111 = .ok (.iinc 3 1, 3) := by decide +kernel
theorem dX9_nears_114 : decode cX9_nears 114 = .ok (.goto (-64), 3) := by decide +kernel
theorem dX9_nears_117 : decode cX9_nears 117 = .ok (.iload_n 2, 1) := by decide +kernel
theorem dX9_nears_118 : decode cX9_nears 118 = .ok (.ireturn, 1) := by decide +kernel
theorem dX9_worth_0 : decode cX9_worth 0 = .ok (.aload_n 0, 1) := by decide +kernel
theorem dX9_worth_1 : decode cX9_worth 1 = .ok (.getfield 17, 3) := by decide +kernel
theorem dX9_worth_4 : decode cX9_worth 4 = .ok (.iload_n 1, 1) := by decide +kernel
theorem dX9_worth_5 : decode cX9_worth 5 = .ok (.invokevirtual 135, 3) := by decide +kernel
theorem dX9_worth_8 : decode cX9_worth 8 = .ok (.ifCond .eq 14, 3) := by decide +kernel
theorem dX9_worth_11 : decode cX9_worth 11 = .ok (.aload_n 0, 1) := by decide +kernel
theorem dX9_worth_12 : decode cX9_worth 12 = .ok (.getfield 17, 3) := by decide +kernel
theorem dX9_worth_15 : decode cX9_worth 15 = .ok (.iload_n 2, 1) := by decide +kernel
theorem dX9_worth_16 : decode cX9_worth 16 = .ok (.invokevirtual 108, 3) := by decide +kernel
theorem dX9_worth_19 : decode cX9_worth 19 = .ok (.ifCond .ne 10, 3) := by decide +kernel
theorem dX9_worth_22 : decode cX9_worth 22 = .ok (.aload_n 0, 1) := by decide +kernel
theorem dX9_worth_23 : decode cX9_worth 23 = .ok (.ldc 80, 2) := by decide +kernel
theorem dX9_worth_25 : decode cX9_worth 25 = .ok (.invokevirtual 81, 3) := by decide +kernel
theorem dX9_worth_28 : decode cX9_worth 28 = .ok (.ireturn, 1) := by decide +kernel
theorem dX9_worth_29 : decode cX9_worth 29 = .ok (.aload_n 0, 1) := by decide +kernel
theorem dX9_worth_30 : decode cX9_worth 30 = .ok (.getfield 17, 3) := by decide +kernel
theorem dX9_worth_33 : decode cX9_worth 33 = .ok (.getfield 150, 3) := by decide +kernel
theorem dX9_worth_36 : decode cX9_worth 36 = .ok (.iload_n 1, 1) := by decide +kernel
theorem dX9_worth_37 : decode cX9_worth 37 = .ok (.iaload, 1) := by decide +kernel
theorem dX9_worth_38 : decode cX9_worth 38 = .ok (.iload_n 2, 1) := by decide +kernel
theorem dX9_worth_39 : decode cX9_worth 39 = .ok (.if_icmp .ne 7, 3) := by decide +kernel
theorem dX9_worth_42 : decode cX9_worth 42 = .ok (.iconst 1, 1) := by decide +kernel
theorem dX9_worth_43 : decode cX9_worth 43 = .ok (.goto 4, 3) := by decide +kernel
theorem dX9_worth_46 : decode cX9_worth 46 = .ok (.iconst 0, 1) := by decide +kernel
theorem dX9_worth_47 : decode cX9_worth 47 = .ok (.istore_n 3, 1) := by decide +kernel
theorem dX9_worth_48 : decode cX9_worth 48 = .ok (.aload_n 0, 1) := by decide +kernel
theorem dX9_worth_49 : decode cX9_worth 49 = .ok (.getfield 17, 3) := by decide +kernel
theorem dX9_worth_52 : decode cX9_worth 52 = .ok (.aload_n 0, 1) := by decide +kernel
theorem dX9_worth_53 : decode cX9_worth 53 = .ok (.getfield 17, 3) := by decide +kernel
theorem dX9_worth_56 : decode cX9_worth 56 = .ok (.getfield 144, 3) := by decide +kernel
theorem dX9_worth_59 : decode cX9_worth 59 = .ok (.iload_n 1, 1) := by decide +kernel
theorem dX9_worth_60 : decode cX9_worth 60 = .ok (.iaload, 1) := by decide +kernel
theorem dX9_worth_61 : decode cX9_worth 61 = .ok (.iload_n 2, 1) := by decide +kernel
theorem dX9_worth_62 : decode cX9_worth 62 = .ok (.aload_n 0, 1) := by decide +kernel
theorem dX9_worth_63 : decode cX9_worth 63 = .ok (.getfield 17, 3) := by decide +kernel
theorem dX9_worth_66 : decode cX9_worth 66 = .ok (.iload_n 1, 1) := by decide +kernel
theorem dX9_worth_67 : decode cX9_worth 67 = .ok (.invokevirtual 184, 3) := by decide +kernel
theorem dX9_worth_70 : decode cX9_worth 70 = .ok (.iload_n 3, 1) := by decide +kernel
theorem dX9_worth_71 : decode cX9_worth 71 = .ok (.invokevirtual 187, 3) := by decide +kernel
theorem dX9_worth_74 : decode cX9_worth 74 = .ok (.istore 4, 2) := by decide +kernel
theorem dX9_worth_76 : decode cX9_worth 76 = .ok (.iload 4, 2) := by decide +kernel
theorem dX9_worth_78 : decode cX9_worth 78 = .ok (.aload_n 0, 1) := by decide +kernel
theorem dX9_worth_79 : decode cX9_worth 79 = .ok (.getfield 17, 3) := by decide +kernel
theorem dX9_worth_82 : decode cX9_worth 82 = .ok (.aload_n 0, 1) := by decide +kernel
theorem dX9_worth_83 : decode cX9_worth 83 = .ok (.getfield 17, 3) := by decide +kernel
theorem dX9_worth_86 : decode cX9_worth 86 = .ok (.getfield 111, 3) := by decide +kernel
theorem dX9_worth_89 : decode cX9_worth 89 = .ok (.iload_n 2, 1) := by decide +kernel
theorem dX9_worth_90 : decode cX9_worth 90 = .ok (.iaload, 1) := by decide +kernel
theorem dX9_worth_91 : decode cX9_worth 91 = .ok (.aload_n 0, 1) := by decide +kernel
theorem dX9_worth_92 : decode cX9_worth 92 = .ok (.getfield 17, 3) := by decide +kernel
theorem dX9_worth_95 : decode cX9_worth 95 = .ok (.getfield 114, 3) := by decide +kernel
theorem dX9_worth_98 : decode cX9_worth 98 = .ok (.iload_n 2, 1) := by decide +kernel
theorem dX9_worth_99 : decode cX9_worth 99 = .ok (.iaload, 1) := by decide +kernel
theorem dX9_worth_100 : decode cX9_worth 100 = .ok (.iload_n 1, 1) := by decide +kernel
theorem dX9_worth_101 : decode cX9_worth 101 = .ok (.invokevirtual 191, 3) := by decide +kernel
theorem dX9_worth_104 : decode cX9_worth 104 = .ok (.iadd, 1) := by decide +kernel
theorem dX9_worth_105 : decode cX9_worth 105 = .ok (.ireturn, 1) := by decide +kernel
theorem dX9_lawful_0 : decode cX9_lawful 0 = .ok (.aload_n 0, 1) := by decide +kernel
theorem dX9_lawful_1 : decode cX9_lawful 1 = .ok (.getfield 17, 3) := by decide +kernel
theorem dX9_lawful_4 : decode cX9_lawful 4 = .ok (.invokevirtual 195, 3) := by decide +kernel
theorem dX9_lawful_7 : decode cX9_lawful 7 = .ok (.ifCond .eq 7, 3) := by decide +kernel
theorem dX9_lawful_10 : decode cX9_lawful 10 = .ok (.iconst 1, 1) := by decide +kernel
theorem dX9_lawful_11 : decode cX9_lawful 11 = .ok (.goto 4, 3) := by decide +kernel
theorem dX9_lawful_14 : decode cX9_lawful 14 = .ok (.iconst 0, 1) := by decide +kernel
theorem dX9_lawful_15 : decode cX9_lawful 15 = .ok (.ireturn, 1) := by decide +kernel
theorem dX9_text_0 : decode cX9_text 0 = .ok (.iload_n 1, 1) := by decide +kernel
theorem dX9_text_1 : decode cX9_text 1 = .ok (.invokestatic 199, 3) := by decide +kernel
theorem dX9_text_4 : decode cX9_text 4 = .ok (.ifCond .ne 10, 3) := by decide +kernel
theorem dX9_text_7 : decode cX9_text 7 = .ok (.aload_n 0, 1) := by decide +kernel
theorem dX9_text_8 : decode cX9_text 8 = .ok (.ldc 80, 2) := by decide +kernel
theorem dX9_text_10 : decode cX9_text 10 = .ok (.invokevirtual 81, 3) := by decide +kernel
theorem dX9_text_13 : decode cX9_text 13 = .ok (.ireturn, 1) := by decide +kernel
theorem dX9_text_14 : decode cX9_text 14 = .ok (.aload_n 0, 1) := by decide +kernel
theorem dX9_text_15 : decode cX9_text 15 = .ok (.getfield 27, 3) := by decide +kernel
theorem dX9_text_18 : decode cX9_text 18 = .ok (.aload_n 0, 1) := by decide +kernel
theorem dX9_text_19 : decode cX9_text 19 = .ok (.getfield 17, 3) := by decide +kernel
theorem dX9_text_22 : decode cX9_text 22 = .ok (.getfield 202, 3) := by decide +kernel
theorem dX9_text_25 : decode cX9_text 25 = .ok (.aload_n 0, 1) := by decide +kernel
theorem dX9_text_26 : decode cX9_text 26 = .ok (.getfield 17, 3) := by decide +kernel
theorem dX9_text_29 : decode cX9_text 29 = .ok (.getfield 85, 3) := by decide +kernel
theorem dX9_text_32 : decode cX9_text 32 = .ok (.iload_n 1, 1) := by decide +kernel
theorem dX9_text_33 : decode cX9_text 33 = .ok (.invokevirtual 206, 3) := by decide +kernel
theorem dX9_text_36 : decode cX9_text 36 = .ok (.istore_n 2, 1) := by decide +kernel
theorem dX9_text_37 : decode cX9_text 37 = .ok (.aload_n 0, 1) := by decide +kernel
theorem dX9_text_38 : decode cX9_text 38 = .ok (.getfield 17, 3) := by decide +kernel
theorem dX9_text_41 : decode cX9_text 41 = .ok (.iconst 0, 1) := by decide +kernel
theorem dX9_text_42 : decode cX9_text 42 = .ok (.putfield 85, 3) := by decide +kernel
theorem dX9_text_45 : decode cX9_text 45 = .ok (.iload_n 2, 1) := by decide +kernel
theorem dX9_text_46 : decode cX9_text 46 = .ok (.ifCond .lt 8, 3) := by decide +kernel
theorem dX9_text_49 : decode cX9_text 49 = .ok (.bipush (-10), 2) := by decide +kernel
theorem dX9_text_51 : decode cX9_text 51 = .ok (.iload_n 2, 1) := by decide +kernel
theorem dX9_text_52 : decode cX9_text 52 = .ok (.isub, 1) := by decide +kernel
theorem dX9_text_53 : decode cX9_text 53 = .ok (.ireturn, 1) := by decide +kernel
theorem dX9_text_54 : decode cX9_text 54 = .ok (.aload_n 0, 1) := by decide +kernel
theorem dX9_text_55 : decode cX9_text 55 = .ok (.getfield 17, 3) := by decide +kernel
theorem dX9_text_58 : decode cX9_text 58 = .ok (.iload_n 1, 1) := by decide +kernel
theorem dX9_text_59 : decode cX9_text 59 = .ok (.invokevirtual 210, 3) := by decide +kernel
theorem dX9_text_62 : decode cX9_text 62 = .ok (.aload_n 0, 1) := by decide +kernel
theorem dX9_text_63 : decode cX9_text 63 = .ok (.getfield 27, 3) := by decide +kernel
theorem dX9_text_66 : decode cX9_text 66 = .ok (.getfield 214, 3) := by decide +kernel
theorem dX9_text_69 : decode cX9_text 69 = .ok (.invokevirtual 218, 3) := by decide +kernel
theorem dX9_text_72 : decode cX9_text 72 = .ok (.aload_n 0, 1) := by decide +kernel
theorem dX9_text_73 : decode cX9_text 73 = .ok (.getfield 54, 3) := by decide +kernel
theorem dX9_text_76 : decode cX9_text 76 = .ok (.invokevirtual 224, 3) := by decide +kernel
theorem dX9_text_79 : decode cX9_text 79 = .ok (.iconst 1, 1) := by decide +kernel
theorem dX9_text_80 : decode cX9_text 80 = .ok (.ireturn, 1) := by decide +kernel
theorem dX9_law_0 : decode cX9_law 0 = .ok (.iload_n 1, 1) := by decide +kernel
theorem dX9_law_1 : decode cX9_law 1 = .ok (.invokestatic 199, 3) := by decide +kernel
theorem dX9_law_4 : decode cX9_law 4 = .ok (.ifCond .ne 10, 3) := by decide +kernel
theorem dX9_law_7 : decode cX9_law 7 = .ok (.aload_n 0, 1) := by decide +kernel
theorem dX9_law_8 : decode cX9_law 8 = .ok (.ldc 80, 2) := by decide +kernel
theorem dX9_law_10 : decode cX9_law 10 = .ok (.invokevirtual 81, 3) := by decide +kernel
theorem dX9_law_13 : decode cX9_law 13 = .ok (.ireturn, 1) := by decide +kernel
theorem dX9_law_14 : decode cX9_law 14 = .ok (.iload_n 1, 1) := by decide +kernel
theorem dX9_law_15 : decode cX9_law 15 = .ok (.ifCond .ne 17, 3) := by decide +kernel
theorem dX9_law_18 : decode cX9_law 18 = .ok (.aload_n 0, 1) := by decide +kernel
theorem dX9_law_19 : decode cX9_law 19 = .ok (.getfield 17, 3) := by decide +kernel
theorem dX9_law_22 : decode cX9_law 22 = .ok (.iload_n 2, 1) := by decide +kernel
theorem dX9_law_23 : decode cX9_law 23 = .ok (.iload_n 3, 1) := by decide +kernel
theorem dX9_law_24 : decode cX9_law 24 = .ok (.iload 4, 2) := by decide +kernel
theorem dX9_law_26 : decode cX9_law 26 = .ok (.invokevirtual 227, 3) := by decide +kernel
theorem dX9_law_29 : decode cX9_law 29 = .ok (.goto 14, 3) := by decide +kernel
theorem dX9_law_32 : decode cX9_law 32 = .ok (.aload_n 0, 1) := by decide +kernel
theorem dX9_law_33 : decode cX9_law 33 = .ok (.getfield 17, 3) := by decide +kernel
theorem dX9_law_36 : decode cX9_law 36 = .ok (.iload_n 2, 1) := by decide +kernel
theorem dX9_law_37 : decode cX9_law 37 = .ok (.iload_n 3, 1) := by decide +kernel
theorem dX9_law_38 : decode cX9_law 38 = .ok (.iload 4, 2) := by decide +kernel
theorem dX9_law_40 : decode cX9_law 40 = .ok (.invokevirtual 191, 3) := by decide +kernel
theorem dX9_law_43 : decode cX9_law 43 = .ok (.ireturn, 1) := by decide +kernel
theorem dX9_first_0 : decode cX9_first 0 = .ok (.aload_n 0, 1) := by decide +kernel
theorem dX9_first_1 : decode cX9_first 1 = .ok (.getfield 17, 3) := by decide +kernel
theorem dX9_first_4 : decode cX9_first 4 = .ok (.iload_n 1, 1) := by decide +kernel
theorem dX9_first_5 : decode cX9_first 5 = .ok (.invokevirtual 135, 3) := by decide +kernel
theorem dX9_first_8 : decode cX9_first 8 = .ok (.ifCond .ne 10, 3) := by decide +kernel
theorem dX9_first_11 : decode cX9_first 11 = .ok (.aload_n 0, 1) := by decide +kernel
theorem dX9_first_12 : decode cX9_first 12 = .ok (.ldc 80, 2) := by decide +kernel
theorem dX9_first_14 : decode cX9_first 14 = .ok (.invokevirtual 81, 3) := by decide +kernel
theorem dX9_first_17 : decode cX9_first 17 = .ok (.ireturn, 1) := by decide +kernel
theorem dX9_first_18 : decode cX9_first 18 = .ok (.aload_n 0, 1) := by decide +kernel
theorem dX9_first_19 : decode cX9_first 19 = .ok (.iconst 0, 1) := by decide +kernel
theorem dX9_first_20 : decode cX9_first 20 = .ok (.invokevirtual 230, 3) := by decide +kernel
theorem dX9_first_23 : decode cX9_first 23 = .ok (.istore_n 2, 1) := by decide +kernel
theorem dX9_first_24 : decode cX9_first 24 = .ok (.iload_n 2, 1) := by decide +kernel
theorem dX9_first_25 : decode cX9_first 25 = .ok (.ifCond .ne 14, 3) := by decide +kernel
theorem dX9_first_28 : decode cX9_first 28 = .ok (.aload_n 0, 1) := by decide +kernel
theorem dX9_first_29 : decode cX9_first 29 = .ok (.getfield 31, 3) := by decide +kernel
theorem dX9_first_32 : decode cX9_first 32 = .ok (.iload_n 1, 1) := by decide +kernel
theorem dX9_first_33 : decode cX9_first 33 = .ok (.invokevirtual 233, 3) := by decide +kernel
theorem dX9_first_36 : decode cX9_first 36 = .ok (.goto 8, 3) := by decide +kernel
theorem dX9_first_39 : decode cX9_first 39 = .ok (.aload_n 0, 1) := by decide +kernel
theorem dX9_first_40 : decode cX9_first 40 = .ok (.iload_n 2, 1) := by decide +kernel
theorem dX9_first_41 : decode cX9_first 41 = .ok (.invokevirtual 81, 3) := by decide +kernel
theorem dX9_first_44 : decode cX9_first 44 = .ok (.ireturn, 1) := by decide +kernel
theorem dX9_all_0 : decode cX9_all 0 = .ok (.aload_n 0, 1) := by decide +kernel
theorem dX9_all_1 : decode cX9_all 1 = .ok (.getfield 31, 3) := by decide +kernel
theorem dX9_all_4 : decode cX9_all 4 = .ok (.iconst (-1), 1) := by decide +kernel
theorem dX9_all_5 : decode cX9_all 5 = .ok (.iconst (-1), 1) := by decide +kernel
theorem dX9_all_6 : decode cX9_all 6 = .ok (.aload_n 0, 1) := by decide +kernel
theorem dX9_all_7 : decode cX9_all 7 = .ok (.getfield 17, 3) := by decide +kernel
theorem dX9_all_10 : decode cX9_all 10 = .ok (.invokevirtual 236, 3) := by decide +kernel
theorem dX9_all_13 : decode cX9_all 13 = .ok (.invokevirtual 239, 3) := by decide +kernel
theorem dX9_all_16 : decode cX9_all 16 = .ok (.ifCond .ne 10, 3) := by decide +kernel
theorem dX9_all_19 : decode cX9_all 19 = .ok (.aload_n 0, 1) := by decide +kernel
theorem dX9_all_20 : decode cX9_all 20 = .ok (.ldc 243, 2) := by decide +kernel
theorem dX9_all_22 : decode cX9_all 22 = .ok (.invokevirtual 81, 3) := by decide +kernel
theorem dX9_all_25 : decode cX9_all 25 = .ok (.ireturn, 1) := by decide +kernel
theorem dX9_all_26 : decode cX9_all 26 = .ok (.aload_n 0, 1) := by decide +kernel
theorem dX9_all_27 : decode cX9_all 27 = .ok (.getfield 31, 3) := by decide +kernel
theorem dX9_all_30 : decode cX9_all 30 = .ok (.invokevirtual 244, 3) := by decide +kernel
theorem dX9_all_33 : decode cX9_all 33 = .ok (.ireturn, 1) := by decide +kernel
theorem dX9_best_0 : decode cX9_best 0 = .ok (.iload_n 1, 1) := by decide +kernel
theorem dX9_best_1 : decode cX9_best 1 = .ok (.iconst (-1), 1) := by decide +kernel
theorem dX9_best_2 : decode cX9_best 2 = .ok (.if_icmp .eq 21, 3) := by decide +kernel
theorem dX9_best_5 : decode cX9_best 5 = .ok (.aload_n 0, 1) := by decide +kernel
theorem dX9_best_6 : decode cX9_best 6 = .ok (.getfield 17, 3) := by decide +kernel
theorem dX9_best_9 : decode cX9_best 9 = .ok (.iload_n 1, 1) := by decide +kernel
theorem dX9_best_10 : decode cX9_best 10 = .ok (.invokevirtual 135, 3) := by decide +kernel
theorem dX9_best_13 : decode cX9_best 13 = .ok (.ifCond .ne 10, 3) := by decide +kernel
theorem dX9_best_16 : decode cX9_best 16 = .ok (.aload_n 0, 1) := by decide +kernel
theorem dX9_best_17 : decode cX9_best 17 = .ok (.ldc 80, 2) := by decide +kernel
theorem dX9_best_19 : decode cX9_best 19 = .ok (.invokevirtual 81, 3) := by decide +kernel
theorem dX9_best_22 : decode cX9_best 22 = .ok (.ireturn, 1) := by decide +kernel
theorem dX9_best_23 : decode cX9_best 23 = .ok (.aload_n 0, 1) := by decide +kernel
theorem dX9_best_24 : decode cX9_best 24 = .ok (.iconst 1, 1) := by decide +kernel
theorem dX9_best_25 : decode cX9_best 25 = .ok (.invokevirtual 230, 3) := by decide +kernel
theorem dX9_best_28 : decode cX9_best 28 = .ok (.istore_n 2, 1) := by decide +kernel
theorem dX9_best_29 : decode cX9_best 29 = .ok (.iload_n 2, 1) := by decide +kernel
theorem dX9_best_30 : decode cX9_best 30 = .ok (.ifCond .eq 9, 3) := by decide +kernel
theorem dX9_best_33 : decode cX9_best 33 = .ok (.aload_n 0, 1) := by decide +kernel
theorem dX9_best_34 : decode cX9_best 34 = .ok (.iload_n 2, 1) := by decide +kernel
theorem dX9_best_35 : decode cX9_best 35 = .ok (.invokevirtual 81, 3) := by decide +kernel
theorem dX9_best_38 : decode cX9_best 38 = .ok (.ireturn, 1) := by decide +kernel
theorem dX9_best_39 : decode cX9_best 39 = .ok (.iload_n 1, 1) := by decide +kernel
theorem dX9_best_40 : decode cX9_best 40 = .ok (.iconst (-1), 1) := by decide +kernel
theorem dX9_best_41 : decode cX9_best 41 = .ok (.if_icmp .ne 13, 3) := by decide +kernel
theorem dX9_best_44 : decode cX9_best 44 = .ok (.aload_n 0, 1) := by decide +kernel
theorem dX9_best_45 : decode cX9_best 45 = .ok (.getfield 31, 3) := by decide +kernel
theorem dX9_best_48 : decode cX9_best 48 = .ok (.invokevirtual 247, 3) := by decide +kernel
theorem dX9_best_51 : decode cX9_best 51 = .ok (.goto 11, 3) := by decide +kernel
theorem dX9_best_54 : decode cX9_best 54 = .ok (.aload_n 0, 1) := by decide +kernel
theorem dX9_best_55 : decode cX9_best 55 = .ok (.getfield 31, 3) := by decide +kernel
theorem dX9_best_58 : decode cX9_best 58 = .ok (.iload_n 1, 1) := by decide +kernel
theorem dX9_best_59 : decode cX9_best 59 = .ok (.invokevirtual 233, 3) := by decide +kernel
theorem dX9_best_62 : decode cX9_best 62 = .ok (.ireturn, 1) := by decide +kernel
theorem dX9_fewest_0 : decode cX9_fewest 0 = .ok (.iload_n 1, 1) := by decide +kernel
theorem dX9_fewest_1 : decode cX9_fewest 1 = .ok (.iconst (-1), 1) := by decide +kernel
theorem dX9_fewest_2 : decode cX9_fewest 2 = .ok (.if_icmp .eq 21, 3) := by decide +kernel
theorem dX9_fewest_5 : decode cX9_fewest 5 = .ok (.aload_n 0, 1) := by decide +kernel
theorem dX9_fewest_6 : decode cX9_fewest 6 = .ok (.getfield 17, 3) := by decide +kernel
theorem dX9_fewest_9 : decode cX9_fewest 9 = .ok (.iload_n 1, 1) := by decide +kernel
theorem dX9_fewest_10 : decode cX9_fewest 10 = .ok (.invokevirtual 135, 3) := by decide +kernel
theorem dX9_fewest_13 : decode cX9_fewest 13 = .ok (.ifCond .ne 10, 3) := by decide +kernel
theorem dX9_fewest_16 : decode cX9_fewest 16 = .ok (.aload_n 0, 1) := by decide +kernel
theorem dX9_fewest_17 : decode cX9_fewest 17 = .ok (.ldc 80, 2) := by decide +kernel
theorem dX9_fewest_19 : decode cX9_fewest 19 = .ok (.invokevirtual 81, 3) := by decide +kernel
theorem dX9_fewest_22 : decode cX9_fewest 22 = .ok (.ireturn, 1) := by decide +kernel
theorem dX9_fewest_23 : decode cX9_fewest 23 = .ok (.aload_n 0, 1) := by decide +kernel
theorem dX9_fewest_24 : decode cX9_fewest 24 = .ok (.iconst 2, 1) := by decide +kernel
theorem dX9_fewest_25 : decode cX9_fewest 25 = .ok (.invokevirtual 230, 3) := by decide +kernel
theorem dX9_fewest_28 : decode cX9_fewest 28 = .ok (.istore_n 2, 1) := by decide +kernel
theorem dX9_fewest_29 : decode cX9_fewest 29 = .ok (.iload_n 2, 1) := by decide +kernel
theorem dX9_fewest_30 : decode cX9_fewest 30 = .ok (.ifCond .eq 9, 3) := by decide +kernel
theorem dX9_fewest_33 : decode cX9_fewest 33 = .ok (.aload_n 0, 1) := by decide +kernel
theorem dX9_fewest_34 : decode cX9_fewest 34 = .ok (.iload_n 2, 1) := by decide +kernel
theorem dX9_fewest_35 : decode cX9_fewest 35 = .ok (.invokevirtual 81, 3) := by decide +kernel
theorem dX9_fewest_38 : decode cX9_fewest 38 = .ok (.ireturn, 1) := by decide +kernel
theorem dX9_fewest_39 : decode cX9_fewest 39 = .ok (.iload_n 1, 1) := by decide +kernel
theorem dX9_fewest_40 : decode cX9_fewest 40 = .ok (.iconst (-1), 1) := by decide +kernel
theorem dX9_fewest_41 : decode cX9_fewest 41 = .ok (.if_icmp .ne 14, 3) := by decide +kernel
theorem dX9_fewest_44 : decode cX9_fewest 44 = .ok (.aload_n 0, 1) := by decide +kernel
theorem dX9_fewest_45 : decode cX9_fewest 45 = .ok (.getfield 31, 3) := by decide +kernel
theorem dX9_fewest_48 : decode cX9_fewest 48 = .ok (.invokevirtual 247, 3) := by decide +kernel
theorem dX9_fewest_51 : decode cX9_fewest 51 = .ok (.ineg, 1) := by decide +kernel
theorem dX9_fewest_52 : decode cX9_fewest 52 = .ok (.goto 11, 3) := by decide +kernel
theorem dX9_fewest_55 : decode cX9_fewest 55 = .ok (.aload_n 0, 1) := by decide +kernel
theorem dX9_fewest_56 : decode cX9_fewest 56 = .ok (.getfield 31, 3) := by decide +kernel
theorem dX9_fewest_59 : decode cX9_fewest 59 = .ok (.iload_n 1, 1) := by decide +kernel
theorem dX9_fewest_60 : decode cX9_fewest 60 = .ok (.invokevirtual 233, 3) := by decide +kernel
theorem dX9_fewest_63 : decode cX9_fewest 63 = .ok (.ireturn, 1) := by decide +kernel
theorem dX9_give_0 : decode cX9_give 0 = .ok (.iload_n 1, 1) := by decide +kernel
theorem dX9_give_1 : decode cX9_give 1 = .ok (.ifCond .lt 8, 3) := by decide +kernel
theorem dX9_give_4 : decode cX9_give 4 = .ok (.iload_n 1, 1) := by decide +kernel
theorem dX9_give_5 : decode cX9_give 5 = .ok (.iconst 3, 1) := by decide +kernel
theorem dX9_give_6 : decode cX9_give 6 = .ok (.if_icmp .lt 10, 3) := by decide +kernel
theorem dX9_give_9 : decode cX9_give 9 = .ok (.aload_n 0, 1) := by decide +kernel
theorem dX9_give_10 : decode cX9_give 10 = .ok (.ldc 80, 2) := by decide +kernel
theorem dX9_give_12 : decode cX9_give 12 = .ok (.invokevirtual 81, 3) := by decide +kernel
theorem dX9_give_15 : decode cX9_give 15 = .ok (.ireturn, 1) := by decide +kernel
theorem dX9_give_16 : decode cX9_give 16 = .ok (.aload_n 0, 1) := by decide +kernel
theorem dX9_give_17 : decode cX9_give 17 = .ok (.iload_n 1, 1) := by decide +kernel
theorem dX9_give_18 : decode cX9_give 18 = .ok (.invokevirtual 230, 3) := by decide +kernel
theorem dX9_give_21 : decode cX9_give 21 = .ok (.istore_n 2, 1) := by decide +kernel
theorem dX9_give_22 : decode cX9_give 22 = .ok (.iload_n 2, 1) := by decide +kernel
theorem dX9_give_23 : decode cX9_give 23 = .ok (.ifCond .eq 9, 3) := by decide +kernel
theorem dX9_give_26 : decode cX9_give 26 = .ok (.aload_n 0, 1) := by decide +kernel
theorem dX9_give_27 : decode cX9_give 27 = .ok (.iload_n 2, 1) := by decide +kernel
theorem dX9_give_28 : decode cX9_give 28 = .ok (.invokevirtual 81, 3) := by decide +kernel
theorem dX9_give_31 : decode cX9_give 31 = .ok (.ireturn, 1) := by decide +kernel
theorem dX9_give_32 : decode cX9_give 32 = .ok (.aload_n 0, 1) := by decide +kernel
theorem dX9_give_33 : decode cX9_give 33 = .ok (.getfield 17, 3) := by decide +kernel
theorem dX9_give_36 : decode cX9_give 36 = .ok (.invokevirtual 236, 3) := by decide +kernel
theorem dX9_give_39 : decode cX9_give 39 = .ok (.invokestatic 250, 3) := by decide +kernel
theorem dX9_give_42 : decode cX9_give 42 = .ok (.istore_n 3, 1) := by decide +kernel
theorem dX9_give_43 : decode cX9_give 43 = .ok (.aload_n 0, 1) := by decide +kernel
theorem dX9_give_44 : decode cX9_give 44 = .ok (.getfield 31, 3) := by decide +kernel
theorem dX9_give_47 : decode cX9_give 47 = .ok (.invokevirtual 255, 3) := by decide +kernel
theorem dX9_give_50 : decode cX9_give 50 = .ok (.iload_n 3, 1) := by decide +kernel
theorem dX9_give_51 : decode cX9_give 51 = .ok (.ireturn, 1) := by decide +kernel
theorem dX9_changes_0 : decode cX9_changes 0 = .ok (.aload_n 0, 1) := by decide +kernel
theorem dX9_changes_1 : decode cX9_changes 1 = .ok (.getfield 17, 3) := by decide +kernel
theorem dX9_changes_4 : decode cX9_changes 4 = .ok (.iload_n 1, 1) := by decide +kernel
theorem dX9_changes_5 : decode cX9_changes 5 = .ok (.invokevirtual 135, 3) := by decide +kernel
theorem dX9_changes_8 : decode cX9_changes 8 = .ok (.ifCond .eq 14, 3) := by decide +kernel
theorem dX9_changes_11 : decode cX9_changes 11 = .ok (.aload_n 0, 1) := by decide +kernel
theorem dX9_changes_12 : decode cX9_changes 12 = .ok (.getfield 17, 3) := by decide +kernel
theorem dX9_changes_15 : decode cX9_changes 15 = .ok (.iload_n 2, 1) := by decide +kernel
theorem dX9_changes_16 : decode cX9_changes 16 = .ok (.invokevirtual 108, 3) := by decide +kernel
theorem dX9_changes_19 : decode cX9_changes 19 = .ok (.ifCond .ne 10, 3) := by decide +kernel
theorem dX9_changes_22 : decode cX9_changes 22 = .ok (.aload_n 0, 1) := by decide +kernel
theorem dX9_changes_23 : decode cX9_changes 23 = .ok (.ldc 80, 2) := by decide +kernel
theorem dX9_changes_25 : decode cX9_changes 25 = .ok (.invokevirtual 81, 3) := by decide +kernel
theorem dX9_changes_28 : decode cX9_changes 28 = .ok (.ireturn, 1) := by decide +kernel
theorem dX9_changes_29 : decode cX9_changes 29 = .ok (.aload_n 0, 1) := by decide +kernel
theorem dX9_changes_30 : decode cX9_changes 30 = .ok (.getfield 40, 3) := by decide +kernel
theorem dX9_changes_33 : decode cX9_changes 33 = .ok (.iload_n 1, 1) := by decide +kernel
theorem dX9_changes_34 : decode cX9_changes 34 = .ok (.iload_n 2, 1) := by decide +kernel
theorem dX9_changes_35 : decode cX9_changes 35 = .ok (.invokevirtual 258, 3) := by decide +kernel
theorem dX9_changes_38 : decode cX9_changes 38 = .ok (.istore_n 3, 1) := by decide +kernel
theorem dX9_changes_39 : decode cX9_changes 39 = .ok (.iload_n 3, 1) := by decide +kernel
theorem dX9_changes_40 : decode cX9_changes 40 = .ok (.ifCond .lt 7, 3) := by decide +kernel
theorem dX9_changes_43 : decode cX9_changes 43 = .ok (.iload_n 3, 1) := by decide +kernel
theorem dX9_changes_44 : decode cX9_changes 44 = .ok (.goto 9, 3) := by decide +kernel
theorem dX9_changes_47 : decode cX9_changes 47 = .ok (.aload_n 0, 1) := by decide +kernel
theorem dX9_changes_48 : decode cX9_changes 48 = .ok (.ldc 177, 2) := by decide +kernel
theorem dX9_changes_50 : decode cX9_changes 50 = .ok (.invokevirtual 81, 3) := by decide +kernel
theorem dX9_changes_53 : decode cX9_changes 53 = .ok (.ireturn, 1) := by decide +kernel
theorem dX9_side_0 : decode cX9_side 0 = .ok (.iload_n 1, 1) := by decide +kernel
theorem dX9_side_1 : decode cX9_side 1 = .ok (.ifCond .eq 15, 3) := by decide +kernel
theorem dX9_side_4 : decode cX9_side 4 = .ok (.iload_n 1, 1) := by decide +kernel
theorem dX9_side_5 : decode cX9_side 5 = .ok (.iconst 1, 1) := by decide +kernel
theorem dX9_side_6 : decode cX9_side 6 = .ok (.if_icmp .eq 10, 3) := by decide +kernel
theorem dX9_side_9 : decode cX9_side 9 = .ok (.aload_n 0, 1) := by decide +kernel
theorem dX9_side_10 : decode cX9_side 10 = .ok (.ldc 80, 2) := by decide +kernel
theorem dX9_side_12 : decode cX9_side 12 = .ok (.invokevirtual 81, 3) := by decide +kernel
theorem dX9_side_15 : decode cX9_side 15 = .ok (.ireturn, 1) := by decide +kernel
theorem dX9_side_16 : decode cX9_side 16 = .ok (.aload_n 0, 1) := by decide +kernel
theorem dX9_side_17 : decode cX9_side 17 = .ok (.getfield 47, 3) := by decide +kernel
theorem dX9_side_20 : decode cX9_side 20 = .ok (.invokevirtual 261, 3) := by decide +kernel
theorem dX9_side_23 : decode cX9_side 23 = .ok (.istore_n 2, 1) := by decide +kernel
theorem dX9_side_24 : decode cX9_side 24 = .ok (.iload_n 1, 1) := by decide +kernel
theorem dX9_side_25 : decode cX9_side 25 = .ok (.ifCond .ne 7, 3) := by decide +kernel
theorem dX9_side_28 : decode cX9_side 28 = .ok (.iload_n 2, 1) := by decide +kernel
theorem dX9_side_29 : decode cX9_side 29 = .ok (.goto 7, 3) := by decide +kernel
theorem dX9_side_32 : decode cX9_side 32 = .ok (.iload_n 2, 1) := by decide +kernel
theorem dX9_side_33 : decode cX9_side 33 = .ok (.invokestatic 250, 3) := by decide +kernel
theorem dX9_side_36 : decode cX9_side 36 = .ok (.ireturn, 1) := by decide +kernel
theorem dX9_rows_0 : decode cX9_rows 0 = .ok (.iload_n 1, 1) := by decide +kernel
theorem dX9_rows_1 : decode cX9_rows 1 = .ok (.iconst 1, 1) := by decide +kernel
theorem dX9_rows_2 : decode cX9_rows 2 = .ok (.if_icmp .lt 9, 3) := by decide +kernel
theorem dX9_rows_5 : decode cX9_rows 5 = .ok (.iload_n 1, 1) := by decide +kernel
theorem dX9_rows_6 : decode cX9_rows 6 = .ok (.bipush 10, 2) := by decide +kernel
theorem dX9_rows_8 : decode cX9_rows 8 = .ok (.if_icmp .le 11, 3) := by decide +kernel
theorem dX9_rows_11 : decode cX9_rows 11 = .ok (.aload_n 0, 1) := by decide +kernel
theorem dX9_rows_12 : decode cX9_rows 12 = .ok (.ldc 80, 2) := by decide +kernel
theorem dX9_rows_14 : decode cX9_rows 14 = .ok (.invokevirtual 81, 3) := by decide +kernel
theorem dX9_rows_17 : decode cX9_rows 17 = .ok (.i2l, 1) := by decide +kernel
theorem dX9_rows_18 : decode cX9_rows 18 = .ok (.lreturn, 1) := by decide +kernel
theorem dX9_rows_19 : decode cX9_rows 19 = .ok (.aload_n 0, 1) := by decide +kernel
theorem dX9_rows_20 : decode cX9_rows 20 = .ok (.getfield 47, 3) := by decide +kernel
theorem dX9_rows_23 : decode cX9_rows 23 = .ok (.iload_n 1, 1) := by decide +kernel
theorem dX9_rows_24 : decode cX9_rows 24 = .ok (.invokevirtual 264, 3) := by decide +kernel
theorem dX9_rows_27 : decode cX9_rows 27 = .ok (.lreturn, 1) := by decide +kernel
theorem dX9_made_0 : decode cX9_made 0 = .ok (.iload_n 1, 1) := by decide +kernel
theorem dX9_made_1 : decode cX9_made 1 = .ok (.iconst 1, 1) := by decide +kernel
theorem dX9_made_2 : decode cX9_made 2 = .ok (.if_icmp .lt 30, 3) := by decide +kernel
theorem dX9_made_5 : decode cX9_made 5 = .ok (.iload_n 1, 1) := by decide +kernel
theorem dX9_made_6 : decode cX9_made 6 = .ok (.bipush 6, 2) := by decide +kernel
theorem dX9_made_8 : decode cX9_made 8 = .ok (.if_icmp .gt 24, 3) := by decide +kernel
theorem dX9_made_11 : decode cX9_made 11 = .ok (.iload_n 2, 1) := by decide +kernel
theorem dX9_made_12 : decode cX9_made 12 = .ok (.ifCond .lt 20, 3) := by decide +kernel
theorem dX9_made_15 : decode cX9_made 15 = .ok (.iload_n 2, 1) := by decide +kernel
theorem dX9_made_16 : decode cX9_made 16 = .ok (.ldc_w 268, 3) := by decide +kernel
theorem dX9_made_19 : decode cX9_made 19 = .ok (.if_icmp .gt 13, 3) := by decide +kernel
theorem dX9_made_22 : decode cX9_made 22 = .ok (.iload_n 3, 1) := by decide +kernel
theorem dX9_made_23 : decode cX9_made 23 = .ok (.iconst (-1), 1) := by decide +kernel
theorem dX9_made_24 : decode cX9_made 24 = .ok (.if_icmp .lt 8, 3) := by decide +kernel
theorem dX9_made_27 : decode cX9_made 27 = .ok (.iload_n 3, 1) := by decide +kernel
theorem dX9_made_28 : decode cX9_made 28 = .ok (.iload_n 1, 1) := by decide +kernel
theorem dX9_made_29 : decode cX9_made 29 = .ok (.if_icmp .lt 11, 3) := by decide +kernel
theorem dX9_made_32 : decode cX9_made 32 = .ok (.aload_n 0, 1) := by decide +kernel
theorem dX9_made_33 : decode cX9_made 33 = .ok (.ldc 80, 2) := by decide +kernel
theorem dX9_made_35 : decode cX9_made 35 = .ok (.invokevirtual 81, 3) := by decide +kernel
theorem dX9_made_38 : decode cX9_made 38 = .ok (.i2l, 1) := by decide +kernel
theorem dX9_made_39 : decode cX9_made 39 = .ok (.lreturn, 1) := by decide +kernel
theorem dX9_made_40 : decode cX9_made 40 = .ok (.aload_n 0, 1) := by decide +kernel
theorem dX9_made_41 : decode cX9_made 41 = .ok (.getfield 54, 3) := by decide +kernel
theorem dX9_made_44 : decode cX9_made 44 = .ok (.iload_n 1, 1) := by decide +kernel
theorem dX9_made_45 : decode cX9_made 45 = .ok (.iload_n 2, 1) := by decide +kernel
theorem dX9_made_46 : decode cX9_made 46 = .ok (.invokevirtual 269, 3) := by decide +kernel
theorem dX9_made_49 : decode cX9_made 49 = .ok (.lstore 4, 2) := by decide +kernel
theorem dX9_made_51 : decode cX9_made 51 = .ok (.iload_n 3, 1) := by decide +kernel
theorem dX9_made_52 : decode cX9_made 52 = .ok (.iconst (-1), 1) := by decide +kernel
theorem dX9_made_53 : decode cX9_made 53 = .ok (.if_icmp .ne 6, 3) := by decide +kernel
theorem dX9_made_56 : decode cX9_made 56 = .ok (.lload 4, 2) := by decide +kernel
theorem dX9_made_58 : decode cX9_made 58 = .ok (.lreturn, 1) := by decide +kernel
theorem dX9_made_59 : decode cX9_made 59 = .ok (.lload 4, 2) := by decide +kernel
theorem dX9_made_61 : decode cX9_made 61 = .ok (.lconst 0, 1) := by decide +kernel
theorem dX9_made_62 : decode cX9_made 62 = .ok (.lcmp, 1) := by decide +kernel
theorem dX9_made_63 : decode cX9_made 63 = .ok (.ifCond .le 16, 3) := by decide +kernel
theorem dX9_made_66 : decode cX9_made 66 = .ok (.aload_n 0, 1) := by decide +kernel
theorem dX9_made_67 : decode cX9_made 67 = .ok (.getfield 54, 3) := by decide +kernel
theorem dX9_made_70 : decode cX9_made 70 = .ok (.iload_n 2, 1) := by decide +kernel
theorem dX9_made_71 : decode cX9_made 71 = .ok (.iload_n 3, 1) := by decide +kernel
theorem dX9_made_72 : decode cX9_made 72 = .ok (.invokevirtual 273, 3) := by decide +kernel
theorem dX9_made_75 : decode cX9_made 75 = .ok (.i2l, 1) := by decide +kernel
theorem dX9_made_76 : decode cX9_made 76 = .ok (.goto 10, 3) := by decide +kernel
theorem dX9_made_79 : decode cX9_made 79 = .ok (.aload_n 0, 1) := by decide +kernel
theorem dX9_made_80 : decode cX9_made 80 = .ok (.ldc 177, 2) := by decide +kernel
theorem dX9_made_82 : decode cX9_made 82 = .ok (.invokevirtual 81, 3) := by decide +kernel
theorem dX9_made_85 : decode cX9_made 85 = .ok (.i2l, 1) := by decide +kernel
theorem dX9_made_86 : decode cX9_made 86 = .ok (.lreturn, 1) := by decide +kernel
theorem dX9_strikes_0 : decode cX9_strikes 0 = .ok (.iload_n 1, 1) := by decide +kernel
theorem dX9_strikes_1 : decode cX9_strikes 1 = .ok (.invokestatic 123, 3) := by decide +kernel
theorem dX9_strikes_4 : decode cX9_strikes 4 = .ok (.ifCond .ne 10, 3) := by decide +kernel
theorem dX9_strikes_7 : decode cX9_strikes 7 = .ok (.aload_n 0, 1) := by decide +kernel
theorem dX9_strikes_8 : decode cX9_strikes 8 = .ok (.ldc 80, 2) := by decide +kernel
theorem dX9_strikes_10 : decode cX9_strikes 10 = .ok (.invokevirtual 81, 3) := by decide +kernel
theorem dX9_strikes_13 : decode cX9_strikes 13 = .ok (.ireturn, 1) := by decide +kernel
theorem dX9_strikes_14 : decode cX9_strikes 14 = .ok (.aload_n 0, 1) := by decide +kernel
theorem dX9_strikes_15 : decode cX9_strikes 15 = .ok (.getfield 17, 3) := by decide +kernel
theorem dX9_strikes_18 : decode cX9_strikes 18 = .ok (.iconst 1, 1) := by decide +kernel
theorem dX9_strikes_19 : decode cX9_strikes 19 = .ok (.iload_n 1, 1) := by decide +kernel
theorem dX9_strikes_20 : decode cX9_strikes 20 = .ok (.ishl, 1) := by decide +kernel
theorem dX9_strikes_21 : decode cX9_strikes 21 = .ok (.invokevirtual 276, 3) := by decide +kernel
theorem dX9_strikes_24 : decode cX9_strikes 24 = .ok (.ireturn, 1) := by decide +kernel
theorem dX9_births_0 : decode cX9_births 0 = .ok (.iload_n 1, 1) := by decide +kernel
theorem dX9_births_1 : decode cX9_births 1 = .ok (.iconst 1, 1) := by decide +kernel
theorem dX9_births_2 : decode cX9_births 2 = .ok (.if_icmp .lt 9, 3) := by decide +kernel
theorem dX9_births_5 : decode cX9_births 5 = .ok (.iload_n 1, 1) := by decide +kernel
theorem dX9_births_6 : decode cX9_births 6 = .ok (.bipush 10, 2) := by decide +kernel
theorem dX9_births_8 : decode cX9_births 8 = .ok (.if_icmp .le 10, 3) := by decide +kernel
theorem dX9_births_11 : decode cX9_births 11 = .ok (.aload_n 0, 1) := by decide +kernel
theorem dX9_births_12 : decode cX9_births 12 = .ok (.ldc 80, 2) := by decide +kernel
theorem dX9_births_14 : decode cX9_births 14 = .ok (.invokevirtual 81, 3) := by decide +kernel
theorem dX9_births_17 : decode cX9_births 17 = .ok (.ireturn, 1) := by decide +kernel
theorem dX9_births_18 : decode cX9_births 18 = .ok (.aload_n 0, 1) := by decide +kernel
theorem dX9_births_19 : decode cX9_births 19 = .ok (.getfield 17, 3) := by decide +kernel
theorem dX9_births_22 : decode cX9_births 22 = .ok (.getfield 138, 3) := by decide +kernel
theorem dX9_births_25 : decode cX9_births 25 = .ok (.iload_n 1, 1) := by decide +kernel
theorem dX9_births_26 : decode cX9_births 26 = .ok (.iadd, 1) := by decide +kernel
theorem dX9_births_27 : decode cX9_births 27 = .ok (.bipush 10, 2) := by decide +kernel
theorem dX9_births_29 : decode cX9_births 29 = .ok (.if_icmp .le 10, 3) := by decide +kernel
theorem dX9_births_32 : decode cX9_births 32 = .ok (.aload_n 0, 1) := by decide +kernel
theorem dX9_births_33 : decode cX9_births 33 = .ok (.ldc 88, 2) := by decide +kernel
theorem dX9_births_35 : decode cX9_births 35 = .ok (.invokevirtual 81, 3) := by decide +kernel
theorem dX9_births_38 : decode cX9_births 38 = .ok (.ireturn, 1) := by decide +kernel
theorem dX9_births_39 : decode cX9_births 39 = .ok (.iconst 0, 1) := by decide +kernel
theorem dX9_births_40 : decode cX9_births 40 = .ok (.istore_n 2, 1) := by decide +kernel
theorem dX9_births_41 : decode cX9_births 41 = .ok (.iconst 0, 1) := by decide +kernel
theorem dX9_births_42 : decode cX9_births 42 = .ok (.istore_n 3, 1) := by decide +kernel
theorem dX9_births_43 : decode cX9_births 43 = .ok (.iload_n 3, 1) := by decide +kernel
theorem dX9_births_44 : decode cX9_births 44 = .ok (.iload_n 1, 1) := by decide +kernel
theorem dX9_births_45 : decode cX9_births 45 = .ok (.if_icmp .ge 27, 3) := by decide +kernel
theorem dX9_births_48 : decode cX9_births 48 = .ok (.iload_n 2, 1) := by decide +kernel
theorem dX9_births_49 : decode cX9_births 49 = .ok (.aload_n 0, 1) := by decide +kernel
theorem dX9_births_50 : decode cX9_births 50 = .ok (.getfield 17, 3) := by decide +kernel
theorem dX9_births_53 : decode cX9_births 53 = .ok (.invokevirtual 279, 3) := by decide +kernel
theorem dX9_births_56 : decode cX9_births 56 = .ok (.ifCond .eq 7, 3) := by decide +kernel
theorem dX9_births_59 : decode cX9_births 59 = .ok (.iconst 1, 1) := by decide +kernel
theorem dX9_births_60 : decode cX9_births 60 = .ok (.goto 4, 3) := by decide +kernel
theorem dX9_births_63 : decode cX9_births 63 = .ok (.iconst 0, 1) := by decide +kernel
theorem dX9_births_64 : decode cX9_births 64 = .ok (.iadd, 1) := by decide +kernel
theorem dX9_births_65 : decode cX9_births 65 = .ok (.istore_n 2, 1) := by decide +kernel
theorem dX9_births_66 : decode cX9_births 66 = .ok (.iinc 3 1, 3) := by decide +kernel
theorem dX9_births_69 : decode cX9_births 69 = .ok (.goto (-26), 3) := by decide +kernel
theorem dX9_births_72 : decode cX9_births 72 = .ok (.iload_n 2, 1) := by decide +kernel
theorem dX9_births_73 : decode cX9_births 73 = .ok (.ireturn, 1) := by decide +kernel
theorem dX9_seed_0 : decode cX9_seed 0 = .ok (.aload_n 0, 1) := by decide +kernel
theorem dX9_seed_1 : decode cX9_seed 1 = .ok (.getfield 17, 3) := by decide +kernel
theorem dX9_seed_4 : decode cX9_seed 4 = .ok (.getfield 282, 3) := by decide +kernel
theorem dX9_seed_7 : decode cX9_seed 7 = .ok (.istore_n 2, 1) := by decide +kernel
theorem dX9_seed_8 : decode cX9_seed 8 = .ok (.aload_n 0, 1) := by decide +kernel
theorem dX9_seed_9 : decode cX9_seed 9 = .ok (.getfield 17, 3) := by decide +kernel
theorem dX9_seed_12 : decode cX9_seed 12 = .ok (.iload_n 1, 1) := by decide +kernel
theorem dX9_seed_13 : decode cX9_seed 13 = .ok (.putfield 282, 3) := by decide +kernel
theorem dX9_seed_16 : decode cX9_seed 16 = .ok (.iload_n 2, 1) := by decide +kernel
theorem dX9_seed_17 : decode cX9_seed 17 = .ok (.ireturn, 1) := by decide +kernel
theorem dX9_voice_0 : decode cX9_voice 0 = .ok (.aload_n 0, 1) := by decide +kernel
theorem dX9_voice_1 : decode cX9_voice 1 = .ok (.getfield 17, 3) := by decide +kernel
theorem dX9_voice_4 : decode cX9_voice 4 = .ok (.iload_n 1, 1) := by decide +kernel
theorem dX9_voice_5 : decode cX9_voice 5 = .ok (.invokevirtual 135, 3) := by decide +kernel
theorem dX9_voice_8 : decode cX9_voice 8 = .ok (.ifCond .eq 12, 3) := by decide +kernel
theorem dX9_voice_11 : decode cX9_voice 11 = .ok (.iload_n 2, 1) := by decide +kernel
theorem dX9_voice_12 : decode cX9_voice 12 = .ok (.ifCond .lt 8, 3) := by decide +kernel
theorem dX9_voice_15 : decode cX9_voice 15 = .ok (.iload_n 2, 1) := by decide +kernel
theorem dX9_voice_16 : decode cX9_voice 16 = .ok (.iconst 4, 1) := by decide +kernel
theorem dX9_voice_17 : decode cX9_voice 17 = .ok (.if_icmp .lt 10, 3) := by decide +kernel
theorem dX9_voice_20 : decode cX9_voice 20 = .ok (.aload_n 0, 1) := by decide +kernel
theorem dX9_voice_21 : decode cX9_voice 21 = .ok (.ldc 80, 2) := by decide +kernel
theorem dX9_voice_23 : decode cX9_voice 23 = .ok (.invokevirtual 81, 3) := by decide +kernel
theorem dX9_voice_26 : decode cX9_voice 26 = .ok (.ireturn, 1) := by decide +kernel
theorem dX9_voice_27 : decode cX9_voice 27 = .ok (.aload_n 0, 1) := by decide +kernel
theorem dX9_voice_28 : decode cX9_voice 28 = .ok (.getfield 61, 3) := by decide +kernel
theorem dX9_voice_31 : decode cX9_voice 31 = .ok (.iload_n 1, 1) := by decide +kernel
theorem dX9_voice_32 : decode cX9_voice 32 = .ok (.aload_n 0, 1) := by decide +kernel
theorem dX9_voice_33 : decode cX9_voice 33 = .ok (.getfield 17, 3) := by decide +kernel
theorem dX9_voice_36 : decode cX9_voice 36 = .ok (.getfield 147, 3) := by decide +kernel
theorem dX9_voice_39 : decode cX9_voice 39 = .ok (.iload_n 1, 1) := by decide +kernel
theorem dX9_voice_40 : decode cX9_voice 40 = .ok (.iaload, 1) := by decide +kernel
theorem dX9_voice_41 : decode cX9_voice 41 = .ok (.aload_n 0, 1) := by decide +kernel
theorem dX9_voice_42 : decode cX9_voice 42 = .ok (.getfield 17, 3) := by decide +kernel
theorem dX9_voice_45 : decode cX9_voice 45 = .ok (.getfield 144, 3) := by decide +kernel
theorem dX9_voice_48 : decode cX9_voice 48 = .ok (.iload_n 1, 1) := by decide +kernel
theorem dX9_voice_49 : decode cX9_voice 49 = .ok (.iaload, 1) := by decide +kernel
theorem dX9_voice_50 : decode cX9_voice 50 = .ok (.iload_n 2, 1) := by decide +kernel
theorem dX9_voice_51 : decode cX9_voice 51 = .ok (.iload_n 3, 1) := by decide +kernel
theorem dX9_voice_52 : decode cX9_voice 52 = .ok (.invokevirtual 285, 3) := by decide +kernel
theorem dX9_voice_55 : decode cX9_voice 55 = .ok (.ireturn, 1) := by decide +kernel
theorem dX9_trace_0 : decode cX9_trace 0 = .ok (.iload_n 1, 1) := by decide +kernel
theorem dX9_trace_1 : decode cX9_trace 1 = .ok (.ifCond .lt 14, 3) := by decide +kernel
theorem dX9_trace_4 : decode cX9_trace 4 = .ok (.iload_n 1, 1) := by decide +kernel
theorem dX9_trace_5 : decode cX9_trace 5 = .ok (.aload_n 0, 1) := by decide +kernel
theorem dX9_trace_6 : decode cX9_trace 6 = .ok (.getfield 61, 3) := by decide +kernel
theorem dX9_trace_9 : decode cX9_trace 9 = .ok (.getfield 289, 3) := by decide +kernel
theorem dX9_trace_12 : decode cX9_trace 12 = .ok (.if_icmp .lt 10, 3) := by decide +kernel
theorem dX9_trace_15 : decode cX9_trace 15 = .ok (.aload_n 0, 1) := by decide +kernel
theorem dX9_trace_16 : decode cX9_trace 16 = .ok (.ldc 177, 2) := by decide +kernel
theorem dX9_trace_18 : decode cX9_trace 18 = .ok (.invokevirtual 81, 3) := by decide +kernel
theorem dX9_trace_21 : decode cX9_trace 21 = .ok (.ireturn, 1) := by decide +kernel
theorem dX9_trace_22 : decode cX9_trace 22 = .ok (.aload_n 0, 1) := by decide +kernel
theorem dX9_trace_23 : decode cX9_trace 23 = .ok (.getfield 61, 3) := by decide +kernel
theorem dX9_trace_26 : decode cX9_trace 26 = .ok (.getfield 292, 3) := by decide +kernel
theorem dX9_trace_29 : decode cX9_trace 29 = .ok (.iload_n 1, 1) := by decide +kernel
theorem dX9_trace_30 : decode cX9_trace 30 = .ok (.iaload, 1) := by decide +kernel
theorem dX9_trace_31 : decode cX9_trace 31 = .ok (.ireturn, 1) := by decide +kernel
theorem dX9_sheet_0 : decode cX9_sheet 0 = .ok (.aload_n 0, 1) := by decide +kernel
theorem dX9_sheet_1 : decode cX9_sheet 1 = .ok (.getfield 68, 3) := by decide +kernel
theorem dX9_sheet_4 : decode cX9_sheet 4 = .ok (.iload_n 1, 1) := by decide +kernel
theorem dX9_sheet_5 : decode cX9_sheet 5 = .ok (.invokevirtual 171, 3) := by decide +kernel
theorem dX9_sheet_8 : decode cX9_sheet 8 = .ok (.ifCond .eq 14, 3) := by decide +kernel
theorem dX9_sheet_11 : decode cX9_sheet 11 = .ok (.aload_n 0, 1) := by decide +kernel
theorem dX9_sheet_12 : decode cX9_sheet 12 = .ok (.getfield 68, 3) := by decide +kernel
theorem dX9_sheet_15 : decode cX9_sheet 15 = .ok (.iload_n 2, 1) := by decide +kernel
theorem dX9_sheet_16 : decode cX9_sheet 16 = .ok (.invokevirtual 295, 3) := by decide +kernel
theorem dX9_sheet_19 : decode cX9_sheet 19 = .ok (.ifCond .ne 10, 3) := by decide +kernel
theorem dX9_sheet_22 : decode cX9_sheet 22 = .ok (.aload_n 0, 1) := by decide +kernel
theorem dX9_sheet_23 : decode cX9_sheet 23 = .ok (.ldc 80, 2) := by decide +kernel
theorem dX9_sheet_25 : decode cX9_sheet 25 = .ok (.invokevirtual 81, 3) := by decide +kernel
theorem dX9_sheet_28 : decode cX9_sheet 28 = .ok (.ireturn, 1) := by decide +kernel
theorem dX9_sheet_29 : decode cX9_sheet 29 = .ok (.iload_n 2, 1) := by decide +kernel
theorem dX9_sheet_30 : decode cX9_sheet 30 = .ok (.ifCond .eq 14, 3) := by decide +kernel
theorem dX9_sheet_33 : decode cX9_sheet 33 = .ok (.iload_n 3, 1) := by decide +kernel
theorem dX9_sheet_34 : decode cX9_sheet 34 = .ok (.ifCond .ge 10, 3) := by decide +kernel
theorem dX9_sheet_37 : decode cX9_sheet 37 = .ok (.aload_n 0, 1) := by decide +kernel
theorem dX9_sheet_38 : decode cX9_sheet 38 = .ok (.ldc 243, 2) := by decide +kernel
theorem dX9_sheet_40 : decode cX9_sheet 40 = .ok (.invokevirtual 81, 3) := by decide +kernel
theorem dX9_sheet_43 : decode cX9_sheet 43 = .ok (.ireturn, 1) := by decide +kernel
theorem dX9_sheet_44 : decode cX9_sheet 44 = .ok (.iload_n 2, 1) := by decide +kernel
theorem dX9_sheet_45 : decode cX9_sheet 45 = .ok (.ifCond .eq 16, 3) := by decide +kernel
theorem dX9_sheet_48 : decode cX9_sheet 48 = .ok (.iload_n 3, 1) := by decide +kernel
theorem dX9_sheet_49 : decode cX9_sheet 49 = .ok (.bipush 40, 2) := by decide +kernel
theorem dX9_sheet_51 : decode cX9_sheet 51 = .ok (.if_icmp .le 10, 3) := by decide +kernel
theorem dX9_sheet_54 : decode cX9_sheet 54 = .ok (.aload_n 0, 1) := by decide +kernel
theorem dX9_sheet_55 : decode cX9_sheet 55 = .ok (.ldc 80, 2) := by decide +kernel
theorem dX9_sheet_57 : decode cX9_sheet 57 = .ok (.invokevirtual 81, 3) := by decide +kernel
theorem dX9_sheet_60 : decode cX9_sheet 60 = .ok (.ireturn, 1) := by decide +kernel
theorem dX9_sheet_61 : decode cX9_sheet 61 = .ok (.aload_n 0, 1) := by decide +kernel
theorem dX9_sheet_62 : decode cX9_sheet 62 = .ok (.getfield 68, 3) := by decide +kernel
theorem dX9_sheet_65 : decode cX9_sheet 65 = .ok (.iload_n 1, 1) := by decide +kernel
theorem dX9_sheet_66 : decode cX9_sheet 66 = .ok (.iload_n 2, 1) := by decide +kernel
theorem dX9_sheet_67 : decode cX9_sheet 67 = .ok (.iload_n 2, 1) := by decide +kernel
theorem dX9_sheet_68 : decode cX9_sheet 68 = .ok (.ifCond .ne 7, 3) := by decide +kernel
theorem dX9_sheet_71 : decode cX9_sheet 71 = .ok (.iconst 0, 1) := by decide +kernel
theorem dX9_sheet_72 : decode cX9_sheet 72 = .ok (.goto 4, 3) := by decide +kernel
theorem dX9_sheet_75 : decode cX9_sheet 75 = .ok (.iload_n 3, 1) := by decide +kernel
theorem dX9_sheet_76 : decode cX9_sheet 76 = .ok (.invokevirtual 298, 3) := by decide +kernel
theorem dX9_sheet_79 : decode cX9_sheet 79 = .ok (.iconst 1, 1) := by decide +kernel
theorem dX9_sheet_80 : decode cX9_sheet 80 = .ok (.ireturn, 1) := by decide +kernel
theorem dX9_put_0 : decode cX9_put 0 = .ok (.aload_n 0, 1) := by decide +kernel
theorem dX9_put_1 : decode cX9_put 1 = .ok (.getfield 68, 3) := by decide +kernel
theorem dX9_put_4 : decode cX9_put 4 = .ok (.iload_n 1, 1) := by decide +kernel
theorem dX9_put_5 : decode cX9_put 5 = .ok (.invokevirtual 171, 3) := by decide +kernel
theorem dX9_put_8 : decode cX9_put 8 = .ok (.ifCond .ne 10, 3) := by decide +kernel
theorem dX9_put_11 : decode cX9_put 11 = .ok (.aload_n 0, 1) := by decide +kernel
theorem dX9_put_12 : decode cX9_put 12 = .ok (.ldc 80, 2) := by decide +kernel
theorem dX9_put_14 : decode cX9_put 14 = .ok (.invokevirtual 81, 3) := by decide +kernel
theorem dX9_put_17 : decode cX9_put 17 = .ok (.ireturn, 1) := by decide +kernel
theorem dX9_put_18 : decode cX9_put 18 = .ok (.aload_n 0, 1) := by decide +kernel
theorem dX9_put_19 : decode cX9_put 19 = .ok (.getfield 68, 3) := by decide +kernel
theorem dX9_put_22 : decode cX9_put 22 = .ok (.iload_n 1, 1) := by decide +kernel
theorem dX9_put_23 : decode cX9_put 23 = .ok (.invokevirtual 174, 3) := by decide +kernel
theorem dX9_put_26 : decode cX9_put 26 = .ok (.ifCond .eq 10, 3) := by decide +kernel
theorem dX9_put_29 : decode cX9_put 29 = .ok (.aload_n 0, 1) := by decide +kernel
theorem dX9_put_30 : decode cX9_put 30 = .ok (.ldc 177, 2) := by decide +kernel
theorem dX9_put_32 : decode cX9_put 32 = .ok (.invokevirtual 81, 3) := by decide +kernel
theorem dX9_put_35 : decode cX9_put 35 = .ok (.ireturn, 1) := by decide +kernel
theorem dX9_put_36 : decode cX9_put 36 = .ok (.iload_n 2, 1) := by decide +kernel
theorem dX9_put_37 : decode cX9_put 37 = .ok (.ifCond .lt 16, 3) := by decide +kernel
theorem dX9_put_40 : decode cX9_put 40 = .ok (.iload_n 2, 1) := by decide +kernel
theorem dX9_put_41 : decode cX9_put 41 = .ok (.aload_n 0, 1) := by decide +kernel
theorem dX9_put_42 : decode cX9_put 42 = .ok (.getfield 68, 3) := by decide +kernel
theorem dX9_put_45 : decode cX9_put 45 = .ok (.getfield 178, 3) := by decide +kernel
theorem dX9_put_48 : decode cX9_put 48 = .ok (.iload_n 1, 1) := by decide +kernel
theorem dX9_put_49 : decode cX9_put 49 = .ok (.iaload, 1) := by decide +kernel
theorem dX9_put_50 : decode cX9_put 50 = .ok (.if_icmp .lt 10, 3) := by decide +kernel
theorem dX9_put_53 : decode cX9_put 53 = .ok (.aload_n 0, 1) := by decide +kernel
theorem dX9_put_54 : decode cX9_put 54 = .ok (.ldc 80, 2) := by decide +kernel
theorem dX9_put_56 : decode cX9_put 56 = .ok (.invokevirtual 81, 3) := by decide +kernel
theorem dX9_put_59 : decode cX9_put 59 = .ok (.ireturn, 1) := by decide +kernel
theorem dX9_put_60 : decode cX9_put 60 = .ok (.aload_n 0, 1) := by decide +kernel
theorem dX9_put_61 : decode cX9_put 61 = .ok (.getfield 68, 3) := by decide +kernel
theorem dX9_put_64 : decode cX9_put 64 = .ok (.iload_n 1, 1) := by decide +kernel
theorem dX9_put_65 : decode cX9_put 65 = .ok (.iload_n 2, 1) := by decide +kernel
theorem dX9_put_66 : decode cX9_put 66 = .ok (.iload_n 3, 1) := by decide +kernel
theorem dX9_put_67 : decode cX9_put 67 = .ok (.invokevirtual 301, 3) := by decide +kernel
theorem dX9_put_70 : decode cX9_put 70 = .ok (.iconst 1, 1) := by decide +kernel
theorem dX9_put_71 : decode cX9_put 71 = .ok (.ireturn, 1) := by decide +kernel
theorem dX9_move_0 : decode cX9_move 0 = .ok (.aload_n 0, 1) := by decide +kernel
theorem dX9_move_1 : decode cX9_move 1 = .ok (.getfield 68, 3) := by decide +kernel
theorem dX9_move_4 : decode cX9_move 4 = .ok (.iload_n 1, 1) := by decide +kernel
theorem dX9_move_5 : decode cX9_move 5 = .ok (.invokevirtual 171, 3) := by decide +kernel
theorem dX9_move_8 : decode cX9_move 8 = .ok (.ifCond .eq 14, 3) := by decide +kernel
theorem dX9_move_11 : decode cX9_move 11 = .ok (.aload_n 0, 1) := by decide +kernel
theorem dX9_move_12 : decode cX9_move 12 = .ok (.getfield 68, 3) := by decide +kernel
theorem dX9_move_15 : decode cX9_move 15 = .ok (.iload_n 3, 1) := by decide +kernel
theorem dX9_move_16 : decode cX9_move 16 = .ok (.invokevirtual 171, 3) := by decide +kernel
theorem dX9_move_19 : decode cX9_move 19 = .ok (.ifCond .ne 10, 3) := by decide +kernel
theorem dX9_move_22 : decode cX9_move 22 = .ok (.aload_n 0, 1) := by decide +kernel
theorem dX9_move_23 : decode cX9_move 23 = .ok (.ldc 80, 2) := by decide +kernel
theorem dX9_move_25 : decode cX9_move 25 = .ok (.invokevirtual 81, 3) := by decide +kernel
theorem dX9_move_28 : decode cX9_move 28 = .ok (.ireturn, 1) := by decide +kernel
theorem dX9_move_29 : decode cX9_move 29 = .ok (.aload_n 0, 1) := by decide +kernel
theorem dX9_move_30 : decode cX9_move 30 = .ok (.getfield 68, 3) := by decide +kernel
theorem dX9_move_33 : decode cX9_move 33 = .ok (.iload_n 1, 1) := by decide +kernel
theorem dX9_move_34 : decode cX9_move 34 = .ok (.invokevirtual 174, 3) := by decide +kernel
theorem dX9_move_37 : decode cX9_move 37 = .ok (.ifCond .ne 14, 3) := by decide +kernel
theorem dX9_move_40 : decode cX9_move 40 = .ok (.aload_n 0, 1) := by decide +kernel
theorem dX9_move_41 : decode cX9_move 41 = .ok (.getfield 68, 3) := by decide +kernel
theorem dX9_move_44 : decode cX9_move 44 = .ok (.iload_n 3, 1) := by decide +kernel
theorem dX9_move_45 : decode cX9_move 45 = .ok (.invokevirtual 174, 3) := by decide +kernel
theorem dX9_move_48 : decode cX9_move 48 = .ok (.ifCond .eq 10, 3) := by decide +kernel
theorem dX9_move_51 : decode cX9_move 51 = .ok (.aload_n 0, 1) := by decide +kernel
theorem dX9_move_52 : decode cX9_move 52 = .ok (.ldc 177, 2) := by decide +kernel
theorem dX9_move_54 : decode cX9_move 54 = .ok (.invokevirtual 81, 3) := by decide +kernel
theorem dX9_move_57 : decode cX9_move 57 = .ok (.ireturn, 1) := by decide +kernel
theorem dX9_move_58 : decode cX9_move 58 = .ok (.aload_n 0, 1) := by decide +kernel
theorem dX9_move_59 : decode cX9_move 59 = .ok (.getfield 68, 3) := by decide +kernel
theorem dX9_move_62 : decode cX9_move 62 = .ok (.getfield 304, 3) := by decide +kernel
theorem dX9_move_65 : decode cX9_move 65 = .ok (.iload_n 1, 1) := by decide +kernel
theorem dX9_move_66 : decode cX9_move 66 = .ok (.iaload, 1) := by decide +kernel
theorem dX9_move_67 : decode cX9_move 67 = .ok (.aload_n 0, 1) := by decide +kernel
theorem dX9_move_68 : decode cX9_move 68 = .ok (.getfield 68, 3) := by decide +kernel
theorem dX9_move_71 : decode cX9_move 71 = .ok (.getfield 304, 3) := by decide +kernel
theorem dX9_move_74 : decode cX9_move 74 = .ok (.iload_n 3, 1) := by decide +kernel
theorem dX9_move_75 : decode cX9_move 75 = .ok (.iaload, 1) := by decide +kernel
theorem dX9_move_76 : decode cX9_move 76 = .ok (.if_icmp .eq 10, 3) := by decide +kernel
theorem dX9_move_79 : decode cX9_move 79 = .ok (.aload_n 0, 1) := by decide +kernel
theorem dX9_move_80 : decode cX9_move 80 = .ok (.ldc 163, 2) := by decide +kernel
theorem dX9_move_82 : decode cX9_move 82 = .ok (.invokevirtual 81, 3) := by decide +kernel
theorem dX9_move_85 : decode cX9_move 85 = .ok (.ireturn, 1) := by decide +kernel
theorem dX9_move_86 : decode cX9_move 86 = .ok (.aload_n 0, 1) := by decide +kernel
theorem dX9_move_87 : decode cX9_move 87 = .ok (.getfield 68, 3) := by decide +kernel
theorem dX9_move_90 : decode cX9_move 90 = .ok (.iload_n 1, 1) := by decide +kernel
theorem dX9_move_91 : decode cX9_move 91 = .ok (.iload_n 2, 1) := by decide +kernel
theorem dX9_move_92 : decode cX9_move 92 = .ok (.iload 5, 2) := by decide +kernel
theorem dX9_move_94 : decode cX9_move 94 = .ok (.invokevirtual 307, 3) := by decide +kernel
theorem dX9_move_97 : decode cX9_move 97 = .ok (.ifCond .eq 18, 3) := by decide +kernel
theorem dX9_move_100 : decode cX9_move 100 = .ok (.aload_n 0, 1) := by decide +kernel
theorem dX9_move_101 : decode cX9_move 101 = .ok (.getfield 68, 3) := by decide +kernel
theorem dX9_move_104 : decode cX9_move 104 = .ok (.iload_n 3, 1) := by decide +kernel
theorem dX9_move_105 : decode cX9_move 105 = .ok (.iload 4, 2) := by decide +kernel
theorem dX9_move_107 : decode cX9_move 107 = .ok (.iload 5, 2) := by decide +kernel
theorem dX9_move_109 : decode cX9_move 109 = .ok (.invokevirtual 307, 3) := by decide +kernel
theorem dX9_move_112 : decode cX9_move 112 = .ok (.ifCond .ne 10, 3) := by decide +kernel
theorem dX9_move_115 : decode cX9_move 115 = .ok (.aload_n 0, 1) := by decide +kernel
theorem dX9_move_116 : decode cX9_move 116 = .ok (.ldc 80, 2) := by decide +kernel
theorem dX9_move_118 : decode cX9_move 118 = .ok (.invokevirtual 81, 3) := by decide +kernel
theorem dX9_move_121 : decode cX9_move 121 = .ok (.ireturn, 1) := by decide +kernel
theorem dX9_move_122 : decode cX9_move 122 = .ok (.aload_n 0, 1) := by decide +kernel
theorem dX9_move_123 : decode cX9_move 123 = .ok (.getfield 68, 3) := by decide +kernel
theorem dX9_move_126 : decode cX9_move 126 = .ok (.iload_n 1, 1) := by decide +kernel
theorem dX9_move_127 : decode cX9_move 127 = .ok (.iload_n 2, 1) := by decide +kernel
theorem dX9_move_128 : decode cX9_move 128 = .ok (.iload_n 3, 1) := by decide +kernel
theorem dX9_move_129 : decode cX9_move 129 = .ok (.iload 4, 2) := by decide +kernel
theorem dX9_move_131 : decode cX9_move 131 = .ok (.iload 5, 2) := by decide +kernel
theorem dX9_move_133 : decode cX9_move 133 = .ok (.invokevirtual 310, 3) := by decide +kernel
theorem dX9_move_136 : decode cX9_move 136 = .ok (.iload 5, 2) := by decide +kernel
theorem dX9_move_138 : decode cX9_move 138 = .ok (.ireturn, 1) := by decide +kernel
theorem dX9_image_0 : decode cX9_image 0 = .ok (.aload_n 0, 1) := by decide +kernel
theorem dX9_image_1 : decode cX9_image 1 = .ok (.getfield 21, 3) := by decide +kernel
theorem dX9_image_4 : decode cX9_image 4 = .ok (.aload_n 0, 1) := by decide +kernel
theorem dX9_image_5 : decode cX9_image 5 = .ok (.getfield 17, 3) := by decide +kernel
theorem dX9_image_8 : decode cX9_image 8 = .ok (.invokevirtual 314, 3) := by decide +kernel
theorem dX9_image_11 : decode cX9_image 11 = .ok (.aload_n 0, 1) := by decide +kernel
theorem dX9_image_12 : decode cX9_image 12 = .ok (.dup, 1) := by decide +kernel
theorem dX9_image_13 : decode cX9_image 13 = .ok (.getfield 76, 3) := by decide +kernel
theorem dX9_image_16 : decode cX9_image 16 = .ok (.iconst 1, 1) := by decide +kernel
theorem dX9_image_17 : decode cX9_image 17 = .ok (.iadd, 1) := by decide +kernel
theorem dX9_image_18 : decode cX9_image 18 = .ok (.putfield 76, 3) := by decide +kernel
theorem dX9_image_21 : decode cX9_image 21 = .ok (.aload_n 0, 1) := by decide +kernel
theorem dX9_image_22 : decode cX9_image 22 = .ok (.getfield 76, 3) := by decide +kernel
theorem dX9_image_25 : decode cX9_image 25 = .ok (.ireturn, 1) := by decide +kernel
theorem dX9_restore_0 : decode cX9_restore 0 = .ok (.aload_n 0, 1) := by decide +kernel
theorem dX9_restore_1 : decode cX9_restore 1 = .ok (.getfield 76, 3) := by decide +kernel
theorem dX9_restore_4 : decode cX9_restore 4 = .ok (.ifCond .ne 10, 3) := by decide +kernel
theorem dX9_restore_7 : decode cX9_restore 7 = .ok (.aload_n 0, 1) := by decide +kernel
theorem dX9_restore_8 : decode cX9_restore 8 = .ok (.ldc 177, 2) := by decide +kernel
theorem dX9_restore_10 : decode cX9_restore 10 = .ok (.invokevirtual 81, 3) := by decide +kernel
theorem dX9_restore_13 : decode cX9_restore 13 = .ok (.ireturn, 1) := by decide +kernel
theorem dX9_restore_14 : decode cX9_restore 14 = .ok (.aload_n 0, 1) := by decide +kernel
theorem dX9_restore_15 : decode cX9_restore 15 = .ok (.getfield 17, 3) := by decide +kernel
theorem dX9_restore_18 : decode cX9_restore 18 = .ok (.aload_n 0, 1) := by decide +kernel
theorem dX9_restore_19 : decode cX9_restore 19 = .ok (.getfield 21, 3) := by decide +kernel
theorem dX9_restore_22 : decode cX9_restore 22 = .ok (.invokevirtual 314, 3) := by decide +kernel
theorem dX9_restore_25 : decode cX9_restore 25 = .ok (.aload_n 0, 1) := by decide +kernel
theorem dX9_restore_26 : decode cX9_restore 26 = .ok (.getfield 54, 3) := by decide +kernel
theorem dX9_restore_29 : decode cX9_restore 29 = .ok (.invokevirtual 224, 3) := by decide +kernel
theorem dX9_restore_32 : decode cX9_restore 32 = .ok (.aload_n 0, 1) := by decide +kernel
theorem dX9_restore_33 : decode cX9_restore 33 = .ok (.getfield 17, 3) := by decide +kernel
theorem dX9_restore_36 : decode cX9_restore 36 = .ok (.getfield 138, 3) := by decide +kernel
theorem dX9_restore_39 : decode cX9_restore 39 = .ok (.ireturn, 1) := by decide +kernel
theorem dX9_tell_0 : decode cX9_tell 0 = .ok (.aload_n 0, 1) := by decide +kernel
theorem dX9_tell_1 : decode cX9_tell 1 = .ok (.getfield 17, 3) := by decide +kernel
theorem dX9_tell_4 : decode cX9_tell 4 = .ok (.getfield 316, 3) := by decide +kernel
theorem dX9_tell_7 : decode cX9_tell 7 = .ok (.bipush 20, 2) := by decide +kernel
theorem dX9_tell_9 : decode cX9_tell 9 = .ok (.if_icmp .lt 10, 3) := by decide +kernel
theorem dX9_tell_12 : decode cX9_tell 12 = .ok (.aload_n 0, 1) := by decide +kernel
theorem dX9_tell_13 : decode cX9_tell 13 = .ok (.ldc 88, 2) := by decide +kernel
theorem dX9_tell_15 : decode cX9_tell 15 = .ok (.invokevirtual 81, 3) := by decide +kernel
theorem dX9_tell_18 : decode cX9_tell 18 = .ok (.ireturn, 1) := by decide +kernel
theorem dX9_tell_19 : decode cX9_tell 19 = .ok (.aload_n 0, 1) := by decide +kernel
theorem dX9_tell_20 : decode cX9_tell 20 = .ok (.getfield 17, 3) := by decide +kernel
theorem dX9_tell_23 : decode cX9_tell 23 = .ok (.getfield 319, 3) := by decide +kernel
theorem dX9_tell_26 : decode cX9_tell 26 = .ok (.aload_n 0, 1) := by decide +kernel
theorem dX9_tell_27 : decode cX9_tell 27 = .ok (.getfield 17, 3) := by decide +kernel
theorem dX9_tell_30 : decode cX9_tell 30 = .ok (.getfield 316, 3) := by decide +kernel
theorem dX9_tell_33 : decode cX9_tell 33 = .ok (.iload_n 1, 1) := by decide +kernel
theorem dX9_tell_34 : decode cX9_tell 34 = .ok (.iastore, 1) := by decide +kernel
theorem dX9_tell_35 : decode cX9_tell 35 = .ok (.aload_n 0, 1) := by decide +kernel
theorem dX9_tell_36 : decode cX9_tell 36 = .ok (.getfield 17, 3) := by decide +kernel
theorem dX9_tell_39 : decode cX9_tell 39 = .ok (.dup, 1) := by decide +kernel
theorem dX9_tell_40 : decode cX9_tell 40 = .ok (.getfield 316, 3) := by decide +kernel
theorem dX9_tell_43 : decode cX9_tell 43 = .ok (.iconst 1, 1) := by decide +kernel
theorem dX9_tell_44 : decode cX9_tell 44 = .ok (.iadd, 1) := by decide +kernel
theorem dX9_tell_45 : decode cX9_tell 45 = .ok (.putfield 316, 3) := by decide +kernel
theorem dX9_tell_48 : decode cX9_tell 48 = .ok (.aload_n 0, 1) := by decide +kernel
theorem dX9_tell_49 : decode cX9_tell 49 = .ok (.getfield 17, 3) := by decide +kernel
theorem dX9_tell_52 : decode cX9_tell 52 = .ok (.getfield 316, 3) := by decide +kernel
theorem dX9_tell_55 : decode cX9_tell 55 = .ok (.ireturn, 1) := by decide +kernel
theorem dX9_check_0 : decode cX9_check 0 = .ok (.aload_n 0, 1) := by decide +kernel
theorem dX9_check_1 : decode cX9_check 1 = .ok (.getfield 17, 3) := by decide +kernel
theorem dX9_check_4 : decode cX9_check 4 = .ok (.invokevirtual 322, 3) := by decide +kernel
theorem dX9_check_7 : decode cX9_check 7 = .ok (.istore_n 1, 1) := by decide +kernel
theorem dX9_check_8 : decode cX9_check 8 = .ok (.aload_n 0, 1) := by decide +kernel
theorem dX9_check_9 : decode cX9_check 9 = .ok (.getfield 17, 3) := by decide +kernel
theorem dX9_check_12 : decode cX9_check 12 = .ok (.iconst 0, 1) := by decide +kernel
theorem dX9_check_13 : decode cX9_check 13 = .ok (.putfield 316, 3) := by decide +kernel
theorem dX9_check_16 : decode cX9_check 16 = .ok (.iconst 1, 1) := by decide +kernel
theorem dX9_check_17 : decode cX9_check 17 = .ok (.iload_n 1, 1) := by decide +kernel
theorem dX9_check_18 : decode cX9_check 18 = .ok (.iadd, 1) := by decide +kernel
theorem dX9_check_19 : decode cX9_check 19 = .ok (.ireturn, 1) := by decide +kernel
theorem dX9_count_0 : decode cX9_count 0 = .ok (.iload_n 1, 1) := by decide +kernel
theorem dX9_count_1 : decode cX9_count 1 = .ok (.tableswitch 126 0 8 #[51, 59, 67, 78, 86, 94, 102, 110, 118], 51) := by decide +kernel
theorem dX9_count_52 : decode cX9_count 52 = .ok (.aload_n 0, 1) := by decide +kernel
theorem dX9_count_53 : decode cX9_count 53 = .ok (.getfield 17, 3) := by decide +kernel
theorem dX9_count_56 : decode cX9_count 56 = .ok (.getfield 97, 3) := by decide +kernel
theorem dX9_count_59 : decode cX9_count 59 = .ok (.ireturn, 1) := by decide +kernel
theorem dX9_count_60 : decode cX9_count 60 = .ok (.aload_n 0, 1) := by decide +kernel
theorem dX9_count_61 : decode cX9_count 61 = .ok (.getfield 17, 3) := by decide +kernel
theorem dX9_count_64 : decode cX9_count 64 = .ok (.getfield 138, 3) := by decide +kernel
theorem dX9_count_67 : decode cX9_count 67 = .ok (.ireturn, 1) := by decide +kernel
theorem dX9_count_68 : decode cX9_count 68 = .ok (.aload_n 0, 1) := by decide +kernel
theorem dX9_count_69 : decode cX9_count 69 = .ok (.getfield 17, 3) := by decide +kernel
theorem dX9_count_72 : decode cX9_count 72 = .ok (.invokevirtual 236, 3) := by decide +kernel
theorem dX9_count_75 : decode cX9_count 75 = .ok (.invokestatic 250, 3) := by decide +kernel
theorem dX9_count_78 : decode cX9_count 78 = .ok (.ireturn, 1) := by decide +kernel
theorem dX9_count_79 : decode cX9_count 79 = .ok (.aload_n 0, 1) := by decide +kernel
theorem dX9_count_80 : decode cX9_count 80 = .ok (.getfield 17, 3) := by decide +kernel
theorem dX9_count_83 : decode cX9_count 83 = .ok (.getfield 129, 3) := by decide +kernel
theorem dX9_count_86 : decode cX9_count 86 = .ok (.ireturn, 1) := by decide +kernel
theorem dX9_count_87 : decode cX9_count 87 = .ok (.aload_n 0, 1) := by decide +kernel
theorem dX9_count_88 : decode cX9_count 88 = .ok (.getfield 17, 3) := by decide +kernel
theorem dX9_count_91 : decode cX9_count 91 = .ok (.invokevirtual 325, 3) := by decide +kernel
theorem dX9_count_94 : decode cX9_count 94 = .ok (.ireturn, 1) := by decide +kernel
theorem dX9_count_95 : decode cX9_count 95 = .ok (.aload_n 0, 1) := by decide +kernel
theorem dX9_count_96 : decode cX9_count 96 = .ok (.getfield 17, 3) := by decide +kernel
theorem dX9_count_99 : decode cX9_count 99 = .ok (.getfield 85, 3) := by decide +kernel
theorem dX9_count_102 : decode cX9_count 102 = .ok (.ireturn, 1) := by decide +kernel
theorem dX9_count_103 : decode cX9_count 103 = .ok (.aload_n 0, 1) := by decide +kernel
theorem dX9_count_104 : decode cX9_count 104 = .ok (.getfield 17, 3) := by decide +kernel
theorem dX9_count_107 : decode cX9_count 107 = .ok (.getfield 316, 3) := by decide +kernel
theorem dX9_count_110 : decode cX9_count 110 = .ok (.ireturn, 1) := by decide +kernel
theorem dX9_count_111 : decode cX9_count 111 = .ok (.aload_n 0, 1) := by decide +kernel
theorem dX9_count_112 : decode cX9_count 112 = .ok (.getfield 61, 3) := by decide +kernel
theorem dX9_count_115 : decode cX9_count 115 = .ok (.getfield 289, 3) := by decide +kernel
theorem dX9_count_118 : decode cX9_count 118 = .ok (.ireturn, 1) := by decide +kernel
theorem dX9_count_119 : decode cX9_count 119 = .ok (.aload_n 0, 1) := by decide +kernel
theorem dX9_count_120 : decode cX9_count 120 = .ok (.getfield 17, 3) := by decide +kernel
theorem dX9_count_123 : decode cX9_count 123 = .ok (.getfield 282, 3) := by decide +kernel
theorem dX9_count_126 : decode cX9_count 126 = .ok (.ireturn, 1) := by decide +kernel
theorem dX9_count_127 : decode cX9_count 127 = .ok (.aload_n 0, 1) := by decide +kernel
theorem dX9_count_128 : decode cX9_count 128 = .ok (.ldc 80, 2) := by decide +kernel
theorem dX9_count_130 : decode cX9_count 130 = .ok (.invokevirtual 81, 3) := by decide +kernel
theorem dX9_count_133 : decode cX9_count 133 = .ok (.ireturn, 1) := by decide +kernel
theorem dX9_told_0 : decode cX9_told 0 = .ok (.iload_n 1, 1) := by decide +kernel
theorem dX9_told_1 : decode cX9_told 1 = .ok (.iconst 1, 1) := by decide +kernel
theorem dX9_told_2 : decode cX9_told 2 = .ok (.if_icmp .lt 8, 3) := by decide +kernel
theorem dX9_told_5 : decode cX9_told 5 = .ok (.iload_n 1, 1) := by decide +kernel
theorem dX9_told_6 : decode cX9_told 6 = .ok (.iconst 5, 1) := by decide +kernel
theorem dX9_told_7 : decode cX9_told 7 = .ok (.if_icmp .le 10, 3) := by decide +kernel
theorem dX9_told_10 : decode cX9_told 10 = .ok (.aload_n 0, 1) := by decide +kernel
theorem dX9_told_11 : decode cX9_told 11 = .ok (.ldc 80, 2) := by decide +kernel
theorem dX9_told_13 : decode cX9_told 13 = .ok (.invokevirtual 81, 3) := by decide +kernel
theorem dX9_told_16 : decode cX9_told 16 = .ok (.ireturn, 1) := by decide +kernel
theorem dX9_told_17 : decode cX9_told 17 = .ok (.aload_n 0, 1) := by decide +kernel
theorem dX9_told_18 : decode cX9_told 18 = .ok (.getfield 72, 3) := by decide +kernel
theorem dX9_told_21 : decode cX9_told 21 = .ok (.iload_n 1, 1) := by decide +kernel
theorem dX9_told_22 : decode cX9_told 22 = .ok (.iaload, 1) := by decide +kernel
theorem dX9_told_23 : decode cX9_told 23 = .ok (.ireturn, 1) := by decide +kernel
theorem dX9_refuse_0 : decode cX9_refuse 0 = .ok (.ldc_w 328, 3) := by decide +kernel
theorem dX9_refuse_3 : decode cX9_refuse 3 = .ok (.iload_n 1, 1) := by decide +kernel
theorem dX9_refuse_4 : decode cX9_refuse 4 = .ok (.isub, 1) := by decide +kernel
theorem dX9_refuse_5 : decode cX9_refuse 5 = .ok (.istore_n 2, 1) := by decide +kernel
theorem dX9_refuse_6 : decode cX9_refuse 6 = .ok (.iload_n 2, 1) := by decide +kernel
theorem dX9_refuse_7 : decode cX9_refuse 7 = .ok (.iconst 1, 1) := by decide +kernel
theorem dX9_refuse_8 : decode cX9_refuse 8 = .ok (.if_icmp .lt 18, 3) := by decide +kernel
theorem dX9_refuse_11 : decode cX9_refuse 11 = .ok (.iload_n 2, 1) := by decide +kernel
theorem dX9_refuse_12 : decode cX9_refuse 12 = .ok (.iconst 5, 1) := by decide +kernel
theorem dX9_refuse_13 : decode cX9_refuse 13 = .ok (.if_icmp .gt 13, 3) := by decide +kernel
theorem dX9_refuse_16 : decode cX9_refuse 16 = .ok (.aload_n 0, 1) := by decide +kernel
theorem dX9_refuse_17 : decode cX9_refuse 17 = .ok (.getfield 72, 3) := by decide +kernel
theorem dX9_refuse_20 : decode cX9_refuse 20 = .ok (.iload_n 2, 1) := by decide +kernel
theorem dX9_refuse_21 : decode cX9_refuse 21 = .ok (.dup2, 1) := by decide +kernel
theorem dX9_refuse_22 : decode cX9_refuse 22 = .ok (.iaload, 1) := by decide +kernel
theorem dX9_refuse_23 : decode cX9_refuse 23 = .ok (.iconst 1, 1) := by decide +kernel
theorem dX9_refuse_24 : decode cX9_refuse 24 = .ok (.iadd, 1) := by decide +kernel
theorem dX9_refuse_25 : decode cX9_refuse 25 = .ok (.iastore, 1) := by decide +kernel
theorem dX9_refuse_26 : decode cX9_refuse 26 = .ok (.iload_n 1, 1) := by decide +kernel
theorem dX9_refuse_27 : decode cX9_refuse 27 = .ok (.ireturn, 1) := by decide +kernel
theorem dX9_seekGiving_0 : decode cX9_seekGiving 0 = .ok (.aload_n 0, 1) := by decide +kernel
theorem dX9_seekGiving_1 : decode cX9_seekGiving 1 = .ok (.getfield 31, 3) := by decide +kernel
theorem dX9_seekGiving_4 : decode cX9_seekGiving 4 = .ok (.iconst (-1), 1) := by decide +kernel
theorem dX9_seekGiving_5 : decode cX9_seekGiving 5 = .ok (.iconst (-1), 1) := by decide +kernel
theorem dX9_seekGiving_6 : decode cX9_seekGiving 6 = .ok (.aload_n 0, 1) := by decide +kernel
theorem dX9_seekGiving_7 : decode cX9_seekGiving 7 = .ok (.getfield 17, 3) := by decide +kernel
theorem dX9_seekGiving_10 : decode cX9_seekGiving 10 = .ok (.invokevirtual 236, 3) := by decide +kernel
theorem dX9_seekGiving_13 : decode cX9_seekGiving 13 = .ok (.invokevirtual 239, 3) := by decide +kernel
theorem dX9_seekGiving_16 : decode cX9_seekGiving 16 = .ok (.ifCond .ne 6, 3) := by decide +kernel
theorem dX9_seekGiving_19 : decode cX9_seekGiving 19 = .ok (.ldc 243, 2) := by decide +kernel
theorem dX9_seekGiving_21 : decode cX9_seekGiving 21 = .ok (.ireturn, 1) := by decide +kernel
theorem dX9_seekGiving_22 : decode cX9_seekGiving 22 = .ok (.aload_n 0, 1) := by decide +kernel
theorem dX9_seekGiving_23 : decode cX9_seekGiving 23 = .ok (.getfield 31, 3) := by decide +kernel
theorem dX9_seekGiving_26 : decode cX9_seekGiving 26 = .ok (.iload_n 1, 1) := by decide +kernel
theorem dX9_seekGiving_27 : decode cX9_seekGiving 27 = .ok (.invokevirtual 329, 3) := by decide +kernel
theorem dX9_seekGiving_30 : decode cX9_seekGiving 30 = .ok (.ifCond .eq 7, 3) := by decide +kernel
theorem dX9_seekGiving_33 : decode cX9_seekGiving 33 = .ok (.iconst 0, 1) := by decide +kernel
theorem dX9_seekGiving_34 : decode cX9_seekGiving 34 = .ok (.goto 5, 3) := by decide +kernel
theorem dX9_seekGiving_37 : decode cX9_seekGiving 37 = .ok (.ldc 177, 2) := by decide +kernel
theorem dX9_seekGiving_39 : decode cX9_seekGiving 39 = .ok (.ireturn, 1) := by decide +kernel
theorem dX9_isSound_0 : decode cX9_isSound 0 = .ok (.iload_n 0, 1) := by decide +kernel
theorem dX9_isSound_1 : decode cX9_isSound 1 = .ok (.ifCond .lt 13, 3) := by decide +kernel
theorem dX9_isSound_4 : decode cX9_isSound 4 = .ok (.iload_n 0, 1) := by decide +kernel
theorem dX9_isSound_5 : decode cX9_isSound 5 = .ok (.bipush 99, 2) := by decide +kernel
theorem dX9_isSound_7 : decode cX9_isSound 7 = .ok (.if_icmp .gt 7, 3) := by decide +kernel
theorem dX9_isSound_10 : decode cX9_isSound 10 = .ok (.iconst 1, 1) := by decide +kernel
theorem dX9_isSound_11 : decode cX9_isSound 11 = .ok (.goto 4, 3) := by decide +kernel
theorem dX9_isSound_14 : decode cX9_isSound 14 = .ok (.iconst 0, 1) := by decide +kernel
theorem dX9_isSound_15 : decode cX9_isSound 15 = .ok (.ireturn, 1) := by decide +kernel
theorem dX9_isLetter_0 : decode cX9_isLetter 0 = .ok (.iload_n 0, 1) := by decide +kernel
theorem dX9_isLetter_1 : decode cX9_isLetter 1 = .ok (.ifCond .lt 13, 3) := by decide +kernel
theorem dX9_isLetter_4 : decode cX9_isLetter 4 = .ok (.iload_n 0, 1) := by decide +kernel
theorem dX9_isLetter_5 : decode cX9_isLetter 5 = .ok (.bipush 26, 2) := by decide +kernel
theorem dX9_isLetter_7 : decode cX9_isLetter 7 = .ok (.if_icmp .ge 7, 3) := by decide +kernel
theorem dX9_isLetter_10 : decode cX9_isLetter 10 = .ok (.iconst 1, 1) := by decide +kernel
theorem dX9_isLetter_11 : decode cX9_isLetter 11 = .ok (.goto 4, 3) := by decide +kernel
theorem dX9_isLetter_14 : decode cX9_isLetter 14 = .ok (.iconst 0, 1) := by decide +kernel
theorem dX9_isLetter_15 : decode cX9_isLetter 15 = .ok (.ireturn, 1) := by decide +kernel
theorem dX9_isBit_0 : decode cX9_isBit 0 = .ok (.iload_n 0, 1) := by decide +kernel
theorem dX9_isBit_1 : decode cX9_isBit 1 = .ok (.ifCond .eq 8, 3) := by decide +kernel
theorem dX9_isBit_4 : decode cX9_isBit 4 = .ok (.iload_n 0, 1) := by decide +kernel
theorem dX9_isBit_5 : decode cX9_isBit 5 = .ok (.iconst 1, 1) := by decide +kernel
theorem dX9_isBit_6 : decode cX9_isBit 6 = .ok (.if_icmp .ne 7, 3) := by decide +kernel
theorem dX9_isBit_9 : decode cX9_isBit 9 = .ok (.iconst 1, 1) := by decide +kernel
theorem dX9_isBit_10 : decode cX9_isBit 10 = .ok (.goto 4, 3) := by decide +kernel
theorem dX9_isBit_13 : decode cX9_isBit 13 = .ok (.iconst 0, 1) := by decide +kernel
theorem dX9_isBit_14 : decode cX9_isBit 14 = .ok (.ireturn, 1) := by decide +kernel
theorem dX9_isKind_0 : decode cX9_isKind 0 = .ok (.iload_n 0, 1) := by decide +kernel
theorem dX9_isKind_1 : decode cX9_isKind 1 = .ok (.ifCond .lt 13, 3) := by decide +kernel
theorem dX9_isKind_4 : decode cX9_isKind 4 = .ok (.iload_n 0, 1) := by decide +kernel
theorem dX9_isKind_5 : decode cX9_isKind 5 = .ok (.bipush 7, 2) := by decide +kernel
theorem dX9_isKind_7 : decode cX9_isKind 7 = .ok (.if_icmp .ge 7, 3) := by decide +kernel
theorem dX9_isKind_10 : decode cX9_isKind 10 = .ok (.iconst 1, 1) := by decide +kernel
theorem dX9_isKind_11 : decode cX9_isKind 11 = .ok (.goto 4, 3) := by decide +kernel
theorem dX9_isKind_14 : decode cX9_isKind 14 = .ok (.iconst 0, 1) := by decide +kernel
theorem dX9_isKind_15 : decode cX9_isKind 15 = .ok (.ireturn, 1) := by decide +kernel
theorem dX9_isUse_0 : decode cX9_isUse 0 = .ok (.iload_n 0, 1) := by decide +kernel
theorem dX9_isUse_1 : decode cX9_isUse 1 = .ok (.ifCond .lt 12, 3) := by decide +kernel
theorem dX9_isUse_4 : decode cX9_isUse 4 = .ok (.iload_n 0, 1) := by decide +kernel
theorem dX9_isUse_5 : decode cX9_isUse 5 = .ok (.iconst 2, 1) := by decide +kernel
theorem dX9_isUse_6 : decode cX9_isUse 6 = .ok (.if_icmp .ge 7, 3) := by decide +kernel
theorem dX9_isUse_9 : decode cX9_isUse 9 = .ok (.iconst 1, 1) := by decide +kernel
theorem dX9_isUse_10 : decode cX9_isUse 10 = .ok (.goto 4, 3) := by decide +kernel
theorem dX9_isUse_13 : decode cX9_isUse 13 = .ok (.iconst 0, 1) := by decide +kernel
theorem dX9_isUse_14 : decode cX9_isUse 14 = .ok (.ireturn, 1) := by decide +kernel
theorem dX9_isUnder_0 : decode cX9_isUnder 0 = .ok (.iload_n 0, 1) := by decide +kernel
theorem dX9_isUnder_1 : decode cX9_isUnder 1 = .ok (.istore_n 2, 1) := by decide +kernel
theorem dX9_isUnder_2 : decode cX9_isUnder 2 = .ok (.iconst 0, 1) := by decide +kernel
theorem dX9_isUnder_3 : decode cX9_isUnder 3 = .ok (.istore_n 3, 1) := by decide +kernel
theorem dX9_isUnder_4 : decode cX9_isUnder 4 = .ok (.iload_n 3, 1) := by decide +kernel
theorem dX9_isUnder_5 : decode cX9_isUnder 5 = .ok (.bipush 7, 2) := by decide +kernel
theorem dX9_isUnder_7 : decode cX9_isUnder 7 = .ok (.if_icmp .ge 27, 3) := by decide +kernel
theorem dX9_isUnder_10 : decode cX9_isUnder 10 = .ok (.iload_n 2, 1) := by decide +kernel
theorem dX9_isUnder_11 : decode cX9_isUnder 11 = .ok (.iload_n 1, 1) := by decide +kernel
theorem dX9_isUnder_12 : decode cX9_isUnder 12 = .ok (.if_icmp .eq 22, 3) := by decide +kernel
theorem dX9_isUnder_15 : decode cX9_isUnder 15 = .ok (.iload_n 2, 1) := by decide +kernel
theorem dX9_isUnder_16 : decode cX9_isUnder 16 = .ok (.invokestatic 132, 3) := by decide +kernel
theorem dX9_isUnder_19 : decode cX9_isUnder 19 = .ok (.ifCond .eq 15, 3) := by decide +kernel
theorem dX9_isUnder_22 : decode cX9_isUnder 22 = .ok (.getstatic 332, 3) := by decide +kernel
theorem dX9_isUnder_25 : decode cX9_isUnder 25 = .ok (.iload_n 2, 1) := by decide +kernel
theorem dX9_isUnder_26 : decode cX9_isUnder 26 = .ok (.iaload, 1) := by decide +kernel
theorem dX9_isUnder_27 : decode cX9_isUnder 27 = .ok (.istore_n 2, 1) := by decide +kernel
theorem dX9_isUnder_28 : decode cX9_isUnder 28 = .ok (.iinc 3 1, 3) := by decide +kernel
theorem dX9_isUnder_31 : decode cX9_isUnder 31 = .ok (.goto (-27), 3) := by decide +kernel
theorem dX9_isUnder_34 : decode cX9_isUnder 34 = .ok (.iload_n 2, 1) := by decide +kernel
theorem dX9_isUnder_35 : decode cX9_isUnder 35 = .ok (.iload_n 1, 1) := by decide +kernel
theorem dX9_isUnder_36 : decode cX9_isUnder 36 = .ok (.if_icmp .ne 7, 3) := by decide +kernel
theorem dX9_isUnder_39 : decode cX9_isUnder 39 = .ok (.iconst 1, 1) := by decide +kernel
theorem dX9_isUnder_40 : decode cX9_isUnder 40 = .ok (.goto 4, 3) := by decide +kernel
theorem dX9_isUnder_43 : decode cX9_isUnder 43 = .ok (.iconst 0, 1) := by decide +kernel
theorem dX9_isUnder_44 : decode cX9_isUnder 44 = .ok (.ireturn, 1) := by decide +kernel
