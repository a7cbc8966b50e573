theorem d_P_init_0 : decode b_P_init 0 = .ok (.aload_n 0, 1) := by decide +kernel
theorem d_P_init_1 : decode b_P_init 1 = .ok (.invokespecial 3, 3) := by decide +kernel
theorem d_P_init_4 : decode b_P_init 4 = .ok (.aload_n 0, 1) := by decide +kernel
theorem d_P_init_5 : decode b_P_init 5 = .ok (.bipush 8, 2) := by decide +kernel
theorem d_P_init_7 : decode b_P_init 7 = .ok (.bipush 8, 2) := by decide +kernel
theorem d_P_init_9 : decode b_P_init 9 = .ok (.multianewarray 9 2, 4) := by decide +kernel
theorem d_P_init_13 : decode b_P_init 13 = .ok (.putfield 11, 3) := by decide +kernel
theorem d_P_init_16 : decode b_P_init 16 = .ok (.aload_n 0, 1) := by decide +kernel
theorem d_P_init_17 : decode b_P_init 17 = .ok (.bipush 8, 2) := by decide +kernel
theorem d_P_init_19 : decode b_P_init 19 = .ok (.newarray .int, 2) := by decide +kernel
theorem d_P_init_21 : decode b_P_init 21 = .ok (.putfield 16, 3) := by decide +kernel
theorem d_P_init_24 : decode b_P_init 24 = .ok (.aload_n 0, 1) := by decide +kernel
theorem d_P_init_25 : decode b_P_init 25 = .ok (.bipush 8, 2) := by decide +kernel
theorem d_P_init_27 : decode b_P_init 27 = .ok (.newarray .int, 2) := by decide +kernel
theorem d_P_init_29 : decode b_P_init 29 = .ok (.putfield 20, 3) := by decide +kernel
theorem d_P_init_32 : decode b_P_init 32 = .ok (.aload_n 0, 1) := by decide +kernel
theorem d_P_init_33 : decode b_P_init 33 = .ok (.bipush 16, 2) := by decide +kernel
theorem d_P_init_35 : decode b_P_init 35 = .ok (.newarray .int, 2) := by decide +kernel
theorem d_P_init_37 : decode b_P_init 37 = .ok (.putfield 23, 3) := by decide +kernel
theorem d_P_init_40 : decode b_P_init 40 = .ok (.aload_n 0, 1) := by decide +kernel
theorem d_P_init_41 : decode b_P_init 41 = .ok (.bipush 16, 2) := by decide +kernel
theorem d_P_init_43 : decode b_P_init 43 = .ok (.newarray .int, 2) := by decide +kernel
theorem d_P_init_45 : decode b_P_init 45 = .ok (.putfield 26, 3) := by decide +kernel
theorem d_P_init_48 : decode b_P_init 48 = .ok (.aload_n 0, 1) := by decide +kernel
theorem d_P_init_49 : decode b_P_init 49 = .ok (.bipush 16, 2) := by decide +kernel
theorem d_P_init_51 : decode b_P_init 51 = .ok (.newarray .int, 2) := by decide +kernel
theorem d_P_init_53 : decode b_P_init 53 = .ok (.putfield 29, 3) := by decide +kernel
theorem d_P_init_56 : decode b_P_init 56 = .ok (.aload_n 0, 1) := by decide +kernel
theorem d_P_init_57 : decode b_P_init 57 = .ok (.bipush 8, 2) := by decide +kernel
theorem d_P_init_59 : decode b_P_init 59 = .ok (.newarray .boolean, 2) := by decide +kernel
theorem d_P_init_61 : decode b_P_init 61 = .ok (.putfield 32, 3) := by decide +kernel
theorem d_P_init_64 : decode b_P_init 64 = .ok (.aload_n 0, 1) := by decide +kernel
theorem d_P_init_65 : decode b_P_init 65 = .ok (.iconst 0, 1) := by decide +kernel
theorem d_P_init_66 : decode b_P_init 66 = .ok (.putfield 36, 3) := by decide +kernel
theorem d_P_init_69 : decode b_P_init 69 = .ok (.aload_n 0, 1) := by decide +kernel
theorem d_P_init_70 : decode b_P_init 70 = .ok (.iconst 0, 1) := by decide +kernel
theorem d_P_init_71 : decode b_P_init 71 = .ok (.putfield 40, 3) := by decide +kernel
theorem d_P_init_74 : decode b_P_init 74 = .ok (.aload_n 0, 1) := by decide +kernel
theorem d_P_init_75 : decode b_P_init 75 = .ok (.lconst 1, 1) := by decide +kernel
theorem d_P_init_76 : decode b_P_init 76 = .ok (.putfield 43, 3) := by decide +kernel
theorem d_P_init_79 : decode b_P_init 79 = .ok (.return_, 1) := by decide +kernel
theorem d_P_load_0 : decode b_P_load 0 = .ok (.aload_n 1, 1) := by decide +kernel
theorem d_P_load_1 : decode b_P_load 1 = .ok (.iload_n 3, 1) := by decide +kernel
theorem d_P_load_2 : decode b_P_load 2 = .ok (.invokevirtual 47, 3) := by decide +kernel
theorem d_P_load_5 : decode b_P_load 5 = .ok (.aload_n 1, 1) := by decide +kernel
theorem d_P_load_6 : decode b_P_load 6 = .ok (.getfield 53, 3) := by decide +kernel
theorem d_P_load_9 : decode b_P_load 9 = .ok (.lconst 0, 1) := by decide +kernel
theorem d_P_load_10 : decode b_P_load 10 = .ok (.lcmp, 1) := by decide +kernel
theorem d_P_load_11 : decode b_P_load 11 = .ok (.ifCond .gt 5, 3) := by decide +kernel
theorem d_P_load_14 : decode b_P_load 14 = .ok (.iconst 0, 1) := by decide +kernel
theorem d_P_load_15 : decode b_P_load 15 = .ok (.ireturn, 1) := by decide +kernel
theorem d_P_load_16 : decode b_P_load 16 = .ok (.aload_n 0, 1) := by decide +kernel
theorem d_P_load_17 : decode b_P_load 17 = .ok (.aload_n 1, 1) := by decide +kernel
theorem d_P_load_18 : decode b_P_load 18 = .ok (.getfield 53, 3) := by decide +kernel
theorem d_P_load_21 : decode b_P_load 21 = .ok (.putfield 43, 3) := by decide +kernel
theorem d_P_load_24 : decode b_P_load 24 = .ok (.aload_n 0, 1) := by decide +kernel
theorem d_P_load_25 : decode b_P_load 25 = .ok (.aload_n 2, 1) := by decide +kernel
theorem d_P_load_26 : decode b_P_load 26 = .ok (.getfield 56, 3) := by decide +kernel
theorem d_P_load_29 : decode b_P_load 29 = .ok (.putfield 40, 3) := by decide +kernel
theorem d_P_load_32 : decode b_P_load 32 = .ok (.aload_n 0, 1) := by decide +kernel
theorem d_P_load_33 : decode b_P_load 33 = .ok (.aload_n 1, 1) := by decide +kernel
theorem d_P_load_34 : decode b_P_load 34 = .ok (.getfield 61, 3) := by decide +kernel
theorem d_P_load_37 : decode b_P_load 37 = .ok (.iconst 2, 1) := by decide +kernel
theorem d_P_load_38 : decode b_P_load 38 = .ok (.iadd, 1) := by decide +kernel
theorem d_P_load_39 : decode b_P_load 39 = .ok (.putfield 36, 3) := by decide +kernel
theorem d_P_load_42 : decode b_P_load 42 = .ok (.iconst 0, 1) := by decide +kernel
theorem d_P_load_43 : decode b_P_load 43 = .ok (.istore 5, 2) := by decide +kernel
theorem d_P_load_45 : decode b_P_load 45 = .ok (.iload 5, 2) := by decide +kernel
theorem d_P_load_47 : decode b_P_load 47 = .ok (.aload_n 1, 1) := by decide +kernel
theorem d_P_load_48 : decode b_P_load 48 = .ok (.getfield 61, 3) := by decide +kernel
theorem d_P_load_51 : decode b_P_load 51 = .ok (.if_icmp .ge 35, 3) := by decide +kernel
theorem d_P_load_54 : decode b_P_load 54 = .ok (.aload_n 0, 1) := by decide +kernel
theorem d_P_load_55 : decode b_P_load 55 = .ok (.iload 5, 2) := by decide +kernel
theorem d_P_load_57 : decode b_P_load 57 = .ok (.bipush 9, 2) := by decide +kernel
theorem d_P_load_59 : decode b_P_load 59 = .ok (.iload 5, 2) := by decide +kernel
theorem d_P_load_61 : decode b_P_load 61 = .ok (.iadd, 1) := by decide +kernel
theorem d_P_load_62 : decode b_P_load 62 = .ok (.aload_n 1, 1) := by decide +kernel
theorem d_P_load_63 : decode b_P_load 63 = .ok (.getfield 62, 3) := by decide +kernel
theorem d_P_load_66 : decode b_P_load 66 = .ok (.iload 5, 2) := by decide +kernel
theorem d_P_load_68 : decode b_P_load 68 = .ok (.iaload, 1) := by decide +kernel
theorem d_P_load_69 : decode b_P_load 69 = .ok (.ineg, 1) := by decide +kernel
theorem d_P_load_70 : decode b_P_load 70 = .ok (.aload_n 1, 1) := by decide +kernel
theorem d_P_load_71 : decode b_P_load 71 = .ok (.getfield 62, 3) := by decide +kernel
theorem d_P_load_74 : decode b_P_load 74 = .ok (.iload 5, 2) := by decide +kernel
theorem d_P_load_76 : decode b_P_load 76 = .ok (.iaload, 1) := by decide +kernel
theorem d_P_load_77 : decode b_P_load 77 = .ok (.invokevirtual 65, 3) := by decide +kernel
theorem d_P_load_80 : decode b_P_load 80 = .ok (.iinc 5 1, 3) := by decide +kernel
theorem d_P_load_83 : decode b_P_load 83 = .ok (.goto (-38), 3) := by decide +kernel
theorem d_P_load_86 : decode b_P_load 86 = .ok (.aload_n 0, 1) := by decide +kernel
theorem d_P_load_87 : decode b_P_load 87 = .ok (.aload_n 1, 1) := by decide +kernel
theorem d_P_load_88 : decode b_P_load 88 = .ok (.getfield 61, 3) := by decide +kernel
theorem d_P_load_91 : decode b_P_load 91 = .ok (.bipush 8, 2) := by decide +kernel
theorem d_P_load_93 : decode b_P_load 93 = .ok (.iconst 0, 1) := by decide +kernel
theorem d_P_load_94 : decode b_P_load 94 = .ok (.iload 4, 2) := by decide +kernel
theorem d_P_load_96 : decode b_P_load 96 = .ok (.invokevirtual 65, 3) := by decide +kernel
theorem d_P_load_99 : decode b_P_load 99 = .ok (.aload_n 0, 1) := by decide +kernel
theorem d_P_load_100 : decode b_P_load 100 = .ok (.aload_n 1, 1) := by decide +kernel
theorem d_P_load_101 : decode b_P_load 101 = .ok (.getfield 61, 3) := by decide +kernel
theorem d_P_load_104 : decode b_P_load 104 = .ok (.iconst 1, 1) := by decide +kernel
theorem d_P_load_105 : decode b_P_load 105 = .ok (.iadd, 1) := by decide +kernel
theorem d_P_load_106 : decode b_P_load 106 = .ok (.bipush 15, 2) := by decide +kernel
theorem d_P_load_108 : decode b_P_load 108 = .ok (.iconst 0, 1) := by decide +kernel
theorem d_P_load_109 : decode b_P_load 109 = .ok (.iconst 0, 1) := by decide +kernel
theorem d_P_load_110 : decode b_P_load 110 = .ok (.invokevirtual 65, 3) := by decide +kernel
theorem d_P_load_113 : decode b_P_load 113 = .ok (.iconst 0, 1) := by decide +kernel
theorem d_P_load_114 : decode b_P_load 114 = .ok (.istore 5, 2) := by decide +kernel
theorem d_P_load_116 : decode b_P_load 116 = .ok (.iload 5, 2) := by decide +kernel
theorem d_P_load_118 : decode b_P_load 118 = .ok (.aload_n 0, 1) := by decide +kernel
theorem d_P_load_119 : decode b_P_load 119 = .ok (.getfield 40, 3) := by decide +kernel
theorem d_P_load_122 : decode b_P_load 122 = .ok (.if_icmp .ge 133, 3) := by decide +kernel
theorem d_P_load_125 : decode b_P_load 125 = .ok (.aload_n 0, 1) := by decide +kernel
theorem d_P_load_126 : decode b_P_load 126 = .ok (.iload 5, 2) := by decide +kernel
theorem d_P_load_128 : decode b_P_load 128 = .ok (.aload_n 2, 1) := by decide +kernel
theorem d_P_load_129 : decode b_P_load 129 = .ok (.getfield 69, 3) := by decide +kernel
theorem d_P_load_132 : decode b_P_load 132 = .ok (.iload 5, 2) := by decide +kernel
theorem d_P_load_134 : decode b_P_load 134 = .ok (.iaload, 1) := by decide +kernel
theorem d_P_load_135 : decode b_P_load 135 = .ok (.invokevirtual 72, 3) := by decide +kernel
theorem d_P_load_138 : decode b_P_load 138 = .ok (.iconst 0, 1) := by decide +kernel
theorem d_P_load_139 : decode b_P_load 139 = .ok (.istore 6, 2) := by decide +kernel
theorem d_P_load_141 : decode b_P_load 141 = .ok (.iload 6, 2) := by decide +kernel
theorem d_P_load_143 : decode b_P_load 143 = .ok (.aload_n 1, 1) := by decide +kernel
theorem d_P_load_144 : decode b_P_load 144 = .ok (.getfield 61, 3) := by decide +kernel
theorem d_P_load_147 : decode b_P_load 147 = .ok (.if_icmp .ge 41, 3) := by decide +kernel
theorem d_P_load_150 : decode b_P_load 150 = .ok (.aload_n 0, 1) := by decide +kernel
theorem d_P_load_151 : decode b_P_load 151 = .ok (.getfield 11, 3) := by decide +kernel
theorem d_P_load_154 : decode b_P_load 154 = .ok (.iload 6, 2) := by decide +kernel
theorem d_P_load_156 : decode b_P_load 156 = .ok (.aaload, 1) := by decide +kernel
theorem d_P_load_157 : decode b_P_load 157 = .ok (.iload 5, 2) := by decide +kernel
theorem d_P_load_159 : decode b_P_load 159 = .ok (.aload_n 2, 1) := by decide +kernel
theorem d_P_load_160 : decode b_P_load 160 = .ok (.getfield 76, 3) := by decide +kernel
theorem d_P_load_163 : decode b_P_load 163 = .ok (.iload 5, 2) := by decide +kernel
theorem d_P_load_165 : decode b_P_load 165 = .ok (.iaload, 1) := by decide +kernel
theorem d_P_load_166 : decode b_P_load 166 = .ok (.i2l, 1) := by decide +kernel
theorem d_P_load_167 : decode b_P_load 167 = .ok (.aload_n 1, 1) := by decide +kernel
theorem d_P_load_168 : decode b_P_load 168 = .ok (.iload 6, 2) := by decide +kernel
theorem d_P_load_170 : decode b_P_load 170 = .ok (.aload_n 2, 1) := by decide +kernel
theorem d_P_load_171 : decode b_P_load 171 = .ok (.getfield 79, 3) := by decide +kernel
theorem d_P_load_174 : decode b_P_load 174 = .ok (.iload 5, 2) := by decide +kernel
theorem d_P_load_176 : decode b_P_load 176 = .ok (.iaload, 1) := by decide +kernel
theorem d_P_load_177 : decode b_P_load 177 = .ok (.invokevirtual 82, 3) := by decide +kernel
theorem d_P_load_180 : decode b_P_load 180 = .ok (.lmul, 1) := by decide +kernel
theorem d_P_load_181 : decode b_P_load 181 = .ok (.lastore, 1) := by decide +kernel
theorem d_P_load_182 : decode b_P_load 182 = .ok (.iinc 6 1, 3) := by decide +kernel
theorem d_P_load_185 : decode b_P_load 185 = .ok (.goto (-44), 3) := by decide +kernel
theorem d_P_load_188 : decode b_P_load 188 = .ok (.aload_n 0, 1) := by decide +kernel
theorem d_P_load_189 : decode b_P_load 189 = .ok (.getfield 11, 3) := by decide +kernel
theorem d_P_load_192 : decode b_P_load 192 = .ok (.aload_n 1, 1) := by decide +kernel
theorem d_P_load_193 : decode b_P_load 193 = .ok (.getfield 61, 3) := by decide +kernel
theorem d_P_load_196 : decode b_P_load 196 = .ok (.aaload, 1) := by decide +kernel
theorem d_P_load_197 : decode b_P_load 197 = .ok (.iload 5, 2) := by decide +kernel
theorem d_P_load_199 : decode b_P_load 199 = .ok (.aload_n 2, 1) := by decide +kernel
theorem d_P_load_200 : decode b_P_load 200 = .ok (.getfield 76, 3) := by decide +kernel
theorem d_P_load_203 : decode b_P_load 203 = .ok (.iload 5, 2) := by decide +kernel
theorem d_P_load_205 : decode b_P_load 205 = .ok (.iaload, 1) := by decide +kernel
theorem d_P_load_206 : decode b_P_load 206 = .ok (.ineg, 1) := by decide +kernel
theorem d_P_load_207 : decode b_P_load 207 = .ok (.i2l, 1) := by decide +kernel
theorem d_P_load_208 : decode b_P_load 208 = .ok (.aload_n 0, 1) := by decide +kernel
theorem d_P_load_209 : decode b_P_load 209 = .ok (.getfield 43, 3) := by decide +kernel
theorem d_P_load_212 : decode b_P_load 212 = .ok (.lmul, 1) := by decide +kernel
theorem d_P_load_213 : decode b_P_load 213 = .ok (.lastore, 1) := by decide +kernel
theorem d_P_load_214 : decode b_P_load 214 = .ok (.aload_n 0, 1) := by decide +kernel
theorem d_P_load_215 : decode b_P_load 215 = .ok (.getfield 11, 3) := by decide +kernel
theorem d_P_load_218 : decode b_P_load 218 = .ok (.aload_n 1, 1) := by decide +kernel
theorem d_P_load_219 : decode b_P_load 219 = .ok (.getfield 61, 3) := by decide +kernel
theorem d_P_load_222 : decode b_P_load 222 = .ok (.iconst 1, 1) := by decide +kernel
theorem d_P_load_223 : decode b_P_load 223 = .ok (.iadd, 1) := by decide +kernel
theorem d_P_load_224 : decode b_P_load 224 = .ok (.aaload, 1) := by decide +kernel
theorem d_P_load_225 : decode b_P_load 225 = .ok (.iload 5, 2) := by decide +kernel
theorem d_P_load_227 : decode b_P_load 227 = .ok (.aload_n 2, 1) := by decide +kernel
theorem d_P_load_228 : decode b_P_load 228 = .ok (.getfield 76, 3) := by decide +kernel
theorem d_P_load_231 : decode b_P_load 231 = .ok (.iload 5, 2) := by decide +kernel
theorem d_P_load_233 : decode b_P_load 233 = .ok (.iaload, 1) := by decide +kernel
theorem d_P_load_234 : decode b_P_load 234 = .ok (.aload_n 2, 1) := by decide +kernel
theorem d_P_load_235 : decode b_P_load 235 = .ok (.getfield 86, 3) := by decide +kernel
theorem d_P_load_238 : decode b_P_load 238 = .ok (.iload 5, 2) := by decide +kernel
theorem d_P_load_240 : decode b_P_load 240 = .ok (.iaload, 1) := by decide +kernel
theorem d_P_load_241 : decode b_P_load 241 = .ok (.imul, 1) := by decide +kernel
theorem d_P_load_242 : decode b_P_load 242 = .ok (.i2l, 1) := by decide +kernel
theorem d_P_load_243 : decode b_P_load 243 = .ok (.aload_n 0, 1) := by decide +kernel
theorem d_P_load_244 : decode b_P_load 244 = .ok (.getfield 43, 3) := by decide +kernel
theorem d_P_load_247 : decode b_P_load 247 = .ok (.lmul, 1) := by decide +kernel
theorem d_P_load_248 : decode b_P_load 248 = .ok (.lastore, 1) := by decide +kernel
theorem d_P_load_249 : decode b_P_load 249 = .ok (.iinc 5 1, 3) := by decide +kernel
theorem d_P_load_252 : decode b_P_load 252 = .ok (.goto (-136), 3) := by decide +kernel
theorem d_P_load_255 : decode b_P_load 255 = .ok (.iconst 1, 1) := by decide +kernel
theorem d_P_load_256 : decode b_P_load 256 = .ok (.ireturn, 1) := by decide +kernel
theorem d_P_placeRow_0 : decode b_P_placeRow 0 = .ok (.aload_n 0, 1) := by decide +kernel
theorem d_P_placeRow_1 : decode b_P_placeRow 1 = .ok (.getfield 16, 3) := by decide +kernel
theorem d_P_placeRow_4 : decode b_P_placeRow 4 = .ok (.iload_n 1, 1) := by decide +kernel
theorem d_P_placeRow_5 : decode b_P_placeRow 5 = .ok (.iload_n 2, 1) := by decide +kernel
theorem d_P_placeRow_6 : decode b_P_placeRow 6 = .ok (.iastore, 1) := by decide +kernel
theorem d_P_placeRow_7 : decode b_P_placeRow 7 = .ok (.aload_n 0, 1) := by decide +kernel
theorem d_P_placeRow_8 : decode b_P_placeRow 8 = .ok (.getfield 23, 3) := by decide +kernel
theorem d_P_placeRow_11 : decode b_P_placeRow 11 = .ok (.iload_n 2, 1) := by decide +kernel
theorem d_P_placeRow_12 : decode b_P_placeRow 12 = .ok (.iload_n 3, 1) := by decide +kernel
theorem d_P_placeRow_13 : decode b_P_placeRow 13 = .ok (.iastore, 1) := by decide +kernel
theorem d_P_placeRow_14 : decode b_P_placeRow 14 = .ok (.aload_n 0, 1) := by decide +kernel
theorem d_P_placeRow_15 : decode b_P_placeRow 15 = .ok (.getfield 26, 3) := by decide +kernel
theorem d_P_placeRow_18 : decode b_P_placeRow 18 = .ok (.iload_n 2, 1) := by decide +kernel
theorem d_P_placeRow_19 : decode b_P_placeRow 19 = .ok (.iload 4, 2) := by decide +kernel
theorem d_P_placeRow_21 : decode b_P_placeRow 21 = .ok (.iastore, 1) := by decide +kernel
theorem d_P_placeRow_22 : decode b_P_placeRow 22 = .ok (.return_, 1) := by decide +kernel
theorem d_P_placeColumn_0 : decode b_P_placeColumn 0 = .ok (.aload_n 0, 1) := by decide +kernel
theorem d_P_placeColumn_1 : decode b_P_placeColumn 1 = .ok (.getfield 20, 3) := by decide +kernel
theorem d_P_placeColumn_4 : decode b_P_placeColumn 4 = .ok (.iload_n 1, 1) := by decide +kernel
theorem d_P_placeColumn_5 : decode b_P_placeColumn 5 = .ok (.iload_n 1, 1) := by decide +kernel
theorem d_P_placeColumn_6 : decode b_P_placeColumn 6 = .ok (.iastore, 1) := by decide +kernel
theorem d_P_placeColumn_7 : decode b_P_placeColumn 7 = .ok (.aload_n 0, 1) := by decide +kernel
theorem d_P_placeColumn_8 : decode b_P_placeColumn 8 = .ok (.getfield 23, 3) := by decide +kernel
theorem d_P_placeColumn_11 : decode b_P_placeColumn 11 = .ok (.iload_n 1, 1) := by decide +kernel
theorem d_P_placeColumn_12 : decode b_P_placeColumn 12 = .ok (.iconst 0, 1) := by decide +kernel
theorem d_P_placeColumn_13 : decode b_P_placeColumn 13 = .ok (.iastore, 1) := by decide +kernel
theorem d_P_placeColumn_14 : decode b_P_placeColumn 14 = .ok (.aload_n 0, 1) := by decide +kernel
theorem d_P_placeColumn_15 : decode b_P_placeColumn 15 = .ok (.getfield 26, 3) := by decide +kernel
theorem d_P_placeColumn_18 : decode b_P_placeColumn 18 = .ok (.iload_n 1, 1) := by decide +kernel
theorem d_P_placeColumn_19 : decode b_P_placeColumn 19 = .ok (.iload_n 2, 1) := by decide +kernel
theorem d_P_placeColumn_20 : decode b_P_placeColumn 20 = .ok (.iastore, 1) := by decide +kernel
theorem d_P_placeColumn_21 : decode b_P_placeColumn 21 = .ok (.aload_n 0, 1) := by decide +kernel
theorem d_P_placeColumn_22 : decode b_P_placeColumn 22 = .ok (.getfield 29, 3) := by decide +kernel
theorem d_P_placeColumn_25 : decode b_P_placeColumn 25 = .ok (.iload_n 1, 1) := by decide +kernel
theorem d_P_placeColumn_26 : decode b_P_placeColumn 26 = .ok (.iconst 0, 1) := by decide +kernel
theorem d_P_placeColumn_27 : decode b_P_placeColumn 27 = .ok (.iastore, 1) := by decide +kernel
theorem d_P_placeColumn_28 : decode b_P_placeColumn 28 = .ok (.aload_n 0, 1) := by decide +kernel
theorem d_P_placeColumn_29 : decode b_P_placeColumn 29 = .ok (.getfield 32, 3) := by decide +kernel
theorem d_P_placeColumn_32 : decode b_P_placeColumn 32 = .ok (.iload_n 1, 1) := by decide +kernel
theorem d_P_placeColumn_33 : decode b_P_placeColumn 33 = .ok (.iconst 0, 1) := by decide +kernel
theorem d_P_placeColumn_34 : decode b_P_placeColumn 34 = .ok (.bastore, 1) := by decide +kernel
theorem d_P_placeColumn_35 : decode b_P_placeColumn 35 = .ok (.return_, 1) := by decide +kernel
theorem d_P_maximise_0 : decode b_P_maximise 0 = .ok (.iconst 0, 1) := by decide +kernel
theorem d_P_maximise_1 : decode b_P_maximise 1 = .ok (.istore_n 2, 1) := by decide +kernel
theorem d_P_maximise_2 : decode b_P_maximise 2 = .ok (.iload_n 2, 1) := by decide +kernel
theorem d_P_maximise_3 : decode b_P_maximise 3 = .ok (.ldc 89, 2) := by decide +kernel
theorem d_P_maximise_5 : decode b_P_maximise 5 = .ok (.if_icmp .ge 55, 3) := by decide +kernel
theorem d_P_maximise_8 : decode b_P_maximise 8 = .ok (.aload_n 0, 1) := by decide +kernel
theorem d_P_maximise_9 : decode b_P_maximise 9 = .ok (.iload_n 1, 1) := by decide +kernel
theorem d_P_maximise_10 : decode b_P_maximise 10 = .ok (.invokevirtual 90, 3) := by decide +kernel
theorem d_P_maximise_13 : decode b_P_maximise 13 = .ok (.istore_n 3, 1) := by decide +kernel
theorem d_P_maximise_14 : decode b_P_maximise 14 = .ok (.aload_n 0, 1) := by decide +kernel
theorem d_P_maximise_15 : decode b_P_maximise 15 = .ok (.iload_n 1, 1) := by decide +kernel
theorem d_P_maximise_16 : decode b_P_maximise 16 = .ok (.iload_n 3, 1) := by decide +kernel
theorem d_P_maximise_17 : decode b_P_maximise 17 = .ok (.invokevirtual 94, 3) := by decide +kernel
theorem d_P_maximise_20 : decode b_P_maximise 20 = .ok (.istore 4, 2) := by decide +kernel
theorem d_P_maximise_22 : decode b_P_maximise 22 = .ok (.iload 4, 2) := by decide +kernel
theorem d_P_maximise_24 : decode b_P_maximise 24 = .ok (.ifCond .ge 6, 3) := by decide +kernel
theorem d_P_maximise_27 : decode b_P_maximise 27 = .ok (.goto 33, 3) := by decide +kernel
theorem d_P_maximise_30 : decode b_P_maximise 30 = .ok (.aload_n 0, 1) := by decide +kernel
theorem d_P_maximise_31 : decode b_P_maximise 31 = .ok (.iload 4, 2) := by decide +kernel
theorem d_P_maximise_33 : decode b_P_maximise 33 = .ok (.aload_n 0, 1) := by decide +kernel
theorem d_P_maximise_34 : decode b_P_maximise 34 = .ok (.iload_n 1, 1) := by decide +kernel
theorem d_P_maximise_35 : decode b_P_maximise 35 = .ok (.iload_n 3, 1) := by decide +kernel
theorem d_P_maximise_36 : decode b_P_maximise 36 = .ok (.iload 4, 2) := by decide +kernel
theorem d_P_maximise_38 : decode b_P_maximise 38 = .ok (.invokevirtual 98, 3) := by decide +kernel
theorem d_P_maximise_41 : decode b_P_maximise 41 = .ok (.lconst 0, 1) := by decide +kernel
theorem d_P_maximise_42 : decode b_P_maximise 42 = .ok (.lcmp, 1) := by decide +kernel
theorem d_P_maximise_43 : decode b_P_maximise 43 = .ok (.ifCond .le 7, 3) := by decide +kernel
theorem d_P_maximise_46 : decode b_P_maximise 46 = .ok (.iconst 1, 1) := by decide +kernel
theorem d_P_maximise_47 : decode b_P_maximise 47 = .ok (.goto 4, 3) := by decide +kernel
theorem d_P_maximise_50 : decode b_P_maximise 50 = .ok (.iconst 0, 1) := by decide +kernel
theorem d_P_maximise_51 : decode b_P_maximise 51 = .ok (.invokevirtual 102, 3) := by decide +kernel
theorem d_P_maximise_54 : decode b_P_maximise 54 = .ok (.iinc 2 1, 3) := by decide +kernel
theorem d_P_maximise_57 : decode b_P_maximise 57 = .ok (.goto (-55), 3) := by decide +kernel
theorem d_P_maximise_60 : decode b_P_maximise 60 = .ok (.aload_n 0, 1) := by decide +kernel
theorem d_P_maximise_61 : decode b_P_maximise 61 = .ok (.iload_n 1, 1) := by decide +kernel
theorem d_P_maximise_62 : decode b_P_maximise 62 = .ok (.invokevirtual 90, 3) := by decide +kernel
theorem d_P_maximise_65 : decode b_P_maximise 65 = .ok (.istore_n 2, 1) := by decide +kernel
theorem d_P_maximise_66 : decode b_P_maximise 66 = .ok (.iconst 0, 1) := by decide +kernel
theorem d_P_maximise_67 : decode b_P_maximise 67 = .ok (.istore_n 3, 1) := by decide +kernel
theorem d_P_maximise_68 : decode b_P_maximise 68 = .ok (.iload_n 3, 1) := by decide +kernel
theorem d_P_maximise_69 : decode b_P_maximise 69 = .ok (.aload_n 0, 1) := by decide +kernel
theorem d_P_maximise_70 : decode b_P_maximise 70 = .ok (.getfield 40, 3) := by decide +kernel
theorem d_P_maximise_73 : decode b_P_maximise 73 = .ok (.if_icmp .ge 28, 3) := by decide +kernel
theorem d_P_maximise_76 : decode b_P_maximise 76 = .ok (.aload_n 0, 1) := by decide +kernel
theorem d_P_maximise_77 : decode b_P_maximise 77 = .ok (.iload_n 1, 1) := by decide +kernel
theorem d_P_maximise_78 : decode b_P_maximise 78 = .ok (.iload_n 2, 1) := by decide +kernel
theorem d_P_maximise_79 : decode b_P_maximise 79 = .ok (.iload_n 3, 1) := by decide +kernel
theorem d_P_maximise_80 : decode b_P_maximise 80 = .ok (.invokevirtual 98, 3) := by decide +kernel
theorem d_P_maximise_83 : decode b_P_maximise 83 = .ok (.lconst 0, 1) := by decide +kernel
theorem d_P_maximise_84 : decode b_P_maximise 84 = .ok (.lcmp, 1) := by decide +kernel
theorem d_P_maximise_85 : decode b_P_maximise 85 = .ok (.ifCond .eq 10, 3) := by decide +kernel
theorem d_P_maximise_88 : decode b_P_maximise 88 = .ok (.aload_n 0, 1) := by decide +kernel
theorem d_P_maximise_89 : decode b_P_maximise 89 = .ok (.getfield 32, 3) := by decide +kernel
theorem d_P_maximise_92 : decode b_P_maximise 92 = .ok (.iload_n 3, 1) := by decide +kernel
theorem d_P_maximise_93 : decode b_P_maximise 93 = .ok (.iconst 1, 1) := by decide +kernel
theorem d_P_maximise_94 : decode b_P_maximise 94 = .ok (.bastore, 1) := by decide +kernel
theorem d_P_maximise_95 : decode b_P_maximise 95 = .ok (.iinc 3 1, 3) := by decide +kernel
theorem d_P_maximise_98 : decode b_P_maximise 98 = .ok (.goto (-30), 3) := by decide +kernel
theorem d_P_maximise_101 : decode b_P_maximise 101 = .ok (.return_, 1) := by decide +kernel
theorem d_P_top_0 : decode b_P_top 0 = .ok (.aload_n 0, 1) := by decide +kernel
theorem d_P_top_1 : decode b_P_top 1 = .ok (.iload_n 1, 1) := by decide +kernel
theorem d_P_top_2 : decode b_P_top 2 = .ok (.invokevirtual 90, 3) := by decide +kernel
theorem d_P_top_5 : decode b_P_top 5 = .ok (.istore_n 2, 1) := by decide +kernel
theorem d_P_top_6 : decode b_P_top 6 = .ok (.iload_n 2, 1) := by decide +kernel
theorem d_P_top_7 : decode b_P_top 7 = .ok (.ifCond .ge 18, 3) := by decide +kernel
theorem d_P_top_10 : decode b_P_top 10 = .ok (.aload_n 0, 1) := by decide +kernel
theorem d_P_top_11 : decode b_P_top 11 = .ok (.getfield 29, 3) := by decide +kernel
theorem d_P_top_14 : decode b_P_top 14 = .ok (.iload_n 1, 1) := by decide +kernel
theorem d_P_top_15 : decode b_P_top 15 = .ok (.iaload, 1) := by decide +kernel
theorem d_P_top_16 : decode b_P_top 16 = .ok (.i2l, 1) := by decide +kernel
theorem d_P_top_17 : decode b_P_top 17 = .ok (.aload_n 0, 1) := by decide +kernel
theorem d_P_top_18 : decode b_P_top 18 = .ok (.getfield 43, 3) := by decide +kernel
theorem d_P_top_21 : decode b_P_top 21 = .ok (.lmul, 1) := by decide +kernel
theorem d_P_top_22 : decode b_P_top 22 = .ok (.goto 8, 3) := by decide +kernel
theorem d_P_top_25 : decode b_P_top 25 = .ok (.aload_n 0, 1) := by decide +kernel
theorem d_P_top_26 : decode b_P_top 26 = .ok (.iload_n 2, 1) := by decide +kernel
theorem d_P_top_27 : decode b_P_top 27 = .ok (.invokevirtual 106, 3) := by decide +kernel
theorem d_P_top_30 : decode b_P_top 30 = .ok (.lreturn, 1) := by decide +kernel
theorem d_P_rowTop_0 : decode b_P_rowTop 0 = .ok (.lconst 0, 1) := by decide +kernel
theorem d_P_rowTop_1 : decode b_P_rowTop 1 = .ok (.lstore_n 2, 1) := by decide +kernel
theorem d_P_rowTop_2 : decode b_P_rowTop 2 = .ok (.iconst 0, 1) := by decide +kernel
theorem d_P_rowTop_3 : decode b_P_rowTop 3 = .ok (.istore 4, 2) := by decide +kernel
theorem d_P_rowTop_5 : decode b_P_rowTop 5 = .ok (.iload 4, 2) := by decide +kernel
theorem d_P_rowTop_7 : decode b_P_rowTop 7 = .ok (.aload_n 0, 1) := by decide +kernel
theorem d_P_rowTop_8 : decode b_P_rowTop 8 = .ok (.getfield 40, 3) := by decide +kernel
theorem d_P_rowTop_11 : decode b_P_rowTop 11 = .ok (.if_icmp .ge 35, 3) := by decide +kernel
theorem d_P_rowTop_14 : decode b_P_rowTop 14 = .ok (.lload_n 2, 1) := by decide +kernel
theorem d_P_rowTop_15 : decode b_P_rowTop 15 = .ok (.aload_n 0, 1) := by decide +kernel
theorem d_P_rowTop_16 : decode b_P_rowTop 16 = .ok (.getfield 11, 3) := by decide +kernel
theorem d_P_rowTop_19 : decode b_P_rowTop 19 = .ok (.iload_n 1, 1) := by decide +kernel
theorem d_P_rowTop_20 : decode b_P_rowTop 20 = .ok (.aaload, 1) := by decide +kernel
theorem d_P_rowTop_21 : decode b_P_rowTop 21 = .ok (.iload 4, 2) := by decide +kernel
theorem d_P_rowTop_23 : decode b_P_rowTop 23 = .ok (.laload, 1) := by decide +kernel
theorem d_P_rowTop_24 : decode b_P_rowTop 24 = .ok (.aload_n 0, 1) := by decide +kernel
theorem d_P_rowTop_25 : decode b_P_rowTop 25 = .ok (.getfield 29, 3) := by decide +kernel
theorem d_P_rowTop_28 : decode b_P_rowTop 28 = .ok (.aload_n 0, 1) := by decide +kernel
theorem d_P_rowTop_29 : decode b_P_rowTop 29 = .ok (.getfield 20, 3) := by decide +kernel
theorem d_P_rowTop_32 : decode b_P_rowTop 32 = .ok (.iload 4, 2) := by decide +kernel
theorem d_P_rowTop_34 : decode b_P_rowTop 34 = .ok (.iaload, 1) := by decide +kernel
theorem d_P_rowTop_35 : decode b_P_rowTop 35 = .ok (.iaload, 1) := by decide +kernel
theorem d_P_rowTop_36 : decode b_P_rowTop 36 = .ok (.i2l, 1) := by decide +kernel
theorem d_P_rowTop_37 : decode b_P_rowTop 37 = .ok (.lmul, 1) := by decide +kernel
theorem d_P_rowTop_38 : decode b_P_rowTop 38 = .ok (.ladd, 1) := by decide +kernel
theorem d_P_rowTop_39 : decode b_P_rowTop 39 = .ok (.lstore_n 2, 1) := by decide +kernel
theorem d_P_rowTop_40 : decode b_P_rowTop 40 = .ok (.iinc 4 1, 3) := by decide +kernel
theorem d_P_rowTop_43 : decode b_P_rowTop 43 = .ok (.goto (-38), 3) := by decide +kernel
theorem d_P_rowTop_46 : decode b_P_rowTop 46 = .ok (.lload_n 2, 1) := by decide +kernel
theorem d_P_rowTop_47 : decode b_P_rowTop 47 = .ok (.lreturn, 1) := by decide +kernel
theorem d_P_rowOf_0 : decode b_P_rowOf 0 = .ok (.iconst 0, 1) := by decide +kernel
theorem d_P_rowOf_1 : decode b_P_rowOf 1 = .ok (.istore_n 2, 1) := by decide +kernel
theorem d_P_rowOf_2 : decode b_P_rowOf 2 = .ok (.iload_n 2, 1) := by decide +kernel
theorem d_P_rowOf_3 : decode b_P_rowOf 3 = .ok (.aload_n 0, 1) := by decide +kernel
theorem d_P_rowOf_4 : decode b_P_rowOf 4 = .ok (.getfield 36, 3) := by decide +kernel
theorem d_P_rowOf_7 : decode b_P_rowOf 7 = .ok (.if_icmp .ge 21, 3) := by decide +kernel
theorem d_P_rowOf_10 : decode b_P_rowOf 10 = .ok (.aload_n 0, 1) := by decide +kernel
theorem d_P_rowOf_11 : decode b_P_rowOf 11 = .ok (.getfield 16, 3) := by decide +kernel
theorem d_P_rowOf_14 : decode b_P_rowOf 14 = .ok (.iload_n 2, 1) := by decide +kernel
theorem d_P_rowOf_15 : decode b_P_rowOf 15 = .ok (.iaload, 1) := by decide +kernel
theorem d_P_rowOf_16 : decode b_P_rowOf 16 = .ok (.iload_n 1, 1) := by decide +kernel
theorem d_P_rowOf_17 : decode b_P_rowOf 17 = .ok (.if_icmp .ne 5, 3) := by decide +kernel
theorem d_P_rowOf_20 : decode b_P_rowOf 20 = .ok (.iload_n 2, 1) := by decide +kernel
theorem d_P_rowOf_21 : decode b_P_rowOf 21 = .ok (.ireturn, 1) := by decide +kernel
theorem d_P_rowOf_22 : decode b_P_rowOf 22 = .ok (.iinc 2 1, 3) := by decide +kernel
theorem d_P_rowOf_25 : decode b_P_rowOf 25 = .ok (.goto (-23), 3) := by decide +kernel
theorem d_P_rowOf_28 : decode b_P_rowOf 28 = .ok (.iconst (-1), 1) := by decide +kernel
theorem d_P_rowOf_29 : decode b_P_rowOf 29 = .ok (.ireturn, 1) := by decide +kernel
theorem d_P_gain_0 : decode b_P_gain 0 = .ok (.iload_n 2, 1) := by decide +kernel
theorem d_P_gain_1 : decode b_P_gain 1 = .ok (.ifCond .lt 12, 3) := by decide +kernel
theorem d_P_gain_4 : decode b_P_gain 4 = .ok (.aload_n 0, 1) := by decide +kernel
theorem d_P_gain_5 : decode b_P_gain 5 = .ok (.getfield 11, 3) := by decide +kernel
theorem d_P_gain_8 : decode b_P_gain 8 = .ok (.iload_n 2, 1) := by decide +kernel
theorem d_P_gain_9 : decode b_P_gain 9 = .ok (.aaload, 1) := by decide +kernel
theorem d_P_gain_10 : decode b_P_gain 10 = .ok (.iload_n 3, 1) := by decide +kernel
theorem d_P_gain_11 : decode b_P_gain 11 = .ok (.laload, 1) := by decide +kernel
theorem d_P_gain_12 : decode b_P_gain 12 = .ok (.lreturn, 1) := by decide +kernel
theorem d_P_gain_13 : decode b_P_gain 13 = .ok (.aload_n 0, 1) := by decide +kernel
theorem d_P_gain_14 : decode b_P_gain 14 = .ok (.getfield 20, 3) := by decide +kernel
theorem d_P_gain_17 : decode b_P_gain 17 = .ok (.iload_n 3, 1) := by decide +kernel
theorem d_P_gain_18 : decode b_P_gain 18 = .ok (.iaload, 1) := by decide +kernel
theorem d_P_gain_19 : decode b_P_gain 19 = .ok (.iload_n 1, 1) := by decide +kernel
theorem d_P_gain_20 : decode b_P_gain 20 = .ok (.if_icmp .ne 10, 3) := by decide +kernel
theorem d_P_gain_23 : decode b_P_gain 23 = .ok (.aload_n 0, 1) := by decide +kernel
theorem d_P_gain_24 : decode b_P_gain 24 = .ok (.getfield 43, 3) := by decide +kernel
theorem d_P_gain_27 : decode b_P_gain 27 = .ok (.goto 4, 3) := by decide +kernel
theorem d_P_gain_30 : decode b_P_gain 30 = .ok (.lconst 0, 1) := by decide +kernel
theorem d_P_gain_31 : decode b_P_gain 31 = .ok (.lreturn, 1) := by decide +kernel
theorem d_P_firstGain_0 : decode b_P_firstGain 0 = .ok (.iconst (-1), 1) := by decide +kernel
theorem d_P_firstGain_1 : decode b_P_firstGain 1 = .ok (.istore_n 3, 1) := by decide +kernel
theorem d_P_firstGain_2 : decode b_P_firstGain 2 = .ok (.iconst 0, 1) := by decide +kernel
theorem d_P_firstGain_3 : decode b_P_firstGain 3 = .ok (.istore 4, 2) := by decide +kernel
theorem d_P_firstGain_5 : decode b_P_firstGain 5 = .ok (.iload 4, 2) := by decide +kernel
theorem d_P_firstGain_7 : decode b_P_firstGain 7 = .ok (.aload_n 0, 1) := by decide +kernel
theorem d_P_firstGain_8 : decode b_P_firstGain 8 = .ok (.getfield 40, 3) := by decide +kernel
theorem d_P_firstGain_11 : decode b_P_firstGain 11 = .ok (.if_icmp .ge 76, 3) := by decide +kernel
theorem d_P_firstGain_14 : decode b_P_firstGain 14 = .ok (.iload_n 3, 1) := by decide +kernel
theorem d_P_firstGain_15 : decode b_P_firstGain 15 = .ok (.ifCond .lt 19, 3) := by decide +kernel
theorem d_P_firstGain_18 : decode b_P_firstGain 18 = .ok (.aload_n 0, 1) := by decide +kernel
theorem d_P_firstGain_19 : decode b_P_firstGain 19 = .ok (.getfield 20, 3) := by decide +kernel
theorem d_P_firstGain_22 : decode b_P_firstGain 22 = .ok (.iload 4, 2) := by decide +kernel
theorem d_P_firstGain_24 : decode b_P_firstGain 24 = .ok (.iaload, 1) := by decide +kernel
theorem d_P_firstGain_25 : decode b_P_firstGain 25 = .ok (.aload_n 0, 1) := by decide +kernel
theorem d_P_firstGain_26 : decode b_P_firstGain 26 = .ok (.getfield 20, 3) := by decide +kernel
theorem d_P_firstGain_29 : decode b_P_firstGain 29 = .ok (.iload_n 3, 1) := by decide +kernel
theorem d_P_firstGain_30 : decode b_P_firstGain 30 = .ok (.iaload, 1) := by decide +kernel
theorem d_P_firstGain_31 : decode b_P_firstGain 31 = .ok (.if_icmp .ge 7, 3) := by decide +kernel
theorem d_P_firstGain_34 : decode b_P_firstGain 34 = .ok (.iconst 1, 1) := by decide +kernel
theorem d_P_firstGain_35 : decode b_P_firstGain 35 = .ok (.goto 4, 3) := by decide +kernel
theorem d_P_firstGain_38 : decode b_P_firstGain 38 = .ok (.iconst 0, 1) := by decide +kernel
theorem d_P_firstGain_39 : decode b_P_firstGain 39 = .ok (.istore 5, 2) := by decide +kernel
theorem d_P_firstGain_41 : decode b_P_firstGain 41 = .ok (.iload 5, 2) := by decide +kernel
theorem d_P_firstGain_43 : decode b_P_firstGain 43 = .ok (.ifCond .eq 38, 3) := by decide +kernel
theorem d_P_firstGain_46 : decode b_P_firstGain 46 = .ok (.aload_n 0, 1) := by decide +kernel
theorem d_P_firstGain_47 : decode b_P_firstGain 47 = .ok (.getfield 32, 3) := by decide +kernel
theorem d_P_firstGain_50 : decode b_P_firstGain 50 = .ok (.iload 4, 2) := by decide +kernel
theorem d_P_firstGain_52 : decode b_P_firstGain 52 = .ok (.baload, 1) := by decide +kernel
theorem d_P_firstGain_53 : decode b_P_firstGain 53 = .ok (.ifCond .ne 28, 3) := by decide +kernel
theorem d_P_firstGain_56 : decode b_P_firstGain 56 = .ok (.aload_n 0, 1) := by decide +kernel
theorem d_P_firstGain_57 : decode b_P_firstGain 57 = .ok (.aload_n 0, 1) := by decide +kernel
theorem d_P_firstGain_58 : decode b_P_firstGain 58 = .ok (.getfield 20, 3) := by decide +kernel
theorem d_P_firstGain_61 : decode b_P_firstGain 61 = .ok (.iload 4, 2) := by decide +kernel
theorem d_P_firstGain_63 : decode b_P_firstGain 63 = .ok (.iaload, 1) := by decide +kernel
theorem d_P_firstGain_64 : decode b_P_firstGain 64 = .ok (.aload_n 0, 1) := by decide +kernel
theorem d_P_firstGain_65 : decode b_P_firstGain 65 = .ok (.iload_n 1, 1) := by decide +kernel
theorem d_P_firstGain_66 : decode b_P_firstGain 66 = .ok (.iload_n 2, 1) := by decide +kernel
theorem d_P_firstGain_67 : decode b_P_firstGain 67 = .ok (.iload 4, 2) := by decide +kernel
theorem d_P_firstGain_69 : decode b_P_firstGain 69 = .ok (.invokevirtual 98, 3) := by decide +kernel
theorem d_P_firstGain_72 : decode b_P_firstGain 72 = .ok (.invokevirtual 110, 3) := by decide +kernel
theorem d_P_firstGain_75 : decode b_P_firstGain 75 = .ok (.ifCond .eq 6, 3) := by decide +kernel
theorem d_P_firstGain_78 : decode b_P_firstGain 78 = .ok (.iload 4, 2) := by decide +kernel
theorem d_P_firstGain_80 : decode b_P_firstGain 80 = .ok (.istore_n 3, 1) := by decide +kernel
theorem d_P_firstGain_81 : decode b_P_firstGain 81 = .ok (.iinc 4 1, 3) := by decide +kernel
theorem d_P_firstGain_84 : decode b_P_firstGain 84 = .ok (.goto (-79), 3) := by decide +kernel
theorem d_P_firstGain_87 : decode b_P_firstGain 87 = .ok (.iload_n 3, 1) := by decide +kernel
theorem d_P_firstGain_88 : decode b_P_firstGain 88 = .ok (.ireturn, 1) := by decide +kernel
theorem d_P_canMove_0 : decode b_P_canMove 0 = .ok (.lload_n 2, 1) := by decide +kernel
theorem d_P_canMove_1 : decode b_P_canMove 1 = .ok (.lconst 0, 1) := by decide +kernel
theorem d_P_canMove_2 : decode b_P_canMove 2 = .ok (.lcmp, 1) := by decide +kernel
theorem d_P_canMove_3 : decode b_P_canMove 3 = .ok (.ifCond .le 24, 3) := by decide +kernel
theorem d_P_canMove_6 : decode b_P_canMove 6 = .ok (.aload_n 0, 1) := by decide +kernel
theorem d_P_canMove_7 : decode b_P_canMove 7 = .ok (.getfield 29, 3) := by decide +kernel
theorem d_P_canMove_10 : decode b_P_canMove 10 = .ok (.iload_n 1, 1) := by decide +kernel
theorem d_P_canMove_11 : decode b_P_canMove 11 = .ok (.iaload, 1) := by decide +kernel
theorem d_P_canMove_12 : decode b_P_canMove 12 = .ok (.aload_n 0, 1) := by decide +kernel
theorem d_P_canMove_13 : decode b_P_canMove 13 = .ok (.getfield 26, 3) := by decide +kernel
theorem d_P_canMove_16 : decode b_P_canMove 16 = .ok (.iload_n 1, 1) := by decide +kernel
theorem d_P_canMove_17 : decode b_P_canMove 17 = .ok (.iaload, 1) := by decide +kernel
theorem d_P_canMove_18 : decode b_P_canMove 18 = .ok (.if_icmp .ge 7, 3) := by decide +kernel
theorem d_P_canMove_21 : decode b_P_canMove 21 = .ok (.iconst 1, 1) := by decide +kernel
theorem d_P_canMove_22 : decode b_P_canMove 22 = .ok (.goto 4, 3) := by decide +kernel
theorem d_P_canMove_25 : decode b_P_canMove 25 = .ok (.iconst 0, 1) := by decide +kernel
theorem d_P_canMove_26 : decode b_P_canMove 26 = .ok (.ireturn, 1) := by decide +kernel
theorem d_P_canMove_27 : decode b_P_canMove 27 = .ok (.lload_n 2, 1) := by decide +kernel
theorem d_P_canMove_28 : decode b_P_canMove 28 = .ok (.lconst 0, 1) := by decide +kernel
theorem d_P_canMove_29 : decode b_P_canMove 29 = .ok (.lcmp, 1) := by decide +kernel
theorem d_P_canMove_30 : decode b_P_canMove 30 = .ok (.ifCond .ge 22, 3) := by decide +kernel
theorem d_P_canMove_33 : decode b_P_canMove 33 = .ok (.aload_n 0, 1) := by decide +kernel
theorem d_P_canMove_34 : decode b_P_canMove 34 = .ok (.getfield 29, 3) := by decide +kernel
theorem d_P_canMove_37 : decode b_P_canMove 37 = .ok (.iload_n 1, 1) := by decide +kernel
theorem d_P_canMove_38 : decode b_P_canMove 38 = .ok (.iaload, 1) := by decide +kernel
theorem d_P_canMove_39 : decode b_P_canMove 39 = .ok (.aload_n 0, 1) := by decide +kernel
theorem d_P_canMove_40 : decode b_P_canMove 40 = .ok (.getfield 23, 3) := by decide +kernel
theorem d_P_canMove_43 : decode b_P_canMove 43 = .ok (.iload_n 1, 1) := by decide +kernel
theorem d_P_canMove_44 : decode b_P_canMove 44 = .ok (.iaload, 1) := by decide +kernel
theorem d_P_canMove_45 : decode b_P_canMove 45 = .ok (.if_icmp .le 7, 3) := by decide +kernel
theorem d_P_canMove_48 : decode b_P_canMove 48 = .ok (.iconst 1, 1) := by decide +kernel
theorem d_P_canMove_49 : decode b_P_canMove 49 = .ok (.goto 4, 3) := by decide +kernel
theorem d_P_canMove_52 : decode b_P_canMove 52 = .ok (.iconst 0, 1) := by decide +kernel
theorem d_P_canMove_53 : decode b_P_canMove 53 = .ok (.ireturn, 1) := by decide +kernel
theorem d_P_advance_0 : decode b_P_advance 0 = .ok (.aload_n 0, 1) := by decide +kernel
theorem d_P_advance_1 : decode b_P_advance 1 = .ok (.getfield 20, 3) := by decide +kernel
theorem d_P_advance_4 : decode b_P_advance 4 = .ok (.iload_n 1, 1) := by decide +kernel
theorem d_P_advance_5 : decode b_P_advance 5 = .ok (.iaload, 1) := by decide +kernel
theorem d_P_advance_6 : decode b_P_advance 6 = .ok (.istore_n 3, 1) := by decide +kernel
theorem d_P_advance_7 : decode b_P_advance 7 = .ok (.iconst (-1), 1) := by decide +kernel
theorem d_P_advance_8 : decode b_P_advance 8 = .ok (.istore 4, 2) := by decide +kernel
theorem d_P_advance_10 : decode b_P_advance 10 = .ok (.aload_n 0, 1) := by decide +kernel
theorem d_P_advance_11 : decode b_P_advance 11 = .ok (.getfield 26, 3) := by decide +kernel
theorem d_P_advance_14 : decode b_P_advance 14 = .ok (.iload_n 3, 1) := by decide +kernel
theorem d_P_advance_15 : decode b_P_advance 15 = .ok (.iaload, 1) := by decide +kernel
theorem d_P_advance_16 : decode b_P_advance 16 = .ok (.aload_n 0, 1) := by decide +kernel
theorem d_P_advance_17 : decode b_P_advance 17 = .ok (.getfield 23, 3) := by decide +kernel
theorem d_P_advance_20 : decode b_P_advance 20 = .ok (.iload_n 3, 1) := by decide +kernel
theorem d_P_advance_21 : decode b_P_advance 21 = .ok (.iaload, 1) := by decide +kernel
theorem d_P_advance_22 : decode b_P_advance 22 = .ok (.isub, 1) := by decide +kernel
theorem d_P_advance_23 : decode b_P_advance 23 = .ok (.i2l, 1) := by decide +kernel
theorem d_P_advance_24 : decode b_P_advance 24 = .ok (.lstore 5, 2) := by decide +kernel
theorem d_P_advance_26 : decode b_P_advance 26 = .ok (.lconst 1, 1) := by decide +kernel
theorem d_P_advance_27 : decode b_P_advance 27 = .ok (.lstore 7, 2) := by decide +kernel
theorem d_P_advance_29 : decode b_P_advance 29 = .ok (.iconst 0, 1) := by decide +kernel
theorem d_P_advance_30 : decode b_P_advance 30 = .ok (.istore 9, 2) := by decide +kernel
theorem d_P_advance_32 : decode b_P_advance 32 = .ok (.iload 9, 2) := by decide +kernel
theorem d_P_advance_34 : decode b_P_advance 34 = .ok (.aload_n 0, 1) := by decide +kernel
theorem d_P_advance_35 : decode b_P_advance 35 = .ok (.getfield 36, 3) := by decide +kernel
theorem d_P_advance_38 : decode b_P_advance 38 = .ok (.if_icmp .ge 159, 3) := by decide +kernel
theorem d_P_advance_41 : decode b_P_advance 41 = .ok (.iload_n 2, 1) := by decide +kernel
theorem d_P_advance_42 : decode b_P_advance 42 = .ok (.ifCond .eq 15, 3) := by decide +kernel
theorem d_P_advance_45 : decode b_P_advance 45 = .ok (.aload_n 0, 1) := by decide +kernel
theorem d_P_advance_46 : decode b_P_advance 46 = .ok (.getfield 11, 3) := by decide +kernel
theorem d_P_advance_49 : decode b_P_advance 49 = .ok (.iload 9, 2) := by decide +kernel
theorem d_P_advance_51 : decode b_P_advance 51 = .ok (.aaload, 1) := by decide +kernel
theorem d_P_advance_52 : decode b_P_advance 52 = .ok (.iload_n 1, 1) := by decide +kernel
theorem d_P_advance_53 : decode b_P_advance 53 = .ok (.laload, 1) := by decide +kernel
theorem d_P_advance_54 : decode b_P_advance 54 = .ok (.goto 13, 3) := by decide +kernel
theorem d_P_advance_57 : decode b_P_advance 57 = .ok (.aload_n 0, 1) := by decide +kernel
theorem d_P_advance_58 : decode b_P_advance 58 = .ok (.getfield 11, 3) := by decide +kernel
theorem d_P_advance_61 : decode b_P_advance 61 = .ok (.iload 9, 2) := by decide +kernel
theorem d_P_advance_63 : decode b_P_advance 63 = .ok (.aaload, 1) := by decide +kernel
theorem d_P_advance_64 : decode b_P_advance 64 = .ok (.iload_n 1, 1) := by decide +kernel
theorem d_P_advance_65 : decode b_P_advance 65 = .ok (.laload, 1) := by decide +kernel
theorem d_P_advance_66 : decode b_P_advance 66 = .ok (.lneg, 1) := by decide +kernel
theorem d_P_advance_67 : decode b_P_advance 67 = .ok (.lstore 10, 2) := by decide +kernel
theorem d_P_advance_69 : decode b_P_advance 69 = .ok (.lload 10, 2) := by decide +kernel
theorem d_P_advance_71 : decode b_P_advance 71 = .ok (.lconst 0, 1) := by decide +kernel
theorem d_P_advance_72 : decode b_P_advance 72 = .ok (.lcmp, 1) := by decide +kernel
theorem d_P_advance_73 : decode b_P_advance 73 = .ok (.ifCond .eq 118, 3) := by decide +kernel
theorem d_P_advance_76 : decode b_P_advance 76 = .ok (.aload_n 0, 1) := by decide +kernel
theorem d_P_advance_77 : decode b_P_advance 77 = .ok (.getfield 16, 3) := by decide +kernel
theorem d_P_advance_80 : decode b_P_advance 80 = .ok (.iload 9, 2) := by decide +kernel
theorem d_P_advance_82 : decode b_P_advance 82 = .ok (.iaload, 1) := by decide +kernel
theorem d_P_advance_83 : decode b_P_advance 83 = .ok (.bipush 15, 2) := by decide +kernel
theorem d_P_advance_85 : decode b_P_advance 85 = .ok (.if_icmp .ne 6, 3) := by decide +kernel
theorem d_P_advance_88 : decode b_P_advance 88 = .ok (.goto 103, 3) := by decide +kernel
theorem d_P_advance_91 : decode b_P_advance 91 = .ok (.aload_n 0, 1) := by decide +kernel
theorem d_P_advance_92 : decode b_P_advance 92 = .ok (.iload 9, 2) := by decide +kernel
theorem d_P_advance_94 : decode b_P_advance 94 = .ok (.lload 10, 2) := by decide +kernel
theorem d_P_advance_96 : decode b_P_advance 96 = .ok (.lconst 0, 1) := by decide +kernel
theorem d_P_advance_97 : decode b_P_advance 97 = .ok (.lcmp, 1) := by decide +kernel
theorem d_P_advance_98 : decode b_P_advance 98 = .ok (.ifCond .le 7, 3) := by decide +kernel
theorem d_P_advance_101 : decode b_P_advance 101 = .ok (.iconst 1, 1) := by decide +kernel
theorem d_P_advance_102 : decode b_P_advance 102 = .ok (.goto 4, 3) := by decide +kernel
theorem d_P_advance_105 : decode b_P_advance 105 = .ok (.iconst 0, 1) := by decide +kernel
theorem d_P_advance_106 : decode b_P_advance 106 = .ok (.invokevirtual 114, 3) := by decide +kernel
theorem d_P_advance_109 : decode b_P_advance 109 = .ok (.lstore 12, 2) := by decide +kernel
theorem d_P_advance_111 : decode b_P_advance 111 = .ok (.lload 10, 2) := by decide +kernel
theorem d_P_advance_113 : decode b_P_advance 113 = .ok (.invokestatic 118, 3) := by decide +kernel
theorem d_P_advance_116 : decode b_P_advance 116 = .ok (.lstore 14, 2) := by decide +kernel
theorem d_P_advance_118 : decode b_P_advance 118 = .ok (.lload 12, 2) := by decide +kernel
theorem d_P_advance_120 : decode b_P_advance 120 = .ok (.lload 7, 2) := by decide +kernel
theorem d_P_advance_122 : decode b_P_advance 122 = .ok (.lmul, 1) := by decide +kernel
theorem d_P_advance_123 : decode b_P_advance 123 = .ok (.lload 5, 2) := by decide +kernel
theorem d_P_advance_125 : decode b_P_advance 125 = .ok (.lload 14, 2) := by decide +kernel
theorem d_P_advance_127 : decode b_P_advance 127 = .ok (.lmul, 1) := by decide +kernel
theorem d_P_advance_128 : decode b_P_advance 128 = .ok (.lsub, 1) := by decide +kernel
theorem d_P_advance_129 : decode b_P_advance 129 = .ok (.lstore 16, 2) := by decide +kernel
theorem d_P_advance_131 : decode b_P_advance 131 = .ok (.iload 4, 2) := by decide +kernel
theorem d_P_advance_133 : decode b_P_advance 133 = .ok (.ifCond .lt 24, 3) := by decide +kernel
theorem d_P_advance_136 : decode b_P_advance 136 = .ok (.aload_n 0, 1) := by decide +kernel
theorem d_P_advance_137 : decode b_P_advance 137 = .ok (.getfield 16, 3) := by decide +kernel
theorem d_P_advance_140 : decode b_P_advance 140 = .ok (.iload 9, 2) := by decide +kernel
theorem d_P_advance_142 : decode b_P_advance 142 = .ok (.iaload, 1) := by decide +kernel
theorem d_P_advance_143 : decode b_P_advance 143 = .ok (.aload_n 0, 1) := by decide +kernel
theorem d_P_advance_144 : decode b_P_advance 144 = .ok (.getfield 16, 3) := by decide +kernel
theorem d_P_advance_147 : decode b_P_advance 147 = .ok (.iload 4, 2) := by decide +kernel
theorem d_P_advance_149 : decode b_P_advance 149 = .ok (.iaload, 1) := by decide +kernel
theorem d_P_advance_150 : decode b_P_advance 150 = .ok (.if_icmp .ge 7, 3) := by decide +kernel
theorem d_P_advance_153 : decode b_P_advance 153 = .ok (.iconst 1, 1) := by decide +kernel
theorem d_P_advance_154 : decode b_P_advance 154 = .ok (.goto 4, 3) := by decide +kernel
theorem d_P_advance_157 : decode b_P_advance 157 = .ok (.iconst 0, 1) := by decide +kernel
theorem d_P_advance_158 : decode b_P_advance 158 = .ok (.istore 18, 2) := by decide +kernel
theorem d_P_advance_160 : decode b_P_advance 160 = .ok (.lload 16, 2) := by decide +kernel
theorem d_P_advance_162 : decode b_P_advance 162 = .ok (.lconst 0, 1) := by decide +kernel
theorem d_P_advance_163 : decode b_P_advance 163 = .ok (.lcmp, 1) := by decide +kernel
theorem d_P_advance_164 : decode b_P_advance 164 = .ok (.ifCond .lt 15, 3) := by decide +kernel
theorem d_P_advance_167 : decode b_P_advance 167 = .ok (.lload 16, 2) := by decide +kernel
theorem d_P_advance_169 : decode b_P_advance 169 = .ok (.lconst 0, 1) := by decide +kernel
theorem d_P_advance_170 : decode b_P_advance 170 = .ok (.lcmp, 1) := by decide +kernel
theorem d_P_advance_171 : decode b_P_advance 171 = .ok (.ifCond .ne 20, 3) := by decide +kernel
theorem d_P_advance_174 : decode b_P_advance 174 = .ok (.iload 18, 2) := by decide +kernel
theorem d_P_advance_176 : decode b_P_advance 176 = .ok (.ifCond .eq 15, 3) := by decide +kernel
theorem d_P_advance_179 : decode b_P_advance 179 = .ok (.iload 9, 2) := by decide +kernel
theorem d_P_advance_181 : decode b_P_advance 181 = .ok (.istore 4, 2) := by decide +kernel
theorem d_P_advance_183 : decode b_P_advance 183 = .ok (.lload 12, 2) := by decide +kernel
theorem d_P_advance_185 : decode b_P_advance 185 = .ok (.lstore 5, 2) := by decide +kernel
theorem d_P_advance_187 : decode b_P_advance 187 = .ok (.lload 14, 2) := by decide +kernel
theorem d_P_advance_189 : decode b_P_advance 189 = .ok (.lstore 7, 2) := by decide +kernel
theorem d_P_advance_191 : decode b_P_advance 191 = .ok (.iinc 9 1, 3) := by decide +kernel
theorem d_P_advance_194 : decode b_P_advance 194 = .ok (.goto (-162), 3) := by decide +kernel
theorem d_P_advance_197 : decode b_P_advance 197 = .ok (.iload 4, 2) := by decide +kernel
theorem d_P_advance_199 : decode b_P_advance 199 = .ok (.ifCond .ge 29, 3) := by decide +kernel
theorem d_P_advance_202 : decode b_P_advance 202 = .ok (.aload_n 0, 1) := by decide +kernel
theorem d_P_advance_203 : decode b_P_advance 203 = .ok (.getfield 29, 3) := by decide +kernel
theorem d_P_advance_206 : decode b_P_advance 206 = .ok (.iload_n 3, 1) := by decide +kernel
theorem d_P_advance_207 : decode b_P_advance 207 = .ok (.iload_n 2, 1) := by decide +kernel
theorem d_P_advance_208 : decode b_P_advance 208 = .ok (.ifCond .eq 12, 3) := by decide +kernel
theorem d_P_advance_211 : decode b_P_advance 211 = .ok (.aload_n 0, 1) := by decide +kernel
theorem d_P_advance_212 : decode b_P_advance 212 = .ok (.getfield 26, 3) := by decide +kernel
theorem d_P_advance_215 : decode b_P_advance 215 = .ok (.iload_n 3, 1) := by decide +kernel
theorem d_P_advance_216 : decode b_P_advance 216 = .ok (.iaload, 1) := by decide +kernel
theorem d_P_advance_217 : decode b_P_advance 217 = .ok (.goto 9, 3) := by decide +kernel
theorem d_P_advance_220 : decode b_P_advance 220 = .ok (.aload_n 0, 1) := by decide +kernel
theorem d_P_advance_221 : decode b_P_advance 221 = .ok (.getfield 23, 3) := by decide +kernel
theorem d_P_advance_224 : decode b_P_advance 224 = .ok (.iload_n 3, 1) := by decide +kernel
theorem d_P_advance_225 : decode b_P_advance 225 = .ok (.iaload, 1) := by decide +kernel
theorem d_P_advance_226 : decode b_P_advance 226 = .ok (.iastore, 1) := by decide +kernel
theorem d_P_advance_227 : decode b_P_advance 227 = .ok (.return_, 1) := by decide +kernel
theorem d_P_advance_228 : decode b_P_advance 228 = .ok (.aload_n 0, 1) := by decide +kernel
theorem d_P_advance_229 : decode b_P_advance 229 = .ok (.getfield 16, 3) := by decide +kernel
theorem d_P_advance_232 : decode b_P_advance 232 = .ok (.iload 4, 2) := by decide +kernel
theorem d_P_advance_234 : decode b_P_advance 234 = .ok (.iaload, 1) := by decide +kernel
theorem d_P_advance_235 : decode b_P_advance 235 = .ok (.istore 9, 2) := by decide +kernel
theorem d_P_advance_237 : decode b_P_advance 237 = .ok (.iload_n 2, 1) := by decide +kernel
theorem d_P_advance_238 : decode b_P_advance 238 = .ok (.aload_n 0, 1) := by decide +kernel
theorem d_P_advance_239 : decode b_P_advance 239 = .ok (.getfield 11, 3) := by decide +kernel
theorem d_P_advance_242 : decode b_P_advance 242 = .ok (.iload 4, 2) := by decide +kernel
theorem d_P_advance_244 : decode b_P_advance 244 = .ok (.aaload, 1) := by decide +kernel
theorem d_P_advance_245 : decode b_P_advance 245 = .ok (.iload_n 1, 1) := by decide +kernel
theorem d_P_advance_246 : decode b_P_advance 246 = .ok (.laload, 1) := by decide +kernel
theorem d_P_advance_247 : decode b_P_advance 247 = .ok (.lconst 0, 1) := by decide +kernel
theorem d_P_advance_248 : decode b_P_advance 248 = .ok (.lcmp, 1) := by decide +kernel
theorem d_P_advance_249 : decode b_P_advance 249 = .ok (.ifCond .le 7, 3) := by decide +kernel
theorem d_P_advance_252 : decode b_P_advance 252 = .ok (.iconst 1, 1) := by decide +kernel
theorem d_P_advance_253 : decode b_P_advance 253 = .ok (.goto 4, 3) := by decide +kernel
theorem d_P_advance_256 : decode b_P_advance 256 = .ok (.iconst 0, 1) := by decide +kernel
theorem d_P_advance_257 : decode b_P_advance 257 = .ok (.if_icmp .ne 7, 3) := by decide +kernel
theorem d_P_advance_260 : decode b_P_advance 260 = .ok (.iconst 1, 1) := by decide +kernel
theorem d_P_advance_261 : decode b_P_advance 261 = .ok (.goto 4, 3) := by decide +kernel
theorem d_P_advance_264 : decode b_P_advance 264 = .ok (.iconst 0, 1) := by decide +kernel
theorem d_P_advance_265 : decode b_P_advance 265 = .ok (.istore 10, 2) := by decide +kernel
theorem d_P_advance_267 : decode b_P_advance 267 = .ok (.aload_n 0, 1) := by decide +kernel
theorem d_P_advance_268 : decode b_P_advance 268 = .ok (.getfield 29, 3) := by decide +kernel
theorem d_P_advance_271 : decode b_P_advance 271 = .ok (.iload 9, 2) := by decide +kernel
theorem d_P_advance_273 : decode b_P_advance 273 = .ok (.iload 10, 2) := by decide +kernel
theorem d_P_advance_275 : decode b_P_advance 275 = .ok (.ifCond .eq 13, 3) := by decide +kernel
theorem d_P_advance_278 : decode b_P_advance 278 = .ok (.aload_n 0, 1) := by decide +kernel
theorem d_P_advance_279 : decode b_P_advance 279 = .ok (.getfield 26, 3) := by decide +kernel
theorem d_P_advance_282 : decode b_P_advance 282 = .ok (.iload 9, 2) := by decide +kernel
theorem d_P_advance_284 : decode b_P_advance 284 = .ok (.iaload, 1) := by decide +kernel
theorem d_P_advance_285 : decode b_P_advance 285 = .ok (.goto 10, 3) := by decide +kernel
theorem d_P_advance_288 : decode b_P_advance 288 = .ok (.aload_n 0, 1) := by decide +kernel
theorem d_P_advance_289 : decode b_P_advance 289 = .ok (.getfield 23, 3) := by decide +kernel
theorem d_P_advance_292 : decode b_P_advance 292 = .ok (.iload 9, 2) := by decide +kernel
theorem d_P_advance_294 : decode b_P_advance 294 = .ok (.iaload, 1) := by decide +kernel
theorem d_P_advance_295 : decode b_P_advance 295 = .ok (.iastore, 1) := by decide +kernel
theorem d_P_advance_296 : decode b_P_advance 296 = .ok (.aload_n 0, 1) := by decide +kernel
theorem d_P_advance_297 : decode b_P_advance 297 = .ok (.iload 4, 2) := by decide +kernel
theorem d_P_advance_299 : decode b_P_advance 299 = .ok (.iload_n 1, 1) := by decide +kernel
theorem d_P_advance_300 : decode b_P_advance 300 = .ok (.invokevirtual 124, 3) := by decide +kernel
theorem d_P_advance_303 : decode b_P_advance 303 = .ok (.return_, 1) := by decide +kernel
theorem d_P_roomOf_0 : decode b_P_roomOf 0 = .ok (.aload_n 0, 1) := by decide +kernel
theorem d_P_roomOf_1 : decode b_P_roomOf 1 = .ok (.getfield 16, 3) := by decide +kernel
theorem d_P_roomOf_4 : decode b_P_roomOf 4 = .ok (.iload_n 1, 1) := by decide +kernel
theorem d_P_roomOf_5 : decode b_P_roomOf 5 = .ok (.iaload, 1) := by decide +kernel
theorem d_P_roomOf_6 : decode b_P_roomOf 6 = .ok (.istore_n 3, 1) := by decide +kernel
theorem d_P_roomOf_7 : decode b_P_roomOf 7 = .ok (.aload_n 0, 1) := by decide +kernel
theorem d_P_roomOf_8 : decode b_P_roomOf 8 = .ok (.iload_n 1, 1) := by decide +kernel
theorem d_P_roomOf_9 : decode b_P_roomOf 9 = .ok (.invokevirtual 106, 3) := by decide +kernel
theorem d_P_roomOf_12 : decode b_P_roomOf 12 = .ok (.lstore 4, 2) := by decide +kernel
theorem d_P_roomOf_14 : decode b_P_roomOf 14 = .ok (.iload_n 2, 1) := by decide +kernel
theorem d_P_roomOf_15 : decode b_P_roomOf 15 = .ok (.ifCond .eq 21, 3) := by decide +kernel
theorem d_P_roomOf_18 : decode b_P_roomOf 18 = .ok (.aload_n 0, 1) := by decide +kernel
theorem d_P_roomOf_19 : decode b_P_roomOf 19 = .ok (.getfield 26, 3) := by decide +kernel
theorem d_P_roomOf_22 : decode b_P_roomOf 22 = .ok (.iload_n 3, 1) := by decide +kernel
theorem d_P_roomOf_23 : decode b_P_roomOf 23 = .ok (.iaload, 1) := by decide +kernel
theorem d_P_roomOf_24 : decode b_P_roomOf 24 = .ok (.i2l, 1) := by decide +kernel
theorem d_P_roomOf_25 : decode b_P_roomOf 25 = .ok (.aload_n 0, 1) := by decide +kernel
theorem d_P_roomOf_26 : decode b_P_roomOf 26 = .ok (.getfield 43, 3) := by decide +kernel
theorem d_P_roomOf_29 : decode b_P_roomOf 29 = .ok (.lmul, 1) := by decide +kernel
theorem d_P_roomOf_30 : decode b_P_roomOf 30 = .ok (.lload 4, 2) := by decide +kernel
theorem d_P_roomOf_32 : decode b_P_roomOf 32 = .ok (.lsub, 1) := by decide +kernel
theorem d_P_roomOf_33 : decode b_P_roomOf 33 = .ok (.goto 18, 3) := by decide +kernel
theorem d_P_roomOf_36 : decode b_P_roomOf 36 = .ok (.lload 4, 2) := by decide +kernel
theorem d_P_roomOf_38 : decode b_P_roomOf 38 = .ok (.aload_n 0, 1) := by decide +kernel
theorem d_P_roomOf_39 : decode b_P_roomOf 39 = .ok (.getfield 23, 3) := by decide +kernel
theorem d_P_roomOf_42 : decode b_P_roomOf 42 = .ok (.iload_n 3, 1) := by decide +kernel
theorem d_P_roomOf_43 : decode b_P_roomOf 43 = .ok (.iaload, 1) := by decide +kernel
theorem d_P_roomOf_44 : decode b_P_roomOf 44 = .ok (.i2l, 1) := by decide +kernel
theorem d_P_roomOf_45 : decode b_P_roomOf 45 = .ok (.aload_n 0, 1) := by decide +kernel
theorem d_P_roomOf_46 : decode b_P_roomOf 46 = .ok (.getfield 43, 3) := by decide +kernel
theorem d_P_roomOf_49 : decode b_P_roomOf 49 = .ok (.lmul, 1) := by decide +kernel
theorem d_P_roomOf_50 : decode b_P_roomOf 50 = .ok (.lsub, 1) := by decide +kernel
theorem d_P_roomOf_51 : decode b_P_roomOf 51 = .ok (.lreturn, 1) := by decide +kernel
theorem d_P_pivot_0 : decode b_P_pivot 0 = .ok (.aload_n 0, 1) := by decide +kernel
theorem d_P_pivot_1 : decode b_P_pivot 1 = .ok (.getfield 11, 3) := by decide +kernel
theorem d_P_pivot_4 : decode b_P_pivot 4 = .ok (.iload_n 1, 1) := by decide +kernel
theorem d_P_pivot_5 : decode b_P_pivot 5 = .ok (.aaload, 1) := by decide +kernel
theorem d_P_pivot_6 : decode b_P_pivot 6 = .ok (.iload_n 2, 1) := by decide +kernel
theorem d_P_pivot_7 : decode b_P_pivot 7 = .ok (.laload, 1) := by decide +kernel
theorem d_P_pivot_8 : decode b_P_pivot 8 = .ok (.lstore_n 3, 1) := by decide +kernel
theorem d_P_pivot_9 : decode b_P_pivot 9 = .ok (.lload_n 3, 1) := by decide +kernel
theorem d_P_pivot_10 : decode b_P_pivot 10 = .ok (.lconst 0, 1) := by decide +kernel
theorem d_P_pivot_11 : decode b_P_pivot 11 = .ok (.lcmp, 1) := by decide +kernel
theorem d_P_pivot_12 : decode b_P_pivot 12 = .ok (.ifCond .eq 12, 3) := by decide +kernel
theorem d_P_pivot_15 : decode b_P_pivot 15 = .ok (.aload_n 0, 1) := by decide +kernel
theorem d_P_pivot_16 : decode b_P_pivot 16 = .ok (.getfield 43, 3) := by decide +kernel
theorem d_P_pivot_19 : decode b_P_pivot 19 = .ok (.lconst 0, 1) := by decide +kernel
theorem d_P_pivot_20 : decode b_P_pivot 20 = .ok (.lcmp, 1) := by decide +kernel
theorem d_P_pivot_21 : decode b_P_pivot 21 = .ok (.ifCond .ne 4, 3) := by decide +kernel
theorem d_P_pivot_24 : decode b_P_pivot 24 = .ok (.return_, 1) := by decide +kernel
theorem d_P_pivot_25 : decode b_P_pivot 25 = .ok (.lload_n 3, 1) := by decide +kernel
theorem d_P_pivot_26 : decode b_P_pivot 26 = .ok (.lconst 0, 1) := by decide +kernel
theorem d_P_pivot_27 : decode b_P_pivot 27 = .ok (.lcmp, 1) := by decide +kernel
theorem d_P_pivot_28 : decode b_P_pivot 28 = .ok (.ifCond .le 7, 3) := by decide +kernel
theorem d_P_pivot_31 : decode b_P_pivot 31 = .ok (.lconst 1, 1) := by decide +kernel
theorem d_P_pivot_32 : decode b_P_pivot 32 = .ok (.goto 6, 3) := by decide +kernel
theorem d_P_pivot_35 : decode b_P_pivot 35 = .ok (.ldc2_w 127, 3) := by decide +kernel
theorem d_P_pivot_38 : decode b_P_pivot 38 = .ok (.lstore 5, 2) := by decide +kernel
theorem d_P_pivot_40 : decode b_P_pivot 40 = .ok (.iconst 0, 1) := by decide +kernel
theorem d_P_pivot_41 : decode b_P_pivot 41 = .ok (.istore 7, 2) := by decide +kernel
theorem d_P_pivot_43 : decode b_P_pivot 43 = .ok (.iload 7, 2) := by decide +kernel
theorem d_P_pivot_45 : decode b_P_pivot 45 = .ok (.aload_n 0, 1) := by decide +kernel
theorem d_P_pivot_46 : decode b_P_pivot 46 = .ok (.getfield 36, 3) := by decide +kernel
theorem d_P_pivot_49 : decode b_P_pivot 49 = .ok (.if_icmp .ge 23, 3) := by decide +kernel
theorem d_P_pivot_52 : decode b_P_pivot 52 = .ok (.iload 7, 2) := by decide +kernel
theorem d_P_pivot_54 : decode b_P_pivot 54 = .ok (.iload_n 1, 1) := by decide +kernel
theorem d_P_pivot_55 : decode b_P_pivot 55 = .ok (.if_icmp .eq 11, 3) := by decide +kernel
theorem d_P_pivot_58 : decode b_P_pivot 58 = .ok (.aload_n 0, 1) := by decide +kernel
theorem d_P_pivot_59 : decode b_P_pivot 59 = .ok (.iload 7, 2) := by decide +kernel
theorem d_P_pivot_61 : decode b_P_pivot 61 = .ok (.iload_n 1, 1) := by decide +kernel
theorem d_P_pivot_62 : decode b_P_pivot 62 = .ok (.iload_n 2, 1) := by decide +kernel
theorem d_P_pivot_63 : decode b_P_pivot 63 = .ok (.invokevirtual 129, 3) := by decide +kernel
theorem d_P_pivot_66 : decode b_P_pivot 66 = .ok (.iinc 7 1, 3) := by decide +kernel
theorem d_P_pivot_69 : decode b_P_pivot 69 = .ok (.goto (-26), 3) := by decide +kernel
theorem d_P_pivot_72 : decode b_P_pivot 72 = .ok (.iconst 0, 1) := by decide +kernel
theorem d_P_pivot_73 : decode b_P_pivot 73 = .ok (.istore 7, 2) := by decide +kernel
theorem d_P_pivot_75 : decode b_P_pivot 75 = .ok (.iload 7, 2) := by decide +kernel
theorem d_P_pivot_77 : decode b_P_pivot 77 = .ok (.aload_n 0, 1) := by decide +kernel
theorem d_P_pivot_78 : decode b_P_pivot 78 = .ok (.getfield 40, 3) := by decide +kernel
theorem d_P_pivot_81 : decode b_P_pivot 81 = .ok (.if_icmp .ge 47, 3) := by decide +kernel
theorem d_P_pivot_84 : decode b_P_pivot 84 = .ok (.aload_n 0, 1) := by decide +kernel
theorem d_P_pivot_85 : decode b_P_pivot 85 = .ok (.getfield 11, 3) := by decide +kernel
theorem d_P_pivot_88 : decode b_P_pivot 88 = .ok (.iload_n 1, 1) := by decide +kernel
theorem d_P_pivot_89 : decode b_P_pivot 89 = .ok (.aaload, 1) := by decide +kernel
theorem d_P_pivot_90 : decode b_P_pivot 90 = .ok (.iload 7, 2) := by decide +kernel
theorem d_P_pivot_92 : decode b_P_pivot 92 = .ok (.iload 7, 2) := by decide +kernel
theorem d_P_pivot_94 : decode b_P_pivot 94 = .ok (.iload_n 2, 1) := by decide +kernel
theorem d_P_pivot_95 : decode b_P_pivot 95 = .ok (.if_icmp .ne 13, 3) := by decide +kernel
theorem d_P_pivot_98 : decode b_P_pivot 98 = .ok (.lload 5, 2) := by decide +kernel
theorem d_P_pivot_100 : decode b_P_pivot 100 = .ok (.aload_n 0, 1) := by decide +kernel
theorem d_P_pivot_101 : decode b_P_pivot 101 = .ok (.getfield 43, 3) := by decide +kernel
theorem d_P_pivot_104 : decode b_P_pivot 104 = .ok (.lmul, 1) := by decide +kernel
theorem d_P_pivot_105 : decode b_P_pivot 105 = .ok (.goto 16, 3) := by decide +kernel
theorem d_P_pivot_108 : decode b_P_pivot 108 = .ok (.lload 5, 2) := by decide +kernel
theorem d_P_pivot_110 : decode b_P_pivot 110 = .ok (.lneg, 1) := by decide +kernel
theorem d_P_pivot_111 : decode b_P_pivot 111 = .ok (.aload_n 0, 1) := by decide +kernel
theorem d_P_pivot_112 : decode b_P_pivot 112 = .ok (.getfield 11, 3) := by decide +kernel
theorem d_P_pivot_115 : decode b_P_pivot 115 = .ok (.iload_n 1, 1) := by decide +kernel
theorem d_P_pivot_116 : decode b_P_pivot 116 = .ok (.aaload, 1) := by decide +kernel
theorem d_P_pivot_117 : decode b_P_pivot 117 = .ok (.iload 7, 2) := by decide +kernel
theorem d_P_pivot_119 : decode b_P_pivot 119 = .ok (.laload, 1) := by decide +kernel
theorem d_P_pivot_120 : decode b_P_pivot 120 = .ok (.lmul, 1) := by decide +kernel
theorem d_P_pivot_121 : decode b_P_pivot 121 = .ok (.lastore, 1) := by decide +kernel
theorem d_P_pivot_122 : decode b_P_pivot 122 = .ok (.iinc 7 1, 3) := by decide +kernel
theorem d_P_pivot_125 : decode b_P_pivot 125 = .ok (.goto (-50), 3) := by decide +kernel
theorem d_P_pivot_128 : decode b_P_pivot 128 = .ok (.aload_n 0, 1) := by decide +kernel
theorem d_P_pivot_129 : decode b_P_pivot 129 = .ok (.lload 5, 2) := by decide +kernel
theorem d_P_pivot_131 : decode b_P_pivot 131 = .ok (.lload_n 3, 1) := by decide +kernel
theorem d_P_pivot_132 : decode b_P_pivot 132 = .ok (.lmul, 1) := by decide +kernel
theorem d_P_pivot_133 : decode b_P_pivot 133 = .ok (.putfield 43, 3) := by decide +kernel
theorem d_P_pivot_136 : decode b_P_pivot 136 = .ok (.aload_n 0, 1) := by decide +kernel
theorem d_P_pivot_137 : decode b_P_pivot 137 = .ok (.getfield 16, 3) := by decide +kernel
theorem d_P_pivot_140 : decode b_P_pivot 140 = .ok (.iload_n 1, 1) := by decide +kernel
theorem d_P_pivot_141 : decode b_P_pivot 141 = .ok (.iaload, 1) := by decide +kernel
theorem d_P_pivot_142 : decode b_P_pivot 142 = .ok (.istore 7, 2) := by decide +kernel
theorem d_P_pivot_144 : decode b_P_pivot 144 = .ok (.aload_n 0, 1) := by decide +kernel
theorem d_P_pivot_145 : decode b_P_pivot 145 = .ok (.getfield 16, 3) := by decide +kernel
theorem d_P_pivot_148 : decode b_P_pivot 148 = .ok (.iload_n 1, 1) := by decide +kernel
theorem d_P_pivot_149 : decode b_P_pivot 149 = .ok (.aload_n 0, 1) := by decide +kernel
theorem d_P_pivot_150 : decode b_P_pivot 150 = .ok (.getfield 20, 3) := by decide +kernel
theorem d_P_pivot_153 : decode b_P_pivot 153 = .ok (.iload_n 2, 1) := by decide +kernel
theorem d_P_pivot_154 : decode b_P_pivot 154 = .ok (.iaload, 1) := by decide +kernel
theorem d_P_pivot_155 : decode b_P_pivot 155 = .ok (.iastore, 1) := by decide +kernel
theorem d_P_pivot_156 : decode b_P_pivot 156 = .ok (.aload_n 0, 1) := by decide +kernel
theorem d_P_pivot_157 : decode b_P_pivot 157 = .ok (.getfield 20, 3) := by decide +kernel
theorem d_P_pivot_160 : decode b_P_pivot 160 = .ok (.iload_n 2, 1) := by decide +kernel
theorem d_P_pivot_161 : decode b_P_pivot 161 = .ok (.iload 7, 2) := by decide +kernel
theorem d_P_pivot_163 : decode b_P_pivot 163 = .ok (.iastore, 1) := by decide +kernel
theorem d_P_pivot_164 : decode b_P_pivot 164 = .ok (.return_, 1) := by decide +kernel
theorem d_P_replaceRow_0 : decode b_P_replaceRow 0 = .ok (.aload_n 0, 1) := by decide +kernel
theorem d_P_replaceRow_1 : decode b_P_replaceRow 1 = .ok (.getfield 11, 3) := by decide +kernel
theorem d_P_replaceRow_4 : decode b_P_replaceRow 4 = .ok (.iload_n 2, 1) := by decide +kernel
theorem d_P_replaceRow_5 : decode b_P_replaceRow 5 = .ok (.aaload, 1) := by decide +kernel
theorem d_P_replaceRow_6 : decode b_P_replaceRow 6 = .ok (.iload_n 3, 1) := by decide +kernel
theorem d_P_replaceRow_7 : decode b_P_replaceRow 7 = .ok (.laload, 1) := by decide +kernel
theorem d_P_replaceRow_8 : decode b_P_replaceRow 8 = .ok (.lstore 4, 2) := by decide +kernel
theorem d_P_replaceRow_10 : decode b_P_replaceRow 10 = .ok (.lload 4, 2) := by decide +kernel
theorem d_P_replaceRow_12 : decode b_P_replaceRow 12 = .ok (.lconst 0, 1) := by decide +kernel
theorem d_P_replaceRow_13 : decode b_P_replaceRow 13 = .ok (.lcmp, 1) := by decide +kernel
theorem d_P_replaceRow_14 : decode b_P_replaceRow 14 = .ok (.ifCond .le 7, 3) := by decide +kernel
theorem d_P_replaceRow_17 : decode b_P_replaceRow 17 = .ok (.lconst 1, 1) := by decide +kernel
theorem d_P_replaceRow_18 : decode b_P_replaceRow 18 = .ok (.goto 6, 3) := by decide +kernel
theorem d_P_replaceRow_21 : decode b_P_replaceRow 21 = .ok (.ldc2_w 127, 3) := by decide +kernel
theorem d_P_replaceRow_24 : decode b_P_replaceRow 24 = .ok (.lstore 6, 2) := by decide +kernel
theorem d_P_replaceRow_26 : decode b_P_replaceRow 26 = .ok (.aload_n 0, 1) := by decide +kernel
theorem d_P_replaceRow_27 : decode b_P_replaceRow 27 = .ok (.getfield 11, 3) := by decide +kernel
theorem d_P_replaceRow_30 : decode b_P_replaceRow 30 = .ok (.iload_n 1, 1) := by decide +kernel
theorem d_P_replaceRow_31 : decode b_P_replaceRow 31 = .ok (.aaload, 1) := by decide +kernel
theorem d_P_replaceRow_32 : decode b_P_replaceRow 32 = .ok (.iload_n 3, 1) := by decide +kernel
theorem d_P_replaceRow_33 : decode b_P_replaceRow 33 = .ok (.laload, 1) := by decide +kernel
theorem d_P_replaceRow_34 : decode b_P_replaceRow 34 = .ok (.lstore 8, 2) := by decide +kernel
theorem d_P_replaceRow_36 : decode b_P_replaceRow 36 = .ok (.iconst 0, 1) := by decide +kernel
theorem d_P_replaceRow_37 : decode b_P_replaceRow 37 = .ok (.istore 10, 2) := by decide +kernel
theorem d_P_replaceRow_39 : decode b_P_replaceRow 39 = .ok (.iload 10, 2) := by decide +kernel
theorem d_P_replaceRow_41 : decode b_P_replaceRow 41 = .ok (.aload_n 0, 1) := by decide +kernel
theorem d_P_replaceRow_42 : decode b_P_replaceRow 42 = .ok (.getfield 40, 3) := by decide +kernel
theorem d_P_replaceRow_45 : decode b_P_replaceRow 45 = .ok (.if_icmp .ge 83, 3) := by decide +kernel
theorem d_P_replaceRow_48 : decode b_P_replaceRow 48 = .ok (.iload 10, 2) := by decide +kernel
theorem d_P_replaceRow_50 : decode b_P_replaceRow 50 = .ok (.iload_n 3, 1) := by decide +kernel
theorem d_P_replaceRow_51 : decode b_P_replaceRow 51 = .ok (.if_icmp .ne 20, 3) := by decide +kernel
theorem d_P_replaceRow_54 : decode b_P_replaceRow 54 = .ok (.aload_n 0, 1) := by decide +kernel
theorem d_P_replaceRow_55 : decode b_P_replaceRow 55 = .ok (.getfield 11, 3) := by decide +kernel
theorem d_P_replaceRow_58 : decode b_P_replaceRow 58 = .ok (.iload_n 1, 1) := by decide +kernel
theorem d_P_replaceRow_59 : decode b_P_replaceRow 59 = .ok (.aaload, 1) := by decide +kernel
theorem d_P_replaceRow_60 : decode b_P_replaceRow 60 = .ok (.iload 10, 2) := by decide +kernel
theorem d_P_replaceRow_62 : decode b_P_replaceRow 62 = .ok (.lload 6, 2) := by decide +kernel
theorem d_P_replaceRow_64 : decode b_P_replaceRow 64 = .ok (.lload 8, 2) := by decide +kernel
theorem d_P_replaceRow_66 : decode b_P_replaceRow 66 = .ok (.lmul, 1) := by decide +kernel
theorem d_P_replaceRow_67 : decode b_P_replaceRow 67 = .ok (.lastore, 1) := by decide +kernel
theorem d_P_replaceRow_68 : decode b_P_replaceRow 68 = .ok (.goto 54, 3) := by decide +kernel
theorem d_P_replaceRow_71 : decode b_P_replaceRow 71 = .ok (.aload_n 0, 1) := by decide +kernel
theorem d_P_replaceRow_72 : decode b_P_replaceRow 72 = .ok (.getfield 43, 3) := by decide +kernel
theorem d_P_replaceRow_75 : decode b_P_replaceRow 75 = .ok (.lconst 0, 1) := by decide +kernel
theorem d_P_replaceRow_76 : decode b_P_replaceRow 76 = .ok (.lcmp, 1) := by decide +kernel
theorem d_P_replaceRow_77 : decode b_P_replaceRow 77 = .ok (.ifCond .eq 45, 3) := by decide +kernel
theorem d_P_replaceRow_80 : decode b_P_replaceRow 80 = .ok (.aload_n 0, 1) := by decide +kernel
theorem d_P_replaceRow_81 : decode b_P_replaceRow 81 = .ok (.getfield 11, 3) := by decide +kernel
theorem d_P_replaceRow_84 : decode b_P_replaceRow 84 = .ok (.iload_n 1, 1) := by decide +kernel
theorem d_P_replaceRow_85 : decode b_P_replaceRow 85 = .ok (.aaload, 1) := by decide +kernel
theorem d_P_replaceRow_86 : decode b_P_replaceRow 86 = .ok (.iload 10, 2) := by decide +kernel
theorem d_P_replaceRow_88 : decode b_P_replaceRow 88 = .ok (.lload 6, 2) := by decide +kernel
theorem d_P_replaceRow_90 : decode b_P_replaceRow 90 = .ok (.aload_n 0, 1) := by decide +kernel
theorem d_P_replaceRow_91 : decode b_P_replaceRow 91 = .ok (.getfield 11, 3) := by decide +kernel
theorem d_P_replaceRow_94 : decode b_P_replaceRow 94 = .ok (.iload_n 1, 1) := by decide +kernel
theorem d_P_replaceRow_95 : decode b_P_replaceRow 95 = .ok (.aaload, 1) := by decide +kernel
theorem d_P_replaceRow_96 : decode b_P_replaceRow 96 = .ok (.iload 10, 2) := by decide +kernel
theorem d_P_replaceRow_98 : decode b_P_replaceRow 98 = .ok (.laload, 1) := by decide +kernel
theorem d_P_replaceRow_99 : decode b_P_replaceRow 99 = .ok (.lload 4, 2) := by decide +kernel
theorem d_P_replaceRow_101 : decode b_P_replaceRow 101 = .ok (.lmul, 1) := by decide +kernel
theorem d_P_replaceRow_102 : decode b_P_replaceRow 102 = .ok (.lload 8, 2) := by decide +kernel
theorem d_P_replaceRow_104 : decode b_P_replaceRow 104 = .ok (.aload_n 0, 1) := by decide +kernel
theorem d_P_replaceRow_105 : decode b_P_replaceRow 105 = .ok (.getfield 11, 3) := by decide +kernel
theorem d_P_replaceRow_108 : decode b_P_replaceRow 108 = .ok (.iload_n 2, 1) := by decide +kernel
theorem d_P_replaceRow_109 : decode b_P_replaceRow 109 = .ok (.aaload, 1) := by decide +kernel
theorem d_P_replaceRow_110 : decode b_P_replaceRow 110 = .ok (.iload 10, 2) := by decide +kernel
theorem d_P_replaceRow_112 : decode b_P_replaceRow 112 = .ok (.laload, 1) := by decide +kernel
theorem d_P_replaceRow_113 : decode b_P_replaceRow 113 = .ok (.lmul, 1) := by decide +kernel
theorem d_P_replaceRow_114 : decode b_P_replaceRow 114 = .ok (.lsub, 1) := by decide +kernel
theorem d_P_replaceRow_115 : decode b_P_replaceRow 115 = .ok (.lmul, 1) := by decide +kernel
theorem d_P_replaceRow_116 : decode b_P_replaceRow 116 = .ok (.aload_n 0, 1) := by decide +kernel
theorem d_P_replaceRow_117 : decode b_P_replaceRow 117 = .ok (.getfield 43, 3) := by decide +kernel
theorem d_P_replaceRow_120 : decode b_P_replaceRow 120 = .ok (.ldiv, 1) := by decide +kernel
theorem d_P_replaceRow_121 : decode b_P_replaceRow 121 = .ok (.lastore, 1) := by decide +kernel
theorem d_P_replaceRow_122 : decode b_P_replaceRow 122 = .ok (.iinc 10 1, 3) := by decide +kernel
theorem d_P_replaceRow_125 : decode b_P_replaceRow 125 = .ok (.goto (-86), 3) := by decide +kernel
theorem d_P_replaceRow_128 : decode b_P_replaceRow 128 = .ok (.return_, 1) := by decide +kernel
