theorem dM_reset_0 : decode bM_reset 0 = .ok (.aload_n 0, 1) := by decide +kernel
theorem dM_reset_1 : decode bM_reset 1 = .ok (.iconst (-1), 1) := by decide +kernel
theorem dM_reset_2 : decode bM_reset 2 = .ok (.putfield 27, 3) := by decide +kernel
theorem dM_reset_5 : decode bM_reset 5 = .ok (.aload_n 0, 1) := by decide +kernel
theorem dM_reset_6 : decode bM_reset 6 = .ok (.iconst 0, 1) := by decide +kernel
theorem dM_reset_7 : decode bM_reset 7 = .ok (.putfield 31, 3) := by decide +kernel
theorem dM_reset_10 : decode bM_reset 10 = .ok (.aload_n 0, 1) := by decide +kernel
theorem dM_reset_11 : decode bM_reset 11 = .ok (.iconst 0, 1) := by decide +kernel
theorem dM_reset_12 : decode bM_reset 12 = .ok (.putfield 34, 3) := by decide +kernel
theorem dM_reset_15 : decode bM_reset 15 = .ok (.aload_n 0, 1) := by decide +kernel
theorem dM_reset_16 : decode bM_reset 16 = .ok (.getfield 18, 3) := by decide +kernel
theorem dM_reset_19 : decode bM_reset 19 = .ok (.iconst 0, 1) := by decide +kernel
theorem dM_reset_20 : decode bM_reset 20 = .ok (.invokestatic 41, 3) := by decide +kernel
theorem dM_reset_23 : decode bM_reset 23 = .ok (.return_, 1) := by decide +kernel
theorem dM_isBegun_0 : decode bM_isBegun 0 = .ok (.aload_n 0, 1) := by decide +kernel
theorem dM_isBegun_1 : decode bM_isBegun 1 = .ok (.getfield 27, 3) := by decide +kernel
theorem dM_isBegun_4 : decode bM_isBegun 4 = .ok (.iconst (-1), 1) := by decide +kernel
theorem dM_isBegun_5 : decode bM_isBegun 5 = .ok (.if_icmp .eq 7, 3) := by decide +kernel
theorem dM_isBegun_8 : decode bM_isBegun 8 = .ok (.iconst 1, 1) := by decide +kernel
theorem dM_isBegun_9 : decode bM_isBegun 9 = .ok (.goto 4, 3) := by decide +kernel
theorem dM_isBegun_12 : decode bM_isBegun 12 = .ok (.iconst 0, 1) := by decide +kernel
theorem dM_isBegun_13 : decode bM_isBegun 13 = .ok (.ireturn, 1) := by decide +kernel
theorem dM_beginOver_0 : decode bM_beginOver 0 = .ok (.aload_n 0, 1) := by decide +kernel
theorem dM_beginOver_1 : decode bM_beginOver 1 = .ok (.iload_n 1, 1) := by decide +kernel
theorem dM_beginOver_2 : decode bM_beginOver 2 = .ok (.putfield 27, 3) := by decide +kernel
theorem dM_beginOver_5 : decode bM_beginOver 5 = .ok (.return_, 1) := by decide +kernel
theorem dM_typeOver_0 : decode bM_typeOver 0 = .ok (.aload_n 0, 1) := by decide +kernel
theorem dM_typeOver_1 : decode bM_typeOver 1 = .ok (.getfield 27, 3) := by decide +kernel
theorem dM_typeOver_4 : decode bM_typeOver 4 = .ok (.ireturn, 1) := by decide +kernel
theorem dM_hasRow_0 : decode bM_hasRow 0 = .ok (.iload_n 1, 1) := by decide +kernel
theorem dM_hasRow_1 : decode bM_hasRow 1 = .ok (.ifCond .lt 15, 3) := by decide +kernel
theorem dM_hasRow_4 : decode bM_hasRow 4 = .ok (.iload_n 1, 1) := by decide +kernel
theorem dM_hasRow_5 : decode bM_hasRow 5 = .ok (.aload_n 0, 1) := by decide +kernel
theorem dM_hasRow_6 : decode bM_hasRow 6 = .ok (.getfield 31, 3) := by decide +kernel
theorem dM_hasRow_9 : decode bM_hasRow 9 = .ok (.if_icmp .ge 7, 3) := by decide +kernel
theorem dM_hasRow_12 : decode bM_hasRow 12 = .ok (.iconst 1, 1) := by decide +kernel
theorem dM_hasRow_13 : decode bM_hasRow 13 = .ok (.goto 4, 3) := by decide +kernel
theorem dM_hasRow_16 : decode bM_hasRow 16 = .ok (.iconst 0, 1) := by decide +kernel
theorem dM_hasRow_17 : decode bM_hasRow 17 = .ok (.ireturn, 1) := by decide +kernel
theorem dM_layOut_0 : decode bM_layOut 0 = .ok (.iload_n 2, 1) := by decide +kernel
theorem dM_layOut_1 : decode bM_layOut 1 = .ok (.istore 5, 2) := by decide +kernel
theorem dM_layOut_3 : decode bM_layOut 3 = .ok (.iload_n 3, 1) := by decide +kernel
theorem dM_layOut_4 : decode bM_layOut 4 = .ok (.istore 6, 2) := by decide +kernel
theorem dM_layOut_6 : decode bM_layOut 6 = .ok (.iconst 0, 1) := by decide +kernel
theorem dM_layOut_7 : decode bM_layOut 7 = .ok (.istore 7, 2) := by decide +kernel
theorem dM_layOut_9 : decode bM_layOut 9 = .ok (.iload 7, 2) := by decide +kernel
theorem dM_layOut_11 : decode bM_layOut 11 = .ok (.bipush 8, 2) := by decide +kernel
theorem dM_layOut_13 : decode bM_layOut 13 = .ok (.if_icmp .ge 98, 3) := by decide +kernel
theorem dM_layOut_16 : decode bM_layOut 16 = .ok (.aload_n 0, 1) := by decide +kernel
theorem dM_layOut_17 : decode bM_layOut 17 = .ok (.getfield 37, 3) := by decide +kernel
theorem dM_layOut_20 : decode bM_layOut 20 = .ok (.iload 5, 2) := by decide +kernel
theorem dM_layOut_22 : decode bM_layOut 22 = .ok (.invokevirtual 57, 3) := by decide +kernel
theorem dM_layOut_25 : decode bM_layOut 25 = .ok (.ifCond .eq 86, 3) := by decide +kernel
theorem dM_layOut_28 : decode bM_layOut 28 = .ok (.aload_n 0, 1) := by decide +kernel
theorem dM_layOut_29 : decode bM_layOut 29 = .ok (.getfield 37, 3) := by decide +kernel
theorem dM_layOut_32 : decode bM_layOut 32 = .ok (.aload_n 0, 1) := by decide +kernel
theorem dM_layOut_33 : decode bM_layOut 33 = .ok (.getfield 37, 3) := by decide +kernel
theorem dM_layOut_36 : decode bM_layOut 36 = .ok (.iload 5, 2) := by decide +kernel
theorem dM_layOut_38 : decode bM_layOut 38 = .ok (.invokevirtual 61, 3) := by decide +kernel
theorem dM_layOut_41 : decode bM_layOut 41 = .ok (.invokevirtual 47, 3) := by decide +kernel
theorem dM_layOut_44 : decode bM_layOut 44 = .ok (.istore 8, 2) := by decide +kernel
theorem dM_layOut_46 : decode bM_layOut 46 = .ok (.iload 6, 2) := by decide +kernel
theorem dM_layOut_48 : decode bM_layOut 48 = .ok (.iload 8, 2) := by decide +kernel
theorem dM_layOut_50 : decode bM_layOut 50 = .ok (.if_icmp .ge 7, 3) := by decide +kernel
theorem dM_layOut_53 : decode bM_layOut 53 = .ok (.iconst 1, 1) := by decide +kernel
theorem dM_layOut_54 : decode bM_layOut 54 = .ok (.goto 4, 3) := by decide +kernel
theorem dM_layOut_57 : decode bM_layOut 57 = .ok (.iconst 0, 1) := by decide +kernel
theorem dM_layOut_58 : decode bM_layOut 58 = .ok (.istore 9, 2) := by decide +kernel
theorem dM_layOut_60 : decode bM_layOut 60 = .ok (.iload 9, 2) := by decide +kernel
theorem dM_layOut_62 : decode bM_layOut 62 = .ok (.ifCond .eq 8, 3) := by decide +kernel
theorem dM_layOut_65 : decode bM_layOut 65 = .ok (.iload 6, 2) := by decide +kernel
theorem dM_layOut_67 : decode bM_layOut 67 = .ok (.goto 8, 3) := by decide +kernel
theorem dM_layOut_70 : decode bM_layOut 70 = .ok (.iload 6, 2) := by decide +kernel
theorem dM_layOut_72 : decode bM_layOut 72 = .ok (.iload 8, 2) := by decide +kernel
theorem dM_layOut_74 : decode bM_layOut 74 = .ok (.isub, 1) := by decide +kernel
theorem dM_layOut_75 : decode bM_layOut 75 = .ok (.istore 6, 2) := by decide +kernel
theorem dM_layOut_77 : decode bM_layOut 77 = .ok (.iload 9, 2) := by decide +kernel
theorem dM_layOut_79 : decode bM_layOut 79 = .ok (.ifCond .eq 15, 3) := by decide +kernel
theorem dM_layOut_82 : decode bM_layOut 82 = .ok (.aload_n 0, 1) := by decide +kernel
theorem dM_layOut_83 : decode bM_layOut 83 = .ok (.getfield 37, 3) := by decide +kernel
theorem dM_layOut_86 : decode bM_layOut 86 = .ok (.iload 5, 2) := by decide +kernel
theorem dM_layOut_88 : decode bM_layOut 88 = .ok (.invokevirtual 61, 3) := by decide +kernel
theorem dM_layOut_91 : decode bM_layOut 91 = .ok (.goto 12, 3) := by decide +kernel
theorem dM_layOut_94 : decode bM_layOut 94 = .ok (.aload_n 0, 1) := by decide +kernel
theorem dM_layOut_95 : decode bM_layOut 95 = .ok (.getfield 37, 3) := by decide +kernel
theorem dM_layOut_98 : decode bM_layOut 98 = .ok (.iload 5, 2) := by decide +kernel
theorem dM_layOut_100 : decode bM_layOut 100 = .ok (.invokevirtual 64, 3) := by decide +kernel
theorem dM_layOut_103 : decode bM_layOut 103 = .ok (.istore 5, 2) := by decide +kernel
theorem dM_layOut_105 : decode bM_layOut 105 = .ok (.iinc 7 1, 3) := by decide +kernel
theorem dM_layOut_108 : decode bM_layOut 108 = .ok (.goto (-99), 3) := by decide +kernel
theorem dM_layOut_111 : decode bM_layOut 111 = .ok (.iload 4, 2) := by decide +kernel
theorem dM_layOut_113 : decode bM_layOut 113 = .ok (.bipush 16, 2) := by decide +kernel
theorem dM_layOut_115 : decode bM_layOut 115 = .ok (.if_icmp .ge 27, 3) := by decide +kernel
theorem dM_layOut_118 : decode bM_layOut 118 = .ok (.aload_n 0, 1) := by decide +kernel
theorem dM_layOut_119 : decode bM_layOut 119 = .ok (.getfield 37, 3) := by decide +kernel
theorem dM_layOut_122 : decode bM_layOut 122 = .ok (.iload 5, 2) := by decide +kernel
theorem dM_layOut_124 : decode bM_layOut 124 = .ok (.invokevirtual 67, 3) := by decide +kernel
theorem dM_layOut_127 : decode bM_layOut 127 = .ok (.ifCond .eq 15, 3) := by decide +kernel
theorem dM_layOut_130 : decode bM_layOut 130 = .ok (.aload_n 0, 1) := by decide +kernel
theorem dM_layOut_131 : decode bM_layOut 131 = .ok (.getfield 37, 3) := by decide +kernel
theorem dM_layOut_134 : decode bM_layOut 134 = .ok (.iload 5, 2) := by decide +kernel
theorem dM_layOut_136 : decode bM_layOut 136 = .ok (.invokevirtual 70, 3) := by decide +kernel
theorem dM_layOut_139 : decode bM_layOut 139 = .ok (.ifCond .eq 4, 3) := by decide +kernel
theorem dM_layOut_142 : decode bM_layOut 142 = .ok (.return_, 1) := by decide +kernel
theorem dM_layOut_143 : decode bM_layOut 143 = .ok (.aload_n 0, 1) := by decide +kernel
theorem dM_layOut_144 : decode bM_layOut 144 = .ok (.getfield 18, 3) := by decide +kernel
theorem dM_layOut_147 : decode bM_layOut 147 = .ok (.iload 4, 2) := by decide +kernel
theorem dM_layOut_149 : decode bM_layOut 149 = .ok (.dup2, 1) := by decide +kernel
theorem dM_layOut_150 : decode bM_layOut 150 = .ok (.iaload, 1) := by decide +kernel
theorem dM_layOut_151 : decode bM_layOut 151 = .ok (.iconst 1, 1) := by decide +kernel
theorem dM_layOut_152 : decode bM_layOut 152 = .ok (.iload_n 1, 1) := by decide +kernel
theorem dM_layOut_153 : decode bM_layOut 153 = .ok (.ishl, 1) := by decide +kernel
theorem dM_layOut_154 : decode bM_layOut 154 = .ok (.ior, 1) := by decide +kernel
theorem dM_layOut_155 : decode bM_layOut 155 = .ok (.iastore, 1) := by decide +kernel
theorem dM_layOut_156 : decode bM_layOut 156 = .ok (.aload_n 0, 1) := by decide +kernel
theorem dM_layOut_157 : decode bM_layOut 157 = .ok (.getfield 21, 3) := by decide +kernel
theorem dM_layOut_160 : decode bM_layOut 160 = .ok (.iload 4, 2) := by decide +kernel
theorem dM_layOut_162 : decode bM_layOut 162 = .ok (.bipush 16, 2) := by decide +kernel
theorem dM_layOut_164 : decode bM_layOut 164 = .ok (.imul, 1) := by decide +kernel
theorem dM_layOut_165 : decode bM_layOut 165 = .ok (.iload_n 1, 1) := by decide +kernel
theorem dM_layOut_166 : decode bM_layOut 166 = .ok (.iadd, 1) := by decide +kernel
theorem dM_layOut_167 : decode bM_layOut 167 = .ok (.aload_n 0, 1) := by decide +kernel
theorem dM_layOut_168 : decode bM_layOut 168 = .ok (.getfield 37, 3) := by decide +kernel
theorem dM_layOut_171 : decode bM_layOut 171 = .ok (.iload 5, 2) := by decide +kernel
theorem dM_layOut_173 : decode bM_layOut 173 = .ok (.invokevirtual 73, 3) := by decide +kernel
theorem dM_layOut_176 : decode bM_layOut 176 = .ok (.iastore, 1) := by decide +kernel
theorem dM_layOut_177 : decode bM_layOut 177 = .ok (.aload_n 0, 1) := by decide +kernel
theorem dM_layOut_178 : decode bM_layOut 178 = .ok (.getfield 24, 3) := by decide +kernel
theorem dM_layOut_181 : decode bM_layOut 181 = .ok (.iload 4, 2) := by decide +kernel
theorem dM_layOut_183 : decode bM_layOut 183 = .ok (.bipush 16, 2) := by decide +kernel
theorem dM_layOut_185 : decode bM_layOut 185 = .ok (.imul, 1) := by decide +kernel
theorem dM_layOut_186 : decode bM_layOut 186 = .ok (.iload_n 1, 1) := by decide +kernel
theorem dM_layOut_187 : decode bM_layOut 187 = .ok (.iadd, 1) := by decide +kernel
theorem dM_layOut_188 : decode bM_layOut 188 = .ok (.aload_n 0, 1) := by decide +kernel
theorem dM_layOut_189 : decode bM_layOut 189 = .ok (.getfield 37, 3) := by decide +kernel
theorem dM_layOut_192 : decode bM_layOut 192 = .ok (.iload 5, 2) := by decide +kernel
theorem dM_layOut_194 : decode bM_layOut 194 = .ok (.invokevirtual 76, 3) := by decide +kernel
theorem dM_layOut_197 : decode bM_layOut 197 = .ok (.iastore, 1) := by decide +kernel
theorem dM_layOut_198 : decode bM_layOut 198 = .ok (.aload_n 0, 1) := by decide +kernel
theorem dM_layOut_199 : decode bM_layOut 199 = .ok (.getfield 37, 3) := by decide +kernel
theorem dM_layOut_202 : decode bM_layOut 202 = .ok (.aload_n 0, 1) := by decide +kernel
theorem dM_layOut_203 : decode bM_layOut 203 = .ok (.getfield 37, 3) := by decide +kernel
theorem dM_layOut_206 : decode bM_layOut 206 = .ok (.iload 5, 2) := by decide +kernel
theorem dM_layOut_208 : decode bM_layOut 208 = .ok (.invokevirtual 64, 3) := by decide +kernel
theorem dM_layOut_211 : decode bM_layOut 211 = .ok (.invokevirtual 47, 3) := by decide +kernel
theorem dM_layOut_214 : decode bM_layOut 214 = .ok (.istore 7, 2) := by decide +kernel
theorem dM_layOut_216 : decode bM_layOut 216 = .ok (.aload_n 0, 1) := by decide +kernel
theorem dM_layOut_217 : decode bM_layOut 217 = .ok (.iload_n 1, 1) := by decide +kernel
theorem dM_layOut_218 : decode bM_layOut 218 = .ok (.aload_n 0, 1) := by decide +kernel
theorem dM_layOut_219 : decode bM_layOut 219 = .ok (.getfield 37, 3) := by decide +kernel
theorem dM_layOut_222 : decode bM_layOut 222 = .ok (.iload 5, 2) := by decide +kernel
theorem dM_layOut_224 : decode bM_layOut 224 = .ok (.invokevirtual 61, 3) := by decide +kernel
theorem dM_layOut_227 : decode bM_layOut 227 = .ok (.iload 6, 2) := by decide +kernel
theorem dM_layOut_229 : decode bM_layOut 229 = .ok (.iload 7, 2) := by decide +kernel
theorem dM_layOut_231 : decode bM_layOut 231 = .ok (.idiv, 1) := by decide +kernel
theorem dM_layOut_232 : decode bM_layOut 232 = .ok (.iconst 2, 1) := by decide +kernel
theorem dM_layOut_233 : decode bM_layOut 233 = .ok (.iload 4, 2) := by decide +kernel
theorem dM_layOut_235 : decode bM_layOut 235 = .ok (.imul, 1) := by decide +kernel
theorem dM_layOut_236 : decode bM_layOut 236 = .ok (.invokevirtual 53, 3) := by decide +kernel
theorem dM_layOut_239 : decode bM_layOut 239 = .ok (.aload_n 0, 1) := by decide +kernel
theorem dM_layOut_240 : decode bM_layOut 240 = .ok (.iload_n 1, 1) := by decide +kernel
theorem dM_layOut_241 : decode bM_layOut 241 = .ok (.aload_n 0, 1) := by decide +kernel
theorem dM_layOut_242 : decode bM_layOut 242 = .ok (.getfield 37, 3) := by decide +kernel
theorem dM_layOut_245 : decode bM_layOut 245 = .ok (.iload 5, 2) := by decide +kernel
theorem dM_layOut_247 : decode bM_layOut 247 = .ok (.invokevirtual 64, 3) := by decide +kernel
theorem dM_layOut_250 : decode bM_layOut 250 = .ok (.iload 6, 2) := by decide +kernel
theorem dM_layOut_252 : decode bM_layOut 252 = .ok (.iload 7, 2) := by decide +kernel
theorem dM_layOut_254 : decode bM_layOut 254 = .ok (.irem, 1) := by decide +kernel
theorem dM_layOut_255 : decode bM_layOut 255 = .ok (.iconst 2, 1) := by decide +kernel
theorem dM_layOut_256 : decode bM_layOut 256 = .ok (.iload 4, 2) := by decide +kernel
theorem dM_layOut_258 : decode bM_layOut 258 = .ok (.imul, 1) := by decide +kernel
theorem dM_layOut_259 : decode bM_layOut 259 = .ok (.iconst 1, 1) := by decide +kernel
theorem dM_layOut_260 : decode bM_layOut 260 = .ok (.iadd, 1) := by decide +kernel
theorem dM_layOut_261 : decode bM_layOut 261 = .ok (.invokevirtual 53, 3) := by decide +kernel
theorem dM_layOut_264 : decode bM_layOut 264 = .ok (.return_, 1) := by decide +kernel
theorem dM_addRow_0 : decode bM_addRow 0 = .ok (.aload_n 0, 1) := by decide +kernel
theorem dM_addRow_1 : decode bM_addRow 1 = .ok (.getfield 37, 3) := by decide +kernel
theorem dM_addRow_4 : decode bM_addRow 4 = .ok (.iload_n 1, 1) := by decide +kernel
theorem dM_addRow_5 : decode bM_addRow 5 = .ok (.invokevirtual 47, 3) := by decide +kernel
theorem dM_addRow_8 : decode bM_addRow 8 = .ok (.istore_n 2, 1) := by decide +kernel
theorem dM_addRow_9 : decode bM_addRow 9 = .ok (.aload_n 0, 1) := by decide +kernel
theorem dM_addRow_10 : decode bM_addRow 10 = .ok (.getfield 31, 3) := by decide +kernel
theorem dM_addRow_13 : decode bM_addRow 13 = .ok (.bipush 8, 2) := by decide +kernel
theorem dM_addRow_15 : decode bM_addRow 15 = .ok (.if_icmp .ge 14, 3) := by decide +kernel
theorem dM_addRow_18 : decode bM_addRow 18 = .ok (.aload_n 0, 1) := by decide +kernel
theorem dM_addRow_19 : decode bM_addRow 19 = .ok (.getfield 34, 3) := by decide +kernel
theorem dM_addRow_22 : decode bM_addRow 22 = .ok (.iload_n 2, 1) := by decide +kernel
theorem dM_addRow_23 : decode bM_addRow 23 = .ok (.iadd, 1) := by decide +kernel
theorem dM_addRow_24 : decode bM_addRow 24 = .ok (.bipush 16, 2) := by decide +kernel
theorem dM_addRow_26 : decode bM_addRow 26 = .ok (.if_icmp .le 6, 3) := by decide +kernel
theorem dM_addRow_29 : decode bM_addRow 29 = .ok (.bipush (-8), 2) := by decide +kernel
theorem dM_addRow_31 : decode bM_addRow 31 = .ok (.ireturn, 1) := by decide +kernel
theorem dM_addRow_32 : decode bM_addRow 32 = .ok (.aload_n 0, 1) := by decide +kernel
theorem dM_addRow_33 : decode bM_addRow 33 = .ok (.getfield 31, 3) := by decide +kernel
theorem dM_addRow_36 : decode bM_addRow 36 = .ok (.istore_n 3, 1) := by decide +kernel
theorem dM_addRow_37 : decode bM_addRow 37 = .ok (.iconst 0, 1) := by decide +kernel
theorem dM_addRow_38 : decode bM_addRow 38 = .ok (.istore 4, 2) := by decide +kernel
theorem dM_addRow_40 : decode bM_addRow 40 = .ok (.iload 4, 2) := by decide +kernel
theorem dM_addRow_42 : decode bM_addRow 42 = .ok (.iload_n 2, 1) := by decide +kernel
theorem dM_addRow_43 : decode bM_addRow 43 = .ok (.if_icmp .ge 37, 3) := by decide +kernel
theorem dM_addRow_46 : decode bM_addRow 46 = .ok (.aload_n 0, 1) := by decide +kernel
theorem dM_addRow_47 : decode bM_addRow 47 = .ok (.getfield 15, 3) := by decide +kernel
theorem dM_addRow_50 : decode bM_addRow 50 = .ok (.aload_n 0, 1) := by decide +kernel
theorem dM_addRow_51 : decode bM_addRow 51 = .ok (.getfield 34, 3) := by decide +kernel
theorem dM_addRow_54 : decode bM_addRow 54 = .ok (.iload 4, 2) := by decide +kernel
theorem dM_addRow_56 : decode bM_addRow 56 = .ok (.iadd, 1) := by decide +kernel
theorem dM_addRow_57 : decode bM_addRow 57 = .ok (.iload_n 3, 1) := by decide +kernel
theorem dM_addRow_58 : decode bM_addRow 58 = .ok (.iastore, 1) := by decide +kernel
theorem dM_addRow_59 : decode bM_addRow 59 = .ok (.aload_n 0, 1) := by decide +kernel
theorem dM_addRow_60 : decode bM_addRow 60 = .ok (.aload_n 0, 1) := by decide +kernel
theorem dM_addRow_61 : decode bM_addRow 61 = .ok (.getfield 34, 3) := by decide +kernel
theorem dM_addRow_64 : decode bM_addRow 64 = .ok (.iload 4, 2) := by decide +kernel
theorem dM_addRow_66 : decode bM_addRow 66 = .ok (.iadd, 1) := by decide +kernel
theorem dM_addRow_67 : decode bM_addRow 67 = .ok (.iload_n 1, 1) := by decide +kernel
theorem dM_addRow_68 : decode bM_addRow 68 = .ok (.iload 4, 2) := by decide +kernel
theorem dM_addRow_70 : decode bM_addRow 70 = .ok (.iconst 1, 1) := by decide +kernel
theorem dM_addRow_71 : decode bM_addRow 71 = .ok (.invokevirtual 53, 3) := by decide +kernel
theorem dM_addRow_74 : decode bM_addRow 74 = .ok (.iinc 4 1, 3) := by decide +kernel
theorem dM_addRow_77 : decode bM_addRow 77 = .ok (.goto (-37), 3) := by decide +kernel
theorem dM_addRow_80 : decode bM_addRow 80 = .ok (.aload_n 0, 1) := by decide +kernel
theorem dM_addRow_81 : decode bM_addRow 81 = .ok (.dup, 1) := by decide +kernel
theorem dM_addRow_82 : decode bM_addRow 82 = .ok (.getfield 34, 3) := by decide +kernel
theorem dM_addRow_85 : decode bM_addRow 85 = .ok (.iload_n 2, 1) := by decide +kernel
theorem dM_addRow_86 : decode bM_addRow 86 = .ok (.iadd, 1) := by decide +kernel
theorem dM_addRow_87 : decode bM_addRow 87 = .ok (.putfield 34, 3) := by decide +kernel
theorem dM_addRow_90 : decode bM_addRow 90 = .ok (.aload_n 0, 1) := by decide +kernel
theorem dM_addRow_91 : decode bM_addRow 91 = .ok (.dup, 1) := by decide +kernel
theorem dM_addRow_92 : decode bM_addRow 92 = .ok (.getfield 31, 3) := by decide +kernel
theorem dM_addRow_95 : decode bM_addRow 95 = .ok (.iconst 1, 1) := by decide +kernel
theorem dM_addRow_96 : decode bM_addRow 96 = .ok (.iadd, 1) := by decide +kernel
theorem dM_addRow_97 : decode bM_addRow 97 = .ok (.putfield 31, 3) := by decide +kernel
theorem dM_addRow_100 : decode bM_addRow 100 = .ok (.aload_n 0, 1) := by decide +kernel
theorem dM_addRow_101 : decode bM_addRow 101 = .ok (.getfield 9, 3) := by decide +kernel
theorem dM_addRow_104 : decode bM_addRow 104 = .ok (.aload_n 0, 1) := by decide +kernel
theorem dM_addRow_105 : decode bM_addRow 105 = .ok (.getfield 31, 3) := by decide +kernel
theorem dM_addRow_108 : decode bM_addRow 108 = .ok (.aload_n 0, 1) := by decide +kernel
theorem dM_addRow_109 : decode bM_addRow 109 = .ok (.getfield 34, 3) := by decide +kernel
theorem dM_addRow_112 : decode bM_addRow 112 = .ok (.iastore, 1) := by decide +kernel
theorem dM_addRow_113 : decode bM_addRow 113 = .ok (.iload_n 3, 1) := by decide +kernel
theorem dM_addRow_114 : decode bM_addRow 114 = .ok (.ireturn, 1) := by decide +kernel
theorem dM_allClauses_0 : decode bM_allClauses 0 = .ok (.iconst 1, 1) := by decide +kernel
theorem dM_allClauses_1 : decode bM_allClauses 1 = .ok (.aload_n 0, 1) := by decide +kernel
theorem dM_allClauses_2 : decode bM_allClauses 2 = .ok (.getfield 34, 3) := by decide +kernel
theorem dM_allClauses_5 : decode bM_allClauses 5 = .ok (.ishl, 1) := by decide +kernel
theorem dM_allClauses_6 : decode bM_allClauses 6 = .ok (.iconst 1, 1) := by decide +kernel
theorem dM_allClauses_7 : decode bM_allClauses 7 = .ok (.isub, 1) := by decide +kernel
theorem dM_allClauses_8 : decode bM_allClauses 8 = .ok (.ireturn, 1) := by decide +kernel
theorem dM_firstOf_0 : decode bM_firstOf 0 = .ok (.iconst 0, 1) := by decide +kernel
theorem dM_firstOf_1 : decode bM_firstOf 1 = .ok (.istore_n 2, 1) := by decide +kernel
theorem dM_firstOf_2 : decode bM_firstOf 2 = .ok (.iload_n 2, 1) := by decide +kernel
theorem dM_firstOf_3 : decode bM_firstOf 3 = .ok (.aload_n 0, 1) := by decide +kernel
theorem dM_firstOf_4 : decode bM_firstOf 4 = .ok (.getfield 34, 3) := by decide +kernel
theorem dM_firstOf_7 : decode bM_firstOf 7 = .ok (.if_icmp .ge 20, 3) := by decide +kernel
theorem dM_firstOf_10 : decode bM_firstOf 10 = .ok (.iload_n 1, 1) := by decide +kernel
theorem dM_firstOf_11 : decode bM_firstOf 11 = .ok (.iload_n 2, 1) := by decide +kernel
theorem dM_firstOf_12 : decode bM_firstOf 12 = .ok (.ishr, 1) := by decide +kernel
theorem dM_firstOf_13 : decode bM_firstOf 13 = .ok (.iconst 1, 1) := by decide +kernel
theorem dM_firstOf_14 : decode bM_firstOf 14 = .ok (.iand, 1) := by decide +kernel
theorem dM_firstOf_15 : decode bM_firstOf 15 = .ok (.iconst 1, 1) := by decide +kernel
theorem dM_firstOf_16 : decode bM_firstOf 16 = .ok (.if_icmp .ne 5, 3) := by decide +kernel
theorem dM_firstOf_19 : decode bM_firstOf 19 = .ok (.iload_n 2, 1) := by decide +kernel
theorem dM_firstOf_20 : decode bM_firstOf 20 = .ok (.ireturn, 1) := by decide +kernel
theorem dM_firstOf_21 : decode bM_firstOf 21 = .ok (.iinc 2 1, 3) := by decide +kernel
theorem dM_firstOf_24 : decode bM_firstOf 24 = .ok (.goto (-22), 3) := by decide +kernel
theorem dM_firstOf_27 : decode bM_firstOf 27 = .ok (.iconst (-1), 1) := by decide +kernel
theorem dM_firstOf_28 : decode bM_firstOf 28 = .ok (.ireturn, 1) := by decide +kernel
theorem dM_rowOf_0 : decode bM_rowOf 0 = .ok (.iload_n 1, 1) := by decide +kernel
theorem dM_rowOf_1 : decode bM_rowOf 1 = .ok (.ifCond .lt 20, 3) := by decide +kernel
theorem dM_rowOf_4 : decode bM_rowOf 4 = .ok (.iload_n 1, 1) := by decide +kernel
theorem dM_rowOf_5 : decode bM_rowOf 5 = .ok (.aload_n 0, 1) := by decide +kernel
theorem dM_rowOf_6 : decode bM_rowOf 6 = .ok (.getfield 34, 3) := by decide +kernel
theorem dM_rowOf_9 : decode bM_rowOf 9 = .ok (.if_icmp .ge 12, 3) := by decide +kernel
theorem dM_rowOf_12 : decode bM_rowOf 12 = .ok (.aload_n 0, 1) := by decide +kernel
theorem dM_rowOf_13 : decode bM_rowOf 13 = .ok (.getfield 15, 3) := by decide +kernel
theorem dM_rowOf_16 : decode bM_rowOf 16 = .ok (.iload_n 1, 1) := by decide +kernel
theorem dM_rowOf_17 : decode bM_rowOf 17 = .ok (.iaload, 1) := by decide +kernel
theorem dM_rowOf_18 : decode bM_rowOf 18 = .ok (.goto 4, 3) := by decide +kernel
theorem dM_rowOf_21 : decode bM_rowOf 21 = .ok (.iconst (-1), 1) := by decide +kernel
theorem dM_rowOf_22 : decode bM_rowOf 22 = .ok (.ireturn, 1) := by decide +kernel
theorem dM_placeToTest_0 : decode bM_placeToTest 0 = .ok (.iload_n 1, 1) := by decide +kernel
theorem dM_placeToTest_1 : decode bM_placeToTest 1 = .ok (.iload_n 1, 1) := by decide +kernel
theorem dM_placeToTest_2 : decode bM_placeToTest 2 = .ok (.ineg, 1) := by decide +kernel
theorem dM_placeToTest_3 : decode bM_placeToTest 3 = .ok (.iand, 1) := by decide +kernel
theorem dM_placeToTest_4 : decode bM_placeToTest 4 = .ok (.istore_n 3, 1) := by decide +kernel
theorem dM_placeToTest_5 : decode bM_placeToTest 5 = .ok (.iconst 0, 1) := by decide +kernel
theorem dM_placeToTest_6 : decode bM_placeToTest 6 = .ok (.istore 4, 2) := by decide +kernel
theorem dM_placeToTest_8 : decode bM_placeToTest 8 = .ok (.iconst 0, 1) := by decide +kernel
theorem dM_placeToTest_9 : decode bM_placeToTest 9 = .ok (.istore 5, 2) := by decide +kernel
theorem dM_placeToTest_11 : decode bM_placeToTest 11 = .ok (.iconst 1, 1) := by decide +kernel
theorem dM_placeToTest_12 : decode bM_placeToTest 12 = .ok (.istore 6, 2) := by decide +kernel
theorem dM_placeToTest_14 : decode bM_placeToTest 14 = .ok (.iload 6, 2) := by decide +kernel
theorem dM_placeToTest_16 : decode bM_placeToTest 16 = .ok (.bipush 16, 2) := by decide +kernel
theorem dM_placeToTest_18 : decode bM_placeToTest 18 = .ok (.if_icmp .ge 72, 3) := by decide +kernel
theorem dM_placeToTest_21 : decode bM_placeToTest 21 = .ok (.iload_n 2, 1) := by decide +kernel
theorem dM_placeToTest_22 : decode bM_placeToTest 22 = .ok (.iload 6, 2) := by decide +kernel
theorem dM_placeToTest_24 : decode bM_placeToTest 24 = .ok (.ishr, 1) := by decide +kernel
theorem dM_placeToTest_25 : decode bM_placeToTest 25 = .ok (.iconst 1, 1) := by decide +kernel
theorem dM_placeToTest_26 : decode bM_placeToTest 26 = .ok (.iand, 1) := by decide +kernel
theorem dM_placeToTest_27 : decode bM_placeToTest 27 = .ok (.iconst 1, 1) := by decide +kernel
theorem dM_placeToTest_28 : decode bM_placeToTest 28 = .ok (.if_icmp .ne 19, 3) := by decide +kernel
theorem dM_placeToTest_31 : decode bM_placeToTest 31 = .ok (.aload_n 0, 1) := by decide +kernel
theorem dM_placeToTest_32 : decode bM_placeToTest 32 = .ok (.getfield 18, 3) := by decide +kernel
theorem dM_placeToTest_35 : decode bM_placeToTest 35 = .ok (.iload 6, 2) := by decide +kernel
theorem dM_placeToTest_37 : decode bM_placeToTest 37 = .ok (.iaload, 1) := by decide +kernel
theorem dM_placeToTest_38 : decode bM_placeToTest 38 = .ok (.iload_n 3, 1) := by decide +kernel
theorem dM_placeToTest_39 : decode bM_placeToTest 39 = .ok (.iand, 1) := by decide +kernel
theorem dM_placeToTest_40 : decode bM_placeToTest 40 = .ok (.ifCond .eq 7, 3) := by decide +kernel
theorem dM_placeToTest_43 : decode bM_placeToTest 43 = .ok (.iconst 1, 1) := by decide +kernel
theorem dM_placeToTest_44 : decode bM_placeToTest 44 = .ok (.goto 4, 3) := by decide +kernel
theorem dM_placeToTest_47 : decode bM_placeToTest 47 = .ok (.iconst 0, 1) := by decide +kernel
theorem dM_placeToTest_48 : decode bM_placeToTest 48 = .ok (.istore 7, 2) := by decide +kernel
theorem dM_placeToTest_50 : decode bM_placeToTest 50 = .ok (.aload_n 0, 1) := by decide +kernel
theorem dM_placeToTest_51 : decode bM_placeToTest 51 = .ok (.getfield 18, 3) := by decide +kernel
theorem dM_placeToTest_54 : decode bM_placeToTest 54 = .ok (.iload 6, 2) := by decide +kernel
theorem dM_placeToTest_56 : decode bM_placeToTest 56 = .ok (.iaload, 1) := by decide +kernel
theorem dM_placeToTest_57 : decode bM_placeToTest 57 = .ok (.iload_n 1, 1) := by decide +kernel
theorem dM_placeToTest_58 : decode bM_placeToTest 58 = .ok (.iand, 1) := by decide +kernel
theorem dM_placeToTest_59 : decode bM_placeToTest 59 = .ok (.invokestatic 79, 3) := by decide +kernel
theorem dM_placeToTest_62 : decode bM_placeToTest 62 = .ok (.istore 8, 2) := by decide +kernel
theorem dM_placeToTest_64 : decode bM_placeToTest 64 = .ok (.iload 7, 2) := by decide +kernel
theorem dM_placeToTest_66 : decode bM_placeToTest 66 = .ok (.ifCond .eq 18, 3) := by decide +kernel
theorem dM_placeToTest_69 : decode bM_placeToTest 69 = .ok (.iload 8, 2) := by decide +kernel
theorem dM_placeToTest_71 : decode bM_placeToTest 71 = .ok (.iload 5, 2) := by decide +kernel
theorem dM_placeToTest_73 : decode bM_placeToTest 73 = .ok (.if_icmp .le 11, 3) := by decide +kernel
theorem dM_placeToTest_76 : decode bM_placeToTest 76 = .ok (.iload 6, 2) := by decide +kernel
theorem dM_placeToTest_78 : decode bM_placeToTest 78 = .ok (.istore 4, 2) := by decide +kernel
theorem dM_placeToTest_80 : decode bM_placeToTest 80 = .ok (.iload 8, 2) := by decide +kernel
theorem dM_placeToTest_82 : decode bM_placeToTest 82 = .ok (.istore 5, 2) := by decide +kernel
theorem dM_placeToTest_84 : decode bM_placeToTest 84 = .ok (.iinc 6 1, 3) := by decide +kernel
theorem dM_placeToTest_87 : decode bM_placeToTest 87 = .ok (.goto (-73), 3) := by decide +kernel
theorem dM_placeToTest_90 : decode bM_placeToTest 90 = .ok (.iload 4, 2) := by decide +kernel
theorem dM_placeToTest_92 : decode bM_placeToTest 92 = .ok (.ireturn, 1) := by decide +kernel
theorem dM_typeAskedAt_0 : decode bM_typeAskedAt 0 = .ok (.aload_n 0, 1) := by decide +kernel
theorem dM_typeAskedAt_1 : decode bM_typeAskedAt 1 = .ok (.iload_n 2, 1) := by decide +kernel
theorem dM_typeAskedAt_2 : decode bM_typeAskedAt 2 = .ok (.aload_n 0, 1) := by decide +kernel
theorem dM_typeAskedAt_3 : decode bM_typeAskedAt 3 = .ok (.getfield 18, 3) := by decide +kernel
theorem dM_typeAskedAt_6 : decode bM_typeAskedAt 6 = .ok (.iload_n 1, 1) := by decide +kernel
theorem dM_typeAskedAt_7 : decode bM_typeAskedAt 7 = .ok (.iaload, 1) := by decide +kernel
theorem dM_typeAskedAt_8 : decode bM_typeAskedAt 8 = .ok (.iand, 1) := by decide +kernel
theorem dM_typeAskedAt_9 : decode bM_typeAskedAt 9 = .ok (.invokevirtual 84, 3) := by decide +kernel
theorem dM_typeAskedAt_12 : decode bM_typeAskedAt 12 = .ok (.istore_n 3, 1) := by decide +kernel
theorem dM_typeAskedAt_13 : decode bM_typeAskedAt 13 = .ok (.iload_n 3, 1) := by decide +kernel
theorem dM_typeAskedAt_14 : decode bM_typeAskedAt 14 = .ok (.iconst (-1), 1) := by decide +kernel
theorem dM_typeAskedAt_15 : decode bM_typeAskedAt 15 = .ok (.if_icmp .ne 7, 3) := by decide +kernel
theorem dM_typeAskedAt_18 : decode bM_typeAskedAt 18 = .ok (.iconst (-1), 1) := by decide +kernel
theorem dM_typeAskedAt_19 : decode bM_typeAskedAt 19 = .ok (.goto 14, 3) := by decide +kernel
theorem dM_typeAskedAt_22 : decode bM_typeAskedAt 22 = .ok (.aload_n 0, 1) := by decide +kernel
theorem dM_typeAskedAt_23 : decode bM_typeAskedAt 23 = .ok (.getfield 24, 3) := by decide +kernel
theorem dM_typeAskedAt_26 : decode bM_typeAskedAt 26 = .ok (.iload_n 1, 1) := by decide +kernel
theorem dM_typeAskedAt_27 : decode bM_typeAskedAt 27 = .ok (.bipush 16, 2) := by decide +kernel
theorem dM_typeAskedAt_29 : decode bM_typeAskedAt 29 = .ok (.imul, 1) := by decide +kernel
theorem dM_typeAskedAt_30 : decode bM_typeAskedAt 30 = .ok (.iload_n 3, 1) := by decide +kernel
theorem dM_typeAskedAt_31 : decode bM_typeAskedAt 31 = .ok (.iadd, 1) := by decide +kernel
theorem dM_typeAskedAt_32 : decode bM_typeAskedAt 32 = .ok (.iaload, 1) := by decide +kernel
theorem dM_typeAskedAt_33 : decode bM_typeAskedAt 33 = .ok (.ireturn, 1) := by decide +kernel
theorem dM_notAsking_0 : decode bM_notAsking 0 = .ok (.iload_n 1, 1) := by decide +kernel
theorem dM_notAsking_1 : decode bM_notAsking 1 = .ok (.aload_n 0, 1) := by decide +kernel
theorem dM_notAsking_2 : decode bM_notAsking 2 = .ok (.getfield 18, 3) := by decide +kernel
theorem dM_notAsking_5 : decode bM_notAsking 5 = .ok (.iload_n 2, 1) := by decide +kernel
theorem dM_notAsking_6 : decode bM_notAsking 6 = .ok (.iaload, 1) := by decide +kernel
theorem dM_notAsking_7 : decode bM_notAsking 7 = .ok (.iconst (-1), 1) := by decide +kernel
theorem dM_notAsking_8 : decode bM_notAsking 8 = .ok (.ixor, 1) := by decide +kernel
theorem dM_notAsking_9 : decode bM_notAsking 9 = .ok (.iand, 1) := by decide +kernel
theorem dM_notAsking_10 : decode bM_notAsking 10 = .ok (.ireturn, 1) := by decide +kernel
theorem dM_notAskingElse_0 : decode bM_notAskingElse 0 = .ok (.aload_n 0, 1) := by decide +kernel
theorem dM_notAskingElse_1 : decode bM_notAskingElse 1 = .ok (.iload_n 1, 1) := by decide +kernel
theorem dM_notAskingElse_2 : decode bM_notAskingElse 2 = .ok (.iload_n 2, 1) := by decide +kernel
theorem dM_notAskingElse_3 : decode bM_notAskingElse 3 = .ok (.invokevirtual 85, 3) := by decide +kernel
theorem dM_notAskingElse_6 : decode bM_notAskingElse 6 = .ok (.istore 4, 2) := by decide +kernel
theorem dM_notAskingElse_8 : decode bM_notAskingElse 8 = .ok (.iconst 0, 1) := by decide +kernel
theorem dM_notAskingElse_9 : decode bM_notAskingElse 9 = .ok (.istore 5, 2) := by decide +kernel
theorem dM_notAskingElse_11 : decode bM_notAskingElse 11 = .ok (.iload 5, 2) := by decide +kernel
theorem dM_notAskingElse_13 : decode bM_notAskingElse 13 = .ok (.aload_n 0, 1) := by decide +kernel
theorem dM_notAskingElse_14 : decode bM_notAskingElse 14 = .ok (.getfield 34, 3) := by decide +kernel
theorem dM_notAskingElse_17 : decode bM_notAskingElse 17 = .ok (.if_icmp .ge 36, 3) := by decide +kernel
theorem dM_notAskingElse_20 : decode bM_notAskingElse 20 = .ok (.aload_n 0, 1) := by decide +kernel
theorem dM_notAskingElse_21 : decode bM_notAskingElse 21 = .ok (.getfield 21, 3) := by decide +kernel
theorem dM_notAskingElse_24 : decode bM_notAskingElse 24 = .ok (.iload_n 2, 1) := by decide +kernel
theorem dM_notAskingElse_25 : decode bM_notAskingElse 25 = .ok (.bipush 16, 2) := by decide +kernel
theorem dM_notAskingElse_27 : decode bM_notAskingElse 27 = .ok (.imul, 1) := by decide +kernel
theorem dM_notAskingElse_28 : decode bM_notAskingElse 28 = .ok (.iload 5, 2) := by decide +kernel
theorem dM_notAskingElse_30 : decode bM_notAskingElse 30 = .ok (.iadd, 1) := by decide +kernel
theorem dM_notAskingElse_31 : decode bM_notAskingElse 31 = .ok (.iaload, 1) := by decide +kernel
theorem dM_notAskingElse_32 : decode bM_notAskingElse 32 = .ok (.iload_n 3, 1) := by decide +kernel
theorem dM_notAskingElse_33 : decode bM_notAskingElse 33 = .ok (.if_icmp .ne 14, 3) := by decide +kernel
theorem dM_notAskingElse_36 : decode bM_notAskingElse 36 = .ok (.iload 4, 2) := by decide +kernel
theorem dM_notAskingElse_38 : decode bM_notAskingElse 38 = .ok (.iload_n 1, 1) := by decide +kernel
theorem dM_notAskingElse_39 : decode bM_notAskingElse 39 = .ok (.iconst 1, 1) := by decide +kernel
theorem dM_notAskingElse_40 : decode bM_notAskingElse 40 = .ok (.iload 5, 2) := by decide +kernel
theorem dM_notAskingElse_42 : decode bM_notAskingElse 42 = .ok (.ishl, 1) := by decide +kernel
theorem dM_notAskingElse_43 : decode bM_notAskingElse 43 = .ok (.iand, 1) := by decide +kernel
theorem dM_notAskingElse_44 : decode bM_notAskingElse 44 = .ok (.ior, 1) := by decide +kernel
theorem dM_notAskingElse_45 : decode bM_notAskingElse 45 = .ok (.istore 4, 2) := by decide +kernel
theorem dM_notAskingElse_47 : decode bM_notAskingElse 47 = .ok (.iinc 5 1, 3) := by decide +kernel
theorem dM_notAskingElse_50 : decode bM_notAskingElse 50 = .ok (.goto (-39), 3) := by decide +kernel
theorem dM_notAskingElse_53 : decode bM_notAskingElse 53 = .ok (.iload 4, 2) := by decide +kernel
theorem dM_notAskingElse_55 : decode bM_notAskingElse 55 = .ok (.ireturn, 1) := by decide +kernel
theorem dM_leastAbove_0 : decode bM_leastAbove 0 = .ok (.iload_n 3, 1) := by decide +kernel
theorem dM_leastAbove_1 : decode bM_leastAbove 1 = .ok (.aload_n 0, 1) := by decide +kernel
theorem dM_leastAbove_2 : decode bM_leastAbove 2 = .ok (.getfield 18, 3) := by decide +kernel
theorem dM_leastAbove_5 : decode bM_leastAbove 5 = .ok (.iload 4, 2) := by decide +kernel
theorem dM_leastAbove_7 : decode bM_leastAbove 7 = .ok (.iaload, 1) := by decide +kernel
theorem dM_leastAbove_8 : decode bM_leastAbove 8 = .ok (.iand, 1) := by decide +kernel
theorem dM_leastAbove_9 : decode bM_leastAbove 9 = .ok (.istore 5, 2) := by decide +kernel
theorem dM_leastAbove_11 : decode bM_leastAbove 11 = .ok (.ldc2_w 89, 3) := by decide +kernel
theorem dM_leastAbove_14 : decode bM_leastAbove 14 = .ok (.lstore 6, 2) := by decide +kernel
theorem dM_leastAbove_16 : decode bM_leastAbove 16 = .ok (.iconst 0, 1) := by decide +kernel
theorem dM_leastAbove_17 : decode bM_leastAbove 17 = .ok (.istore 8, 2) := by decide +kernel
theorem dM_leastAbove_19 : decode bM_leastAbove 19 = .ok (.iload 8, 2) := by decide +kernel
theorem dM_leastAbove_21 : decode bM_leastAbove 21 = .ok (.aload_n 0, 1) := by decide +kernel
theorem dM_leastAbove_22 : decode bM_leastAbove 22 = .ok (.getfield 34, 3) := by decide +kernel
theorem dM_leastAbove_25 : decode bM_leastAbove 25 = .ok (.if_icmp .ge 55, 3) := by decide +kernel
theorem dM_leastAbove_28 : decode bM_leastAbove 28 = .ok (.aload_n 0, 1) := by decide +kernel
theorem dM_leastAbove_29 : decode bM_leastAbove 29 = .ok (.getfield 21, 3) := by decide +kernel
theorem dM_leastAbove_32 : decode bM_leastAbove 32 = .ok (.iload 4, 2) := by decide +kernel
theorem dM_leastAbove_34 : decode bM_leastAbove 34 = .ok (.bipush 16, 2) := by decide +kernel
theorem dM_leastAbove_36 : decode bM_leastAbove 36 = .ok (.imul, 1) := by decide +kernel
theorem dM_leastAbove_37 : decode bM_leastAbove 37 = .ok (.iload 8, 2) := by decide +kernel
theorem dM_leastAbove_39 : decode bM_leastAbove 39 = .ok (.iadd, 1) := by decide +kernel
theorem dM_leastAbove_40 : decode bM_leastAbove 40 = .ok (.iaload, 1) := by decide +kernel
theorem dM_leastAbove_41 : decode bM_leastAbove 41 = .ok (.i2l, 1) := by decide +kernel
theorem dM_leastAbove_42 : decode bM_leastAbove 42 = .ok (.lstore 9, 2) := by decide +kernel
theorem dM_leastAbove_44 : decode bM_leastAbove 44 = .ok (.iload 5, 2) := by decide +kernel
theorem dM_leastAbove_46 : decode bM_leastAbove 46 = .ok (.iload 8, 2) := by decide +kernel
theorem dM_leastAbove_48 : decode bM_leastAbove 48 = .ok (.ishr, 1) := by decide +kernel
theorem dM_leastAbove_49 : decode bM_leastAbove 49 = .ok (.iconst 1, 1) := by decide +kernel
theorem dM_leastAbove_50 : decode bM_leastAbove 50 = .ok (.iand, 1) := by decide +kernel
theorem dM_leastAbove_51 : decode bM_leastAbove 51 = .ok (.iconst 1, 1) := by decide +kernel
theorem dM_leastAbove_52 : decode bM_leastAbove 52 = .ok (.if_icmp .ne 22, 3) := by decide +kernel
theorem dM_leastAbove_55 : decode bM_leastAbove 55 = .ok (.lload 9, 2) := by decide +kernel
theorem dM_leastAbove_57 : decode bM_leastAbove 57 = .ok (.lload_n 1, 1) := by decide +kernel
theorem dM_leastAbove_58 : decode bM_leastAbove 58 = .ok (.lcmp, 1) := by decide +kernel
theorem dM_leastAbove_59 : decode bM_leastAbove 59 = .ok (.ifCond .le 15, 3) := by decide +kernel
theorem dM_leastAbove_62 : decode bM_leastAbove 62 = .ok (.lload 9, 2) := by decide +kernel
theorem dM_leastAbove_64 : decode bM_leastAbove 64 = .ok (.lload 6, 2) := by decide +kernel
theorem dM_leastAbove_66 : decode bM_leastAbove 66 = .ok (.lcmp, 1) := by decide +kernel
theorem dM_leastAbove_67 : decode bM_leastAbove 67 = .ok (.ifCond .ge 7, 3) := by decide +kernel
theorem dM_leastAbove_70 : decode bM_leastAbove 70 = .ok (.lload 9, 2) := by decide +kernel
theorem dM_leastAbove_72 : decode bM_leastAbove 72 = .ok (.lstore 6, 2) := by decide +kernel
theorem dM_leastAbove_74 : decode bM_leastAbove 74 = .ok (.iinc 8 1, 3) := by decide +kernel
theorem dM_leastAbove_77 : decode bM_leastAbove 77 = .ok (.goto (-58), 3) := by decide +kernel
theorem dM_leastAbove_80 : decode bM_leastAbove 80 = .ok (.lload 6, 2) := by decide +kernel
theorem dM_leastAbove_82 : decode bM_leastAbove 82 = .ok (.lreturn, 1) := by decide +kernel
theorem dM_alternativesOutside_0 : decode bM_alternativesOutside 0 = .ok (.aload_n 0, 1) := by decide +kernel
theorem dM_alternativesOutside_1 : decode bM_alternativesOutside 1 = .ok (.iload_n 2, 1) := by decide +kernel
theorem dM_alternativesOutside_2 : decode bM_alternativesOutside 2 = .ok (.invokevirtual 91, 3) := by decide +kernel
theorem dM_alternativesOutside_5 : decode bM_alternativesOutside 5 = .ok (.ifCond .ne 5, 3) := by decide +kernel
theorem dM_alternativesOutside_8 : decode bM_alternativesOutside 8 = .ok (.iconst 0, 1) := by decide +kernel
theorem dM_alternativesOutside_9 : decode bM_alternativesOutside 9 = .ok (.ireturn, 1) := by decide +kernel
theorem dM_alternativesOutside_10 : decode bM_alternativesOutside 10 = .ok (.iconst 1, 1) := by decide +kernel
theorem dM_alternativesOutside_11 : decode bM_alternativesOutside 11 = .ok (.aload_n 0, 1) := by decide +kernel
theorem dM_alternativesOutside_12 : decode bM_alternativesOutside 12 = .ok (.getfield 9, 3) := by decide +kernel
theorem dM_alternativesOutside_15 : decode bM_alternativesOutside 15 = .ok (.iload_n 2, 1) := by decide +kernel
theorem dM_alternativesOutside_16 : decode bM_alternativesOutside 16 = .ok (.iconst 1, 1) := by decide +kernel
theorem dM_alternativesOutside_17 : decode bM_alternativesOutside 17 = .ok (.iadd, 1) := by decide +kernel
theorem dM_alternativesOutside_18 : decode bM_alternativesOutside 18 = .ok (.iaload, 1) := by decide +kernel
theorem dM_alternativesOutside_19 : decode bM_alternativesOutside 19 = .ok (.ishl, 1) := by decide +kernel
theorem dM_alternativesOutside_20 : decode bM_alternativesOutside 20 = .ok (.iconst 1, 1) := by decide +kernel
theorem dM_alternativesOutside_21 : decode bM_alternativesOutside 21 = .ok (.aload_n 0, 1) := by decide +kernel
theorem dM_alternativesOutside_22 : decode bM_alternativesOutside 22 = .ok (.getfield 9, 3) := by decide +kernel
theorem dM_alternativesOutside_25 : decode bM_alternativesOutside 25 = .ok (.iload_n 2, 1) := by decide +kernel
theorem dM_alternativesOutside_26 : decode bM_alternativesOutside 26 = .ok (.iaload, 1) := by decide +kernel
theorem dM_alternativesOutside_27 : decode bM_alternativesOutside 27 = .ok (.ishl, 1) := by decide +kernel
theorem dM_alternativesOutside_28 : decode bM_alternativesOutside 28 = .ok (.isub, 1) := by decide +kernel
theorem dM_alternativesOutside_29 : decode bM_alternativesOutside 29 = .ok (.istore_n 3, 1) := by decide +kernel
theorem dM_alternativesOutside_30 : decode bM_alternativesOutside 30 = .ok (.iload_n 3, 1) := by decide +kernel
theorem dM_alternativesOutside_31 : decode bM_alternativesOutside 31 = .ok (.iload_n 1, 1) := by decide +kernel
theorem dM_alternativesOutside_32 : decode bM_alternativesOutside 32 = .ok (.iconst (-1), 1) := by decide +kernel
theorem dM_alternativesOutside_33 : decode bM_alternativesOutside 33 = .ok (.ixor, 1) := by decide +kernel
theorem dM_alternativesOutside_34 : decode bM_alternativesOutside 34 = .ok (.iand, 1) := by decide +kernel
theorem dM_alternativesOutside_35 : decode bM_alternativesOutside 35 = .ok (.aload_n 0, 1) := by decide +kernel
theorem dM_alternativesOutside_36 : decode bM_alternativesOutside 36 = .ok (.getfield 9, 3) := by decide +kernel
theorem dM_alternativesOutside_39 : decode bM_alternativesOutside 39 = .ok (.iload_n 2, 1) := by decide +kernel
theorem dM_alternativesOutside_40 : decode bM_alternativesOutside 40 = .ok (.iaload, 1) := by decide +kernel
theorem dM_alternativesOutside_41 : decode bM_alternativesOutside 41 = .ok (.ishr, 1) := by decide +kernel
theorem dM_alternativesOutside_42 : decode bM_alternativesOutside 42 = .ok (.ireturn, 1) := by decide +kernel
section Smatc
variable {p : Program} {l : Launch} {e : Env} {R : Room} {s : State} {m : MethodId} {args : Array Value} {below : List Frame} {meth : Method} {c : Code} {Q : State → Prop} {D : va_G} {cA : Nat → ClassId} {ad : Nat → Nat} {H0 : Heap}
def fM_reset (st : ck_S) : Option ck_S := (ck_bv (fA_fill_23_C (0 : Int32) (ck_u (ck_u (ck_u st 4 6 (-1 : Int32)) 4 7 (0 : Int32)) 4 8 (0 : Int32))) fun st1 => (some st1))
set_option maxRecDepth 100000 in
set_option maxHeartbeats 4000000 in
theorem cM_reset (l : Launch) (D : va_G) (cA : Nat → ClassId) (ad : Nat → Nat) {st : ck_S} {st0 : ck_S} (hf : fM_reset st = some st0) : Met l yM_reset (.code yM_reset bM_reset 1 none :: ck_T) (ck_R 1) (va_Pc [.ref (ad 4)] (ck_P sh_C cm_cl D cA ad st)) (va_Qv (fun u => u = st0) (ck_P sh_C cm_cl D cA ad) (ck_A ad sh_C.length)) 0 0 (ck_A ad sh_C.length) := by
  refine ck_met_v (own := R_M) (by decide +kernel) rfl (Nat.le_of_ble_eq_true rfl) (fun p e R s m args below meth c H0 Q ls C hret h hl => ?_)
  have C1 := C
  obtain ⟨hx, hb, hml, hown, hts, hK, hlv, hlo⟩ := C1
  have hl : lv_has ls 1 [(0, .ref (ad 4))] := hl
  unfold fM_reset at hf
  refine lv_aload_n hx hb dM_reset_0 rfl (lv_at hl 0 rfl) ?_
  refine lv_iconst (v := (-1)) hx hb dM_reset_1 (by decide) ?_
  refine ck_pi C h GM_over rfl rfl dM_reset_2 (fun H locs h => ?_)
  refine lv_aload_n hx hb dM_reset_5 rfl (lv_at hl 0 rfl) ?_
  refine lv_iconst (v := 0) hx hb dM_reset_6 (by decide) ?_
  refine ck_pi C h GM_rows rfl rfl dM_reset_7 (fun H locs h => ?_)
  refine lv_aload_n hx hb dM_reset_10 rfl (lv_at hl 0 rfl) ?_
  refine lv_iconst (v := 0) hx hb dM_reset_11 (by decide) ?_
  refine ck_pi C h GM_clauses rfl rfl dM_reset_12 (fun H locs h => ?_)
  refine lv_aload_n hx hb dM_reset_15 rfl (lv_at hl 0 rfl) ?_
  refine ck_gr C h FM_askers dM_reset_16 ?_
  refine lv_iconst (v := 0) hx hb dM_reset_19 (by decide) ?_
  obtain ⟨st1, hc, hf⟩ := ck_bv_e hf
  refine ck_tv (As := [.ref (ad 23), .int (0 : Int32)]) (rest := []) C h hl CM_A_fill sA_fill (cA_fill_23_C l D cA ad hc) (Nat.le_of_ble_eq_true rfl) rfl rfl (Nat.le_of_ble_eq_true rfl) dM_reset_20 (fun H locs h => ?_)
  exact ck_rv hf hret h dM_reset_23
def fM_isBegun (st : ck_S) : Option (Int32 × ck_S) := (if (st 4 6) = (-1 : Int32) then (some ((0 : Int32), st)) else (some ((1 : Int32), st)))
set_option maxRecDepth 100000 in
set_option maxHeartbeats 4000000 in
theorem cM_isBegun (l : Launch) (D : va_G) (cA : Nat → ClassId) (ad : Nat → Nat) {st : ck_S} {r0 : Int32} {st0 : ck_S} (hf : fM_isBegun st = some (r0, st0)) : Met l yM_isBegun (.code yM_isBegun bM_isBegun 1 (some .boolean) :: ck_T) (ck_R 0) (va_Pc [.ref (ad 4)] (ck_P sh_C cm_cl D cA ad st)) (va_Qi (fun a u => a = r0 ∧ u = st0) (ck_P sh_C cm_cl D cA ad) (ck_A ad sh_C.length)) 0 0 (ck_A ad sh_C.length) := by
  refine ck_met_z (own := R_M) (by decide +kernel) rfl (Nat.le_of_ble_eq_true rfl) (fun p e R s m args below meth c H0 Q ls C hret h hl => ?_)
  have C1 := C
  obtain ⟨hx, hb, hml, hown, hts, hK, hlv, hlo⟩ := C1
  have hl : lv_has ls 1 [(0, .ref (ad 4))] := hl
  unfold fM_isBegun at hf
  refine lv_aload_n hx hb dM_isBegun_0 rfl (lv_at hl 0 rfl) ?_
  refine ck_gi (x := (st 4 6)) C h FM_over rfl dM_isBegun_1 ?_
  refine lv_iconst (v := (-1)) hx hb dM_isBegun_4 (by decide) ?_
  refine lv_icmp_eq (tgt := 12) hx hb dM_isBegun_5 rfl (fun hq => ?_) (fun hq => ?_)
  · have hf := ck_t hq hf
    refine lv_iconst (v := 0) hx hb dM_isBegun_12 (by decide) ?_
    exact ck_rz hf hret ck_z0 h dM_isBegun_13
  · have hf := ck_f hq hf
    refine lv_iconst (v := 1) hx hb dM_isBegun_8 (by decide) ?_
    refine lv_goto (tgt := 13) hx hb dM_isBegun_9 rfl ?_
    exact ck_rz hf hret ck_z1 h dM_isBegun_13
def fM_beginOver (x1 : Int32) (st : ck_S) : Option ck_S := (some (ck_u st 4 6 x1))
set_option maxRecDepth 100000 in
set_option maxHeartbeats 4000000 in
theorem cM_beginOver (l : Launch) (D : va_G) (cA : Nat → ClassId) (ad : Nat → Nat) {x1 : Int32} {st : ck_S} {st0 : ck_S} (hf : fM_beginOver x1 st = some st0) : Met l yM_beginOver (.code yM_beginOver bM_beginOver 2 none :: ck_T) (ck_R 0) (va_Pc [.ref (ad 4), .int x1] (ck_P sh_C cm_cl D cA ad st)) (va_Qv (fun u => u = st0) (ck_P sh_C cm_cl D cA ad) (ck_A ad sh_C.length)) 0 0 (ck_A ad sh_C.length) := by
  refine ck_met_v (own := R_M) (by decide +kernel) rfl (Nat.le_of_ble_eq_true rfl) (fun p e R s m args below meth c H0 Q ls C hret h hl => ?_)
  have C1 := C
  obtain ⟨hx, hb, hml, hown, hts, hK, hlv, hlo⟩ := C1
  have hl : lv_has ls 2 [(0, .ref (ad 4)), (1, .int x1)] := hl
  unfold fM_beginOver at hf
  refine lv_aload_n hx hb dM_beginOver_0 rfl (lv_at hl 0 rfl) ?_
  refine lv_iload_n hx hb dM_beginOver_1 rfl (lv_at hl 1 rfl) ?_
  refine ck_pi C h GM_over rfl rfl dM_beginOver_2 (fun H locs h => ?_)
  exact ck_rv hf hret h dM_beginOver_5
def fM_typeOver (st : ck_S) : Option (Int32 × ck_S) := (some ((st 4 6), st))
set_option maxRecDepth 100000 in
set_option maxHeartbeats 4000000 in
theorem cM_typeOver (l : Launch) (D : va_G) (cA : Nat → ClassId) (ad : Nat → Nat) {st : ck_S} {r0 : Int32} {st0 : ck_S} (hf : fM_typeOver st = some (r0, st0)) : Met l yM_typeOver (.code yM_typeOver bM_typeOver 1 (some .int) :: ck_T) (ck_R 0) (va_Pc [.ref (ad 4)] (ck_P sh_C cm_cl D cA ad st)) (va_Qi (fun a u => a = r0 ∧ u = st0) (ck_P sh_C cm_cl D cA ad) (ck_A ad sh_C.length)) 0 0 (ck_A ad sh_C.length) := by
  refine ck_met_i (own := R_M) (by decide +kernel) rfl (Nat.le_of_ble_eq_true rfl) (fun p e R s m args below meth c H0 Q ls C hret h hl => ?_)
  have C1 := C
  obtain ⟨hx, hb, hml, hown, hts, hK, hlv, hlo⟩ := C1
  have hl : lv_has ls 1 [(0, .ref (ad 4))] := hl
  unfold fM_typeOver at hf
  refine lv_aload_n hx hb dM_typeOver_0 rfl (lv_at hl 0 rfl) ?_
  refine ck_gi (x := (st 4 6)) C h FM_over rfl dM_typeOver_1 ?_
  exact ck_ri hf hret h dM_typeOver_4
def fM_hasRow (x1 : Int32) (st : ck_S) : Option (Int32 × ck_S) := (if x1 < 0 then (some ((0 : Int32), st)) else (if (st 4 7) ≤ x1 then (some ((0 : Int32), st)) else (some ((1 : Int32), st))))
set_option maxRecDepth 100000 in
set_option maxHeartbeats 4000000 in
theorem cM_hasRow (l : Launch) (D : va_G) (cA : Nat → ClassId) (ad : Nat → Nat) {x1 : Int32} {st : ck_S} {r0 : Int32} {st0 : ck_S} (hf : fM_hasRow x1 st = some (r0, st0)) : Met l yM_hasRow (.code yM_hasRow bM_hasRow 2 (some .boolean) :: ck_T) (ck_R 0) (va_Pc [.ref (ad 4), .int x1] (ck_P sh_C cm_cl D cA ad st)) (va_Qi (fun a u => a = r0 ∧ u = st0) (ck_P sh_C cm_cl D cA ad) (ck_A ad sh_C.length)) 0 0 (ck_A ad sh_C.length) := by
  refine ck_met_z (own := R_M) (by decide +kernel) rfl (Nat.le_of_ble_eq_true rfl) (fun p e R s m args below meth c H0 Q ls C hret h hl => ?_)
  have C1 := C
  obtain ⟨hx, hb, hml, hown, hts, hK, hlv, hlo⟩ := C1
  have hl : lv_has ls 2 [(0, .ref (ad 4)), (1, .int x1)] := hl
  unfold fM_hasRow at hf
  refine lv_iload_n hx hb dM_hasRow_0 rfl (lv_at hl 1 rfl) ?_
  refine lv_if_lt (tgt := 16) hx hb dM_hasRow_1 rfl (fun hq => ?_) (fun hq => ?_)
  · have hf := ck_t hq hf
    refine lv_iconst (v := 0) hx hb dM_hasRow_16 (by decide) ?_
    exact ck_rz hf hret ck_z0 h dM_hasRow_17
  · have hf := ck_f hq hf
    refine lv_iload_n hx hb dM_hasRow_4 rfl (lv_at hl 1 rfl) ?_
    refine lv_aload_n hx hb dM_hasRow_5 rfl (lv_at hl 0 rfl) ?_
    refine ck_gi (x := (st 4 7)) C h FM_rows rfl dM_hasRow_6 ?_
    refine lv_icmp_ge (tgt := 16) hx hb dM_hasRow_9 rfl (fun hq => ?_) (fun hq => ?_)
    · have hf := ck_t hq hf
      refine lv_iconst (v := 0) hx hb dM_hasRow_16 (by decide) ?_
      exact ck_rz hf hret ck_z0 h dM_hasRow_17
    · have hf := ck_f hq hf
      refine lv_iconst (v := 1) hx hb dM_hasRow_12 (by decide) ?_
      refine lv_goto (tgt := 17) hx hb dM_hasRow_13 rfl ?_
      exact ck_rz hf hret ck_z1 h dM_hasRow_17
def fM_layOut_b75 (fr : Int32 → Int32 → Int32 → Int32 → ck_S → Option ck_S) (k9 : Int32 → Int32 → Int32 → Int32 → Int32 → ck_S → Option ck_S) (k111 : Int32 → Int32 → Int32 → Int32 → ck_S → Option ck_S) (y0 : Int32) (x1 : Int32) (x4 : Int32) (x5 : Int32) (x7 : Int32) (x9 : Int32) (st : ck_S) : Option ck_S := (if x9 = 0 then (ck_b (fP_secondOf x5 st) fun v2 st1 => (k9 x1 x4 v2 y0 (x7 + 1) st1)) else (ck_b (fP_firstOf x5 st) fun v2 st1 => (k9 x1 x4 v2 y0 (x7 + 1) st1)))
set_option maxRecDepth 100000 in
set_option maxHeartbeats 4000000 in
theorem BM_layOut_75 {v : Nat} (C : ck_X cm_cl D cA bM_layOut 10 R_M (v + 1) p R s m args c) {st0 : ck_S} (hret : ∀ (pc : Nat) (H : Heap) (locs : List Loc) (ls : Array Slot), decode bM_layOut pc = .ok (.return_, 1) → ck_AT sh_C cm_cl D cA ad H0 st0 H locs → W p l e R s m args below meth c H locs 0 0 Q (F0 m pc ls [])) {fr : Int32 → Int32 → Int32 → Int32 → ck_S → Option ck_S} (hv : 2 ≤ v) (hrec : ∀ (a0 a1 a2 a3 : Int32) (st st1 : ck_S), fr a0 a1 a2 a3 st = some st1 → Met l yM_layOut (.code yM_layOut bM_layOut 10 none :: ck_T) (ck_R v) (va_Pc [.ref (ad 4), .int a0, .int a1, .int a2, .int a3] (ck_P sh_C cm_cl D cA ad st)) (va_Qv (fun u => u = st1) (ck_P sh_C cm_cl D cA ad) (ck_A ad sh_C.length)) 0 0 (ck_A ad sh_C.length)) {k9 : Int32 → Int32 → Int32 → Int32 → Int32 → ck_S → Option ck_S} (hk9 : ∀ (x1 : Int32) (x4 : Int32) (x5 : Int32) (x6 : Int32) (x7 : Int32) (st : ck_S) (H : Heap) (locs : List Loc) (ls : Array Slot), ck_AT sh_C cm_cl D cA ad H0 st H locs → lv_has ls 10 [(0, .ref (ad 4)), (1, .int x1), (4, .int x4), (5, .int x5), (6, .int x6), (7, .int x7)] → k9 x1 x4 x5 x6 x7 st = some st0 → W p l e R s m args below meth c H locs 0 0 Q (F0 m 9 ls [])) {k111 : Int32 → Int32 → Int32 → Int32 → ck_S → Option ck_S} (hk111 : ∀ (x1 : Int32) (x4 : Int32) (x5 : Int32) (x6 : Int32) (st : ck_S) (H : Heap) (locs : List Loc) (ls : Array Slot), ck_AT sh_C cm_cl D cA ad H0 st H locs → lv_has ls 10 [(0, .ref (ad 4)), (1, .int x1), (4, .int x4), (5, .int x5), (6, .int x6)] → k111 x1 x4 x5 x6 st = some st0 → W p l e R s m args below meth c H locs 0 0 Q (F0 m 111 ls [])) (y0 : Int32) (x1 : Int32) (x4 : Int32) (x5 : Int32) (x7 : Int32) (x9 : Int32) (st : ck_S) (H : Heap) (locs : List Loc) (ls : Array Slot) (h : ck_AT sh_C cm_cl D cA ad H0 st H locs) (hl : lv_has ls 10 [(0, .ref (ad 4)), (1, .int x1), (4, .int x4), (5, .int x5), (7, .int x7), (9, .int x9)]) (hf : fM_layOut_b75 fr k9 k111 y0 x1 x4 x5 x7 x9 st = some st0) : W p l e R s m args below meth c H locs 0 0 Q (F0 m 75 ls [.int y0]) := by
  have C1 := C
  obtain ⟨hx, hb, hml, hown, hts, hK, hlv, hlo⟩ := C1
  unfold fM_layOut_b75 at hf
  refine lv_istore (lv' := [(6, .int y0), (0, .ref (ad 4)), (1, .int x1), (4, .int x4), (5, .int x5), (7, .int x7), (9, .int x9)]) hx hb dM_layOut_75 hl (by decide) rfl (fun ls hl => ?_)
  refine lv_iload hx hb dM_layOut_77 (lv_at hl 6 rfl) ?_
  refine lv_if_eq (tgt := 94) hx hb dM_layOut_79 rfl (fun hq => ?_) (fun hq => ?_)
  · have hf := ck_t hq hf
    refine lv_aload_n hx hb dM_layOut_94 rfl (lv_at hl 1 rfl) ?_
    refine ck_gr C h FM_patterns dM_layOut_95 ?_
    refine lv_iload hx hb dM_layOut_98 (lv_at hl 4 rfl) ?_
    obtain ⟨v2, st1, hc, hf⟩ := ck_b_e hf
    refine ck_vi (As := [.int x5]) (rest := []) (q := 2) C h hl CM_P_secondOf sP_secondOf q_P (cP_secondOf l D cA ad hc) (by omega) rfl rfl (Nat.le_of_ble_eq_true rfl) dM_layOut_100 (fun H locs h => ?_)
    refine lv_istore (lv' := [(5, .int v2), (6, .int y0), (0, .ref (ad 4)), (1, .int x1), (4, .int x4), (7, .int x7), (9, .int x9)]) hx hb dM_layOut_103 hl (by decide) rfl (fun ls hl => ?_)
    refine lv_iinc (k := 5) (v := (x7 + 1)) (lv' := [(7, .int (x7 + 1)), (5, .int v2), (6, .int y0), (0, .ref (ad 4)), (1, .int x1), (4, .int x4), (9, .int x9)]) hx hb dM_layOut_105 hl rfl rfl (by decide) rfl (fun ls hl => ?_)
    refine lv_goto (tgt := 9) hx hb dM_layOut_108 rfl ?_
    exact hk9 _ _ _ _ _ _ _ _ _ h (lv_sub hl [3, 4, 5, 1, 2, 0] rfl) hf
  · have hf := ck_f hq hf
    refine lv_aload_n hx hb dM_layOut_82 rfl (lv_at hl 1 rfl) ?_
    refine ck_gr C h FM_patterns dM_layOut_83 ?_
    refine lv_iload hx hb dM_layOut_86 (lv_at hl 4 rfl) ?_
    obtain ⟨v2, st1, hc, hf⟩ := ck_b_e hf
    refine ck_vi (As := [.int x5]) (rest := []) (q := 2) C h hl CM_P_firstOf sP_firstOf q_P (cP_firstOf l D cA ad hc) (by omega) rfl rfl (Nat.le_of_ble_eq_true rfl) dM_layOut_88 (fun H locs h => ?_)
    refine lv_goto (tgt := 103) hx hb dM_layOut_91 rfl ?_
    refine lv_istore (lv' := [(5, .int v2), (6, .int y0), (0, .ref (ad 4)), (1, .int x1), (4, .int x4), (7, .int x7), (9, .int x9)]) hx hb dM_layOut_103 hl (by decide) rfl (fun ls hl => ?_)
    refine lv_iinc (k := 5) (v := (x7 + 1)) (lv' := [(7, .int (x7 + 1)), (5, .int v2), (6, .int y0), (0, .ref (ad 4)), (1, .int x1), (4, .int x4), (9, .int x9)]) hx hb dM_layOut_105 hl rfl rfl (by decide) rfl (fun ls hl => ?_)
    refine lv_goto (tgt := 9) hx hb dM_layOut_108 rfl ?_
    exact hk9 _ _ _ _ _ _ _ _ _ h (lv_sub hl [3, 4, 5, 1, 2, 0] rfl) hf
def fM_layOut_b58 (fr : Int32 → Int32 → Int32 → Int32 → ck_S → Option ck_S) (k9 : Int32 → Int32 → Int32 → Int32 → Int32 → ck_S → Option ck_S) (k111 : Int32 → Int32 → Int32 → Int32 → ck_S → Option ck_S) (y0 : Int32) (x1 : Int32) (x4 : Int32) (x5 : Int32) (x6 : Int32) (x7 : Int32) (x8 : Int32) (st : ck_S) : Option ck_S := (if y0 = 0 then (fM_layOut_b75 fr k9 k111 (x6 - x8) x1 x4 x5 x7 y0 st) else (fM_layOut_b75 fr k9 k111 x6 x1 x4 x5 x7 y0 st))
set_option maxRecDepth 100000 in
set_option maxHeartbeats 4000000 in
theorem BM_layOut_58 {v : Nat} (C : ck_X cm_cl D cA bM_layOut 10 R_M (v + 1) p R s m args c) {st0 : ck_S} (hret : ∀ (pc : Nat) (H : Heap) (locs : List Loc) (ls : Array Slot), decode bM_layOut pc = .ok (.return_, 1) → ck_AT sh_C cm_cl D cA ad H0 st0 H locs → W p l e R s m args below meth c H locs 0 0 Q (F0 m pc ls [])) {fr : Int32 → Int32 → Int32 → Int32 → ck_S → Option ck_S} (hv : 2 ≤ v) (hrec : ∀ (a0 a1 a2 a3 : Int32) (st st1 : ck_S), fr a0 a1 a2 a3 st = some st1 → Met l yM_layOut (.code yM_layOut bM_layOut 10 none :: ck_T) (ck_R v) (va_Pc [.ref (ad 4), .int a0, .int a1, .int a2, .int a3] (ck_P sh_C cm_cl D cA ad st)) (va_Qv (fun u => u = st1) (ck_P sh_C cm_cl D cA ad) (ck_A ad sh_C.length)) 0 0 (ck_A ad sh_C.length)) {k9 : Int32 → Int32 → Int32 → Int32 → Int32 → ck_S → Option ck_S} (hk9 : ∀ (x1 : Int32) (x4 : Int32) (x5 : Int32) (x6 : Int32) (x7 : Int32) (st : ck_S) (H : Heap) (locs : List Loc) (ls : Array Slot), ck_AT sh_C cm_cl D cA ad H0 st H locs → lv_has ls 10 [(0, .ref (ad 4)), (1, .int x1), (4, .int x4), (5, .int x5), (6, .int x6), (7, .int x7)] → k9 x1 x4 x5 x6 x7 st = some st0 → W p l e R s m args below meth c H locs 0 0 Q (F0 m 9 ls [])) {k111 : Int32 → Int32 → Int32 → Int32 → ck_S → Option ck_S} (hk111 : ∀ (x1 : Int32) (x4 : Int32) (x5 : Int32) (x6 : Int32) (st : ck_S) (H : Heap) (locs : List Loc) (ls : Array Slot), ck_AT sh_C cm_cl D cA ad H0 st H locs → lv_has ls 10 [(0, .ref (ad 4)), (1, .int x1), (4, .int x4), (5, .int x5), (6, .int x6)] → k111 x1 x4 x5 x6 st = some st0 → W p l e R s m args below meth c H locs 0 0 Q (F0 m 111 ls [])) (y0 : Int32) (x1 : Int32) (x4 : Int32) (x5 : Int32) (x6 : Int32) (x7 : Int32) (x8 : Int32) (st : ck_S) (H : Heap) (locs : List Loc) (ls : Array Slot) (h : ck_AT sh_C cm_cl D cA ad H0 st H locs) (hl : lv_has ls 10 [(0, .ref (ad 4)), (1, .int x1), (4, .int x4), (5, .int x5), (6, .int x6), (7, .int x7), (8, .int x8)]) (hf : fM_layOut_b58 fr k9 k111 y0 x1 x4 x5 x6 x7 x8 st = some st0) : W p l e R s m args below meth c H locs 0 0 Q (F0 m 58 ls [.int y0]) := by
  have C1 := C
  obtain ⟨hx, hb, hml, hown, hts, hK, hlv, hlo⟩ := C1
  unfold fM_layOut_b58 at hf
  refine lv_istore (lv' := [(9, .int y0), (0, .ref (ad 4)), (1, .int x1), (4, .int x4), (5, .int x5), (6, .int x6), (7, .int x7), (8, .int x8)]) hx hb dM_layOut_58 hl (by decide) rfl (fun ls hl => ?_)
  refine lv_iload hx hb dM_layOut_60 (lv_at hl 0 rfl) ?_
  refine lv_if_eq (tgt := 70) hx hb dM_layOut_62 rfl (fun hq => ?_) (fun hq => ?_)
  · have hf := ck_t hq hf
    refine lv_iload hx hb dM_layOut_70 (lv_at hl 5 rfl) ?_
    refine lv_iload hx hb dM_layOut_72 (lv_at hl 7 rfl) ?_
    refine lv_isub hx hb dM_layOut_74 ?_
    exact BM_layOut_75 C hret hv hrec hk9 hk111 _ _ _ _ _ _ _ _ _ _ h (lv_sub hl [1, 2, 3, 4, 6, 0] rfl) hf
  · have hf := ck_f hq hf
    refine lv_iload hx hb dM_layOut_65 (lv_at hl 5 rfl) ?_
    refine lv_goto (tgt := 75) hx hb dM_layOut_67 rfl ?_
    exact BM_layOut_75 C hret hv hrec hk9 hk111 _ _ _ _ _ _ _ _ _ _ h (lv_sub hl [1, 2, 3, 4, 6, 0] rfl) hf
def fM_layOut_l9 (fr : Int32 → Int32 → Int32 → Int32 → ck_S → Option ck_S) (k111 : Int32 → Int32 → Int32 → Int32 → ck_S → Option ck_S) : Nat → Int32 → Int32 → Int32 → Int32 → Int32 → ck_S → Option ck_S
  | 0, _, _, _, _, _, _ => none
  | n + 1, x1, x4, x5, x6, x7, st => (if (8 : Int32) ≤ x7 then (k111 x1 x4 x5 x6 st) else (ck_b (fP_isEither x5 st) fun v2 st1 => (if v2 = 0 then (k111 x1 x4 x5 x6 st1) else (ck_b (fP_firstOf x5 st1) fun v4 st3 => (ck_b (fP_choicesOf v4 st3) fun v6 st5 => (if v6 ≤ x6 then (fM_layOut_b58 fr (fM_layOut_l9 fr k111 n) k111 (0 : Int32) x1 x4 x5 x6 x7 v6 st5) else (fM_layOut_b58 fr (fM_layOut_l9 fr k111 n) k111 (1 : Int32) x1 x4 x5 x6 x7 v6 st5)))))))
set_option maxRecDepth 100000 in
set_option maxHeartbeats 4000000 in
theorem BM_layOut_9 {v : Nat} (C : ck_X cm_cl D cA bM_layOut 10 R_M (v + 1) p R s m args c) {st0 : ck_S} (hret : ∀ (pc : Nat) (H : Heap) (locs : List Loc) (ls : Array Slot), decode bM_layOut pc = .ok (.return_, 1) → ck_AT sh_C cm_cl D cA ad H0 st0 H locs → W p l e R s m args below meth c H locs 0 0 Q (F0 m pc ls [])) {fr : Int32 → Int32 → Int32 → Int32 → ck_S → Option ck_S} (hv : 2 ≤ v) (hrec : ∀ (a0 a1 a2 a3 : Int32) (st st1 : ck_S), fr a0 a1 a2 a3 st = some st1 → Met l yM_layOut (.code yM_layOut bM_layOut 10 none :: ck_T) (ck_R v) (va_Pc [.ref (ad 4), .int a0, .int a1, .int a2, .int a3] (ck_P sh_C cm_cl D cA ad st)) (va_Qv (fun u => u = st1) (ck_P sh_C cm_cl D cA ad) (ck_A ad sh_C.length)) 0 0 (ck_A ad sh_C.length)) {k111 : Int32 → Int32 → Int32 → Int32 → ck_S → Option ck_S} (hk111 : ∀ (x1 : Int32) (x4 : Int32) (x5 : Int32) (x6 : Int32) (st : ck_S) (H : Heap) (locs : List Loc) (ls : Array Slot), ck_AT sh_C cm_cl D cA ad H0 st H locs → lv_has ls 10 [(0, .ref (ad 4)), (1, .int x1), (4, .int x4), (5, .int x5), (6, .int x6)] → k111 x1 x4 x5 x6 st = some st0 → W p l e R s m args below meth c H locs 0 0 Q (F0 m 111 ls [])) : ∀ (n : Nat) (x1 : Int32) (x4 : Int32) (x5 : Int32) (x6 : Int32) (x7 : Int32) (st : ck_S) (H : Heap) (locs : List Loc) (ls : Array Slot), ck_AT sh_C cm_cl D cA ad H0 st H locs → lv_has ls 10 [(0, .ref (ad 4)), (1, .int x1), (4, .int x4), (5, .int x5), (6, .int x6), (7, .int x7)] → fM_layOut_l9 fr k111 n x1 x4 x5 x6 x7 st = some st0 → W p l e R s m args below meth c H locs 0 0 Q (F0 m 9 ls []) := by
  have C1 := C
  obtain ⟨hx, hb, hml, hown, hts, hK, hlv, hlo⟩ := C1
  intro n
  induction n with
  | zero => intro _ _ _ _ _ _ _ _ _ _ _ hf; cases hf
  | succ n ih =>
    intro x1 x4 x5 x6 x7 st H locs ls h hl hf
    rw [fM_layOut_l9] at hf
    refine lv_iload hx hb dM_layOut_9 (lv_at hl 5 rfl) ?_
    refine lv_bipush (v := 8) hx hb dM_layOut_11 (by decide) ?_
    refine lv_icmp_ge (tgt := 111) hx hb dM_layOut_13 rfl (fun hq => ?_) (fun hq => ?_)
    · have hf := ck_t hq hf
      exact hk111 _ _ _ _ _ _ _ _ h (lv_sub hl [0, 1, 2, 3, 4] rfl) hf
    · have hf := ck_f hq hf
      refine lv_aload_n hx hb dM_layOut_16 rfl (lv_at hl 0 rfl) ?_
      refine ck_gr C h FM_patterns dM_layOut_17 ?_
      refine lv_iload hx hb dM_layOut_20 (lv_at hl 3 rfl) ?_
      obtain ⟨v2, st1, hc, hf⟩ := ck_b_e hf
      refine ck_vi (As := [.int x5]) (rest := []) (q := 2) C h hl CM_P_isEither sP_isEither q_P (cP_isEither l D cA ad hc) (by omega) rfl rfl (Nat.le_of_ble_eq_true rfl) dM_layOut_22 (fun H locs h => ?_)
      refine lv_if_eq (tgt := 111) hx hb dM_layOut_25 rfl (fun hq => ?_) (fun hq => ?_)
      · have hf := ck_t hq hf
        exact hk111 _ _ _ _ _ _ _ _ h (lv_sub hl [0, 1, 2, 3, 4] rfl) hf
      · have hf := ck_f hq hf
        refine lv_aload_n hx hb dM_layOut_28 rfl (lv_at hl 0 rfl) ?_
        refine ck_gr C h FM_patterns dM_layOut_29 ?_
        refine lv_aload_n hx hb dM_layOut_32 rfl (lv_at hl 0 rfl) ?_
        refine ck_gr C h FM_patterns dM_layOut_33 ?_
        refine lv_iload hx hb dM_layOut_36 (lv_at hl 3 rfl) ?_
        obtain ⟨v4, st3, hc, hf⟩ := ck_b_e hf
        refine ck_vi (As := [.int x5]) (rest := [.ref (ad 2)]) (q := 2) C h hl CM_P_firstOf sP_firstOf q_P (cP_firstOf l D cA ad hc) (by omega) rfl rfl (Nat.le_of_ble_eq_true rfl) dM_layOut_38 (fun H locs h => ?_)
        obtain ⟨v6, st5, hc, hf⟩ := ck_b_e hf
        refine ck_vi (As := [.int v4]) (rest := []) (q := 2) C h hl CM_P_choicesOf sP_choicesOf q_P (cP_choicesOf l D cA ad hc) (by omega) rfl rfl (Nat.le_of_ble_eq_true rfl) dM_layOut_41 (fun H locs h => ?_)
        refine lv_istore (lv' := [(8, .int v6), (0, .ref (ad 4)), (1, .int x1), (4, .int x4), (5, .int x5), (6, .int x6), (7, .int x7)]) hx hb dM_layOut_44 hl (by decide) rfl (fun ls hl => ?_)
        refine lv_iload hx hb dM_layOut_46 (lv_at hl 5 rfl) ?_
        refine lv_iload hx hb dM_layOut_48 (lv_at hl 0 rfl) ?_
        refine lv_icmp_ge (tgt := 57) hx hb dM_layOut_50 rfl (fun hq => ?_) (fun hq => ?_)
        · have hf := ck_t hq hf
          refine lv_iconst (v := 0) hx hb dM_layOut_57 (by decide) ?_
          exact BM_layOut_58 C hret hv hrec ih hk111 _ _ _ _ _ _ _ _ _ _ _ h (lv_sub hl [1, 2, 3, 4, 5, 6, 0] rfl) hf
        · have hf := ck_f hq hf
          refine lv_iconst (v := 1) hx hb dM_layOut_53 (by decide) ?_
          refine lv_goto (tgt := 58) hx hb dM_layOut_54 rfl ?_
          exact BM_layOut_58 C hret hv hrec ih hk111 _ _ _ _ _ _ _ _ _ _ _ h (lv_sub hl [1, 2, 3, 4, 5, 6, 0] rfl) hf
def fM_layOut_b111 (fr : Int32 → Int32 → Int32 → Int32 → ck_S → Option ck_S) (x1 : Int32) (x4 : Int32) (x5 : Int32) (x6 : Int32) (st : ck_S) : Option ck_S := (if (16 : Int32) ≤ x4 then (some st) else (ck_b (fP_has x5 st) fun v2 st1 => (if v2 = 0 then (some st1) else (ck_b (fP_isOpen x5 st1) fun v4 st3 => (if v4 = 0 then (ck_gd x4 16 (ck_gd x4 16 (ck_b (fP_symbolOf x5 (ck_u st3 23 (x4).toNatClampNeg ((st3 23 (x4).toNatClampNeg) ||| ((1 : Int32) <<< (x1 &&& 31))))) fun v6 st5 => (ck_gd ((x4 * (16 : Int32)) + x1) 256 (ck_b (fP_itsType x5 (ck_u st5 24 (((x4 * (16 : Int32)) + x1)).toNatClampNeg v6)) fun v8 st7 => (ck_gd ((x4 * (16 : Int32)) + x1) 256 (ck_b (fP_secondOf x5 (ck_u st7 25 (((x4 * (16 : Int32)) + x1)).toNatClampNeg v8)) fun v10 st9 => (ck_b (fP_choicesOf v10 st9) fun v12 st11 => (ck_b (fP_firstOf x5 st11) fun v14 st13 => (ck_dz v12 (ck_bv (fr x1 v14 (x6 / v12) ((2 : Int32) * x4) st13) fun st15 => (ck_b (fP_secondOf x5 st15) fun v17 st16 => (ck_dz v12 (ck_bv (fr x1 v17 (x6 - x6 / v12 * v12) (((2 : Int32) * x4) + (1 : Int32)) st16) fun st18 => (some st18))))))))))))))) else (some st3))))))
set_option maxRecDepth 100000 in
set_option maxHeartbeats 4000000 in
theorem BM_layOut_111 {v : Nat} (C : ck_X cm_cl D cA bM_layOut 10 R_M (v + 1) p R s m args c) {st0 : ck_S} (hret : ∀ (pc : Nat) (H : Heap) (locs : List Loc) (ls : Array Slot), decode bM_layOut pc = .ok (.return_, 1) → ck_AT sh_C cm_cl D cA ad H0 st0 H locs → W p l e R s m args below meth c H locs 0 0 Q (F0 m pc ls [])) {fr : Int32 → Int32 → Int32 → Int32 → ck_S → Option ck_S} (hv : 2 ≤ v) (hrec : ∀ (a0 a1 a2 a3 : Int32) (st st1 : ck_S), fr a0 a1 a2 a3 st = some st1 → Met l yM_layOut (.code yM_layOut bM_layOut 10 none :: ck_T) (ck_R v) (va_Pc [.ref (ad 4), .int a0, .int a1, .int a2, .int a3] (ck_P sh_C cm_cl D cA ad st)) (va_Qv (fun u => u = st1) (ck_P sh_C cm_cl D cA ad) (ck_A ad sh_C.length)) 0 0 (ck_A ad sh_C.length)) (x1 : Int32) (x4 : Int32) (x5 : Int32) (x6 : Int32) (st : ck_S) (H : Heap) (locs : List Loc) (ls : Array Slot) (h : ck_AT sh_C cm_cl D cA ad H0 st H locs) (hl : lv_has ls 10 [(0, .ref (ad 4)), (1, .int x1), (4, .int x4), (5, .int x5), (6, .int x6)]) (hf : fM_layOut_b111 fr x1 x4 x5 x6 st = some st0) : W p l e R s m args below meth c H locs 0 0 Q (F0 m 111 ls []) := by
  have C1 := C
  obtain ⟨hx, hb, hml, hown, hts, hK, hlv, hlo⟩ := C1
  unfold fM_layOut_b111 at hf
  refine lv_iload hx hb dM_layOut_111 (lv_at hl 2 rfl) ?_
  refine lv_bipush (v := 16) hx hb dM_layOut_113 (by decide) ?_
  refine lv_icmp_ge (tgt := 142) hx hb dM_layOut_115 rfl (fun hq => ?_) (fun hq => ?_)
  · have hf := ck_t hq hf
    exact ck_rv hf hret h dM_layOut_142
  · have hf := ck_f hq hf
    refine lv_aload_n hx hb dM_layOut_118 rfl (lv_at hl 0 rfl) ?_
    refine ck_gr C h FM_patterns dM_layOut_119 ?_
    refine lv_iload hx hb dM_layOut_122 (lv_at hl 3 rfl) ?_
    obtain ⟨v2, st1, hc, hf⟩ := ck_b_e hf
    refine ck_vi (As := [.int x5]) (rest := []) (q := 2) C h hl CM_P_has sP_has q_P (cP_has l D cA ad hc) (by omega) rfl rfl (Nat.le_of_ble_eq_true rfl) dM_layOut_124 (fun H locs h => ?_)
    refine lv_if_eq (tgt := 142) hx hb dM_layOut_127 rfl (fun hq => ?_) (fun hq => ?_)
    · have hf := ck_t hq hf
      exact ck_rv hf hret h dM_layOut_142
    · have hf := ck_f hq hf
      refine lv_aload_n hx hb dM_layOut_130 rfl (lv_at hl 0 rfl) ?_
      refine ck_gr C h FM_patterns dM_layOut_131 ?_
      refine lv_iload hx hb dM_layOut_134 (lv_at hl 3 rfl) ?_
      obtain ⟨v4, st3, hc, hf⟩ := ck_b_e hf
      refine ck_vi (As := [.int x5]) (rest := []) (q := 2) C h hl CM_P_isOpen sP_isOpen q_P (cP_isOpen l D cA ad hc) (by omega) rfl rfl (Nat.le_of_ble_eq_true rfl) dM_layOut_136 (fun H locs h => ?_)
      refine lv_if_eq (tgt := 143) hx hb dM_layOut_139 rfl (fun hq => ?_) (fun hq => ?_)
      · have hf := ck_t hq hf
        refine lv_aload_n hx hb dM_layOut_143 rfl (lv_at hl 0 rfl) ?_
        refine ck_gr C h FM_askers dM_layOut_144 ?_
        refine lv_iload hx hb dM_layOut_147 (lv_at hl 2 rfl) ?_
        refine lv_dup2_11 hx hb dM_layOut_149 rfl rfl ?_
        obtain ⟨hg, hf⟩ := ck_gd_e hf
        refine ck_ai (x := (st3 23 (x4).toNatClampNeg)) C h (show sh_C[23]? = some (.inr (0, 16)) from rfl) hg rfl dM_layOut_150 ?_
        refine lv_iconst (v := 1) hx hb dM_layOut_151 (by decide) ?_
        refine lv_iload_n hx hb dM_layOut_152 rfl (lv_at hl 1 rfl) ?_
        refine lv_ishl hx hb dM_layOut_153 ?_
        refine lv_ior hx hb dM_layOut_154 ?_
        obtain ⟨hg, hf⟩ := ck_gd_e hf
        refine ck_si C h (show sh_C[23]? = some (.inr (0, 16)) from rfl) hg dM_layOut_155 (fun H locs h => ?_)
        refine lv_aload_n hx hb dM_layOut_156 rfl (lv_at hl 0 rfl) ?_
        refine ck_gr C h FM_askedSymbol dM_layOut_157 ?_
        refine lv_iload hx hb dM_layOut_160 (lv_at hl 2 rfl) ?_
        refine lv_bipush (v := 16) hx hb dM_layOut_162 (by decide) ?_
        refine lv_imul hx hb dM_layOut_164 ?_
        refine lv_iload_n hx hb dM_layOut_165 rfl (lv_at hl 1 rfl) ?_
        refine lv_iadd hx hb dM_layOut_166 ?_
        refine lv_aload_n hx hb dM_layOut_167 rfl (lv_at hl 0 rfl) ?_
        refine ck_gr C h FM_patterns dM_layOut_168 ?_
        refine lv_iload hx hb dM_layOut_171 (lv_at hl 3 rfl) ?_
        obtain ⟨v6, st5, hc, hf⟩ := ck_b_e hf
        refine ck_vi (As := [.int x5]) (rest := [.int ((x4 * (16 : Int32)) + x1), .ref (ad 24)]) (q := 2) C h hl CM_P_symbolOf sP_symbolOf q_P (cP_symbolOf l D cA ad hc) (by omega) rfl rfl (Nat.le_of_ble_eq_true rfl) dM_layOut_173 (fun H locs h => ?_)
        obtain ⟨hg, hf⟩ := ck_gd_e hf
        refine ck_si C h (show sh_C[24]? = some (.inr (0, 256)) from rfl) hg dM_layOut_176 (fun H locs h => ?_)
        refine lv_aload_n hx hb dM_layOut_177 rfl (lv_at hl 0 rfl) ?_
        refine ck_gr C h FM_askedType dM_layOut_178 ?_
        refine lv_iload hx hb dM_layOut_181 (lv_at hl 2 rfl) ?_
        refine lv_bipush (v := 16) hx hb dM_layOut_183 (by decide) ?_
        refine lv_imul hx hb dM_layOut_185 ?_
        refine lv_iload_n hx hb dM_layOut_186 rfl (lv_at hl 1 rfl) ?_
        refine lv_iadd hx hb dM_layOut_187 ?_
        refine lv_aload_n hx hb dM_layOut_188 rfl (lv_at hl 0 rfl) ?_
        refine ck_gr C h FM_patterns dM_layOut_189 ?_
        refine lv_iload hx hb dM_layOut_192 (lv_at hl 3 rfl) ?_
        obtain ⟨v8, st7, hc, hf⟩ := ck_b_e hf
        refine ck_vi (As := [.int x5]) (rest := [.int ((x4 * (16 : Int32)) + x1), .ref (ad 25)]) (q := 2) C h hl CM_P_itsType sP_itsType q_P (cP_itsType l D cA ad hc) (by omega) rfl rfl (Nat.le_of_ble_eq_true rfl) dM_layOut_194 (fun H locs h => ?_)
        obtain ⟨hg, hf⟩ := ck_gd_e hf
        refine ck_si C h (show sh_C[25]? = some (.inr (0, 256)) from rfl) hg dM_layOut_197 (fun H locs h => ?_)
        refine lv_aload_n hx hb dM_layOut_198 rfl (lv_at hl 0 rfl) ?_
        refine ck_gr C h FM_patterns dM_layOut_199 ?_
        refine lv_aload_n hx hb dM_layOut_202 rfl (lv_at hl 0 rfl) ?_
        refine ck_gr C h FM_patterns dM_layOut_203 ?_
        refine lv_iload hx hb dM_layOut_206 (lv_at hl 3 rfl) ?_
        obtain ⟨v10, st9, hc, hf⟩ := ck_b_e hf
        refine ck_vi (As := [.int x5]) (rest := [.ref (ad 2)]) (q := 2) C h hl CM_P_secondOf sP_secondOf q_P (cP_secondOf l D cA ad hc) (by omega) rfl rfl (Nat.le_of_ble_eq_true rfl) dM_layOut_208 (fun H locs h => ?_)
        obtain ⟨v12, st11, hc, hf⟩ := ck_b_e hf
        refine ck_vi (As := [.int v10]) (rest := []) (q := 2) C h hl CM_P_choicesOf sP_choicesOf q_P (cP_choicesOf l D cA ad hc) (by omega) rfl rfl (Nat.le_of_ble_eq_true rfl) dM_layOut_211 (fun H locs h => ?_)
        refine lv_istore (lv' := [(7, .int v12), (0, .ref (ad 4)), (1, .int x1), (4, .int x4), (5, .int x5), (6, .int x6)]) hx hb dM_layOut_214 hl (by decide) rfl (fun ls hl => ?_)
        refine lv_aload_n hx hb dM_layOut_216 rfl (lv_at hl 1 rfl) ?_
        refine lv_iload_n hx hb dM_layOut_217 rfl (lv_at hl 2 rfl) ?_
        refine lv_aload_n hx hb dM_layOut_218 rfl (lv_at hl 1 rfl) ?_
        refine ck_gr C h FM_patterns dM_layOut_219 ?_
        refine lv_iload hx hb dM_layOut_222 (lv_at hl 4 rfl) ?_
        obtain ⟨v14, st13, hc, hf⟩ := ck_b_e hf
        refine ck_vi (As := [.int x5]) (rest := [.int x1, .ref (ad 4)]) (q := 2) C h hl CM_P_firstOf sP_firstOf q_P (cP_firstOf l D cA ad hc) (by omega) rfl rfl (Nat.le_of_ble_eq_true rfl) dM_layOut_224 (fun H locs h => ?_)
        refine lv_iload hx hb dM_layOut_227 (lv_at hl 5 rfl) ?_
        refine lv_iload hx hb dM_layOut_229 (lv_at hl 0 rfl) ?_
        obtain ⟨hz, hf⟩ := ck_dz_e hf
        refine lv_idiv hx hb dM_layOut_231 hz ?_
        refine lv_iconst (v := 2) hx hb dM_layOut_232 (by decide) ?_
        refine lv_iload hx hb dM_layOut_233 (lv_at hl 3 rfl) ?_
        refine lv_imul hx hb dM_layOut_235 ?_
        obtain ⟨st15, hc, hf⟩ := ck_bv_e hf
        refine ck_vv (As := [.int x1, .int v14, .int (x6 / v12), .int ((2 : Int32) * x4)]) (rest := []) (q := 4) C h hl CM_M_layOut sM_layOut q_M (hrec _ _ _ _ _ _ hc) (Nat.le_refl _) rfl rfl (Nat.le_of_ble_eq_true rfl) dM_layOut_236 (fun H locs h => ?_)
        refine lv_aload_n hx hb dM_layOut_239 rfl (lv_at hl 1 rfl) ?_
        refine lv_iload_n hx hb dM_layOut_240 rfl (lv_at hl 2 rfl) ?_
        refine lv_aload_n hx hb dM_layOut_241 rfl (lv_at hl 1 rfl) ?_
        refine ck_gr C h FM_patterns dM_layOut_242 ?_
        refine lv_iload hx hb dM_layOut_245 (lv_at hl 4 rfl) ?_
        obtain ⟨v17, st16, hc, hf⟩ := ck_b_e hf
        refine ck_vi (As := [.int x5]) (rest := [.int x1, .ref (ad 4)]) (q := 2) C h hl CM_P_secondOf sP_secondOf q_P (cP_secondOf l D cA ad hc) (by omega) rfl rfl (Nat.le_of_ble_eq_true rfl) dM_layOut_247 (fun H locs h => ?_)
        refine lv_iload hx hb dM_layOut_250 (lv_at hl 5 rfl) ?_
        refine lv_iload hx hb dM_layOut_252 (lv_at hl 0 rfl) ?_
        obtain ⟨hz, hf⟩ := ck_dz_e hf
        refine lv_irem hx hb dM_layOut_254 hz ?_
        refine lv_iconst (v := 2) hx hb dM_layOut_255 (by decide) ?_
        refine lv_iload hx hb dM_layOut_256 (lv_at hl 3 rfl) ?_
        refine lv_imul hx hb dM_layOut_258 ?_
        refine lv_iconst (v := 1) hx hb dM_layOut_259 (by decide) ?_
        refine lv_iadd hx hb dM_layOut_260 ?_
        obtain ⟨st18, hc, hf⟩ := ck_bv_e hf
        refine ck_vv (As := [.int x1, .int v17, .int (x6 - x6 / v12 * v12), .int (((2 : Int32) * x4) + (1 : Int32))]) (rest := []) (q := 4) C h hl CM_M_layOut sM_layOut q_M (hrec _ _ _ _ _ _ hc) (Nat.le_refl _) rfl rfl (Nat.le_of_ble_eq_true rfl) dM_layOut_261 (fun H locs h => ?_)
        exact ck_rv hf hret h dM_layOut_264
      · have hf := ck_f hq hf
        exact ck_rv hf hret h dM_layOut_142
def fM_layOut_s (fr : Int32 → Int32 → Int32 → Int32 → ck_S → Option ck_S) (x1 : Int32) (x2 : Int32) (x3 : Int32) (x4 : Int32) (st : ck_S) : Option ck_S := (fM_layOut_l9 fr (fun x1 x4 x5 x6 st => (fM_layOut_b111 fr x1 x4 x5 x6 st)) 4096 x1 x4 x2 x3 (0 : Int32) st)
def fM_layOut_r : Nat → Int32 → Int32 → Int32 → Int32 → ck_S → Option ck_S
  | 0, _, _, _, _, _ => none
  | n + 1, x1, x2, x3, x4, st => fM_layOut_s (fM_layOut_r n) x1 x2 x3 x4 st
def fM_layOut (x1 : Int32) (x2 : Int32) (x3 : Int32) (x4 : Int32) (st : ck_S) : Option ck_S := fM_layOut_r 8 x1 x2 x3 x4 st
set_option maxRecDepth 100000 in
set_option maxHeartbeats 4000000 in
theorem cM_layOut_s (l : Launch) (D : va_G) (cA : Nat → ClassId) (ad : Nat → Nat) {v : Nat} {fr : Int32 → Int32 → Int32 → Int32 → ck_S → Option ck_S} (hv : 2 ≤ v) (hrec : ∀ (a0 a1 a2 a3 : Int32) (st st1 : ck_S), fr a0 a1 a2 a3 st = some st1 → Met l yM_layOut (.code yM_layOut bM_layOut 10 none :: ck_T) (ck_R v) (va_Pc [.ref (ad 4), .int a0, .int a1, .int a2, .int a3] (ck_P sh_C cm_cl D cA ad st)) (va_Qv (fun u => u = st1) (ck_P sh_C cm_cl D cA ad) (ck_A ad sh_C.length)) 0 0 (ck_A ad sh_C.length)) {x1 : Int32} {x2 : Int32} {x3 : Int32} {x4 : Int32} {st : ck_S} {st0 : ck_S} (hf : fM_layOut_s fr x1 x2 x3 x4 st = some st0) : Met l yM_layOut (.code yM_layOut bM_layOut 10 none :: ck_T) (ck_R (v + 1)) (va_Pc [.ref (ad 4), .int x1, .int x2, .int x3, .int x4] (ck_P sh_C cm_cl D cA ad st)) (va_Qv (fun u => u = st0) (ck_P sh_C cm_cl D cA ad) (ck_A ad sh_C.length)) 0 0 (ck_A ad sh_C.length) := by
  refine ck_met_v (own := R_M) (by decide +kernel) rfl (Nat.le_of_ble_eq_true rfl) (fun p e R s m args below meth c H0 Q ls C hret h hl => ?_)
  have C1 := C
  obtain ⟨hx, hb, hml, hown, hts, hK, hlv, hlo⟩ := C1
  have hl : lv_has ls 10 [(0, .ref (ad 4)), (1, .int x1), (2, .int x2), (3, .int x3), (4, .int x4)] := hl
  unfold fM_layOut_s at hf
  refine lv_iload_n hx hb dM_layOut_0 rfl (lv_at hl 2 rfl) ?_
  refine lv_istore (lv' := [(5, .int x2), (0, .ref (ad 4)), (1, .int x1), (2, .int x2), (3, .int x3), (4, .int x4)]) hx hb dM_layOut_1 hl (by decide) rfl (fun ls hl => ?_)
  refine lv_iload_n hx hb dM_layOut_3 rfl (lv_at hl 4 rfl) ?_
  refine lv_istore (lv' := [(6, .int x3), (5, .int x2), (0, .ref (ad 4)), (1, .int x1), (2, .int x2), (3, .int x3), (4, .int x4)]) hx hb dM_layOut_4 hl (by decide) rfl (fun ls hl => ?_)
  refine lv_iconst (v := 0) hx hb dM_layOut_6 (by decide) ?_
  refine lv_istore (lv' := [(7, .int (0 : Int32)), (6, .int x3), (5, .int x2), (0, .ref (ad 4)), (1, .int x1), (2, .int x2), (3, .int x3), (4, .int x4)]) hx hb dM_layOut_7 hl (by decide) rfl (fun ls hl => ?_)
  exact BM_layOut_9 C hret hv hrec (fun x1 x4 x5 x6 st H locs ls h hl hf => by
      exact BM_layOut_111 C hret hv hrec _ _ _ _ _ _ _ _ h (lv_sub hl [0, 1, 2, 3, 4] rfl) hf) 4096 _ _ _ _ _ _ _ _ _ h (lv_sub hl [3, 4, 7, 2, 1, 0] rfl) hf
set_option maxRecDepth 100000 in
set_option maxHeartbeats 4000000 in
theorem cM_layOut_r (l : Launch) (D : va_G) (cA : Nat → ClassId) (ad : Nat → Nat) : ∀ (n : Nat) (x1 : Int32) (x2 : Int32) (x3 : Int32) (x4 : Int32) (st st0 : ck_S), fM_layOut_r n x1 x2 x3 x4 st = some st0 → Met l yM_layOut (.code yM_layOut bM_layOut 10 none :: ck_T) (ck_R (2 + n)) (va_Pc [.ref (ad 4), .int x1, .int x2, .int x3, .int x4] (ck_P sh_C cm_cl D cA ad st)) (va_Qv (fun u => u = st0) (ck_P sh_C cm_cl D cA ad) (ck_A ad sh_C.length)) 0 0 (ck_A ad sh_C.length) := by
  intro n
  induction n with
  | zero => intro _ _ _ _ _ _ hf; cases hf
  | succ n ih =>
    intro x1 x2 x3 x4 st st0 hf
    have hf : fM_layOut_s (fM_layOut_r n) x1 x2 x3 x4 st = some st0 := hf
    exact cM_layOut_s l D cA ad (Nat.le_add_right _ _) ih hf
theorem cM_layOut (l : Launch) (D : va_G) (cA : Nat → ClassId) (ad : Nat → Nat) {x1 : Int32} {x2 : Int32} {x3 : Int32} {x4 : Int32} {st : ck_S} {st0 : ck_S} (hf : fM_layOut x1 x2 x3 x4 st = some st0) : Met l yM_layOut (.code yM_layOut bM_layOut 10 none :: ck_T) (ck_R 10) (va_Pc [.ref (ad 4), .int x1, .int x2, .int x3, .int x4] (ck_P sh_C cm_cl D cA ad st)) (va_Qv (fun u => u = st0) (ck_P sh_C cm_cl D cA ad) (ck_A ad sh_C.length)) 0 0 (ck_A ad sh_C.length) := cM_layOut_r l D cA ad 8 _ _ _ _ _ _ hf
def fM_addRow_l40 (k80 : Int32 → Int32 → ck_S → Option (Int32 × ck_S)) : Nat → Int32 → Int32 → Int32 → Int32 → ck_S → Option (Int32 × ck_S)
  | 0, _, _, _, _, _ => none
  | n + 1, x1, x2, x3, x4, st => (if x2 ≤ x4 then (k80 x2 x3 st) else (ck_gd ((st 4 8) + x4) 16 (ck_bv (fM_layOut ((st 4 8) + x4) x1 x4 (1 : Int32) (ck_u st 22 (((st 4 8) + x4)).toNatClampNeg x3)) fun st1 => (fM_addRow_l40 k80 n x1 x2 x3 (x4 + 1) st1))))
set_option maxRecDepth 100000 in
set_option maxHeartbeats 4000000 in
theorem BM_addRow_40 (C : ck_X cm_cl D cA bM_addRow 5 R_M 11 p R s m args c) {r0 : Int32} {st0 : ck_S} (hret : ∀ (pc : Nat) (H : Heap) (locs : List Loc) (ls : Array Slot), decode bM_addRow pc = .ok (.ireturn, 1) → ck_AT sh_C cm_cl D cA ad H0 st0 H locs → W p l e R s m args below meth c H locs 0 0 Q (F0 m pc ls [.int r0])) {k80 : Int32 → Int32 → ck_S → Option (Int32 × ck_S)} (hk80 : ∀ (x2 : Int32) (x3 : Int32) (st : ck_S) (H : Heap) (locs : List Loc) (ls : Array Slot), ck_AT sh_C cm_cl D cA ad H0 st H locs → lv_has ls 5 [(0, .ref (ad 4)), (2, .int x2), (3, .int x3)] → k80 x2 x3 st = some (r0, st0) → W p l e R s m args below meth c H locs 0 0 Q (F0 m 80 ls [])) : ∀ (n : Nat) (x1 : Int32) (x2 : Int32) (x3 : Int32) (x4 : Int32) (st : ck_S) (H : Heap) (locs : List Loc) (ls : Array Slot), ck_AT sh_C cm_cl D cA ad H0 st H locs → lv_has ls 5 [(0, .ref (ad 4)), (1, .int x1), (2, .int x2), (3, .int x3), (4, .int x4)] → fM_addRow_l40 k80 n x1 x2 x3 x4 st = some (r0, st0) → W p l e R s m args below meth c H locs 0 0 Q (F0 m 40 ls []) := by
  have C1 := C
  obtain ⟨hx, hb, hml, hown, hts, hK, hlv, hlo⟩ := C1
  intro n
  induction n with
  | zero => intro _ _ _ _ _ _ _ _ _ _ hf; cases hf
  | succ n ih =>
    intro x1 x2 x3 x4 st H locs ls h hl hf
    rw [fM_addRow_l40] at hf
    refine lv_iload hx hb dM_addRow_40 (lv_at hl 4 rfl) ?_
    refine lv_iload_n hx hb dM_addRow_42 rfl (lv_at hl 2 rfl) ?_
    refine lv_icmp_ge (tgt := 80) hx hb dM_addRow_43 rfl (fun hq => ?_) (fun hq => ?_)
    · have hf := ck_t hq hf
      exact hk80 _ _ _ _ _ _ h (lv_sub hl [0, 2, 3] rfl) hf
    · have hf := ck_f hq hf
      refine lv_aload_n hx hb dM_addRow_46 rfl (lv_at hl 0 rfl) ?_
      refine ck_gr C h FM_rowOfClause dM_addRow_47 ?_
      refine lv_aload_n hx hb dM_addRow_50 rfl (lv_at hl 0 rfl) ?_
      refine ck_gi (x := (st 4 8)) C h FM_clauses rfl dM_addRow_51 ?_
      refine lv_iload hx hb dM_addRow_54 (lv_at hl 4 rfl) ?_
      refine lv_iadd hx hb dM_addRow_56 ?_
      refine lv_iload_n hx hb dM_addRow_57 rfl (lv_at hl 3 rfl) ?_
      obtain ⟨hg, hf⟩ := ck_gd_e hf
      refine ck_si C h (show sh_C[22]? = some (.inr (0, 16)) from rfl) hg dM_addRow_58 (fun H locs h => ?_)
      refine lv_aload_n hx hb dM_addRow_59 rfl (lv_at hl 0 rfl) ?_
      refine lv_aload_n hx hb dM_addRow_60 rfl (lv_at hl 0 rfl) ?_
      refine ck_gi (x := (st 4 8)) C h FM_clauses rfl dM_addRow_61 ?_
      refine lv_iload hx hb dM_addRow_64 (lv_at hl 4 rfl) ?_
      refine lv_iadd hx hb dM_addRow_66 ?_
      refine lv_iload_n hx hb dM_addRow_67 rfl (lv_at hl 1 rfl) ?_
      refine lv_iload hx hb dM_addRow_68 (lv_at hl 4 rfl) ?_
      refine lv_iconst (v := 1) hx hb dM_addRow_70 (by decide) ?_
      obtain ⟨st1, hc, hf⟩ := ck_bv_e hf
      refine ck_vv (As := [.int ((st 4 8) + x4), .int x1, .int x4, .int (1 : Int32)]) (rest := []) (q := 4) C h hl CM_M_layOut sM_layOut q_M (cM_layOut l D cA ad hc) (Nat.le_of_ble_eq_true rfl) rfl rfl (Nat.le_of_ble_eq_true rfl) dM_addRow_71 (fun H locs h => ?_)
      refine lv_iinc (k := 4) (v := (x4 + 1)) (lv' := [(4, .int (x4 + 1)), (0, .ref (ad 4)), (1, .int x1), (2, .int x2), (3, .int x3)]) hx hb dM_addRow_74 hl rfl rfl (by decide) rfl (fun ls hl => ?_)
      refine lv_goto (tgt := 40) hx hb dM_addRow_77 rfl ?_
      exact ih _ _ _ _ _ _ _ _ h (lv_sub hl [1, 2, 3, 4, 0] rfl) hf
def fM_addRow_b80 (x2 : Int32) (x3 : Int32) (st : ck_S) : Option (Int32 × ck_S) := (ck_gd ((st 4 7) + (1 : Int32)) 9 (some (x3, (ck_u (ck_u (ck_u st 4 8 ((st 4 8) + x2)) 4 7 ((st 4 7) + (1 : Int32))) 21 (((st 4 7) + (1 : Int32))).toNatClampNeg ((st 4 8) + x2)))))
set_option maxRecDepth 100000 in
set_option maxHeartbeats 4000000 in
theorem BM_addRow_80 (C : ck_X cm_cl D cA bM_addRow 5 R_M 11 p R s m args c) {r0 : Int32} {st0 : ck_S} (hret : ∀ (pc : Nat) (H : Heap) (locs : List Loc) (ls : Array Slot), decode bM_addRow pc = .ok (.ireturn, 1) → ck_AT sh_C cm_cl D cA ad H0 st0 H locs → W p l e R s m args below meth c H locs 0 0 Q (F0 m pc ls [.int r0])) (x2 : Int32) (x3 : Int32) (st : ck_S) (H : Heap) (locs : List Loc) (ls : Array Slot) (h : ck_AT sh_C cm_cl D cA ad H0 st H locs) (hl : lv_has ls 5 [(0, .ref (ad 4)), (2, .int x2), (3, .int x3)]) (hf : fM_addRow_b80 x2 x3 st = some (r0, st0)) : W p l e R s m args below meth c H locs 0 0 Q (F0 m 80 ls []) := by
  have C1 := C
  obtain ⟨hx, hb, hml, hown, hts, hK, hlv, hlo⟩ := C1
  unfold fM_addRow_b80 at hf
  refine lv_aload_n hx hb dM_addRow_80 rfl (lv_at hl 0 rfl) ?_
  refine lv_dup hx hb dM_addRow_81 rfl ?_
  refine ck_gi (x := (st 4 8)) C h FM_clauses rfl dM_addRow_82 ?_
  refine lv_iload_n hx hb dM_addRow_85 rfl (lv_at hl 1 rfl) ?_
  refine lv_iadd hx hb dM_addRow_86 ?_
  refine ck_pi C h GM_clauses rfl rfl dM_addRow_87 (fun H locs h => ?_)
  refine lv_aload_n hx hb dM_addRow_90 rfl (lv_at hl 0 rfl) ?_
  refine lv_dup hx hb dM_addRow_91 rfl ?_
  refine ck_gi (x := (st 4 7)) C h FM_rows rfl dM_addRow_92 ?_
  refine lv_iconst (v := 1) hx hb dM_addRow_95 (by decide) ?_
  refine lv_iadd hx hb dM_addRow_96 ?_
  refine ck_pi C h GM_rows rfl rfl dM_addRow_97 (fun H locs h => ?_)
  refine lv_aload_n hx hb dM_addRow_100 rfl (lv_at hl 0 rfl) ?_
  refine ck_gr C h FM_firstClause dM_addRow_101 ?_
  refine lv_aload_n hx hb dM_addRow_104 rfl (lv_at hl 0 rfl) ?_
  refine ck_gi (x := ((st 4 7) + (1 : Int32))) C h FM_rows rfl dM_addRow_105 ?_
  refine lv_aload_n hx hb dM_addRow_108 rfl (lv_at hl 0 rfl) ?_
  refine ck_gi (x := ((st 4 8) + x2)) C h FM_clauses rfl dM_addRow_109 ?_
  obtain ⟨hg, hf⟩ := ck_gd_e hf
  refine ck_si C h (show sh_C[21]? = some (.inr (0, 9)) from rfl) hg dM_addRow_112 (fun H locs h => ?_)
  refine lv_iload_n hx hb dM_addRow_113 rfl (lv_at hl 2 rfl) ?_
  exact ck_ri hf hret h dM_addRow_114
def fM_addRow (x1 : Int32) (st : ck_S) : Option (Int32 × ck_S) := (ck_b (fP_choicesOf x1 st) fun v2 st1 => (if (8 : Int32) ≤ (st1 4 7) then (some ((-8 : Int32), st1)) else (if ((st1 4 8) + v2) ≤ (16 : Int32) then (fM_addRow_l40 (fun x2 x3 st => (fM_addRow_b80 x2 x3 st)) 4096 x1 v2 (st1 4 7) (0 : Int32) st1) else (some ((-8 : Int32), st1)))))
set_option maxRecDepth 100000 in
set_option maxHeartbeats 4000000 in
theorem cM_addRow (l : Launch) (D : va_G) (cA : Nat → ClassId) (ad : Nat → Nat) {x1 : Int32} {st : ck_S} {r0 : Int32} {st0 : ck_S} (hf : fM_addRow x1 st = some (r0, st0)) : Met l yM_addRow (.code yM_addRow bM_addRow 5 (some .int) :: ck_T) (ck_R 11) (va_Pc [.ref (ad 4), .int x1] (ck_P sh_C cm_cl D cA ad st)) (va_Qi (fun a u => a = r0 ∧ u = st0) (ck_P sh_C cm_cl D cA ad) (ck_A ad sh_C.length)) 0 0 (ck_A ad sh_C.length) := by
  refine ck_met_i (own := R_M) (by decide +kernel) rfl (Nat.le_of_ble_eq_true rfl) (fun p e R s m args below meth c H0 Q ls C hret h hl => ?_)
  have C1 := C
  obtain ⟨hx, hb, hml, hown, hts, hK, hlv, hlo⟩ := C1
  have hl : lv_has ls 5 [(0, .ref (ad 4)), (1, .int x1)] := hl
  unfold fM_addRow at hf
  refine lv_aload_n hx hb dM_addRow_0 rfl (lv_at hl 0 rfl) ?_
  refine ck_gr C h FM_patterns dM_addRow_1 ?_
  refine lv_iload_n hx hb dM_addRow_4 rfl (lv_at hl 1 rfl) ?_
  obtain ⟨v2, st1, hc, hf⟩ := ck_b_e hf
  refine ck_vi (As := [.int x1]) (rest := []) (q := 2) C h hl CM_P_choicesOf sP_choicesOf q_P (cP_choicesOf l D cA ad hc) (Nat.le_of_ble_eq_true rfl) rfl rfl (Nat.le_of_ble_eq_true rfl) dM_addRow_5 (fun H locs h => ?_)
  refine lv_istore_n (lv' := [(2, .int v2), (0, .ref (ad 4)), (1, .int x1)]) hx hb dM_addRow_8 rfl hl (by decide) rfl (fun ls hl => ?_)
  refine lv_aload_n hx hb dM_addRow_9 rfl (lv_at hl 1 rfl) ?_
  refine ck_gi (x := (st1 4 7)) C h FM_rows rfl dM_addRow_10 ?_
  refine lv_bipush (v := 8) hx hb dM_addRow_13 (by decide) ?_
  refine lv_icmp_ge (tgt := 29) hx hb dM_addRow_15 rfl (fun hq => ?_) (fun hq => ?_)
  · have hf := ck_t hq hf
    refine lv_bipush (v := (-8)) hx hb dM_addRow_29 (by decide) ?_
    exact ck_ri hf hret h dM_addRow_31
  · have hf := ck_f hq hf
    refine lv_aload_n hx hb dM_addRow_18 rfl (lv_at hl 1 rfl) ?_
    refine ck_gi (x := (st1 4 8)) C h FM_clauses rfl dM_addRow_19 ?_
    refine lv_iload_n hx hb dM_addRow_22 rfl (lv_at hl 0 rfl) ?_
    refine lv_iadd hx hb dM_addRow_23 ?_
    refine lv_bipush (v := 16) hx hb dM_addRow_24 (by decide) ?_
    refine lv_icmp_le (tgt := 32) hx hb dM_addRow_26 rfl (fun hq => ?_) (fun hq => ?_)
    · have hf := ck_t hq hf
      refine lv_aload_n hx hb dM_addRow_32 rfl (lv_at hl 1 rfl) ?_
      refine ck_gi (x := (st1 4 7)) C h FM_rows rfl dM_addRow_33 ?_
      refine lv_istore_n (lv' := [(3, .int (st1 4 7)), (2, .int v2), (0, .ref (ad 4)), (1, .int x1)]) hx hb dM_addRow_36 rfl hl (by decide) rfl (fun ls hl => ?_)
      refine lv_iconst (v := 0) hx hb dM_addRow_37 (by decide) ?_
      refine lv_istore (lv' := [(4, .int (0 : Int32)), (3, .int (st1 4 7)), (2, .int v2), (0, .ref (ad 4)), (1, .int x1)]) hx hb dM_addRow_38 hl (by decide) rfl (fun ls hl => ?_)
      exact BM_addRow_40 C hret (fun x2 x3 st H locs ls h hl hf => by
          exact BM_addRow_80 C hret _ _ _ _ _ _ h (lv_sub hl [0, 1, 2] rfl) hf) 4096 _ _ _ _ _ _ _ _ h (lv_sub hl [3, 4, 2, 1, 0] rfl) hf
    · have hf := ck_f hq hf
      refine lv_bipush (v := (-8)) hx hb dM_addRow_29 (by decide) ?_
      exact ck_ri hf hret h dM_addRow_31
def fM_allClauses (st : ck_S) : Option (Int32 × ck_S) := (some ((((1 : Int32) <<< ((st 4 8) &&& 31)) - (1 : Int32)), st))
set_option maxRecDepth 100000 in
set_option maxHeartbeats 4000000 in
theorem cM_allClauses (l : Launch) (D : va_G) (cA : Nat → ClassId) (ad : Nat → Nat) {st : ck_S} {r0 : Int32} {st0 : ck_S} (hf : fM_allClauses st = some (r0, st0)) : Met l yM_allClauses (.code yM_allClauses bM_allClauses 1 (some .int) :: ck_T) (ck_R 0) (va_Pc [.ref (ad 4)] (ck_P sh_C cm_cl D cA ad st)) (va_Qi (fun a u => a = r0 ∧ u = st0) (ck_P sh_C cm_cl D cA ad) (ck_A ad sh_C.length)) 0 0 (ck_A ad sh_C.length) := by
  refine ck_met_i (own := R_M) (by decide +kernel) rfl (Nat.le_of_ble_eq_true rfl) (fun p e R s m args below meth c H0 Q ls C hret h hl => ?_)
  have C1 := C
  obtain ⟨hx, hb, hml, hown, hts, hK, hlv, hlo⟩ := C1
  have hl : lv_has ls 1 [(0, .ref (ad 4))] := hl
  unfold fM_allClauses at hf
  refine lv_iconst (v := 1) hx hb dM_allClauses_0 (by decide) ?_
  refine lv_aload_n hx hb dM_allClauses_1 rfl (lv_at hl 0 rfl) ?_
  refine ck_gi (x := (st 4 8)) C h FM_clauses rfl dM_allClauses_2 ?_
  refine lv_ishl hx hb dM_allClauses_5 ?_
  refine lv_iconst (v := 1) hx hb dM_allClauses_6 (by decide) ?_
  refine lv_isub hx hb dM_allClauses_7 ?_
  exact ck_ri hf hret h dM_allClauses_8
def fM_firstOf_l2 : Nat → Int32 → Int32 → ck_S → Option (Int32 × ck_S)
  | 0, _, _, _ => none
  | n + 1, x1, x2, st => (if (st 4 8) ≤ x2 then (some ((-1 : Int32), st)) else (if ((x1 >>> (x2 &&& 31)) &&& (1 : Int32)) = (1 : Int32) then (some (x2, st)) else (fM_firstOf_l2 n x1 (x2 + 1) st)))
set_option maxRecDepth 100000 in
set_option maxHeartbeats 4000000 in
theorem BM_firstOf_2 (C : ck_X cm_cl D cA bM_firstOf 3 R_M 0 p R s m args c) {r0 : Int32} {st0 : ck_S} (hret : ∀ (pc : Nat) (H : Heap) (locs : List Loc) (ls : Array Slot), decode bM_firstOf pc = .ok (.ireturn, 1) → ck_AT sh_C cm_cl D cA ad H0 st0 H locs → W p l e R s m args below meth c H locs 0 0 Q (F0 m pc ls [.int r0])) : ∀ (n : Nat) (x1 : Int32) (x2 : Int32) (st : ck_S) (H : Heap) (locs : List Loc) (ls : Array Slot), ck_AT sh_C cm_cl D cA ad H0 st H locs → lv_has ls 3 [(0, .ref (ad 4)), (1, .int x1), (2, .int x2)] → fM_firstOf_l2  n x1 x2 st = some (r0, st0) → W p l e R s m args below meth c H locs 0 0 Q (F0 m 2 ls []) := by
  have C1 := C
  obtain ⟨hx, hb, hml, hown, hts, hK, hlv, hlo⟩ := C1
  intro n
  induction n with
  | zero => intro _ _ _ _ _ _ _ _ hf; cases hf
  | succ n ih =>
    intro x1 x2 st H locs ls h hl hf
    rw [fM_firstOf_l2] at hf
    refine lv_iload_n hx hb dM_firstOf_2 rfl (lv_at hl 2 rfl) ?_
    refine lv_aload_n hx hb dM_firstOf_3 rfl (lv_at hl 0 rfl) ?_
    refine ck_gi (x := (st 4 8)) C h FM_clauses rfl dM_firstOf_4 ?_
    refine lv_icmp_ge (tgt := 27) hx hb dM_firstOf_7 rfl (fun hq => ?_) (fun hq => ?_)
    · have hf := ck_t hq hf
      refine lv_iconst (v := (-1)) hx hb dM_firstOf_27 (by decide) ?_
      exact ck_ri hf hret h dM_firstOf_28
    · have hf := ck_f hq hf
      refine lv_iload_n hx hb dM_firstOf_10 rfl (lv_at hl 1 rfl) ?_
      refine lv_iload_n hx hb dM_firstOf_11 rfl (lv_at hl 2 rfl) ?_
      refine lv_ishr hx hb dM_firstOf_12 ?_
      refine lv_iconst (v := 1) hx hb dM_firstOf_13 (by decide) ?_
      refine lv_iand hx hb dM_firstOf_14 ?_
      refine lv_iconst (v := 1) hx hb dM_firstOf_15 (by decide) ?_
      refine lv_icmp_ne (tgt := 21) hx hb dM_firstOf_16 rfl (fun hq => ?_) (fun hq => ?_)
      · have hf := ck_f hq hf
        refine lv_iinc (k := 2) (v := (x2 + 1)) (lv' := [(2, .int (x2 + 1)), (0, .ref (ad 4)), (1, .int x1)]) hx hb dM_firstOf_21 hl rfl rfl (by decide) rfl (fun ls hl => ?_)
        refine lv_goto (tgt := 2) hx hb dM_firstOf_24 rfl ?_
        exact ih _ _ _ _ _ _ h (lv_sub hl [1, 2, 0] rfl) hf
      · have hf := ck_t hq hf
        refine lv_iload_n hx hb dM_firstOf_19 rfl (lv_at hl 2 rfl) ?_
        exact ck_ri hf hret h dM_firstOf_20
def fM_firstOf (x1 : Int32) (st : ck_S) : Option (Int32 × ck_S) := (fM_firstOf_l2  4096 x1 (0 : Int32) st)
set_option maxRecDepth 100000 in
set_option maxHeartbeats 4000000 in
theorem cM_firstOf (l : Launch) (D : va_G) (cA : Nat → ClassId) (ad : Nat → Nat) {x1 : Int32} {st : ck_S} {r0 : Int32} {st0 : ck_S} (hf : fM_firstOf x1 st = some (r0, st0)) : Met l yM_firstOf (.code yM_firstOf bM_firstOf 3 (some .int) :: ck_T) (ck_R 0) (va_Pc [.ref (ad 4), .int x1] (ck_P sh_C cm_cl D cA ad st)) (va_Qi (fun a u => a = r0 ∧ u = st0) (ck_P sh_C cm_cl D cA ad) (ck_A ad sh_C.length)) 0 0 (ck_A ad sh_C.length) := by
  refine ck_met_i (own := R_M) (by decide +kernel) rfl (Nat.le_of_ble_eq_true rfl) (fun p e R s m args below meth c H0 Q ls C hret h hl => ?_)
  have C1 := C
  obtain ⟨hx, hb, hml, hown, hts, hK, hlv, hlo⟩ := C1
  have hl : lv_has ls 3 [(0, .ref (ad 4)), (1, .int x1)] := hl
  unfold fM_firstOf at hf
  refine lv_iconst (v := 0) hx hb dM_firstOf_0 (by decide) ?_
  refine lv_istore_n (lv' := [(2, .int (0 : Int32)), (0, .ref (ad 4)), (1, .int x1)]) hx hb dM_firstOf_1 rfl hl (by decide) rfl (fun ls hl => ?_)
  exact BM_firstOf_2 C hret  4096 _ _ _ _ _ _ h (lv_sub hl [1, 2, 0] rfl) hf
def fM_rowOf (x1 : Int32) (st : ck_S) : Option (Int32 × ck_S) := (if x1 < 0 then (some ((-1 : Int32), st)) else (if (st 4 8) ≤ x1 then (some ((-1 : Int32), st)) else (ck_gd x1 16 (some ((st 22 (x1).toNatClampNeg), st)))))
set_option maxRecDepth 100000 in
set_option maxHeartbeats 4000000 in
theorem cM_rowOf (l : Launch) (D : va_G) (cA : Nat → ClassId) (ad : Nat → Nat) {x1 : Int32} {st : ck_S} {r0 : Int32} {st0 : ck_S} (hf : fM_rowOf x1 st = some (r0, st0)) : Met l yM_rowOf (.code yM_rowOf bM_rowOf 2 (some .int) :: ck_T) (ck_R 0) (va_Pc [.ref (ad 4), .int x1] (ck_P sh_C cm_cl D cA ad st)) (va_Qi (fun a u => a = r0 ∧ u = st0) (ck_P sh_C cm_cl D cA ad) (ck_A ad sh_C.length)) 0 0 (ck_A ad sh_C.length) := by
  refine ck_met_i (own := R_M) (by decide +kernel) rfl (Nat.le_of_ble_eq_true rfl) (fun p e R s m args below meth c H0 Q ls C hret h hl => ?_)
  have C1 := C
  obtain ⟨hx, hb, hml, hown, hts, hK, hlv, hlo⟩ := C1
  have hl : lv_has ls 2 [(0, .ref (ad 4)), (1, .int x1)] := hl
  unfold fM_rowOf at hf
  refine lv_iload_n hx hb dM_rowOf_0 rfl (lv_at hl 1 rfl) ?_
  refine lv_if_lt (tgt := 21) hx hb dM_rowOf_1 rfl (fun hq => ?_) (fun hq => ?_)
  · have hf := ck_t hq hf
    refine lv_iconst (v := (-1)) hx hb dM_rowOf_21 (by decide) ?_
    exact ck_ri hf hret h dM_rowOf_22
  · have hf := ck_f hq hf
    refine lv_iload_n hx hb dM_rowOf_4 rfl (lv_at hl 1 rfl) ?_
    refine lv_aload_n hx hb dM_rowOf_5 rfl (lv_at hl 0 rfl) ?_
    refine ck_gi (x := (st 4 8)) C h FM_clauses rfl dM_rowOf_6 ?_
    refine lv_icmp_ge (tgt := 21) hx hb dM_rowOf_9 rfl (fun hq => ?_) (fun hq => ?_)
    · have hf := ck_t hq hf
      refine lv_iconst (v := (-1)) hx hb dM_rowOf_21 (by decide) ?_
      exact ck_ri hf hret h dM_rowOf_22
    · have hf := ck_f hq hf
      refine lv_aload_n hx hb dM_rowOf_12 rfl (lv_at hl 0 rfl) ?_
      refine ck_gr C h FM_rowOfClause dM_rowOf_13 ?_
      refine lv_iload_n hx hb dM_rowOf_16 rfl (lv_at hl 1 rfl) ?_
      obtain ⟨hg, hf⟩ := ck_gd_e hf
      refine ck_ai (x := (st 22 (x1).toNatClampNeg)) C h (show sh_C[22]? = some (.inr (0, 16)) from rfl) hg rfl dM_rowOf_17 ?_
      refine lv_goto (tgt := 22) hx hb dM_rowOf_18 rfl ?_
      exact ck_ri hf hret h dM_rowOf_22
def fM_placeToTest_b48 (k14 : Int32 → Int32 → Int32 → Int32 → Int32 → Int32 → ck_S → Option (Int32 × ck_S)) (y0 : Int32) (x1 : Int32) (x2 : Int32) (x3 : Int32) (x4 : Int32) (x5 : Int32) (x6 : Int32) (st : ck_S) : Option (Int32 × ck_S) := (ck_gd x6 16 (ck_b (fI_bitCount_C ((st 23 (x6).toNatClampNeg) &&& x1) st) fun v2 st1 => (if y0 = 0 then (k14 x1 x2 x3 x4 x5 (x6 + 1) st1) else (if v2 ≤ x5 then (k14 x1 x2 x3 x4 x5 (x6 + 1) st1) else (k14 x1 x2 x3 x6 v2 (x6 + 1) st1)))))
set_option maxRecDepth 100000 in
set_option maxHeartbeats 4000000 in
theorem BM_placeToTest_48 (C : ck_X cm_cl D cA bM_placeToTest 9 R_M 1 p R s m args c) {r0 : Int32} {st0 : ck_S} (hret : ∀ (pc : Nat) (H : Heap) (locs : List Loc) (ls : Array Slot), decode bM_placeToTest pc = .ok (.ireturn, 1) → ck_AT sh_C cm_cl D cA ad H0 st0 H locs → W p l e R s m args below meth c H locs 0 0 Q (F0 m pc ls [.int r0])) {k14 : Int32 → Int32 → Int32 → Int32 → Int32 → Int32 → ck_S → Option (Int32 × ck_S)} (hk14 : ∀ (x1 : Int32) (x2 : Int32) (x3 : Int32) (x4 : Int32) (x5 : Int32) (x6 : Int32) (st : ck_S) (H : Heap) (locs : List Loc) (ls : Array Slot), ck_AT sh_C cm_cl D cA ad H0 st H locs → lv_has ls 9 [(0, .ref (ad 4)), (1, .int x1), (2, .int x2), (3, .int x3), (4, .int x4), (5, .int x5), (6, .int x6)] → k14 x1 x2 x3 x4 x5 x6 st = some (r0, st0) → W p l e R s m args below meth c H locs 0 0 Q (F0 m 14 ls [])) (y0 : Int32) (x1 : Int32) (x2 : Int32) (x3 : Int32) (x4 : Int32) (x5 : Int32) (x6 : Int32) (st : ck_S) (H : Heap) (locs : List Loc) (ls : Array Slot) (h : ck_AT sh_C cm_cl D cA ad H0 st H locs) (hl : lv_has ls 9 [(0, .ref (ad 4)), (1, .int x1), (2, .int x2), (3, .int x3), (4, .int x4), (5, .int x5), (6, .int x6)]) (hf : fM_placeToTest_b48 k14 y0 x1 x2 x3 x4 x5 x6 st = some (r0, st0)) : W p l e R s m args below meth c H locs 0 0 Q (F0 m 48 ls [.int y0]) := by
  have C1 := C
  obtain ⟨hx, hb, hml, hown, hts, hK, hlv, hlo⟩ := C1
  unfold fM_placeToTest_b48 at hf
  refine lv_istore (lv' := [(7, .int y0), (0, .ref (ad 4)), (1, .int x1), (2, .int x2), (3, .int x3), (4, .int x4), (5, .int x5), (6, .int x6)]) hx hb dM_placeToTest_48 hl (by decide) rfl (fun ls hl => ?_)
  refine lv_aload_n hx hb dM_placeToTest_50 rfl (lv_at hl 1 rfl) ?_
  refine ck_gr C h FM_askers dM_placeToTest_51 ?_
  refine lv_iload hx hb dM_placeToTest_54 (lv_at hl 7 rfl) ?_
  obtain ⟨hg, hf⟩ := ck_gd_e hf
  refine ck_ai (x := (st 23 (x6).toNatClampNeg)) C h (show sh_C[23]? = some (.inr (0, 16)) from rfl) hg rfl dM_placeToTest_56 ?_
  refine lv_iload_n hx hb dM_placeToTest_57 rfl (lv_at hl 2 rfl) ?_
  refine lv_iand hx hb dM_placeToTest_58 ?_
  obtain ⟨v2, st1, hc, hf⟩ := ck_b_e hf
  refine ck_ti (As := [.int ((st 23 (x6).toNatClampNeg) &&& x1)]) (rest := []) C h hl CM_I_bitCount sI_bitCount (cI_bitCount_C l D cA ad hc) (Nat.le_of_ble_eq_true rfl) rfl rfl (Nat.le_of_ble_eq_true rfl) dM_placeToTest_59 (fun H locs h => ?_)
  refine lv_istore (lv' := [(8, .int v2), (7, .int y0), (0, .ref (ad 4)), (1, .int x1), (2, .int x2), (3, .int x3), (4, .int x4), (5, .int x5), (6, .int x6)]) hx hb dM_placeToTest_62 hl (by decide) rfl (fun ls hl => ?_)
  refine lv_iload hx hb dM_placeToTest_64 (lv_at hl 1 rfl) ?_
  refine lv_if_eq (tgt := 84) hx hb dM_placeToTest_66 rfl (fun hq => ?_) (fun hq => ?_)
  · have hf := ck_t hq hf
    refine lv_iinc (k := 8) (v := (x6 + 1)) (lv' := [(6, .int (x6 + 1)), (8, .int v2), (7, .int y0), (0, .ref (ad 4)), (1, .int x1), (2, .int x2), (3, .int x3), (4, .int x4), (5, .int x5)]) hx hb dM_placeToTest_84 hl rfl rfl (by decide) rfl (fun ls hl => ?_)
    refine lv_goto (tgt := 14) hx hb dM_placeToTest_87 rfl ?_
    exact hk14 _ _ _ _ _ _ _ _ _ _ h (lv_sub hl [3, 4, 5, 6, 7, 8, 0] rfl) hf
  · have hf := ck_f hq hf
    refine lv_iload hx hb dM_placeToTest_69 (lv_at hl 0 rfl) ?_
    refine lv_iload hx hb dM_placeToTest_71 (lv_at hl 7 rfl) ?_
    refine lv_icmp_le (tgt := 84) hx hb dM_placeToTest_73 rfl (fun hq => ?_) (fun hq => ?_)
    · have hf := ck_t hq hf
      refine lv_iinc (k := 8) (v := (x6 + 1)) (lv' := [(6, .int (x6 + 1)), (8, .int v2), (7, .int y0), (0, .ref (ad 4)), (1, .int x1), (2, .int x2), (3, .int x3), (4, .int x4), (5, .int x5)]) hx hb dM_placeToTest_84 hl rfl rfl (by decide) rfl (fun ls hl => ?_)
      refine lv_goto (tgt := 14) hx hb dM_placeToTest_87 rfl ?_
      exact hk14 _ _ _ _ _ _ _ _ _ _ h (lv_sub hl [3, 4, 5, 6, 7, 8, 0] rfl) hf
    · have hf := ck_f hq hf
      refine lv_iload hx hb dM_placeToTest_76 (lv_at hl 8 rfl) ?_
      refine lv_istore (lv' := [(4, .int x6), (8, .int v2), (7, .int y0), (0, .ref (ad 4)), (1, .int x1), (2, .int x2), (3, .int x3), (5, .int x5), (6, .int x6)]) hx hb dM_placeToTest_78 hl (by decide) rfl (fun ls hl => ?_)
      refine lv_iload hx hb dM_placeToTest_80 (lv_at hl 1 rfl) ?_
      refine lv_istore (lv' := [(5, .int v2), (4, .int x6), (8, .int v2), (7, .int y0), (0, .ref (ad 4)), (1, .int x1), (2, .int x2), (3, .int x3), (6, .int x6)]) hx hb dM_placeToTest_82 hl (by decide) rfl (fun ls hl => ?_)
      refine lv_iinc (k := 8) (v := (x6 + 1)) (lv' := [(6, .int (x6 + 1)), (5, .int v2), (4, .int x6), (8, .int v2), (7, .int y0), (0, .ref (ad 4)), (1, .int x1), (2, .int x2), (3, .int x3)]) hx hb dM_placeToTest_84 hl rfl rfl (by decide) rfl (fun ls hl => ?_)
      refine lv_goto (tgt := 14) hx hb dM_placeToTest_87 rfl ?_
      exact hk14 _ _ _ _ _ _ _ _ _ _ h (lv_sub hl [5, 6, 7, 8, 2, 1, 0] rfl) hf
def fM_placeToTest_l14 : Nat → Int32 → Int32 → Int32 → Int32 → Int32 → Int32 → ck_S → Option (Int32 × ck_S)
  | 0, _, _, _, _, _, _, _ => none
  | n + 1, x1, x2, x3, x4, x5, x6, st => (if (16 : Int32) ≤ x6 then (some (x4, st)) else (if ((x2 >>> (x6 &&& 31)) &&& (1 : Int32)) = (1 : Int32) then (ck_gd x6 16 (if ((st 23 (x6).toNatClampNeg) &&& x3) = 0 then (fM_placeToTest_b48 (fM_placeToTest_l14 n) (0 : Int32) x1 x2 x3 x4 x5 x6 st) else (fM_placeToTest_b48 (fM_placeToTest_l14 n) (1 : Int32) x1 x2 x3 x4 x5 x6 st))) else (fM_placeToTest_b48 (fM_placeToTest_l14 n) (0 : Int32) x1 x2 x3 x4 x5 x6 st)))
set_option maxRecDepth 100000 in
set_option maxHeartbeats 4000000 in
theorem BM_placeToTest_14 (C : ck_X cm_cl D cA bM_placeToTest 9 R_M 1 p R s m args c) {r0 : Int32} {st0 : ck_S} (hret : ∀ (pc : Nat) (H : Heap) (locs : List Loc) (ls : Array Slot), decode bM_placeToTest pc = .ok (.ireturn, 1) → ck_AT sh_C cm_cl D cA ad H0 st0 H locs → W p l e R s m args below meth c H locs 0 0 Q (F0 m pc ls [.int r0])) : ∀ (n : Nat) (x1 : Int32) (x2 : Int32) (x3 : Int32) (x4 : Int32) (x5 : Int32) (x6 : Int32) (st : ck_S) (H : Heap) (locs : List Loc) (ls : Array Slot), ck_AT sh_C cm_cl D cA ad H0 st H locs → lv_has ls 9 [(0, .ref (ad 4)), (1, .int x1), (2, .int x2), (3, .int x3), (4, .int x4), (5, .int x5), (6, .int x6)] → fM_placeToTest_l14  n x1 x2 x3 x4 x5 x6 st = some (r0, st0) → W p l e R s m args below meth c H locs 0 0 Q (F0 m 14 ls []) := by
  have C1 := C
  obtain ⟨hx, hb, hml, hown, hts, hK, hlv, hlo⟩ := C1
  intro n
  induction n with
  | zero => intro _ _ _ _ _ _ _ _ _ _ _ _ hf; cases hf
  | succ n ih =>
    intro x1 x2 x3 x4 x5 x6 st H locs ls h hl hf
    rw [fM_placeToTest_l14] at hf
    refine lv_iload hx hb dM_placeToTest_14 (lv_at hl 6 rfl) ?_
    refine lv_bipush (v := 16) hx hb dM_placeToTest_16 (by decide) ?_
    refine lv_icmp_ge (tgt := 90) hx hb dM_placeToTest_18 rfl (fun hq => ?_) (fun hq => ?_)
    · have hf := ck_t hq hf
      refine lv_iload hx hb dM_placeToTest_90 (lv_at hl 4 rfl) ?_
      exact ck_ri hf hret h dM_placeToTest_92
    · have hf := ck_f hq hf
      refine lv_iload_n hx hb dM_placeToTest_21 rfl (lv_at hl 2 rfl) ?_
      refine lv_iload hx hb dM_placeToTest_22 (lv_at hl 6 rfl) ?_
      refine lv_ishr hx hb dM_placeToTest_24 ?_
      refine lv_iconst (v := 1) hx hb dM_placeToTest_25 (by decide) ?_
      refine lv_iand hx hb dM_placeToTest_26 ?_
      refine lv_iconst (v := 1) hx hb dM_placeToTest_27 (by decide) ?_
      refine lv_icmp_ne (tgt := 47) hx hb dM_placeToTest_28 rfl (fun hq => ?_) (fun hq => ?_)
      · have hf := ck_f hq hf
        refine lv_iconst (v := 0) hx hb dM_placeToTest_47 (by decide) ?_
        exact BM_placeToTest_48 C hret ih _ _ _ _ _ _ _ _ _ _ _ h (lv_sub hl [0, 1, 2, 3, 4, 5, 6] rfl) hf
      · have hf := ck_t hq hf
        refine lv_aload_n hx hb dM_placeToTest_31 rfl (lv_at hl 0 rfl) ?_
        refine ck_gr C h FM_askers dM_placeToTest_32 ?_
        refine lv_iload hx hb dM_placeToTest_35 (lv_at hl 6 rfl) ?_
        obtain ⟨hg, hf⟩ := ck_gd_e hf
        refine ck_ai (x := (st 23 (x6).toNatClampNeg)) C h (show sh_C[23]? = some (.inr (0, 16)) from rfl) hg rfl dM_placeToTest_37 ?_
        refine lv_iload_n hx hb dM_placeToTest_38 rfl (lv_at hl 3 rfl) ?_
        refine lv_iand hx hb dM_placeToTest_39 ?_
        refine lv_if_eq (tgt := 47) hx hb dM_placeToTest_40 rfl (fun hq => ?_) (fun hq => ?_)
        · have hf := ck_t hq hf
          refine lv_iconst (v := 0) hx hb dM_placeToTest_47 (by decide) ?_
          exact BM_placeToTest_48 C hret ih _ _ _ _ _ _ _ _ _ _ _ h (lv_sub hl [0, 1, 2, 3, 4, 5, 6] rfl) hf
        · have hf := ck_f hq hf
          refine lv_iconst (v := 1) hx hb dM_placeToTest_43 (by decide) ?_
          refine lv_goto (tgt := 48) hx hb dM_placeToTest_44 rfl ?_
          exact BM_placeToTest_48 C hret ih _ _ _ _ _ _ _ _ _ _ _ h (lv_sub hl [0, 1, 2, 3, 4, 5, 6] rfl) hf
def fM_placeToTest (x1 : Int32) (x2 : Int32) (st : ck_S) : Option (Int32 × ck_S) := (fM_placeToTest_l14  4096 x1 x2 (x1 &&& (-x1)) (0 : Int32) (0 : Int32) (1 : Int32) st)
set_option maxRecDepth 100000 in
set_option maxHeartbeats 4000000 in
theorem cM_placeToTest (l : Launch) (D : va_G) (cA : Nat → ClassId) (ad : Nat → Nat) {x1 : Int32} {x2 : Int32} {st : ck_S} {r0 : Int32} {st0 : ck_S} (hf : fM_placeToTest x1 x2 st = some (r0, st0)) : Met l yM_placeToTest (.code yM_placeToTest bM_placeToTest 9 (some .int) :: ck_T) (ck_R 1) (va_Pc [.ref (ad 4), .int x1, .int x2] (ck_P sh_C cm_cl D cA ad st)) (va_Qi (fun a u => a = r0 ∧ u = st0) (ck_P sh_C cm_cl D cA ad) (ck_A ad sh_C.length)) 0 0 (ck_A ad sh_C.length) := by
  refine ck_met_i (own := R_M) (by decide +kernel) rfl (Nat.le_of_ble_eq_true rfl) (fun p e R s m args below meth c H0 Q ls C hret h hl => ?_)
  have C1 := C
  obtain ⟨hx, hb, hml, hown, hts, hK, hlv, hlo⟩ := C1
  have hl : lv_has ls 9 [(0, .ref (ad 4)), (1, .int x1), (2, .int x2)] := hl
  unfold fM_placeToTest at hf
  refine lv_iload_n hx hb dM_placeToTest_0 rfl (lv_at hl 1 rfl) ?_
  refine lv_iload_n hx hb dM_placeToTest_1 rfl (lv_at hl 1 rfl) ?_
  refine lv_ineg hx hb dM_placeToTest_2 ?_
  refine lv_iand hx hb dM_placeToTest_3 ?_
  refine lv_istore_n (lv' := [(3, .int (x1 &&& (-x1))), (0, .ref (ad 4)), (1, .int x1), (2, .int x2)]) hx hb dM_placeToTest_4 rfl hl (by decide) rfl (fun ls hl => ?_)
  refine lv_iconst (v := 0) hx hb dM_placeToTest_5 (by decide) ?_
  refine lv_istore (lv' := [(4, .int (0 : Int32)), (3, .int (x1 &&& (-x1))), (0, .ref (ad 4)), (1, .int x1), (2, .int x2)]) hx hb dM_placeToTest_6 hl (by decide) rfl (fun ls hl => ?_)
  refine lv_iconst (v := 0) hx hb dM_placeToTest_8 (by decide) ?_
  refine lv_istore (lv' := [(5, .int (0 : Int32)), (4, .int (0 : Int32)), (3, .int (x1 &&& (-x1))), (0, .ref (ad 4)), (1, .int x1), (2, .int x2)]) hx hb dM_placeToTest_9 hl (by decide) rfl (fun ls hl => ?_)
  refine lv_iconst (v := 1) hx hb dM_placeToTest_11 (by decide) ?_
  refine lv_istore (lv' := [(6, .int (1 : Int32)), (5, .int (0 : Int32)), (4, .int (0 : Int32)), (3, .int (x1 &&& (-x1))), (0, .ref (ad 4)), (1, .int x1), (2, .int x2)]) hx hb dM_placeToTest_12 hl (by decide) rfl (fun ls hl => ?_)
  exact BM_placeToTest_14 C hret  4096 _ _ _ _ _ _ _ _ _ _ h (lv_sub hl [4, 5, 6, 3, 2, 1, 0] rfl) hf
def fM_typeAskedAt (x1 : Int32) (x2 : Int32) (st : ck_S) : Option (Int32 × ck_S) := (ck_gd x1 16 (ck_b (fM_firstOf (x2 &&& (st 23 (x1).toNatClampNeg)) st) fun v2 st1 => (if v2 = (-1 : Int32) then (some ((-1 : Int32), st1)) else (ck_gd ((x1 * (16 : Int32)) + v2) 256 (some ((st1 25 (((x1 * (16 : Int32)) + v2)).toNatClampNeg), st1))))))
set_option maxRecDepth 100000 in
set_option maxHeartbeats 4000000 in
theorem cM_typeAskedAt (l : Launch) (D : va_G) (cA : Nat → ClassId) (ad : Nat → Nat) {x1 : Int32} {x2 : Int32} {st : ck_S} {r0 : Int32} {st0 : ck_S} (hf : fM_typeAskedAt x1 x2 st = some (r0, st0)) : Met l yM_typeAskedAt (.code yM_typeAskedAt bM_typeAskedAt 4 (some .int) :: ck_T) (ck_R 1) (va_Pc [.ref (ad 4), .int x1, .int x2] (ck_P sh_C cm_cl D cA ad st)) (va_Qi (fun a u => a = r0 ∧ u = st0) (ck_P sh_C cm_cl D cA ad) (ck_A ad sh_C.length)) 0 0 (ck_A ad sh_C.length) := by
  refine ck_met_i (own := R_M) (by decide +kernel) rfl (Nat.le_of_ble_eq_true rfl) (fun p e R s m args below meth c H0 Q ls C hret h hl => ?_)
  have C1 := C
  obtain ⟨hx, hb, hml, hown, hts, hK, hlv, hlo⟩ := C1
  have hl : lv_has ls 4 [(0, .ref (ad 4)), (1, .int x1), (2, .int x2)] := hl
  unfold fM_typeAskedAt at hf
  refine lv_aload_n hx hb dM_typeAskedAt_0 rfl (lv_at hl 0 rfl) ?_
  refine lv_iload_n hx hb dM_typeAskedAt_1 rfl (lv_at hl 2 rfl) ?_
  refine lv_aload_n hx hb dM_typeAskedAt_2 rfl (lv_at hl 0 rfl) ?_
  refine ck_gr C h FM_askers dM_typeAskedAt_3 ?_
  refine lv_iload_n hx hb dM_typeAskedAt_6 rfl (lv_at hl 1 rfl) ?_
  obtain ⟨hg, hf⟩ := ck_gd_e hf
  refine ck_ai (x := (st 23 (x1).toNatClampNeg)) C h (show sh_C[23]? = some (.inr (0, 16)) from rfl) hg rfl dM_typeAskedAt_7 ?_
  refine lv_iand hx hb dM_typeAskedAt_8 ?_
  obtain ⟨v2, st1, hc, hf⟩ := ck_b_e hf
  refine ck_vi (As := [.int (x2 &&& (st 23 (x1).toNatClampNeg))]) (rest := []) (q := 4) C h hl CM_M_firstOf sM_firstOf q_M (cM_firstOf l D cA ad hc) (Nat.le_of_ble_eq_true rfl) rfl rfl (Nat.le_of_ble_eq_true rfl) dM_typeAskedAt_9 (fun H locs h => ?_)
  refine lv_istore_n (lv' := [(3, .int v2), (0, .ref (ad 4)), (1, .int x1), (2, .int x2)]) hx hb dM_typeAskedAt_12 rfl hl (by decide) rfl (fun ls hl => ?_)
  refine lv_iload_n hx hb dM_typeAskedAt_13 rfl (lv_at hl 0 rfl) ?_
  refine lv_iconst (v := (-1)) hx hb dM_typeAskedAt_14 (by decide) ?_
  refine lv_icmp_ne (tgt := 22) hx hb dM_typeAskedAt_15 rfl (fun hq => ?_) (fun hq => ?_)
  · have hf := ck_f hq hf
    refine lv_aload_n hx hb dM_typeAskedAt_22 rfl (lv_at hl 1 rfl) ?_
    refine ck_gr C h FM_askedType dM_typeAskedAt_23 ?_
    refine lv_iload_n hx hb dM_typeAskedAt_26 rfl (lv_at hl 2 rfl) ?_
    refine lv_bipush (v := 16) hx hb dM_typeAskedAt_27 (by decide) ?_
    refine lv_imul hx hb dM_typeAskedAt_29 ?_
    refine lv_iload_n hx hb dM_typeAskedAt_30 rfl (lv_at hl 0 rfl) ?_
    refine lv_iadd hx hb dM_typeAskedAt_31 ?_
    obtain ⟨hg, hf⟩ := ck_gd_e hf
    refine ck_ai (x := (st1 25 (((x1 * (16 : Int32)) + v2)).toNatClampNeg)) C h (show sh_C[25]? = some (.inr (0, 256)) from rfl) hg rfl dM_typeAskedAt_32 ?_
    exact ck_ri hf hret h dM_typeAskedAt_33
  · have hf := ck_t hq hf
    refine lv_iconst (v := (-1)) hx hb dM_typeAskedAt_18 (by decide) ?_
    refine lv_goto (tgt := 33) hx hb dM_typeAskedAt_19 rfl ?_
    exact ck_ri hf hret h dM_typeAskedAt_33
def fM_notAsking (x1 : Int32) (x2 : Int32) (st : ck_S) : Option (Int32 × ck_S) := (ck_gd x2 16 (some ((x1 &&& ((st 23 (x2).toNatClampNeg) ^^^ (-1 : Int32))), st)))
set_option maxRecDepth 100000 in
set_option maxHeartbeats 4000000 in
theorem cM_notAsking (l : Launch) (D : va_G) (cA : Nat → ClassId) (ad : Nat → Nat) {x1 : Int32} {x2 : Int32} {st : ck_S} {r0 : Int32} {st0 : ck_S} (hf : fM_notAsking x1 x2 st = some (r0, st0)) : Met l yM_notAsking (.code yM_notAsking bM_notAsking 3 (some .int) :: ck_T) (ck_R 0) (va_Pc [.ref (ad 4), .int x1, .int x2] (ck_P sh_C cm_cl D cA ad st)) (va_Qi (fun a u => a = r0 ∧ u = st0) (ck_P sh_C cm_cl D cA ad) (ck_A ad sh_C.length)) 0 0 (ck_A ad sh_C.length) := by
  refine ck_met_i (own := R_M) (by decide +kernel) rfl (Nat.le_of_ble_eq_true rfl) (fun p e R s m args below meth c H0 Q ls C hret h hl => ?_)
  have C1 := C
  obtain ⟨hx, hb, hml, hown, hts, hK, hlv, hlo⟩ := C1
  have hl : lv_has ls 3 [(0, .ref (ad 4)), (1, .int x1), (2, .int x2)] := hl
  unfold fM_notAsking at hf
  refine lv_iload_n hx hb dM_notAsking_0 rfl (lv_at hl 1 rfl) ?_
  refine lv_aload_n hx hb dM_notAsking_1 rfl (lv_at hl 0 rfl) ?_
  refine ck_gr C h FM_askers dM_notAsking_2 ?_
  refine lv_iload_n hx hb dM_notAsking_5 rfl (lv_at hl 2 rfl) ?_
  obtain ⟨hg, hf⟩ := ck_gd_e hf
  refine ck_ai (x := (st 23 (x2).toNatClampNeg)) C h (show sh_C[23]? = some (.inr (0, 16)) from rfl) hg rfl dM_notAsking_6 ?_
  refine lv_iconst (v := (-1)) hx hb dM_notAsking_7 (by decide) ?_
  refine lv_ixor hx hb dM_notAsking_8 ?_
  refine lv_iand hx hb dM_notAsking_9 ?_
  exact ck_ri hf hret h dM_notAsking_10
def fM_notAskingElse_l11 : Nat → Int32 → Int32 → Int32 → Int32 → Int32 → ck_S → Option (Int32 × ck_S)
  | 0, _, _, _, _, _, _ => none
  | n + 1, x1, x2, x3, x4, x5, st => (if (st 4 8) ≤ x5 then (some (x4, st)) else (ck_gd ((x2 * (16 : Int32)) + x5) 256 (if (st 24 (((x2 * (16 : Int32)) + x5)).toNatClampNeg) = x3 then (fM_notAskingElse_l11 n x1 x2 x3 (x4 ||| (x1 &&& ((1 : Int32) <<< (x5 &&& 31)))) (x5 + 1) st) else (fM_notAskingElse_l11 n x1 x2 x3 x4 (x5 + 1) st))))
set_option maxRecDepth 100000 in
set_option maxHeartbeats 4000000 in
theorem BM_notAskingElse_11 (C : ck_X cm_cl D cA bM_notAskingElse 6 R_M 1 p R s m args c) {r0 : Int32} {st0 : ck_S} (hret : ∀ (pc : Nat) (H : Heap) (locs : List Loc) (ls : Array Slot), decode bM_notAskingElse pc = .ok (.ireturn, 1) → ck_AT sh_C cm_cl D cA ad H0 st0 H locs → W p l e R s m args below meth c H locs 0 0 Q (F0 m pc ls [.int r0])) : ∀ (n : Nat) (x1 : Int32) (x2 : Int32) (x3 : Int32) (x4 : Int32) (x5 : Int32) (st : ck_S) (H : Heap) (locs : List Loc) (ls : Array Slot), ck_AT sh_C cm_cl D cA ad H0 st H locs → lv_has ls 6 [(0, .ref (ad 4)), (1, .int x1), (2, .int x2), (3, .int x3), (4, .int x4), (5, .int x5)] → fM_notAskingElse_l11  n x1 x2 x3 x4 x5 st = some (r0, st0) → W p l e R s m args below meth c H locs 0 0 Q (F0 m 11 ls []) := by
  have C1 := C
  obtain ⟨hx, hb, hml, hown, hts, hK, hlv, hlo⟩ := C1
  intro n
  induction n with
  | zero => intro _ _ _ _ _ _ _ _ _ _ _ hf; cases hf
  | succ n ih =>
    intro x1 x2 x3 x4 x5 st H locs ls h hl hf
    rw [fM_notAskingElse_l11] at hf
    refine lv_iload hx hb dM_notAskingElse_11 (lv_at hl 5 rfl) ?_
    refine lv_aload_n hx hb dM_notAskingElse_13 rfl (lv_at hl 0 rfl) ?_
    refine ck_gi (x := (st 4 8)) C h FM_clauses rfl dM_notAskingElse_14 ?_
    refine lv_icmp_ge (tgt := 53) hx hb dM_notAskingElse_17 rfl (fun hq => ?_) (fun hq => ?_)
    · have hf := ck_t hq hf
      refine lv_iload hx hb dM_notAskingElse_53 (lv_at hl 4 rfl) ?_
      exact ck_ri hf hret h dM_notAskingElse_55
    · have hf := ck_f hq hf
      refine lv_aload_n hx hb dM_notAskingElse_20 rfl (lv_at hl 0 rfl) ?_
      refine ck_gr C h FM_askedSymbol dM_notAskingElse_21 ?_
      refine lv_iload_n hx hb dM_notAskingElse_24 rfl (lv_at hl 2 rfl) ?_
      refine lv_bipush (v := 16) hx hb dM_notAskingElse_25 (by decide) ?_
      refine lv_imul hx hb dM_notAskingElse_27 ?_
      refine lv_iload hx hb dM_notAskingElse_28 (lv_at hl 5 rfl) ?_
      refine lv_iadd hx hb dM_notAskingElse_30 ?_
      obtain ⟨hg, hf⟩ := ck_gd_e hf
      refine ck_ai (x := (st 24 (((x2 * (16 : Int32)) + x5)).toNatClampNeg)) C h (show sh_C[24]? = some (.inr (0, 256)) from rfl) hg rfl dM_notAskingElse_31 ?_
      refine lv_iload_n hx hb dM_notAskingElse_32 rfl (lv_at hl 3 rfl) ?_
      refine lv_icmp_ne (tgt := 47) hx hb dM_notAskingElse_33 rfl (fun hq => ?_) (fun hq => ?_)
      · have hf := ck_f hq hf
        refine lv_iinc (k := 5) (v := (x5 + 1)) (lv' := [(5, .int (x5 + 1)), (0, .ref (ad 4)), (1, .int x1), (2, .int x2), (3, .int x3), (4, .int x4)]) hx hb dM_notAskingElse_47 hl rfl rfl (by decide) rfl (fun ls hl => ?_)
        refine lv_goto (tgt := 11) hx hb dM_notAskingElse_50 rfl ?_
        exact ih _ _ _ _ _ _ _ _ _ h (lv_sub hl [1, 2, 3, 4, 5, 0] rfl) hf
      · have hf := ck_t hq hf
        refine lv_iload hx hb dM_notAskingElse_36 (lv_at hl 4 rfl) ?_
        refine lv_iload_n hx hb dM_notAskingElse_38 rfl (lv_at hl 1 rfl) ?_
        refine lv_iconst (v := 1) hx hb dM_notAskingElse_39 (by decide) ?_
        refine lv_iload hx hb dM_notAskingElse_40 (lv_at hl 5 rfl) ?_
        refine lv_ishl hx hb dM_notAskingElse_42 ?_
        refine lv_iand hx hb dM_notAskingElse_43 ?_
        refine lv_ior hx hb dM_notAskingElse_44 ?_
        refine lv_istore (lv' := [(4, .int (x4 ||| (x1 &&& ((1 : Int32) <<< (x5 &&& 31))))), (0, .ref (ad 4)), (1, .int x1), (2, .int x2), (3, .int x3), (5, .int x5)]) hx hb dM_notAskingElse_45 hl (by decide) rfl (fun ls hl => ?_)
        refine lv_iinc (k := 5) (v := (x5 + 1)) (lv' := [(5, .int (x5 + 1)), (4, .int (x4 ||| (x1 &&& ((1 : Int32) <<< (x5 &&& 31))))), (0, .ref (ad 4)), (1, .int x1), (2, .int x2), (3, .int x3)]) hx hb dM_notAskingElse_47 hl rfl rfl (by decide) rfl (fun ls hl => ?_)
        refine lv_goto (tgt := 11) hx hb dM_notAskingElse_50 rfl ?_
        exact ih _ _ _ _ _ _ _ _ _ h (lv_sub hl [2, 3, 4, 5, 1, 0] rfl) hf
def fM_notAskingElse (x1 : Int32) (x2 : Int32) (x3 : Int32) (st : ck_S) : Option (Int32 × ck_S) := (ck_b (fM_notAsking x1 x2 st) fun v2 st1 => (fM_notAskingElse_l11  4096 x1 x2 x3 v2 (0 : Int32) st1))
set_option maxRecDepth 100000 in
set_option maxHeartbeats 4000000 in
theorem cM_notAskingElse (l : Launch) (D : va_G) (cA : Nat → ClassId) (ad : Nat → Nat) {x1 : Int32} {x2 : Int32} {x3 : Int32} {st : ck_S} {r0 : Int32} {st0 : ck_S} (hf : fM_notAskingElse x1 x2 x3 st = some (r0, st0)) : Met l yM_notAskingElse (.code yM_notAskingElse bM_notAskingElse 6 (some .int) :: ck_T) (ck_R 1) (va_Pc [.ref (ad 4), .int x1, .int x2, .int x3] (ck_P sh_C cm_cl D cA ad st)) (va_Qi (fun a u => a = r0 ∧ u = st0) (ck_P sh_C cm_cl D cA ad) (ck_A ad sh_C.length)) 0 0 (ck_A ad sh_C.length) := by
  refine ck_met_i (own := R_M) (by decide +kernel) rfl (Nat.le_of_ble_eq_true rfl) (fun p e R s m args below meth c H0 Q ls C hret h hl => ?_)
  have C1 := C
  obtain ⟨hx, hb, hml, hown, hts, hK, hlv, hlo⟩ := C1
  have hl : lv_has ls 6 [(0, .ref (ad 4)), (1, .int x1), (2, .int x2), (3, .int x3)] := hl
  unfold fM_notAskingElse at hf
  refine lv_aload_n hx hb dM_notAskingElse_0 rfl (lv_at hl 0 rfl) ?_
  refine lv_iload_n hx hb dM_notAskingElse_1 rfl (lv_at hl 1 rfl) ?_
  refine lv_iload_n hx hb dM_notAskingElse_2 rfl (lv_at hl 2 rfl) ?_
  obtain ⟨v2, st1, hc, hf⟩ := ck_b_e hf
  refine ck_vi (As := [.int x1, .int x2]) (rest := []) (q := 4) C h hl CM_M_notAsking sM_notAsking q_M (cM_notAsking l D cA ad hc) (Nat.le_of_ble_eq_true rfl) rfl rfl (Nat.le_of_ble_eq_true rfl) dM_notAskingElse_3 (fun H locs h => ?_)
  refine lv_istore (lv' := [(4, .int v2), (0, .ref (ad 4)), (1, .int x1), (2, .int x2), (3, .int x3)]) hx hb dM_notAskingElse_6 hl (by decide) rfl (fun ls hl => ?_)
  refine lv_iconst (v := 0) hx hb dM_notAskingElse_8 (by decide) ?_
  refine lv_istore (lv' := [(5, .int (0 : Int32)), (4, .int v2), (0, .ref (ad 4)), (1, .int x1), (2, .int x2), (3, .int x3)]) hx hb dM_notAskingElse_9 hl (by decide) rfl (fun ls hl => ?_)
  exact BM_notAskingElse_11 C hret  4096 _ _ _ _ _ _ _ _ _ h (lv_sub hl [2, 3, 4, 5, 1, 0] rfl) hf
def fM_leastAbove_l19 : Nat → Int64 → Int32 → Int32 → Int64 → Int32 → ck_S → Option (Int64 × ck_S)
  | 0, _, _, _, _, _, _ => none
  | n + 1, x1, x4, x5, x6, x8, st => (if (st 4 8) ≤ x8 then (some (x6, st)) else (ck_gd ((x4 * (16 : Int32)) + x8) 256 (if ((x5 >>> (x8 &&& 31)) &&& (1 : Int32)) = (1 : Int32) then (if (lg_cmp (((st 24 (((x4 * (16 : Int32)) + x8)).toNatClampNeg)).toInt64) x1) ≤ 0 then (fM_leastAbove_l19 n x1 x4 x5 x6 (x8 + 1) st) else (if 0 ≤ (lg_cmp (((st 24 (((x4 * (16 : Int32)) + x8)).toNatClampNeg)).toInt64) x6) then (fM_leastAbove_l19 n x1 x4 x5 x6 (x8 + 1) st) else (fM_leastAbove_l19 n x1 x4 x5 (((st 24 (((x4 * (16 : Int32)) + x8)).toNatClampNeg)).toInt64) (x8 + 1) st))) else (fM_leastAbove_l19 n x1 x4 x5 x6 (x8 + 1) st))))
set_option maxRecDepth 100000 in
set_option maxHeartbeats 4000000 in
theorem BM_leastAbove_19 (C : ck_X cm_cl D cA bM_leastAbove 11 R_M 0 p R s m args c) {r0 : Int64} {st0 : ck_S} (hret : ∀ (pc : Nat) (H : Heap) (locs : List Loc) (ls : Array Slot), decode bM_leastAbove pc = .ok (.lreturn, 1) → ck_AT sh_C cm_cl D cA ad H0 st0 H locs → W p l e R s m args below meth c H locs 0 0 Q (F0 m pc ls [.long r0])) : ∀ (n : Nat) (x1 : Int64) (x4 : Int32) (x5 : Int32) (x6 : Int64) (x8 : Int32) (st : ck_S) (H : Heap) (locs : List Loc) (ls : Array Slot), ck_AT sh_C cm_cl D cA ad H0 st H locs → lv_has ls 11 [(0, .ref (ad 4)), (1, .long x1), (4, .int x4), (5, .int x5), (6, .long x6), (8, .int x8)] → fM_leastAbove_l19  n x1 x4 x5 x6 x8 st = some (r0, st0) → W p l e R s m args below meth c H locs 0 0 Q (F0 m 19 ls []) := by
  have C1 := C
  obtain ⟨hx, hb, hml, hown, hts, hK, hlv, hlo⟩ := C1
  intro n
  induction n with
  | zero => intro _ _ _ _ _ _ _ _ _ _ _ hf; cases hf
  | succ n ih =>
    intro x1 x4 x5 x6 x8 st H locs ls h hl hf
    rw [fM_leastAbove_l19] at hf
    refine lv_iload hx hb dM_leastAbove_19 (lv_at hl 5 rfl) ?_
    refine lv_aload_n hx hb dM_leastAbove_21 rfl (lv_at hl 0 rfl) ?_
    refine ck_gi (x := (st 4 8)) C h FM_clauses rfl dM_leastAbove_22 ?_
    refine lv_icmp_ge (tgt := 80) hx hb dM_leastAbove_25 rfl (fun hq => ?_) (fun hq => ?_)
    · have hf := ck_t hq hf
      refine lv_lload hx hb dM_leastAbove_80 (lv_at hl 4 rfl) ?_
      exact ck_rl hf hret h dM_leastAbove_82
    · have hf := ck_f hq hf
      refine lv_aload_n hx hb dM_leastAbove_28 rfl (lv_at hl 0 rfl) ?_
      refine ck_gr C h FM_askedSymbol dM_leastAbove_29 ?_
      refine lv_iload hx hb dM_leastAbove_32 (lv_at hl 2 rfl) ?_
      refine lv_bipush (v := 16) hx hb dM_leastAbove_34 (by decide) ?_
      refine lv_imul hx hb dM_leastAbove_36 ?_
      refine lv_iload hx hb dM_leastAbove_37 (lv_at hl 5 rfl) ?_
      refine lv_iadd hx hb dM_leastAbove_39 ?_
      obtain ⟨hg, hf⟩ := ck_gd_e hf
      refine ck_ai (x := (st 24 (((x4 * (16 : Int32)) + x8)).toNatClampNeg)) C h (show sh_C[24]? = some (.inr (0, 256)) from rfl) hg rfl dM_leastAbove_40 ?_
      refine lv_i2l hx hb dM_leastAbove_41 rfl ?_
      refine lv_lstore (lv' := [(9, .long (((st 24 (((x4 * (16 : Int32)) + x8)).toNatClampNeg)).toInt64)), (0, .ref (ad 4)), (1, .long x1), (4, .int x4), (5, .int x5), (6, .long x6), (8, .int x8)]) hx hb dM_leastAbove_42 hl (by decide) rfl (fun ls hl => ?_)
      refine lv_iload hx hb dM_leastAbove_44 (lv_at hl 4 rfl) ?_
      refine lv_iload hx hb dM_leastAbove_46 (lv_at hl 6 rfl) ?_
      refine lv_ishr hx hb dM_leastAbove_48 ?_
      refine lv_iconst (v := 1) hx hb dM_leastAbove_49 (by decide) ?_
      refine lv_iand hx hb dM_leastAbove_50 ?_
      refine lv_iconst (v := 1) hx hb dM_leastAbove_51 (by decide) ?_
      refine lv_icmp_ne (tgt := 74) hx hb dM_leastAbove_52 rfl (fun hq => ?_) (fun hq => ?_)
      · have hf := ck_f hq hf
        refine lv_iinc (k := 6) (v := (x8 + 1)) (lv' := [(8, .int (x8 + 1)), (9, .long (((st 24 (((x4 * (16 : Int32)) + x8)).toNatClampNeg)).toInt64)), (0, .ref (ad 4)), (1, .long x1), (4, .int x4), (5, .int x5), (6, .long x6)]) hx hb dM_leastAbove_74 hl rfl rfl (by decide) rfl (fun ls hl => ?_)
        refine lv_goto (tgt := 19) hx hb dM_leastAbove_77 rfl ?_
        exact ih _ _ _ _ _ _ _ _ _ h (lv_sub hl [2, 3, 4, 5, 6, 0] rfl) hf
      · have hf := ck_t hq hf
        refine lv_lload hx hb dM_leastAbove_55 (lv_at hl 0 rfl) ?_
        refine lv_lload_n hx hb dM_leastAbove_57 rfl (lv_at hl 2 rfl) ?_
        refine W.lcmp hx hb dM_leastAbove_58 ?_
        refine lv_if_le (tgt := 74) hx hb dM_leastAbove_59 rfl (fun hq => ?_) (fun hq => ?_)
        · have hf := ck_t hq hf
          refine lv_iinc (k := 6) (v := (x8 + 1)) (lv' := [(8, .int (x8 + 1)), (9, .long (((st 24 (((x4 * (16 : Int32)) + x8)).toNatClampNeg)).toInt64)), (0, .ref (ad 4)), (1, .long x1), (4, .int x4), (5, .int x5), (6, .long x6)]) hx hb dM_leastAbove_74 hl rfl rfl (by decide) rfl (fun ls hl => ?_)
          refine lv_goto (tgt := 19) hx hb dM_leastAbove_77 rfl ?_
          exact ih _ _ _ _ _ _ _ _ _ h (lv_sub hl [2, 3, 4, 5, 6, 0] rfl) hf
        · have hf := ck_f hq hf
          refine lv_lload hx hb dM_leastAbove_62 (lv_at hl 0 rfl) ?_
          refine lv_lload hx hb dM_leastAbove_64 (lv_at hl 5 rfl) ?_
          refine W.lcmp hx hb dM_leastAbove_66 ?_
          refine lv_if_ge (tgt := 74) hx hb dM_leastAbove_67 rfl (fun hq => ?_) (fun hq => ?_)
          · have hf := ck_t hq hf
            refine lv_iinc (k := 6) (v := (x8 + 1)) (lv' := [(8, .int (x8 + 1)), (9, .long (((st 24 (((x4 * (16 : Int32)) + x8)).toNatClampNeg)).toInt64)), (0, .ref (ad 4)), (1, .long x1), (4, .int x4), (5, .int x5), (6, .long x6)]) hx hb dM_leastAbove_74 hl rfl rfl (by decide) rfl (fun ls hl => ?_)
            refine lv_goto (tgt := 19) hx hb dM_leastAbove_77 rfl ?_
            exact ih _ _ _ _ _ _ _ _ _ h (lv_sub hl [2, 3, 4, 5, 6, 0] rfl) hf
          · have hf := ck_f hq hf
            refine lv_lload hx hb dM_leastAbove_70 (lv_at hl 0 rfl) ?_
            refine lv_lstore (lv' := [(6, .long (((st 24 (((x4 * (16 : Int32)) + x8)).toNatClampNeg)).toInt64)), (9, .long (((st 24 (((x4 * (16 : Int32)) + x8)).toNatClampNeg)).toInt64)), (0, .ref (ad 4)), (1, .long x1), (4, .int x4), (5, .int x5), (8, .int x8)]) hx hb dM_leastAbove_72 hl (by decide) rfl (fun ls hl => ?_)
            refine lv_iinc (k := 6) (v := (x8 + 1)) (lv' := [(8, .int (x8 + 1)), (6, .long (((st 24 (((x4 * (16 : Int32)) + x8)).toNatClampNeg)).toInt64)), (9, .long (((st 24 (((x4 * (16 : Int32)) + x8)).toNatClampNeg)).toInt64)), (0, .ref (ad 4)), (1, .long x1), (4, .int x4), (5, .int x5)]) hx hb dM_leastAbove_74 hl rfl rfl (by decide) rfl (fun ls hl => ?_)
            refine lv_goto (tgt := 19) hx hb dM_leastAbove_77 rfl ?_
            exact ih _ _ _ _ _ _ _ _ _ h (lv_sub hl [3, 4, 5, 6, 1, 0] rfl) hf
def fM_leastAbove (x1 : Int64) (x3 : Int32) (x4 : Int32) (st : ck_S) : Option (Int64 × ck_S) := (ck_gd x4 16 (fM_leastAbove_l19  4096 x1 x4 (x3 &&& (st 23 (x4).toNatClampNeg)) (4294967296 : Int64) (0 : Int32) st))
set_option maxRecDepth 100000 in
set_option maxHeartbeats 4000000 in
theorem cM_leastAbove (l : Launch) (D : va_G) (cA : Nat → ClassId) (ad : Nat → Nat) {x1 : Int64} {x3 : Int32} {x4 : Int32} {st : ck_S} {r0 : Int64} {st0 : ck_S} (hf : fM_leastAbove x1 x3 x4 st = some (r0, st0)) : Met l yM_leastAbove (.code yM_leastAbove bM_leastAbove 11 (some .long) :: ck_T) (ck_R 0) (va_Pc [.ref (ad 4), .long x1, .int x3, .int x4] (ck_P sh_C cm_cl D cA ad st)) (va_Ql (fun a u => a = r0 ∧ u = st0) (ck_P sh_C cm_cl D cA ad) (ck_A ad sh_C.length)) 0 0 (ck_A ad sh_C.length) := by
  refine ck_met_l (own := R_M) (by decide +kernel) rfl (Nat.le_of_ble_eq_true rfl) (fun p e R s m args below meth c H0 Q ls C hret h hl => ?_)
  have C1 := C
  obtain ⟨hx, hb, hml, hown, hts, hK, hlv, hlo⟩ := C1
  have hl : lv_has ls 11 [(0, .ref (ad 4)), (1, .long x1), (3, .int x3), (4, .int x4)] := hl
  unfold fM_leastAbove at hf
  refine lv_iload_n hx hb dM_leastAbove_0 rfl (lv_at hl 2 rfl) ?_
  refine lv_aload_n hx hb dM_leastAbove_1 rfl (lv_at hl 0 rfl) ?_
  refine ck_gr C h FM_askers dM_leastAbove_2 ?_
  refine lv_iload hx hb dM_leastAbove_5 (lv_at hl 3 rfl) ?_
  obtain ⟨hg, hf⟩ := ck_gd_e hf
  refine ck_ai (x := (st 23 (x4).toNatClampNeg)) C h (show sh_C[23]? = some (.inr (0, 16)) from rfl) hg rfl dM_leastAbove_7 ?_
  refine lv_iand hx hb dM_leastAbove_8 ?_
  refine lv_istore (lv' := [(5, .int (x3 &&& (st 23 (x4).toNatClampNeg))), (0, .ref (ad 4)), (1, .long x1), (3, .int x3), (4, .int x4)]) hx hb dM_leastAbove_9 hl (by decide) rfl (fun ls hl => ?_)
  refine lv_ldc2 (v := 4294967296) hx hb hown (hts _ (ck_T_mk (List.mem_of_getElem? (i := 544) (by decide +kernel)) (by decide +kernel))) dM_leastAbove_11 ?_
  refine lv_lstore (lv' := [(6, .long (4294967296 : Int64)), (5, .int (x3 &&& (st 23 (x4).toNatClampNeg))), (0, .ref (ad 4)), (1, .long x1), (3, .int x3), (4, .int x4)]) hx hb dM_leastAbove_14 hl (by decide) rfl (fun ls hl => ?_)
  refine lv_iconst (v := 0) hx hb dM_leastAbove_16 (by decide) ?_
  refine lv_istore (lv' := [(8, .int (0 : Int32)), (6, .long (4294967296 : Int64)), (5, .int (x3 &&& (st 23 (x4).toNatClampNeg))), (0, .ref (ad 4)), (1, .long x1), (3, .int x3), (4, .int x4)]) hx hb dM_leastAbove_17 hl (by decide) rfl (fun ls hl => ?_)
  exact BM_leastAbove_19 C hret  4096 _ _ _ _ _ _ _ _ _ h (lv_sub hl [3, 4, 6, 2, 1, 0] rfl) hf
def fM_alternativesOutside (x1 : Int32) (x2 : Int32) (st : ck_S) : Option (Int32 × ck_S) := (ck_b (fM_hasRow x2 st) fun v2 st1 => (if v2 = 0 then (some ((0 : Int32), st1)) else (ck_gd (x2 + (1 : Int32)) 9 (ck_gd x2 9 (ck_gd x2 9 (some ((((((1 : Int32) <<< ((st1 21 ((x2 + (1 : Int32))).toNatClampNeg) &&& 31)) - ((1 : Int32) <<< ((st1 21 (x2).toNatClampNeg) &&& 31))) &&& (x1 ^^^ (-1 : Int32))) >>> ((st1 21 (x2).toNatClampNeg) &&& 31)), st1)))))))
set_option maxRecDepth 100000 in
set_option maxHeartbeats 4000000 in
theorem cM_alternativesOutside (l : Launch) (D : va_G) (cA : Nat → ClassId) (ad : Nat → Nat) {x1 : Int32} {x2 : Int32} {st : ck_S} {r0 : Int32} {st0 : ck_S} (hf : fM_alternativesOutside x1 x2 st = some (r0, st0)) : Met l yM_alternativesOutside (.code yM_alternativesOutside bM_alternativesOutside 4 (some .int) :: ck_T) (ck_R 1) (va_Pc [.ref (ad 4), .int x1, .int x2] (ck_P sh_C cm_cl D cA ad st)) (va_Qi (fun a u => a = r0 ∧ u = st0) (ck_P sh_C cm_cl D cA ad) (ck_A ad sh_C.length)) 0 0 (ck_A ad sh_C.length) := by
  refine ck_met_i (own := R_M) (by decide +kernel) rfl (Nat.le_of_ble_eq_true rfl) (fun p e R s m args below meth c H0 Q ls C hret h hl => ?_)
  have C1 := C
  obtain ⟨hx, hb, hml, hown, hts, hK, hlv, hlo⟩ := C1
  have hl : lv_has ls 4 [(0, .ref (ad 4)), (1, .int x1), (2, .int x2)] := hl
  unfold fM_alternativesOutside at hf
  refine lv_aload_n hx hb dM_alternativesOutside_0 rfl (lv_at hl 0 rfl) ?_
  refine lv_iload_n hx hb dM_alternativesOutside_1 rfl (lv_at hl 2 rfl) ?_
  obtain ⟨v2, st1, hc, hf⟩ := ck_b_e hf
  refine ck_vi (As := [.int x2]) (rest := []) (q := 4) C h hl CM_M_hasRow sM_hasRow q_M (cM_hasRow l D cA ad hc) (Nat.le_of_ble_eq_true rfl) rfl rfl (Nat.le_of_ble_eq_true rfl) dM_alternativesOutside_2 (fun H locs h => ?_)
  refine lv_if_ne (tgt := 10) hx hb dM_alternativesOutside_5 rfl (fun hq => ?_) (fun hq => ?_)
  · have hf := ck_f hq hf
    refine lv_iconst (v := 1) hx hb dM_alternativesOutside_10 (by decide) ?_
    refine lv_aload_n hx hb dM_alternativesOutside_11 rfl (lv_at hl 0 rfl) ?_
    refine ck_gr C h FM_firstClause dM_alternativesOutside_12 ?_
    refine lv_iload_n hx hb dM_alternativesOutside_15 rfl (lv_at hl 2 rfl) ?_
    refine lv_iconst (v := 1) hx hb dM_alternativesOutside_16 (by decide) ?_
    refine lv_iadd hx hb dM_alternativesOutside_17 ?_
    obtain ⟨hg, hf⟩ := ck_gd_e hf
    refine ck_ai (x := (st1 21 ((x2 + (1 : Int32))).toNatClampNeg)) C h (show sh_C[21]? = some (.inr (0, 9)) from rfl) hg rfl dM_alternativesOutside_18 ?_
    refine lv_ishl hx hb dM_alternativesOutside_19 ?_
    refine lv_iconst (v := 1) hx hb dM_alternativesOutside_20 (by decide) ?_
    refine lv_aload_n hx hb dM_alternativesOutside_21 rfl (lv_at hl 0 rfl) ?_
    refine ck_gr C h FM_firstClause dM_alternativesOutside_22 ?_
    refine lv_iload_n hx hb dM_alternativesOutside_25 rfl (lv_at hl 2 rfl) ?_
    obtain ⟨hg, hf⟩ := ck_gd_e hf
    refine ck_ai (x := (st1 21 (x2).toNatClampNeg)) C h (show sh_C[21]? = some (.inr (0, 9)) from rfl) hg rfl dM_alternativesOutside_26 ?_
    refine lv_ishl hx hb dM_alternativesOutside_27 ?_
    refine lv_isub hx hb dM_alternativesOutside_28 ?_
    refine lv_istore_n (lv' := [(3, .int (((1 : Int32) <<< ((st1 21 ((x2 + (1 : Int32))).toNatClampNeg) &&& 31)) - ((1 : Int32) <<< ((st1 21 (x2).toNatClampNeg) &&& 31)))), (0, .ref (ad 4)), (1, .int x1), (2, .int x2)]) hx hb dM_alternativesOutside_29 rfl hl (by decide) rfl (fun ls hl => ?_)
    refine lv_iload_n hx hb dM_alternativesOutside_30 rfl (lv_at hl 0 rfl) ?_
    refine lv_iload_n hx hb dM_alternativesOutside_31 rfl (lv_at hl 2 rfl) ?_
    refine lv_iconst (v := (-1)) hx hb dM_alternativesOutside_32 (by decide) ?_
    refine lv_ixor hx hb dM_alternativesOutside_33 ?_
    refine lv_iand hx hb dM_alternativesOutside_34 ?_
    refine lv_aload_n hx hb dM_alternativesOutside_35 rfl (lv_at hl 1 rfl) ?_
    refine ck_gr C h FM_firstClause dM_alternativesOutside_36 ?_
    refine lv_iload_n hx hb dM_alternativesOutside_39 rfl (lv_at hl 3 rfl) ?_
    obtain ⟨hg, hf⟩ := ck_gd_e hf
    refine ck_ai (x := (st1 21 (x2).toNatClampNeg)) C h (show sh_C[21]? = some (.inr (0, 9)) from rfl) hg rfl dM_alternativesOutside_40 ?_
    refine lv_ishr hx hb dM_alternativesOutside_41 ?_
    exact ck_ri hf hret h dM_alternativesOutside_42
  · have hf := ck_t hq hf
    refine lv_iconst (v := 0) hx hb dM_alternativesOutside_8 (by decide) ?_
    exact ck_ri hf hret h dM_alternativesOutside_9
end Smatc
