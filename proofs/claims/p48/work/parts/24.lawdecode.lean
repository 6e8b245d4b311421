theorem dL_law_0 : decode cL_law 0 = .ok (.new 13, 3) := by decide +kernel
theorem dL_law_3 : decode cL_law 3 = .ok (.dup, 1) := by decide +kernel
theorem dL_law_4 : decode cL_law 4 = .ok (.invokespecial 129, 3) := by decide +kernel
theorem dL_law_7 : decode cL_law 7 = .ok (.astore_n 1, 1) := by decide +kernel
theorem dL_law_8 : decode cL_law 8 = .ok (.aload_n 1, 1) := by decide +kernel
theorem dL_law_9 : decode cL_law 9 = .ok (.invokevirtual 130, 3) := by decide +kernel
theorem dL_law_12 : decode cL_law 12 = .ok (.ifCond .ne 66, 3) := by decide +kernel
theorem dL_law_15 : decode cL_law 15 = .ok (.aload_n 1, 1) := by decide +kernel
theorem dL_law_16 : decode cL_law 16 = .ok (.invokevirtual 12, 3) := by decide +kernel
theorem dL_law_19 : decode cL_law 19 = .ok (.bipush 6, 2) := by decide +kernel
theorem dL_law_21 : decode cL_law 21 = .ok (.if_icmp .ne 57, 3) := by decide +kernel
theorem dL_law_24 : decode cL_law 24 = .ok (.aload_n 1, 1) := by decide +kernel
theorem dL_law_25 : decode cL_law 25 = .ok (.iconst 5, 1) := by decide +kernel
theorem dL_law_26 : decode cL_law 26 = .ok (.invokevirtual 18, 3) := by decide +kernel
theorem dL_law_29 : decode cL_law 29 = .ok (.ifCond .ne 49, 3) := by decide +kernel
theorem dL_law_32 : decode cL_law 32 = .ok (.aload_n 1, 1) := by decide +kernel
theorem dL_law_33 : decode cL_law 33 = .ok (.iconst 0, 1) := by decide +kernel
theorem dL_law_34 : decode cL_law 34 = .ok (.invokevirtual 22, 3) := by decide +kernel
theorem dL_law_37 : decode cL_law 37 = .ok (.iconst 1, 1) := by decide +kernel
theorem dL_law_38 : decode cL_law 38 = .ok (.if_icmp .ne 40, 3) := by decide +kernel
theorem dL_law_41 : decode cL_law 41 = .ok (.aload_n 1, 1) := by decide +kernel
theorem dL_law_42 : decode cL_law 42 = .ok (.iconst 2, 1) := by decide +kernel
theorem dL_law_43 : decode cL_law 43 = .ok (.invokevirtual 69, 3) := by decide +kernel
theorem dL_law_46 : decode cL_law 46 = .ok (.iconst 1, 1) := by decide +kernel
theorem dL_law_47 : decode cL_law 47 = .ok (.if_icmp .ne 31, 3) := by decide +kernel
theorem dL_law_50 : decode cL_law 50 = .ok (.aload_n 1, 1) := by decide +kernel
theorem dL_law_51 : decode cL_law 51 = .ok (.iconst 2, 1) := by decide +kernel
theorem dL_law_52 : decode cL_law 52 = .ok (.iconst 0, 1) := by decide +kernel
theorem dL_law_53 : decode cL_law 53 = .ok (.invokevirtual 133, 3) := by decide +kernel
theorem dL_law_56 : decode cL_law 56 = .ok (.bipush 48, 2) := by decide +kernel
theorem dL_law_58 : decode cL_law 58 = .ok (.if_icmp .ne 20, 3) := by decide +kernel
theorem dL_law_61 : decode cL_law 61 = .ok (.aload_n 1, 1) := by decide +kernel
theorem dL_law_62 : decode cL_law 62 = .ok (.invokevirtual 25, 3) := by decide +kernel
theorem dL_law_65 : decode cL_law 65 = .ok (.ifCond .ne 13, 3) := by decide +kernel
theorem dL_law_68 : decode cL_law 68 = .ok (.aload_n 1, 1) := by decide +kernel
theorem dL_law_69 : decode cL_law 69 = .ok (.iconst 1, 1) := by decide +kernel
theorem dL_law_70 : decode cL_law 70 = .ok (.invokevirtual 124, 3) := by decide +kernel
theorem dL_law_73 : decode cL_law 73 = .ok (.dconst 0, 1) := by decide +kernel
theorem dL_law_74 : decode cL_law 74 = .ok (.dcmp .l, 1) := by decide +kernel
theorem dL_law_75 : decode cL_law 75 = .ok (.ifCond .eq 5, 3) := by decide +kernel
theorem dL_law_78 : decode cL_law 78 = .ok (.iconst 0, 1) := by decide +kernel
theorem dL_law_79 : decode cL_law 79 = .ok (.ireturn, 1) := by decide +kernel
theorem dL_law_80 : decode cL_law 80 = .ok (.iconst 0, 1) := by decide +kernel
theorem dL_law_81 : decode cL_law 81 = .ok (.istore_n 2, 1) := by decide +kernel
theorem dL_law_82 : decode cL_law 82 = .ok (.iload_n 2, 1) := by decide +kernel
theorem dL_law_83 : decode cL_law 83 = .ok (.bipush 40, 2) := by decide +kernel
theorem dL_law_85 : decode cL_law 85 = .ok (.if_icmp .ge 217, 3) := by decide +kernel
theorem dL_law_88 : decode cL_law 88 = .ok (.aload_n 0, 1) := by decide +kernel
theorem dL_law_89 : decode cL_law 89 = .ok (.iconst 2, 1) := by decide +kernel
theorem dL_law_90 : decode cL_law 90 = .ok (.iload_n 2, 1) := by decide +kernel
theorem dL_law_91 : decode cL_law 91 = .ok (.imul, 1) := by decide +kernel
theorem dL_law_92 : decode cL_law 92 = .ok (.invokestatic 136, 3) := by decide +kernel
theorem dL_law_95 : decode cL_law 95 = .ok (.istore_n 3, 1) := by decide +kernel
theorem dL_law_96 : decode cL_law 96 = .ok (.iload_n 2, 1) := by decide +kernel
theorem dL_law_97 : decode cL_law 97 = .ok (.iconst 3, 1) := by decide +kernel
theorem dL_law_98 : decode cL_law 98 = .ok (.if_icmp .ge 12, 3) := by decide +kernel
theorem dL_law_101 : decode cL_law 101 = .ok (.iload_n 3, 1) := by decide +kernel
theorem dL_law_102 : decode cL_law 102 = .ok (.bipush (-16), 2) := by decide +kernel
theorem dL_law_104 : decode cL_law 104 = .ok (.iand, 1) := by decide +kernel
theorem dL_law_105 : decode cL_law 105 = .ok (.iconst 2, 1) := by decide +kernel
theorem dL_law_106 : decode cL_law 106 = .ok (.ior, 1) := by decide +kernel
theorem dL_law_107 : decode cL_law 107 = .ok (.goto 4, 3) := by decide +kernel
theorem dL_law_110 : decode cL_law 110 = .ok (.iload_n 3, 1) := by decide +kernel
theorem dL_law_111 : decode cL_law 111 = .ok (.istore_n 3, 1) := by decide +kernel
theorem dL_law_112 : decode cL_law 112 = .ok (.aload_n 0, 1) := by decide +kernel
theorem dL_law_113 : decode cL_law 113 = .ok (.iconst 2, 1) := by decide +kernel
theorem dL_law_114 : decode cL_law 114 = .ok (.iload_n 2, 1) := by decide +kernel
theorem dL_law_115 : decode cL_law 115 = .ok (.imul, 1) := by decide +kernel
theorem dL_law_116 : decode cL_law 116 = .ok (.iconst 1, 1) := by decide +kernel
theorem dL_law_117 : decode cL_law 117 = .ok (.iadd, 1) := by decide +kernel
theorem dL_law_118 : decode cL_law 118 = .ok (.invokestatic 136, 3) := by decide +kernel
theorem dL_law_121 : decode cL_law 121 = .ok (.istore 4, 2) := by decide +kernel
theorem dL_law_123 : decode cL_law 123 = .ok (.aload_n 1, 1) := by decide +kernel
theorem dL_law_124 : decode cL_law 124 = .ok (.invokestatic 140, 3) := by decide +kernel
theorem dL_law_127 : decode cL_law 127 = .ok (.lstore 5, 2) := by decide +kernel
theorem dL_law_129 : decode cL_law 129 = .ok (.aload_n 1, 1) := by decide +kernel
theorem dL_law_130 : decode cL_law 130 = .ok (.invokevirtual 130, 3) := by decide +kernel
theorem dL_law_133 : decode cL_law 133 = .ok (.istore 7, 2) := by decide +kernel
theorem dL_law_135 : decode cL_law 135 = .ok (.aload_n 1, 1) := by decide +kernel
theorem dL_law_136 : decode cL_law 136 = .ok (.iload_n 3, 1) := by decide +kernel
theorem dL_law_137 : decode cL_law 137 = .ok (.iload 4, 2) := by decide +kernel
theorem dL_law_139 : decode cL_law 139 = .ok (.invokestatic 144, 3) := by decide +kernel
theorem dL_law_142 : decode cL_law 142 = .ok (.istore 8, 2) := by decide +kernel
theorem dL_law_144 : decode cL_law 144 = .ok (.aload_n 1, 1) := by decide +kernel
theorem dL_law_145 : decode cL_law 145 = .ok (.invokestatic 140, 3) := by decide +kernel
theorem dL_law_148 : decode cL_law 148 = .ok (.lstore 9, 2) := by decide +kernel
theorem dL_law_150 : decode cL_law 150 = .ok (.iload 8, 2) := by decide +kernel
theorem dL_law_152 : decode cL_law 152 = .ok (.ifCond .ne 23, 3) := by decide +kernel
theorem dL_law_155 : decode cL_law 155 = .ok (.lload 9, 2) := by decide +kernel
theorem dL_law_157 : decode cL_law 157 = .ok (.lload 5, 2) := by decide +kernel
theorem dL_law_159 : decode cL_law 159 = .ok (.lcmp, 1) := by decide +kernel
theorem dL_law_160 : decode cL_law 160 = .ok (.ifCond .ne 38, 3) := by decide +kernel
theorem dL_law_163 : decode cL_law 163 = .ok (.aload_n 1, 1) := by decide +kernel
theorem dL_law_164 : decode cL_law 164 = .ok (.invokevirtual 130, 3) := by decide +kernel
theorem dL_law_167 : decode cL_law 167 = .ok (.iload 7, 2) := by decide +kernel
theorem dL_law_169 : decode cL_law 169 = .ok (.if_icmp .eq 31, 3) := by decide +kernel
theorem dL_law_172 : decode cL_law 172 = .ok (.goto 26, 3) := by decide +kernel
theorem dL_law_175 : decode cL_law 175 = .ok (.aload_n 1, 1) := by decide +kernel
theorem dL_law_176 : decode cL_law 176 = .ok (.invokevirtual 130, 3) := by decide +kernel
theorem dL_law_179 : decode cL_law 179 = .ok (.iload 7, 2) := by decide +kernel
theorem dL_law_181 : decode cL_law 181 = .ok (.bipush 6, 2) := by decide +kernel
theorem dL_law_183 : decode cL_law 183 = .ok (.if_icmp .ge 10, 3) := by decide +kernel
theorem dL_law_186 : decode cL_law 186 = .ok (.iload 7, 2) := by decide +kernel
theorem dL_law_188 : decode cL_law 188 = .ok (.iconst 1, 1) := by decide +kernel
theorem dL_law_189 : decode cL_law 189 = .ok (.iadd, 1) := by decide +kernel
theorem dL_law_190 : decode cL_law 190 = .ok (.goto 5, 3) := by decide +kernel
theorem dL_law_193 : decode cL_law 193 = .ok (.bipush 6, 2) := by decide +kernel
theorem dL_law_195 : decode cL_law 195 = .ok (.if_icmp .eq 5, 3) := by decide +kernel
theorem dL_law_198 : decode cL_law 198 = .ok (.iconst 0, 1) := by decide +kernel
theorem dL_law_199 : decode cL_law 199 = .ok (.ireturn, 1) := by decide +kernel
theorem dL_law_200 : decode cL_law 200 = .ok (.iload 8, 2) := by decide +kernel
theorem dL_law_202 : decode cL_law 202 = .ok (.ifCond .eq 61, 3) := by decide +kernel
theorem dL_law_205 : decode cL_law 205 = .ok (.iload_n 3, 1) := by decide +kernel
theorem dL_law_206 : decode cL_law 206 = .ok (.bipush 20, 2) := by decide +kernel
theorem dL_law_208 : decode cL_law 208 = .ok (.ishr, 1) := by decide +kernel
theorem dL_law_209 : decode cL_law 209 = .ok (.iconst 1, 1) := by decide +kernel
theorem dL_law_210 : decode cL_law 210 = .ok (.iand, 1) := by decide +kernel
theorem dL_law_211 : decode cL_law 211 = .ok (.ifCond .ne 52, 3) := by decide +kernel
theorem dL_law_214 : decode cL_law 214 = .ok (.aload_n 1, 1) := by decide +kernel
theorem dL_law_215 : decode cL_law 215 = .ok (.invokevirtual 130, 3) := by decide +kernel
theorem dL_law_218 : decode cL_law 218 = .ok (.iconst 1, 1) := by decide +kernel
theorem dL_law_219 : decode cL_law 219 = .ok (.isub, 1) := by decide +kernel
theorem dL_law_220 : decode cL_law 220 = .ok (.istore 11, 2) := by decide +kernel
theorem dL_law_222 : decode cL_law 222 = .ok (.aload_n 1, 1) := by decide +kernel
theorem dL_law_223 : decode cL_law 223 = .ok (.invokevirtual 148, 3) := by decide +kernel
theorem dL_law_226 : decode cL_law 226 = .ok (.iload 11, 2) := by decide +kernel
theorem dL_law_228 : decode cL_law 228 = .ok (.if_icmp .ne 33, 3) := by decide +kernel
theorem dL_law_231 : decode cL_law 231 = .ok (.aload_n 1, 1) := by decide +kernel
theorem dL_law_232 : decode cL_law 232 = .ok (.invokestatic 140, 3) := by decide +kernel
theorem dL_law_235 : decode cL_law 235 = .ok (.lload 5, 2) := by decide +kernel
theorem dL_law_237 : decode cL_law 237 = .ok (.lcmp, 1) := by decide +kernel
theorem dL_law_238 : decode cL_law 238 = .ok (.ifCond .ne 23, 3) := by decide +kernel
theorem dL_law_241 : decode cL_law 241 = .ok (.aload_n 1, 1) := by decide +kernel
theorem dL_law_242 : decode cL_law 242 = .ok (.iload_n 3, 1) := by decide +kernel
theorem dL_law_243 : decode cL_law 243 = .ok (.iload 4, 2) := by decide +kernel
theorem dL_law_245 : decode cL_law 245 = .ok (.invokestatic 144, 3) := by decide +kernel
theorem dL_law_248 : decode cL_law 248 = .ok (.ifCond .eq 13, 3) := by decide +kernel
theorem dL_law_251 : decode cL_law 251 = .ok (.aload_n 1, 1) := by decide +kernel
theorem dL_law_252 : decode cL_law 252 = .ok (.invokestatic 140, 3) := by decide +kernel
theorem dL_law_255 : decode cL_law 255 = .ok (.lload 9, 2) := by decide +kernel
theorem dL_law_257 : decode cL_law 257 = .ok (.lcmp, 1) := by decide +kernel
theorem dL_law_258 : decode cL_law 258 = .ok (.ifCond .eq 5, 3) := by decide +kernel
theorem dL_law_261 : decode cL_law 261 = .ok (.iconst 0, 1) := by decide +kernel
theorem dL_law_262 : decode cL_law 262 = .ok (.ireturn, 1) := by decide +kernel
theorem dL_law_263 : decode cL_law 263 = .ok (.aload_n 1, 1) := by decide +kernel
theorem dL_law_264 : decode cL_law 264 = .ok (.iload_n 3, 1) := by decide +kernel
theorem dL_law_265 : decode cL_law 265 = .ok (.iconst 4, 1) := by decide +kernel
theorem dL_law_266 : decode cL_law 266 = .ok (.ishr, 1) := by decide +kernel
theorem dL_law_267 : decode cL_law 267 = .ok (.bipush 6, 2) := by decide +kernel
theorem dL_law_269 : decode cL_law 269 = .ok (.invokestatic 35, 3) := by decide +kernel
theorem dL_law_272 : decode cL_law 272 = .ok (.iload 4, 2) := by decide +kernel
theorem dL_law_274 : decode cL_law 274 = .ok (.iconst 3, 1) := by decide +kernel
theorem dL_law_275 : decode cL_law 275 = .ok (.ishr, 1) := by decide +kernel
theorem dL_law_276 : decode cL_law 276 = .ok (.bipush 6, 2) := by decide +kernel
theorem dL_law_278 : decode cL_law 278 = .ok (.invokestatic 35, 3) := by decide +kernel
theorem dL_law_281 : decode cL_law 281 = .ok (.iload 4, 2) := by decide +kernel
theorem dL_law_283 : decode cL_law 283 = .ok (.bipush 30, 2) := by decide +kernel
theorem dL_law_285 : decode cL_law 285 = .ok (.invokestatic 35, 3) := by decide +kernel
theorem dL_law_288 : decode cL_law 288 = .ok (.invokestatic 151, 3) := by decide +kernel
theorem dL_law_291 : decode cL_law 291 = .ok (.ifCond .ne 5, 3) := by decide +kernel
theorem dL_law_294 : decode cL_law 294 = .ok (.iconst 0, 1) := by decide +kernel
theorem dL_law_295 : decode cL_law 295 = .ok (.ireturn, 1) := by decide +kernel
theorem dL_law_296 : decode cL_law 296 = .ok (.iinc 2 1, 3) := by decide +kernel
theorem dL_law_299 : decode cL_law 299 = .ok (.goto (-217), 3) := by decide +kernel
theorem dL_law_302 : decode cL_law 302 = .ok (.iconst 1, 1) := by decide +kernel
theorem dL_law_303 : decode cL_law 303 = .ok (.ireturn, 1) := by decide +kernel
