theorem dL_step_54 : decode cL_step 54 = .ok (.iconst 1, 1) := by decide +kernel
theorem dL_step_55 : decode cL_step 55 = .ok (.goto 4, 3) := by decide +kernel
theorem dL_step_58 : decode cL_step 58 = .ok (.iconst 0, 1) := by decide +kernel
theorem dL_step_59 : decode cL_step 59 = .ok (.invokevirtual 39, 3) := by decide +kernel
theorem dL_step_62 : decode cL_step 62 = .ok (.pop, 1) := by decide +kernel
theorem dL_step_63 : decode cL_step 63 = .ok (.goto 63, 3) := by decide +kernel
theorem dL_step_66 : decode cL_step 66 = .ok (.aload_n 0, 1) := by decide +kernel
theorem dL_step_67 : decode cL_step 67 = .ok (.invokevirtual 43, 3) := by decide +kernel
theorem dL_step_70 : decode cL_step 70 = .ok (.pop, 1) := by decide +kernel
theorem dL_step_71 : decode cL_step 71 = .ok (.goto 55, 3) := by decide +kernel
theorem dL_step_74 : decode cL_step 74 = .ok (.aload_n 0, 1) := by decide +kernel
theorem dL_step_75 : decode cL_step 75 = .ok (.iconst 2, 1) := by decide +kernel
theorem dL_step_76 : decode cL_step 76 = .ok (.iload_n 1, 1) := by decide +kernel
theorem dL_step_77 : decode cL_step 77 = .ok (.iconst 5, 1) := by decide +kernel
theorem dL_step_78 : decode cL_step 78 = .ok (.if_icmp .ne 7, 3) := by decide +kernel
theorem dL_step_81 : decode cL_step 81 = .ok (.iconst 1, 1) := by decide +kernel
theorem dL_step_82 : decode cL_step 82 = .ok (.goto 4, 3) := by decide +kernel
theorem dL_step_85 : decode cL_step 85 = .ok (.iconst 0, 1) := by decide +kernel
theorem dL_step_86 : decode cL_step 86 = .ok (.invokevirtual 46, 3) := by decide +kernel
theorem dL_step_89 : decode cL_step 89 = .ok (.pop, 1) := by decide +kernel
theorem dL_step_90 : decode cL_step 90 = .ok (.goto 36, 3) := by decide +kernel
theorem dL_step_93 : decode cL_step 93 = .ok (.aload_n 0, 1) := by decide +kernel
theorem dL_step_94 : decode cL_step 94 = .ok (.invokevirtual 50, 3) := by decide +kernel
theorem dL_step_97 : decode cL_step 97 = .ok (.pop, 1) := by decide +kernel
theorem dL_step_98 : decode cL_step 98 = .ok (.goto 28, 3) := by decide +kernel
theorem dL_step_101 : decode cL_step 101 = .ok (.aload_n 0, 1) := by decide +kernel
theorem dL_step_102 : decode cL_step 102 = .ok (.iconst 1, 1) := by decide +kernel
theorem dL_step_103 : decode cL_step 103 = .ok (.iconst 1, 1) := by decide +kernel
theorem dL_step_104 : decode cL_step 104 = .ok (.invokevirtual 53, 3) := by decide +kernel
theorem dL_step_107 : decode cL_step 107 = .ok (.pop, 1) := by decide +kernel
theorem dL_step_108 : decode cL_step 108 = .ok (.goto 18, 3) := by decide +kernel
theorem dL_step_111 : decode cL_step 111 = .ok (.aload_n 0, 1) := by decide +kernel
theorem dL_step_112 : decode cL_step 112 = .ok (.iconst 3, 1) := by decide +kernel
theorem dL_step_113 : decode cL_step 113 = .ok (.iconst 0, 1) := by decide +kernel
theorem dL_step_114 : decode cL_step 114 = .ok (.invokevirtual 46, 3) := by decide +kernel
theorem dL_step_117 : decode cL_step 117 = .ok (.pop, 1) := by decide +kernel
theorem dL_step_118 : decode cL_step 118 = .ok (.goto 8, 3) := by decide +kernel
theorem dL_step_121 : decode cL_step 121 = .ok (.aload_n 0, 1) := by decide +kernel
theorem dL_step_122 : decode cL_step 122 = .ok (.invokestatic 56, 3) := by decide +kernel
theorem dL_step_125 : decode cL_step 125 = .ok (.ireturn, 1) := by decide +kernel
theorem dL_step_126 : decode cL_step 126 = .ok (.iconst 1, 1) := by decide +kernel
theorem dL_step_127 : decode cL_step 127 = .ok (.ireturn, 1) := by decide +kernel
theorem dL_step_128 : decode cL_step 128 = .ok (.astore_n 2, 1) := by decide +kernel
theorem dL_step_129 : decode cL_step 129 = .ok (.iconst 0, 1) := by decide +kernel
theorem dL_step_130 : decode cL_step 130 = .ok (.ireturn, 1) := by decide +kernel
theorem dL_nine_0 : decode cL_nine 0 = .ok (.aload_n 0, 1) := by decide +kernel
theorem dL_nine_1 : decode cL_nine 1 = .ok (.iconst 3, 1) := by decide +kernel
theorem dL_nine_2 : decode cL_nine 2 = .ok (.invokevirtual 62, 3) := by decide +kernel
theorem dL_nine_5 : decode cL_nine 5 = .ok (.istore_n 1, 1) := by decide +kernel
theorem dL_nine_6 : decode cL_nine 6 = .ok (.iload_n 1, 1) := by decide +kernel
theorem dL_nine_7 : decode cL_nine 7 = .ok (.iconst 2, 1) := by decide +kernel
theorem dL_nine_8 : decode cL_nine 8 = .ok (.if_icmp .lt 29, 3) := by decide +kernel
theorem dL_nine_11 : decode cL_nine 11 = .ok (.iload_n 1, 1) := by decide +kernel
theorem dL_nine_12 : decode cL_nine 12 = .ok (.aload_n 0, 1) := by decide +kernel
theorem dL_nine_13 : decode cL_nine 13 = .ok (.iconst 4, 1) := by decide +kernel
theorem dL_nine_14 : decode cL_nine 14 = .ok (.invokevirtual 62, 3) := by decide +kernel
theorem dL_nine_17 : decode cL_nine 17 = .ok (.iadd, 1) := by decide +kernel
theorem dL_nine_18 : decode cL_nine 18 = .ok (.bipush 23, 2) := by decide +kernel
theorem dL_nine_20 : decode cL_nine 20 = .ok (.if_icmp .gt 17, 3) := by decide +kernel
theorem dL_nine_23 : decode cL_nine 23 = .ok (.aload_n 0, 1) := by decide +kernel
theorem dL_nine_24 : decode cL_nine 24 = .ok (.aload_n 0, 1) := by decide +kernel
theorem dL_nine_25 : decode cL_nine 25 = .ok (.iconst 2, 1) := by decide +kernel
theorem dL_nine_26 : decode cL_nine 26 = .ok (.invokevirtual 62, 3) := by decide +kernel
theorem dL_nine_29 : decode cL_nine 29 = .ok (.invokevirtual 65, 3) := by decide +kernel
theorem dL_nine_32 : decode cL_nine 32 = .ok (.bipush 11, 2) := by decide +kernel
theorem dL_nine_34 : decode cL_nine 34 = .ok (.if_icmp .ge 5, 3) := by decide +kernel
theorem dL_nine_37 : decode cL_nine 37 = .ok (.iconst 0, 1) := by decide +kernel
theorem dL_nine_38 : decode cL_nine 38 = .ok (.ireturn, 1) := by decide +kernel
theorem dL_nine_39 : decode cL_nine 39 = .ok (.aload_n 0, 1) := by decide +kernel
theorem dL_nine_40 : decode cL_nine 40 = .ok (.iconst 0, 1) := by decide +kernel
theorem dL_nine_41 : decode cL_nine 41 = .ok (.invokevirtual 39, 3) := by decide +kernel
theorem dL_nine_44 : decode cL_nine 44 = .ok (.pop, 1) := by decide +kernel
theorem dL_nine_45 : decode cL_nine 45 = .ok (.aload_n 0, 1) := by decide +kernel
theorem dL_nine_46 : decode cL_nine 46 = .ok (.invokevirtual 43, 3) := by decide +kernel
theorem dL_nine_49 : decode cL_nine 49 = .ok (.pop, 1) := by decide +kernel
theorem dL_nine_50 : decode cL_nine 50 = .ok (.aload_n 0, 1) := by decide +kernel
theorem dL_nine_51 : decode cL_nine 51 = .ok (.iconst 0, 1) := by decide +kernel
theorem dL_nine_52 : decode cL_nine 52 = .ok (.invokevirtual 39, 3) := by decide +kernel
theorem dL_nine_55 : decode cL_nine 55 = .ok (.pop, 1) := by decide +kernel
theorem dL_nine_56 : decode cL_nine 56 = .ok (.iconst 1, 1) := by decide +kernel
theorem dL_nine_57 : decode cL_nine 57 = .ok (.ireturn, 1) := by decide +kernel
theorem dL_law_0 : decode cL_law 0 = .ok (.aload_n 0, 1) := by decide +kernel
theorem dL_law_1 : decode cL_law 1 = .ok (.iconst 1, 1) := by decide +kernel
theorem dL_law_2 : decode cL_law 2 = .ok (.invokestatic 68, 3) := by decide +kernel
theorem dL_law_5 : decode cL_law 5 = .ok (.astore_n 1, 1) := by decide +kernel
theorem dL_law_6 : decode cL_law 6 = .ok (.aload_n 1, 1) := by decide +kernel
theorem dL_law_7 : decode cL_law 7 = .ok (.iconst 1, 1) := by decide +kernel
theorem dL_law_8 : decode cL_law 8 = .ok (.invokevirtual 62, 3) := by decide +kernel
theorem dL_law_11 : decode cL_law 11 = .ok (.iconst 2, 1) := by decide +kernel
theorem dL_law_12 : decode cL_law 12 = .ok (.aload_n 1, 1) := by decide +kernel
theorem dL_law_13 : decode cL_law 13 = .ok (.bipush 7, 2) := by decide +kernel
theorem dL_law_15 : decode cL_law 15 = .ok (.invokevirtual 62, 3) := by decide +kernel
theorem dL_law_18 : decode cL_law 18 = .ok (.imul, 1) := by decide +kernel
theorem dL_law_19 : decode cL_law 19 = .ok (.iadd, 1) := by decide +kernel
theorem dL_law_20 : decode cL_law 20 = .ok (.istore_n 2, 1) := by decide +kernel
theorem dL_law_21 : decode cL_law 21 = .ok (.iconst 0, 1) := by decide +kernel
theorem dL_law_22 : decode cL_law 22 = .ok (.istore_n 3, 1) := by decide +kernel
theorem dL_law_23 : decode cL_law 23 = .ok (.iload_n 3, 1) := by decide +kernel
theorem dL_law_24 : decode cL_law 24 = .ok (.bipush 45, 2) := by decide +kernel
theorem dL_law_26 : decode cL_law 26 = .ok (.if_icmp .ge 1301, 3) := by decide +kernel
theorem dL_law_29 : decode cL_law 29 = .ok (.aload_n 0, 1) := by decide +kernel
theorem dL_law_30 : decode cL_law 30 = .ok (.bipush 8, 2) := by decide +kernel
theorem dL_law_32 : decode cL_law 32 = .ok (.iload_n 3, 1) := by decide +kernel
theorem dL_law_33 : decode cL_law 33 = .ok (.bipush 20, 2) := by decide +kernel
theorem dL_law_35 : decode cL_law 35 = .ok (.irem, 1) := by decide +kernel
theorem dL_law_36 : decode cL_law 36 = .ok (.iadd, 1) := by decide +kernel
theorem dL_law_37 : decode cL_law 37 = .ok (.invokestatic 12, 3) := by decide +kernel
theorem dL_law_40 : decode cL_law 40 = .ok (.iload_n 3, 1) := by decide +kernel
theorem dL_law_41 : decode cL_law 41 = .ok (.bipush 20, 2) := by decide +kernel
theorem dL_law_43 : decode cL_law 43 = .ok (.idiv, 1) := by decide +kernel
theorem dL_law_44 : decode cL_law 44 = .ok (.iconst 4, 1) := by decide +kernel
theorem dL_law_45 : decode cL_law 45 = .ok (.imul, 1) := by decide +kernel
theorem dL_law_46 : decode cL_law 46 = .ok (.ishr, 1) := by decide +kernel
theorem dL_law_47 : decode cL_law 47 = .ok (.istore 4, 2) := by decide +kernel
theorem dL_law_49 : decode cL_law 49 = .ok (.aload_n 1, 1) := by decide +kernel
theorem dL_law_50 : decode cL_law 50 = .ok (.iconst 1, 1) := by decide +kernel
theorem dL_law_51 : decode cL_law 51 = .ok (.invokevirtual 62, 3) := by decide +kernel
theorem dL_law_54 : decode cL_law 54 = .ok (.istore 5, 2) := by decide +kernel
theorem dL_law_56 : decode cL_law 56 = .ok (.aload_n 1, 1) := by decide +kernel
theorem dL_law_57 : decode cL_law 57 = .ok (.iconst 3, 1) := by decide +kernel
theorem dL_law_58 : decode cL_law 58 = .ok (.invokevirtual 62, 3) := by decide +kernel
theorem dL_law_61 : decode cL_law 61 = .ok (.istore 6, 2) := by decide +kernel
theorem dL_law_63 : decode cL_law 63 = .ok (.aload_n 1, 1) := by decide +kernel
theorem dL_law_64 : decode cL_law 64 = .ok (.iconst 4, 1) := by decide +kernel
theorem dL_law_65 : decode cL_law 65 = .ok (.invokevirtual 62, 3) := by decide +kernel
theorem dL_law_68 : decode cL_law 68 = .ok (.istore 7, 2) := by decide +kernel
theorem dL_law_70 : decode cL_law 70 = .ok (.aload_n 1, 1) := by decide +kernel
theorem dL_law_71 : decode cL_law 71 = .ok (.bipush 7, 2) := by decide +kernel
theorem dL_law_73 : decode cL_law 73 = .ok (.invokevirtual 62, 3) := by decide +kernel
theorem dL_law_76 : decode cL_law 76 = .ok (.istore 8, 2) := by decide +kernel
theorem dL_law_78 : decode cL_law 78 = .ok (.aload_n 1, 1) := by decide +kernel
theorem dL_law_79 : decode cL_law 79 = .ok (.iconst 0, 1) := by decide +kernel
theorem dL_law_80 : decode cL_law 80 = .ok (.iconst 0, 1) := by decide +kernel
theorem dL_law_81 : decode cL_law 81 = .ok (.invokevirtual 71, 3) := by decide +kernel
theorem dL_law_84 : decode cL_law 84 = .ok (.istore 9, 2) := by decide +kernel
theorem dL_law_86 : decode cL_law 86 = .ok (.iload 4, 2) := by decide +kernel
theorem dL_law_88 : decode cL_law 88 = .ok (.bipush 17, 2) := by decide +kernel
theorem dL_law_90 : decode cL_law 90 = .ok (.invokestatic 18, 3) := by decide +kernel
theorem dL_law_93 : decode cL_law 93 = .ok (.tableswitch 1097 0 14 #[75, 75, 75, 75, 451, 451, 451, 550, 631, 631, 698, 698, 787, 881, 992], 75) := by decide +kernel
theorem dL_law_168 : decode cL_law 168 = .ok (.iconst 1, 1) := by decide +kernel
theorem dL_law_169 : decode cL_law 169 = .ok (.iload 4, 2) := by decide +kernel
theorem dL_law_171 : decode cL_law 171 = .ok (.iconst 4, 1) := by decide +kernel
theorem dL_law_172 : decode cL_law 172 = .ok (.ishr, 1) := by decide +kernel
theorem dL_law_173 : decode cL_law 173 = .ok (.bipush 6, 2) := by decide +kernel
theorem dL_law_175 : decode cL_law 175 = .ok (.invokestatic 18, 3) := by decide +kernel
theorem dL_law_178 : decode cL_law 178 = .ok (.iadd, 1) := by decide +kernel
theorem dL_law_179 : decode cL_law 179 = .ok (.istore 10, 2) := by decide +kernel
theorem dL_law_181 : decode cL_law 181 = .ok (.bipush 7, 2) := by decide +kernel
theorem dL_law_183 : decode cL_law 183 = .ok (.newarray .int, 2) := by decide +kernel
theorem dL_law_185 : decode cL_law 185 = .ok (.dup, 1) := by decide +kernel
theorem dL_law_186 : decode cL_law 186 = .ok (.iconst 0, 1) := by decide +kernel
theorem dL_law_187 : decode cL_law 187 = .ok (.iconst 0, 1) := by decide +kernel
theorem dL_law_188 : decode cL_law 188 = .ok (.iastore, 1) := by decide +kernel
theorem dL_law_189 : decode cL_law 189 = .ok (.dup, 1) := by decide +kernel
theorem dL_law_190 : decode cL_law 190 = .ok (.iconst 1, 1) := by decide +kernel
theorem dL_law_191 : decode cL_law 191 = .ok (.iconst 1, 1) := by decide +kernel
theorem dL_law_192 : decode cL_law 192 = .ok (.iastore, 1) := by decide +kernel
theorem dL_law_193 : decode cL_law 193 = .ok (.dup, 1) := by decide +kernel
theorem dL_law_194 : decode cL_law 194 = .ok (.iconst 2, 1) := by decide +kernel
theorem dL_law_195 : decode cL_law 195 = .ok (.iconst 1, 1) := by decide +kernel
theorem dL_law_196 : decode cL_law 196 = .ok (.iastore, 1) := by decide +kernel
theorem dL_law_197 : decode cL_law 197 = .ok (.dup, 1) := by decide +kernel
theorem dL_law_198 : decode cL_law 198 = .ok (.iconst 3, 1) := by decide +kernel
theorem dL_law_199 : decode cL_law 199 = .ok (.iconst 0, 1) := by decide +kernel
theorem dL_law_200 : decode cL_law 200 = .ok (.iastore, 1) := by decide +kernel
theorem dL_law_201 : decode cL_law 201 = .ok (.dup, 1) := by decide +kernel
theorem dL_law_202 : decode cL_law 202 = .ok (.iconst 4, 1) := by decide +kernel
theorem dL_law_203 : decode cL_law 203 = .ok (.iconst 2, 1) := by decide +kernel
theorem dL_law_204 : decode cL_law 204 = .ok (.iastore, 1) := by decide +kernel
theorem dL_law_205 : decode cL_law 205 = .ok (.dup, 1) := by decide +kernel
theorem dL_law_206 : decode cL_law 206 = .ok (.iconst 5, 1) := by decide +kernel
theorem dL_law_207 : decode cL_law 207 = .ok (.iconst 2, 1) := by decide +kernel
theorem dL_law_208 : decode cL_law 208 = .ok (.iastore, 1) := by decide +kernel
theorem dL_law_209 : decode cL_law 209 = .ok (.dup, 1) := by decide +kernel
theorem dL_law_210 : decode cL_law 210 = .ok (.bipush 6, 2) := by decide +kernel
theorem dL_law_212 : decode cL_law 212 = .ok (.iconst 1, 1) := by decide +kernel
theorem dL_law_213 : decode cL_law 213 = .ok (.iastore, 1) := by decide +kernel
theorem dL_law_214 : decode cL_law 214 = .ok (.astore 11, 2) := by decide +kernel
theorem dL_law_216 : decode cL_law 216 = .ok (.bipush 7, 2) := by decide +kernel
theorem dL_law_218 : decode cL_law 218 = .ok (.newarray .int, 2) := by decide +kernel
theorem dL_law_220 : decode cL_law 220 = .ok (.dup, 1) := by decide +kernel
theorem dL_law_221 : decode cL_law 221 = .ok (.iconst 0, 1) := by decide +kernel
theorem dL_law_222 : decode cL_law 222 = .ok (.iconst 0, 1) := by decide +kernel
theorem dL_law_223 : decode cL_law 223 = .ok (.iastore, 1) := by decide +kernel
theorem dL_law_224 : decode cL_law 224 = .ok (.dup, 1) := by decide +kernel
theorem dL_law_225 : decode cL_law 225 = .ok (.iconst 1, 1) := by decide +kernel
theorem dL_law_226 : decode cL_law 226 = .ok (.iconst 4, 1) := by decide +kernel
theorem dL_law_227 : decode cL_law 227 = .ok (.iastore, 1) := by decide +kernel
theorem dL_law_228 : decode cL_law 228 = .ok (.dup, 1) := by decide +kernel
theorem dL_law_229 : decode cL_law 229 = .ok (.iconst 2, 1) := by decide +kernel
theorem dL_law_230 : decode cL_law 230 = .ok (.iconst 4, 1) := by decide +kernel
theorem dL_law_231 : decode cL_law 231 = .ok (.iastore, 1) := by decide +kernel
theorem dL_law_232 : decode cL_law 232 = .ok (.dup, 1) := by decide +kernel
theorem dL_law_233 : decode cL_law 233 = .ok (.iconst 3, 1) := by decide +kernel
theorem dL_law_234 : decode cL_law 234 = .ok (.iconst 3, 1) := by decide +kernel
theorem dL_law_235 : decode cL_law 235 = .ok (.iastore, 1) := by decide +kernel
theorem dL_law_236 : decode cL_law 236 = .ok (.dup, 1) := by decide +kernel
theorem dL_law_237 : decode cL_law 237 = .ok (.iconst 4, 1) := by decide +kernel
theorem dL_law_238 : decode cL_law 238 = .ok (.iconst 5, 1) := by decide +kernel
theorem dL_law_239 : decode cL_law 239 = .ok (.iastore, 1) := by decide +kernel
theorem dL_law_240 : decode cL_law 240 = .ok (.dup, 1) := by decide +kernel
theorem dL_law_241 : decode cL_law 241 = .ok (.iconst 5, 1) := by decide +kernel
theorem dL_law_242 : decode cL_law 242 = .ok (.iconst 5, 1) := by decide +kernel
theorem dL_law_243 : decode cL_law 243 = .ok (.iastore, 1) := by decide +kernel
theorem dL_law_244 : decode cL_law 244 = .ok (.dup, 1) := by decide +kernel
theorem dL_law_245 : decode cL_law 245 = .ok (.bipush 6, 2) := by decide +kernel
theorem dL_law_247 : decode cL_law 247 = .ok (.iconst 0, 1) := by decide +kernel
theorem dL_law_248 : decode cL_law 248 = .ok (.iastore, 1) := by decide +kernel
theorem dL_law_249 : decode cL_law 249 = .ok (.astore 12, 2) := by decide +kernel
theorem dL_law_251 : decode cL_law 251 = .ok (.aload_n 1, 1) := by decide +kernel
theorem dL_law_252 : decode cL_law 252 = .ok (.iload 10, 2) := by decide +kernel
theorem dL_law_254 : decode cL_law 254 = .ok (.invokestatic 75, 3) := by decide +kernel
theorem dL_law_257 : decode cL_law 257 = .ok (.istore 13, 2) := by decide +kernel
theorem dL_law_259 : decode cL_law 259 = .ok (.iload 13, 2) := by decide +kernel
theorem dL_law_261 : decode cL_law 261 = .ok (.ifCond .eq 74, 3) := by decide +kernel
theorem dL_law_264 : decode cL_law 264 = .ok (.aload_n 1, 1) := by decide +kernel
theorem dL_law_265 : decode cL_law 265 = .ok (.iconst 3, 1) := by decide +kernel
theorem dL_law_266 : decode cL_law 266 = .ok (.invokevirtual 62, 3) := by decide +kernel
theorem dL_law_269 : decode cL_law 269 = .ok (.iload 6, 2) := by decide +kernel
theorem dL_law_271 : decode cL_law 271 = .ok (.aload 11, 2) := by decide +kernel
theorem dL_law_273 : decode cL_law 273 = .ok (.iload 10, 2) := by decide +kernel
theorem dL_law_275 : decode cL_law 275 = .ok (.iaload, 1) := by decide +kernel
theorem dL_law_276 : decode cL_law 276 = .ok (.isub, 1) := by decide +kernel
theorem dL_law_277 : decode cL_law 277 = .ok (.if_icmp .ne 88, 3) := by decide +kernel
theorem dL_law_280 : decode cL_law 280 = .ok (.aload_n 1, 1) := by decide +kernel
theorem dL_law_281 : decode cL_law 281 = .ok (.iconst 4, 1) := by decide +kernel
theorem dL_law_282 : decode cL_law 282 = .ok (.invokevirtual 62, 3) := by decide +kernel
theorem dL_law_285 : decode cL_law 285 = .ok (.iload 7, 2) := by decide +kernel
theorem dL_law_287 : decode cL_law 287 = .ok (.iconst 1, 1) := by decide +kernel
theorem dL_law_288 : decode cL_law 288 = .ok (.iadd, 1) := by decide +kernel
theorem dL_law_289 : decode cL_law 289 = .ok (.if_icmp .ne 76, 3) := by decide +kernel
theorem dL_law_292 : decode cL_law 292 = .ok (.aload_n 1, 1) := by decide +kernel
theorem dL_law_293 : decode cL_law 293 = .ok (.iconst 1, 1) := by decide +kernel
theorem dL_law_294 : decode cL_law 294 = .ok (.invokevirtual 62, 3) := by decide +kernel
theorem dL_law_297 : decode cL_law 297 = .ok (.iload 5, 2) := by decide +kernel
theorem dL_law_299 : decode cL_law 299 = .ok (.aload 12, 2) := by decide +kernel
theorem dL_law_301 : decode cL_law 301 = .ok (.iload 10, 2) := by decide +kernel
theorem dL_law_303 : decode cL_law 303 = .ok (.iaload, 1) := by decide +kernel
theorem dL_law_304 : decode cL_law 304 = .ok (.isub, 1) := by decide +kernel
theorem dL_law_305 : decode cL_law 305 = .ok (.if_icmp .ne 60, 3) := by decide +kernel
theorem dL_law_308 : decode cL_law 308 = .ok (.aload_n 1, 1) := by decide +kernel
theorem dL_law_309 : decode cL_law 309 = .ok (.bipush 7, 2) := by decide +kernel
theorem dL_law_311 : decode cL_law 311 = .ok (.invokevirtual 62, 3) := by decide +kernel
theorem dL_law_314 : decode cL_law 314 = .ok (.iload 8, 2) := by decide +kernel
theorem dL_law_316 : decode cL_law 316 = .ok (.iload 10, 2) := by decide +kernel
theorem dL_law_318 : decode cL_law 318 = .ok (.bipush 6, 2) := by decide +kernel
theorem dL_law_320 : decode cL_law 320 = .ok (.if_icmp .ne 7, 3) := by decide +kernel
theorem dL_law_323 : decode cL_law 323 = .ok (.iconst 0, 1) := by decide +kernel
theorem dL_law_324 : decode cL_law 324 = .ok (.goto 4, 3) := by decide +kernel
theorem dL_law_327 : decode cL_law 327 = .ok (.iconst 1, 1) := by decide +kernel
theorem dL_law_328 : decode cL_law 328 = .ok (.iadd, 1) := by decide +kernel
theorem dL_law_329 : decode cL_law 329 = .ok (.if_icmp .eq 38, 3) := by decide +kernel
theorem dL_law_332 : decode cL_law 332 = .ok (.goto 33, 3) := by decide +kernel
theorem dL_law_335 : decode cL_law 335 = .ok (.aload_n 1, 1) := by decide +kernel
theorem dL_law_336 : decode cL_law 336 = .ok (.iconst 1, 1) := by decide +kernel
theorem dL_law_337 : decode cL_law 337 = .ok (.invokevirtual 62, 3) := by decide +kernel
theorem dL_law_340 : decode cL_law 340 = .ok (.iload 5, 2) := by decide +kernel
theorem dL_law_342 : decode cL_law 342 = .ok (.if_icmp .ne 23, 3) := by decide +kernel
theorem dL_law_345 : decode cL_law 345 = .ok (.aload_n 1, 1) := by decide +kernel
theorem dL_law_346 : decode cL_law 346 = .ok (.iconst 3, 1) := by decide +kernel
theorem dL_law_347 : decode cL_law 347 = .ok (.invokevirtual 62, 3) := by decide +kernel
theorem dL_law_350 : decode cL_law 350 = .ok (.iload 6, 2) := by decide +kernel
theorem dL_law_352 : decode cL_law 352 = .ok (.if_icmp .ne 13, 3) := by decide +kernel
theorem dL_law_355 : decode cL_law 355 = .ok (.aload_n 1, 1) := by decide +kernel
theorem dL_law_356 : decode cL_law 356 = .ok (.iconst 4, 1) := by decide +kernel
theorem dL_law_357 : decode cL_law 357 = .ok (.invokevirtual 62, 3) := by decide +kernel
theorem dL_law_360 : decode cL_law 360 = .ok (.iload 7, 2) := by decide +kernel
theorem dL_law_362 : decode cL_law 362 = .ok (.if_icmp .eq 5, 3) := by decide +kernel
theorem dL_law_365 : decode cL_law 365 = .ok (.iconst 0, 1) := by decide +kernel
theorem dL_law_366 : decode cL_law 366 = .ok (.ireturn, 1) := by decide +kernel
theorem dL_law_367 : decode cL_law 367 = .ok (.iload 13, 2) := by decide +kernel
theorem dL_law_369 : decode cL_law 369 = .ok (.ifCond .ne 6, 3) := by decide +kernel
theorem dL_law_372 : decode cL_law 372 = .ok (.goto 931, 3) := by decide +kernel
theorem dL_law_375 : decode cL_law 375 = .ok (.aload_n 1, 1) := by decide +kernel
theorem dL_law_376 : decode cL_law 376 = .ok (.iconst 1, 1) := by decide +kernel
theorem dL_law_377 : decode cL_law 377 = .ok (.iconst 0, 1) := by decide +kernel
theorem dL_law_378 : decode cL_law 378 = .ok (.invokevirtual 71, 3) := by decide +kernel
theorem dL_law_381 : decode cL_law 381 = .ok (.istore 14, 2) := by decide +kernel
theorem dL_law_383 : decode cL_law 383 = .ok (.iload 10, 2) := by decide +kernel
theorem dL_law_385 : decode cL_law 385 = .ok (.bipush 6, 2) := by decide +kernel
theorem dL_law_387 : decode cL_law 387 = .ok (.if_icmp .ne 13, 3) := by decide +kernel
theorem dL_law_390 : decode cL_law 390 = .ok (.iload 14, 2) := by decide +kernel
theorem dL_law_392 : decode cL_law 392 = .ok (.iload 9, 2) := by decide +kernel
theorem dL_law_394 : decode cL_law 394 = .ok (.if_icmp .eq 73, 3) := by decide +kernel
theorem dL_law_397 : decode cL_law 397 = .ok (.goto 68, 3) := by decide +kernel
theorem dL_law_400 : decode cL_law 400 = .ok (.iload 14, 2) := by decide +kernel
theorem dL_law_402 : decode cL_law 402 = .ok (.iload 8, 2) := by decide +kernel
theorem dL_law_404 : decode cL_law 404 = .ok (.if_icmp .ne 61, 3) := by decide +kernel
theorem dL_law_407 : decode cL_law 407 = .ok (.aload_n 1, 1) := by decide +kernel
theorem dL_law_408 : decode cL_law 408 = .ok (.iload 14, 2) := by decide +kernel
theorem dL_law_410 : decode cL_law 410 = .ok (.iconst 0, 1) := by decide +kernel
theorem dL_law_411 : decode cL_law 411 = .ok (.invokevirtual 79, 3) := by decide +kernel
theorem dL_law_414 : decode cL_law 414 = .ok (.iload 10, 2) := by decide +kernel
theorem dL_law_416 : decode cL_law 416 = .ok (.if_icmp .ne 49, 3) := by decide +kernel
theorem dL_law_419 : decode cL_law 419 = .ok (.aload_n 1, 1) := by decide +kernel
theorem dL_law_420 : decode cL_law 420 = .ok (.iload 14, 2) := by decide +kernel
theorem dL_law_422 : decode cL_law 422 = .ok (.iconst 4, 1) := by decide +kernel
theorem dL_law_423 : decode cL_law 423 = .ok (.invokevirtual 79, 3) := by decide +kernel
theorem dL_law_426 : decode cL_law 426 = .ok (.aload 11, 2) := by decide +kernel
theorem dL_law_428 : decode cL_law 428 = .ok (.iload 10, 2) := by decide +kernel
theorem dL_law_430 : decode cL_law 430 = .ok (.iaload, 1) := by decide +kernel
theorem dL_law_431 : decode cL_law 431 = .ok (.if_icmp .ne 34, 3) := by decide +kernel
theorem dL_law_434 : decode cL_law 434 = .ok (.aload_n 1, 1) := by decide +kernel
theorem dL_law_435 : decode cL_law 435 = .ok (.iload 14, 2) := by decide +kernel
theorem dL_law_437 : decode cL_law 437 = .ok (.iconst 2, 1) := by decide +kernel
theorem dL_law_438 : decode cL_law 438 = .ok (.invokevirtual 79, 3) := by decide +kernel
theorem dL_law_441 : decode cL_law 441 = .ok (.aload_n 1, 1) := by decide +kernel
theorem dL_law_442 : decode cL_law 442 = .ok (.bipush 6, 2) := by decide +kernel
theorem dL_law_444 : decode cL_law 444 = .ok (.invokevirtual 62, 3) := by decide +kernel
theorem dL_law_447 : decode cL_law 447 = .ok (.if_icmp .ne 18, 3) := by decide +kernel
theorem dL_law_450 : decode cL_law 450 = .ok (.aload_n 1, 1) := by decide +kernel
theorem dL_law_451 : decode cL_law 451 = .ok (.iload 14, 2) := by decide +kernel
theorem dL_law_453 : decode cL_law 453 = .ok (.iconst 1, 1) := by decide +kernel
theorem dL_law_454 : decode cL_law 454 = .ok (.invokevirtual 79, 3) := by decide +kernel
theorem dL_law_457 : decode cL_law 457 = .ok (.aload_n 1, 1) := by decide +kernel
theorem dL_law_458 : decode cL_law 458 = .ok (.iconst 2, 1) := by decide +kernel
theorem dL_law_459 : decode cL_law 459 = .ok (.invokevirtual 62, 3) := by decide +kernel
theorem dL_law_462 : decode cL_law 462 = .ok (.if_icmp .eq 5, 3) := by decide +kernel
theorem dL_law_465 : decode cL_law 465 = .ok (.iconst 0, 1) := by decide +kernel
theorem dL_law_466 : decode cL_law 466 = .ok (.ireturn, 1) := by decide +kernel
theorem dL_law_467 : decode cL_law 467 = .ok (.iload 10, 2) := by decide +kernel
theorem dL_law_469 : decode cL_law 469 = .ok (.iconst 3, 1) := by decide +kernel
theorem dL_law_470 : decode cL_law 470 = .ok (.if_icmp .ge 22, 3) := by decide +kernel
theorem dL_law_473 : decode cL_law 473 = .ok (.aload_n 1, 1) := by decide +kernel
theorem dL_law_474 : decode cL_law 474 = .ok (.iload 14, 2) := by decide +kernel
theorem dL_law_476 : decode cL_law 476 = .ok (.iconst 3, 1) := by decide +kernel
theorem dL_law_477 : decode cL_law 477 = .ok (.invokevirtual 79, 3) := by decide +kernel
theorem dL_law_480 : decode cL_law 480 = .ok (.aload_n 1, 1) := by decide +kernel
theorem dL_law_481 : decode cL_law 481 = .ok (.iload 9, 2) := by decide +kernel
theorem dL_law_483 : decode cL_law 483 = .ok (.iconst 3, 1) := by decide +kernel
theorem dL_law_484 : decode cL_law 484 = .ok (.invokevirtual 79, 3) := by decide +kernel
theorem dL_law_487 : decode cL_law 487 = .ok (.iconst 1, 1) := by decide +kernel
theorem dL_law_488 : decode cL_law 488 = .ok (.iadd, 1) := by decide +kernel
theorem dL_law_489 : decode cL_law 489 = .ok (.if_icmp .ne 53, 3) := by decide +kernel
theorem dL_law_492 : decode cL_law 492 = .ok (.iload 10, 2) := by decide +kernel
theorem dL_law_494 : decode cL_law 494 = .ok (.bipush 6, 2) := by decide +kernel
theorem dL_law_496 : decode cL_law 496 = .ok (.if_icmp .ge 22, 3) := by decide +kernel
theorem dL_law_499 : decode cL_law 499 = .ok (.aload 11, 2) := by decide +kernel
theorem dL_law_501 : decode cL_law 501 = .ok (.iload 10, 2) := by decide +kernel
theorem dL_law_503 : decode cL_law 503 = .ok (.iaload, 1) := by decide +kernel
theorem dL_law_504 : decode cL_law 504 = .ok (.ifCond .le 14, 3) := by decide +kernel
theorem dL_law_507 : decode cL_law 507 = .ok (.aload_n 1, 1) := by decide +kernel
theorem dL_law_508 : decode cL_law 508 = .ok (.iload 9, 2) := by decide +kernel
theorem dL_law_510 : decode cL_law 510 = .ok (.iconst 5, 1) := by decide +kernel
theorem dL_law_511 : decode cL_law 511 = .ok (.invokevirtual 79, 3) := by decide +kernel
theorem dL_law_514 : decode cL_law 514 = .ok (.iconst 2, 1) := by decide +kernel
theorem dL_law_515 : decode cL_law 515 = .ok (.if_icmp .ne 27, 3) := by decide +kernel
theorem dL_law_518 : decode cL_law 518 = .ok (.iload 10, 2) := by decide +kernel
theorem dL_law_520 : decode cL_law 520 = .ok (.iconst 2, 1) := by decide +kernel
theorem dL_law_521 : decode cL_law 521 = .ok (.if_icmp .le 782, 3) := by decide +kernel
theorem dL_law_524 : decode cL_law 524 = .ok (.iload 10, 2) := by decide +kernel
theorem dL_law_526 : decode cL_law 526 = .ok (.bipush 6, 2) := by decide +kernel
theorem dL_law_528 : decode cL_law 528 = .ok (.if_icmp .ge 775, 3) := by decide +kernel
theorem dL_law_531 : decode cL_law 531 = .ok (.aload_n 1, 1) := by decide +kernel
theorem dL_law_532 : decode cL_law 532 = .ok (.iload 14, 2) := by decide +kernel
theorem dL_law_534 : decode cL_law 534 = .ok (.iconst 3, 1) := by decide +kernel
theorem dL_law_535 : decode cL_law 535 = .ok (.invokevirtual 79, 3) := by decide +kernel
theorem dL_law_538 : decode cL_law 538 = .ok (.iconst 1, 1) := by decide +kernel
theorem dL_law_539 : decode cL_law 539 = .ok (.if_icmp .eq 764, 3) := by decide +kernel
theorem dL_law_542 : decode cL_law 542 = .ok (.iconst 0, 1) := by decide +kernel
theorem dL_law_543 : decode cL_law 543 = .ok (.ireturn, 1) := by decide +kernel
theorem dL_law_544 : decode cL_law 544 = .ok (.iload 6, 2) := by decide +kernel
theorem dL_law_546 : decode cL_law 546 = .ok (.iload 7, 2) := by decide +kernel
theorem dL_law_548 : decode cL_law 548 = .ok (.iadd, 1) := by decide +kernel
theorem dL_law_549 : decode cL_law 549 = .ok (.ifCond .ne 6, 3) := by decide +kernel
theorem dL_law_552 : decode cL_law 552 = .ok (.goto 751, 3) := by decide +kernel
theorem dL_law_555 : decode cL_law 555 = .ok (.aload_n 1, 1) := by decide +kernel
theorem dL_law_556 : decode cL_law 556 = .ok (.iconst 1, 1) := by decide +kernel
theorem dL_law_557 : decode cL_law 557 = .ok (.invokevirtual 82, 3) := by decide +kernel
theorem dL_law_560 : decode cL_law 560 = .ok (.dstore 10, 2) := by decide +kernel
theorem dL_law_562 : decode cL_law 562 = .ok (.aload_n 1, 1) := by decide +kernel
theorem dL_law_563 : decode cL_law 563 = .ok (.bipush 10, 2) := by decide +kernel
theorem dL_law_565 : decode cL_law 565 = .ok (.invokevirtual 62, 3) := by decide +kernel
theorem dL_law_568 : decode cL_law 568 = .ok (.istore 12, 2) := by decide +kernel
theorem dL_law_570 : decode cL_law 570 = .ok (.aload_n 1, 1) := by decide +kernel
theorem dL_law_571 : decode cL_law 571 = .ok (.iconst 5, 1) := by decide +kernel
theorem dL_law_572 : decode cL_law 572 = .ok (.invokevirtual 62, 3) := by decide +kernel
theorem dL_law_575 : decode cL_law 575 = .ok (.istore 13, 2) := by decide +kernel
theorem dL_law_577 : decode cL_law 577 = .ok (.aload_n 1, 1) := by decide +kernel
theorem dL_law_578 : decode cL_law 578 = .ok (.invokevirtual 32, 3) := by decide +kernel
theorem dL_law_581 : decode cL_law 581 = .ok (.iload 7, 2) := by decide +kernel
theorem dL_law_583 : decode cL_law 583 = .ok (.if_icmp .ne 58, 3) := by decide +kernel
theorem dL_law_586 : decode cL_law 586 = .ok (.aload_n 1, 1) := by decide +kernel
theorem dL_law_587 : decode cL_law 587 = .ok (.iconst 4, 1) := by decide +kernel
theorem dL_law_588 : decode cL_law 588 = .ok (.invokevirtual 62, 3) := by decide +kernel
theorem dL_law_591 : decode cL_law 591 = .ok (.iload 6, 2) := by decide +kernel
theorem dL_law_593 : decode cL_law 593 = .ok (.if_icmp .ne 48, 3) := by decide +kernel
theorem dL_law_596 : decode cL_law 596 = .ok (.aload_n 1, 1) := by decide +kernel
theorem dL_law_597 : decode cL_law 597 = .ok (.iconst 0, 1) := by decide +kernel
theorem dL_law_598 : decode cL_law 598 = .ok (.invokevirtual 82, 3) := by decide +kernel
theorem dL_law_601 : decode cL_law 601 = .ok (.dload 10, 2) := by decide +kernel
theorem dL_law_603 : decode cL_law 603 = .ok (.dcmp .l, 1) := by decide +kernel
theorem dL_law_604 : decode cL_law 604 = .ok (.ifCond .ne 37, 3) := by decide +kernel
theorem dL_law_607 : decode cL_law 607 = .ok (.aload_n 1, 1) := by decide +kernel
theorem dL_law_608 : decode cL_law 608 = .ok (.bipush 10, 2) := by decide +kernel
theorem dL_law_610 : decode cL_law 610 = .ok (.invokevirtual 62, 3) := by decide +kernel
theorem dL_law_613 : decode cL_law 613 = .ok (.iload 12, 2) := by decide +kernel
theorem dL_law_615 : decode cL_law 615 = .ok (.iload 6, 2) := by decide +kernel
theorem dL_law_617 : decode cL_law 617 = .ok (.ifCond .le 7, 3) := by decide +kernel
theorem dL_law_620 : decode cL_law 620 = .ok (.iconst 1, 1) := by decide +kernel
theorem dL_law_621 : decode cL_law 621 = .ok (.goto 4, 3) := by decide +kernel
theorem dL_law_624 : decode cL_law 624 = .ok (.iconst 0, 1) := by decide +kernel
theorem dL_law_625 : decode cL_law 625 = .ok (.iadd, 1) := by decide +kernel
theorem dL_law_626 : decode cL_law 626 = .ok (.if_icmp .ne 15, 3) := by decide +kernel
theorem dL_law_629 : decode cL_law 629 = .ok (.aload_n 1, 1) := by decide +kernel
theorem dL_law_630 : decode cL_law 630 = .ok (.iconst 5, 1) := by decide +kernel
theorem dL_law_631 : decode cL_law 631 = .ok (.invokevirtual 62, 3) := by decide +kernel
theorem dL_law_634 : decode cL_law 634 = .ok (.iconst 1, 1) := by decide +kernel
theorem dL_law_635 : decode cL_law 635 = .ok (.iload 13, 2) := by decide +kernel
theorem dL_law_637 : decode cL_law 637 = .ok (.isub, 1) := by decide +kernel
theorem dL_law_638 : decode cL_law 638 = .ok (.if_icmp .eq 665, 3) := by decide +kernel
theorem dL_law_641 : decode cL_law 641 = .ok (.iconst 0, 1) := by decide +kernel
theorem dL_law_642 : decode cL_law 642 = .ok (.ireturn, 1) := by decide +kernel
theorem dL_law_643 : decode cL_law 643 = .ok (.iload 4, 2) := by decide +kernel
theorem dL_law_645 : decode cL_law 645 = .ok (.iconst 4, 1) := by decide +kernel
theorem dL_law_646 : decode cL_law 646 = .ok (.ishr, 1) := by decide +kernel
theorem dL_law_647 : decode cL_law 647 = .ok (.aload_n 1, 1) := by decide +kernel
theorem dL_law_648 : decode cL_law 648 = .ok (.bipush 14, 2) := by decide +kernel
theorem dL_law_650 : decode cL_law 650 = .ok (.invokevirtual 62, 3) := by decide +kernel
theorem dL_law_653 : decode cL_law 653 = .ok (.invokestatic 18, 3) := by decide +kernel
theorem dL_law_656 : decode cL_law 656 = .ok (.istore 10, 2) := by decide +kernel
theorem dL_law_658 : decode cL_law 658 = .ok (.aload_n 1, 1) := by decide +kernel
theorem dL_law_659 : decode cL_law 659 = .ok (.iload 10, 2) := by decide +kernel
theorem dL_law_661 : decode cL_law 661 = .ok (.invokevirtual 86, 3) := by decide +kernel
theorem dL_law_664 : decode cL_law 664 = .ok (.istore 11, 2) := by decide +kernel
theorem dL_law_666 : decode cL_law 666 = .ok (.aload_n 1, 1) := by decide +kernel
theorem dL_law_667 : decode cL_law 667 = .ok (.iload 10, 2) := by decide +kernel
theorem dL_law_669 : decode cL_law 669 = .ok (.invokevirtual 89, 3) := by decide +kernel
theorem dL_law_672 : decode cL_law 672 = .ok (.istore 12, 2) := by decide +kernel
theorem dL_law_674 : decode cL_law 674 = .ok (.iload 6, 2) := by decide +kernel
theorem dL_law_676 : decode cL_law 676 = .ok (.ifCond .ne 6, 3) := by decide +kernel
theorem dL_law_679 : decode cL_law 679 = .ok (.goto 624, 3) := by decide +kernel
theorem dL_law_682 : decode cL_law 682 = .ok (.aload_n 1, 1) := by decide +kernel
theorem dL_law_683 : decode cL_law 683 = .ok (.iload 10, 2) := by decide +kernel
theorem dL_law_685 : decode cL_law 685 = .ok (.invokevirtual 92, 3) := by decide +kernel
theorem dL_law_688 : decode cL_law 688 = .ok (.bipush 99, 2) := by decide +kernel
theorem dL_law_690 : decode cL_law 690 = .ok (.if_icmp .gt 32, 3) := by decide +kernel
theorem dL_law_693 : decode cL_law 693 = .ok (.aload_n 1, 1) := by decide +kernel
theorem dL_law_694 : decode cL_law 694 = .ok (.iconst 3, 1) := by decide +kernel
theorem dL_law_695 : decode cL_law 695 = .ok (.invokevirtual 62, 3) := by decide +kernel
theorem dL_law_698 : decode cL_law 698 = .ok (.aload_n 1, 1) := by decide +kernel
theorem dL_law_699 : decode cL_law 699 = .ok (.iconst 4, 1) := by decide +kernel
theorem dL_law_700 : decode cL_law 700 = .ok (.invokevirtual 62, 3) := by decide +kernel
theorem dL_law_703 : decode cL_law 703 = .ok (.iadd, 1) := by decide +kernel
theorem dL_law_704 : decode cL_law 704 = .ok (.iload 11, 2) := by decide +kernel
theorem dL_law_706 : decode cL_law 706 = .ok (.if_icmp .ne 16, 3) := by decide +kernel
theorem dL_law_709 : decode cL_law 709 = .ok (.aload_n 1, 1) := by decide +kernel
theorem dL_law_710 : decode cL_law 710 = .ok (.iconst 1, 1) := by decide +kernel
theorem dL_law_711 : decode cL_law 711 = .ok (.invokevirtual 62, 3) := by decide +kernel
theorem dL_law_714 : decode cL_law 714 = .ok (.iload 5, 2) := by decide +kernel
theorem dL_law_716 : decode cL_law 716 = .ok (.iload 12, 2) := by decide +kernel
theorem dL_law_718 : decode cL_law 718 = .ok (.isub, 1) := by decide +kernel
theorem dL_law_719 : decode cL_law 719 = .ok (.if_icmp .eq 584, 3) := by decide +kernel
theorem dL_law_722 : decode cL_law 722 = .ok (.iconst 0, 1) := by decide +kernel
theorem dL_law_723 : decode cL_law 723 = .ok (.ireturn, 1) := by decide +kernel
theorem dL_law_724 : decode cL_law 724 = .ok (.aload_n 1, 1) := by decide +kernel
theorem dL_law_725 : decode cL_law 725 = .ok (.bipush 15, 2) := by decide +kernel
theorem dL_law_727 : decode cL_law 727 = .ok (.invokevirtual 62, 3) := by decide +kernel
theorem dL_law_730 : decode cL_law 730 = .ok (.ifCond .ne 6, 3) := by decide +kernel
theorem dL_law_733 : decode cL_law 733 = .ok (.goto 570, 3) := by decide +kernel
theorem dL_law_736 : decode cL_law 736 = .ok (.aload_n 1, 1) := by decide +kernel
theorem dL_law_737 : decode cL_law 737 = .ok (.bipush 15, 2) := by decide +kernel
theorem dL_law_739 : decode cL_law 739 = .ok (.invokevirtual 62, 3) := by decide +kernel
theorem dL_law_742 : decode cL_law 742 = .ok (.istore 10, 2) := by decide +kernel
theorem dL_law_744 : decode cL_law 744 = .ok (.aload_n 1, 1) := by decide +kernel
theorem dL_law_745 : decode cL_law 745 = .ok (.invokevirtual 95, 3) := by decide +kernel
theorem dL_law_748 : decode cL_law 748 = .ok (.iload 10, 2) := by decide +kernel
theorem dL_law_750 : decode cL_law 750 = .ok (.iconst 1, 1) := by decide +kernel
theorem dL_law_751 : decode cL_law 751 = .ok (.isub, 1) := by decide +kernel
theorem dL_law_752 : decode cL_law 752 = .ok (.if_icmp .ne 37, 3) := by decide +kernel
theorem dL_law_755 : decode cL_law 755 = .ok (.aload_n 1, 1) := by decide +kernel
theorem dL_law_756 : decode cL_law 756 = .ok (.bipush 15, 2) := by decide +kernel
theorem dL_law_758 : decode cL_law 758 = .ok (.invokevirtual 62, 3) := by decide +kernel
theorem dL_law_761 : decode cL_law 761 = .ok (.iload 10, 2) := by decide +kernel
theorem dL_law_763 : decode cL_law 763 = .ok (.iconst 1, 1) := by decide +kernel
theorem dL_law_764 : decode cL_law 764 = .ok (.isub, 1) := by decide +kernel
theorem dL_law_765 : decode cL_law 765 = .ok (.if_icmp .ne 24, 3) := by decide +kernel
theorem dL_law_768 : decode cL_law 768 = .ok (.aload_n 1, 1) := by decide +kernel
theorem dL_law_769 : decode cL_law 769 = .ok (.bipush 7, 2) := by decide +kernel
theorem dL_law_771 : decode cL_law 771 = .ok (.invokevirtual 62, 3) := by decide +kernel
theorem dL_law_774 : decode cL_law 774 = .ok (.iload 8, 2) := by decide +kernel
theorem dL_law_776 : decode cL_law 776 = .ok (.if_icmp .gt 13, 3) := by decide +kernel
theorem dL_law_779 : decode cL_law 779 = .ok (.aload_n 1, 1) := by decide +kernel
theorem dL_law_780 : decode cL_law 780 = .ok (.iconst 1, 1) := by decide +kernel
theorem dL_law_781 : decode cL_law 781 = .ok (.invokevirtual 62, 3) := by decide +kernel
theorem dL_law_784 : decode cL_law 784 = .ok (.iload 5, 2) := by decide +kernel
theorem dL_law_786 : decode cL_law 786 = .ok (.if_icmp .ge 517, 3) := by decide +kernel
theorem dL_law_789 : decode cL_law 789 = .ok (.iconst 0, 1) := by decide +kernel
theorem dL_law_790 : decode cL_law 790 = .ok (.ireturn, 1) := by decide +kernel
theorem dL_law_791 : decode cL_law 791 = .ok (.iload 6, 2) := by decide +kernel
theorem dL_law_793 : decode cL_law 793 = .ok (.ifCond .eq 510, 3) := by decide +kernel
theorem dL_law_796 : decode cL_law 796 = .ok (.aload_n 1, 1) := by decide +kernel
theorem dL_law_797 : decode cL_law 797 = .ok (.bipush 12, 2) := by decide +kernel
theorem dL_law_799 : decode cL_law 799 = .ok (.invokevirtual 62, 3) := by decide +kernel
theorem dL_law_802 : decode cL_law 802 = .ok (.bipush 9, 2) := by decide +kernel
theorem dL_law_804 : decode cL_law 804 = .ok (.if_icmp .ne 6, 3) := by decide +kernel
theorem dL_law_807 : decode cL_law 807 = .ok (.goto 496, 3) := by decide +kernel
theorem dL_law_810 : decode cL_law 810 = .ok (.aload_n 1, 1) := by decide +kernel
theorem dL_law_811 : decode cL_law 811 = .ok (.invokevirtual 98, 3) := by decide +kernel
theorem dL_law_814 : decode cL_law 814 = .ok (.istore 10, 2) := by decide +kernel
theorem dL_law_816 : decode cL_law 816 = .ok (.aload_n 1, 1) := by decide +kernel
theorem dL_law_817 : decode cL_law 817 = .ok (.iload 10, 2) := by decide +kernel
theorem dL_law_819 : decode cL_law 819 = .ok (.iconst 0, 1) := by decide +kernel
theorem dL_law_820 : decode cL_law 820 = .ok (.invokevirtual 101, 3) := by decide +kernel
theorem dL_law_823 : decode cL_law 823 = .ok (.iload 9, 2) := by decide +kernel
theorem dL_law_825 : decode cL_law 825 = .ok (.if_icmp .ne 53, 3) := by decide +kernel
theorem dL_law_828 : decode cL_law 828 = .ok (.aload_n 1, 1) := by decide +kernel
theorem dL_law_829 : decode cL_law 829 = .ok (.iload 9, 2) := by decide +kernel
theorem dL_law_831 : decode cL_law 831 = .ok (.iconst 5, 1) := by decide +kernel
theorem dL_law_832 : decode cL_law 832 = .ok (.invokevirtual 79, 3) := by decide +kernel
theorem dL_law_835 : decode cL_law 835 = .ok (.iconst 4, 1) := by decide +kernel
theorem dL_law_836 : decode cL_law 836 = .ok (.if_icmp .ne 42, 3) := by decide +kernel
theorem dL_law_839 : decode cL_law 839 = .ok (.aload_n 1, 1) := by decide +kernel
theorem dL_law_840 : decode cL_law 840 = .ok (.iload 10, 2) := by decide +kernel
theorem dL_law_842 : decode cL_law 842 = .ok (.iconst 1, 1) := by decide +kernel
theorem dL_law_843 : decode cL_law 843 = .ok (.invokevirtual 101, 3) := by decide +kernel
theorem dL_law_846 : decode cL_law 846 = .ok (.aload_n 1, 1) := by decide +kernel
theorem dL_law_847 : decode cL_law 847 = .ok (.iload 9, 2) := by decide +kernel
theorem dL_law_849 : decode cL_law 849 = .ok (.iconst 3, 1) := by decide +kernel
theorem dL_law_850 : decode cL_law 850 = .ok (.invokevirtual 79, 3) := by decide +kernel
theorem dL_law_853 : decode cL_law 853 = .ok (.if_icmp .ne 25, 3) := by decide +kernel
theorem dL_law_856 : decode cL_law 856 = .ok (.aload_n 1, 1) := by decide +kernel
theorem dL_law_857 : decode cL_law 857 = .ok (.iload 10, 2) := by decide +kernel
theorem dL_law_859 : decode cL_law 859 = .ok (.iconst 2, 1) := by decide +kernel
theorem dL_law_860 : decode cL_law 860 = .ok (.invokevirtual 101, 3) := by decide +kernel
theorem dL_law_863 : decode cL_law 863 = .ok (.ifCond .ne 15, 3) := by decide +kernel
theorem dL_law_866 : decode cL_law 866 = .ok (.aload_n 1, 1) := by decide +kernel
theorem dL_law_867 : decode cL_law 867 = .ok (.iconst 3, 1) := by decide +kernel
theorem dL_law_868 : decode cL_law 868 = .ok (.invokevirtual 62, 3) := by decide +kernel
theorem dL_law_871 : decode cL_law 871 = .ok (.iload 6, 2) := by decide +kernel
theorem dL_law_873 : decode cL_law 873 = .ok (.iconst 1, 1) := by decide +kernel
theorem dL_law_874 : decode cL_law 874 = .ok (.isub, 1) := by decide +kernel
theorem dL_law_875 : decode cL_law 875 = .ok (.if_icmp .eq 428, 3) := by decide +kernel
theorem dL_law_878 : decode cL_law 878 = .ok (.iconst 0, 1) := by decide +kernel
theorem dL_law_879 : decode cL_law 879 = .ok (.ireturn, 1) := by decide +kernel
theorem dL_law_880 : decode cL_law 880 = .ok (.aload_n 1, 1) := by decide +kernel
theorem dL_law_881 : decode cL_law 881 = .ok (.bipush 12, 2) := by decide +kernel
theorem dL_law_883 : decode cL_law 883 = .ok (.invokevirtual 62, 3) := by decide +kernel
theorem dL_law_886 : decode cL_law 886 = .ok (.iconst 1, 1) := by decide +kernel
theorem dL_law_887 : decode cL_law 887 = .ok (.isub, 1) := by decide +kernel
theorem dL_law_888 : decode cL_law 888 = .ok (.istore 10, 2) := by decide +kernel
theorem dL_law_890 : decode cL_law 890 = .ok (.iload 10, 2) := by decide +kernel
theorem dL_law_892 : decode cL_law 892 = .ok (.ifCond .lt 411, 3) := by decide +kernel
theorem dL_law_895 : decode cL_law 895 = .ok (.aload_n 1, 1) := by decide +kernel
theorem dL_law_896 : decode cL_law 896 = .ok (.iload 10, 2) := by decide +kernel
theorem dL_law_898 : decode cL_law 898 = .ok (.iconst 3, 1) := by decide +kernel
theorem dL_law_899 : decode cL_law 899 = .ok (.invokevirtual 101, 3) := by decide +kernel
theorem dL_law_902 : decode cL_law 902 = .ok (.ifCond .eq 401, 3) := by decide +kernel
theorem dL_law_905 : decode cL_law 905 = .ok (.iload 6, 2) := by decide +kernel
theorem dL_law_907 : decode cL_law 907 = .ok (.iload 7, 2) := by decide +kernel
theorem dL_law_909 : decode cL_law 909 = .ok (.iadd, 1) := by decide +kernel
theorem dL_law_910 : decode cL_law 910 = .ok (.bipush 24, 2) := by decide +kernel
theorem dL_law_912 : decode cL_law 912 = .ok (.if_icmp .ne 6, 3) := by decide +kernel
theorem dL_law_915 : decode cL_law 915 = .ok (.goto 388, 3) := by decide +kernel
theorem dL_law_918 : decode cL_law 918 = .ok (.aload_n 1, 1) := by decide +kernel
theorem dL_law_919 : decode cL_law 919 = .ok (.iload 10, 2) := by decide +kernel
theorem dL_law_921 : decode cL_law 921 = .ok (.invokevirtual 104, 3) := by decide +kernel
theorem dL_law_924 : decode cL_law 924 = .ok (.aload_n 1, 1) := by decide +kernel
theorem dL_law_925 : decode cL_law 925 = .ok (.iload 10, 2) := by decide +kernel
theorem dL_law_927 : decode cL_law 927 = .ok (.iconst 2, 1) := by decide +kernel
theorem dL_law_928 : decode cL_law 928 = .ok (.invokevirtual 101, 3) := by decide +kernel
theorem dL_law_931 : decode cL_law 931 = .ok (.if_icmp .ne 41, 3) := by decide +kernel
theorem dL_law_934 : decode cL_law 934 = .ok (.aload_n 1, 1) := by decide +kernel
theorem dL_law_935 : decode cL_law 935 = .ok (.iconst 0, 1) := by decide +kernel
theorem dL_law_936 : decode cL_law 936 = .ok (.iconst 0, 1) := by decide +kernel
theorem dL_law_937 : decode cL_law 937 = .ok (.invokevirtual 71, 3) := by decide +kernel
theorem dL_law_940 : decode cL_law 940 = .ok (.aload_n 1, 1) := by decide +kernel
theorem dL_law_941 : decode cL_law 941 = .ok (.iload 10, 2) := by decide +kernel
theorem dL_law_943 : decode cL_law 943 = .ok (.iconst 0, 1) := by decide +kernel
theorem dL_law_944 : decode cL_law 944 = .ok (.invokevirtual 101, 3) := by decide +kernel
theorem dL_law_947 : decode cL_law 947 = .ok (.if_icmp .ne 25, 3) := by decide +kernel
theorem dL_law_950 : decode cL_law 950 = .ok (.aload_n 1, 1) := by decide +kernel
theorem dL_law_951 : decode cL_law 951 = .ok (.iload 10, 2) := by decide +kernel
theorem dL_law_953 : decode cL_law 953 = .ok (.iconst 3, 1) := by decide +kernel
theorem dL_law_954 : decode cL_law 954 = .ok (.invokevirtual 101, 3) := by decide +kernel
theorem dL_law_957 : decode cL_law 957 = .ok (.ifCond .ne 15, 3) := by decide +kernel
theorem dL_law_960 : decode cL_law 960 = .ok (.aload_n 1, 1) := by decide +kernel
theorem dL_law_961 : decode cL_law 961 = .ok (.iconst 3, 1) := by decide +kernel
theorem dL_law_962 : decode cL_law 962 = .ok (.invokevirtual 62, 3) := by decide +kernel
theorem dL_law_965 : decode cL_law 965 = .ok (.iload 6, 2) := by decide +kernel
theorem dL_law_967 : decode cL_law 967 = .ok (.iconst 1, 1) := by decide +kernel
theorem dL_law_968 : decode cL_law 968 = .ok (.iadd, 1) := by decide +kernel
theorem dL_law_969 : decode cL_law 969 = .ok (.if_icmp .eq 334, 3) := by decide +kernel
theorem dL_law_972 : decode cL_law 972 = .ok (.iconst 0, 1) := by decide +kernel
theorem dL_law_973 : decode cL_law 973 = .ok (.ireturn, 1) := by decide +kernel
theorem dL_law_974 : decode cL_law 974 = .ok (.iconst 1, 1) := by decide +kernel
theorem dL_law_975 : decode cL_law 975 = .ok (.iload 4, 2) := by decide +kernel
theorem dL_law_977 : decode cL_law 977 = .ok (.iconst 4, 1) := by decide +kernel
theorem dL_law_978 : decode cL_law 978 = .ok (.ishr, 1) := by decide +kernel
theorem dL_law_979 : decode cL_law 979 = .ok (.iconst 3, 1) := by decide +kernel
theorem dL_law_980 : decode cL_law 980 = .ok (.invokestatic 18, 3) := by decide +kernel
theorem dL_law_983 : decode cL_law 983 = .ok (.iadd, 1) := by decide +kernel
theorem dL_law_984 : decode cL_law 984 = .ok (.istore 10, 2) := by decide +kernel
theorem dL_law_986 : decode cL_law 986 = .ok (.iload 10, 2) := by decide +kernel
theorem dL_law_988 : decode cL_law 988 = .ok (.iload 7, 2) := by decide +kernel
theorem dL_law_990 : decode cL_law 990 = .ok (.if_icmp .lt 6, 3) := by decide +kernel
theorem dL_law_993 : decode cL_law 993 = .ok (.goto 310, 3) := by decide +kernel
theorem dL_law_996 : decode cL_law 996 = .ok (.aload_n 1, 1) := by decide +kernel
theorem dL_law_997 : decode cL_law 997 = .ok (.bipush 11, 2) := by decide +kernel
theorem dL_law_999 : decode cL_law 999 = .ok (.invokevirtual 62, 3) := by decide +kernel
theorem dL_law_1002 : decode cL_law 1002 = .ok (.istore 11, 2) := by decide +kernel
theorem dL_law_1004 : decode cL_law 1004 = .ok (.aload_n 1, 1) := by decide +kernel
theorem dL_law_1005 : decode cL_law 1005 = .ok (.iconst 1, 1) := by decide +kernel
theorem dL_law_1006 : decode cL_law 1006 = .ok (.iconst 0, 1) := by decide +kernel
theorem dL_law_1007 : decode cL_law 1007 = .ok (.invokevirtual 71, 3) := by decide +kernel
theorem dL_law_1010 : decode cL_law 1010 = .ok (.istore 12, 2) := by decide +kernel
theorem dL_law_1012 : decode cL_law 1012 = .ok (.aload_n 1, 1) := by decide +kernel
theorem dL_law_1013 : decode cL_law 1013 = .ok (.iconst 1, 1) := by decide +kernel
theorem dL_law_1014 : decode cL_law 1014 = .ok (.iconst 1, 1) := by decide +kernel
theorem dL_law_1015 : decode cL_law 1015 = .ok (.invokevirtual 71, 3) := by decide +kernel
theorem dL_law_1018 : decode cL_law 1018 = .ok (.istore 13, 2) := by decide +kernel
theorem dL_law_1020 : decode cL_law 1020 = .ok (.aload_n 1, 1) := by decide +kernel
theorem dL_law_1021 : decode cL_law 1021 = .ok (.iload 10, 2) := by decide +kernel
theorem dL_law_1023 : decode cL_law 1023 = .ok (.invokevirtual 107, 3) := by decide +kernel
theorem dL_law_1026 : decode cL_law 1026 = .ok (.iload 6, 2) := by decide +kernel
theorem dL_law_1028 : decode cL_law 1028 = .ok (.iload 7, 2) := by decide +kernel
theorem dL_law_1030 : decode cL_law 1030 = .ok (.iadd, 1) := by decide +kernel
theorem dL_law_1031 : decode cL_law 1031 = .ok (.iload 10, 2) := by decide +kernel
theorem dL_law_1033 : decode cL_law 1033 = .ok (.isub, 1) := by decide +kernel
theorem dL_law_1034 : decode cL_law 1034 = .ok (.if_icmp .ne 49, 3) := by decide +kernel
theorem dL_law_1037 : decode cL_law 1037 = .ok (.aload_n 1, 1) := by decide +kernel
theorem dL_law_1038 : decode cL_law 1038 = .ok (.bipush 11, 2) := by decide +kernel
theorem dL_law_1040 : decode cL_law 1040 = .ok (.invokevirtual 62, 3) := by decide +kernel
theorem dL_law_1043 : decode cL_law 1043 = .ok (.iload 11, 2) := by decide +kernel
theorem dL_law_1045 : decode cL_law 1045 = .ok (.iload 10, 2) := by decide +kernel
theorem dL_law_1047 : decode cL_law 1047 = .ok (.iadd, 1) := by decide +kernel
theorem dL_law_1048 : decode cL_law 1048 = .ok (.if_icmp .ne 35, 3) := by decide +kernel
theorem dL_law_1051 : decode cL_law 1051 = .ok (.aload_n 1, 1) := by decide +kernel
theorem dL_law_1052 : decode cL_law 1052 = .ok (.iconst 1, 1) := by decide +kernel
theorem dL_law_1053 : decode cL_law 1053 = .ok (.iconst 0, 1) := by decide +kernel
theorem dL_law_1054 : decode cL_law 1054 = .ok (.invokevirtual 71, 3) := by decide +kernel
theorem dL_law_1057 : decode cL_law 1057 = .ok (.iload 12, 2) := by decide +kernel
theorem dL_law_1059 : decode cL_law 1059 = .ok (.if_icmp .ne 24, 3) := by decide +kernel
theorem dL_law_1062 : decode cL_law 1062 = .ok (.aload_n 1, 1) := by decide +kernel
theorem dL_law_1063 : decode cL_law 1063 = .ok (.iload 13, 2) := by decide +kernel
theorem dL_law_1065 : decode cL_law 1065 = .ok (.iconst 5, 1) := by decide +kernel
theorem dL_law_1066 : decode cL_law 1066 = .ok (.invokevirtual 79, 3) := by decide +kernel
theorem dL_law_1069 : decode cL_law 1069 = .ok (.iconst 3, 1) := by decide +kernel
theorem dL_law_1070 : decode cL_law 1070 = .ok (.if_icmp .ne 13, 3) := by decide +kernel
theorem dL_law_1073 : decode cL_law 1073 = .ok (.aload_n 1, 1) := by decide +kernel
theorem dL_law_1074 : decode cL_law 1074 = .ok (.iconst 1, 1) := by decide +kernel
theorem dL_law_1075 : decode cL_law 1075 = .ok (.invokevirtual 62, 3) := by decide +kernel
theorem dL_law_1078 : decode cL_law 1078 = .ok (.iload 5, 2) := by decide +kernel
theorem dL_law_1080 : decode cL_law 1080 = .ok (.if_icmp .eq 223, 3) := by decide +kernel
theorem dL_law_1083 : decode cL_law 1083 = .ok (.iconst 0, 1) := by decide +kernel
theorem dL_law_1084 : decode cL_law 1084 = .ok (.ireturn, 1) := by decide +kernel
theorem dL_law_1085 : decode cL_law 1085 = .ok (.iconst 1, 1) := by decide +kernel
theorem dL_law_1086 : decode cL_law 1086 = .ok (.iload 4, 2) := by decide +kernel
theorem dL_law_1088 : decode cL_law 1088 = .ok (.iconst 4, 1) := by decide +kernel
theorem dL_law_1089 : decode cL_law 1089 = .ok (.ishr, 1) := by decide +kernel
theorem dL_law_1090 : decode cL_law 1090 = .ok (.iconst 3, 1) := by decide +kernel
theorem dL_law_1091 : decode cL_law 1091 = .ok (.invokestatic 18, 3) := by decide +kernel
theorem dL_law_1094 : decode cL_law 1094 = .ok (.iadd, 1) := by decide +kernel
theorem dL_law_1095 : decode cL_law 1095 = .ok (.istore 10, 2) := by decide +kernel
theorem dL_law_1097 : decode cL_law 1097 = .ok (.iconst 1, 1) := by decide +kernel
theorem dL_law_1098 : decode cL_law 1098 = .ok (.iload 4, 2) := by decide +kernel
theorem dL_law_1100 : decode cL_law 1100 = .ok (.bipush 6, 2) := by decide +kernel
theorem dL_law_1102 : decode cL_law 1102 = .ok (.ishr, 1) := by decide +kernel
theorem dL_law_1103 : decode cL_law 1103 = .ok (.iconst 3, 1) := by decide +kernel
theorem dL_law_1104 : decode cL_law 1104 = .ok (.invokestatic 18, 3) := by decide +kernel
theorem dL_law_1107 : decode cL_law 1107 = .ok (.iadd, 1) := by decide +kernel
theorem dL_law_1108 : decode cL_law 1108 = .ok (.istore 11, 2) := by decide +kernel
theorem dL_law_1110 : decode cL_law 1110 = .ok (.iload 10, 2) := by decide +kernel
theorem dL_law_1112 : decode cL_law 1112 = .ok (.iload 11, 2) := by decide +kernel
theorem dL_law_1114 : decode cL_law 1114 = .ok (.iadd, 1) := by decide +kernel
theorem dL_law_1115 : decode cL_law 1115 = .ok (.iload 6, 2) := by decide +kernel
theorem dL_law_1117 : decode cL_law 1117 = .ok (.if_icmp .le 6, 3) := by decide +kernel
theorem dL_law_1120 : decode cL_law 1120 = .ok (.goto 183, 3) := by decide +kernel
theorem dL_law_1123 : decode cL_law 1123 = .ok (.aload_n 1, 1) := by decide +kernel
theorem dL_law_1124 : decode cL_law 1124 = .ok (.iconst 0, 1) := by decide +kernel
theorem dL_law_1125 : decode cL_law 1125 = .ok (.iload 10, 2) := by decide +kernel
theorem dL_law_1127 : decode cL_law 1127 = .ok (.invokevirtual 71, 3) := by decide +kernel
theorem dL_law_1130 : decode cL_law 1130 = .ok (.istore 12, 2) := by decide +kernel
theorem dL_law_1132 : decode cL_law 1132 = .ok (.aload_n 1, 1) := by decide +kernel
theorem dL_law_1133 : decode cL_law 1133 = .ok (.bipush 9, 2) := by decide +kernel
theorem dL_law_1135 : decode cL_law 1135 = .ok (.invokevirtual 62, 3) := by decide +kernel
theorem dL_law_1138 : decode cL_law 1138 = .ok (.istore 13, 2) := by decide +kernel
theorem dL_law_1140 : decode cL_law 1140 = .ok (.aload_n 1, 1) := by decide +kernel
theorem dL_law_1141 : decode cL_law 1141 = .ok (.iload 10, 2) := by decide +kernel
theorem dL_law_1143 : decode cL_law 1143 = .ok (.iload 11, 2) := by decide +kernel
theorem dL_law_1145 : decode cL_law 1145 = .ok (.invokevirtual 53, 3) := by decide +kernel
theorem dL_law_1148 : decode cL_law 1148 = .ok (.iload 12, 2) := by decide +kernel
theorem dL_law_1150 : decode cL_law 1150 = .ok (.if_icmp .ne 38, 3) := by decide +kernel
theorem dL_law_1153 : decode cL_law 1153 = .ok (.aload_n 1, 1) := by decide +kernel
theorem dL_law_1154 : decode cL_law 1154 = .ok (.iconst 0, 1) := by decide +kernel
theorem dL_law_1155 : decode cL_law 1155 = .ok (.iload 11, 2) := by decide +kernel
theorem dL_law_1157 : decode cL_law 1157 = .ok (.invokevirtual 71, 3) := by decide +kernel
theorem dL_law_1160 : decode cL_law 1160 = .ok (.iload 9, 2) := by decide +kernel
theorem dL_law_1162 : decode cL_law 1162 = .ok (.if_icmp .ne 26, 3) := by decide +kernel
theorem dL_law_1165 : decode cL_law 1165 = .ok (.aload_n 1, 1) := by decide +kernel
theorem dL_law_1166 : decode cL_law 1166 = .ok (.bipush 9, 2) := by decide +kernel
theorem dL_law_1168 : decode cL_law 1168 = .ok (.invokevirtual 62, 3) := by decide +kernel
theorem dL_law_1171 : decode cL_law 1171 = .ok (.iload 13, 2) := by decide +kernel
theorem dL_law_1173 : decode cL_law 1173 = .ok (.iconst 1, 1) := by decide +kernel
theorem dL_law_1174 : decode cL_law 1174 = .ok (.iadd, 1) := by decide +kernel
theorem dL_law_1175 : decode cL_law 1175 = .ok (.if_icmp .ne 13, 3) := by decide +kernel
theorem dL_law_1178 : decode cL_law 1178 = .ok (.aload_n 1, 1) := by decide +kernel
theorem dL_law_1179 : decode cL_law 1179 = .ok (.iconst 3, 1) := by decide +kernel
theorem dL_law_1180 : decode cL_law 1180 = .ok (.invokevirtual 62, 3) := by decide +kernel
theorem dL_law_1183 : decode cL_law 1183 = .ok (.iload 6, 2) := by decide +kernel
theorem dL_law_1185 : decode cL_law 1185 = .ok (.if_icmp .eq 118, 3) := by decide +kernel
theorem dL_law_1188 : decode cL_law 1188 = .ok (.iconst 0, 1) := by decide +kernel
theorem dL_law_1189 : decode cL_law 1189 = .ok (.ireturn, 1) := by decide +kernel
theorem dL_law_1190 : decode cL_law 1190 = .ok (.iconst 1, 1) := by decide +kernel
theorem dL_law_1191 : decode cL_law 1191 = .ok (.iload 4, 2) := by decide +kernel
theorem dL_law_1193 : decode cL_law 1193 = .ok (.iconst 4, 1) := by decide +kernel
theorem dL_law_1194 : decode cL_law 1194 = .ok (.ishr, 1) := by decide +kernel
theorem dL_law_1195 : decode cL_law 1195 = .ok (.iconst 4, 1) := by decide +kernel
theorem dL_law_1196 : decode cL_law 1196 = .ok (.invokestatic 18, 3) := by decide +kernel
theorem dL_law_1199 : decode cL_law 1199 = .ok (.iadd, 1) := by decide +kernel
theorem dL_law_1200 : decode cL_law 1200 = .ok (.istore 10, 2) := by decide +kernel
theorem dL_law_1202 : decode cL_law 1202 = .ok (.iload 6, 2) := by decide +kernel
theorem dL_law_1204 : decode cL_law 1204 = .ok (.iload 7, 2) := by decide +kernel
theorem dL_law_1206 : decode cL_law 1206 = .ok (.iadd, 1) := by decide +kernel
theorem dL_law_1207 : decode cL_law 1207 = .ok (.iload 10, 2) := by decide +kernel
theorem dL_law_1209 : decode cL_law 1209 = .ok (.iadd, 1) := by decide +kernel
theorem dL_law_1210 : decode cL_law 1210 = .ok (.bipush 24, 2) := by decide +kernel
theorem dL_law_1212 : decode cL_law 1212 = .ok (.if_icmp .gt 91, 3) := by decide +kernel
theorem dL_law_1215 : decode cL_law 1215 = .ok (.aload_n 1, 1) := by decide +kernel
theorem dL_law_1216 : decode cL_law 1216 = .ok (.aload_n 1, 1) := by decide +kernel
theorem dL_law_1217 : decode cL_law 1217 = .ok (.iconst 2, 1) := by decide +kernel
theorem dL_law_1218 : decode cL_law 1218 = .ok (.invokevirtual 62, 3) := by decide +kernel
theorem dL_law_1221 : decode cL_law 1221 = .ok (.invokevirtual 65, 3) := by decide +kernel
theorem dL_law_1224 : decode cL_law 1224 = .ok (.iconst 2, 1) := by decide +kernel
theorem dL_law_1225 : decode cL_law 1225 = .ok (.iload 10, 2) := by decide +kernel
theorem dL_law_1227 : decode cL_law 1227 = .ok (.imul, 1) := by decide +kernel
theorem dL_law_1228 : decode cL_law 1228 = .ok (.if_icmp .ge 6, 3) := by decide +kernel
theorem dL_law_1231 : decode cL_law 1231 = .ok (.goto 72, 3) := by decide +kernel
theorem dL_law_1234 : decode cL_law 1234 = .ok (.aload_n 1, 1) := by decide +kernel
theorem dL_law_1235 : decode cL_law 1235 = .ok (.iload 10, 2) := by decide +kernel
theorem dL_law_1237 : decode cL_law 1237 = .ok (.invokevirtual 29, 3) := by decide +kernel
theorem dL_law_1240 : decode cL_law 1240 = .ok (.iload 6, 2) := by decide +kernel
theorem dL_law_1242 : decode cL_law 1242 = .ok (.iload 7, 2) := by decide +kernel
theorem dL_law_1244 : decode cL_law 1244 = .ok (.iadd, 1) := by decide +kernel
theorem dL_law_1245 : decode cL_law 1245 = .ok (.iload 10, 2) := by decide +kernel
theorem dL_law_1247 : decode cL_law 1247 = .ok (.iadd, 1) := by decide +kernel
theorem dL_law_1248 : decode cL_law 1248 = .ok (.if_icmp .ne 53, 3) := by decide +kernel
theorem dL_law_1251 : decode cL_law 1251 = .ok (.aload_n 1, 1) := by decide +kernel
theorem dL_law_1252 : decode cL_law 1252 = .ok (.bipush 7, 2) := by decide +kernel
theorem dL_law_1254 : decode cL_law 1254 = .ok (.invokevirtual 62, 3) := by decide +kernel
theorem dL_law_1257 : decode cL_law 1257 = .ok (.iload 8, 2) := by decide +kernel
theorem dL_law_1259 : decode cL_law 1259 = .ok (.iload 10, 2) := by decide +kernel
theorem dL_law_1261 : decode cL_law 1261 = .ok (.iadd, 1) := by decide +kernel
theorem dL_law_1262 : decode cL_law 1262 = .ok (.if_icmp .ne 39, 3) := by decide +kernel
theorem dL_law_1265 : decode cL_law 1265 = .ok (.aload_n 1, 1) := by decide +kernel
theorem dL_law_1266 : decode cL_law 1266 = .ok (.iconst 1, 1) := by decide +kernel
theorem dL_law_1267 : decode cL_law 1267 = .ok (.invokevirtual 62, 3) := by decide +kernel
theorem dL_law_1270 : decode cL_law 1270 = .ok (.iload 5, 2) := by decide +kernel
theorem dL_law_1272 : decode cL_law 1272 = .ok (.iconst 2, 1) := by decide +kernel
theorem dL_law_1273 : decode cL_law 1273 = .ok (.iload 10, 2) := by decide +kernel
theorem dL_law_1275 : decode cL_law 1275 = .ok (.imul, 1) := by decide +kernel
theorem dL_law_1276 : decode cL_law 1276 = .ok (.isub, 1) := by decide +kernel
theorem dL_law_1277 : decode cL_law 1277 = .ok (.if_icmp .ne 24, 3) := by decide +kernel
theorem dL_law_1280 : decode cL_law 1280 = .ok (.aload_n 1, 1) := by decide +kernel
theorem dL_law_1281 : decode cL_law 1281 = .ok (.iload 8, 2) := by decide +kernel
theorem dL_law_1283 : decode cL_law 1283 = .ok (.iconst 0, 1) := by decide +kernel
theorem dL_law_1284 : decode cL_law 1284 = .ok (.invokevirtual 79, 3) := by decide +kernel
theorem dL_law_1287 : decode cL_law 1287 = .ok (.ifCond .ne 14, 3) := by decide +kernel
theorem dL_law_1290 : decode cL_law 1290 = .ok (.aload_n 1, 1) := by decide +kernel
theorem dL_law_1291 : decode cL_law 1291 = .ok (.iload 8, 2) := by decide +kernel
theorem dL_law_1293 : decode cL_law 1293 = .ok (.iconst 3, 1) := by decide +kernel
theorem dL_law_1294 : decode cL_law 1294 = .ok (.invokevirtual 79, 3) := by decide +kernel
theorem dL_law_1297 : decode cL_law 1297 = .ok (.iconst 1, 1) := by decide +kernel
theorem dL_law_1298 : decode cL_law 1298 = .ok (.if_icmp .eq 5, 3) := by decide +kernel
theorem dL_law_1301 : decode cL_law 1301 = .ok (.iconst 0, 1) := by decide +kernel
theorem dL_law_1302 : decode cL_law 1302 = .ok (.ireturn, 1) := by decide +kernel
theorem dL_law_1303 : decode cL_law 1303 = .ok (.aload_n 1, 1) := by decide +kernel
theorem dL_law_1304 : decode cL_law 1304 = .ok (.invokestatic 110, 3) := by decide +kernel
theorem dL_law_1307 : decode cL_law 1307 = .ok (.ifCond .eq 12, 3) := by decide +kernel
theorem dL_law_1310 : decode cL_law 1310 = .ok (.aload_n 1, 1) := by decide +kernel
theorem dL_law_1311 : decode cL_law 1311 = .ok (.iconst 1, 1) := by decide +kernel
theorem dL_law_1312 : decode cL_law 1312 = .ok (.invokevirtual 62, 3) := by decide +kernel
theorem dL_law_1315 : decode cL_law 1315 = .ok (.iload_n 2, 1) := by decide +kernel
theorem dL_law_1316 : decode cL_law 1316 = .ok (.if_icmp .le 5, 3) := by decide +kernel
theorem dL_law_1319 : decode cL_law 1319 = .ok (.iconst 0, 1) := by decide +kernel
theorem dL_law_1320 : decode cL_law 1320 = .ok (.ireturn, 1) := by decide +kernel
theorem dL_law_1321 : decode cL_law 1321 = .ok (.iinc 3 1, 3) := by decide +kernel
theorem dL_law_1324 : decode cL_law 1324 = .ok (.goto (-1301), 3) := by decide +kernel
theorem dL_law_1327 : decode cL_law 1327 = .ok (.aload_n 1, 1) := by decide +kernel
theorem dL_law_1328 : decode cL_law 1328 = .ok (.invokevirtual 113, 3) := by decide +kernel
theorem dL_law_1331 : decode cL_law 1331 = .ok (.lstore_n 3, 1) := by decide +kernel
theorem dL_law_1332 : decode cL_law 1332 = .ok (.aload_n 1, 1) := by decide +kernel
theorem dL_law_1333 : decode cL_law 1333 = .ok (.invokestatic 110, 3) := by decide +kernel
theorem dL_law_1336 : decode cL_law 1336 = .ok (.ifCond .eq 16, 3) := by decide +kernel
theorem dL_law_1339 : decode cL_law 1339 = .ok (.aload_n 1, 1) := by decide +kernel
theorem dL_law_1340 : decode cL_law 1340 = .ok (.invokevirtual 113, 3) := by decide +kernel
theorem dL_law_1343 : decode cL_law 1343 = .ok (.lload_n 3, 1) := by decide +kernel
theorem dL_law_1344 : decode cL_law 1344 = .ok (.lcmp, 1) := by decide +kernel
theorem dL_law_1345 : decode cL_law 1345 = .ok (.ifCond .ne 7, 3) := by decide +kernel
theorem dL_law_1348 : decode cL_law 1348 = .ok (.iconst 1, 1) := by decide +kernel
theorem dL_law_1349 : decode cL_law 1349 = .ok (.goto 4, 3) := by decide +kernel
theorem dL_law_1352 : decode cL_law 1352 = .ok (.iconst 0, 1) := by decide +kernel
theorem dL_law_1353 : decode cL_law 1353 = .ok (.ireturn, 1) := by decide +kernel
theorem dL_isSo_0 : decode cL_isSo 0 = .ok (.iconst 5, 1) := by decide +kernel
theorem dL_isSo_1 : decode cL_isSo 1 = .ok (.newarray .int, 2) := by decide +kernel
theorem dL_isSo_3 : decode cL_isSo 3 = .ok (.astore_n 1, 1) := by decide +kernel
theorem dL_isSo_4 : decode cL_isSo 4 = .ok (.aload_n 0, 1) := by decide +kernel
theorem dL_isSo_5 : decode cL_isSo 5 = .ok (.bipush 7, 2) := by decide +kernel
theorem dL_isSo_7 : decode cL_isSo 7 = .ok (.invokevirtual 62, 3) := by decide +kernel
theorem dL_isSo_10 : decode cL_isSo 10 = .ok (.istore_n 2, 1) := by decide +kernel
theorem dL_isSo_11 : decode cL_isSo 11 = .ok (.iconst 0, 1) := by decide +kernel
theorem dL_isSo_12 : decode cL_isSo 12 = .ok (.istore_n 3, 1) := by decide +kernel
theorem dL_isSo_13 : decode cL_isSo 13 = .ok (.iload_n 3, 1) := by decide +kernel
theorem dL_isSo_14 : decode cL_isSo 14 = .ok (.iload_n 2, 1) := by decide +kernel
theorem dL_isSo_15 : decode cL_isSo 15 = .ok (.if_icmp .ge 163, 3) := by decide +kernel
theorem dL_isSo_18 : decode cL_isSo 18 = .ok (.aload_n 1, 1) := by decide +kernel
theorem dL_isSo_19 : decode cL_isSo 19 = .ok (.aload_n 0, 1) := by decide +kernel
theorem dL_isSo_20 : decode cL_isSo 20 = .ok (.iload_n 3, 1) := by decide +kernel
theorem dL_isSo_21 : decode cL_isSo 21 = .ok (.iconst 5, 1) := by decide +kernel
theorem dL_isSo_22 : decode cL_isSo 22 = .ok (.invokevirtual 79, 3) := by decide +kernel
theorem dL_isSo_25 : decode cL_isSo 25 = .ok (.dup2, 1) := by decide +kernel
theorem dL_isSo_26 : decode cL_isSo 26 = .ok (.iaload, 1) := by decide +kernel
theorem dL_isSo_27 : decode cL_isSo 27 = .ok (.iconst 1, 1) := by decide +kernel
theorem dL_isSo_28 : decode cL_isSo 28 = .ok (.iadd, 1) := by decide +kernel
theorem dL_isSo_29 : decode cL_isSo 29 = .ok (.iastore, 1) := by decide +kernel
theorem dL_isSo_30 : decode cL_isSo 30 = .ok (.aload_n 0, 1) := by decide +kernel
theorem dL_isSo_31 : decode cL_isSo 31 = .ok (.iload_n 3, 1) := by decide +kernel
theorem dL_isSo_32 : decode cL_isSo 32 = .ok (.iconst 0, 1) := by decide +kernel
theorem dL_isSo_33 : decode cL_isSo 33 = .ok (.invokevirtual 79, 3) := by decide +kernel
theorem dL_isSo_36 : decode cL_isSo 36 = .ok (.istore 4, 2) := by decide +kernel
theorem dL_isSo_38 : decode cL_isSo 38 = .ok (.aload_n 0, 1) := by decide +kernel
theorem dL_isSo_39 : decode cL_isSo 39 = .ok (.iload_n 3, 1) := by decide +kernel
theorem dL_isSo_40 : decode cL_isSo 40 = .ok (.iconst 4, 1) := by decide +kernel
theorem dL_isSo_41 : decode cL_isSo 41 = .ok (.invokevirtual 79, 3) := by decide +kernel
theorem dL_isSo_44 : decode cL_isSo 44 = .ok (.istore 5, 2) := by decide +kernel
theorem dL_isSo_46 : decode cL_isSo 46 = .ok (.aload_n 0, 1) := by decide +kernel
theorem dL_isSo_47 : decode cL_isSo 47 = .ok (.iload_n 3, 1) := by decide +kernel
theorem dL_isSo_48 : decode cL_isSo 48 = .ok (.iconst 3, 1) := by decide +kernel
theorem dL_isSo_49 : decode cL_isSo 49 = .ok (.invokevirtual 79, 3) := by decide +kernel
theorem dL_isSo_52 : decode cL_isSo 52 = .ok (.istore 6, 2) := by decide +kernel
theorem dL_isSo_54 : decode cL_isSo 54 = .ok (.iload 4, 2) := by decide +kernel
theorem dL_isSo_56 : decode cL_isSo 56 = .ok (.ifCond .lt 114, 3) := by decide +kernel
theorem dL_isSo_59 : decode cL_isSo 59 = .ok (.iload 4, 2) := by decide +kernel
theorem dL_isSo_61 : decode cL_isSo 61 = .ok (.iconst 5, 1) := by decide +kernel
theorem dL_isSo_62 : decode cL_isSo 62 = .ok (.if_icmp .gt 108, 3) := by decide +kernel
theorem dL_isSo_65 : decode cL_isSo 65 = .ok (.aload_n 0, 1) := by decide +kernel
theorem dL_isSo_66 : decode cL_isSo 66 = .ok (.iload_n 3, 1) := by decide +kernel
theorem dL_isSo_67 : decode cL_isSo 67 = .ok (.iconst 2, 1) := by decide +kernel
theorem dL_isSo_68 : decode cL_isSo 68 = .ok (.invokevirtual 79, 3) := by decide +kernel
theorem dL_isSo_71 : decode cL_isSo 71 = .ok (.aload_n 0, 1) := by decide +kernel
theorem dL_isSo_72 : decode cL_isSo 72 = .ok (.bipush 6, 2) := by decide +kernel
theorem dL_isSo_74 : decode cL_isSo 74 = .ok (.invokevirtual 62, 3) := by decide +kernel
theorem dL_isSo_77 : decode cL_isSo 77 = .ok (.if_icmp .gt 93, 3) := by decide +kernel
theorem dL_isSo_80 : decode cL_isSo 80 = .ok (.iload 5, 2) := by decide +kernel
theorem dL_isSo_82 : decode cL_isSo 82 = .ok (.ifCond .eq 14, 3) := by decide +kernel
theorem dL_isSo_85 : decode cL_isSo 85 = .ok (.iload 4, 2) := by decide +kernel
theorem dL_isSo_87 : decode cL_isSo 87 = .ok (.ifCond .eq 83, 3) := by decide +kernel
theorem dL_isSo_90 : decode cL_isSo 90 = .ok (.iload 4, 2) := by decide +kernel
theorem dL_isSo_92 : decode cL_isSo 92 = .ok (.iconst 3, 1) := by decide +kernel
theorem dL_isSo_93 : decode cL_isSo 93 = .ok (.if_icmp .eq 77, 3) := by decide +kernel
theorem dL_isSo_96 : decode cL_isSo 96 = .ok (.iload 4, 2) := by decide +kernel
theorem dL_isSo_98 : decode cL_isSo 98 = .ok (.iconst 1, 1) := by decide +kernel
theorem dL_isSo_99 : decode cL_isSo 99 = .ok (.if_icmp .eq 9, 3) := by decide +kernel
theorem dL_isSo_102 : decode cL_isSo 102 = .ok (.iload 4, 2) := by decide +kernel
theorem dL_isSo_104 : decode cL_isSo 104 = .ok (.iconst 2, 1) := by decide +kernel
theorem dL_isSo_105 : decode cL_isSo 105 = .ok (.if_icmp .ne 7, 3) := by decide +kernel
theorem dL_isSo_108 : decode cL_isSo 108 = .ok (.iconst 1, 1) := by decide +kernel
theorem dL_isSo_109 : decode cL_isSo 109 = .ok (.goto 4, 3) := by decide +kernel
theorem dL_isSo_112 : decode cL_isSo 112 = .ok (.iconst 0, 1) := by decide +kernel
theorem dL_isSo_113 : decode cL_isSo 113 = .ok (.iload 6, 2) := by decide +kernel
theorem dL_isSo_115 : decode cL_isSo 115 = .ok (.iconst 1, 1) := by decide +kernel
theorem dL_isSo_116 : decode cL_isSo 116 = .ok (.if_icmp .le 7, 3) := by decide +kernel
theorem dL_isSo_119 : decode cL_isSo 119 = .ok (.iconst 1, 1) := by decide +kernel
theorem dL_isSo_120 : decode cL_isSo 120 = .ok (.goto 4, 3) := by decide +kernel
theorem dL_isSo_123 : decode cL_isSo 123 = .ok (.iconst 0, 1) := by decide +kernel
theorem dL_isSo_124 : decode cL_isSo 124 = .ok (.if_icmp .ne 46, 3) := by decide +kernel
theorem dL_isSo_127 : decode cL_isSo 127 = .ok (.iload 4, 2) := by decide +kernel
theorem dL_isSo_129 : decode cL_isSo 129 = .ok (.iconst 1, 1) := by decide +kernel
theorem dL_isSo_130 : decode cL_isSo 130 = .ok (.if_icmp .eq 9, 3) := by decide +kernel
theorem dL_isSo_133 : decode cL_isSo 133 = .ok (.iload 4, 2) := by decide +kernel
theorem dL_isSo_135 : decode cL_isSo 135 = .ok (.iconst 2, 1) := by decide +kernel
theorem dL_isSo_136 : decode cL_isSo 136 = .ok (.if_icmp .ne 7, 3) := by decide +kernel
theorem dL_isSo_139 : decode cL_isSo 139 = .ok (.iconst 1, 1) := by decide +kernel
theorem dL_isSo_140 : decode cL_isSo 140 = .ok (.goto 4, 3) := by decide +kernel
theorem dL_isSo_143 : decode cL_isSo 143 = .ok (.iconst 0, 1) := by decide +kernel
theorem dL_isSo_144 : decode cL_isSo 144 = .ok (.iload 5, 2) := by decide +kernel
theorem dL_isSo_146 : decode cL_isSo 146 = .ok (.iconst 1, 1) := by decide +kernel
theorem dL_isSo_147 : decode cL_isSo 147 = .ok (.if_icmp .ne 7, 3) := by decide +kernel
theorem dL_isSo_150 : decode cL_isSo 150 = .ok (.iconst 1, 1) := by decide +kernel
theorem dL_isSo_151 : decode cL_isSo 151 = .ok (.goto 4, 3) := by decide +kernel
theorem dL_isSo_154 : decode cL_isSo 154 = .ok (.iconst 0, 1) := by decide +kernel
theorem dL_isSo_155 : decode cL_isSo 155 = .ok (.if_icmp .ne 15, 3) := by decide +kernel
theorem dL_isSo_158 : decode cL_isSo 158 = .ok (.iload 4, 2) := by decide +kernel
theorem dL_isSo_160 : decode cL_isSo 160 = .ok (.iconst 3, 1) := by decide +kernel
theorem dL_isSo_161 : decode cL_isSo 161 = .ok (.if_icmp .le 11, 3) := by decide +kernel
theorem dL_isSo_164 : decode cL_isSo 164 = .ok (.iload 5, 2) := by decide +kernel
theorem dL_isSo_166 : decode cL_isSo 166 = .ok (.iconst 2, 1) := by decide +kernel
theorem dL_isSo_167 : decode cL_isSo 167 = .ok (.if_icmp .ge 5, 3) := by decide +kernel
theorem dL_isSo_170 : decode cL_isSo 170 = .ok (.iconst 0, 1) := by decide +kernel
theorem dL_isSo_171 : decode cL_isSo 171 = .ok (.ireturn, 1) := by decide +kernel
theorem dL_isSo_172 : decode cL_isSo 172 = .ok (.iinc 3 1, 3) := by decide +kernel
theorem dL_isSo_175 : decode cL_isSo 175 = .ok (.goto (-162), 3) := by decide +kernel
theorem dL_isSo_178 : decode cL_isSo 178 = .ok (.iconst 0, 1) := by decide +kernel
theorem dL_isSo_179 : decode cL_isSo 179 = .ok (.istore_n 3, 1) := by decide +kernel
theorem dL_isSo_180 : decode cL_isSo 180 = .ok (.iconst 0, 1) := by decide +kernel
theorem dL_isSo_181 : decode cL_isSo 181 = .ok (.istore 4, 2) := by decide +kernel
theorem dL_isSo_183 : decode cL_isSo 183 = .ok (.iload 4, 2) := by decide +kernel
theorem dL_isSo_185 : decode cL_isSo 185 = .ok (.aload_n 0, 1) := by decide +kernel
theorem dL_isSo_186 : decode cL_isSo 186 = .ok (.bipush 12, 2) := by decide +kernel
theorem dL_isSo_188 : decode cL_isSo 188 = .ok (.invokevirtual 62, 3) := by decide +kernel
theorem dL_isSo_191 : decode cL_isSo 191 = .ok (.if_icmp .ge 75, 3) := by decide +kernel
theorem dL_isSo_194 : decode cL_isSo 194 = .ok (.iload_n 3, 1) := by decide +kernel
theorem dL_isSo_195 : decode cL_isSo 195 = .ok (.aload_n 0, 1) := by decide +kernel
theorem dL_isSo_196 : decode cL_isSo 196 = .ok (.iload 4, 2) := by decide +kernel
theorem dL_isSo_198 : decode cL_isSo 198 = .ok (.iconst 3, 1) := by decide +kernel
theorem dL_isSo_199 : decode cL_isSo 199 = .ok (.invokevirtual 101, 3) := by decide +kernel
theorem dL_isSo_202 : decode cL_isSo 202 = .ok (.iadd, 1) := by decide +kernel
theorem dL_isSo_203 : decode cL_isSo 203 = .ok (.istore_n 3, 1) := by decide +kernel
theorem dL_isSo_204 : decode cL_isSo 204 = .ok (.aload_n 0, 1) := by decide +kernel
theorem dL_isSo_205 : decode cL_isSo 205 = .ok (.iload 4, 2) := by decide +kernel
theorem dL_isSo_207 : decode cL_isSo 207 = .ok (.iconst 2, 1) := by decide +kernel
theorem dL_isSo_208 : decode cL_isSo 208 = .ok (.invokevirtual 101, 3) := by decide +kernel
theorem dL_isSo_211 : decode cL_isSo 211 = .ok (.ifCond .lt 47, 3) := by decide +kernel
theorem dL_isSo_214 : decode cL_isSo 214 = .ok (.aload_n 0, 1) := by decide +kernel
theorem dL_isSo_215 : decode cL_isSo 215 = .ok (.iload 4, 2) := by decide +kernel
theorem dL_isSo_217 : decode cL_isSo 217 = .ok (.iconst 2, 1) := by decide +kernel
theorem dL_isSo_218 : decode cL_isSo 218 = .ok (.invokevirtual 101, 3) := by decide +kernel
theorem dL_isSo_221 : decode cL_isSo 221 = .ok (.aload_n 0, 1) := by decide +kernel
theorem dL_isSo_222 : decode cL_isSo 222 = .ok (.iload 4, 2) := by decide +kernel
theorem dL_isSo_224 : decode cL_isSo 224 = .ok (.iconst 1, 1) := by decide +kernel
theorem dL_isSo_225 : decode cL_isSo 225 = .ok (.invokevirtual 101, 3) := by decide +kernel
theorem dL_isSo_228 : decode cL_isSo 228 = .ok (.if_icmp .gt 30, 3) := by decide +kernel
theorem dL_isSo_231 : decode cL_isSo 231 = .ok (.aload_n 0, 1) := by decide +kernel
theorem dL_isSo_232 : decode cL_isSo 232 = .ok (.iload 4, 2) := by decide +kernel
theorem dL_isSo_234 : decode cL_isSo 234 = .ok (.iconst 3, 1) := by decide +kernel
theorem dL_isSo_235 : decode cL_isSo 235 = .ok (.invokevirtual 101, 3) := by decide +kernel
theorem dL_isSo_238 : decode cL_isSo 238 = .ok (.iconst 1, 1) := by decide +kernel
theorem dL_isSo_239 : decode cL_isSo 239 = .ok (.if_icmp .ne 21, 3) := by decide +kernel
theorem dL_isSo_242 : decode cL_isSo 242 = .ok (.aload_n 0, 1) := by decide +kernel
theorem dL_isSo_243 : decode cL_isSo 243 = .ok (.aload_n 0, 1) := by decide +kernel
theorem dL_isSo_244 : decode cL_isSo 244 = .ok (.iload 4, 2) := by decide +kernel
theorem dL_isSo_246 : decode cL_isSo 246 = .ok (.iconst 0, 1) := by decide +kernel
theorem dL_isSo_247 : decode cL_isSo 247 = .ok (.invokevirtual 101, 3) := by decide +kernel
theorem dL_isSo_250 : decode cL_isSo 250 = .ok (.iconst 5, 1) := by decide +kernel
theorem dL_isSo_251 : decode cL_isSo 251 = .ok (.invokevirtual 79, 3) := by decide +kernel
theorem dL_isSo_254 : decode cL_isSo 254 = .ok (.iconst 4, 1) := by decide +kernel
theorem dL_isSo_255 : decode cL_isSo 255 = .ok (.if_icmp .eq 5, 3) := by decide +kernel
theorem dL_isSo_258 : decode cL_isSo 258 = .ok (.iconst 0, 1) := by decide +kernel
theorem dL_isSo_259 : decode cL_isSo 259 = .ok (.ireturn, 1) := by decide +kernel
theorem dL_isSo_260 : decode cL_isSo 260 = .ok (.iinc 4 1, 3) := by decide +kernel
theorem dL_isSo_263 : decode cL_isSo 263 = .ok (.goto (-80), 3) := by decide +kernel
theorem dL_isSo_266 : decode cL_isSo 266 = .ok (.iconst 0, 1) := by decide +kernel
theorem dL_isSo_267 : decode cL_isSo 267 = .ok (.istore 4, 2) := by decide +kernel
theorem dL_isSo_269 : decode cL_isSo 269 = .ok (.iload 4, 2) := by decide +kernel
theorem dL_isSo_271 : decode cL_isSo 271 = .ok (.iconst 2, 1) := by decide +kernel
theorem dL_isSo_272 : decode cL_isSo 272 = .ok (.if_icmp .ge 261, 3) := by decide +kernel
theorem dL_isSo_275 : decode cL_isSo 275 = .ok (.aload_n 0, 1) := by decide +kernel
theorem dL_isSo_276 : decode cL_isSo 276 = .ok (.iconst 3, 1) := by decide +kernel
theorem dL_isSo_277 : decode cL_isSo 277 = .ok (.iload 4, 2) := by decide +kernel
theorem dL_isSo_279 : decode cL_isSo 279 = .ok (.iadd, 1) := by decide +kernel
theorem dL_isSo_280 : decode cL_isSo 280 = .ok (.invokevirtual 62, 3) := by decide +kernel
theorem dL_isSo_283 : decode cL_isSo 283 = .ok (.istore 5, 2) := by decide +kernel
theorem dL_isSo_285 : decode cL_isSo 285 = .ok (.aload_n 0, 1) := by decide +kernel
theorem dL_isSo_286 : decode cL_isSo 286 = .ok (.iload 4, 2) := by decide +kernel
theorem dL_isSo_288 : decode cL_isSo 288 = .ok (.iconst 1, 1) := by decide +kernel
theorem dL_isSo_289 : decode cL_isSo 289 = .ok (.if_icmp .ne 7, 3) := by decide +kernel
theorem dL_isSo_292 : decode cL_isSo 292 = .ok (.iconst 1, 1) := by decide +kernel
theorem dL_isSo_293 : decode cL_isSo 293 = .ok (.goto 4, 3) := by decide +kernel
theorem dL_isSo_296 : decode cL_isSo 296 = .ok (.iconst 0, 1) := by decide +kernel
theorem dL_isSo_297 : decode cL_isSo 297 = .ok (.invokevirtual 82, 3) := by decide +kernel
theorem dL_isSo_300 : decode cL_isSo 300 = .ok (.dstore 6, 2) := by decide +kernel
theorem dL_isSo_302 : decode cL_isSo 302 = .ok (.aload_n 0, 1) := by decide +kernel
theorem dL_isSo_303 : decode cL_isSo 303 = .ok (.iload 4, 2) := by decide +kernel
theorem dL_isSo_305 : decode cL_isSo 305 = .ok (.iconst 1, 1) := by decide +kernel
theorem dL_isSo_306 : decode cL_isSo 306 = .ok (.if_icmp .ne 7, 3) := by decide +kernel
theorem dL_isSo_309 : decode cL_isSo 309 = .ok (.iconst 1, 1) := by decide +kernel
theorem dL_isSo_310 : decode cL_isSo 310 = .ok (.goto 4, 3) := by decide +kernel
theorem dL_isSo_313 : decode cL_isSo 313 = .ok (.iconst 0, 1) := by decide +kernel
theorem dL_isSo_314 : decode cL_isSo 314 = .ok (.invokevirtual 117, 3) := by decide +kernel
theorem dL_isSo_317 : decode cL_isSo 317 = .ok (.astore 8, 2) := by decide +kernel
theorem dL_isSo_319 : decode cL_isSo 319 = .ok (.aload 8, 2) := by decide +kernel
theorem dL_isSo_321 : decode cL_isSo 321 = .ok (.invokevirtual 121, 3) := by decide +kernel
theorem dL_isSo_324 : decode cL_isSo 324 = .ok (.iload 5, 2) := by decide +kernel
theorem dL_isSo_326 : decode cL_isSo 326 = .ok (.if_icmp .ne 43, 3) := by decide +kernel
theorem dL_isSo_329 : decode cL_isSo 329 = .ok (.dload 6, 2) := by decide +kernel
theorem dL_isSo_331 : decode cL_isSo 331 = .ok (.ldc2_w 126, 3) := by decide +kernel
theorem dL_isSo_334 : decode cL_isSo 334 = .ok (.iload 5, 2) := by decide +kernel
theorem dL_isSo_336 : decode cL_isSo 336 = .ok (.i2d, 1) := by decide +kernel
theorem dL_isSo_337 : decode cL_isSo 337 = .ok (.dmul, 1) := by decide +kernel
theorem dL_isSo_338 : decode cL_isSo 338 = .ok (.dcmp .l, 1) := by decide +kernel
theorem dL_isSo_339 : decode cL_isSo 339 = .ok (.ifCond .gt 30, 3) := by decide +kernel
theorem dL_isSo_342 : decode cL_isSo 342 = .ok (.dload 6, 2) := by decide +kernel
theorem dL_isSo_344 : decode cL_isSo 344 = .ok (.ldc2_w 126, 3) := by decide +kernel
theorem dL_isSo_347 : decode cL_isSo 347 = .ok (.iload 5, 2) := by decide +kernel
theorem dL_isSo_349 : decode cL_isSo 349 = .ok (.i2d, 1) := by decide +kernel
theorem dL_isSo_350 : decode cL_isSo 350 = .ok (.dmul, 1) := by decide +kernel
theorem dL_isSo_351 : decode cL_isSo 351 = .ok (.ldc2_w 128, 3) := by decide +kernel
theorem dL_isSo_354 : decode cL_isSo 354 = .ok (.iconst 0, 1) := by decide +kernel
theorem dL_isSo_355 : decode cL_isSo 355 = .ok (.iload 5, 2) := by decide +kernel
theorem dL_isSo_357 : decode cL_isSo 357 = .ok (.iconst 1, 1) := by decide +kernel
theorem dL_isSo_358 : decode cL_isSo 358 = .ok (.isub, 1) := by decide +kernel
theorem dL_isSo_359 : decode cL_isSo 359 = .ok (.invokestatic 130, 3) := by decide +kernel
theorem dL_isSo_362 : decode cL_isSo 362 = .ok (.i2d, 1) := by decide +kernel
theorem dL_isSo_363 : decode cL_isSo 363 = .ok (.dmul, 1) := by decide +kernel
theorem dL_isSo_364 : decode cL_isSo 364 = .ok (.dsub, 1) := by decide +kernel
theorem dL_isSo_365 : decode cL_isSo 365 = .ok (.dcmp .g, 1) := by decide +kernel
theorem dL_isSo_366 : decode cL_isSo 366 = .ok (.ifCond .ge 5, 3) := by decide +kernel
theorem dL_isSo_369 : decode cL_isSo 369 = .ok (.iconst 0, 1) := by decide +kernel
theorem dL_isSo_370 : decode cL_isSo 370 = .ok (.ireturn, 1) := by decide +kernel
theorem dL_isSo_371 : decode cL_isSo 371 = .ok (.iconst 0, 1) := by decide +kernel
theorem dL_isSo_372 : decode cL_isSo 372 = .ok (.istore 9, 2) := by decide +kernel
theorem dL_isSo_374 : decode cL_isSo 374 = .ok (.iload 9, 2) := by decide +kernel
theorem dL_isSo_376 : decode cL_isSo 376 = .ok (.iload 5, 2) := by decide +kernel
theorem dL_isSo_378 : decode cL_isSo 378 = .ok (.if_icmp .ge 119, 3) := by decide +kernel
theorem dL_isSo_381 : decode cL_isSo 381 = .ok (.aload_n 0, 1) := by decide +kernel
theorem dL_isSo_382 : decode cL_isSo 382 = .ok (.iload 4, 2) := by decide +kernel
theorem dL_isSo_384 : decode cL_isSo 384 = .ok (.iconst 1, 1) := by decide +kernel
theorem dL_isSo_385 : decode cL_isSo 385 = .ok (.if_icmp .ne 7, 3) := by decide +kernel
theorem dL_isSo_388 : decode cL_isSo 388 = .ok (.iconst 1, 1) := by decide +kernel
theorem dL_isSo_389 : decode cL_isSo 389 = .ok (.goto 4, 3) := by decide +kernel
theorem dL_isSo_392 : decode cL_isSo 392 = .ok (.iconst 0, 1) := by decide +kernel
theorem dL_isSo_393 : decode cL_isSo 393 = .ok (.iload 9, 2) := by decide +kernel
theorem dL_isSo_395 : decode cL_isSo 395 = .ok (.invokevirtual 71, 3) := by decide +kernel
theorem dL_isSo_398 : decode cL_isSo 398 = .ok (.istore 10, 2) := by decide +kernel
theorem dL_isSo_400 : decode cL_isSo 400 = .ok (.aload 8, 2) := by decide +kernel
theorem dL_isSo_402 : decode cL_isSo 402 = .ok (.iload 9, 2) := by decide +kernel
theorem dL_isSo_404 : decode cL_isSo 404 = .ok (.invokevirtual 135, 3) := by decide +kernel
theorem dL_isSo_407 : decode cL_isSo 407 = .ok (.istore 11, 2) := by decide +kernel
theorem dL_isSo_409 : decode cL_isSo 409 = .ok (.aload_n 0, 1) := by decide +kernel
theorem dL_isSo_410 : decode cL_isSo 410 = .ok (.iload 10, 2) := by decide +kernel
theorem dL_isSo_412 : decode cL_isSo 412 = .ok (.iconst 0, 1) := by decide +kernel
theorem dL_isSo_413 : decode cL_isSo 413 = .ok (.invokevirtual 79, 3) := by decide +kernel
theorem dL_isSo_416 : decode cL_isSo 416 = .ok (.istore 12, 2) := by decide +kernel
theorem dL_isSo_418 : decode cL_isSo 418 = .ok (.aload_n 0, 1) := by decide +kernel
theorem dL_isSo_419 : decode cL_isSo 419 = .ok (.iload 10, 2) := by decide +kernel
theorem dL_isSo_421 : decode cL_isSo 421 = .ok (.iconst 5, 1) := by decide +kernel
theorem dL_isSo_422 : decode cL_isSo 422 = .ok (.invokevirtual 79, 3) := by decide +kernel
theorem dL_isSo_425 : decode cL_isSo 425 = .ok (.iload 4, 2) := by decide +kernel
theorem dL_isSo_427 : decode cL_isSo 427 = .ok (.if_icmp .ne 62, 3) := by decide +kernel
theorem dL_isSo_430 : decode cL_isSo 430 = .ok (.iload 12, 2) := by decide +kernel
theorem dL_isSo_432 : decode cL_isSo 432 = .ok (.iconst 3, 1) := by decide +kernel
theorem dL_isSo_433 : decode cL_isSo 433 = .ok (.if_icmp .ne 7, 3) := by decide +kernel
theorem dL_isSo_436 : decode cL_isSo 436 = .ok (.iconst 1, 1) := by decide +kernel
theorem dL_isSo_437 : decode cL_isSo 437 = .ok (.goto 4, 3) := by decide +kernel
theorem dL_isSo_440 : decode cL_isSo 440 = .ok (.iconst 0, 1) := by decide +kernel
theorem dL_isSo_441 : decode cL_isSo 441 = .ok (.iload 11, 2) := by decide +kernel
theorem dL_isSo_443 : decode cL_isSo 443 = .ok (.bipush 111, 2) := by decide +kernel
theorem dL_isSo_445 : decode cL_isSo 445 = .ok (.if_icmp .ne 7, 3) := by decide +kernel
theorem dL_isSo_448 : decode cL_isSo 448 = .ok (.iconst 1, 1) := by decide +kernel
theorem dL_isSo_449 : decode cL_isSo 449 = .ok (.goto 4, 3) := by decide +kernel
theorem dL_isSo_452 : decode cL_isSo 452 = .ok (.iconst 0, 1) := by decide +kernel
theorem dL_isSo_453 : decode cL_isSo 453 = .ok (.if_icmp .ne 36, 3) := by decide +kernel
theorem dL_isSo_456 : decode cL_isSo 456 = .ok (.iload 12, 2) := by decide +kernel
theorem dL_isSo_458 : decode cL_isSo 458 = .ok (.iconst 3, 1) := by decide +kernel
theorem dL_isSo_459 : decode cL_isSo 459 = .ok (.if_icmp .le 7, 3) := by decide +kernel
theorem dL_isSo_462 : decode cL_isSo 462 = .ok (.iconst 1, 1) := by decide +kernel
theorem dL_isSo_463 : decode cL_isSo 463 = .ok (.goto 4, 3) := by decide +kernel
theorem dL_isSo_466 : decode cL_isSo 466 = .ok (.iconst 0, 1) := by decide +kernel
theorem dL_isSo_467 : decode cL_isSo 467 = .ok (.iload 11, 2) := by decide +kernel
theorem dL_isSo_469 : decode cL_isSo 469 = .ok (.bipush 60, 2) := by decide +kernel
theorem dL_isSo_471 : decode cL_isSo 471 = .ok (.if_icmp .eq 10, 3) := by decide +kernel
theorem dL_isSo_474 : decode cL_isSo 474 = .ok (.iload 11, 2) := by decide +kernel
theorem dL_isSo_476 : decode cL_isSo 476 = .ok (.bipush 62, 2) := by decide +kernel
theorem dL_isSo_478 : decode cL_isSo 478 = .ok (.if_icmp .ne 7, 3) := by decide +kernel
theorem dL_isSo_481 : decode cL_isSo 481 = .ok (.iconst 1, 1) := by decide +kernel
theorem dL_isSo_482 : decode cL_isSo 482 = .ok (.goto 4, 3) := by decide +kernel
theorem dL_isSo_485 : decode cL_isSo 485 = .ok (.iconst 0, 1) := by decide +kernel
theorem dL_isSo_486 : decode cL_isSo 486 = .ok (.if_icmp .eq 5, 3) := by decide +kernel
theorem dL_isSo_489 : decode cL_isSo 489 = .ok (.iconst 0, 1) := by decide +kernel
theorem dL_isSo_490 : decode cL_isSo 490 = .ok (.ireturn, 1) := by decide +kernel
theorem dL_isSo_491 : decode cL_isSo 491 = .ok (.iinc 9 1, 3) := by decide +kernel
theorem dL_isSo_494 : decode cL_isSo 494 = .ok (.goto (-120), 3) := by decide +kernel
theorem dL_isSo_497 : decode cL_isSo 497 = .ok (.iload 5, 2) := by decide +kernel
theorem dL_isSo_499 : decode cL_isSo 499 = .ok (.bipush 24, 2) := by decide +kernel
theorem dL_isSo_501 : decode cL_isSo 501 = .ok (.if_icmp .ge 26, 3) := by decide +kernel
theorem dL_isSo_504 : decode cL_isSo 504 = .ok (.aload_n 0, 1) := by decide +kernel
theorem dL_isSo_505 : decode cL_isSo 505 = .ok (.iload 4, 2) := by decide +kernel
theorem dL_isSo_507 : decode cL_isSo 507 = .ok (.iconst 1, 1) := by decide +kernel
theorem dL_isSo_508 : decode cL_isSo 508 = .ok (.if_icmp .ne 7, 3) := by decide +kernel
theorem dL_isSo_511 : decode cL_isSo 511 = .ok (.iconst 1, 1) := by decide +kernel
theorem dL_isSo_512 : decode cL_isSo 512 = .ok (.goto 4, 3) := by decide +kernel
theorem dL_isSo_515 : decode cL_isSo 515 = .ok (.iconst 0, 1) := by decide +kernel
theorem dL_isSo_516 : decode cL_isSo 516 = .ok (.iload 5, 2) := by decide +kernel
theorem dL_isSo_518 : decode cL_isSo 518 = .ok (.invokevirtual 71, 3) := by decide +kernel
theorem dL_isSo_521 : decode cL_isSo 521 = .ok (.iconst (-1), 1) := by decide +kernel
theorem dL_isSo_522 : decode cL_isSo 522 = .ok (.if_icmp .eq 5, 3) := by decide +kernel
theorem dL_isSo_525 : decode cL_isSo 525 = .ok (.iconst 0, 1) := by decide +kernel
theorem dL_isSo_526 : decode cL_isSo 526 = .ok (.ireturn, 1) := by decide +kernel
theorem dL_isSo_527 : decode cL_isSo 527 = .ok (.iinc 4 1, 3) := by decide +kernel
theorem dL_isSo_530 : decode cL_isSo 530 = .ok (.goto (-261), 3) := by decide +kernel
theorem dL_isSo_533 : decode cL_isSo 533 = .ok (.iconst 0, 1) := by decide +kernel
theorem dL_isSo_534 : decode cL_isSo 534 = .ok (.istore 4, 2) := by decide +kernel
theorem dL_isSo_536 : decode cL_isSo 536 = .ok (.iconst 0, 1) := by decide +kernel
theorem dL_isSo_537 : decode cL_isSo 537 = .ok (.istore 5, 2) := by decide +kernel
theorem dL_isSo_539 : decode cL_isSo 539 = .ok (.iload 5, 2) := by decide +kernel
theorem dL_isSo_541 : decode cL_isSo 541 = .ok (.aload_n 0, 1) := by decide +kernel
theorem dL_isSo_542 : decode cL_isSo 542 = .ok (.iconst 0, 1) := by decide +kernel
theorem dL_isSo_543 : decode cL_isSo 543 = .ok (.invokevirtual 62, 3) := by decide +kernel
theorem dL_isSo_546 : decode cL_isSo 546 = .ok (.if_icmp .ge 20, 3) := by decide +kernel
theorem dL_isSo_549 : decode cL_isSo 549 = .ok (.iload 4, 2) := by decide +kernel
theorem dL_isSo_551 : decode cL_isSo 551 = .ok (.aload_n 0, 1) := by decide +kernel
theorem dL_isSo_552 : decode cL_isSo 552 = .ok (.iload 5, 2) := by decide +kernel
theorem dL_isSo_554 : decode cL_isSo 554 = .ok (.invokevirtual 65, 3) := by decide +kernel
theorem dL_isSo_557 : decode cL_isSo 557 = .ok (.iadd, 1) := by decide +kernel
theorem dL_isSo_558 : decode cL_isSo 558 = .ok (.istore 4, 2) := by decide +kernel
theorem dL_isSo_560 : decode cL_isSo 560 = .ok (.iinc 5 1, 3) := by decide +kernel
theorem dL_isSo_563 : decode cL_isSo 563 = .ok (.goto (-24), 3) := by decide +kernel
theorem dL_isSo_566 : decode cL_isSo 566 = .ok (.aload_n 0, 1) := by decide +kernel
theorem dL_isSo_567 : decode cL_isSo 567 = .ok (.invokevirtual 139, 3) := by decide +kernel
theorem dL_isSo_570 : decode cL_isSo 570 = .ok (.istore 5, 2) := by decide +kernel
theorem dL_isSo_572 : decode cL_isSo 572 = .ok (.aload_n 0, 1) := by decide +kernel
theorem dL_isSo_573 : decode cL_isSo 573 = .ok (.iconst 3, 1) := by decide +kernel
theorem dL_isSo_574 : decode cL_isSo 574 = .ok (.invokevirtual 62, 3) := by decide +kernel
theorem dL_isSo_577 : decode cL_isSo 577 = .ok (.aload_n 1, 1) := by decide +kernel
theorem dL_isSo_578 : decode cL_isSo 578 = .ok (.iconst 0, 1) := by decide +kernel
theorem dL_isSo_579 : decode cL_isSo 579 = .ok (.iaload, 1) := by decide +kernel
theorem dL_isSo_580 : decode cL_isSo 580 = .ok (.if_icmp .ne 122, 3) := by decide +kernel
theorem dL_isSo_583 : decode cL_isSo 583 = .ok (.aload_n 0, 1) := by decide +kernel
theorem dL_isSo_584 : decode cL_isSo 584 = .ok (.iconst 4, 1) := by decide +kernel
theorem dL_isSo_585 : decode cL_isSo 585 = .ok (.invokevirtual 62, 3) := by decide +kernel
theorem dL_isSo_588 : decode cL_isSo 588 = .ok (.aload_n 1, 1) := by decide +kernel
theorem dL_isSo_589 : decode cL_isSo 589 = .ok (.iconst 1, 1) := by decide +kernel
theorem dL_isSo_590 : decode cL_isSo 590 = .ok (.iaload, 1) := by decide +kernel
theorem dL_isSo_591 : decode cL_isSo 591 = .ok (.if_icmp .ne 111, 3) := by decide +kernel
theorem dL_isSo_594 : decode cL_isSo 594 = .ok (.aload_n 0, 1) := by decide +kernel
theorem dL_isSo_595 : decode cL_isSo 595 = .ok (.bipush 11, 2) := by decide +kernel
theorem dL_isSo_597 : decode cL_isSo 597 = .ok (.invokevirtual 62, 3) := by decide +kernel
theorem dL_isSo_600 : decode cL_isSo 600 = .ok (.aload_n 1, 1) := by decide +kernel
theorem dL_isSo_601 : decode cL_isSo 601 = .ok (.iconst 3, 1) := by decide +kernel
theorem dL_isSo_602 : decode cL_isSo 602 = .ok (.iaload, 1) := by decide +kernel
theorem dL_isSo_603 : decode cL_isSo 603 = .ok (.if_icmp .ne 99, 3) := by decide +kernel
theorem dL_isSo_606 : decode cL_isSo 606 = .ok (.aload_n 0, 1) := by decide +kernel
theorem dL_isSo_607 : decode cL_isSo 607 = .ok (.bipush 13, 2) := by decide +kernel
theorem dL_isSo_609 : decode cL_isSo 609 = .ok (.invokevirtual 62, 3) := by decide +kernel
theorem dL_isSo_612 : decode cL_isSo 612 = .ok (.aload_n 1, 1) := by decide +kernel
theorem dL_isSo_613 : decode cL_isSo 613 = .ok (.iconst 4, 1) := by decide +kernel
theorem dL_isSo_614 : decode cL_isSo 614 = .ok (.iaload, 1) := by decide +kernel
theorem dL_isSo_615 : decode cL_isSo 615 = .ok (.if_icmp .ne 87, 3) := by decide +kernel
theorem dL_isSo_618 : decode cL_isSo 618 = .ok (.iload_n 3, 1) := by decide +kernel
theorem dL_isSo_619 : decode cL_isSo 619 = .ok (.aload_n 1, 1) := by decide +kernel
theorem dL_isSo_620 : decode cL_isSo 620 = .ok (.iconst 4, 1) := by decide +kernel
theorem dL_isSo_621 : decode cL_isSo 621 = .ok (.iaload, 1) := by decide +kernel
theorem dL_isSo_622 : decode cL_isSo 622 = .ok (.if_icmp .ne 80, 3) := by decide +kernel
theorem dL_isSo_625 : decode cL_isSo 625 = .ok (.aload_n 0, 1) := by decide +kernel
theorem dL_isSo_626 : decode cL_isSo 626 = .ok (.iconst 1, 1) := by decide +kernel
theorem dL_isSo_627 : decode cL_isSo 627 = .ok (.invokevirtual 62, 3) := by decide +kernel
theorem dL_isSo_630 : decode cL_isSo 630 = .ok (.iload 4, 2) := by decide +kernel
theorem dL_isSo_632 : decode cL_isSo 632 = .ok (.if_icmp .ne 70, 3) := by decide +kernel
theorem dL_isSo_635 : decode cL_isSo 635 = .ok (.aload_n 0, 1) := by decide +kernel
theorem dL_isSo_636 : decode cL_isSo 636 = .ok (.iconst 3, 1) := by decide +kernel
theorem dL_isSo_637 : decode cL_isSo 637 = .ok (.invokevirtual 62, 3) := by decide +kernel
theorem dL_isSo_640 : decode cL_isSo 640 = .ok (.aload_n 0, 1) := by decide +kernel
theorem dL_isSo_641 : decode cL_isSo 641 = .ok (.iconst 4, 1) := by decide +kernel
theorem dL_isSo_642 : decode cL_isSo 642 = .ok (.invokevirtual 62, 3) := by decide +kernel
theorem dL_isSo_645 : decode cL_isSo 645 = .ok (.iadd, 1) := by decide +kernel
theorem dL_isSo_646 : decode cL_isSo 646 = .ok (.bipush 24, 2) := by decide +kernel
theorem dL_isSo_648 : decode cL_isSo 648 = .ok (.if_icmp .gt 54, 3) := by decide +kernel
theorem dL_isSo_651 : decode cL_isSo 651 = .ok (.aload_n 0, 1) := by decide +kernel
theorem dL_isSo_652 : decode cL_isSo 652 = .ok (.bipush 15, 2) := by decide +kernel
theorem dL_isSo_654 : decode cL_isSo 654 = .ok (.invokevirtual 62, 3) := by decide +kernel
theorem dL_isSo_657 : decode cL_isSo 657 = .ok (.bipush 12, 2) := by decide +kernel
theorem dL_isSo_659 : decode cL_isSo 659 = .ok (.if_icmp .gt 43, 3) := by decide +kernel
theorem dL_isSo_662 : decode cL_isSo 662 = .ok (.iload 5, 2) := by decide +kernel
theorem dL_isSo_664 : decode cL_isSo 664 = .ok (.ifCond .lt 21, 3) := by decide +kernel
theorem dL_isSo_667 : decode cL_isSo 667 = .ok (.aload_n 0, 1) := by decide +kernel
theorem dL_isSo_668 : decode cL_isSo 668 = .ok (.iload 5, 2) := by decide +kernel
theorem dL_isSo_670 : decode cL_isSo 670 = .ok (.invokevirtual 89, 3) := by decide +kernel
theorem dL_isSo_673 : decode cL_isSo 673 = .ok (.aload_n 0, 1) := by decide +kernel
theorem dL_isSo_674 : decode cL_isSo 674 = .ok (.aload_n 0, 1) := by decide +kernel
theorem dL_isSo_675 : decode cL_isSo 675 = .ok (.iconst 2, 1) := by decide +kernel
theorem dL_isSo_676 : decode cL_isSo 676 = .ok (.invokevirtual 62, 3) := by decide +kernel
theorem dL_isSo_679 : decode cL_isSo 679 = .ok (.invokevirtual 65, 3) := by decide +kernel
theorem dL_isSo_682 : decode cL_isSo 682 = .ok (.if_icmp .gt 20, 3) := by decide +kernel
theorem dL_isSo_685 : decode cL_isSo 685 = .ok (.aload_n 0, 1) := by decide +kernel
theorem dL_isSo_686 : decode cL_isSo 686 = .ok (.iconst 3, 1) := by decide +kernel
theorem dL_isSo_687 : decode cL_isSo 687 = .ok (.invokevirtual 62, 3) := by decide +kernel
theorem dL_isSo_690 : decode cL_isSo 690 = .ok (.ifCond .gt 8, 3) := by decide +kernel
theorem dL_isSo_693 : decode cL_isSo 693 = .ok (.iload 5, 2) := by decide +kernel
theorem dL_isSo_695 : decode cL_isSo 695 = .ok (.ifCond .ge 7, 3) := by decide +kernel
theorem dL_isSo_698 : decode cL_isSo 698 = .ok (.iconst 1, 1) := by decide +kernel
theorem dL_isSo_699 : decode cL_isSo 699 = .ok (.goto 4, 3) := by decide +kernel
theorem dL_isSo_702 : decode cL_isSo 702 = .ok (.iconst 0, 1) := by decide +kernel
theorem dL_isSo_703 : decode cL_isSo 703 = .ok (.ireturn, 1) := by decide +kernel
