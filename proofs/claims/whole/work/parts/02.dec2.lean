theorem dX12_fact_28 : decode cX12_fact 28 = .ok (.iconst 1, 1) := by decide +kernel
theorem dX12_fact_29 : decode cX12_fact 29 = .ok (.goto 34, 3) := by decide +kernel
theorem dX12_fact_32 : decode cX12_fact 32 = .ok (.aload_n 0, 1) := by decide +kernel
theorem dX12_fact_33 : decode cX12_fact 33 = .ok (.getfield 189, 3) := by decide +kernel
theorem dX12_fact_36 : decode cX12_fact 36 = .ok (.ldc2_w 218, 3) := by decide +kernel
theorem dX12_fact_39 : decode cX12_fact 39 = .ok (.lcmp, 1) := by decide +kernel
theorem dX12_fact_40 : decode cX12_fact 40 = .ok (.ifCond .ne 7, 3) := by decide +kernel
theorem dX12_fact_43 : decode cX12_fact 43 = .ok (.iconst 2, 1) := by decide +kernel
theorem dX12_fact_44 : decode cX12_fact 44 = .ok (.goto 19, 3) := by decide +kernel
theorem dX12_fact_47 : decode cX12_fact 47 = .ok (.aload_n 0, 1) := by decide +kernel
theorem dX12_fact_48 : decode cX12_fact 48 = .ok (.getfield 189, 3) := by decide +kernel
theorem dX12_fact_51 : decode cX12_fact 51 = .ok (.ldc2_w 220, 3) := by decide +kernel
theorem dX12_fact_54 : decode cX12_fact 54 = .ok (.lcmp, 1) := by decide +kernel
theorem dX12_fact_55 : decode cX12_fact 55 = .ok (.ifCond .ne 7, 3) := by decide +kernel
theorem dX12_fact_58 : decode cX12_fact 58 = .ok (.iconst 3, 1) := by decide +kernel
theorem dX12_fact_59 : decode cX12_fact 59 = .ok (.goto 4, 3) := by decide +kernel
theorem dX12_fact_62 : decode cX12_fact 62 = .ok (.iconst 0, 1) := by decide +kernel
theorem dX12_fact_63 : decode cX12_fact 63 = .ok (.ireturn, 1) := by decide +kernel
theorem dX12_fact_64 : decode cX12_fact 64 = .ok (.aload_n 0, 1) := by decide +kernel
theorem dX12_fact_65 : decode cX12_fact 65 = .ok (.getfield 189, 3) := by decide +kernel
theorem dX12_fact_68 : decode cX12_fact 68 = .ok (.ldc2_w 222, 3) := by decide +kernel
theorem dX12_fact_71 : decode cX12_fact 71 = .ok (.lcmp, 1) := by decide +kernel
theorem dX12_fact_72 : decode cX12_fact 72 = .ok (.ifCond .ne 7, 3) := by decide +kernel
theorem dX12_fact_75 : decode cX12_fact 75 = .ok (.iconst 4, 1) := by decide +kernel
theorem dX12_fact_76 : decode cX12_fact 76 = .ok (.goto 35, 3) := by decide +kernel
theorem dX12_fact_79 : decode cX12_fact 79 = .ok (.aload_n 0, 1) := by decide +kernel
theorem dX12_fact_80 : decode cX12_fact 80 = .ok (.getfield 189, 3) := by decide +kernel
theorem dX12_fact_83 : decode cX12_fact 83 = .ok (.ldc2_w 224, 3) := by decide +kernel
theorem dX12_fact_86 : decode cX12_fact 86 = .ok (.lcmp, 1) := by decide +kernel
theorem dX12_fact_87 : decode cX12_fact 87 = .ok (.ifCond .ne 7, 3) := by decide +kernel
theorem dX12_fact_90 : decode cX12_fact 90 = .ok (.iconst 5, 1) := by decide +kernel
theorem dX12_fact_91 : decode cX12_fact 91 = .ok (.goto 20, 3) := by decide +kernel
theorem dX12_fact_94 : decode cX12_fact 94 = .ok (.aload_n 0, 1) := by decide +kernel
theorem dX12_fact_95 : decode cX12_fact 95 = .ok (.getfield 189, 3) := by decide +kernel
theorem dX12_fact_98 : decode cX12_fact 98 = .ok (.ldc2_w 226, 3) := by decide +kernel
theorem dX12_fact_101 : decode cX12_fact 101 = .ok (.lcmp, 1) := by decide +kernel
theorem dX12_fact_102 : decode cX12_fact 102 = .ok (.ifCond .ne 8, 3) := by decide +kernel
theorem dX12_fact_105 : decode cX12_fact 105 = .ok (.bipush 6, 2) := by decide +kernel
theorem dX12_fact_107 : decode cX12_fact 107 = .ok (.goto 4, 3) := by decide +kernel
theorem dX12_fact_110 : decode cX12_fact 110 = .ok (.iconst 0, 1) := by decide +kernel
theorem dX12_fact_111 : decode cX12_fact 111 = .ok (.ireturn, 1) := by decide +kernel
theorem dX12_reads_0 : decode cX12_reads 0 = .ok (.iconst 0, 1) := by decide +kernel
theorem dX12_reads_1 : decode cX12_reads 1 = .ok (.istore_n 1, 1) := by decide +kernel
theorem dX12_reads_2 : decode cX12_reads 2 = .ok (.iconst 1, 1) := by decide +kernel
theorem dX12_reads_3 : decode cX12_reads 3 = .ok (.istore_n 2, 1) := by decide +kernel
theorem dX12_reads_4 : decode cX12_reads 4 = .ok (.aload_n 0, 1) := by decide +kernel
theorem dX12_reads_5 : decode cX12_reads 5 = .ok (.getfield 59, 3) := by decide +kernel
theorem dX12_reads_8 : decode cX12_reads 8 = .ok (.iconst 0, 1) := by decide +kernel
theorem dX12_reads_9 : decode cX12_reads 9 = .ok (.iconst 0, 1) := by decide +kernel
theorem dX12_reads_10 : decode cX12_reads 10 = .ok (.bastore, 1) := by decide +kernel
theorem dX12_reads_11 : decode cX12_reads 11 = .ok (.iload_n 2, 1) := by decide +kernel
theorem dX12_reads_12 : decode cX12_reads 12 = .ok (.ifCond .eq 167, 3) := by decide +kernel
theorem dX12_reads_15 : decode cX12_reads 15 = .ok (.aload_n 0, 1) := by decide +kernel
theorem dX12_reads_16 : decode cX12_reads 16 = .ok (.invokevirtual 228, 3) := by decide +kernel
theorem dX12_reads_19 : decode cX12_reads 19 = .ok (.istore_n 3, 1) := by decide +kernel
theorem dX12_reads_20 : decode cX12_reads 20 = .ok (.aload_n 0, 1) := by decide +kernel
theorem dX12_reads_21 : decode cX12_reads 21 = .ok (.ldc2_w 232, 3) := by decide +kernel
theorem dX12_reads_24 : decode cX12_reads 24 = .ok (.invokevirtual 234, 3) := by decide +kernel
theorem dX12_reads_27 : decode cX12_reads 27 = .ok (.istore 4, 2) := by decide +kernel
theorem dX12_reads_29 : decode cX12_reads 29 = .ok (.aload_n 0, 1) := by decide +kernel
theorem dX12_reads_30 : decode cX12_reads 30 = .ok (.bipush 40, 2) := by decide +kernel
theorem dX12_reads_32 : decode cX12_reads 32 = .ok (.invokevirtual 238, 3) := by decide +kernel
theorem dX12_reads_35 : decode cX12_reads 35 = .ok (.istore 5, 2) := by decide +kernel
theorem dX12_reads_37 : decode cX12_reads 37 = .ok (.iload_n 3, 1) := by decide +kernel
theorem dX12_reads_38 : decode cX12_reads 38 = .ok (.ifCond .ne 27, 3) := by decide +kernel
theorem dX12_reads_41 : decode cX12_reads 41 = .ok (.iload 4, 2) := by decide +kernel
theorem dX12_reads_43 : decode cX12_reads 43 = .ok (.ifCond .ne 22, 3) := by decide +kernel
theorem dX12_reads_46 : decode cX12_reads 46 = .ok (.iload 5, 2) := by decide +kernel
theorem dX12_reads_48 : decode cX12_reads 48 = .ok (.ifCond .ne 17, 3) := by decide +kernel
theorem dX12_reads_51 : decode cX12_reads 51 = .ok (.aload_n 0, 1) := by decide +kernel
theorem dX12_reads_52 : decode cX12_reads 52 = .ok (.getfield 196, 3) := by decide +kernel
theorem dX12_reads_55 : decode cX12_reads 55 = .ok (.iconst 2, 1) := by decide +kernel
theorem dX12_reads_56 : decode cX12_reads 56 = .ok (.if_icmp .eq 9, 3) := by decide +kernel
theorem dX12_reads_59 : decode cX12_reads 59 = .ok (.aload_n 0, 1) := by decide +kernel
theorem dX12_reads_60 : decode cX12_reads 60 = .ok (.iconst 1, 1) := by decide +kernel
theorem dX12_reads_61 : decode cX12_reads 61 = .ok (.invokevirtual 242, 3) := by decide +kernel
theorem dX12_reads_64 : decode cX12_reads 64 = .ok (.ireturn, 1) := by decide +kernel
theorem dX12_reads_65 : decode cX12_reads 65 = .ok (.iload_n 1, 1) := by decide +kernel
theorem dX12_reads_66 : decode cX12_reads 66 = .ok (.iconst 5, 1) := by decide +kernel
theorem dX12_reads_67 : decode cX12_reads 67 = .ok (.if_icmp .ne 9, 3) := by decide +kernel
theorem dX12_reads_70 : decode cX12_reads 70 = .ok (.aload_n 0, 1) := by decide +kernel
theorem dX12_reads_71 : decode cX12_reads 71 = .ok (.iconst 5, 1) := by decide +kernel
theorem dX12_reads_72 : decode cX12_reads 72 = .ok (.invokevirtual 242, 3) := by decide +kernel
theorem dX12_reads_75 : decode cX12_reads 75 = .ok (.ireturn, 1) := by decide +kernel
theorem dX12_reads_76 : decode cX12_reads 76 = .ok (.iload 4, 2) := by decide +kernel
theorem dX12_reads_78 : decode cX12_reads 78 = .ok (.ifCond .ne 8, 3) := by decide +kernel
theorem dX12_reads_81 : decode cX12_reads 81 = .ok (.iload 5, 2) := by decide +kernel
theorem dX12_reads_83 : decode cX12_reads 83 = .ok (.ifCond .eq 48, 3) := by decide +kernel
theorem dX12_reads_86 : decode cX12_reads 86 = .ok (.aload_n 0, 1) := by decide +kernel
theorem dX12_reads_87 : decode cX12_reads 87 = .ok (.iload 4, 2) := by decide +kernel
theorem dX12_reads_89 : decode cX12_reads 89 = .ok (.ifCond .eq 8, 3) := by decide +kernel
theorem dX12_reads_92 : decode cX12_reads 92 = .ok (.bipush 30, 2) := by decide +kernel
theorem dX12_reads_94 : decode cX12_reads 94 = .ok (.goto 5, 3) := by decide +kernel
theorem dX12_reads_97 : decode cX12_reads 97 = .ok (.bipush 28, 2) := by decide +kernel
theorem dX12_reads_99 : decode cX12_reads 99 = .ok (.invokevirtual 245, 3) := by decide +kernel
theorem dX12_reads_102 : decode cX12_reads 102 = .ok (.iinc 1 1, 3) := by decide +kernel
theorem dX12_reads_105 : decode cX12_reads 105 = .ok (.aload_n 0, 1) := by decide +kernel
theorem dX12_reads_106 : decode cX12_reads 106 = .ok (.getfield 56, 3) := by decide +kernel
theorem dX12_reads_109 : decode cX12_reads 109 = .ok (.iload_n 1, 1) := by decide +kernel
theorem dX12_reads_110 : decode cX12_reads 110 = .ok (.iload 4, 2) := by decide +kernel
theorem dX12_reads_112 : decode cX12_reads 112 = .ok (.ifCond .eq 7, 3) := by decide +kernel
theorem dX12_reads_115 : decode cX12_reads 115 = .ok (.iconst 1, 1) := by decide +kernel
theorem dX12_reads_116 : decode cX12_reads 116 = .ok (.goto 4, 3) := by decide +kernel
theorem dX12_reads_119 : decode cX12_reads 119 = .ok (.iconst 2, 1) := by decide +kernel
theorem dX12_reads_120 : decode cX12_reads 120 = .ok (.iastore, 1) := by decide +kernel
theorem dX12_reads_121 : decode cX12_reads 121 = .ok (.aload_n 0, 1) := by decide +kernel
theorem dX12_reads_122 : decode cX12_reads 122 = .ok (.getfield 59, 3) := by decide +kernel
theorem dX12_reads_125 : decode cX12_reads 125 = .ok (.iload_n 1, 1) := by decide +kernel
theorem dX12_reads_126 : decode cX12_reads 126 = .ok (.iconst 0, 1) := by decide +kernel
theorem dX12_reads_127 : decode cX12_reads 127 = .ok (.bastore, 1) := by decide +kernel
theorem dX12_reads_128 : decode cX12_reads 128 = .ok (.goto 44, 3) := by decide +kernel
theorem dX12_reads_131 : decode cX12_reads 131 = .ok (.aload_n 0, 1) := by decide +kernel
theorem dX12_reads_132 : decode cX12_reads 132 = .ok (.iload_n 3, 1) := by decide +kernel
theorem dX12_reads_133 : decode cX12_reads 133 = .ok (.ifCond .le 7, 3) := by decide +kernel
theorem dX12_reads_136 : decode cX12_reads 136 = .ok (.iload_n 3, 1) := by decide +kernel
theorem dX12_reads_137 : decode cX12_reads 137 = .ok (.goto 10, 3) := by decide +kernel
theorem dX12_reads_140 : decode cX12_reads 140 = .ok (.bipush 100, 2) := by decide +kernel
theorem dX12_reads_142 : decode cX12_reads 142 = .ok (.aload_n 0, 1) := by decide +kernel
theorem dX12_reads_143 : decode cX12_reads 143 = .ok (.getfield 193, 3) := by decide +kernel
theorem dX12_reads_146 : decode cX12_reads 146 = .ok (.iadd, 1) := by decide +kernel
theorem dX12_reads_147 : decode cX12_reads 147 = .ok (.invokevirtual 245, 3) := by decide +kernel
theorem dX12_reads_150 : decode cX12_reads 150 = .ok (.iconst 0, 1) := by decide +kernel
theorem dX12_reads_151 : decode cX12_reads 151 = .ok (.istore_n 2, 1) := by decide +kernel
theorem dX12_reads_152 : decode cX12_reads 152 = .ok (.iload_n 1, 1) := by decide +kernel
theorem dX12_reads_153 : decode cX12_reads 153 = .ok (.ifCond .le 19, 3) := by decide +kernel
theorem dX12_reads_156 : decode cX12_reads 156 = .ok (.aload_n 0, 1) := by decide +kernel
theorem dX12_reads_157 : decode cX12_reads 157 = .ok (.getfield 56, 3) := by decide +kernel
theorem dX12_reads_160 : decode cX12_reads 160 = .ok (.iload_n 1, 1) := by decide +kernel
theorem dX12_reads_161 : decode cX12_reads 161 = .ok (.iaload, 1) := by decide +kernel
theorem dX12_reads_162 : decode cX12_reads 162 = .ok (.iconst 1, 1) := by decide +kernel
theorem dX12_reads_163 : decode cX12_reads 163 = .ok (.if_icmp .ne 9, 3) := by decide +kernel
theorem dX12_reads_166 : decode cX12_reads 166 = .ok (.iinc 1 (-1), 3) := by decide +kernel
theorem dX12_reads_169 : decode cX12_reads 169 = .ok (.goto (-17), 3) := by decide +kernel
theorem dX12_reads_172 : decode cX12_reads 172 = .ok (.aload_n 0, 1) := by decide +kernel
theorem dX12_reads_173 : decode cX12_reads 173 = .ok (.invokevirtual 249, 3) := by decide +kernel
theorem dX12_reads_176 : decode cX12_reads 176 = .ok (.goto (-165), 3) := by decide +kernel
theorem dX12_reads_179 : decode cX12_reads 179 = .ok (.aload_n 0, 1) := by decide +kernel
theorem dX12_reads_180 : decode cX12_reads 180 = .ok (.bipush 43, 2) := by decide +kernel
theorem dX12_reads_182 : decode cX12_reads 182 = .ok (.invokevirtual 238, 3) := by decide +kernel
theorem dX12_reads_185 : decode cX12_reads 185 = .ok (.ifCond .ne 21, 3) := by decide +kernel
theorem dX12_reads_188 : decode cX12_reads 188 = .ok (.aload_n 0, 1) := by decide +kernel
theorem dX12_reads_189 : decode cX12_reads 189 = .ok (.bipush 45, 2) := by decide +kernel
theorem dX12_reads_191 : decode cX12_reads 191 = .ok (.invokevirtual 238, 3) := by decide +kernel
theorem dX12_reads_194 : decode cX12_reads 194 = .ok (.ifCond .ne 12, 3) := by decide +kernel
theorem dX12_reads_197 : decode cX12_reads 197 = .ok (.aload_n 0, 1) := by decide +kernel
theorem dX12_reads_198 : decode cX12_reads 198 = .ok (.bipush 42, 2) := by decide +kernel
theorem dX12_reads_200 : decode cX12_reads 200 = .ok (.invokevirtual 238, 3) := by decide +kernel
theorem dX12_reads_203 : decode cX12_reads 203 = .ok (.ifCond .eq 42, 3) := by decide +kernel
theorem dX12_reads_206 : decode cX12_reads 206 = .ok (.aload_n 0, 1) := by decide +kernel
theorem dX12_reads_207 : decode cX12_reads 207 = .ok (.aload_n 0, 1) := by decide +kernel
theorem dX12_reads_208 : decode cX12_reads 208 = .ok (.bipush 43, 2) := by decide +kernel
theorem dX12_reads_210 : decode cX12_reads 210 = .ok (.invokevirtual 238, 3) := by decide +kernel
theorem dX12_reads_213 : decode cX12_reads 213 = .ok (.ifCond .eq 8, 3) := by decide +kernel
theorem dX12_reads_216 : decode cX12_reads 216 = .ok (.bipush 20, 2) := by decide +kernel
theorem dX12_reads_218 : decode cX12_reads 218 = .ok (.goto 19, 3) := by decide +kernel
theorem dX12_reads_221 : decode cX12_reads 221 = .ok (.aload_n 0, 1) := by decide +kernel
theorem dX12_reads_222 : decode cX12_reads 222 = .ok (.bipush 45, 2) := by decide +kernel
theorem dX12_reads_224 : decode cX12_reads 224 = .ok (.invokevirtual 238, 3) := by decide +kernel
theorem dX12_reads_227 : decode cX12_reads 227 = .ok (.ifCond .eq 8, 3) := by decide +kernel
theorem dX12_reads_230 : decode cX12_reads 230 = .ok (.bipush 21, 2) := by decide +kernel
theorem dX12_reads_232 : decode cX12_reads 232 = .ok (.goto 5, 3) := by decide +kernel
theorem dX12_reads_235 : decode cX12_reads 235 = .ok (.bipush 22, 2) := by decide +kernel
theorem dX12_reads_237 : decode cX12_reads 237 = .ok (.invokevirtual 245, 3) := by decide +kernel
theorem dX12_reads_240 : decode cX12_reads 240 = .ok (.iconst 1, 1) := by decide +kernel
theorem dX12_reads_241 : decode cX12_reads 241 = .ok (.istore_n 2, 1) := by decide +kernel
theorem dX12_reads_242 : decode cX12_reads 242 = .ok (.goto 182, 3) := by decide +kernel
theorem dX12_reads_245 : decode cX12_reads 245 = .ok (.aload_n 0, 1) := by decide +kernel
theorem dX12_reads_246 : decode cX12_reads 246 = .ok (.bipush 60, 2) := by decide +kernel
theorem dX12_reads_248 : decode cX12_reads 248 = .ok (.invokevirtual 238, 3) := by decide +kernel
theorem dX12_reads_251 : decode cX12_reads 251 = .ok (.ifCond .ne 12, 3) := by decide +kernel
theorem dX12_reads_254 : decode cX12_reads 254 = .ok (.aload_n 0, 1) := by decide +kernel
theorem dX12_reads_255 : decode cX12_reads 255 = .ok (.bipush 61, 2) := by decide +kernel
theorem dX12_reads_257 : decode cX12_reads 257 = .ok (.invokevirtual 238, 3) := by decide +kernel
theorem dX12_reads_260 : decode cX12_reads 260 = .ok (.ifCond .eq 44, 3) := by decide +kernel
theorem dX12_reads_263 : decode cX12_reads 263 = .ok (.aload_n 0, 1) := by decide +kernel
theorem dX12_reads_264 : decode cX12_reads 264 = .ok (.getfield 59, 3) := by decide +kernel
theorem dX12_reads_267 : decode cX12_reads 267 = .ok (.iload_n 1, 1) := by decide +kernel
theorem dX12_reads_268 : decode cX12_reads 268 = .ok (.baload, 1) := by decide +kernel
theorem dX12_reads_269 : decode cX12_reads 269 = .ok (.ifCond .ne 35, 3) := by decide +kernel
theorem dX12_reads_272 : decode cX12_reads 272 = .ok (.aload_n 0, 1) := by decide +kernel
theorem dX12_reads_273 : decode cX12_reads 273 = .ok (.aload_n 0, 1) := by decide +kernel
theorem dX12_reads_274 : decode cX12_reads 274 = .ok (.bipush 60, 2) := by decide +kernel
theorem dX12_reads_276 : decode cX12_reads 276 = .ok (.invokevirtual 238, 3) := by decide +kernel
theorem dX12_reads_279 : decode cX12_reads 279 = .ok (.ifCond .eq 8, 3) := by decide +kernel
theorem dX12_reads_282 : decode cX12_reads 282 = .ok (.bipush 24, 2) := by decide +kernel
theorem dX12_reads_284 : decode cX12_reads 284 = .ok (.goto 5, 3) := by decide +kernel
theorem dX12_reads_287 : decode cX12_reads 287 = .ok (.bipush 25, 2) := by decide +kernel
theorem dX12_reads_289 : decode cX12_reads 289 = .ok (.invokevirtual 245, 3) := by decide +kernel
theorem dX12_reads_292 : decode cX12_reads 292 = .ok (.aload_n 0, 1) := by decide +kernel
theorem dX12_reads_293 : decode cX12_reads 293 = .ok (.getfield 59, 3) := by decide +kernel
theorem dX12_reads_296 : decode cX12_reads 296 = .ok (.iload_n 1, 1) := by decide +kernel
theorem dX12_reads_297 : decode cX12_reads 297 = .ok (.iconst 1, 1) := by decide +kernel
theorem dX12_reads_298 : decode cX12_reads 298 = .ok (.bastore, 1) := by decide +kernel
theorem dX12_reads_299 : decode cX12_reads 299 = .ok (.iconst 1, 1) := by decide +kernel
theorem dX12_reads_300 : decode cX12_reads 300 = .ok (.istore_n 2, 1) := by decide +kernel
theorem dX12_reads_301 : decode cX12_reads 301 = .ok (.goto 123, 3) := by decide +kernel
theorem dX12_reads_304 : decode cX12_reads 304 = .ok (.aload_n 0, 1) := by decide +kernel
theorem dX12_reads_305 : decode cX12_reads 305 = .ok (.ldc2_w 252, 3) := by decide +kernel
theorem dX12_reads_308 : decode cX12_reads 308 = .ok (.invokevirtual 234, 3) := by decide +kernel
theorem dX12_reads_311 : decode cX12_reads 311 = .ok (.ifCond .ne 13, 3) := by decide +kernel
theorem dX12_reads_314 : decode cX12_reads 314 = .ok (.aload_n 0, 1) := by decide +kernel
theorem dX12_reads_315 : decode cX12_reads 315 = .ok (.ldc2_w 254, 3) := by decide +kernel
theorem dX12_reads_318 : decode cX12_reads 318 = .ok (.invokevirtual 234, 3) := by decide +kernel
theorem dX12_reads_321 : decode cX12_reads 321 = .ok (.ifCond .eq 36, 3) := by decide +kernel
theorem dX12_reads_324 : decode cX12_reads 324 = .ok (.aload_n 0, 1) := by decide +kernel
theorem dX12_reads_325 : decode cX12_reads 325 = .ok (.aload_n 0, 1) := by decide +kernel
theorem dX12_reads_326 : decode cX12_reads 326 = .ok (.ldc2_w 252, 3) := by decide +kernel
theorem dX12_reads_329 : decode cX12_reads 329 = .ok (.invokevirtual 234, 3) := by decide +kernel
theorem dX12_reads_332 : decode cX12_reads 332 = .ok (.ifCond .eq 8, 3) := by decide +kernel
theorem dX12_reads_335 : decode cX12_reads 335 = .ok (.bipush 26, 2) := by decide +kernel
theorem dX12_reads_337 : decode cX12_reads 337 = .ok (.goto 5, 3) := by decide +kernel
theorem dX12_reads_340 : decode cX12_reads 340 = .ok (.bipush 27, 2) := by decide +kernel
theorem dX12_reads_342 : decode cX12_reads 342 = .ok (.invokevirtual 245, 3) := by decide +kernel
theorem dX12_reads_345 : decode cX12_reads 345 = .ok (.aload_n 0, 1) := by decide +kernel
theorem dX12_reads_346 : decode cX12_reads 346 = .ok (.getfield 59, 3) := by decide +kernel
theorem dX12_reads_349 : decode cX12_reads 349 = .ok (.iload_n 1, 1) := by decide +kernel
theorem dX12_reads_350 : decode cX12_reads 350 = .ok (.iconst 0, 1) := by decide +kernel
theorem dX12_reads_351 : decode cX12_reads 351 = .ok (.bastore, 1) := by decide +kernel
theorem dX12_reads_352 : decode cX12_reads 352 = .ok (.iconst 1, 1) := by decide +kernel
theorem dX12_reads_353 : decode cX12_reads 353 = .ok (.istore_n 2, 1) := by decide +kernel
theorem dX12_reads_354 : decode cX12_reads 354 = .ok (.goto 70, 3) := by decide +kernel
theorem dX12_reads_357 : decode cX12_reads 357 = .ok (.aload_n 0, 1) := by decide +kernel
theorem dX12_reads_358 : decode cX12_reads 358 = .ok (.bipush 41, 2) := by decide +kernel
theorem dX12_reads_360 : decode cX12_reads 360 = .ok (.invokevirtual 238, 3) := by decide +kernel
theorem dX12_reads_363 : decode cX12_reads 363 = .ok (.ifCond .eq 36, 3) := by decide +kernel
theorem dX12_reads_366 : decode cX12_reads 366 = .ok (.iload_n 1, 1) := by decide +kernel
theorem dX12_reads_367 : decode cX12_reads 367 = .ok (.ifCond .le 32, 3) := by decide +kernel
theorem dX12_reads_370 : decode cX12_reads 370 = .ok (.aload_n 0, 1) := by decide +kernel
theorem dX12_reads_371 : decode cX12_reads 371 = .ok (.bipush 29, 2) := by decide +kernel
theorem dX12_reads_373 : decode cX12_reads 373 = .ok (.invokevirtual 245, 3) := by decide +kernel
theorem dX12_reads_376 : decode cX12_reads 376 = .ok (.iinc 1 (-1), 3) := by decide +kernel
theorem dX12_reads_379 : decode cX12_reads 379 = .ok (.iload_n 1, 1) := by decide +kernel
theorem dX12_reads_380 : decode cX12_reads 380 = .ok (.ifCond .le 44, 3) := by decide +kernel
theorem dX12_reads_383 : decode cX12_reads 383 = .ok (.aload_n 0, 1) := by decide +kernel
theorem dX12_reads_384 : decode cX12_reads 384 = .ok (.getfield 56, 3) := by decide +kernel
theorem dX12_reads_387 : decode cX12_reads 387 = .ok (.iload_n 1, 1) := by decide +kernel
theorem dX12_reads_388 : decode cX12_reads 388 = .ok (.iaload, 1) := by decide +kernel
theorem dX12_reads_389 : decode cX12_reads 389 = .ok (.iconst 1, 1) := by decide +kernel
theorem dX12_reads_390 : decode cX12_reads 390 = .ok (.if_icmp .ne 34, 3) := by decide +kernel
theorem dX12_reads_393 : decode cX12_reads 393 = .ok (.iinc 1 (-1), 3) := by decide +kernel
theorem dX12_reads_396 : decode cX12_reads 396 = .ok (.goto (-17), 3) := by decide +kernel
theorem dX12_reads_399 : decode cX12_reads 399 = .ok (.iload_n 1, 1) := by decide +kernel
theorem dX12_reads_400 : decode cX12_reads 400 = .ok (.ifCond .ne 18, 3) := by decide +kernel
theorem dX12_reads_403 : decode cX12_reads 403 = .ok (.aload_n 0, 1) := by decide +kernel
theorem dX12_reads_404 : decode cX12_reads 404 = .ok (.bipush 59, 2) := by decide +kernel
theorem dX12_reads_406 : decode cX12_reads 406 = .ok (.invokevirtual 238, 3) := by decide +kernel
theorem dX12_reads_409 : decode cX12_reads 409 = .ok (.ifCond .eq 9, 3) := by decide +kernel
theorem dX12_reads_412 : decode cX12_reads 412 = .ok (.aload_n 0, 1) := by decide +kernel
theorem dX12_reads_413 : decode cX12_reads 413 = .ok (.invokevirtual 249, 3) := by decide +kernel
theorem dX12_reads_416 : decode cX12_reads 416 = .ok (.iconst 1, 1) := by decide +kernel
theorem dX12_reads_417 : decode cX12_reads 417 = .ok (.ireturn, 1) := by decide +kernel
theorem dX12_reads_418 : decode cX12_reads 418 = .ok (.aload_n 0, 1) := by decide +kernel
theorem dX12_reads_419 : decode cX12_reads 419 = .ok (.iconst 1, 1) := by decide +kernel
theorem dX12_reads_420 : decode cX12_reads 420 = .ok (.invokevirtual 242, 3) := by decide +kernel
theorem dX12_reads_423 : decode cX12_reads 423 = .ok (.ireturn, 1) := by decide +kernel
theorem dX12_reads_424 : decode cX12_reads 424 = .ok (.aload_n 0, 1) := by decide +kernel
theorem dX12_reads_425 : decode cX12_reads 425 = .ok (.invokevirtual 249, 3) := by decide +kernel
theorem dX12_reads_428 : decode cX12_reads 428 = .ok (.goto (-417), 3) := by decide +kernel
theorem dX12_opens_0 : decode cX12_opens 0 = .ok (.aload_n 0, 1) := by decide +kernel
theorem dX12_opens_1 : decode cX12_opens 1 = .ok (.getfield 66, 3) := by decide +kernel
theorem dX12_opens_4 : decode cX12_opens 4 = .ok (.iload_n 1, 1) := by decide +kernel
theorem dX12_opens_5 : decode cX12_opens 5 = .ok (.iconst 0, 1) := by decide +kernel
theorem dX12_opens_6 : decode cX12_opens 6 = .ok (.iastore, 1) := by decide +kernel
theorem dX12_opens_7 : decode cX12_opens 7 = .ok (.aload_n 0, 1) := by decide +kernel
theorem dX12_opens_8 : decode cX12_opens 8 = .ok (.getfield 72, 3) := by decide +kernel
theorem dX12_opens_11 : decode cX12_opens 11 = .ok (.iload_n 1, 1) := by decide +kernel
theorem dX12_opens_12 : decode cX12_opens 12 = .ok (.iconst 0, 1) := by decide +kernel
theorem dX12_opens_13 : decode cX12_opens 13 = .ok (.iastore, 1) := by decide +kernel
theorem dX12_opens_14 : decode cX12_opens 14 = .ok (.aload_n 0, 1) := by decide +kernel
theorem dX12_opens_15 : decode cX12_opens 15 = .ok (.getfield 75, 3) := by decide +kernel
theorem dX12_opens_18 : decode cX12_opens 18 = .ok (.iload_n 1, 1) := by decide +kernel
theorem dX12_opens_19 : decode cX12_opens 19 = .ok (.iconst 0, 1) := by decide +kernel
theorem dX12_opens_20 : decode cX12_opens 20 = .ok (.iastore, 1) := by decide +kernel
theorem dX12_opens_21 : decode cX12_opens 21 = .ok (.aload_n 0, 1) := by decide +kernel
theorem dX12_opens_22 : decode cX12_opens 22 = .ok (.getfield 78, 3) := by decide +kernel
theorem dX12_opens_25 : decode cX12_opens 25 = .ok (.iload_n 1, 1) := by decide +kernel
theorem dX12_opens_26 : decode cX12_opens 26 = .ok (.bipush 20, 2) := by decide +kernel
theorem dX12_opens_28 : decode cX12_opens 28 = .ok (.iastore, 1) := by decide +kernel
theorem dX12_opens_29 : decode cX12_opens 29 = .ok (.aload_n 0, 1) := by decide +kernel
theorem dX12_opens_30 : decode cX12_opens 30 = .ok (.getfield 84, 3) := by decide +kernel
theorem dX12_opens_33 : decode cX12_opens 33 = .ok (.iload_n 1, 1) := by decide +kernel
theorem dX12_opens_34 : decode cX12_opens 34 = .ok (.iconst 0, 1) := by decide +kernel
theorem dX12_opens_35 : decode cX12_opens 35 = .ok (.iastore, 1) := by decide +kernel
theorem dX12_opens_36 : decode cX12_opens 36 = .ok (.return_, 1) := by decide +kernel
theorem dX12_sums_0 : decode cX12_sums 0 = .ok (.aload_n 0, 1) := by decide +kernel
theorem dX12_sums_1 : decode cX12_sums 1 = .ok (.getfield 75, 3) := by decide +kernel
theorem dX12_sums_4 : decode cX12_sums 4 = .ok (.iload_n 1, 1) := by decide +kernel
theorem dX12_sums_5 : decode cX12_sums 5 = .ok (.aload_n 0, 1) := by decide +kernel
theorem dX12_sums_6 : decode cX12_sums 6 = .ok (.getfield 78, 3) := by decide +kernel
theorem dX12_sums_9 : decode cX12_sums 9 = .ok (.iload_n 1, 1) := by decide +kernel
theorem dX12_sums_10 : decode cX12_sums 10 = .ok (.iaload, 1) := by decide +kernel
theorem dX12_sums_11 : decode cX12_sums 11 = .ok (.bipush 21, 2) := by decide +kernel
theorem dX12_sums_13 : decode cX12_sums 13 = .ok (.if_icmp .ne 19, 3) := by decide +kernel
theorem dX12_sums_16 : decode cX12_sums 16 = .ok (.aload_n 0, 1) := by decide +kernel
theorem dX12_sums_17 : decode cX12_sums 17 = .ok (.getfield 75, 3) := by decide +kernel
theorem dX12_sums_20 : decode cX12_sums 20 = .ok (.iload_n 1, 1) := by decide +kernel
theorem dX12_sums_21 : decode cX12_sums 21 = .ok (.iaload, 1) := by decide +kernel
theorem dX12_sums_22 : decode cX12_sums 22 = .ok (.aload_n 0, 1) := by decide +kernel
theorem dX12_sums_23 : decode cX12_sums 23 = .ok (.getfield 81, 3) := by decide +kernel
theorem dX12_sums_26 : decode cX12_sums 26 = .ok (.iload_n 1, 1) := by decide +kernel
theorem dX12_sums_27 : decode cX12_sums 27 = .ok (.iaload, 1) := by decide +kernel
theorem dX12_sums_28 : decode cX12_sums 28 = .ok (.isub, 1) := by decide +kernel
theorem dX12_sums_29 : decode cX12_sums 29 = .ok (.goto 16, 3) := by decide +kernel
theorem dX12_sums_32 : decode cX12_sums 32 = .ok (.aload_n 0, 1) := by decide +kernel
theorem dX12_sums_33 : decode cX12_sums 33 = .ok (.getfield 75, 3) := by decide +kernel
theorem dX12_sums_36 : decode cX12_sums 36 = .ok (.iload_n 1, 1) := by decide +kernel
theorem dX12_sums_37 : decode cX12_sums 37 = .ok (.iaload, 1) := by decide +kernel
theorem dX12_sums_38 : decode cX12_sums 38 = .ok (.aload_n 0, 1) := by decide +kernel
theorem dX12_sums_39 : decode cX12_sums 39 = .ok (.getfield 81, 3) := by decide +kernel
theorem dX12_sums_42 : decode cX12_sums 42 = .ok (.iload_n 1, 1) := by decide +kernel
theorem dX12_sums_43 : decode cX12_sums 43 = .ok (.iaload, 1) := by decide +kernel
theorem dX12_sums_44 : decode cX12_sums 44 = .ok (.iadd, 1) := by decide +kernel
theorem dX12_sums_45 : decode cX12_sums 45 = .ok (.iastore, 1) := by decide +kernel
theorem dX12_sums_46 : decode cX12_sums 46 = .ok (.aload_n 0, 1) := by decide +kernel
theorem dX12_sums_47 : decode cX12_sums 47 = .ok (.getfield 84, 3) := by decide +kernel
theorem dX12_sums_50 : decode cX12_sums 50 = .ok (.iload_n 1, 1) := by decide +kernel
theorem dX12_sums_51 : decode cX12_sums 51 = .ok (.iconst 0, 1) := by decide +kernel
theorem dX12_sums_52 : decode cX12_sums 52 = .ok (.iastore, 1) := by decide +kernel
theorem dX12_sums_53 : decode cX12_sums 53 = .ok (.return_, 1) := by decide +kernel
theorem dX12_tests_0 : decode cX12_tests 0 = .ok (.aload_n 0, 1) := by decide +kernel
theorem dX12_tests_1 : decode cX12_tests 1 = .ok (.iload_n 1, 1) := by decide +kernel
theorem dX12_tests_2 : decode cX12_tests 2 = .ok (.invokevirtual 256, 3) := by decide +kernel
theorem dX12_tests_5 : decode cX12_tests 5 = .ok (.aload_n 0, 1) := by decide +kernel
theorem dX12_tests_6 : decode cX12_tests 6 = .ok (.getfield 75, 3) := by decide +kernel
theorem dX12_tests_9 : decode cX12_tests 9 = .ok (.iload_n 1, 1) := by decide +kernel
theorem dX12_tests_10 : decode cX12_tests 10 = .ok (.iaload, 1) := by decide +kernel
theorem dX12_tests_11 : decode cX12_tests 11 = .ok (.istore_n 2, 1) := by decide +kernel
theorem dX12_tests_12 : decode cX12_tests 12 = .ok (.aload_n 0, 1) := by decide +kernel
theorem dX12_tests_13 : decode cX12_tests 13 = .ok (.getfield 72, 3) := by decide +kernel
theorem dX12_tests_16 : decode cX12_tests 16 = .ok (.iload_n 1, 1) := by decide +kernel
theorem dX12_tests_17 : decode cX12_tests 17 = .ok (.iaload, 1) := by decide +kernel
theorem dX12_tests_18 : decode cX12_tests 18 = .ok (.bipush 24, 2) := by decide +kernel
theorem dX12_tests_20 : decode cX12_tests 20 = .ok (.if_icmp .ne 24, 3) := by decide +kernel
theorem dX12_tests_23 : decode cX12_tests 23 = .ok (.aload_n 0, 1) := by decide +kernel
theorem dX12_tests_24 : decode cX12_tests 24 = .ok (.getfield 69, 3) := by decide +kernel
theorem dX12_tests_27 : decode cX12_tests 27 = .ok (.iload_n 1, 1) := by decide +kernel
theorem dX12_tests_28 : decode cX12_tests 28 = .ok (.iaload, 1) := by decide +kernel
theorem dX12_tests_29 : decode cX12_tests 29 = .ok (.aload_n 0, 1) := by decide +kernel
theorem dX12_tests_30 : decode cX12_tests 30 = .ok (.getfield 75, 3) := by decide +kernel
theorem dX12_tests_33 : decode cX12_tests 33 = .ok (.iload_n 1, 1) := by decide +kernel
theorem dX12_tests_34 : decode cX12_tests 34 = .ok (.iaload, 1) := by decide +kernel
theorem dX12_tests_35 : decode cX12_tests 35 = .ok (.if_icmp .ge 7, 3) := by decide +kernel
theorem dX12_tests_38 : decode cX12_tests 38 = .ok (.iconst 1, 1) := by decide +kernel
theorem dX12_tests_39 : decode cX12_tests 39 = .ok (.goto 4, 3) := by decide +kernel
theorem dX12_tests_42 : decode cX12_tests 42 = .ok (.iconst 0, 1) := by decide +kernel
theorem dX12_tests_43 : decode cX12_tests 43 = .ok (.istore_n 2, 1) := by decide +kernel
theorem dX12_tests_44 : decode cX12_tests 44 = .ok (.aload_n 0, 1) := by decide +kernel
theorem dX12_tests_45 : decode cX12_tests 45 = .ok (.getfield 72, 3) := by decide +kernel
theorem dX12_tests_48 : decode cX12_tests 48 = .ok (.iload_n 1, 1) := by decide +kernel
theorem dX12_tests_49 : decode cX12_tests 49 = .ok (.iaload, 1) := by decide +kernel
theorem dX12_tests_50 : decode cX12_tests 50 = .ok (.bipush 25, 2) := by decide +kernel
theorem dX12_tests_52 : decode cX12_tests 52 = .ok (.if_icmp .ne 24, 3) := by decide +kernel
theorem dX12_tests_55 : decode cX12_tests 55 = .ok (.aload_n 0, 1) := by decide +kernel
theorem dX12_tests_56 : decode cX12_tests 56 = .ok (.getfield 69, 3) := by decide +kernel
theorem dX12_tests_59 : decode cX12_tests 59 = .ok (.iload_n 1, 1) := by decide +kernel
theorem dX12_tests_60 : decode cX12_tests 60 = .ok (.iaload, 1) := by decide +kernel
theorem dX12_tests_61 : decode cX12_tests 61 = .ok (.aload_n 0, 1) := by decide +kernel
theorem dX12_tests_62 : decode cX12_tests 62 = .ok (.getfield 75, 3) := by decide +kernel
theorem dX12_tests_65 : decode cX12_tests 65 = .ok (.iload_n 1, 1) := by decide +kernel
theorem dX12_tests_66 : decode cX12_tests 66 = .ok (.iaload, 1) := by decide +kernel
theorem dX12_tests_67 : decode cX12_tests 67 = .ok (.if_icmp .ne 7, 3) := by decide +kernel
theorem dX12_tests_70 : decode cX12_tests 70 = .ok (.iconst 1, 1) := by decide +kernel
theorem dX12_tests_71 : decode cX12_tests 71 = .ok (.goto 4, 3) := by decide +kernel
theorem dX12_tests_74 : decode cX12_tests 74 = .ok (.iconst 0, 1) := by decide +kernel
theorem dX12_tests_75 : decode cX12_tests 75 = .ok (.istore_n 2, 1) := by decide +kernel
theorem dX12_tests_76 : decode cX12_tests 76 = .ok (.aload_n 0, 1) := by decide +kernel
theorem dX12_tests_77 : decode cX12_tests 77 = .ok (.getfield 66, 3) := by decide +kernel
theorem dX12_tests_80 : decode cX12_tests 80 = .ok (.iload_n 1, 1) := by decide +kernel
theorem dX12_tests_81 : decode cX12_tests 81 = .ok (.iaload, 1) := by decide +kernel
theorem dX12_tests_82 : decode cX12_tests 82 = .ok (.bipush 26, 2) := by decide +kernel
theorem dX12_tests_84 : decode cX12_tests 84 = .ok (.if_icmp .ne 22, 3) := by decide +kernel
theorem dX12_tests_87 : decode cX12_tests 87 = .ok (.aload_n 0, 1) := by decide +kernel
theorem dX12_tests_88 : decode cX12_tests 88 = .ok (.getfield 63, 3) := by decide +kernel
theorem dX12_tests_91 : decode cX12_tests 91 = .ok (.iload_n 1, 1) := by decide +kernel
theorem dX12_tests_92 : decode cX12_tests 92 = .ok (.iaload, 1) := by decide +kernel
theorem dX12_tests_93 : decode cX12_tests 93 = .ok (.ifCond .eq 11, 3) := by decide +kernel
theorem dX12_tests_96 : decode cX12_tests 96 = .ok (.iload_n 2, 1) := by decide +kernel
theorem dX12_tests_97 : decode cX12_tests 97 = .ok (.ifCond .eq 7, 3) := by decide +kernel
theorem dX12_tests_100 : decode cX12_tests 100 = .ok (.iconst 1, 1) := by decide +kernel
theorem dX12_tests_101 : decode cX12_tests 101 = .ok (.goto 4, 3) := by decide +kernel
theorem dX12_tests_104 : decode cX12_tests 104 = .ok (.iconst 0, 1) := by decide +kernel
theorem dX12_tests_105 : decode cX12_tests 105 = .ok (.istore_n 2, 1) := by decide +kernel
theorem dX12_tests_106 : decode cX12_tests 106 = .ok (.aload_n 0, 1) := by decide +kernel
theorem dX12_tests_107 : decode cX12_tests 107 = .ok (.getfield 66, 3) := by decide +kernel
theorem dX12_tests_110 : decode cX12_tests 110 = .ok (.iload_n 1, 1) := by decide +kernel
theorem dX12_tests_111 : decode cX12_tests 111 = .ok (.iaload, 1) := by decide +kernel
theorem dX12_tests_112 : decode cX12_tests 112 = .ok (.bipush 27, 2) := by decide +kernel
theorem dX12_tests_114 : decode cX12_tests 114 = .ok (.if_icmp .ne 22, 3) := by decide +kernel
theorem dX12_tests_117 : decode cX12_tests 117 = .ok (.aload_n 0, 1) := by decide +kernel
theorem dX12_tests_118 : decode cX12_tests 118 = .ok (.getfield 63, 3) := by decide +kernel
theorem dX12_tests_121 : decode cX12_tests 121 = .ok (.iload_n 1, 1) := by decide +kernel
theorem dX12_tests_122 : decode cX12_tests 122 = .ok (.iaload, 1) := by decide +kernel
theorem dX12_tests_123 : decode cX12_tests 123 = .ok (.ifCond .ne 7, 3) := by decide +kernel
theorem dX12_tests_126 : decode cX12_tests 126 = .ok (.iload_n 2, 1) := by decide +kernel
theorem dX12_tests_127 : decode cX12_tests 127 = .ok (.ifCond .eq 7, 3) := by decide +kernel
theorem dX12_tests_130 : decode cX12_tests 130 = .ok (.iconst 1, 1) := by decide +kernel
theorem dX12_tests_131 : decode cX12_tests 131 = .ok (.goto 4, 3) := by decide +kernel
theorem dX12_tests_134 : decode cX12_tests 134 = .ok (.iconst 0, 1) := by decide +kernel
theorem dX12_tests_135 : decode cX12_tests 135 = .ok (.istore_n 2, 1) := by decide +kernel
theorem dX12_tests_136 : decode cX12_tests 136 = .ok (.aload_n 0, 1) := by decide +kernel
theorem dX12_tests_137 : decode cX12_tests 137 = .ok (.getfield 63, 3) := by decide +kernel
theorem dX12_tests_140 : decode cX12_tests 140 = .ok (.iload_n 1, 1) := by decide +kernel
theorem dX12_tests_141 : decode cX12_tests 141 = .ok (.iload_n 2, 1) := by decide +kernel
theorem dX12_tests_142 : decode cX12_tests 142 = .ok (.iastore, 1) := by decide +kernel
theorem dX12_tests_143 : decode cX12_tests 143 = .ok (.aload_n 0, 1) := by decide +kernel
theorem dX12_tests_144 : decode cX12_tests 144 = .ok (.getfield 72, 3) := by decide +kernel
theorem dX12_tests_147 : decode cX12_tests 147 = .ok (.iload_n 1, 1) := by decide +kernel
theorem dX12_tests_148 : decode cX12_tests 148 = .ok (.iconst 0, 1) := by decide +kernel
theorem dX12_tests_149 : decode cX12_tests 149 = .ok (.iastore, 1) := by decide +kernel
theorem dX12_tests_150 : decode cX12_tests 150 = .ok (.aload_n 0, 1) := by decide +kernel
theorem dX12_tests_151 : decode cX12_tests 151 = .ok (.getfield 75, 3) := by decide +kernel
theorem dX12_tests_154 : decode cX12_tests 154 = .ok (.iload_n 1, 1) := by decide +kernel
theorem dX12_tests_155 : decode cX12_tests 155 = .ok (.iconst 0, 1) := by decide +kernel
theorem dX12_tests_156 : decode cX12_tests 156 = .ok (.iastore, 1) := by decide +kernel
theorem dX12_tests_157 : decode cX12_tests 157 = .ok (.aload_n 0, 1) := by decide +kernel
theorem dX12_tests_158 : decode cX12_tests 158 = .ok (.getfield 78, 3) := by decide +kernel
theorem dX12_tests_161 : decode cX12_tests 161 = .ok (.iload_n 1, 1) := by decide +kernel
theorem dX12_tests_162 : decode cX12_tests 162 = .ok (.bipush 20, 2) := by decide +kernel
theorem dX12_tests_164 : decode cX12_tests 164 = .ok (.iastore, 1) := by decide +kernel
theorem dX12_tests_165 : decode cX12_tests 165 = .ok (.return_, 1) := by decide +kernel
theorem dX12_worked_0 : decode cX12_worked 0 = .ok (.iconst 0, 1) := by decide +kernel
theorem dX12_worked_1 : decode cX12_worked 1 = .ok (.istore_n 2, 1) := by decide +kernel
theorem dX12_worked_2 : decode cX12_worked 2 = .ok (.aload_n 0, 1) := by decide +kernel
theorem dX12_worked_3 : decode cX12_worked 3 = .ok (.iconst 0, 1) := by decide +kernel
theorem dX12_worked_4 : decode cX12_worked 4 = .ok (.invokevirtual 259, 3) := by decide +kernel
theorem dX12_worked_7 : decode cX12_worked 7 = .ok (.aload_n 0, 1) := by decide +kernel
theorem dX12_worked_8 : decode cX12_worked 8 = .ok (.getfield 47, 3) := by decide +kernel
theorem dX12_worked_11 : decode cX12_worked 11 = .ok (.iload_n 1, 1) := by decide +kernel
theorem dX12_worked_12 : decode cX12_worked 12 = .ok (.iaload, 1) := by decide +kernel
theorem dX12_worked_13 : decode cX12_worked 13 = .ok (.istore_n 3, 1) := by decide +kernel
theorem dX12_worked_14 : decode cX12_worked 14 = .ok (.iload_n 3, 1) := by decide +kernel
theorem dX12_worked_15 : decode cX12_worked 15 = .ok (.aload_n 0, 1) := by decide +kernel
theorem dX12_worked_16 : decode cX12_worked 16 = .ok (.getfield 50, 3) := by decide +kernel
theorem dX12_worked_19 : decode cX12_worked 19 = .ok (.iload_n 1, 1) := by decide +kernel
theorem dX12_worked_20 : decode cX12_worked 20 = .ok (.iaload, 1) := by decide +kernel
theorem dX12_worked_21 : decode cX12_worked 21 = .ok (.if_icmp .ge 314, 3) := by decide +kernel
theorem dX12_worked_24 : decode cX12_worked 24 = .ok (.aload_n 0, 1) := by decide +kernel
theorem dX12_worked_25 : decode cX12_worked 25 = .ok (.getfield 53, 3) := by decide +kernel
theorem dX12_worked_28 : decode cX12_worked 28 = .ok (.iload_n 3, 1) := by decide +kernel
theorem dX12_worked_29 : decode cX12_worked 29 = .ok (.iaload, 1) := by decide +kernel
theorem dX12_worked_30 : decode cX12_worked 30 = .ok (.istore 4, 2) := by decide +kernel
theorem dX12_worked_32 : decode cX12_worked 32 = .ok (.iload 4, 2) := by decide +kernel
theorem dX12_worked_34 : decode cX12_worked 34 = .ok (.bipush 28, 2) := by decide +kernel
theorem dX12_worked_36 : decode cX12_worked 36 = .ok (.if_icmp .eq 10, 3) := by decide +kernel
theorem dX12_worked_39 : decode cX12_worked 39 = .ok (.iload 4, 2) := by decide +kernel
theorem dX12_worked_41 : decode cX12_worked 41 = .ok (.bipush 30, 2) := by decide +kernel
theorem dX12_worked_43 : decode cX12_worked 43 = .ok (.if_icmp .ne 32, 3) := by decide +kernel
theorem dX12_worked_46 : decode cX12_worked 46 = .ok (.iinc 2 1, 3) := by decide +kernel
theorem dX12_worked_49 : decode cX12_worked 49 = .ok (.aload_n 0, 1) := by decide +kernel
theorem dX12_worked_50 : decode cX12_worked 50 = .ok (.getfield 87, 3) := by decide +kernel
theorem dX12_worked_53 : decode cX12_worked 53 = .ok (.iload_n 2, 1) := by decide +kernel
theorem dX12_worked_54 : decode cX12_worked 54 = .ok (.iload 4, 2) := by decide +kernel
theorem dX12_worked_56 : decode cX12_worked 56 = .ok (.bipush 30, 2) := by decide +kernel
theorem dX12_worked_58 : decode cX12_worked 58 = .ok (.if_icmp .ne 7, 3) := by decide +kernel
theorem dX12_worked_61 : decode cX12_worked 61 = .ok (.iconst 1, 1) := by decide +kernel
theorem dX12_worked_62 : decode cX12_worked 62 = .ok (.goto 4, 3) := by decide +kernel
theorem dX12_worked_65 : decode cX12_worked 65 = .ok (.iconst 0, 1) := by decide +kernel
theorem dX12_worked_66 : decode cX12_worked 66 = .ok (.iastore, 1) := by decide +kernel
theorem dX12_worked_67 : decode cX12_worked 67 = .ok (.aload_n 0, 1) := by decide +kernel
theorem dX12_worked_68 : decode cX12_worked 68 = .ok (.iload_n 2, 1) := by decide +kernel
theorem dX12_worked_69 : decode cX12_worked 69 = .ok (.invokevirtual 259, 3) := by decide +kernel
theorem dX12_worked_72 : decode cX12_worked 72 = .ok (.goto 257, 3) := by decide +kernel
theorem dX12_worked_75 : decode cX12_worked 75 = .ok (.iload 4, 2) := by decide +kernel
theorem dX12_worked_77 : decode cX12_worked 77 = .ok (.bipush 20, 2) := by decide +kernel
theorem dX12_worked_79 : decode cX12_worked 79 = .ok (.if_icmp .eq 10, 3) := by decide +kernel
theorem dX12_worked_82 : decode cX12_worked 82 = .ok (.iload 4, 2) := by decide +kernel
theorem dX12_worked_84 : decode cX12_worked 84 = .ok (.bipush 21, 2) := by decide +kernel
theorem dX12_worked_86 : decode cX12_worked 86 = .ok (.if_icmp .ne 19, 3) := by decide +kernel
theorem dX12_worked_89 : decode cX12_worked 89 = .ok (.aload_n 0, 1) := by decide +kernel
theorem dX12_worked_90 : decode cX12_worked 90 = .ok (.iload_n 2, 1) := by decide +kernel
theorem dX12_worked_91 : decode cX12_worked 91 = .ok (.invokevirtual 256, 3) := by decide +kernel
theorem dX12_worked_94 : decode cX12_worked 94 = .ok (.aload_n 0, 1) := by decide +kernel
theorem dX12_worked_95 : decode cX12_worked 95 = .ok (.getfield 78, 3) := by decide +kernel
theorem dX12_worked_98 : decode cX12_worked 98 = .ok (.iload_n 2, 1) := by decide +kernel
theorem dX12_worked_99 : decode cX12_worked 99 = .ok (.iload 4, 2) := by decide +kernel
theorem dX12_worked_101 : decode cX12_worked 101 = .ok (.iastore, 1) := by decide +kernel
theorem dX12_worked_102 : decode cX12_worked 102 = .ok (.goto 227, 3) := by decide +kernel
theorem dX12_worked_105 : decode cX12_worked 105 = .ok (.iload 4, 2) := by decide +kernel
theorem dX12_worked_107 : decode cX12_worked 107 = .ok (.bipush 22, 2) := by decide +kernel
theorem dX12_worked_109 : decode cX12_worked 109 = .ok (.if_icmp .ne 14, 3) := by decide +kernel
theorem dX12_worked_112 : decode cX12_worked 112 = .ok (.aload_n 0, 1) := by decide +kernel
theorem dX12_worked_113 : decode cX12_worked 113 = .ok (.getfield 84, 3) := by decide +kernel
theorem dX12_worked_116 : decode cX12_worked 116 = .ok (.iload_n 2, 1) := by decide +kernel
theorem dX12_worked_117 : decode cX12_worked 117 = .ok (.iload 4, 2) := by decide +kernel
theorem dX12_worked_119 : decode cX12_worked 119 = .ok (.iastore, 1) := by decide +kernel
theorem dX12_worked_120 : decode cX12_worked 120 = .ok (.goto 209, 3) := by decide +kernel
theorem dX12_worked_123 : decode cX12_worked 123 = .ok (.iload 4, 2) := by decide +kernel
theorem dX12_worked_125 : decode cX12_worked 125 = .ok (.bipush 24, 2) := by decide +kernel
theorem dX12_worked_127 : decode cX12_worked 127 = .ok (.if_icmp .eq 10, 3) := by decide +kernel
theorem dX12_worked_130 : decode cX12_worked 130 = .ok (.iload 4, 2) := by decide +kernel
theorem dX12_worked_132 : decode cX12_worked 132 = .ok (.bipush 25, 2) := by decide +kernel
theorem dX12_worked_134 : decode cX12_worked 134 = .ok (.if_icmp .ne 46, 3) := by decide +kernel
theorem dX12_worked_137 : decode cX12_worked 137 = .ok (.aload_n 0, 1) := by decide +kernel
theorem dX12_worked_138 : decode cX12_worked 138 = .ok (.iload_n 2, 1) := by decide +kernel
theorem dX12_worked_139 : decode cX12_worked 139 = .ok (.invokevirtual 256, 3) := by decide +kernel
theorem dX12_worked_142 : decode cX12_worked 142 = .ok (.aload_n 0, 1) := by decide +kernel
theorem dX12_worked_143 : decode cX12_worked 143 = .ok (.getfield 69, 3) := by decide +kernel
theorem dX12_worked_146 : decode cX12_worked 146 = .ok (.iload_n 2, 1) := by decide +kernel
theorem dX12_worked_147 : decode cX12_worked 147 = .ok (.aload_n 0, 1) := by decide +kernel
theorem dX12_worked_148 : decode cX12_worked 148 = .ok (.getfield 75, 3) := by decide +kernel
theorem dX12_worked_151 : decode cX12_worked 151 = .ok (.iload_n 2, 1) := by decide +kernel
theorem dX12_worked_152 : decode cX12_worked 152 = .ok (.iaload, 1) := by decide +kernel
theorem dX12_worked_153 : decode cX12_worked 153 = .ok (.iastore, 1) := by decide +kernel
theorem dX12_worked_154 : decode cX12_worked 154 = .ok (.aload_n 0, 1) := by decide +kernel
theorem dX12_worked_155 : decode cX12_worked 155 = .ok (.getfield 72, 3) := by decide +kernel
theorem dX12_worked_158 : decode cX12_worked 158 = .ok (.iload_n 2, 1) := by decide +kernel
theorem dX12_worked_159 : decode cX12_worked 159 = .ok (.iload 4, 2) := by decide +kernel
theorem dX12_worked_161 : decode cX12_worked 161 = .ok (.iastore, 1) := by decide +kernel
theorem dX12_worked_162 : decode cX12_worked 162 = .ok (.aload_n 0, 1) := by decide +kernel
theorem dX12_worked_163 : decode cX12_worked 163 = .ok (.getfield 75, 3) := by decide +kernel
theorem dX12_worked_166 : decode cX12_worked 166 = .ok (.iload_n 2, 1) := by decide +kernel
theorem dX12_worked_167 : decode cX12_worked 167 = .ok (.iconst 0, 1) := by decide +kernel
theorem dX12_worked_168 : decode cX12_worked 168 = .ok (.iastore, 1) := by decide +kernel
theorem dX12_worked_169 : decode cX12_worked 169 = .ok (.aload_n 0, 1) := by decide +kernel
theorem dX12_worked_170 : decode cX12_worked 170 = .ok (.getfield 78, 3) := by decide +kernel
theorem dX12_worked_173 : decode cX12_worked 173 = .ok (.iload_n 2, 1) := by decide +kernel
theorem dX12_worked_174 : decode cX12_worked 174 = .ok (.bipush 20, 2) := by decide +kernel
theorem dX12_worked_176 : decode cX12_worked 176 = .ok (.iastore, 1) := by decide +kernel
theorem dX12_worked_177 : decode cX12_worked 177 = .ok (.goto 152, 3) := by decide +kernel
theorem dX12_worked_180 : decode cX12_worked 180 = .ok (.iload 4, 2) := by decide +kernel
theorem dX12_worked_182 : decode cX12_worked 182 = .ok (.bipush 26, 2) := by decide +kernel
theorem dX12_worked_184 : decode cX12_worked 184 = .ok (.if_icmp .eq 10, 3) := by decide +kernel
theorem dX12_worked_187 : decode cX12_worked 187 = .ok (.iload 4, 2) := by decide +kernel
theorem dX12_worked_189 : decode cX12_worked 189 = .ok (.bipush 27, 2) := by decide +kernel
theorem dX12_worked_191 : decode cX12_worked 191 = .ok (.if_icmp .ne 19, 3) := by decide +kernel
theorem dX12_worked_194 : decode cX12_worked 194 = .ok (.aload_n 0, 1) := by decide +kernel
theorem dX12_worked_195 : decode cX12_worked 195 = .ok (.iload_n 2, 1) := by decide +kernel
theorem dX12_worked_196 : decode cX12_worked 196 = .ok (.invokevirtual 262, 3) := by decide +kernel
theorem dX12_worked_199 : decode cX12_worked 199 = .ok (.aload_n 0, 1) := by decide +kernel
theorem dX12_worked_200 : decode cX12_worked 200 = .ok (.getfield 66, 3) := by decide +kernel
theorem dX12_worked_203 : decode cX12_worked 203 = .ok (.iload_n 2, 1) := by decide +kernel
theorem dX12_worked_204 : decode cX12_worked 204 = .ok (.iload 4, 2) := by decide +kernel
theorem dX12_worked_206 : decode cX12_worked 206 = .ok (.iastore, 1) := by decide +kernel
theorem dX12_worked_207 : decode cX12_worked 207 = .ok (.goto 122, 3) := by decide +kernel
theorem dX12_worked_210 : decode cX12_worked 210 = .ok (.iload 4, 2) := by decide +kernel
theorem dX12_worked_212 : decode cX12_worked 212 = .ok (.bipush 100, 2) := by decide +kernel
theorem dX12_worked_214 : decode cX12_worked 214 = .ok (.if_icmp .lt 11, 3) := by decide +kernel
theorem dX12_worked_217 : decode cX12_worked 217 = .ok (.iload 4, 2) := by decide +kernel
theorem dX12_worked_219 : decode cX12_worked 219 = .ok (.bipush 100, 2) := by decide +kernel
theorem dX12_worked_221 : decode cX12_worked 221 = .ok (.isub, 1) := by decide +kernel
theorem dX12_worked_222 : decode cX12_worked 222 = .ok (.goto 21, 3) := by decide +kernel
theorem dX12_worked_225 : decode cX12_worked 225 = .ok (.iload 4, 2) := by decide +kernel
theorem dX12_worked_227 : decode cX12_worked 227 = .ok (.bipush 20, 2) := by decide +kernel
theorem dX12_worked_229 : decode cX12_worked 229 = .ok (.if_icmp .ge 13, 3) := by decide +kernel
theorem dX12_worked_232 : decode cX12_worked 232 = .ok (.aload_n 0, 1) := by decide +kernel
theorem dX12_worked_233 : decode cX12_worked 233 = .ok (.getfield 90, 3) := by decide +kernel
theorem dX12_worked_236 : decode cX12_worked 236 = .ok (.iload 4, 2) := by decide +kernel
theorem dX12_worked_238 : decode cX12_worked 238 = .ok (.iaload, 1) := by decide +kernel
theorem dX12_worked_239 : decode cX12_worked 239 = .ok (.goto 4, 3) := by decide +kernel
theorem dX12_worked_242 : decode cX12_worked 242 = .ok (.iconst 0, 1) := by decide +kernel
theorem dX12_worked_243 : decode cX12_worked 243 = .ok (.istore 5, 2) := by decide +kernel
theorem dX12_worked_245 : decode cX12_worked 245 = .ok (.iload 4, 2) := by decide +kernel
theorem dX12_worked_247 : decode cX12_worked 247 = .ok (.bipush 29, 2) := by decide +kernel
theorem dX12_worked_249 : decode cX12_worked 249 = .ok (.if_icmp .ne 19, 3) := by decide +kernel
theorem dX12_worked_252 : decode cX12_worked 252 = .ok (.aload_n 0, 1) := by decide +kernel
theorem dX12_worked_253 : decode cX12_worked 253 = .ok (.iload_n 2, 1) := by decide +kernel
theorem dX12_worked_254 : decode cX12_worked 254 = .ok (.invokevirtual 262, 3) := by decide +kernel
theorem dX12_worked_257 : decode cX12_worked 257 = .ok (.aload_n 0, 1) := by decide +kernel
theorem dX12_worked_258 : decode cX12_worked 258 = .ok (.getfield 63, 3) := by decide +kernel
theorem dX12_worked_261 : decode cX12_worked 261 = .ok (.iload_n 2, 1) := by decide +kernel
theorem dX12_worked_262 : decode cX12_worked 262 = .ok (.iaload, 1) := by decide +kernel
theorem dX12_worked_263 : decode cX12_worked 263 = .ok (.istore 5, 2) := by decide +kernel
theorem dX12_worked_265 : decode cX12_worked 265 = .ok (.iinc 2 (-1), 3) := by decide +kernel
theorem dX12_worked_268 : decode cX12_worked 268 = .ok (.iload_n 2, 1) := by decide +kernel
theorem dX12_worked_269 : decode cX12_worked 269 = .ok (.ifCond .le 31, 3) := by decide +kernel
theorem dX12_worked_272 : decode cX12_worked 272 = .ok (.aload_n 0, 1) := by decide +kernel
theorem dX12_worked_273 : decode cX12_worked 273 = .ok (.getfield 87, 3) := by decide +kernel
theorem dX12_worked_276 : decode cX12_worked 276 = .ok (.iload_n 2, 1) := by decide +kernel
theorem dX12_worked_277 : decode cX12_worked 277 = .ok (.iaload, 1) := by decide +kernel
theorem dX12_worked_278 : decode cX12_worked 278 = .ok (.iconst 1, 1) := by decide +kernel
theorem dX12_worked_279 : decode cX12_worked 279 = .ok (.if_icmp .ne 21, 3) := by decide +kernel
theorem dX12_worked_282 : decode cX12_worked 282 = .ok (.iload 5, 2) := by decide +kernel
theorem dX12_worked_284 : decode cX12_worked 284 = .ok (.ifCond .ne 7, 3) := by decide +kernel
theorem dX12_worked_287 : decode cX12_worked 287 = .ok (.iconst 1, 1) := by decide +kernel
theorem dX12_worked_288 : decode cX12_worked 288 = .ok (.goto 4, 3) := by decide +kernel
theorem dX12_worked_291 : decode cX12_worked 291 = .ok (.iconst 0, 1) := by decide +kernel
theorem dX12_worked_292 : decode cX12_worked 292 = .ok (.istore 5, 2) := by decide +kernel
theorem dX12_worked_294 : decode cX12_worked 294 = .ok (.iinc 2 (-1), 3) := by decide +kernel
theorem dX12_worked_297 : decode cX12_worked 297 = .ok (.goto (-29), 3) := by decide +kernel
theorem dX12_worked_300 : decode cX12_worked 300 = .ok (.aload_n 0, 1) := by decide +kernel
theorem dX12_worked_301 : decode cX12_worked 301 = .ok (.getfield 81, 3) := by decide +kernel
theorem dX12_worked_304 : decode cX12_worked 304 = .ok (.iload_n 2, 1) := by decide +kernel
theorem dX12_worked_305 : decode cX12_worked 305 = .ok (.aload_n 0, 1) := by decide +kernel
theorem dX12_worked_306 : decode cX12_worked 306 = .ok (.getfield 84, 3) := by decide +kernel
theorem dX12_worked_309 : decode cX12_worked 309 = .ok (.iload_n 2, 1) := by decide +kernel
theorem dX12_worked_310 : decode cX12_worked 310 = .ok (.iaload, 1) := by decide +kernel
theorem dX12_worked_311 : decode cX12_worked 311 = .ok (.ifCond .ne 8, 3) := by decide +kernel
theorem dX12_worked_314 : decode cX12_worked 314 = .ok (.iload 5, 2) := by decide +kernel
theorem dX12_worked_316 : decode cX12_worked 316 = .ok (.goto 12, 3) := by decide +kernel
theorem dX12_worked_319 : decode cX12_worked 319 = .ok (.aload_n 0, 1) := by decide +kernel
theorem dX12_worked_320 : decode cX12_worked 320 = .ok (.getfield 81, 3) := by decide +kernel
theorem dX12_worked_323 : decode cX12_worked 323 = .ok (.iload_n 2, 1) := by decide +kernel
theorem dX12_worked_324 : decode cX12_worked 324 = .ok (.iaload, 1) := by decide +kernel
theorem dX12_worked_325 : decode cX12_worked 325 = .ok (.iload 5, 2) := by decide +kernel
theorem dX12_worked_327 : decode cX12_worked 327 = .ok (.imul, 1) := by decide +kernel
theorem dX12_worked_328 : decode cX12_worked 328 = .ok (.iastore, 1) := by decide +kernel
theorem dX12_worked_329 : decode cX12_worked 329 = .ok (.iinc 3 1, 3) := by decide +kernel
theorem dX12_worked_332 : decode cX12_worked 332 = .ok (.goto (-318), 3) := by decide +kernel
theorem dX12_worked_335 : decode cX12_worked 335 = .ok (.aload_n 0, 1) := by decide +kernel
theorem dX12_worked_336 : decode cX12_worked 336 = .ok (.iconst 0, 1) := by decide +kernel
theorem dX12_worked_337 : decode cX12_worked 337 = .ok (.invokevirtual 262, 3) := by decide +kernel
theorem dX12_worked_340 : decode cX12_worked 340 = .ok (.aload_n 0, 1) := by decide +kernel
theorem dX12_worked_341 : decode cX12_worked 341 = .ok (.getfield 63, 3) := by decide +kernel
theorem dX12_worked_344 : decode cX12_worked 344 = .ok (.iconst 0, 1) := by decide +kernel
theorem dX12_worked_345 : decode cX12_worked 345 = .ok (.iaload, 1) := by decide +kernel
theorem dX12_worked_346 : decode cX12_worked 346 = .ok (.ireturn, 1) := by decide +kernel
theorem dX12_isKept_0 : decode cX12_isKept 0 = .ok (.aload_n 0, 1) := by decide +kernel
theorem dX12_isKept_1 : decode cX12_isKept 1 = .ok (.getfield 196, 3) := by decide +kernel
theorem dX12_isKept_4 : decode cX12_isKept 4 = .ok (.iconst 1, 1) := by decide +kernel
theorem dX12_isKept_5 : decode cX12_isKept 5 = .ok (.if_icmp .eq 5, 3) := by decide +kernel
theorem dX12_isKept_8 : decode cX12_isKept 8 = .ok (.iconst 1, 1) := by decide +kernel
theorem dX12_isKept_9 : decode cX12_isKept 9 = .ok (.ireturn, 1) := by decide +kernel
theorem dX12_isKept_10 : decode cX12_isKept 10 = .ok (.aload_n 0, 1) := by decide +kernel
theorem dX12_isKept_11 : decode cX12_isKept 11 = .ok (.getfield 189, 3) := by decide +kernel
theorem dX12_isKept_14 : decode cX12_isKept 14 = .ok (.ldc2_w 265, 3) := by decide +kernel
theorem dX12_isKept_17 : decode cX12_isKept 17 = .ok (.lcmp, 1) := by decide +kernel
theorem dX12_isKept_18 : decode cX12_isKept 18 = .ok (.ifCond .eq 223, 3) := by decide +kernel
theorem dX12_isKept_21 : decode cX12_isKept 21 = .ok (.aload_n 0, 1) := by decide +kernel
theorem dX12_isKept_22 : decode cX12_isKept 22 = .ok (.getfield 189, 3) := by decide +kernel
theorem dX12_isKept_25 : decode cX12_isKept 25 = .ok (.ldc2_w 267, 3) := by decide +kernel
theorem dX12_isKept_28 : decode cX12_isKept 28 = .ok (.lcmp, 1) := by decide +kernel
theorem dX12_isKept_29 : decode cX12_isKept 29 = .ok (.ifCond .eq 212, 3) := by decide +kernel
theorem dX12_isKept_32 : decode cX12_isKept 32 = .ok (.aload_n 0, 1) := by decide +kernel
theorem dX12_isKept_33 : decode cX12_isKept 33 = .ok (.getfield 189, 3) := by decide +kernel
theorem dX12_isKept_36 : decode cX12_isKept 36 = .ok (.ldc2_w 269, 3) := by decide +kernel
theorem dX12_isKept_39 : decode cX12_isKept 39 = .ok (.lcmp, 1) := by decide +kernel
theorem dX12_isKept_40 : decode cX12_isKept 40 = .ok (.ifCond .eq 201, 3) := by decide +kernel
theorem dX12_isKept_43 : decode cX12_isKept 43 = .ok (.aload_n 0, 1) := by decide +kernel
theorem dX12_isKept_44 : decode cX12_isKept 44 = .ok (.getfield 189, 3) := by decide +kernel
theorem dX12_isKept_47 : decode cX12_isKept 47 = .ok (.ldc2_w 271, 3) := by decide +kernel
theorem dX12_isKept_50 : decode cX12_isKept 50 = .ok (.lcmp, 1) := by decide +kernel
theorem dX12_isKept_51 : decode cX12_isKept 51 = .ok (.ifCond .eq 190, 3) := by decide +kernel
theorem dX12_isKept_54 : decode cX12_isKept 54 = .ok (.aload_n 0, 1) := by decide +kernel
theorem dX12_isKept_55 : decode cX12_isKept 55 = .ok (.getfield 189, 3) := by decide +kernel
theorem dX12_isKept_58 : decode cX12_isKept 58 = .ok (.ldc2_w 273, 3) := by decide +kernel
theorem dX12_isKept_61 : decode cX12_isKept 61 = .ok (.lcmp, 1) := by decide +kernel
theorem dX12_isKept_62 : decode cX12_isKept 62 = .ok (.ifCond .eq 179, 3) := by decide +kernel
theorem dX12_isKept_65 : decode cX12_isKept 65 = .ok (.aload_n 0, 1) := by decide +kernel
theorem dX12_isKept_66 : decode cX12_isKept 66 = .ok (.getfield 189, 3) := by decide +kernel
theorem dX12_isKept_69 : decode cX12_isKept 69 = .ok (.ldc2_w 275, 3) := by decide +kernel
theorem dX12_isKept_72 : decode cX12_isKept 72 = .ok (.lcmp, 1) := by decide +kernel
theorem dX12_isKept_73 : decode cX12_isKept 73 = .ok (.ifCond .eq 168, 3) := by decide +kernel
theorem dX12_isKept_76 : decode cX12_isKept 76 = .ok (.aload_n 0, 1) := by decide +kernel
theorem dX12_isKept_77 : decode cX12_isKept 77 = .ok (.getfield 189, 3) := by decide +kernel
theorem dX12_isKept_80 : decode cX12_isKept 80 = .ok (.ldc2_w 277, 3) := by decide +kernel
theorem dX12_isKept_83 : decode cX12_isKept 83 = .ok (.lcmp, 1) := by decide +kernel
theorem dX12_isKept_84 : decode cX12_isKept 84 = .ok (.ifCond .eq 157, 3) := by decide +kernel
theorem dX12_isKept_87 : decode cX12_isKept 87 = .ok (.aload_n 0, 1) := by decide +kernel
theorem dX12_isKept_88 : decode cX12_isKept 88 = .ok (.getfield 189, 3) := by decide +kernel
theorem dX12_isKept_91 : decode cX12_isKept 91 = .ok (.ldc2_w 279, 3) := by decide +kernel
theorem dX12_isKept_94 : decode cX12_isKept 94 = .ok (.lcmp, 1) := by decide +kernel
theorem dX12_isKept_95 : decode cX12_isKept 95 = .ok (.ifCond .eq 146, 3) := by decide +kernel
theorem dX12_isKept_98 : decode cX12_isKept 98 = .ok (.aload_n 0, 1) := by decide +kernel
theorem dX12_isKept_99 : decode cX12_isKept 99 = .ok (.getfield 189, 3) := by decide +kernel
theorem dX12_isKept_102 : decode cX12_isKept 102 = .ok (.ldc2_w 281, 3) := by decide +kernel
theorem dX12_isKept_105 : decode cX12_isKept 105 = .ok (.lcmp, 1) := by decide +kernel
theorem dX12_isKept_106 : decode cX12_isKept 106 = .ok (.ifCond .eq 135, 3) := by decide +kernel
theorem dX12_isKept_109 : decode cX12_isKept 109 = .ok (.aload_n 0, 1) := by decide +kernel
theorem dX12_isKept_110 : decode cX12_isKept 110 = .ok (.getfield 189, 3) := by decide +kernel
theorem dX12_isKept_113 : decode cX12_isKept 113 = .ok (.ldc2_w 283, 3) := by decide +kernel
theorem dX12_isKept_116 : decode cX12_isKept 116 = .ok (.lcmp, 1) := by decide +kernel
theorem dX12_isKept_117 : decode cX12_isKept 117 = .ok (.ifCond .eq 124, 3) := by decide +kernel
theorem dX12_isKept_120 : decode cX12_isKept 120 = .ok (.aload_n 0, 1) := by decide +kernel
theorem dX12_isKept_121 : decode cX12_isKept 121 = .ok (.getfield 189, 3) := by decide +kernel
theorem dX12_isKept_124 : decode cX12_isKept 124 = .ok (.ldc2_w 285, 3) := by decide +kernel
theorem dX12_isKept_127 : decode cX12_isKept 127 = .ok (.lcmp, 1) := by decide +kernel
theorem dX12_isKept_128 : decode cX12_isKept 128 = .ok (.ifCond .eq 113, 3) := by decide +kernel
theorem dX12_isKept_131 : decode cX12_isKept 131 = .ok (.aload_n 0, 1) := by decide +kernel
theorem dX12_isKept_132 : decode cX12_isKept 132 = .ok (.getfield 189, 3) := by decide +kernel
theorem dX12_isKept_135 : decode cX12_isKept 135 = .ok (.ldc2_w 287, 3) := by decide +kernel
theorem dX12_isKept_138 : decode cX12_isKept 138 = .ok (.lcmp, 1) := by decide +kernel
theorem dX12_isKept_139 : decode cX12_isKept 139 = .ok (.ifCond .eq 102, 3) := by decide +kernel
theorem dX12_isKept_142 : decode cX12_isKept 142 = .ok (.aload_n 0, 1) := by decide +kernel
theorem dX12_isKept_143 : decode cX12_isKept 143 = .ok (.getfield 189, 3) := by decide +kernel
theorem dX12_isKept_146 : decode cX12_isKept 146 = .ok (.ldc2_w 289, 3) := by decide +kernel
theorem dX12_isKept_149 : decode cX12_isKept 149 = .ok (.lcmp, 1) := by decide +kernel
theorem dX12_isKept_150 : decode cX12_isKept 150 = .ok (.ifCond .eq 91, 3) := by decide +kernel
theorem dX12_isKept_153 : decode cX12_isKept 153 = .ok (.aload_n 0, 1) := by decide +kernel
theorem dX12_isKept_154 : decode cX12_isKept 154 = .ok (.getfield 189, 3) := by decide +kernel
theorem dX12_isKept_157 : decode cX12_isKept 157 = .ok (.ldc2_w 291, 3) := by decide +kernel
theorem dX12_isKept_160 : decode cX12_isKept 160 = .ok (.lcmp, 1) := by decide +kernel
theorem dX12_isKept_161 : decode cX12_isKept 161 = .ok (.ifCond .eq 80, 3) := by decide +kernel
theorem dX12_isKept_164 : decode cX12_isKept 164 = .ok (.aload_n 0, 1) := by decide +kernel
theorem dX12_isKept_165 : decode cX12_isKept 165 = .ok (.getfield 189, 3) := by decide +kernel
theorem dX12_isKept_168 : decode cX12_isKept 168 = .ok (.ldc2_w 293, 3) := by decide +kernel
theorem dX12_isKept_171 : decode cX12_isKept 171 = .ok (.lcmp, 1) := by decide +kernel
theorem dX12_isKept_172 : decode cX12_isKept 172 = .ok (.ifCond .eq 69, 3) := by decide +kernel
theorem dX12_isKept_175 : decode cX12_isKept 175 = .ok (.aload_n 0, 1) := by decide +kernel
theorem dX12_isKept_176 : decode cX12_isKept 176 = .ok (.getfield 189, 3) := by decide +kernel
theorem dX12_isKept_179 : decode cX12_isKept 179 = .ok (.ldc2_w 295, 3) := by decide +kernel
theorem dX12_isKept_182 : decode cX12_isKept 182 = .ok (.lcmp, 1) := by decide +kernel
theorem dX12_isKept_183 : decode cX12_isKept 183 = .ok (.ifCond .eq 58, 3) := by decide +kernel
theorem dX12_isKept_186 : decode cX12_isKept 186 = .ok (.aload_n 0, 1) := by decide +kernel
theorem dX12_isKept_187 : decode cX12_isKept 187 = .ok (.getfield 189, 3) := by decide +kernel
theorem dX12_isKept_190 : decode cX12_isKept 190 = .ok (.ldc2_w 297, 3) := by decide +kernel
theorem dX12_isKept_193 : decode cX12_isKept 193 = .ok (.lcmp, 1) := by decide +kernel
theorem dX12_isKept_194 : decode cX12_isKept 194 = .ok (.ifCond .eq 47, 3) := by decide +kernel
theorem dX12_isKept_197 : decode cX12_isKept 197 = .ok (.aload_n 0, 1) := by decide +kernel
theorem dX12_isKept_198 : decode cX12_isKept 198 = .ok (.getfield 189, 3) := by decide +kernel
theorem dX12_isKept_201 : decode cX12_isKept 201 = .ok (.ldc2_w 299, 3) := by decide +kernel
theorem dX12_isKept_204 : decode cX12_isKept 204 = .ok (.lcmp, 1) := by decide +kernel
theorem dX12_isKept_205 : decode cX12_isKept 205 = .ok (.ifCond .eq 36, 3) := by decide +kernel
theorem dX12_isKept_208 : decode cX12_isKept 208 = .ok (.aload_n 0, 1) := by decide +kernel
theorem dX12_isKept_209 : decode cX12_isKept 209 = .ok (.getfield 189, 3) := by decide +kernel
theorem dX12_isKept_212 : decode cX12_isKept 212 = .ok (.ldc2_w 232, 3) := by decide +kernel
theorem dX12_isKept_215 : decode cX12_isKept 215 = .ok (.lcmp, 1) := by decide +kernel
theorem dX12_isKept_216 : decode cX12_isKept 216 = .ok (.ifCond .eq 25, 3) := by decide +kernel
theorem dX12_isKept_219 : decode cX12_isKept 219 = .ok (.aload_n 0, 1) := by decide +kernel
theorem dX12_isKept_220 : decode cX12_isKept 220 = .ok (.getfield 189, 3) := by decide +kernel
theorem dX12_isKept_223 : decode cX12_isKept 223 = .ok (.ldc2_w 252, 3) := by decide +kernel
theorem dX12_isKept_226 : decode cX12_isKept 226 = .ok (.lcmp, 1) := by decide +kernel
theorem dX12_isKept_227 : decode cX12_isKept 227 = .ok (.ifCond .eq 14, 3) := by decide +kernel
theorem dX12_isKept_230 : decode cX12_isKept 230 = .ok (.aload_n 0, 1) := by decide +kernel
theorem dX12_isKept_231 : decode cX12_isKept 231 = .ok (.getfield 189, 3) := by decide +kernel
theorem dX12_isKept_234 : decode cX12_isKept 234 = .ok (.ldc2_w 254, 3) := by decide +kernel
theorem dX12_isKept_237 : decode cX12_isKept 237 = .ok (.lcmp, 1) := by decide +kernel
theorem dX12_isKept_238 : decode cX12_isKept 238 = .ok (.ifCond .ne 7, 3) := by decide +kernel
theorem dX12_isKept_241 : decode cX12_isKept 241 = .ok (.iconst 1, 1) := by decide +kernel
theorem dX12_isKept_242 : decode cX12_isKept 242 = .ok (.goto 4, 3) := by decide +kernel
theorem dX12_isKept_245 : decode cX12_isKept 245 = .ok (.iconst 0, 1) := by decide +kernel
theorem dX12_isKept_246 : decode cX12_isKept 246 = .ok (.ireturn, 1) := by decide +kernel
theorem dX12_wigNamed_0 : decode cX12_wigNamed 0 = .ok (.iconst 0, 1) := by decide +kernel
theorem dX12_wigNamed_1 : decode cX12_wigNamed 1 = .ok (.istore_n 2, 1) := by decide +kernel
theorem dX12_wigNamed_2 : decode cX12_wigNamed 2 = .ok (.iload_n 2, 1) := by decide +kernel
theorem dX12_wigNamed_3 : decode cX12_wigNamed 3 = .ok (.aload_n 0, 1) := by decide +kernel
theorem dX12_wigNamed_4 : decode cX12_wigNamed 4 = .ok (.getfield 13, 3) := by decide +kernel
theorem dX12_wigNamed_7 : decode cX12_wigNamed 7 = .ok (.iconst 4, 1) := by decide +kernel
theorem dX12_wigNamed_8 : decode cX12_wigNamed 8 = .ok (.iload_n 1, 1) := by decide +kernel
theorem dX12_wigNamed_9 : decode cX12_wigNamed 9 = .ok (.imul, 1) := by decide +kernel
theorem dX12_wigNamed_10 : decode cX12_wigNamed 10 = .ok (.iconst 0, 1) := by decide +kernel
theorem dX12_wigNamed_11 : decode cX12_wigNamed 11 = .ok (.iadd, 1) := by decide +kernel
theorem dX12_wigNamed_12 : decode cX12_wigNamed 12 = .ok (.iaload, 1) := by decide +kernel
theorem dX12_wigNamed_13 : decode cX12_wigNamed 13 = .ok (.if_icmp .ge 30, 3) := by decide +kernel
theorem dX12_wigNamed_16 : decode cX12_wigNamed 16 = .ok (.aload_n 0, 1) := by decide +kernel
theorem dX12_wigNamed_17 : decode cX12_wigNamed 17 = .ok (.getfield 16, 3) := by decide +kernel
theorem dX12_wigNamed_20 : decode cX12_wigNamed 20 = .ok (.bipush 6, 2) := by decide +kernel
theorem dX12_wigNamed_22 : decode cX12_wigNamed 22 = .ok (.iload_n 1, 1) := by decide +kernel
theorem dX12_wigNamed_23 : decode cX12_wigNamed 23 = .ok (.imul, 1) := by decide +kernel
theorem dX12_wigNamed_24 : decode cX12_wigNamed 24 = .ok (.iload_n 2, 1) := by decide +kernel
theorem dX12_wigNamed_25 : decode cX12_wigNamed 25 = .ok (.iadd, 1) := by decide +kernel
theorem dX12_wigNamed_26 : decode cX12_wigNamed 26 = .ok (.laload, 1) := by decide +kernel
theorem dX12_wigNamed_27 : decode cX12_wigNamed 27 = .ok (.aload_n 0, 1) := by decide +kernel
theorem dX12_wigNamed_28 : decode cX12_wigNamed 28 = .ok (.getfield 189, 3) := by decide +kernel
theorem dX12_wigNamed_31 : decode cX12_wigNamed 31 = .ok (.lcmp, 1) := by decide +kernel
theorem dX12_wigNamed_32 : decode cX12_wigNamed 32 = .ok (.ifCond .ne 5, 3) := by decide +kernel
theorem dX12_wigNamed_35 : decode cX12_wigNamed 35 = .ok (.iload_n 2, 1) := by decide +kernel
theorem dX12_wigNamed_36 : decode cX12_wigNamed 36 = .ok (.ireturn, 1) := by decide +kernel
theorem dX12_wigNamed_37 : decode cX12_wigNamed 37 = .ok (.iinc 2 1, 3) := by decide +kernel
theorem dX12_wigNamed_40 : decode cX12_wigNamed 40 = .ok (.goto (-38), 3) := by decide +kernel
theorem dX12_wigNamed_43 : decode cX12_wigNamed 43 = .ok (.iconst (-1), 1) := by decide +kernel
theorem dX12_wigNamed_44 : decode cX12_wigNamed 44 = .ok (.ireturn, 1) := by decide +kernel
theorem dX12_headNamed_0 : decode cX12_headNamed 0 = .ok (.iconst 0, 1) := by decide +kernel
theorem dX12_headNamed_1 : decode cX12_headNamed 1 = .ok (.istore_n 2, 1) := by decide +kernel
theorem dX12_headNamed_2 : decode cX12_headNamed 2 = .ok (.iload_n 2, 1) := by decide +kernel
theorem dX12_headNamed_3 : decode cX12_headNamed 3 = .ok (.aload_n 0, 1) := by decide +kernel
theorem dX12_headNamed_4 : decode cX12_headNamed 4 = .ok (.getfield 13, 3) := by decide +kernel
theorem dX12_headNamed_7 : decode cX12_headNamed 7 = .ok (.iconst 4, 1) := by decide +kernel
theorem dX12_headNamed_8 : decode cX12_headNamed 8 = .ok (.iload_n 1, 1) := by decide +kernel
theorem dX12_headNamed_9 : decode cX12_headNamed 9 = .ok (.imul, 1) := by decide +kernel
theorem dX12_headNamed_10 : decode cX12_headNamed 10 = .ok (.iconst 1, 1) := by decide +kernel
theorem dX12_headNamed_11 : decode cX12_headNamed 11 = .ok (.iadd, 1) := by decide +kernel
theorem dX12_headNamed_12 : decode cX12_headNamed 12 = .ok (.iaload, 1) := by decide +kernel
theorem dX12_headNamed_13 : decode cX12_headNamed 13 = .ok (.if_icmp .ge 30, 3) := by decide +kernel
theorem dX12_headNamed_16 : decode cX12_headNamed 16 = .ok (.aload_n 0, 1) := by decide +kernel
theorem dX12_headNamed_17 : decode cX12_headNamed 17 = .ok (.getfield 20, 3) := by decide +kernel
theorem dX12_headNamed_20 : decode cX12_headNamed 20 = .ok (.bipush 6, 2) := by decide +kernel
theorem dX12_headNamed_22 : decode cX12_headNamed 22 = .ok (.iload_n 1, 1) := by decide +kernel
theorem dX12_headNamed_23 : decode cX12_headNamed 23 = .ok (.imul, 1) := by decide +kernel
theorem dX12_headNamed_24 : decode cX12_headNamed 24 = .ok (.iload_n 2, 1) := by decide +kernel
theorem dX12_headNamed_25 : decode cX12_headNamed 25 = .ok (.iadd, 1) := by decide +kernel
theorem dX12_headNamed_26 : decode cX12_headNamed 26 = .ok (.laload, 1) := by decide +kernel
theorem dX12_headNamed_27 : decode cX12_headNamed 27 = .ok (.aload_n 0, 1) := by decide +kernel
theorem dX12_headNamed_28 : decode cX12_headNamed 28 = .ok (.getfield 189, 3) := by decide +kernel
theorem dX12_headNamed_31 : decode cX12_headNamed 31 = .ok (.lcmp, 1) := by decide +kernel
theorem dX12_headNamed_32 : decode cX12_headNamed 32 = .ok (.ifCond .ne 5, 3) := by decide +kernel
theorem dX12_headNamed_35 : decode cX12_headNamed 35 = .ok (.iload_n 2, 1) := by decide +kernel
theorem dX12_headNamed_36 : decode cX12_headNamed 36 = .ok (.ireturn, 1) := by decide +kernel
theorem dX12_headNamed_37 : decode cX12_headNamed 37 = .ok (.iinc 2 1, 3) := by decide +kernel
theorem dX12_headNamed_40 : decode cX12_headNamed 40 = .ok (.goto (-38), 3) := by decide +kernel
theorem dX12_headNamed_43 : decode cX12_headNamed 43 = .ok (.iconst (-1), 1) := by decide +kernel
theorem dX12_headNamed_44 : decode cX12_headNamed 44 = .ok (.ireturn, 1) := by decide +kernel
theorem dX12_needsNumber_0 : decode cX12_needsNumber 0 = .ok (.aload_n 0, 1) := by decide +kernel
theorem dX12_needsNumber_1 : decode cX12_needsNumber 1 = .ok (.getfield 196, 3) := by decide +kernel
theorem dX12_needsNumber_4 : decode cX12_needsNumber 4 = .ok (.iconst 2, 1) := by decide +kernel
theorem dX12_needsNumber_5 : decode cX12_needsNumber 5 = .ok (.if_icmp .eq 9, 3) := by decide +kernel
theorem dX12_needsNumber_8 : decode cX12_needsNumber 8 = .ok (.aload_n 0, 1) := by decide +kernel
theorem dX12_needsNumber_9 : decode cX12_needsNumber 9 = .ok (.iconst 1, 1) := by decide +kernel
theorem dX12_needsNumber_10 : decode cX12_needsNumber 10 = .ok (.invokevirtual 242, 3) := by decide +kernel
theorem dX12_needsNumber_13 : decode cX12_needsNumber 13 = .ok (.ireturn, 1) := by decide +kernel
theorem dX12_needsNumber_14 : decode cX12_needsNumber 14 = .ok (.aload_n 0, 1) := by decide +kernel
theorem dX12_needsNumber_15 : decode cX12_needsNumber 15 = .ok (.getfield 193, 3) := by decide +kernel
theorem dX12_needsNumber_18 : decode cX12_needsNumber 18 = .ok (.iload_n 1, 1) := by decide +kernel
theorem dX12_needsNumber_19 : decode cX12_needsNumber 19 = .ok (.iload_n 2, 1) := by decide +kernel
theorem dX12_needsNumber_20 : decode cX12_needsNumber 20 = .ok (.invokestatic 301, 3) := by decide +kernel
theorem dX12_needsNumber_23 : decode cX12_needsNumber 23 = .ok (.ifCond .ne 9, 3) := by decide +kernel
theorem dX12_needsNumber_26 : decode cX12_needsNumber 26 = .ok (.aload_n 0, 1) := by decide +kernel
theorem dX12_needsNumber_27 : decode cX12_needsNumber 27 = .ok (.iconst 4, 1) := by decide +kernel
theorem dX12_needsNumber_28 : decode cX12_needsNumber 28 = .ok (.invokevirtual 242, 3) := by decide +kernel
theorem dX12_needsNumber_31 : decode cX12_needsNumber 31 = .ok (.ireturn, 1) := by decide +kernel
theorem dX12_needsNumber_32 : decode cX12_needsNumber 32 = .ok (.aload_n 0, 1) := by decide +kernel
theorem dX12_needsNumber_33 : decode cX12_needsNumber 33 = .ok (.aload_n 0, 1) := by decide +kernel
theorem dX12_needsNumber_34 : decode cX12_needsNumber 34 = .ok (.getfield 193, 3) := by decide +kernel
theorem dX12_needsNumber_37 : decode cX12_needsNumber 37 = .ok (.putfield 305, 3) := by decide +kernel
theorem dX12_needsNumber_40 : decode cX12_needsNumber 40 = .ok (.aload_n 0, 1) := by decide +kernel
theorem dX12_needsNumber_41 : decode cX12_needsNumber 41 = .ok (.invokevirtual 249, 3) := by decide +kernel
theorem dX12_needsNumber_44 : decode cX12_needsNumber 44 = .ok (.iconst 1, 1) := by decide +kernel
theorem dX12_needsNumber_45 : decode cX12_needsNumber 45 = .ok (.ireturn, 1) := by decide +kernel
theorem dX12_needsWord_0 : decode cX12_needsWord 0 = .ok (.aload_n 0, 1) := by decide +kernel
theorem dX12_needsWord_1 : decode cX12_needsWord 1 = .ok (.lload_n 1, 1) := by decide +kernel
theorem dX12_needsWord_2 : decode cX12_needsWord 2 = .ok (.invokevirtual 234, 3) := by decide +kernel
theorem dX12_needsWord_5 : decode cX12_needsWord 5 = .ok (.ifCond .ne 9, 3) := by decide +kernel
theorem dX12_needsWord_8 : decode cX12_needsWord 8 = .ok (.aload_n 0, 1) := by decide +kernel
theorem dX12_needsWord_9 : decode cX12_needsWord 9 = .ok (.iconst 1, 1) := by decide +kernel
theorem dX12_needsWord_10 : decode cX12_needsWord 10 = .ok (.invokevirtual 242, 3) := by decide +kernel
theorem dX12_needsWord_13 : decode cX12_needsWord 13 = .ok (.ireturn, 1) := by decide +kernel
theorem dX12_needsWord_14 : decode cX12_needsWord 14 = .ok (.aload_n 0, 1) := by decide +kernel
theorem dX12_needsWord_15 : decode cX12_needsWord 15 = .ok (.invokevirtual 249, 3) := by decide +kernel
theorem dX12_needsWord_18 : decode cX12_needsWord 18 = .ok (.iconst 1, 1) := by decide +kernel
theorem dX12_needsWord_19 : decode cX12_needsWord 19 = .ok (.ireturn, 1) := by decide +kernel
theorem dX12_needsBoth_0 : decode cX12_needsBoth 0 = .ok (.aload_n 0, 1) := by decide +kernel
theorem dX12_needsBoth_1 : decode cX12_needsBoth 1 = .ok (.lload_n 1, 1) := by decide +kernel
theorem dX12_needsBoth_2 : decode cX12_needsBoth 2 = .ok (.invokevirtual 308, 3) := by decide +kernel
theorem dX12_needsBoth_5 : decode cX12_needsBoth 5 = .ok (.ifCond .eq 17, 3) := by decide +kernel
theorem dX12_needsBoth_8 : decode cX12_needsBoth 8 = .ok (.aload_n 0, 1) := by decide +kernel
theorem dX12_needsBoth_9 : decode cX12_needsBoth 9 = .ok (.iload_n 3, 1) := by decide +kernel
theorem dX12_needsBoth_10 : decode cX12_needsBoth 10 = .ok (.iload 4, 2) := by decide +kernel
theorem dX12_needsBoth_12 : decode cX12_needsBoth 12 = .ok (.invokevirtual 311, 3) := by decide +kernel
theorem dX12_needsBoth_15 : decode cX12_needsBoth 15 = .ok (.ifCond .eq 7, 3) := by decide +kernel
theorem dX12_needsBoth_18 : decode cX12_needsBoth 18 = .ok (.iconst 1, 1) := by decide +kernel
theorem dX12_needsBoth_19 : decode cX12_needsBoth 19 = .ok (.goto 4, 3) := by decide +kernel
theorem dX12_needsBoth_22 : decode cX12_needsBoth 22 = .ok (.iconst 0, 1) := by decide +kernel
theorem dX12_needsBoth_23 : decode cX12_needsBoth 23 = .ok (.ireturn, 1) := by decide +kernel
theorem dX12_closes_0 : decode cX12_closes 0 = .ok (.aload_n 0, 1) := by decide +kernel
theorem dX12_closes_1 : decode cX12_closes 1 = .ok (.bipush 59, 2) := by decide +kernel
theorem dX12_closes_3 : decode cX12_closes 3 = .ok (.invokevirtual 238, 3) := by decide +kernel
theorem dX12_closes_6 : decode cX12_closes 6 = .ok (.ifCond .ne 9, 3) := by decide +kernel
theorem dX12_closes_9 : decode cX12_closes 9 = .ok (.aload_n 0, 1) := by decide +kernel
theorem dX12_closes_10 : decode cX12_closes 10 = .ok (.iconst 1, 1) := by decide +kernel
theorem dX12_closes_11 : decode cX12_closes 11 = .ok (.invokevirtual 242, 3) := by decide +kernel
theorem dX12_closes_14 : decode cX12_closes 14 = .ok (.ireturn, 1) := by decide +kernel
theorem dX12_closes_15 : decode cX12_closes 15 = .ok (.aload_n 0, 1) := by decide +kernel
theorem dX12_closes_16 : decode cX12_closes 16 = .ok (.invokevirtual 249, 3) := by decide +kernel
theorem dX12_closes_19 : decode cX12_closes 19 = .ok (.iconst 1, 1) := by decide +kernel
theorem dX12_closes_20 : decode cX12_closes 20 = .ok (.ireturn, 1) := by decide +kernel
theorem dX12_needsNew_0 : decode cX12_needsNew 0 = .ok (.aload_n 0, 1) := by decide +kernel
theorem dX12_needsNew_1 : decode cX12_needsNew 1 = .ok (.invokevirtual 315, 3) := by decide +kernel
theorem dX12_needsNew_4 : decode cX12_needsNew 4 = .ok (.ifCond .eq 9, 3) := by decide +kernel
theorem dX12_needsNew_7 : decode cX12_needsNew 7 = .ok (.aload_n 0, 1) := by decide +kernel
theorem dX12_needsNew_8 : decode cX12_needsNew 8 = .ok (.iconst 1, 1) := by decide +kernel
theorem dX12_needsNew_9 : decode cX12_needsNew 9 = .ok (.invokevirtual 242, 3) := by decide +kernel
theorem dX12_needsNew_12 : decode cX12_needsNew 12 = .ok (.ireturn, 1) := by decide +kernel
theorem dX12_needsNew_13 : decode cX12_needsNew 13 = .ok (.aload_n 0, 1) := by decide +kernel
theorem dX12_needsNew_14 : decode cX12_needsNew 14 = .ok (.iconst 1, 1) := by decide +kernel
theorem dX12_needsNew_15 : decode cX12_needsNew 15 = .ok (.invokevirtual 319, 3) := by decide +kernel
theorem dX12_needsNew_18 : decode cX12_needsNew 18 = .ok (.ifCond .ge 11, 3) := by decide +kernel
theorem dX12_needsNew_21 : decode cX12_needsNew 21 = .ok (.aload_n 0, 1) := by decide +kernel
theorem dX12_needsNew_22 : decode cX12_needsNew 22 = .ok (.iconst 1, 1) := by decide +kernel
theorem dX12_needsNew_23 : decode cX12_needsNew 23 = .ok (.invokevirtual 322, 3) := by decide +kernel
theorem dX12_needsNew_26 : decode cX12_needsNew 26 = .ok (.ifCond .lt 9, 3) := by decide +kernel
theorem dX12_needsNew_29 : decode cX12_needsNew 29 = .ok (.aload_n 0, 1) := by decide +kernel
theorem dX12_needsNew_30 : decode cX12_needsNew 30 = .ok (.iconst 3, 1) := by decide +kernel
theorem dX12_needsNew_31 : decode cX12_needsNew 31 = .ok (.invokevirtual 242, 3) := by decide +kernel
theorem dX12_needsNew_34 : decode cX12_needsNew 34 = .ok (.ireturn, 1) := by decide +kernel
theorem dX12_needsNew_35 : decode cX12_needsNew 35 = .ok (.aload_n 0, 1) := by decide +kernel
theorem dX12_needsNew_36 : decode cX12_needsNew 36 = .ok (.aload_n 0, 1) := by decide +kernel
theorem dX12_needsNew_37 : decode cX12_needsNew 37 = .ok (.getfield 189, 3) := by decide +kernel
theorem dX12_needsNew_40 : decode cX12_needsNew 40 = .ok (.putfield 325, 3) := by decide +kernel
theorem dX12_needsNew_43 : decode cX12_needsNew 43 = .ok (.aload_n 0, 1) := by decide +kernel
theorem dX12_needsNew_44 : decode cX12_needsNew 44 = .ok (.invokevirtual 249, 3) := by decide +kernel
theorem dX12_needsNew_47 : decode cX12_needsNew 47 = .ok (.iconst 1, 1) := by decide +kernel
theorem dX12_needsNew_48 : decode cX12_needsNew 48 = .ok (.ireturn, 1) := by decide +kernel
theorem dX12_readsWig_0 : decode cX12_readsWig 0 = .ok (.bipush 6, 2) := by decide +kernel
theorem dX12_readsWig_2 : decode cX12_readsWig 2 = .ok (.aload_n 0, 1) := by decide +kernel
theorem dX12_readsWig_3 : decode cX12_readsWig 3 = .ok (.getfield 13, 3) := by decide +kernel
theorem dX12_readsWig_6 : decode cX12_readsWig 6 = .ok (.iconst 4, 1) := by decide +kernel
theorem dX12_readsWig_7 : decode cX12_readsWig 7 = .ok (.iaload, 1) := by decide +kernel
theorem dX12_readsWig_8 : decode cX12_readsWig 8 = .ok (.iadd, 1) := by decide +kernel
theorem dX12_readsWig_9 : decode cX12_readsWig 9 = .ok (.istore_n 1, 1) := by decide +kernel
theorem dX12_readsWig_10 : decode cX12_readsWig 10 = .ok (.iload_n 1, 1) := by decide +kernel
theorem dX12_readsWig_11 : decode cX12_readsWig 11 = .ok (.bipush 12, 2) := by decide +kernel
theorem dX12_readsWig_13 : decode cX12_readsWig 13 = .ok (.if_icmp .ne 9, 3) := by decide +kernel
theorem dX12_readsWig_16 : decode cX12_readsWig 16 = .ok (.aload_n 0, 1) := by decide +kernel
theorem dX12_readsWig_17 : decode cX12_readsWig 17 = .ok (.iconst 5, 1) := by decide +kernel
theorem dX12_readsWig_18 : decode cX12_readsWig 18 = .ok (.invokevirtual 242, 3) := by decide +kernel
theorem dX12_readsWig_21 : decode cX12_readsWig 21 = .ok (.ireturn, 1) := by decide +kernel
theorem dX12_readsWig_22 : decode cX12_readsWig 22 = .ok (.aload_n 0, 1) := by decide +kernel
theorem dX12_readsWig_23 : decode cX12_readsWig 23 = .ok (.invokevirtual 249, 3) := by decide +kernel
theorem dX12_readsWig_26 : decode cX12_readsWig 26 = .ok (.aload_n 0, 1) := by decide +kernel
theorem dX12_readsWig_27 : decode cX12_readsWig 27 = .ok (.invokevirtual 327, 3) := by decide +kernel
theorem dX12_readsWig_30 : decode cX12_readsWig 30 = .ok (.ifCond .eq 17, 3) := by decide +kernel
theorem dX12_readsWig_33 : decode cX12_readsWig 33 = .ok (.aload_n 0, 1) := by decide +kernel
theorem dX12_readsWig_34 : decode cX12_readsWig 34 = .ok (.ldc2_w 267, 3) := by decide +kernel
theorem dX12_readsWig_37 : decode cX12_readsWig 37 = .ok (.bipush 40, 2) := by decide +kernel
theorem dX12_readsWig_39 : decode cX12_readsWig 39 = .ok (.bipush 79, 2) := by decide +kernel
theorem dX12_readsWig_41 : decode cX12_readsWig 41 = .ok (.invokevirtual 330, 3) := by decide +kernel
theorem dX12_readsWig_44 : decode cX12_readsWig 44 = .ok (.ifCond .ne 5, 3) := by decide +kernel
theorem dX12_readsWig_47 : decode cX12_readsWig 47 = .ok (.iconst 0, 1) := by decide +kernel
theorem dX12_readsWig_48 : decode cX12_readsWig 48 = .ok (.ireturn, 1) := by decide +kernel
theorem dX12_readsWig_49 : decode cX12_readsWig 49 = .ok (.aload_n 0, 1) := by decide +kernel
theorem dX12_readsWig_50 : decode cX12_readsWig 50 = .ok (.getfield 23, 3) := by decide +kernel
theorem dX12_readsWig_53 : decode cX12_readsWig 53 = .ok (.iload_n 1, 1) := by decide +kernel
theorem dX12_readsWig_54 : decode cX12_readsWig 54 = .ok (.aload_n 0, 1) := by decide +kernel
theorem dX12_readsWig_55 : decode cX12_readsWig 55 = .ok (.getfield 305, 3) := by decide +kernel
theorem dX12_readsWig_58 : decode cX12_readsWig 58 = .ok (.iastore, 1) := by decide +kernel
theorem dX12_readsWig_59 : decode cX12_readsWig 59 = .ok (.aload_n 0, 1) := by decide +kernel
theorem dX12_readsWig_60 : decode cX12_readsWig 60 = .ok (.ldc2_w 269, 3) := by decide +kernel
theorem dX12_readsWig_63 : decode cX12_readsWig 63 = .ok (.iconst 0, 1) := by decide +kernel
theorem dX12_readsWig_64 : decode cX12_readsWig 64 = .ok (.bipush 99, 2) := by decide +kernel
theorem dX12_readsWig_66 : decode cX12_readsWig 66 = .ok (.invokevirtual 330, 3) := by decide +kernel
theorem dX12_readsWig_69 : decode cX12_readsWig 69 = .ok (.ifCond .ne 5, 3) := by decide +kernel
theorem dX12_readsWig_72 : decode cX12_readsWig 72 = .ok (.iconst 0, 1) := by decide +kernel
theorem dX12_readsWig_73 : decode cX12_readsWig 73 = .ok (.ireturn, 1) := by decide +kernel
theorem dX12_readsWig_74 : decode cX12_readsWig 74 = .ok (.aload_n 0, 1) := by decide +kernel
theorem dX12_readsWig_75 : decode cX12_readsWig 75 = .ok (.getfield 26, 3) := by decide +kernel
theorem dX12_readsWig_78 : decode cX12_readsWig 78 = .ok (.iload_n 1, 1) := by decide +kernel
theorem dX12_readsWig_79 : decode cX12_readsWig 79 = .ok (.aload_n 0, 1) := by decide +kernel
theorem dX12_readsWig_80 : decode cX12_readsWig 80 = .ok (.getfield 305, 3) := by decide +kernel
theorem dX12_readsWig_83 : decode cX12_readsWig 83 = .ok (.iastore, 1) := by decide +kernel
theorem dX12_readsWig_84 : decode cX12_readsWig 84 = .ok (.aload_n 0, 1) := by decide +kernel
theorem dX12_readsWig_85 : decode cX12_readsWig 85 = .ok (.ldc2_w 271, 3) := by decide +kernel
theorem dX12_readsWig_88 : decode cX12_readsWig 88 = .ok (.iconst 0, 1) := by decide +kernel
theorem dX12_readsWig_89 : decode cX12_readsWig 89 = .ok (.bipush 9, 2) := by decide +kernel
theorem dX12_readsWig_91 : decode cX12_readsWig 91 = .ok (.invokevirtual 330, 3) := by decide +kernel
theorem dX12_readsWig_94 : decode cX12_readsWig 94 = .ok (.ifCond .ne 5, 3) := by decide +kernel
theorem dX12_readsWig_97 : decode cX12_readsWig 97 = .ok (.iconst 0, 1) := by decide +kernel
theorem dX12_readsWig_98 : decode cX12_readsWig 98 = .ok (.ireturn, 1) := by decide +kernel
theorem dX12_readsWig_99 : decode cX12_readsWig 99 = .ok (.aload_n 0, 1) := by decide +kernel
theorem dX12_readsWig_100 : decode cX12_readsWig 100 = .ok (.getfield 29, 3) := by decide +kernel
theorem dX12_readsWig_103 : decode cX12_readsWig 103 = .ok (.iload_n 1, 1) := by decide +kernel
theorem dX12_readsWig_104 : decode cX12_readsWig 104 = .ok (.aload_n 0, 1) := by decide +kernel
theorem dX12_readsWig_105 : decode cX12_readsWig 105 = .ok (.getfield 305, 3) := by decide +kernel
theorem dX12_readsWig_108 : decode cX12_readsWig 108 = .ok (.iastore, 1) := by decide +kernel
theorem dX12_readsWig_109 : decode cX12_readsWig 109 = .ok (.aload_n 0, 1) := by decide +kernel
theorem dX12_readsWig_110 : decode cX12_readsWig 110 = .ok (.getfield 16, 3) := by decide +kernel
theorem dX12_readsWig_113 : decode cX12_readsWig 113 = .ok (.iload_n 1, 1) := by decide +kernel
theorem dX12_readsWig_114 : decode cX12_readsWig 114 = .ok (.aload_n 0, 1) := by decide +kernel
theorem dX12_readsWig_115 : decode cX12_readsWig 115 = .ok (.getfield 325, 3) := by decide +kernel
theorem dX12_readsWig_118 : decode cX12_readsWig 118 = .ok (.lastore, 1) := by decide +kernel
theorem dX12_readsWig_119 : decode cX12_readsWig 119 = .ok (.aload_n 0, 1) := by decide +kernel
theorem dX12_readsWig_120 : decode cX12_readsWig 120 = .ok (.getfield 13, 3) := by decide +kernel
theorem dX12_readsWig_123 : decode cX12_readsWig 123 = .ok (.iconst 4, 1) := by decide +kernel
theorem dX12_readsWig_124 : decode cX12_readsWig 124 = .ok (.dup2, 1) := by decide +kernel
theorem dX12_readsWig_125 : decode cX12_readsWig 125 = .ok (.iaload, 1) := by decide +kernel
theorem dX12_readsWig_126 : decode cX12_readsWig 126 = .ok (.iconst 1, 1) := by decide +kernel
theorem dX12_readsWig_127 : decode cX12_readsWig 127 = .ok (.iadd, 1) := by decide +kernel
theorem dX12_readsWig_128 : decode cX12_readsWig 128 = .ok (.iastore, 1) := by decide +kernel
theorem dX12_readsWig_129 : decode cX12_readsWig 129 = .ok (.aload_n 0, 1) := by decide +kernel
theorem dX12_readsWig_130 : decode cX12_readsWig 130 = .ok (.invokevirtual 334, 3) := by decide +kernel
theorem dX12_readsWig_133 : decode cX12_readsWig 133 = .ok (.ireturn, 1) := by decide +kernel
theorem dX12_readsHead_0 : decode cX12_readsHead 0 = .ok (.bipush 6, 2) := by decide +kernel
theorem dX12_readsHead_2 : decode cX12_readsHead 2 = .ok (.aload_n 0, 1) := by decide +kernel
theorem dX12_readsHead_3 : decode cX12_readsHead 3 = .ok (.getfield 13, 3) := by decide +kernel
theorem dX12_readsHead_6 : decode cX12_readsHead 6 = .ok (.iconst 5, 1) := by decide +kernel
theorem dX12_readsHead_7 : decode cX12_readsHead 7 = .ok (.iaload, 1) := by decide +kernel
theorem dX12_readsHead_8 : decode cX12_readsHead 8 = .ok (.iadd, 1) := by decide +kernel
theorem dX12_readsHead_9 : decode cX12_readsHead 9 = .ok (.istore_n 1, 1) := by decide +kernel
theorem dX12_readsHead_10 : decode cX12_readsHead 10 = .ok (.iload_n 1, 1) := by decide +kernel
theorem dX12_readsHead_11 : decode cX12_readsHead 11 = .ok (.bipush 12, 2) := by decide +kernel
theorem dX12_readsHead_13 : decode cX12_readsHead 13 = .ok (.if_icmp .ne 9, 3) := by decide +kernel
theorem dX12_readsHead_16 : decode cX12_readsHead 16 = .ok (.aload_n 0, 1) := by decide +kernel
theorem dX12_readsHead_17 : decode cX12_readsHead 17 = .ok (.iconst 5, 1) := by decide +kernel
theorem dX12_readsHead_18 : decode cX12_readsHead 18 = .ok (.invokevirtual 242, 3) := by decide +kernel
theorem dX12_readsHead_21 : decode cX12_readsHead 21 = .ok (.ireturn, 1) := by decide +kernel
theorem dX12_readsHead_22 : decode cX12_readsHead 22 = .ok (.aload_n 0, 1) := by decide +kernel
theorem dX12_readsHead_23 : decode cX12_readsHead 23 = .ok (.invokevirtual 249, 3) := by decide +kernel
theorem dX12_readsHead_26 : decode cX12_readsHead 26 = .ok (.aload_n 0, 1) := by decide +kernel
theorem dX12_readsHead_27 : decode cX12_readsHead 27 = .ok (.invokevirtual 327, 3) := by decide +kernel
theorem dX12_readsHead_30 : decode cX12_readsHead 30 = .ok (.ifCond .ne 5, 3) := by decide +kernel
theorem dX12_readsHead_33 : decode cX12_readsHead 33 = .ok (.iconst 0, 1) := by decide +kernel
theorem dX12_readsHead_34 : decode cX12_readsHead 34 = .ok (.ireturn, 1) := by decide +kernel
theorem dX12_readsHead_35 : decode cX12_readsHead 35 = .ok (.aload_n 0, 1) := by decide +kernel
theorem dX12_readsHead_36 : decode cX12_readsHead 36 = .ok (.getfield 32, 3) := by decide +kernel
theorem dX12_readsHead_39 : decode cX12_readsHead 39 = .ok (.iload_n 1, 1) := by decide +kernel
theorem dX12_readsHead_40 : decode cX12_readsHead 40 = .ok (.aload_n 0, 1) := by decide +kernel
theorem dX12_readsHead_41 : decode cX12_readsHead 41 = .ok (.ldc2_w 293, 3) := by decide +kernel
theorem dX12_readsHead_44 : decode cX12_readsHead 44 = .ok (.invokevirtual 234, 3) := by decide +kernel
theorem dX12_readsHead_47 : decode cX12_readsHead 47 = .ok (.ifCond .eq 7, 3) := by decide +kernel
theorem dX12_readsHead_50 : decode cX12_readsHead 50 = .ok (.iconst 0, 1) := by decide +kernel
theorem dX12_readsHead_51 : decode cX12_readsHead 51 = .ok (.goto 46, 3) := by decide +kernel
theorem dX12_readsHead_54 : decode cX12_readsHead 54 = .ok (.aload_n 0, 1) := by decide +kernel
theorem dX12_readsHead_55 : decode cX12_readsHead 55 = .ok (.ldc2_w 295, 3) := by decide +kernel
theorem dX12_readsHead_58 : decode cX12_readsHead 58 = .ok (.invokevirtual 234, 3) := by decide +kernel
theorem dX12_readsHead_61 : decode cX12_readsHead 61 = .ok (.ifCond .eq 7, 3) := by decide +kernel
theorem dX12_readsHead_64 : decode cX12_readsHead 64 = .ok (.iconst 1, 1) := by decide +kernel
theorem dX12_readsHead_65 : decode cX12_readsHead 65 = .ok (.goto 32, 3) := by decide +kernel
theorem dX12_readsHead_68 : decode cX12_readsHead 68 = .ok (.aload_n 0, 1) := by decide +kernel
theorem dX12_readsHead_69 : decode cX12_readsHead 69 = .ok (.ldc2_w 297, 3) := by decide +kernel
theorem dX12_readsHead_72 : decode cX12_readsHead 72 = .ok (.invokevirtual 234, 3) := by decide +kernel
theorem dX12_readsHead_75 : decode cX12_readsHead 75 = .ok (.ifCond .eq 7, 3) := by decide +kernel
theorem dX12_readsHead_78 : decode cX12_readsHead 78 = .ok (.iconst 2, 1) := by decide +kernel
theorem dX12_readsHead_79 : decode cX12_readsHead 79 = .ok (.goto 18, 3) := by decide +kernel
theorem dX12_readsHead_82 : decode cX12_readsHead 82 = .ok (.aload_n 0, 1) := by decide +kernel
theorem dX12_readsHead_83 : decode cX12_readsHead 83 = .ok (.ldc2_w 299, 3) := by decide +kernel
theorem dX12_readsHead_86 : decode cX12_readsHead 86 = .ok (.invokevirtual 234, 3) := by decide +kernel
theorem dX12_readsHead_89 : decode cX12_readsHead 89 = .ok (.ifCond .eq 7, 3) := by decide +kernel
theorem dX12_readsHead_92 : decode cX12_readsHead 92 = .ok (.iconst 3, 1) := by decide +kernel
theorem dX12_readsHead_93 : decode cX12_readsHead 93 = .ok (.goto 4, 3) := by decide +kernel
theorem dX12_readsHead_96 : decode cX12_readsHead 96 = .ok (.iconst (-1), 1) := by decide +kernel
theorem dX12_readsHead_97 : decode cX12_readsHead 97 = .ok (.iastore, 1) := by decide +kernel
theorem dX12_readsHead_98 : decode cX12_readsHead 98 = .ok (.aload_n 0, 1) := by decide +kernel
theorem dX12_readsHead_99 : decode cX12_readsHead 99 = .ok (.getfield 32, 3) := by decide +kernel
theorem dX12_readsHead_102 : decode cX12_readsHead 102 = .ok (.iload_n 1, 1) := by decide +kernel
theorem dX12_readsHead_103 : decode cX12_readsHead 103 = .ok (.iaload, 1) := by decide +kernel
theorem dX12_readsHead_104 : decode cX12_readsHead 104 = .ok (.ifCond .ge 9, 3) := by decide +kernel
theorem dX12_readsHead_107 : decode cX12_readsHead 107 = .ok (.aload_n 0, 1) := by decide +kernel
theorem dX12_readsHead_108 : decode cX12_readsHead 108 = .ok (.iconst 1, 1) := by decide +kernel
theorem dX12_readsHead_109 : decode cX12_readsHead 109 = .ok (.invokevirtual 242, 3) := by decide +kernel
theorem dX12_readsHead_112 : decode cX12_readsHead 112 = .ok (.ireturn, 1) := by decide +kernel
theorem dX12_readsHead_113 : decode cX12_readsHead 113 = .ok (.aload_n 0, 1) := by decide +kernel
theorem dX12_readsHead_114 : decode cX12_readsHead 114 = .ok (.invokevirtual 249, 3) := by decide +kernel
theorem dX12_readsHead_117 : decode cX12_readsHead 117 = .ok (.aload_n 0, 1) := by decide +kernel
theorem dX12_readsHead_118 : decode cX12_readsHead 118 = .ok (.ldc2_w 267, 3) := by decide +kernel
theorem dX12_readsHead_121 : decode cX12_readsHead 121 = .ok (.bipush 40, 2) := by decide +kernel
theorem dX12_readsHead_123 : decode cX12_readsHead 123 = .ok (.bipush 79, 2) := by decide +kernel
theorem dX12_readsHead_125 : decode cX12_readsHead 125 = .ok (.invokevirtual 330, 3) := by decide +kernel
theorem dX12_readsHead_128 : decode cX12_readsHead 128 = .ok (.ifCond .ne 5, 3) := by decide +kernel
theorem dX12_readsHead_131 : decode cX12_readsHead 131 = .ok (.iconst 0, 1) := by decide +kernel
theorem dX12_readsHead_132 : decode cX12_readsHead 132 = .ok (.ireturn, 1) := by decide +kernel
theorem dX12_readsHead_133 : decode cX12_readsHead 133 = .ok (.aload_n 0, 1) := by decide +kernel
theorem dX12_readsHead_134 : decode cX12_readsHead 134 = .ok (.getfield 35, 3) := by decide +kernel
theorem dX12_readsHead_137 : decode cX12_readsHead 137 = .ok (.iload_n 1, 1) := by decide +kernel
theorem dX12_readsHead_138 : decode cX12_readsHead 138 = .ok (.aload_n 0, 1) := by decide +kernel
theorem dX12_readsHead_139 : decode cX12_readsHead 139 = .ok (.getfield 305, 3) := by decide +kernel
theorem dX12_readsHead_142 : decode cX12_readsHead 142 = .ok (.iastore, 1) := by decide +kernel
theorem dX12_readsHead_143 : decode cX12_readsHead 143 = .ok (.aload_n 0, 1) := by decide +kernel
theorem dX12_readsHead_144 : decode cX12_readsHead 144 = .ok (.ldc2_w 275, 3) := by decide +kernel
theorem dX12_readsHead_147 : decode cX12_readsHead 147 = .ok (.iconst 0, 1) := by decide +kernel
theorem dX12_readsHead_148 : decode cX12_readsHead 148 = .ok (.bipush 99, 2) := by decide +kernel
theorem dX12_readsHead_150 : decode cX12_readsHead 150 = .ok (.invokevirtual 330, 3) := by decide +kernel
theorem dX12_readsHead_153 : decode cX12_readsHead 153 = .ok (.ifCond .ne 5, 3) := by decide +kernel
theorem dX12_readsHead_156 : decode cX12_readsHead 156 = .ok (.iconst 0, 1) := by decide +kernel
theorem dX12_readsHead_157 : decode cX12_readsHead 157 = .ok (.ireturn, 1) := by decide +kernel
theorem dX12_readsHead_158 : decode cX12_readsHead 158 = .ok (.aload_n 0, 1) := by decide +kernel
theorem dX12_readsHead_159 : decode cX12_readsHead 159 = .ok (.getfield 38, 3) := by decide +kernel
theorem dX12_readsHead_162 : decode cX12_readsHead 162 = .ok (.iload_n 1, 1) := by decide +kernel
theorem dX12_readsHead_163 : decode cX12_readsHead 163 = .ok (.aload_n 0, 1) := by decide +kernel
theorem dX12_readsHead_164 : decode cX12_readsHead 164 = .ok (.getfield 305, 3) := by decide +kernel
theorem dX12_readsHead_167 : decode cX12_readsHead 167 = .ok (.iastore, 1) := by decide +kernel
theorem dX12_readsHead_168 : decode cX12_readsHead 168 = .ok (.aload_n 0, 1) := by decide +kernel
theorem dX12_readsHead_169 : decode cX12_readsHead 169 = .ok (.ldc2_w 271, 3) := by decide +kernel
theorem dX12_readsHead_172 : decode cX12_readsHead 172 = .ok (.iconst 0, 1) := by decide +kernel
theorem dX12_readsHead_173 : decode cX12_readsHead 173 = .ok (.bipush 9, 2) := by decide +kernel
theorem dX12_readsHead_175 : decode cX12_readsHead 175 = .ok (.invokevirtual 330, 3) := by decide +kernel
theorem dX12_readsHead_178 : decode cX12_readsHead 178 = .ok (.ifCond .ne 5, 3) := by decide +kernel
theorem dX12_readsHead_181 : decode cX12_readsHead 181 = .ok (.iconst 0, 1) := by decide +kernel
theorem dX12_readsHead_182 : decode cX12_readsHead 182 = .ok (.ireturn, 1) := by decide +kernel
theorem dX12_readsHead_183 : decode cX12_readsHead 183 = .ok (.aload_n 0, 1) := by decide +kernel
theorem dX12_readsHead_184 : decode cX12_readsHead 184 = .ok (.getfield 41, 3) := by decide +kernel
theorem dX12_readsHead_187 : decode cX12_readsHead 187 = .ok (.iload_n 1, 1) := by decide +kernel
theorem dX12_readsHead_188 : decode cX12_readsHead 188 = .ok (.aload_n 0, 1) := by decide +kernel
theorem dX12_readsHead_189 : decode cX12_readsHead 189 = .ok (.getfield 305, 3) := by decide +kernel
theorem dX12_readsHead_192 : decode cX12_readsHead 192 = .ok (.iastore, 1) := by decide +kernel
theorem dX12_readsHead_193 : decode cX12_readsHead 193 = .ok (.aload_n 0, 1) := by decide +kernel
theorem dX12_readsHead_194 : decode cX12_readsHead 194 = .ok (.getfield 20, 3) := by decide +kernel
theorem dX12_readsHead_197 : decode cX12_readsHead 197 = .ok (.iload_n 1, 1) := by decide +kernel
theorem dX12_readsHead_198 : decode cX12_readsHead 198 = .ok (.aload_n 0, 1) := by decide +kernel
theorem dX12_readsHead_199 : decode cX12_readsHead 199 = .ok (.getfield 325, 3) := by decide +kernel
theorem dX12_readsHead_202 : decode cX12_readsHead 202 = .ok (.lastore, 1) := by decide +kernel
theorem dX12_readsHead_203 : decode cX12_readsHead 203 = .ok (.aload_n 0, 1) := by decide +kernel
theorem dX12_readsHead_204 : decode cX12_readsHead 204 = .ok (.getfield 13, 3) := by decide +kernel
theorem dX12_readsHead_207 : decode cX12_readsHead 207 = .ok (.iconst 5, 1) := by decide +kernel
theorem dX12_readsHead_208 : decode cX12_readsHead 208 = .ok (.dup2, 1) := by decide +kernel
theorem dX12_readsHead_209 : decode cX12_readsHead 209 = .ok (.iaload, 1) := by decide +kernel
theorem dX12_readsHead_210 : decode cX12_readsHead 210 = .ok (.iconst 1, 1) := by decide +kernel
theorem dX12_readsHead_211 : decode cX12_readsHead 211 = .ok (.iadd, 1) := by decide +kernel
theorem dX12_readsHead_212 : decode cX12_readsHead 212 = .ok (.iastore, 1) := by decide +kernel
theorem dX12_readsHead_213 : decode cX12_readsHead 213 = .ok (.aload_n 0, 1) := by decide +kernel
theorem dX12_readsHead_214 : decode cX12_readsHead 214 = .ok (.invokevirtual 334, 3) := by decide +kernel
theorem dX12_readsHead_217 : decode cX12_readsHead 217 = .ok (.ireturn, 1) := by decide +kernel
theorem dX12_readsHeats_0 : decode cX12_readsHeats 0 = .ok (.aload_n 0, 1) := by decide +kernel
theorem dX12_readsHeats_1 : decode cX12_readsHeats 1 = .ok (.getfield 13, 3) := by decide +kernel
theorem dX12_readsHeats_4 : decode cX12_readsHeats 4 = .ok (.bipush 7, 2) := by decide +kernel
theorem dX12_readsHeats_6 : decode cX12_readsHeats 6 = .ok (.iaload, 1) := by decide +kernel
theorem dX12_readsHeats_7 : decode cX12_readsHeats 7 = .ok (.ifCond .le 9, 3) := by decide +kernel
theorem dX12_readsHeats_10 : decode cX12_readsHeats 10 = .ok (.aload_n 0, 1) := by decide +kernel
theorem dX12_readsHeats_11 : decode cX12_readsHeats 11 = .ok (.iconst 3, 1) := by decide +kernel
theorem dX12_readsHeats_12 : decode cX12_readsHeats 12 = .ok (.invokevirtual 242, 3) := by decide +kernel
theorem dX12_readsHeats_15 : decode cX12_readsHeats 15 = .ok (.ireturn, 1) := by decide +kernel
theorem dX12_readsHeats_16 : decode cX12_readsHeats 16 = .ok (.aload_n 0, 1) := by decide +kernel
theorem dX12_readsHeats_17 : decode cX12_readsHeats 17 = .ok (.invokevirtual 249, 3) := by decide +kernel
theorem dX12_readsHeats_20 : decode cX12_readsHeats 20 = .ok (.iconst 0, 1) := by decide +kernel
theorem dX12_readsHeats_21 : decode cX12_readsHeats 21 = .ok (.istore_n 1, 1) := by decide +kernel
theorem dX12_readsHeats_22 : decode cX12_readsHeats 22 = .ok (.iload_n 1, 1) := by decide +kernel
theorem dX12_readsHeats_23 : decode cX12_readsHeats 23 = .ok (.ifCond .eq 12, 3) := by decide +kernel
theorem dX12_readsHeats_26 : decode cX12_readsHeats 26 = .ok (.aload_n 0, 1) := by decide +kernel
theorem dX12_readsHeats_27 : decode cX12_readsHeats 27 = .ok (.bipush 59, 2) := by decide +kernel
theorem dX12_readsHeats_29 : decode cX12_readsHeats 29 = .ok (.invokevirtual 238, 3) := by decide +kernel
theorem dX12_readsHeats_32 : decode cX12_readsHeats 32 = .ok (.ifCond .ne 67, 3) := by decide +kernel
theorem dX12_readsHeats_35 : decode cX12_readsHeats 35 = .ok (.aload_n 0, 1) := by decide +kernel
theorem dX12_readsHeats_36 : decode cX12_readsHeats 36 = .ok (.getfield 196, 3) := by decide +kernel
theorem dX12_readsHeats_39 : decode cX12_readsHeats 39 = .ok (.iconst 2, 1) := by decide +kernel
theorem dX12_readsHeats_40 : decode cX12_readsHeats 40 = .ok (.if_icmp .eq 9, 3) := by decide +kernel
theorem dX12_readsHeats_43 : decode cX12_readsHeats 43 = .ok (.aload_n 0, 1) := by decide +kernel
theorem dX12_readsHeats_44 : decode cX12_readsHeats 44 = .ok (.iconst 1, 1) := by decide +kernel
theorem dX12_readsHeats_45 : decode cX12_readsHeats 45 = .ok (.invokevirtual 242, 3) := by decide +kernel
theorem dX12_readsHeats_48 : decode cX12_readsHeats 48 = .ok (.ireturn, 1) := by decide +kernel
theorem dX12_readsHeats_49 : decode cX12_readsHeats 49 = .ok (.aload_n 0, 1) := by decide +kernel
theorem dX12_readsHeats_50 : decode cX12_readsHeats 50 = .ok (.getfield 193, 3) := by decide +kernel
theorem dX12_readsHeats_53 : decode cX12_readsHeats 53 = .ok (.bipush 9, 2) := by decide +kernel
theorem dX12_readsHeats_55 : decode cX12_readsHeats 55 = .ok (.if_icmp .le 9, 3) := by decide +kernel
theorem dX12_readsHeats_58 : decode cX12_readsHeats 58 = .ok (.aload_n 0, 1) := by decide +kernel
theorem dX12_readsHeats_59 : decode cX12_readsHeats 59 = .ok (.iconst 4, 1) := by decide +kernel
theorem dX12_readsHeats_60 : decode cX12_readsHeats 60 = .ok (.invokevirtual 242, 3) := by decide +kernel
theorem dX12_readsHeats_63 : decode cX12_readsHeats 63 = .ok (.ireturn, 1) := by decide +kernel
theorem dX12_readsHeats_64 : decode cX12_readsHeats 64 = .ok (.iload_n 1, 1) := by decide +kernel
theorem dX12_readsHeats_65 : decode cX12_readsHeats 65 = .ok (.bipush 12, 2) := by decide +kernel
theorem dX12_readsHeats_67 : decode cX12_readsHeats 67 = .ok (.if_icmp .ne 9, 3) := by decide +kernel
theorem dX12_readsHeats_70 : decode cX12_readsHeats 70 = .ok (.aload_n 0, 1) := by decide +kernel
theorem dX12_readsHeats_71 : decode cX12_readsHeats 71 = .ok (.iconst 5, 1) := by decide +kernel
theorem dX12_readsHeats_72 : decode cX12_readsHeats 72 = .ok (.invokevirtual 242, 3) := by decide +kernel
theorem dX12_readsHeats_75 : decode cX12_readsHeats 75 = .ok (.ireturn, 1) := by decide +kernel
theorem dX12_readsHeats_76 : decode cX12_readsHeats 76 = .ok (.aload_n 0, 1) := by decide +kernel
theorem dX12_readsHeats_77 : decode cX12_readsHeats 77 = .ok (.getfield 44, 3) := by decide +kernel
theorem dX12_readsHeats_80 : decode cX12_readsHeats 80 = .ok (.bipush 12, 2) := by decide +kernel
theorem dX12_readsHeats_82 : decode cX12_readsHeats 82 = .ok (.iload_n 1, 1) := by decide +kernel
theorem dX12_readsHeats_83 : decode cX12_readsHeats 83 = .ok (.iadd, 1) := by decide +kernel
theorem dX12_readsHeats_84 : decode cX12_readsHeats 84 = .ok (.aload_n 0, 1) := by decide +kernel
theorem dX12_readsHeats_85 : decode cX12_readsHeats 85 = .ok (.getfield 193, 3) := by decide +kernel
theorem dX12_readsHeats_88 : decode cX12_readsHeats 88 = .ok (.iastore, 1) := by decide +kernel
theorem dX12_readsHeats_89 : decode cX12_readsHeats 89 = .ok (.iinc 1 1, 3) := by decide +kernel
theorem dX12_readsHeats_92 : decode cX12_readsHeats 92 = .ok (.aload_n 0, 1) := by decide +kernel
theorem dX12_readsHeats_93 : decode cX12_readsHeats 93 = .ok (.invokevirtual 249, 3) := by decide +kernel
theorem dX12_readsHeats_96 : decode cX12_readsHeats 96 = .ok (.goto (-74), 3) := by decide +kernel
theorem dX12_readsHeats_99 : decode cX12_readsHeats 99 = .ok (.aload_n 0, 1) := by decide +kernel
theorem dX12_readsHeats_100 : decode cX12_readsHeats 100 = .ok (.getfield 13, 3) := by decide +kernel
theorem dX12_readsHeats_103 : decode cX12_readsHeats 103 = .ok (.bipush 7, 2) := by decide +kernel
theorem dX12_readsHeats_105 : decode cX12_readsHeats 105 = .ok (.iload_n 1, 1) := by decide +kernel
theorem dX12_readsHeats_106 : decode cX12_readsHeats 106 = .ok (.iastore, 1) := by decide +kernel
theorem dX12_readsHeats_107 : decode cX12_readsHeats 107 = .ok (.aload_n 0, 1) := by decide +kernel
theorem dX12_readsHeats_108 : decode cX12_readsHeats 108 = .ok (.invokevirtual 334, 3) := by decide +kernel
theorem dX12_readsHeats_111 : decode cX12_readsHeats 111 = .ok (.ireturn, 1) := by decide +kernel
theorem dX12_readsSlack_0 : decode cX12_readsSlack 0 = .ok (.aload_n 0, 1) := by decide +kernel
theorem dX12_readsSlack_1 : decode cX12_readsSlack 1 = .ok (.getfield 337, 3) := by decide +kernel
theorem dX12_readsSlack_4 : decode cX12_readsSlack 4 = .ok (.ifCond .eq 9, 3) := by decide +kernel
theorem dX12_readsSlack_7 : decode cX12_readsSlack 7 = .ok (.aload_n 0, 1) := by decide +kernel
theorem dX12_readsSlack_8 : decode cX12_readsSlack 8 = .ok (.iconst 3, 1) := by decide +kernel
theorem dX12_readsSlack_9 : decode cX12_readsSlack 9 = .ok (.invokevirtual 242, 3) := by decide +kernel
theorem dX12_readsSlack_12 : decode cX12_readsSlack 12 = .ok (.ireturn, 1) := by decide +kernel
theorem dX12_readsSlack_13 : decode cX12_readsSlack 13 = .ok (.aload_n 0, 1) := by decide +kernel
theorem dX12_readsSlack_14 : decode cX12_readsSlack 14 = .ok (.iconst 1, 1) := by decide +kernel
theorem dX12_readsSlack_15 : decode cX12_readsSlack 15 = .ok (.putfield 337, 3) := by decide +kernel
theorem dX12_readsSlack_18 : decode cX12_readsSlack 18 = .ok (.aload_n 0, 1) := by decide +kernel
theorem dX12_readsSlack_19 : decode cX12_readsSlack 19 = .ok (.invokevirtual 249, 3) := by decide +kernel
theorem dX12_readsSlack_22 : decode cX12_readsSlack 22 = .ok (.aload_n 0, 1) := by decide +kernel
theorem dX12_readsSlack_23 : decode cX12_readsSlack 23 = .ok (.iconst 0, 1) := by decide +kernel
theorem dX12_readsSlack_24 : decode cX12_readsSlack 24 = .ok (.bipush 9, 2) := by decide +kernel
theorem dX12_readsSlack_26 : decode cX12_readsSlack 26 = .ok (.invokevirtual 311, 3) := by decide +kernel
theorem dX12_readsSlack_29 : decode cX12_readsSlack 29 = .ok (.ifCond .ne 5, 3) := by decide +kernel
theorem dX12_readsSlack_32 : decode cX12_readsSlack 32 = .ok (.iconst 0, 1) := by decide +kernel
theorem dX12_readsSlack_33 : decode cX12_readsSlack 33 = .ok (.ireturn, 1) := by decide +kernel
theorem dX12_readsSlack_34 : decode cX12_readsSlack 34 = .ok (.aload_n 0, 1) := by decide +kernel
theorem dX12_readsSlack_35 : decode cX12_readsSlack 35 = .ok (.getfield 13, 3) := by decide +kernel
theorem dX12_readsSlack_38 : decode cX12_readsSlack 38 = .ok (.bipush 6, 2) := by decide +kernel
theorem dX12_readsSlack_40 : decode cX12_readsSlack 40 = .ok (.aload_n 0, 1) := by decide +kernel
theorem dX12_readsSlack_41 : decode cX12_readsSlack 41 = .ok (.getfield 305, 3) := by decide +kernel
theorem dX12_readsSlack_44 : decode cX12_readsSlack 44 = .ok (.iastore, 1) := by decide +kernel
theorem dX12_readsSlack_45 : decode cX12_readsSlack 45 = .ok (.aload_n 0, 1) := by decide +kernel
theorem dX12_readsSlack_46 : decode cX12_readsSlack 46 = .ok (.invokevirtual 334, 3) := by decide +kernel
theorem dX12_readsSlack_49 : decode cX12_readsSlack 49 = .ok (.ireturn, 1) := by decide +kernel
theorem dX12_readsLaw_0 : decode cX12_readsLaw 0 = .ok (.aload_n 0, 1) := by decide +kernel
theorem dX12_readsLaw_1 : decode cX12_readsLaw 1 = .ok (.getfield 50, 3) := by decide +kernel
theorem dX12_readsLaw_4 : decode cX12_readsLaw 4 = .ok (.iconst 2, 1) := by decide +kernel
theorem dX12_readsLaw_5 : decode cX12_readsLaw 5 = .ok (.iload_n 1, 1) := by decide +kernel
theorem dX12_readsLaw_6 : decode cX12_readsLaw 6 = .ok (.iadd, 1) := by decide +kernel
theorem dX12_readsLaw_7 : decode cX12_readsLaw 7 = .ok (.iaload, 1) := by decide +kernel
theorem dX12_readsLaw_8 : decode cX12_readsLaw 8 = .ok (.aload_n 0, 1) := by decide +kernel
theorem dX12_readsLaw_9 : decode cX12_readsLaw 9 = .ok (.getfield 47, 3) := by decide +kernel
theorem dX12_readsLaw_12 : decode cX12_readsLaw 12 = .ok (.iconst 2, 1) := by decide +kernel
theorem dX12_readsLaw_13 : decode cX12_readsLaw 13 = .ok (.iload_n 1, 1) := by decide +kernel
theorem dX12_readsLaw_14 : decode cX12_readsLaw 14 = .ok (.iadd, 1) := by decide +kernel
theorem dX12_readsLaw_15 : decode cX12_readsLaw 15 = .ok (.iaload, 1) := by decide +kernel
theorem dX12_readsLaw_16 : decode cX12_readsLaw 16 = .ok (.if_icmp .le 9, 3) := by decide +kernel
theorem dX12_readsLaw_19 : decode cX12_readsLaw 19 = .ok (.aload_n 0, 1) := by decide +kernel
theorem dX12_readsLaw_20 : decode cX12_readsLaw 20 = .ok (.iconst 3, 1) := by decide +kernel
theorem dX12_readsLaw_21 : decode cX12_readsLaw 21 = .ok (.invokevirtual 242, 3) := by decide +kernel
theorem dX12_readsLaw_24 : decode cX12_readsLaw 24 = .ok (.ireturn, 1) := by decide +kernel
theorem dX12_readsLaw_25 : decode cX12_readsLaw 25 = .ok (.aload_n 0, 1) := by decide +kernel
theorem dX12_readsLaw_26 : decode cX12_readsLaw 26 = .ok (.iload_n 1, 1) := by decide +kernel
theorem dX12_readsLaw_27 : decode cX12_readsLaw 27 = .ok (.putfield 213, 3) := by decide +kernel
theorem dX12_readsLaw_30 : decode cX12_readsLaw 30 = .ok (.aload_n 0, 1) := by decide +kernel
theorem dX12_readsLaw_31 : decode cX12_readsLaw 31 = .ok (.invokevirtual 249, 3) := by decide +kernel
theorem dX12_readsLaw_34 : decode cX12_readsLaw 34 = .ok (.aload_n 0, 1) := by decide +kernel
theorem dX12_readsLaw_35 : decode cX12_readsLaw 35 = .ok (.getfield 47, 3) := by decide +kernel
theorem dX12_readsLaw_38 : decode cX12_readsLaw 38 = .ok (.iconst 2, 1) := by decide +kernel
theorem dX12_readsLaw_39 : decode cX12_readsLaw 39 = .ok (.iload_n 1, 1) := by decide +kernel
theorem dX12_readsLaw_40 : decode cX12_readsLaw 40 = .ok (.iadd, 1) := by decide +kernel
theorem dX12_readsLaw_41 : decode cX12_readsLaw 41 = .ok (.aload_n 0, 1) := by decide +kernel
theorem dX12_readsLaw_42 : decode cX12_readsLaw 42 = .ok (.getfield 210, 3) := by decide +kernel
theorem dX12_readsLaw_45 : decode cX12_readsLaw 45 = .ok (.iastore, 1) := by decide +kernel
theorem dX12_readsLaw_46 : decode cX12_readsLaw 46 = .ok (.aload_n 0, 1) := by decide +kernel
theorem dX12_readsLaw_47 : decode cX12_readsLaw 47 = .ok (.invokevirtual 341, 3) := by decide +kernel
theorem dX12_readsLaw_50 : decode cX12_readsLaw 50 = .ok (.ifCond .ne 5, 3) := by decide +kernel
theorem dX12_readsLaw_53 : decode cX12_readsLaw 53 = .ok (.iconst 0, 1) := by decide +kernel
theorem dX12_readsLaw_54 : decode cX12_readsLaw 54 = .ok (.ireturn, 1) := by decide +kernel
theorem dX12_readsLaw_55 : decode cX12_readsLaw 55 = .ok (.aload_n 0, 1) := by decide +kernel
theorem dX12_readsLaw_56 : decode cX12_readsLaw 56 = .ok (.getfield 50, 3) := by decide +kernel
theorem dX12_readsLaw_59 : decode cX12_readsLaw 59 = .ok (.iconst 2, 1) := by decide +kernel
theorem dX12_readsLaw_60 : decode cX12_readsLaw 60 = .ok (.iload_n 1, 1) := by decide +kernel
theorem dX12_readsLaw_61 : decode cX12_readsLaw 61 = .ok (.iadd, 1) := by decide +kernel
theorem dX12_readsLaw_62 : decode cX12_readsLaw 62 = .ok (.aload_n 0, 1) := by decide +kernel
theorem dX12_readsLaw_63 : decode cX12_readsLaw 63 = .ok (.getfield 210, 3) := by decide +kernel
theorem dX12_readsLaw_66 : decode cX12_readsLaw 66 = .ok (.iastore, 1) := by decide +kernel
theorem dX12_readsLaw_67 : decode cX12_readsLaw 67 = .ok (.iconst 1, 1) := by decide +kernel
theorem dX12_readsLaw_68 : decode cX12_readsLaw 68 = .ok (.ireturn, 1) := by decide +kernel
theorem dX12_begins_0 : decode cX12_begins 0 = .ok (.aload_n 0, 1) := by decide +kernel
theorem dX12_begins_1 : decode cX12_begins 1 = .ok (.aload_n 0, 1) := by decide +kernel
theorem dX12_begins_2 : decode cX12_begins 2 = .ok (.getfield 177, 3) := by decide +kernel
theorem dX12_begins_5 : decode cX12_begins 5 = .ok (.putfield 180, 3) := by decide +kernel
theorem dX12_begins_8 : decode cX12_begins 8 = .ok (.aload_n 0, 1) := by decide +kernel
theorem dX12_begins_9 : decode cX12_begins 9 = .ok (.iconst 0, 1) := by decide +kernel
theorem dX12_begins_10 : decode cX12_begins 10 = .ok (.putfield 177, 3) := by decide +kernel
theorem dX12_begins_13 : decode cX12_begins 13 = .ok (.aload_n 0, 1) := by decide +kernel
theorem dX12_begins_14 : decode cX12_begins 14 = .ok (.iconst 0, 1) := by decide +kernel
theorem dX12_begins_15 : decode cX12_begins 15 = .ok (.putfield 183, 3) := by decide +kernel
theorem dX12_begins_18 : decode cX12_begins 18 = .ok (.aload_n 0, 1) := by decide +kernel
theorem dX12_begins_19 : decode cX12_begins 19 = .ok (.invokevirtual 249, 3) := by decide +kernel
theorem dX12_begins_22 : decode cX12_begins 22 = .ok (.return_, 1) := by decide +kernel
theorem dX12_readsAll_0 : decode cX12_readsAll 0 = .ok (.aload_n 0, 1) := by decide +kernel
theorem dX12_readsAll_1 : decode cX12_readsAll 1 = .ok (.getfield 13, 3) := by decide +kernel
theorem dX12_readsAll_4 : decode cX12_readsAll 4 = .ok (.iconst 4, 1) := by decide +kernel
theorem dX12_readsAll_5 : decode cX12_readsAll 5 = .ok (.iconst 0, 1) := by decide +kernel
theorem dX12_readsAll_6 : decode cX12_readsAll 6 = .ok (.iastore, 1) := by decide +kernel
theorem dX12_readsAll_7 : decode cX12_readsAll 7 = .ok (.aload_n 0, 1) := by decide +kernel
theorem dX12_readsAll_8 : decode cX12_readsAll 8 = .ok (.getfield 13, 3) := by decide +kernel
theorem dX12_readsAll_11 : decode cX12_readsAll 11 = .ok (.iconst 5, 1) := by decide +kernel
theorem dX12_readsAll_12 : decode cX12_readsAll 12 = .ok (.iconst 0, 1) := by decide +kernel
theorem dX12_readsAll_13 : decode cX12_readsAll 13 = .ok (.iastore, 1) := by decide +kernel
theorem dX12_readsAll_14 : decode cX12_readsAll 14 = .ok (.aload_n 0, 1) := by decide +kernel
theorem dX12_readsAll_15 : decode cX12_readsAll 15 = .ok (.getfield 13, 3) := by decide +kernel
theorem dX12_readsAll_18 : decode cX12_readsAll 18 = .ok (.bipush 6, 2) := by decide +kernel
theorem dX12_readsAll_20 : decode cX12_readsAll 20 = .ok (.iconst 1, 1) := by decide +kernel
theorem dX12_readsAll_21 : decode cX12_readsAll 21 = .ok (.iastore, 1) := by decide +kernel
theorem dX12_readsAll_22 : decode cX12_readsAll 22 = .ok (.aload_n 0, 1) := by decide +kernel
theorem dX12_readsAll_23 : decode cX12_readsAll 23 = .ok (.getfield 13, 3) := by decide +kernel
theorem dX12_readsAll_26 : decode cX12_readsAll 26 = .ok (.bipush 7, 2) := by decide +kernel
theorem dX12_readsAll_28 : decode cX12_readsAll 28 = .ok (.iconst 0, 1) := by decide +kernel
theorem dX12_readsAll_29 : decode cX12_readsAll 29 = .ok (.iastore, 1) := by decide +kernel
theorem dX12_readsAll_30 : decode cX12_readsAll 30 = .ok (.iconst 2, 1) := by decide +kernel
theorem dX12_readsAll_31 : decode cX12_readsAll 31 = .ok (.istore_n 1, 1) := by decide +kernel
theorem dX12_readsAll_32 : decode cX12_readsAll 32 = .ok (.iload_n 1, 1) := by decide +kernel
theorem dX12_readsAll_33 : decode cX12_readsAll 33 = .ok (.iconst 4, 1) := by decide +kernel
theorem dX12_readsAll_34 : decode cX12_readsAll 34 = .ok (.if_icmp .ge 27, 3) := by decide +kernel
theorem dX12_readsAll_37 : decode cX12_readsAll 37 = .ok (.aload_n 0, 1) := by decide +kernel
theorem dX12_readsAll_38 : decode cX12_readsAll 38 = .ok (.getfield 47, 3) := by decide +kernel
theorem dX12_readsAll_41 : decode cX12_readsAll 41 = .ok (.iload_n 1, 1) := by decide +kernel
theorem dX12_readsAll_42 : decode cX12_readsAll 42 = .ok (.sipush 1000, 3) := by decide +kernel
theorem dX12_readsAll_45 : decode cX12_readsAll 45 = .ok (.iastore, 1) := by decide +kernel
theorem dX12_readsAll_46 : decode cX12_readsAll 46 = .ok (.aload_n 0, 1) := by decide +kernel
theorem dX12_readsAll_47 : decode cX12_readsAll 47 = .ok (.getfield 50, 3) := by decide +kernel
theorem dX12_readsAll_50 : decode cX12_readsAll 50 = .ok (.iload_n 1, 1) := by decide +kernel
theorem dX12_readsAll_51 : decode cX12_readsAll 51 = .ok (.sipush 1000, 3) := by decide +kernel
theorem dX12_readsAll_54 : decode cX12_readsAll 54 = .ok (.iastore, 1) := by decide +kernel
theorem dX12_readsAll_55 : decode cX12_readsAll 55 = .ok (.iinc 1 1, 3) := by decide +kernel
theorem dX12_readsAll_58 : decode cX12_readsAll 58 = .ok (.goto (-26), 3) := by decide +kernel
theorem dX12_readsAll_61 : decode cX12_readsAll 61 = .ok (.aload_n 0, 1) := by decide +kernel
theorem dX12_readsAll_62 : decode cX12_readsAll 62 = .ok (.iconst 0, 1) := by decide +kernel
theorem dX12_readsAll_63 : decode cX12_readsAll 63 = .ok (.putfield 337, 3) := by decide +kernel
theorem dX12_readsAll_66 : decode cX12_readsAll 66 = .ok (.aload_n 0, 1) := by decide +kernel
theorem dX12_readsAll_67 : decode cX12_readsAll 67 = .ok (.sipush 1000, 3) := by decide +kernel
theorem dX12_readsAll_70 : decode cX12_readsAll 70 = .ok (.putfield 210, 3) := by decide +kernel
theorem dX12_readsAll_73 : decode cX12_readsAll 73 = .ok (.aload_n 0, 1) := by decide +kernel
theorem dX12_readsAll_74 : decode cX12_readsAll 74 = .ok (.invokevirtual 344, 3) := by decide +kernel
theorem dX12_readsAll_77 : decode cX12_readsAll 77 = .ok (.aload_n 0, 1) := by decide +kernel
theorem dX12_readsAll_78 : decode cX12_readsAll 78 = .ok (.getfield 196, 3) := by decide +kernel
theorem dX12_readsAll_81 : decode cX12_readsAll 81 = .ok (.ifCond .eq 122, 3) := by decide +kernel
theorem dX12_readsAll_84 : decode cX12_readsAll 84 = .ok (.aload_n 0, 1) := by decide +kernel
theorem dX12_readsAll_85 : decode cX12_readsAll 85 = .ok (.ldc2_w 265, 3) := by decide +kernel
theorem dX12_readsAll_88 : decode cX12_readsAll 88 = .ok (.invokevirtual 234, 3) := by decide +kernel
theorem dX12_readsAll_91 : decode cX12_readsAll 91 = .ok (.ifCond .eq 10, 3) := by decide +kernel
theorem dX12_readsAll_94 : decode cX12_readsAll 94 = .ok (.aload_n 0, 1) := by decide +kernel
theorem dX12_readsAll_95 : decode cX12_readsAll 95 = .ok (.invokevirtual 347, 3) := by decide +kernel
theorem dX12_readsAll_98 : decode cX12_readsAll 98 = .ok (.goto 95, 3) := by decide +kernel
theorem dX12_readsAll_101 : decode cX12_readsAll 101 = .ok (.aload_n 0, 1) := by decide +kernel
theorem dX12_readsAll_102 : decode cX12_readsAll 102 = .ok (.ldc2_w 273, 3) := by decide +kernel
theorem dX12_readsAll_105 : decode cX12_readsAll 105 = .ok (.invokevirtual 234, 3) := by decide +kernel
theorem dX12_readsAll_108 : decode cX12_readsAll 108 = .ok (.ifCond .eq 10, 3) := by decide +kernel
theorem dX12_readsAll_111 : decode cX12_readsAll 111 = .ok (.aload_n 0, 1) := by decide +kernel
theorem dX12_readsAll_112 : decode cX12_readsAll 112 = .ok (.invokevirtual 350, 3) := by decide +kernel
theorem dX12_readsAll_115 : decode cX12_readsAll 115 = .ok (.goto 78, 3) := by decide +kernel
theorem dX12_readsAll_118 : decode cX12_readsAll 118 = .ok (.aload_n 0, 1) := by decide +kernel
theorem dX12_readsAll_119 : decode cX12_readsAll 119 = .ok (.ldc2_w 277, 3) := by decide +kernel
theorem dX12_readsAll_122 : decode cX12_readsAll 122 = .ok (.invokevirtual 234, 3) := by decide +kernel
theorem dX12_readsAll_125 : decode cX12_readsAll 125 = .ok (.ifCond .eq 10, 3) := by decide +kernel
theorem dX12_readsAll_128 : decode cX12_readsAll 128 = .ok (.aload_n 0, 1) := by decide +kernel
theorem dX12_readsAll_129 : decode cX12_readsAll 129 = .ok (.invokevirtual 353, 3) := by decide +kernel
theorem dX12_readsAll_132 : decode cX12_readsAll 132 = .ok (.goto 61, 3) := by decide +kernel
theorem dX12_readsAll_135 : decode cX12_readsAll 135 = .ok (.aload_n 0, 1) := by decide +kernel
theorem dX12_readsAll_136 : decode cX12_readsAll 136 = .ok (.ldc2_w 279, 3) := by decide +kernel
theorem dX12_readsAll_139 : decode cX12_readsAll 139 = .ok (.invokevirtual 234, 3) := by decide +kernel
theorem dX12_readsAll_142 : decode cX12_readsAll 142 = .ok (.ifCond .eq 10, 3) := by decide +kernel
theorem dX12_readsAll_145 : decode cX12_readsAll 145 = .ok (.aload_n 0, 1) := by decide +kernel
theorem dX12_readsAll_146 : decode cX12_readsAll 146 = .ok (.invokevirtual 356, 3) := by decide +kernel
theorem dX12_readsAll_149 : decode cX12_readsAll 149 = .ok (.goto 44, 3) := by decide +kernel
theorem dX12_readsAll_152 : decode cX12_readsAll 152 = .ok (.aload_n 0, 1) := by decide +kernel
theorem dX12_readsAll_153 : decode cX12_readsAll 153 = .ok (.ldc2_w 281, 3) := by decide +kernel
theorem dX12_readsAll_156 : decode cX12_readsAll 156 = .ok (.invokevirtual 234, 3) := by decide +kernel
theorem dX12_readsAll_159 : decode cX12_readsAll 159 = .ok (.ifCond .eq 11, 3) := by decide +kernel
theorem dX12_readsAll_162 : decode cX12_readsAll 162 = .ok (.aload_n 0, 1) := by decide +kernel
theorem dX12_readsAll_163 : decode cX12_readsAll 163 = .ok (.iconst 0, 1) := by decide +kernel
theorem dX12_readsAll_164 : decode cX12_readsAll 164 = .ok (.invokevirtual 359, 3) := by decide +kernel
theorem dX12_readsAll_167 : decode cX12_readsAll 167 = .ok (.goto 26, 3) := by decide +kernel
theorem dX12_readsAll_170 : decode cX12_readsAll 170 = .ok (.aload_n 0, 1) := by decide +kernel
theorem dX12_readsAll_171 : decode cX12_readsAll 171 = .ok (.ldc2_w 283, 3) := by decide +kernel
theorem dX12_readsAll_174 : decode cX12_readsAll 174 = .ok (.invokevirtual 234, 3) := by decide +kernel
theorem dX12_readsAll_177 : decode cX12_readsAll 177 = .ok (.ifCond .eq 11, 3) := by decide +kernel
theorem dX12_readsAll_180 : decode cX12_readsAll 180 = .ok (.aload_n 0, 1) := by decide +kernel
theorem dX12_readsAll_181 : decode cX12_readsAll 181 = .ok (.iconst 1, 1) := by decide +kernel
theorem dX12_readsAll_182 : decode cX12_readsAll 182 = .ok (.invokevirtual 359, 3) := by decide +kernel
theorem dX12_readsAll_185 : decode cX12_readsAll 185 = .ok (.goto 8, 3) := by decide +kernel
theorem dX12_readsAll_188 : decode cX12_readsAll 188 = .ok (.aload_n 0, 1) := by decide +kernel
theorem dX12_readsAll_189 : decode cX12_readsAll 189 = .ok (.iconst 1, 1) := by decide +kernel
theorem dX12_readsAll_190 : decode cX12_readsAll 190 = .ok (.invokevirtual 242, 3) := by decide +kernel
theorem dX12_readsAll_193 : decode cX12_readsAll 193 = .ok (.istore_n 1, 1) := by decide +kernel
theorem dX12_readsAll_194 : decode cX12_readsAll 194 = .ok (.iload_n 1, 1) := by decide +kernel
theorem dX12_readsAll_195 : decode cX12_readsAll 195 = .ok (.ifCond .ne 5, 3) := by decide +kernel
theorem dX12_readsAll_198 : decode cX12_readsAll 198 = .ok (.iconst 0, 1) := by decide +kernel
theorem dX12_readsAll_199 : decode cX12_readsAll 199 = .ok (.ireturn, 1) := by decide +kernel
theorem dX12_readsAll_200 : decode cX12_readsAll 200 = .ok (.goto (-123), 3) := by decide +kernel
theorem dX12_readsAll_203 : decode cX12_readsAll 203 = .ok (.iconst 1, 1) := by decide +kernel
theorem dX12_readsAll_204 : decode cX12_readsAll 204 = .ok (.ireturn, 1) := by decide +kernel
theorem dX12_shifts_0 : decode cX12_shifts 0 = .ok (.iconst 0, 1) := by decide +kernel
theorem dX12_shifts_1 : decode cX12_shifts 1 = .ok (.istore_n 2, 1) := by decide +kernel
theorem dX12_shifts_2 : decode cX12_shifts 2 = .ok (.iload_n 2, 1) := by decide +kernel
theorem dX12_shifts_3 : decode cX12_shifts 3 = .ok (.iload_n 1, 1) := by decide +kernel
theorem dX12_shifts_4 : decode cX12_shifts 4 = .ok (.if_icmp .ge 17, 3) := by decide +kernel
theorem dX12_shifts_7 : decode cX12_shifts 7 = .ok (.aload_n 0, 1) := by decide +kernel
theorem dX12_shifts_8 : decode cX12_shifts 8 = .ok (.iload_n 2, 1) := by decide +kernel
theorem dX12_shifts_9 : decode cX12_shifts 9 = .ok (.aload_n 0, 1) := by decide +kernel
theorem dX12_shifts_10 : decode cX12_shifts 10 = .ok (.iload_n 1, 1) := by decide +kernel
theorem dX12_shifts_11 : decode cX12_shifts 11 = .ok (.iload_n 2, 1) := by decide +kernel
theorem dX12_shifts_12 : decode cX12_shifts 12 = .ok (.iadd, 1) := by decide +kernel
theorem dX12_shifts_13 : decode cX12_shifts 13 = .ok (.iaload, 1) := by decide +kernel
theorem dX12_shifts_14 : decode cX12_shifts 14 = .ok (.iastore, 1) := by decide +kernel
theorem dX12_shifts_15 : decode cX12_shifts 15 = .ok (.iinc 2 1, 3) := by decide +kernel
theorem dX12_shifts_18 : decode cX12_shifts 18 = .ok (.goto (-16), 3) := by decide +kernel
theorem dX12_shifts_21 : decode cX12_shifts 21 = .ok (.return_, 1) := by decide +kernel
theorem dX12_shiftsNames_0 : decode cX12_shiftsNames 0 = .ok (.iconst 0, 1) := by decide +kernel
theorem dX12_shiftsNames_1 : decode cX12_shiftsNames 1 = .ok (.istore_n 2, 1) := by decide +kernel
theorem dX12_shiftsNames_2 : decode cX12_shiftsNames 2 = .ok (.iload_n 2, 1) := by decide +kernel
theorem dX12_shiftsNames_3 : decode cX12_shiftsNames 3 = .ok (.iload_n 1, 1) := by decide +kernel
theorem dX12_shiftsNames_4 : decode cX12_shiftsNames 4 = .ok (.if_icmp .ge 17, 3) := by decide +kernel
theorem dX12_shiftsNames_7 : decode cX12_shiftsNames 7 = .ok (.aload_n 0, 1) := by decide +kernel
theorem dX12_shiftsNames_8 : decode cX12_shiftsNames 8 = .ok (.iload_n 2, 1) := by decide +kernel
theorem dX12_shiftsNames_9 : decode cX12_shiftsNames 9 = .ok (.aload_n 0, 1) := by decide +kernel
theorem dX12_shiftsNames_10 : decode cX12_shiftsNames 10 = .ok (.iload_n 1, 1) := by decide +kernel
theorem dX12_shiftsNames_11 : decode cX12_shiftsNames 11 = .ok (.iload_n 2, 1) := by decide +kernel
theorem dX12_shiftsNames_12 : decode cX12_shiftsNames 12 = .ok (.iadd, 1) := by decide +kernel
theorem dX12_shiftsNames_13 : decode cX12_shiftsNames 13 = .ok (.laload, 1) := by decide +kernel
theorem dX12_shiftsNames_14 : decode cX12_shiftsNames 14 = .ok (.lastore, 1) := by decide +kernel
theorem dX12_shiftsNames_15 : decode cX12_shiftsNames 15 = .ok (.iinc 2 1, 3) := by decide +kernel
theorem dX12_shiftsNames_18 : decode cX12_shiftsNames 18 = .ok (.goto (-16), 3) := by decide +kernel
theorem dX12_shiftsNames_21 : decode cX12_shiftsNames 21 = .ok (.return_, 1) := by decide +kernel
theorem dX12_lays_0 : decode cX12_lays 0 = .ok (.aload_n 0, 1) := by decide +kernel
theorem dX12_lays_1 : decode cX12_lays 1 = .ok (.getfield 13, 3) := by decide +kernel
theorem dX12_lays_4 : decode cX12_lays 4 = .ok (.iconst 4, 1) := by decide +kernel
theorem dX12_lays_5 : decode cX12_lays 5 = .ok (.invokestatic 362, 3) := by decide +kernel
theorem dX12_lays_8 : decode cX12_lays 8 = .ok (.aload_n 0, 1) := by decide +kernel
theorem dX12_lays_9 : decode cX12_lays 9 = .ok (.getfield 16, 3) := by decide +kernel
theorem dX12_lays_12 : decode cX12_lays 12 = .ok (.bipush 6, 2) := by decide +kernel
theorem dX12_lays_14 : decode cX12_lays 14 = .ok (.invokestatic 366, 3) := by decide +kernel
theorem dX12_lays_17 : decode cX12_lays 17 = .ok (.aload_n 0, 1) := by decide +kernel
theorem dX12_lays_18 : decode cX12_lays 18 = .ok (.getfield 20, 3) := by decide +kernel
theorem dX12_lays_21 : decode cX12_lays 21 = .ok (.bipush 6, 2) := by decide +kernel
theorem dX12_lays_23 : decode cX12_lays 23 = .ok (.invokestatic 366, 3) := by decide +kernel
theorem dX12_lays_26 : decode cX12_lays 26 = .ok (.aload_n 0, 1) := by decide +kernel
theorem dX12_lays_27 : decode cX12_lays 27 = .ok (.getfield 23, 3) := by decide +kernel
theorem dX12_lays_30 : decode cX12_lays 30 = .ok (.bipush 6, 2) := by decide +kernel
theorem dX12_lays_32 : decode cX12_lays 32 = .ok (.invokestatic 362, 3) := by decide +kernel
theorem dX12_lays_35 : decode cX12_lays 35 = .ok (.aload_n 0, 1) := by decide +kernel
theorem dX12_lays_36 : decode cX12_lays 36 = .ok (.getfield 26, 3) := by decide +kernel
theorem dX12_lays_39 : decode cX12_lays 39 = .ok (.bipush 6, 2) := by decide +kernel
theorem dX12_lays_41 : decode cX12_lays 41 = .ok (.invokestatic 362, 3) := by decide +kernel
theorem dX12_lays_44 : decode cX12_lays 44 = .ok (.aload_n 0, 1) := by decide +kernel
theorem dX12_lays_45 : decode cX12_lays 45 = .ok (.getfield 29, 3) := by decide +kernel
theorem dX12_lays_48 : decode cX12_lays 48 = .ok (.bipush 6, 2) := by decide +kernel
theorem dX12_lays_50 : decode cX12_lays 50 = .ok (.invokestatic 362, 3) := by decide +kernel
theorem dX12_lays_53 : decode cX12_lays 53 = .ok (.aload_n 0, 1) := by decide +kernel
theorem dX12_lays_54 : decode cX12_lays 54 = .ok (.getfield 32, 3) := by decide +kernel
theorem dX12_lays_57 : decode cX12_lays 57 = .ok (.bipush 6, 2) := by decide +kernel
theorem dX12_lays_59 : decode cX12_lays 59 = .ok (.invokestatic 362, 3) := by decide +kernel
theorem dX12_lays_62 : decode cX12_lays 62 = .ok (.aload_n 0, 1) := by decide +kernel
theorem dX12_lays_63 : decode cX12_lays 63 = .ok (.getfield 35, 3) := by decide +kernel
theorem dX12_lays_66 : decode cX12_lays 66 = .ok (.bipush 6, 2) := by decide +kernel
theorem dX12_lays_68 : decode cX12_lays 68 = .ok (.invokestatic 362, 3) := by decide +kernel
theorem dX12_lays_71 : decode cX12_lays 71 = .ok (.aload_n 0, 1) := by decide +kernel
theorem dX12_lays_72 : decode cX12_lays 72 = .ok (.getfield 38, 3) := by decide +kernel
theorem dX12_lays_75 : decode cX12_lays 75 = .ok (.bipush 6, 2) := by decide +kernel
theorem dX12_lays_77 : decode cX12_lays 77 = .ok (.invokestatic 362, 3) := by decide +kernel
theorem dX12_lays_80 : decode cX12_lays 80 = .ok (.aload_n 0, 1) := by decide +kernel
theorem dX12_lays_81 : decode cX12_lays 81 = .ok (.getfield 41, 3) := by decide +kernel
theorem dX12_lays_84 : decode cX12_lays 84 = .ok (.bipush 6, 2) := by decide +kernel
theorem dX12_lays_86 : decode cX12_lays 86 = .ok (.invokestatic 362, 3) := by decide +kernel
theorem dX12_lays_89 : decode cX12_lays 89 = .ok (.aload_n 0, 1) := by decide +kernel
theorem dX12_lays_90 : decode cX12_lays 90 = .ok (.getfield 44, 3) := by decide +kernel
theorem dX12_lays_93 : decode cX12_lays 93 = .ok (.bipush 12, 2) := by decide +kernel
theorem dX12_lays_95 : decode cX12_lays 95 = .ok (.invokestatic 362, 3) := by decide +kernel
theorem dX12_lays_98 : decode cX12_lays 98 = .ok (.aload_n 0, 1) := by decide +kernel
theorem dX12_lays_99 : decode cX12_lays 99 = .ok (.getfield 53, 3) := by decide +kernel
theorem dX12_lays_102 : decode cX12_lays 102 = .ok (.sipush 1000, 3) := by decide +kernel
theorem dX12_lays_105 : decode cX12_lays 105 = .ok (.invokestatic 362, 3) := by decide +kernel
theorem dX12_lays_108 : decode cX12_lays 108 = .ok (.iconst 0, 1) := by decide +kernel
theorem dX12_lays_109 : decode cX12_lays 109 = .ok (.istore_n 1, 1) := by decide +kernel
theorem dX12_lays_110 : decode cX12_lays 110 = .ok (.iload_n 1, 1) := by decide +kernel
theorem dX12_lays_111 : decode cX12_lays 111 = .ok (.iconst 2, 1) := by decide +kernel
theorem dX12_lays_112 : decode cX12_lays 112 = .ok (.if_icmp .ge 45, 3) := by decide +kernel
theorem dX12_lays_115 : decode cX12_lays 115 = .ok (.aload_n 0, 1) := by decide +kernel
theorem dX12_lays_116 : decode cX12_lays 116 = .ok (.getfield 47, 3) := by decide +kernel
theorem dX12_lays_119 : decode cX12_lays 119 = .ok (.iload_n 1, 1) := by decide +kernel
theorem dX12_lays_120 : decode cX12_lays 120 = .ok (.aload_n 0, 1) := by decide +kernel
theorem dX12_lays_121 : decode cX12_lays 121 = .ok (.getfield 47, 3) := by decide +kernel
theorem dX12_lays_124 : decode cX12_lays 124 = .ok (.iconst 2, 1) := by decide +kernel
theorem dX12_lays_125 : decode cX12_lays 125 = .ok (.iload_n 1, 1) := by decide +kernel
theorem dX12_lays_126 : decode cX12_lays 126 = .ok (.iadd, 1) := by decide +kernel
theorem dX12_lays_127 : decode cX12_lays 127 = .ok (.iaload, 1) := by decide +kernel
theorem dX12_lays_128 : decode cX12_lays 128 = .ok (.sipush 1000, 3) := by decide +kernel
theorem dX12_lays_131 : decode cX12_lays 131 = .ok (.isub, 1) := by decide +kernel
theorem dX12_lays_132 : decode cX12_lays 132 = .ok (.iastore, 1) := by decide +kernel
theorem dX12_lays_133 : decode cX12_lays 133 = .ok (.aload_n 0, 1) := by decide +kernel
theorem dX12_lays_134 : decode cX12_lays 134 = .ok (.getfield 50, 3) := by decide +kernel
theorem dX12_lays_137 : decode cX12_lays 137 = .ok (.iload_n 1, 1) := by decide +kernel
theorem dX12_lays_138 : decode cX12_lays 138 = .ok (.aload_n 0, 1) := by decide +kernel
theorem dX12_lays_139 : decode cX12_lays 139 = .ok (.getfield 50, 3) := by decide +kernel
theorem dX12_lays_142 : decode cX12_lays 142 = .ok (.iconst 2, 1) := by decide +kernel
theorem dX12_lays_143 : decode cX12_lays 143 = .ok (.iload_n 1, 1) := by decide +kernel
theorem dX12_lays_144 : decode cX12_lays 144 = .ok (.iadd, 1) := by decide +kernel
theorem dX12_lays_145 : decode cX12_lays 145 = .ok (.iaload, 1) := by decide +kernel
theorem dX12_lays_146 : decode cX12_lays 146 = .ok (.sipush 1000, 3) := by decide +kernel
theorem dX12_lays_149 : decode cX12_lays 149 = .ok (.isub, 1) := by decide +kernel
theorem dX12_lays_150 : decode cX12_lays 150 = .ok (.iastore, 1) := by decide +kernel
theorem dX12_lays_151 : decode cX12_lays 151 = .ok (.iinc 1 1, 3) := by decide +kernel
theorem dX12_lays_154 : decode cX12_lays 154 = .ok (.goto (-44), 3) := by decide +kernel
theorem dX12_lays_157 : decode cX12_lays 157 = .ok (.return_, 1) := by decide +kernel
theorem dX12_copies_0 : decode cX12_copies 0 = .ok (.iconst 0, 1) := by decide +kernel
theorem dX12_copies_1 : decode cX12_copies 1 = .ok (.istore 4, 2) := by decide +kernel
theorem dX12_copies_3 : decode cX12_copies 3 = .ok (.iload 4, 2) := by decide +kernel
theorem dX12_copies_5 : decode cX12_copies 5 = .ok (.bipush 13, 2) := by decide +kernel
theorem dX12_copies_7 : decode cX12_copies 7 = .ok (.if_icmp .ge 21, 3) := by decide +kernel
theorem dX12_copies_10 : decode cX12_copies 10 = .ok (.aload_n 2, 1) := by decide +kernel
theorem dX12_copies_11 : decode cX12_copies 11 = .ok (.iload_n 3, 1) := by decide +kernel
theorem dX12_copies_12 : decode cX12_copies 12 = .ok (.iload 4, 2) := by decide +kernel
theorem dX12_copies_14 : decode cX12_copies 14 = .ok (.iadd, 1) := by decide +kernel
theorem dX12_copies_15 : decode cX12_copies 15 = .ok (.aload_n 0, 1) := by decide +kernel
theorem dX12_copies_16 : decode cX12_copies 16 = .ok (.iload_n 1, 1) := by decide +kernel
theorem dX12_copies_17 : decode cX12_copies 17 = .ok (.iload 4, 2) := by decide +kernel
theorem dX12_copies_19 : decode cX12_copies 19 = .ok (.iadd, 1) := by decide +kernel
theorem dX12_copies_20 : decode cX12_copies 20 = .ok (.iaload, 1) := by decide +kernel
theorem dX12_copies_21 : decode cX12_copies 21 = .ok (.iastore, 1) := by decide +kernel
theorem dX12_copies_22 : decode cX12_copies 22 = .ok (.iinc 4 1, 3) := by decide +kernel
theorem dX12_copies_25 : decode cX12_copies 25 = .ok (.goto (-22), 3) := by decide +kernel
theorem dX12_copies_28 : decode cX12_copies 28 = .ok (.return_, 1) := by decide +kernel
theorem dX12_readsLine_0 : decode cX12_readsLine 0 = .ok (.aload_n 0, 1) := by decide +kernel
theorem dX12_readsLine_1 : decode cX12_readsLine 1 = .ok (.ldc2_w 285, 3) := by decide +kernel
theorem dX12_readsLine_4 : decode cX12_readsLine 4 = .ok (.invokevirtual 234, 3) := by decide +kernel
theorem dX12_readsLine_7 : decode cX12_readsLine 7 = .ok (.ifCond .eq 7, 3) := by decide +kernel
theorem dX12_readsLine_10 : decode cX12_readsLine 10 = .ok (.iconst 0, 1) := by decide +kernel
theorem dX12_readsLine_11 : decode cX12_readsLine 11 = .ok (.goto 46, 3) := by decide +kernel
theorem dX12_readsLine_14 : decode cX12_readsLine 14 = .ok (.aload_n 0, 1) := by decide +kernel
theorem dX12_readsLine_15 : decode cX12_readsLine 15 = .ok (.ldc2_w 287, 3) := by decide +kernel
theorem dX12_readsLine_18 : decode cX12_readsLine 18 = .ok (.invokevirtual 234, 3) := by decide +kernel
theorem dX12_readsLine_21 : decode cX12_readsLine 21 = .ok (.ifCond .eq 7, 3) := by decide +kernel
theorem dX12_readsLine_24 : decode cX12_readsLine 24 = .ok (.iconst 1, 1) := by decide +kernel
theorem dX12_readsLine_25 : decode cX12_readsLine 25 = .ok (.goto 32, 3) := by decide +kernel
theorem dX12_readsLine_28 : decode cX12_readsLine 28 = .ok (.aload_n 0, 1) := by decide +kernel
theorem dX12_readsLine_29 : decode cX12_readsLine 29 = .ok (.ldc2_w 289, 3) := by decide +kernel
theorem dX12_readsLine_32 : decode cX12_readsLine 32 = .ok (.invokevirtual 234, 3) := by decide +kernel
theorem dX12_readsLine_35 : decode cX12_readsLine 35 = .ok (.ifCond .eq 7, 3) := by decide +kernel
theorem dX12_readsLine_38 : decode cX12_readsLine 38 = .ok (.iconst 2, 1) := by decide +kernel
theorem dX12_readsLine_39 : decode cX12_readsLine 39 = .ok (.goto 18, 3) := by decide +kernel
theorem dX12_readsLine_42 : decode cX12_readsLine 42 = .ok (.aload_n 0, 1) := by decide +kernel
theorem dX12_readsLine_43 : decode cX12_readsLine 43 = .ok (.ldc2_w 291, 3) := by decide +kernel
theorem dX12_readsLine_46 : decode cX12_readsLine 46 = .ok (.invokevirtual 234, 3) := by decide +kernel
theorem dX12_readsLine_49 : decode cX12_readsLine 49 = .ok (.ifCond .eq 7, 3) := by decide +kernel
theorem dX12_readsLine_52 : decode cX12_readsLine 52 = .ok (.iconst 3, 1) := by decide +kernel
theorem dX12_readsLine_53 : decode cX12_readsLine 53 = .ok (.goto 4, 3) := by decide +kernel
theorem dX12_readsLine_56 : decode cX12_readsLine 56 = .ok (.iconst (-1), 1) := by decide +kernel
theorem dX12_readsLine_57 : decode cX12_readsLine 57 = .ok (.istore_n 1, 1) := by decide +kernel
theorem dX12_readsLine_58 : decode cX12_readsLine 58 = .ok (.iload_n 1, 1) := by decide +kernel
theorem dX12_readsLine_59 : decode cX12_readsLine 59 = .ok (.ifCond .ge 9, 3) := by decide +kernel
theorem dX12_readsLine_62 : decode cX12_readsLine 62 = .ok (.aload_n 0, 1) := by decide +kernel
theorem dX12_readsLine_63 : decode cX12_readsLine 63 = .ok (.iconst 1, 1) := by decide +kernel
theorem dX12_readsLine_64 : decode cX12_readsLine 64 = .ok (.invokevirtual 242, 3) := by decide +kernel
theorem dX12_readsLine_67 : decode cX12_readsLine 67 = .ok (.ireturn, 1) := by decide +kernel
theorem dX12_readsLine_68 : decode cX12_readsLine 68 = .ok (.aload_n 0, 1) := by decide +kernel
theorem dX12_readsLine_69 : decode cX12_readsLine 69 = .ok (.getfield 93, 3) := by decide +kernel
theorem dX12_readsLine_72 : decode cX12_readsLine 72 = .ok (.iconst 5, 1) := by decide +kernel
theorem dX12_readsLine_73 : decode cX12_readsLine 73 = .ok (.iaload, 1) := by decide +kernel
theorem dX12_readsLine_74 : decode cX12_readsLine 74 = .ok (.bipush 40, 2) := by decide +kernel
theorem dX12_readsLine_76 : decode cX12_readsLine 76 = .ok (.if_icmp .ne 9, 3) := by decide +kernel
theorem dX12_readsLine_79 : decode cX12_readsLine 79 = .ok (.aload_n 0, 1) := by decide +kernel
theorem dX12_readsLine_80 : decode cX12_readsLine 80 = .ok (.iconst 5, 1) := by decide +kernel
theorem dX12_readsLine_81 : decode cX12_readsLine 81 = .ok (.invokevirtual 242, 3) := by decide +kernel
theorem dX12_readsLine_84 : decode cX12_readsLine 84 = .ok (.ireturn, 1) := by decide +kernel
theorem dX12_readsLine_85 : decode cX12_readsLine 85 = .ok (.aload_n 0, 1) := by decide +kernel
theorem dX12_readsLine_86 : decode cX12_readsLine 86 = .ok (.invokevirtual 249, 3) := by decide +kernel
theorem dX12_readsLine_89 : decode cX12_readsLine 89 = .ok (.sipush 200, 3) := by decide +kernel
theorem dX12_readsLine_92 : decode cX12_readsLine 92 = .ok (.aload_n 0, 1) := by decide +kernel
theorem dX12_readsLine_93 : decode cX12_readsLine 93 = .ok (.getfield 93, 3) := by decide +kernel
theorem dX12_readsLine_96 : decode cX12_readsLine 96 = .ok (.iconst 5, 1) := by decide +kernel
theorem dX12_readsLine_97 : decode cX12_readsLine 97 = .ok (.iaload, 1) := by decide +kernel
theorem dX12_readsLine_98 : decode cX12_readsLine 98 = .ok (.iadd, 1) := by decide +kernel
theorem dX12_readsLine_99 : decode cX12_readsLine 99 = .ok (.istore_n 2, 1) := by decide +kernel
theorem dX12_readsLine_100 : decode cX12_readsLine 100 = .ok (.aload_n 0, 1) := by decide +kernel
theorem dX12_readsLine_101 : decode cX12_readsLine 101 = .ok (.getfield 96, 3) := by decide +kernel
theorem dX12_readsLine_104 : decode cX12_readsLine 104 = .ok (.iload_n 2, 1) := by decide +kernel
theorem dX12_readsLine_105 : decode cX12_readsLine 105 = .ok (.iload_n 1, 1) := by decide +kernel
theorem dX12_readsLine_106 : decode cX12_readsLine 106 = .ok (.iastore, 1) := by decide +kernel
theorem dX12_readsLine_107 : decode cX12_readsLine 107 = .ok (.iload_n 1, 1) := by decide +kernel
theorem dX12_readsLine_108 : decode cX12_readsLine 108 = .ok (.iconst 3, 1) := by decide +kernel
theorem dX12_readsLine_109 : decode cX12_readsLine 109 = .ok (.if_icmp .eq 46, 3) := by decide +kernel
theorem dX12_readsLine_112 : decode cX12_readsLine 112 = .ok (.aload_n 0, 1) := by decide +kernel
theorem dX12_readsLine_113 : decode cX12_readsLine 113 = .ok (.invokevirtual 315, 3) := by decide +kernel
theorem dX12_readsLine_116 : decode cX12_readsLine 116 = .ok (.ifCond .eq 9, 3) := by decide +kernel
theorem dX12_readsLine_119 : decode cX12_readsLine 119 = .ok (.aload_n 0, 1) := by decide +kernel
theorem dX12_readsLine_120 : decode cX12_readsLine 120 = .ok (.iconst 1, 1) := by decide +kernel
theorem dX12_readsLine_121 : decode cX12_readsLine 121 = .ok (.invokevirtual 242, 3) := by decide +kernel
theorem dX12_readsLine_124 : decode cX12_readsLine 124 = .ok (.ireturn, 1) := by decide +kernel
theorem dX12_readsLine_125 : decode cX12_readsLine 125 = .ok (.aload_n 0, 1) := by decide +kernel
theorem dX12_readsLine_126 : decode cX12_readsLine 126 = .ok (.getfield 99, 3) := by decide +kernel
theorem dX12_readsLine_129 : decode cX12_readsLine 129 = .ok (.iload_n 2, 1) := by decide +kernel
theorem dX12_readsLine_130 : decode cX12_readsLine 130 = .ok (.aload_n 0, 1) := by decide +kernel
theorem dX12_readsLine_131 : decode cX12_readsLine 131 = .ok (.iconst 0, 1) := by decide +kernel
theorem dX12_readsLine_132 : decode cX12_readsLine 132 = .ok (.invokevirtual 319, 3) := by decide +kernel
theorem dX12_readsLine_135 : decode cX12_readsLine 135 = .ok (.iastore, 1) := by decide +kernel
theorem dX12_readsLine_136 : decode cX12_readsLine 136 = .ok (.aload_n 0, 1) := by decide +kernel
theorem dX12_readsLine_137 : decode cX12_readsLine 137 = .ok (.getfield 99, 3) := by decide +kernel
theorem dX12_readsLine_140 : decode cX12_readsLine 140 = .ok (.iload_n 2, 1) := by decide +kernel
theorem dX12_readsLine_141 : decode cX12_readsLine 141 = .ok (.iaload, 1) := by decide +kernel
theorem dX12_readsLine_142 : decode cX12_readsLine 142 = .ok (.ifCond .ge 9, 3) := by decide +kernel
theorem dX12_readsLine_145 : decode cX12_readsLine 145 = .ok (.aload_n 0, 1) := by decide +kernel
theorem dX12_readsLine_146 : decode cX12_readsLine 146 = .ok (.iconst 2, 1) := by decide +kernel
theorem dX12_readsLine_147 : decode cX12_readsLine 147 = .ok (.invokevirtual 242, 3) := by decide +kernel
theorem dX12_readsLine_150 : decode cX12_readsLine 150 = .ok (.ireturn, 1) := by decide +kernel
theorem dX12_readsLine_151 : decode cX12_readsLine 151 = .ok (.aload_n 0, 1) := by decide +kernel
theorem dX12_readsLine_152 : decode cX12_readsLine 152 = .ok (.invokevirtual 249, 3) := by decide +kernel
theorem dX12_readsLine_155 : decode cX12_readsLine 155 = .ok (.iload_n 1, 1) := by decide +kernel
theorem dX12_readsLine_156 : decode cX12_readsLine 156 = .ok (.ifCond .ne 46, 3) := by decide +kernel
theorem dX12_readsLine_159 : decode cX12_readsLine 159 = .ok (.aload_n 0, 1) := by decide +kernel
theorem dX12_readsLine_160 : decode cX12_readsLine 160 = .ok (.invokevirtual 315, 3) := by decide +kernel
theorem dX12_readsLine_163 : decode cX12_readsLine 163 = .ok (.ifCond .eq 9, 3) := by decide +kernel
theorem dX12_readsLine_166 : decode cX12_readsLine 166 = .ok (.aload_n 0, 1) := by decide +kernel
theorem dX12_readsLine_167 : decode cX12_readsLine 167 = .ok (.iconst 1, 1) := by decide +kernel
theorem dX12_readsLine_168 : decode cX12_readsLine 168 = .ok (.invokevirtual 242, 3) := by decide +kernel
theorem dX12_readsLine_171 : decode cX12_readsLine 171 = .ok (.ireturn, 1) := by decide +kernel
theorem dX12_readsLine_172 : decode cX12_readsLine 172 = .ok (.aload_n 0, 1) := by decide +kernel
theorem dX12_readsLine_173 : decode cX12_readsLine 173 = .ok (.getfield 102, 3) := by decide +kernel
theorem dX12_readsLine_176 : decode cX12_readsLine 176 = .ok (.iload_n 2, 1) := by decide +kernel
theorem dX12_readsLine_177 : decode cX12_readsLine 177 = .ok (.aload_n 0, 1) := by decide +kernel
theorem dX12_readsLine_178 : decode cX12_readsLine 178 = .ok (.iconst 0, 1) := by decide +kernel
theorem dX12_readsLine_179 : decode cX12_readsLine 179 = .ok (.invokevirtual 322, 3) := by decide +kernel
theorem dX12_readsLine_182 : decode cX12_readsLine 182 = .ok (.iastore, 1) := by decide +kernel
theorem dX12_readsLine_183 : decode cX12_readsLine 183 = .ok (.aload_n 0, 1) := by decide +kernel
theorem dX12_readsLine_184 : decode cX12_readsLine 184 = .ok (.getfield 102, 3) := by decide +kernel
theorem dX12_readsLine_187 : decode cX12_readsLine 187 = .ok (.iload_n 2, 1) := by decide +kernel
theorem dX12_readsLine_188 : decode cX12_readsLine 188 = .ok (.iaload, 1) := by decide +kernel
theorem dX12_readsLine_189 : decode cX12_readsLine 189 = .ok (.ifCond .ge 9, 3) := by decide +kernel
theorem dX12_readsLine_192 : decode cX12_readsLine 192 = .ok (.aload_n 0, 1) := by decide +kernel
theorem dX12_readsLine_193 : decode cX12_readsLine 193 = .ok (.iconst 2, 1) := by decide +kernel
theorem dX12_readsLine_194 : decode cX12_readsLine 194 = .ok (.invokevirtual 242, 3) := by decide +kernel
theorem dX12_readsLine_197 : decode cX12_readsLine 197 = .ok (.ireturn, 1) := by decide +kernel
theorem dX12_readsLine_198 : decode cX12_readsLine 198 = .ok (.aload_n 0, 1) := by decide +kernel
theorem dX12_readsLine_199 : decode cX12_readsLine 199 = .ok (.invokevirtual 249, 3) := by decide +kernel
theorem dX12_readsLine_202 : decode cX12_readsLine 202 = .ok (.aload_n 0, 1) := by decide +kernel
theorem dX12_readsLine_203 : decode cX12_readsLine 203 = .ok (.getfield 93, 3) := by decide +kernel
theorem dX12_readsLine_206 : decode cX12_readsLine 206 = .ok (.iconst 5, 1) := by decide +kernel
theorem dX12_readsLine_207 : decode cX12_readsLine 207 = .ok (.dup2, 1) := by decide +kernel
theorem dX12_readsLine_208 : decode cX12_readsLine 208 = .ok (.iaload, 1) := by decide +kernel
theorem dX12_readsLine_209 : decode cX12_readsLine 209 = .ok (.iconst 1, 1) := by decide +kernel
theorem dX12_readsLine_210 : decode cX12_readsLine 210 = .ok (.iadd, 1) := by decide +kernel
theorem dX12_readsLine_211 : decode cX12_readsLine 211 = .ok (.iastore, 1) := by decide +kernel
theorem dX12_readsLine_212 : decode cX12_readsLine 212 = .ok (.aload_n 0, 1) := by decide +kernel
theorem dX12_readsLine_213 : decode cX12_readsLine 213 = .ok (.invokevirtual 334, 3) := by decide +kernel
theorem dX12_readsLine_216 : decode cX12_readsLine 216 = .ok (.ireturn, 1) := by decide +kernel
theorem dX12_laysLines_0 : decode cX12_laysLines 0 = .ok (.aload_n 0, 1) := by decide +kernel
theorem dX12_laysLines_1 : decode cX12_laysLines 1 = .ok (.getfield 93, 3) := by decide +kernel
theorem dX12_laysLines_4 : decode cX12_laysLines 4 = .ok (.iload_n 2, 1) := by decide +kernel
theorem dX12_laysLines_5 : decode cX12_laysLines 5 = .ok (.aload_n 0, 1) := by decide +kernel
theorem dX12_laysLines_6 : decode cX12_laysLines 6 = .ok (.getfield 93, 3) := by decide +kernel
theorem dX12_laysLines_9 : decode cX12_laysLines 9 = .ok (.iload_n 1, 1) := by decide +kernel
theorem dX12_laysLines_10 : decode cX12_laysLines 10 = .ok (.iaload, 1) := by decide +kernel
theorem dX12_laysLines_11 : decode cX12_laysLines 11 = .ok (.iastore, 1) := by decide +kernel
theorem dX12_laysLines_12 : decode cX12_laysLines 12 = .ok (.iconst 0, 1) := by decide +kernel
theorem dX12_laysLines_13 : decode cX12_laysLines 13 = .ok (.istore_n 3, 1) := by decide +kernel
theorem dX12_laysLines_14 : decode cX12_laysLines 14 = .ok (.iload_n 3, 1) := by decide +kernel
theorem dX12_laysLines_15 : decode cX12_laysLines 15 = .ok (.bipush 40, 2) := by decide +kernel
theorem dX12_laysLines_17 : decode cX12_laysLines 17 = .ok (.if_icmp .ge 75, 3) := by decide +kernel
theorem dX12_laysLines_20 : decode cX12_laysLines 20 = .ok (.aload_n 0, 1) := by decide +kernel
theorem dX12_laysLines_21 : decode cX12_laysLines 21 = .ok (.getfield 96, 3) := by decide +kernel
theorem dX12_laysLines_24 : decode cX12_laysLines 24 = .ok (.bipush 40, 2) := by decide +kernel
theorem dX12_laysLines_26 : decode cX12_laysLines 26 = .ok (.iload_n 2, 1) := by decide +kernel
theorem dX12_laysLines_27 : decode cX12_laysLines 27 = .ok (.imul, 1) := by decide +kernel
theorem dX12_laysLines_28 : decode cX12_laysLines 28 = .ok (.iload_n 3, 1) := by decide +kernel
theorem dX12_laysLines_29 : decode cX12_laysLines 29 = .ok (.iadd, 1) := by decide +kernel
theorem dX12_laysLines_30 : decode cX12_laysLines 30 = .ok (.aload_n 0, 1) := by decide +kernel
theorem dX12_laysLines_31 : decode cX12_laysLines 31 = .ok (.getfield 96, 3) := by decide +kernel
theorem dX12_laysLines_34 : decode cX12_laysLines 34 = .ok (.bipush 40, 2) := by decide +kernel
theorem dX12_laysLines_36 : decode cX12_laysLines 36 = .ok (.iload_n 1, 1) := by decide +kernel
theorem dX12_laysLines_37 : decode cX12_laysLines 37 = .ok (.imul, 1) := by decide +kernel
theorem dX12_laysLines_38 : decode cX12_laysLines 38 = .ok (.iload_n 3, 1) := by decide +kernel
theorem dX12_laysLines_39 : decode cX12_laysLines 39 = .ok (.iadd, 1) := by decide +kernel
theorem dX12_laysLines_40 : decode cX12_laysLines 40 = .ok (.iaload, 1) := by decide +kernel
theorem dX12_laysLines_41 : decode cX12_laysLines 41 = .ok (.iastore, 1) := by decide +kernel
theorem dX12_laysLines_42 : decode cX12_laysLines 42 = .ok (.aload_n 0, 1) := by decide +kernel
theorem dX12_laysLines_43 : decode cX12_laysLines 43 = .ok (.getfield 99, 3) := by decide +kernel
theorem dX12_laysLines_46 : decode cX12_laysLines 46 = .ok (.bipush 40, 2) := by decide +kernel
theorem dX12_laysLines_48 : decode cX12_laysLines 48 = .ok (.iload_n 2, 1) := by decide +kernel
theorem dX12_laysLines_49 : decode cX12_laysLines 49 = .ok (.imul, 1) := by decide +kernel
theorem dX12_laysLines_50 : decode cX12_laysLines 50 = .ok (.iload_n 3, 1) := by decide +kernel
theorem dX12_laysLines_51 : decode cX12_laysLines 51 = .ok (.iadd, 1) := by decide +kernel
theorem dX12_laysLines_52 : decode cX12_laysLines 52 = .ok (.aload_n 0, 1) := by decide +kernel
theorem dX12_laysLines_53 : decode cX12_laysLines 53 = .ok (.getfield 99, 3) := by decide +kernel
theorem dX12_laysLines_56 : decode cX12_laysLines 56 = .ok (.bipush 40, 2) := by decide +kernel
theorem dX12_laysLines_58 : decode cX12_laysLines 58 = .ok (.iload_n 1, 1) := by decide +kernel
theorem dX12_laysLines_59 : decode cX12_laysLines 59 = .ok (.imul, 1) := by decide +kernel
theorem dX12_laysLines_60 : decode cX12_laysLines 60 = .ok (.iload_n 3, 1) := by decide +kernel
theorem dX12_laysLines_61 : decode cX12_laysLines 61 = .ok (.iadd, 1) := by decide +kernel
theorem dX12_laysLines_62 : decode cX12_laysLines 62 = .ok (.iaload, 1) := by decide +kernel
theorem dX12_laysLines_63 : decode cX12_laysLines 63 = .ok (.iastore, 1) := by decide +kernel
theorem dX12_laysLines_64 : decode cX12_laysLines 64 = .ok (.aload_n 0, 1) := by decide +kernel
theorem dX12_laysLines_65 : decode cX12_laysLines 65 = .ok (.getfield 102, 3) := by decide +kernel
theorem dX12_laysLines_68 : decode cX12_laysLines 68 = .ok (.bipush 40, 2) := by decide +kernel
theorem dX12_laysLines_70 : decode cX12_laysLines 70 = .ok (.iload_n 2, 1) := by decide +kernel
theorem dX12_laysLines_71 : decode cX12_laysLines 71 = .ok (.imul, 1) := by decide +kernel
theorem dX12_laysLines_72 : decode cX12_laysLines 72 = .ok (.iload_n 3, 1) := by decide +kernel
theorem dX12_laysLines_73 : decode cX12_laysLines 73 = .ok (.iadd, 1) := by decide +kernel
theorem dX12_laysLines_74 : decode cX12_laysLines 74 = .ok (.aload_n 0, 1) := by decide +kernel
theorem dX12_laysLines_75 : decode cX12_laysLines 75 = .ok (.getfield 102, 3) := by decide +kernel
theorem dX12_laysLines_78 : decode cX12_laysLines 78 = .ok (.bipush 40, 2) := by decide +kernel
theorem dX12_laysLines_80 : decode cX12_laysLines 80 = .ok (.iload_n 1, 1) := by decide +kernel
theorem dX12_laysLines_81 : decode cX12_laysLines 81 = .ok (.imul, 1) := by decide +kernel
theorem dX12_laysLines_82 : decode cX12_laysLines 82 = .ok (.iload_n 3, 1) := by decide +kernel
theorem dX12_laysLines_83 : decode cX12_laysLines 83 = .ok (.iadd, 1) := by decide +kernel
theorem dX12_laysLines_84 : decode cX12_laysLines 84 = .ok (.iaload, 1) := by decide +kernel
theorem dX12_laysLines_85 : decode cX12_laysLines 85 = .ok (.iastore, 1) := by decide +kernel
theorem dX12_laysLines_86 : decode cX12_laysLines 86 = .ok (.iinc 3 1, 3) := by decide +kernel
theorem dX12_laysLines_89 : decode cX12_laysLines 89 = .ok (.goto (-75), 3) := by decide +kernel
theorem dX12_laysLines_92 : decode cX12_laysLines 92 = .ok (.return_, 1) := by decide +kernel
theorem dX12_laysSaid_0 : decode cX12_laysSaid 0 = .ok (.aload_n 0, 1) := by decide +kernel
theorem dX12_laysSaid_1 : decode cX12_laysSaid 1 = .ok (.getfield 105, 3) := by decide +kernel
theorem dX12_laysSaid_4 : decode cX12_laysSaid 4 = .ok (.iload_n 2, 1) := by decide +kernel
theorem dX12_laysSaid_5 : decode cX12_laysSaid 5 = .ok (.aload_n 0, 1) := by decide +kernel
theorem dX12_laysSaid_6 : decode cX12_laysSaid 6 = .ok (.getfield 105, 3) := by decide +kernel
theorem dX12_laysSaid_9 : decode cX12_laysSaid 9 = .ok (.iload_n 1, 1) := by decide +kernel
theorem dX12_laysSaid_10 : decode cX12_laysSaid 10 = .ok (.iaload, 1) := by decide +kernel
theorem dX12_laysSaid_11 : decode cX12_laysSaid 11 = .ok (.iastore, 1) := by decide +kernel
theorem dX12_laysSaid_12 : decode cX12_laysSaid 12 = .ok (.iconst 0, 1) := by decide +kernel
theorem dX12_laysSaid_13 : decode cX12_laysSaid 13 = .ok (.istore_n 3, 1) := by decide +kernel
theorem dX12_laysSaid_14 : decode cX12_laysSaid 14 = .ok (.iload_n 3, 1) := by decide +kernel
theorem dX12_laysSaid_15 : decode cX12_laysSaid 15 = .ok (.bipush 8, 2) := by decide +kernel
theorem dX12_laysSaid_17 : decode cX12_laysSaid 17 = .ok (.if_icmp .ge 75, 3) := by decide +kernel
theorem dX12_laysSaid_20 : decode cX12_laysSaid 20 = .ok (.aload_n 0, 1) := by decide +kernel
theorem dX12_laysSaid_21 : decode cX12_laysSaid 21 = .ok (.getfield 108, 3) := by decide +kernel
theorem dX12_laysSaid_24 : decode cX12_laysSaid 24 = .ok (.bipush 8, 2) := by decide +kernel
theorem dX12_laysSaid_26 : decode cX12_laysSaid 26 = .ok (.iload_n 2, 1) := by decide +kernel
theorem dX12_laysSaid_27 : decode cX12_laysSaid 27 = .ok (.imul, 1) := by decide +kernel
theorem dX12_laysSaid_28 : decode cX12_laysSaid 28 = .ok (.iload_n 3, 1) := by decide +kernel
theorem dX12_laysSaid_29 : decode cX12_laysSaid 29 = .ok (.iadd, 1) := by decide +kernel
theorem dX12_laysSaid_30 : decode cX12_laysSaid 30 = .ok (.aload_n 0, 1) := by decide +kernel
theorem dX12_laysSaid_31 : decode cX12_laysSaid 31 = .ok (.getfield 108, 3) := by decide +kernel
theorem dX12_laysSaid_34 : decode cX12_laysSaid 34 = .ok (.bipush 8, 2) := by decide +kernel
theorem dX12_laysSaid_36 : decode cX12_laysSaid 36 = .ok (.iload_n 1, 1) := by decide +kernel
theorem dX12_laysSaid_37 : decode cX12_laysSaid 37 = .ok (.imul, 1) := by decide +kernel
theorem dX12_laysSaid_38 : decode cX12_laysSaid 38 = .ok (.iload_n 3, 1) := by decide +kernel
theorem dX12_laysSaid_39 : decode cX12_laysSaid 39 = .ok (.iadd, 1) := by decide +kernel
theorem dX12_laysSaid_40 : decode cX12_laysSaid 40 = .ok (.iaload, 1) := by decide +kernel
theorem dX12_laysSaid_41 : decode cX12_laysSaid 41 = .ok (.iastore, 1) := by decide +kernel
theorem dX12_laysSaid_42 : decode cX12_laysSaid 42 = .ok (.aload_n 0, 1) := by decide +kernel
theorem dX12_laysSaid_43 : decode cX12_laysSaid 43 = .ok (.getfield 111, 3) := by decide +kernel
theorem dX12_laysSaid_46 : decode cX12_laysSaid 46 = .ok (.bipush 8, 2) := by decide +kernel
theorem dX12_laysSaid_48 : decode cX12_laysSaid 48 = .ok (.iload_n 2, 1) := by decide +kernel
theorem dX12_laysSaid_49 : decode cX12_laysSaid 49 = .ok (.imul, 1) := by decide +kernel
theorem dX12_laysSaid_50 : decode cX12_laysSaid 50 = .ok (.iload_n 3, 1) := by decide +kernel
theorem dX12_laysSaid_51 : decode cX12_laysSaid 51 = .ok (.iadd, 1) := by decide +kernel
theorem dX12_laysSaid_52 : decode cX12_laysSaid 52 = .ok (.aload_n 0, 1) := by decide +kernel
theorem dX12_laysSaid_53 : decode cX12_laysSaid 53 = .ok (.getfield 111, 3) := by decide +kernel
theorem dX12_laysSaid_56 : decode cX12_laysSaid 56 = .ok (.bipush 8, 2) := by decide +kernel
theorem dX12_laysSaid_58 : decode cX12_laysSaid 58 = .ok (.iload_n 1, 1) := by decide +kernel
theorem dX12_laysSaid_59 : decode cX12_laysSaid 59 = .ok (.imul, 1) := by decide +kernel
theorem dX12_laysSaid_60 : decode cX12_laysSaid 60 = .ok (.iload_n 3, 1) := by decide +kernel
theorem dX12_laysSaid_61 : decode cX12_laysSaid 61 = .ok (.iadd, 1) := by decide +kernel
theorem dX12_laysSaid_62 : decode cX12_laysSaid 62 = .ok (.iaload, 1) := by decide +kernel
theorem dX12_laysSaid_63 : decode cX12_laysSaid 63 = .ok (.iastore, 1) := by decide +kernel
theorem dX12_laysSaid_64 : decode cX12_laysSaid 64 = .ok (.aload_n 0, 1) := by decide +kernel
theorem dX12_laysSaid_65 : decode cX12_laysSaid 65 = .ok (.getfield 114, 3) := by decide +kernel
theorem dX12_laysSaid_68 : decode cX12_laysSaid 68 = .ok (.bipush 8, 2) := by decide +kernel
theorem dX12_laysSaid_70 : decode cX12_laysSaid 70 = .ok (.iload_n 2, 1) := by decide +kernel
theorem dX12_laysSaid_71 : decode cX12_laysSaid 71 = .ok (.imul, 1) := by decide +kernel
theorem dX12_laysSaid_72 : decode cX12_laysSaid 72 = .ok (.iload_n 3, 1) := by decide +kernel
theorem dX12_laysSaid_73 : decode cX12_laysSaid 73 = .ok (.iadd, 1) := by decide +kernel
theorem dX12_laysSaid_74 : decode cX12_laysSaid 74 = .ok (.aload_n 0, 1) := by decide +kernel
theorem dX12_laysSaid_75 : decode cX12_laysSaid 75 = .ok (.getfield 114, 3) := by decide +kernel
theorem dX12_laysSaid_78 : decode cX12_laysSaid 78 = .ok (.bipush 8, 2) := by decide +kernel
theorem dX12_laysSaid_80 : decode cX12_laysSaid 80 = .ok (.iload_n 1, 1) := by decide +kernel
theorem dX12_laysSaid_81 : decode cX12_laysSaid 81 = .ok (.imul, 1) := by decide +kernel
theorem dX12_laysSaid_82 : decode cX12_laysSaid 82 = .ok (.iload_n 3, 1) := by decide +kernel
theorem dX12_laysSaid_83 : decode cX12_laysSaid 83 = .ok (.iadd, 1) := by decide +kernel
theorem dX12_laysSaid_84 : decode cX12_laysSaid 84 = .ok (.baload, 1) := by decide +kernel
theorem dX12_laysSaid_85 : decode cX12_laysSaid 85 = .ok (.bastore, 1) := by decide +kernel
theorem dX12_laysSaid_86 : decode cX12_laysSaid 86 = .ok (.iinc 3 1, 3) := by decide +kernel
theorem dX12_laysSaid_89 : decode cX12_laysSaid 89 = .ok (.goto (-75), 3) := by decide +kernel
theorem dX12_laysSaid_92 : decode cX12_laysSaid 92 = .ok (.iconst 0, 1) := by decide +kernel
theorem dX12_laysSaid_93 : decode cX12_laysSaid 93 = .ok (.istore_n 3, 1) := by decide +kernel
theorem dX12_laysSaid_94 : decode cX12_laysSaid 94 = .ok (.iload_n 3, 1) := by decide +kernel
theorem dX12_laysSaid_95 : decode cX12_laysSaid 95 = .ok (.bipush 6, 2) := by decide +kernel
theorem dX12_laysSaid_97 : decode cX12_laysSaid 97 = .ok (.if_icmp .ge 31, 3) := by decide +kernel
theorem dX12_laysSaid_100 : decode cX12_laysSaid 100 = .ok (.aload_n 0, 1) := by decide +kernel
theorem dX12_laysSaid_101 : decode cX12_laysSaid 101 = .ok (.getfield 117, 3) := by decide +kernel
theorem dX12_laysSaid_104 : decode cX12_laysSaid 104 = .ok (.bipush 6, 2) := by decide +kernel
theorem dX12_laysSaid_106 : decode cX12_laysSaid 106 = .ok (.iload_n 2, 1) := by decide +kernel
theorem dX12_laysSaid_107 : decode cX12_laysSaid 107 = .ok (.imul, 1) := by decide +kernel
theorem dX12_laysSaid_108 : decode cX12_laysSaid 108 = .ok (.iload_n 3, 1) := by decide +kernel
theorem dX12_laysSaid_109 : decode cX12_laysSaid 109 = .ok (.iadd, 1) := by decide +kernel
theorem dX12_laysSaid_110 : decode cX12_laysSaid 110 = .ok (.aload_n 0, 1) := by decide +kernel
theorem dX12_laysSaid_111 : decode cX12_laysSaid 111 = .ok (.getfield 117, 3) := by decide +kernel
theorem dX12_laysSaid_114 : decode cX12_laysSaid 114 = .ok (.bipush 6, 2) := by decide +kernel
theorem dX12_laysSaid_116 : decode cX12_laysSaid 116 = .ok (.iload_n 1, 1) := by decide +kernel
theorem dX12_laysSaid_117 : decode cX12_laysSaid 117 = .ok (.imul, 1) := by decide +kernel
theorem dX12_laysSaid_118 : decode cX12_laysSaid 118 = .ok (.iload_n 3, 1) := by decide +kernel
theorem dX12_laysSaid_119 : decode cX12_laysSaid 119 = .ok (.iadd, 1) := by decide +kernel
theorem dX12_laysSaid_120 : decode cX12_laysSaid 120 = .ok (.iaload, 1) := by decide +kernel
theorem dX12_laysSaid_121 : decode cX12_laysSaid 121 = .ok (.iastore, 1) := by decide +kernel
theorem dX12_laysSaid_122 : decode cX12_laysSaid 122 = .ok (.iinc 3 1, 3) := by decide +kernel
theorem dX12_laysSaid_125 : decode cX12_laysSaid 125 = .ok (.goto (-31), 3) := by decide +kernel
theorem dX12_laysSaid_128 : decode cX12_laysSaid 128 = .ok (.return_, 1) := by decide +kernel
theorem dX12_fresh_0 : decode cX12_fresh 0 = .ok (.aload_n 0, 1) := by decide +kernel
theorem dX12_fresh_1 : decode cX12_fresh 1 = .ok (.getfield 120, 3) := by decide +kernel
theorem dX12_fresh_4 : decode cX12_fresh 4 = .ok (.iconst 0, 1) := by decide +kernel
theorem dX12_fresh_5 : decode cX12_fresh 5 = .ok (.iconst 0, 1) := by decide +kernel
theorem dX12_fresh_6 : decode cX12_fresh 6 = .ok (.iastore, 1) := by decide +kernel
theorem dX12_fresh_7 : decode cX12_fresh 7 = .ok (.iconst 0, 1) := by decide +kernel
theorem dX12_fresh_8 : decode cX12_fresh 8 = .ok (.istore_n 1, 1) := by decide +kernel
theorem dX12_fresh_9 : decode cX12_fresh 9 = .ok (.iload_n 1, 1) := by decide +kernel
theorem dX12_fresh_10 : decode cX12_fresh 10 = .ok (.bipush 6, 2) := by decide +kernel
theorem dX12_fresh_12 : decode cX12_fresh 12 = .ok (.if_icmp .ge 28, 3) := by decide +kernel
theorem dX12_fresh_15 : decode cX12_fresh 15 = .ok (.aload_n 0, 1) := by decide +kernel
theorem dX12_fresh_16 : decode cX12_fresh 16 = .ok (.getfield 120, 3) := by decide +kernel
theorem dX12_fresh_19 : decode cX12_fresh 19 = .ok (.iconst 1, 1) := by decide +kernel
theorem dX12_fresh_20 : decode cX12_fresh 20 = .ok (.iload_n 1, 1) := by decide +kernel
theorem dX12_fresh_21 : decode cX12_fresh 21 = .ok (.iadd, 1) := by decide +kernel
theorem dX12_fresh_22 : decode cX12_fresh 22 = .ok (.iconst (-1), 1) := by decide +kernel
theorem dX12_fresh_23 : decode cX12_fresh 23 = .ok (.iastore, 1) := by decide +kernel
theorem dX12_fresh_24 : decode cX12_fresh 24 = .ok (.aload_n 0, 1) := by decide +kernel
theorem dX12_fresh_25 : decode cX12_fresh 25 = .ok (.getfield 120, 3) := by decide +kernel
theorem dX12_fresh_28 : decode cX12_fresh 28 = .ok (.bipush 7, 2) := by decide +kernel
theorem dX12_fresh_30 : decode cX12_fresh 30 = .ok (.iload_n 1, 1) := by decide +kernel
theorem dX12_fresh_31 : decode cX12_fresh 31 = .ok (.iadd, 1) := by decide +kernel
theorem dX12_fresh_32 : decode cX12_fresh 32 = .ok (.iconst 0, 1) := by decide +kernel
theorem dX12_fresh_33 : decode cX12_fresh 33 = .ok (.iastore, 1) := by decide +kernel
theorem dX12_fresh_34 : decode cX12_fresh 34 = .ok (.iinc 1 1, 3) := by decide +kernel
theorem dX12_fresh_37 : decode cX12_fresh 37 = .ok (.goto (-28), 3) := by decide +kernel
theorem dX12_fresh_40 : decode cX12_fresh 40 = .ok (.return_, 1) := by decide +kernel
theorem dX12_forgets_0 : decode cX12_forgets 0 = .ok (.iconst 0, 1) := by decide +kernel
theorem dX12_forgets_1 : decode cX12_forgets 1 = .ok (.istore_n 1, 1) := by decide +kernel
theorem dX12_forgets_2 : decode cX12_forgets 2 = .ok (.iload_n 1, 1) := by decide +kernel
theorem dX12_forgets_3 : decode cX12_forgets 3 = .ok (.bipush 6, 2) := by decide +kernel
theorem dX12_forgets_5 : decode cX12_forgets 5 = .ok (.if_icmp .ge 16, 3) := by decide +kernel
theorem dX12_forgets_8 : decode cX12_forgets 8 = .ok (.aload_n 0, 1) := by decide +kernel
theorem dX12_forgets_9 : decode cX12_forgets 9 = .ok (.getfield 117, 3) := by decide +kernel
theorem dX12_forgets_12 : decode cX12_forgets 12 = .ok (.iload_n 1, 1) := by decide +kernel
theorem dX12_forgets_13 : decode cX12_forgets 13 = .ok (.iconst (-1), 1) := by decide +kernel
theorem dX12_forgets_14 : decode cX12_forgets 14 = .ok (.iastore, 1) := by decide +kernel
theorem dX12_forgets_15 : decode cX12_forgets 15 = .ok (.iinc 1 1, 3) := by decide +kernel
theorem dX12_forgets_18 : decode cX12_forgets 18 = .ok (.goto (-16), 3) := by decide +kernel
theorem dX12_forgets_21 : decode cX12_forgets 21 = .ok (.return_, 1) := by decide +kernel
theorem dX12_realm_0 : decode cX12_realm 0 = .ok (.aload_n 0, 1) := by decide +kernel
theorem dX12_realm_1 : decode cX12_realm 1 = .ok (.iconst 0, 1) := by decide +kernel
theorem dX12_realm_2 : decode cX12_realm 2 = .ok (.putfield 171, 3) := by decide +kernel
theorem dX12_realm_5 : decode cX12_realm 5 = .ok (.aload_n 0, 1) := by decide +kernel
theorem dX12_realm_6 : decode cX12_realm 6 = .ok (.invokevirtual 370, 3) := by decide +kernel
theorem dX12_realm_9 : decode cX12_realm 9 = .ok (.ifCond .ne 8, 3) := by decide +kernel
theorem dX12_realm_12 : decode cX12_realm 12 = .ok (.aload_n 0, 1) := by decide +kernel
theorem dX12_realm_13 : decode cX12_realm 13 = .ok (.getfield 207, 3) := by decide +kernel
theorem dX12_realm_16 : decode cX12_realm 16 = .ok (.ireturn, 1) := by decide +kernel
theorem dX12_realm_17 : decode cX12_realm 17 = .ok (.aload_n 0, 1) := by decide +kernel
theorem dX12_realm_18 : decode cX12_realm 18 = .ok (.invokevirtual 373, 3) := by decide +kernel
theorem dX12_realm_21 : decode cX12_realm 21 = .ok (.aload_n 0, 1) := by decide +kernel
theorem dX12_realm_22 : decode cX12_realm 22 = .ok (.invokevirtual 165, 3) := by decide +kernel
theorem dX12_realm_25 : decode cX12_realm 25 = .ok (.aload_n 0, 1) := by decide +kernel
theorem dX12_realm_26 : decode cX12_realm 26 = .ok (.invokevirtual 168, 3) := by decide +kernel
theorem dX12_realm_29 : decode cX12_realm 29 = .ok (.aload_n 0, 1) := by decide +kernel
theorem dX12_realm_30 : decode cX12_realm 30 = .ok (.getfield 93, 3) := by decide +kernel
theorem dX12_realm_33 : decode cX12_realm 33 = .ok (.iconst 0, 1) := by decide +kernel
theorem dX12_realm_34 : decode cX12_realm 34 = .ok (.iconst 0, 1) := by decide +kernel
theorem dX12_realm_35 : decode cX12_realm 35 = .ok (.iastore, 1) := by decide +kernel
theorem dX12_realm_36 : decode cX12_realm 36 = .ok (.aload_n 0, 1) := by decide +kernel
theorem dX12_realm_37 : decode cX12_realm 37 = .ok (.getfield 105, 3) := by decide +kernel
theorem dX12_realm_40 : decode cX12_realm 40 = .ok (.iconst 0, 1) := by decide +kernel
theorem dX12_realm_41 : decode cX12_realm 41 = .ok (.iconst 0, 1) := by decide +kernel
theorem dX12_realm_42 : decode cX12_realm 42 = .ok (.iastore, 1) := by decide +kernel
theorem dX12_realm_43 : decode cX12_realm 43 = .ok (.aload_n 0, 1) := by decide +kernel
theorem dX12_realm_44 : decode cX12_realm 44 = .ok (.iconst 0, 1) := by decide +kernel
theorem dX12_realm_45 : decode cX12_realm 45 = .ok (.putfield 376, 3) := by decide +kernel
theorem dX12_realm_48 : decode cX12_realm 48 = .ok (.iconst 0, 1) := by decide +kernel
theorem dX12_realm_49 : decode cX12_realm 49 = .ok (.istore_n 1, 1) := by decide +kernel
theorem dX12_realm_50 : decode cX12_realm 50 = .ok (.iload_n 1, 1) := by decide +kernel
theorem dX12_realm_51 : decode cX12_realm 51 = .ok (.iconst 4, 1) := by decide +kernel
theorem dX12_realm_52 : decode cX12_realm 52 = .ok (.if_icmp .ge 16, 3) := by decide +kernel
theorem dX12_realm_55 : decode cX12_realm 55 = .ok (.aload_n 0, 1) := by decide +kernel
theorem dX12_realm_56 : decode cX12_realm 56 = .ok (.getfield 132, 3) := by decide +kernel
theorem dX12_realm_59 : decode cX12_realm 59 = .ok (.iload_n 1, 1) := by decide +kernel
theorem dX12_realm_60 : decode cX12_realm 60 = .ok (.iconst 0, 1) := by decide +kernel
theorem dX12_realm_61 : decode cX12_realm 61 = .ok (.bastore, 1) := by decide +kernel
theorem dX12_realm_62 : decode cX12_realm 62 = .ok (.iinc 1 1, 3) := by decide +kernel
theorem dX12_realm_65 : decode cX12_realm 65 = .ok (.goto (-15), 3) := by decide +kernel
theorem dX12_realm_68 : decode cX12_realm 68 = .ok (.iconst 0, 1) := by decide +kernel
theorem dX12_realm_69 : decode cX12_realm 69 = .ok (.ireturn, 1) := by decide +kernel
theorem dX12_years_0 : decode cX12_years 0 = .ok (.aload_n 0, 1) := by decide +kernel
theorem dX12_years_1 : decode cX12_years 1 = .ok (.iconst 0, 1) := by decide +kernel
theorem dX12_years_2 : decode cX12_years 2 = .ok (.putfield 171, 3) := by decide +kernel
theorem dX12_years_5 : decode cX12_years 5 = .ok (.aload_n 0, 1) := by decide +kernel
theorem dX12_years_6 : decode cX12_years 6 = .ok (.getfield 93, 3) := by decide +kernel
theorem dX12_years_9 : decode cX12_years 9 = .ok (.iconst 5, 1) := by decide +kernel
theorem dX12_years_10 : decode cX12_years 10 = .ok (.iconst 0, 1) := by decide +kernel
theorem dX12_years_11 : decode cX12_years 11 = .ok (.iastore, 1) := by decide +kernel
theorem dX12_years_12 : decode cX12_years 12 = .ok (.aload_n 0, 1) := by decide +kernel
theorem dX12_years_13 : decode cX12_years 13 = .ok (.invokevirtual 344, 3) := by decide +kernel
theorem dX12_years_16 : decode cX12_years 16 = .ok (.aload_n 0, 1) := by decide +kernel
theorem dX12_years_17 : decode cX12_years 17 = .ok (.getfield 196, 3) := by decide +kernel
theorem dX12_years_20 : decode cX12_years 20 = .ok (.ifCond .eq 15, 3) := by decide +kernel
theorem dX12_years_23 : decode cX12_years 23 = .ok (.aload_n 0, 1) := by decide +kernel
theorem dX12_years_24 : decode cX12_years 24 = .ok (.invokevirtual 379, 3) := by decide +kernel
theorem dX12_years_27 : decode cX12_years 27 = .ok (.ifCond .ne (-11), 3) := by decide +kernel
theorem dX12_years_30 : decode cX12_years 30 = .ok (.aload_n 0, 1) := by decide +kernel
theorem dX12_years_31 : decode cX12_years 31 = .ok (.getfield 207, 3) := by decide +kernel
theorem dX12_years_34 : decode cX12_years 34 = .ok (.ireturn, 1) := by decide +kernel
theorem dX12_years_35 : decode cX12_years 35 = .ok (.aload_n 0, 1) := by decide +kernel
theorem dX12_years_36 : decode cX12_years 36 = .ok (.iconst 5, 1) := by decide +kernel
theorem dX12_years_37 : decode cX12_years 37 = .ok (.iconst 0, 1) := by decide +kernel
theorem dX12_years_38 : decode cX12_years 38 = .ok (.invokevirtual 382, 3) := by decide +kernel
theorem dX12_years_41 : decode cX12_years 41 = .ok (.iconst 0, 1) := by decide +kernel
theorem dX12_years_42 : decode cX12_years 42 = .ok (.ireturn, 1) := by decide +kernel
theorem dX12_isWig_0 : decode cX12_isWig 0 = .ok (.iload_n 1, 1) := by decide +kernel
theorem dX12_isWig_1 : decode cX12_isWig 1 = .ok (.ifCond .lt 17, 3) := by decide +kernel
theorem dX12_isWig_4 : decode cX12_isWig 4 = .ok (.iload_n 1, 1) := by decide +kernel
theorem dX12_isWig_5 : decode cX12_isWig 5 = .ok (.aload_n 0, 1) := by decide +kernel
theorem dX12_isWig_6 : decode cX12_isWig 6 = .ok (.getfield 13, 3) := by decide +kernel
theorem dX12_isWig_9 : decode cX12_isWig 9 = .ok (.iconst 0, 1) := by decide +kernel
theorem dX12_isWig_10 : decode cX12_isWig 10 = .ok (.iaload, 1) := by decide +kernel
theorem dX12_isWig_11 : decode cX12_isWig 11 = .ok (.if_icmp .ge 7, 3) := by decide +kernel
theorem dX12_isWig_14 : decode cX12_isWig 14 = .ok (.iconst 1, 1) := by decide +kernel
theorem dX12_isWig_15 : decode cX12_isWig 15 = .ok (.goto 4, 3) := by decide +kernel
theorem dX12_isWig_18 : decode cX12_isWig 18 = .ok (.iconst 0, 1) := by decide +kernel
theorem dX12_isWig_19 : decode cX12_isWig 19 = .ok (.ireturn, 1) := by decide +kernel
theorem dX12_isHead_0 : decode cX12_isHead 0 = .ok (.iload_n 1, 1) := by decide +kernel
theorem dX12_isHead_1 : decode cX12_isHead 1 = .ok (.ifCond .lt 17, 3) := by decide +kernel
theorem dX12_isHead_4 : decode cX12_isHead 4 = .ok (.iload_n 1, 1) := by decide +kernel
theorem dX12_isHead_5 : decode cX12_isHead 5 = .ok (.aload_n 0, 1) := by decide +kernel
theorem dX12_isHead_6 : decode cX12_isHead 6 = .ok (.getfield 13, 3) := by decide +kernel
theorem dX12_isHead_9 : decode cX12_isHead 9 = .ok (.iconst 1, 1) := by decide +kernel
theorem dX12_isHead_10 : decode cX12_isHead 10 = .ok (.iaload, 1) := by decide +kernel
theorem dX12_isHead_11 : decode cX12_isHead 11 = .ok (.if_icmp .ge 7, 3) := by decide +kernel
theorem dX12_isHead_14 : decode cX12_isHead 14 = .ok (.iconst 1, 1) := by decide +kernel
theorem dX12_isHead_15 : decode cX12_isHead 15 = .ok (.goto 4, 3) := by decide +kernel
theorem dX12_isHead_18 : decode cX12_isHead 18 = .ok (.iconst 0, 1) := by decide +kernel
theorem dX12_isHead_19 : decode cX12_isHead 19 = .ok (.ireturn, 1) := by decide +kernel
theorem dX12_heatIn_0 : decode cX12_heatIn 0 = .ok (.aload_n 0, 1) := by decide +kernel
theorem dX12_heatIn_1 : decode cX12_heatIn 1 = .ok (.getfield 13, 3) := by decide +kernel
theorem dX12_heatIn_4 : decode cX12_heatIn 4 = .ok (.iconst 3, 1) := by decide +kernel
theorem dX12_heatIn_5 : decode cX12_heatIn 5 = .ok (.iaload, 1) := by decide +kernel
theorem dX12_heatIn_6 : decode cX12_heatIn 6 = .ok (.ifCond .ne 7, 3) := by decide +kernel
theorem dX12_heatIn_9 : decode cX12_heatIn 9 = .ok (.iconst 0, 1) := by decide +kernel
theorem dX12_heatIn_10 : decode cX12_heatIn 10 = .ok (.goto 16, 3) := by decide +kernel
theorem dX12_heatIn_13 : decode cX12_heatIn 13 = .ok (.aload_n 0, 1) := by decide +kernel
theorem dX12_heatIn_14 : decode cX12_heatIn 14 = .ok (.getfield 44, 3) := by decide +kernel
theorem dX12_heatIn_17 : decode cX12_heatIn 17 = .ok (.iload_n 1, 1) := by decide +kernel
theorem dX12_heatIn_18 : decode cX12_heatIn 18 = .ok (.aload_n 0, 1) := by decide +kernel
theorem dX12_heatIn_19 : decode cX12_heatIn 19 = .ok (.getfield 13, 3) := by decide +kernel
theorem dX12_heatIn_22 : decode cX12_heatIn 22 = .ok (.iconst 3, 1) := by decide +kernel
theorem dX12_heatIn_23 : decode cX12_heatIn 23 = .ok (.iaload, 1) := by decide +kernel
theorem dX12_heatIn_24 : decode cX12_heatIn 24 = .ok (.irem, 1) := by decide +kernel
theorem dX12_heatIn_25 : decode cX12_heatIn 25 = .ok (.iaload, 1) := by decide +kernel
theorem dX12_heatIn_26 : decode cX12_heatIn 26 = .ok (.ireturn, 1) := by decide +kernel
theorem dX12_girthIn_0 : decode cX12_girthIn 0 = .ok (.aload_n 0, 1) := by decide +kernel
theorem dX12_girthIn_1 : decode cX12_girthIn 1 = .ok (.iload_n 2, 1) := by decide +kernel
theorem dX12_girthIn_2 : decode cX12_girthIn 2 = .ok (.invokevirtual 386, 3) := by decide +kernel
theorem dX12_girthIn_5 : decode cX12_girthIn 5 = .ok (.istore_n 3, 1) := by decide +kernel
theorem dX12_girthIn_6 : decode cX12_girthIn 6 = .ok (.aload_n 0, 1) := by decide +kernel
theorem dX12_girthIn_7 : decode cX12_girthIn 7 = .ok (.getfield 32, 3) := by decide +kernel
theorem dX12_girthIn_10 : decode cX12_girthIn 10 = .ok (.iload_n 1, 1) := by decide +kernel
theorem dX12_girthIn_11 : decode cX12_girthIn 11 = .ok (.iaload, 1) := by decide +kernel
theorem dX12_girthIn_12 : decode cX12_girthIn 12 = .ok (.iconst 1, 1) := by decide +kernel
theorem dX12_girthIn_13 : decode cX12_girthIn 13 = .ok (.if_icmp .ne 9, 3) := by decide +kernel
theorem dX12_girthIn_16 : decode cX12_girthIn 16 = .ok (.iconst 2, 1) := by decide +kernel
theorem dX12_girthIn_17 : decode cX12_girthIn 17 = .ok (.iload_n 3, 1) := by decide +kernel
theorem dX12_girthIn_18 : decode cX12_girthIn 18 = .ok (.imul, 1) := by decide +kernel
theorem dX12_girthIn_19 : decode cX12_girthIn 19 = .ok (.goto 4, 3) := by decide +kernel
theorem dX12_girthIn_22 : decode cX12_girthIn 22 = .ok (.iload_n 3, 1) := by decide +kernel
theorem dX12_girthIn_23 : decode cX12_girthIn 23 = .ok (.istore 4, 2) := by decide +kernel
theorem dX12_girthIn_25 : decode cX12_girthIn 25 = .ok (.aload_n 0, 1) := by decide +kernel
theorem dX12_girthIn_26 : decode cX12_girthIn 26 = .ok (.getfield 50, 3) := by decide +kernel
theorem dX12_girthIn_29 : decode cX12_girthIn 29 = .ok (.iconst 0, 1) := by decide +kernel
theorem dX12_girthIn_30 : decode cX12_girthIn 30 = .ok (.iaload, 1) := by decide +kernel
theorem dX12_girthIn_31 : decode cX12_girthIn 31 = .ok (.aload_n 0, 1) := by decide +kernel
theorem dX12_girthIn_32 : decode cX12_girthIn 32 = .ok (.getfield 47, 3) := by decide +kernel
theorem dX12_girthIn_35 : decode cX12_girthIn 35 = .ok (.iconst 0, 1) := by decide +kernel
theorem dX12_girthIn_36 : decode cX12_girthIn 36 = .ok (.iaload, 1) := by decide +kernel
theorem dX12_girthIn_37 : decode cX12_girthIn 37 = .ok (.if_icmp .le 45, 3) := by decide +kernel
theorem dX12_girthIn_40 : decode cX12_girthIn 40 = .ok (.aload_n 0, 1) := by decide +kernel
theorem dX12_girthIn_41 : decode cX12_girthIn 41 = .ok (.getfield 90, 3) := by decide +kernel
theorem dX12_girthIn_44 : decode cX12_girthIn 44 = .ok (.iconst 1, 1) := by decide +kernel
theorem dX12_girthIn_45 : decode cX12_girthIn 45 = .ok (.iload_n 3, 1) := by decide +kernel
theorem dX12_girthIn_46 : decode cX12_girthIn 46 = .ok (.iastore, 1) := by decide +kernel
theorem dX12_girthIn_47 : decode cX12_girthIn 47 = .ok (.aload_n 0, 1) := by decide +kernel
theorem dX12_girthIn_48 : decode cX12_girthIn 48 = .ok (.getfield 90, 3) := by decide +kernel
theorem dX12_girthIn_51 : decode cX12_girthIn 51 = .ok (.iconst 2, 1) := by decide +kernel
theorem dX12_girthIn_52 : decode cX12_girthIn 52 = .ok (.aload_n 0, 1) := by decide +kernel
theorem dX12_girthIn_53 : decode cX12_girthIn 53 = .ok (.getfield 38, 3) := by decide +kernel
theorem dX12_girthIn_56 : decode cX12_girthIn 56 = .ok (.iload_n 1, 1) := by decide +kernel
theorem dX12_girthIn_57 : decode cX12_girthIn 57 = .ok (.iaload, 1) := by decide +kernel
theorem dX12_girthIn_58 : decode cX12_girthIn 58 = .ok (.iload_n 2, 1) := by decide +kernel
theorem dX12_girthIn_59 : decode cX12_girthIn 59 = .ok (.iconst 4, 1) := by decide +kernel
theorem dX12_girthIn_60 : decode cX12_girthIn 60 = .ok (.idiv, 1) := by decide +kernel
theorem dX12_girthIn_61 : decode cX12_girthIn 61 = .ok (.iadd, 1) := by decide +kernel
theorem dX12_girthIn_62 : decode cX12_girthIn 62 = .ok (.iastore, 1) := by decide +kernel
theorem dX12_girthIn_63 : decode cX12_girthIn 63 = .ok (.aload_n 0, 1) := by decide +kernel
theorem dX12_girthIn_64 : decode cX12_girthIn 64 = .ok (.getfield 90, 3) := by decide +kernel
theorem dX12_girthIn_67 : decode cX12_girthIn 67 = .ok (.iconst 3, 1) := by decide +kernel
theorem dX12_girthIn_68 : decode cX12_girthIn 68 = .ok (.aload_n 0, 1) := by decide +kernel
theorem dX12_girthIn_69 : decode cX12_girthIn 69 = .ok (.getfield 32, 3) := by decide +kernel
theorem dX12_girthIn_72 : decode cX12_girthIn 72 = .ok (.iload_n 1, 1) := by decide +kernel
theorem dX12_girthIn_73 : decode cX12_girthIn 73 = .ok (.iaload, 1) := by decide +kernel
theorem dX12_girthIn_74 : decode cX12_girthIn 74 = .ok (.iastore, 1) := by decide +kernel
theorem dX12_girthIn_75 : decode cX12_girthIn 75 = .ok (.aload_n 0, 1) := by decide +kernel
theorem dX12_girthIn_76 : decode cX12_girthIn 76 = .ok (.iconst 0, 1) := by decide +kernel
theorem dX12_girthIn_77 : decode cX12_girthIn 77 = .ok (.invokevirtual 389, 3) := by decide +kernel
theorem dX12_girthIn_80 : decode cX12_girthIn 80 = .ok (.istore 4, 2) := by decide +kernel
theorem dX12_girthIn_82 : decode cX12_girthIn 82 = .ok (.aload_n 0, 1) := by decide +kernel
theorem dX12_girthIn_83 : decode cX12_girthIn 83 = .ok (.getfield 35, 3) := by decide +kernel
theorem dX12_girthIn_86 : decode cX12_girthIn 86 = .ok (.iload_n 1, 1) := by decide +kernel
theorem dX12_girthIn_87 : decode cX12_girthIn 87 = .ok (.iaload, 1) := by decide +kernel
theorem dX12_girthIn_88 : decode cX12_girthIn 88 = .ok (.iload 4, 2) := by decide +kernel
theorem dX12_girthIn_90 : decode cX12_girthIn 90 = .ok (.bipush (-9), 2) := by decide +kernel
theorem dX12_girthIn_92 : decode cX12_girthIn 92 = .ok (.bipush 9, 2) := by decide +kernel
theorem dX12_girthIn_94 : decode cX12_girthIn 94 = .ok (.invokestatic 392, 3) := by decide +kernel
theorem dX12_girthIn_97 : decode cX12_girthIn 97 = .ok (.iadd, 1) := by decide +kernel
theorem dX12_girthIn_98 : decode cX12_girthIn 98 = .ok (.aload_n 0, 1) := by decide +kernel
theorem dX12_girthIn_99 : decode cX12_girthIn 99 = .ok (.getfield 32, 3) := by decide +kernel
theorem dX12_girthIn_102 : decode cX12_girthIn 102 = .ok (.iload_n 1, 1) := by decide +kernel
theorem dX12_girthIn_103 : decode cX12_girthIn 103 = .ok (.iaload, 1) := by decide +kernel
theorem dX12_girthIn_104 : decode cX12_girthIn 104 = .ok (.iconst 3, 1) := by decide +kernel
theorem dX12_girthIn_105 : decode cX12_girthIn 105 = .ok (.if_icmp .ne 9, 3) := by decide +kernel
theorem dX12_girthIn_108 : decode cX12_girthIn 108 = .ok (.iload_n 2, 1) := by decide +kernel
theorem dX12_girthIn_109 : decode cX12_girthIn 109 = .ok (.iconst 4, 1) := by decide +kernel
theorem dX12_girthIn_110 : decode cX12_girthIn 110 = .ok (.idiv, 1) := by decide +kernel
theorem dX12_girthIn_111 : decode cX12_girthIn 111 = .ok (.goto 4, 3) := by decide +kernel
theorem dX12_girthIn_114 : decode cX12_girthIn 114 = .ok (.iconst 0, 1) := by decide +kernel
theorem dX12_girthIn_115 : decode cX12_girthIn 115 = .ok (.iadd, 1) := by decide +kernel
theorem dX12_girthIn_116 : decode cX12_girthIn 116 = .ok (.aload_n 0, 1) := by decide +kernel
theorem dX12_girthIn_117 : decode cX12_girthIn 117 = .ok (.getfield 32, 3) := by decide +kernel
theorem dX12_girthIn_120 : decode cX12_girthIn 120 = .ok (.iload_n 1, 1) := by decide +kernel
theorem dX12_girthIn_121 : decode cX12_girthIn 121 = .ok (.iaload, 1) := by decide +kernel
theorem dX12_girthIn_122 : decode cX12_girthIn 122 = .ok (.iconst 2, 1) := by decide +kernel
theorem dX12_girthIn_123 : decode cX12_girthIn 123 = .ok (.if_icmp .ne 7, 3) := by decide +kernel
theorem dX12_girthIn_126 : decode cX12_girthIn 126 = .ok (.iconst 1, 1) := by decide +kernel
theorem dX12_girthIn_127 : decode cX12_girthIn 127 = .ok (.goto 4, 3) := by decide +kernel
theorem dX12_girthIn_130 : decode cX12_girthIn 130 = .ok (.iconst 0, 1) := by decide +kernel
theorem dX12_girthIn_131 : decode cX12_girthIn 131 = .ok (.isub, 1) := by decide +kernel
theorem dX12_girthIn_132 : decode cX12_girthIn 132 = .ok (.ireturn, 1) := by decide +kernel
theorem dX12_tiltIn_0 : decode cX12_tiltIn 0 = .ok (.aload_n 0, 1) := by decide +kernel
theorem dX12_tiltIn_1 : decode cX12_tiltIn 1 = .ok (.getfield 23, 3) := by decide +kernel
theorem dX12_tiltIn_4 : decode cX12_tiltIn 4 = .ok (.iload_n 1, 1) := by decide +kernel
theorem dX12_tiltIn_5 : decode cX12_tiltIn 5 = .ok (.iaload, 1) := by decide +kernel
theorem dX12_tiltIn_6 : decode cX12_tiltIn 6 = .ok (.aload_n 0, 1) := by decide +kernel
theorem dX12_tiltIn_7 : decode cX12_tiltIn 7 = .ok (.iload_n 2, 1) := by decide +kernel
theorem dX12_tiltIn_8 : decode cX12_tiltIn 8 = .ok (.iload_n 3, 1) := by decide +kernel
theorem dX12_tiltIn_9 : decode cX12_tiltIn 9 = .ok (.invokevirtual 396, 3) := by decide +kernel
theorem dX12_tiltIn_12 : decode cX12_tiltIn 12 = .ok (.isub, 1) := by decide +kernel
theorem dX12_tiltIn_13 : decode cX12_tiltIn 13 = .ok (.ireturn, 1) := by decide +kernel
theorem dX12_fitsIn_0 : decode cX12_fitsIn 0 = .ok (.aload_n 0, 1) := by decide +kernel
theorem dX12_fitsIn_1 : decode cX12_fitsIn 1 = .ok (.iload_n 1, 1) := by decide +kernel
theorem dX12_fitsIn_2 : decode cX12_fitsIn 2 = .ok (.iload_n 2, 1) := by decide +kernel
theorem dX12_fitsIn_3 : decode cX12_fitsIn 3 = .ok (.iload_n 3, 1) := by decide +kernel
theorem dX12_fitsIn_4 : decode cX12_fitsIn 4 = .ok (.invokevirtual 400, 3) := by decide +kernel
theorem dX12_fitsIn_7 : decode cX12_fitsIn 7 = .ok (.iconst 0, 1) := by decide +kernel
theorem dX12_fitsIn_8 : decode cX12_fitsIn 8 = .ok (.aload_n 0, 1) := by decide +kernel
theorem dX12_fitsIn_9 : decode cX12_fitsIn 9 = .ok (.getfield 13, 3) := by decide +kernel
theorem dX12_fitsIn_12 : decode cX12_fitsIn 12 = .ok (.iconst 2, 1) := by decide +kernel
theorem dX12_fitsIn_13 : decode cX12_fitsIn 13 = .ok (.iaload, 1) := by decide +kernel
theorem dX12_fitsIn_14 : decode cX12_fitsIn 14 = .ok (.invokestatic 301, 3) := by decide +kernel
theorem dX12_fitsIn_17 : decode cX12_fitsIn 17 = .ok (.ireturn, 1) := by decide +kernel
theorem dX12_wigOn_0 : decode cX12_wigOn 0 = .ok (.iconst 0, 1) := by decide +kernel
theorem dX12_wigOn_1 : decode cX12_wigOn 1 = .ok (.istore_n 2, 1) := by decide +kernel
theorem dX12_wigOn_2 : decode cX12_wigOn 2 = .ok (.iload_n 2, 1) := by decide +kernel
theorem dX12_wigOn_3 : decode cX12_wigOn 3 = .ok (.aload_n 0, 1) := by decide +kernel
theorem dX12_wigOn_4 : decode cX12_wigOn 4 = .ok (.getfield 13, 3) := by decide +kernel
theorem dX12_wigOn_7 : decode cX12_wigOn 7 = .ok (.iconst 0, 1) := by decide +kernel
theorem dX12_wigOn_8 : decode cX12_wigOn 8 = .ok (.iaload, 1) := by decide +kernel
theorem dX12_wigOn_9 : decode cX12_wigOn 9 = .ok (.if_icmp .ge 23, 3) := by decide +kernel
theorem dX12_wigOn_12 : decode cX12_wigOn 12 = .ok (.aload_n 0, 1) := by decide +kernel
theorem dX12_wigOn_13 : decode cX12_wigOn 13 = .ok (.getfield 120, 3) := by decide +kernel
theorem dX12_wigOn_16 : decode cX12_wigOn 16 = .ok (.iconst 1, 1) := by decide +kernel
theorem dX12_wigOn_17 : decode cX12_wigOn 17 = .ok (.iload_n 2, 1) := by decide +kernel
theorem dX12_wigOn_18 : decode cX12_wigOn 18 = .ok (.iadd, 1) := by decide +kernel
theorem dX12_wigOn_19 : decode cX12_wigOn 19 = .ok (.iaload, 1) := by decide +kernel
theorem dX12_wigOn_20 : decode cX12_wigOn 20 = .ok (.iload_n 1, 1) := by decide +kernel
theorem dX12_wigOn_21 : decode cX12_wigOn 21 = .ok (.if_icmp .ne 5, 3) := by decide +kernel
theorem dX12_wigOn_24 : decode cX12_wigOn 24 = .ok (.iload_n 2, 1) := by decide +kernel
theorem dX12_wigOn_25 : decode cX12_wigOn 25 = .ok (.ireturn, 1) := by decide +kernel
theorem dX12_wigOn_26 : decode cX12_wigOn 26 = .ok (.iinc 2 1, 3) := by decide +kernel
theorem dX12_wigOn_29 : decode cX12_wigOn 29 = .ok (.goto (-27), 3) := by decide +kernel
theorem dX12_wigOn_32 : decode cX12_wigOn 32 = .ok (.iconst (-1), 1) := by decide +kernel
theorem dX12_wigOn_33 : decode cX12_wigOn 33 = .ok (.ireturn, 1) := by decide +kernel
theorem dX12_onHeads_0 : decode cX12_onHeads 0 = .ok (.iconst 0, 1) := by decide +kernel
theorem dX12_onHeads_1 : decode cX12_onHeads 1 = .ok (.istore_n 1, 1) := by decide +kernel
theorem dX12_onHeads_2 : decode cX12_onHeads 2 = .ok (.iconst 0, 1) := by decide +kernel
theorem dX12_onHeads_3 : decode cX12_onHeads 3 = .ok (.istore_n 2, 1) := by decide +kernel
theorem dX12_onHeads_4 : decode cX12_onHeads 4 = .ok (.iload_n 2, 1) := by decide +kernel
theorem dX12_onHeads_5 : decode cX12_onHeads 5 = .ok (.aload_n 0, 1) := by decide +kernel
theorem dX12_onHeads_6 : decode cX12_onHeads 6 = .ok (.getfield 13, 3) := by decide +kernel
theorem dX12_onHeads_9 : decode cX12_onHeads 9 = .ok (.iconst 0, 1) := by decide +kernel
theorem dX12_onHeads_10 : decode cX12_onHeads 10 = .ok (.iaload, 1) := by decide +kernel
theorem dX12_onHeads_11 : decode cX12_onHeads 11 = .ok (.if_icmp .ge 30, 3) := by decide +kernel
theorem dX12_onHeads_14 : decode cX12_onHeads 14 = .ok (.iload_n 1, 1) := by decide +kernel
theorem dX12_onHeads_15 : decode cX12_onHeads 15 = .ok (.aload_n 0, 1) := by decide +kernel
theorem dX12_onHeads_16 : decode cX12_onHeads 16 = .ok (.getfield 120, 3) := by decide +kernel
theorem dX12_onHeads_19 : decode cX12_onHeads 19 = .ok (.iconst 1, 1) := by decide +kernel
theorem dX12_onHeads_20 : decode cX12_onHeads 20 = .ok (.iload_n 2, 1) := by decide +kernel
theorem dX12_onHeads_21 : decode cX12_onHeads 21 = .ok (.iadd, 1) := by decide +kernel
theorem dX12_onHeads_22 : decode cX12_onHeads 22 = .ok (.iaload, 1) := by decide +kernel
theorem dX12_onHeads_23 : decode cX12_onHeads 23 = .ok (.ifCond .lt 9, 3) := by decide +kernel
theorem dX12_onHeads_26 : decode cX12_onHeads 26 = .ok (.iconst 1, 1) := by decide +kernel
theorem dX12_onHeads_27 : decode cX12_onHeads 27 = .ok (.iload_n 2, 1) := by decide +kernel
theorem dX12_onHeads_28 : decode cX12_onHeads 28 = .ok (.ishl, 1) := by decide +kernel
theorem dX12_onHeads_29 : decode cX12_onHeads 29 = .ok (.goto 4, 3) := by decide +kernel
theorem dX12_onHeads_32 : decode cX12_onHeads 32 = .ok (.iconst 0, 1) := by decide +kernel
theorem dX12_onHeads_33 : decode cX12_onHeads 33 = .ok (.ior, 1) := by decide +kernel
theorem dX12_onHeads_34 : decode cX12_onHeads 34 = .ok (.istore_n 1, 1) := by decide +kernel
theorem dX12_onHeads_35 : decode cX12_onHeads 35 = .ok (.iinc 2 1, 3) := by decide +kernel
theorem dX12_onHeads_38 : decode cX12_onHeads 38 = .ok (.goto (-34), 3) := by decide +kernel
theorem dX12_onHeads_41 : decode cX12_onHeads 41 = .ok (.iload_n 1, 1) := by decide +kernel
theorem dX12_onHeads_42 : decode cX12_onHeads 42 = .ok (.ireturn, 1) := by decide +kernel
theorem dX12_wornOut_0 : decode cX12_wornOut 0 = .ok (.iconst 0, 1) := by decide +kernel
theorem dX12_wornOut_1 : decode cX12_wornOut 1 = .ok (.istore_n 1, 1) := by decide +kernel
theorem dX12_wornOut_2 : decode cX12_wornOut 2 = .ok (.iconst 0, 1) := by decide +kernel
theorem dX12_wornOut_3 : decode cX12_wornOut 3 = .ok (.istore_n 2, 1) := by decide +kernel
theorem dX12_wornOut_4 : decode cX12_wornOut 4 = .ok (.iload_n 2, 1) := by decide +kernel
theorem dX12_wornOut_5 : decode cX12_wornOut 5 = .ok (.aload_n 0, 1) := by decide +kernel
theorem dX12_wornOut_6 : decode cX12_wornOut 6 = .ok (.getfield 13, 3) := by decide +kernel
theorem dX12_wornOut_9 : decode cX12_wornOut 9 = .ok (.iconst 0, 1) := by decide +kernel
theorem dX12_wornOut_10 : decode cX12_wornOut 10 = .ok (.iaload, 1) := by decide +kernel
theorem dX12_wornOut_11 : decode cX12_wornOut 11 = .ok (.if_icmp .ge 33, 3) := by decide +kernel
theorem dX12_wornOut_14 : decode cX12_wornOut 14 = .ok (.iload_n 1, 1) := by decide +kernel
theorem dX12_wornOut_15 : decode cX12_wornOut 15 = .ok (.aload_n 0, 1) := by decide +kernel
theorem dX12_wornOut_16 : decode cX12_wornOut 16 = .ok (.getfield 120, 3) := by decide +kernel
theorem dX12_wornOut_19 : decode cX12_wornOut 19 = .ok (.bipush 7, 2) := by decide +kernel
theorem dX12_wornOut_21 : decode cX12_wornOut 21 = .ok (.iload_n 2, 1) := by decide +kernel
theorem dX12_wornOut_22 : decode cX12_wornOut 22 = .ok (.iadd, 1) := by decide +kernel
theorem dX12_wornOut_23 : decode cX12_wornOut 23 = .ok (.iaload, 1) := by decide +kernel
theorem dX12_wornOut_24 : decode cX12_wornOut 24 = .ok (.bipush 9, 2) := by decide +kernel
theorem dX12_wornOut_26 : decode cX12_wornOut 26 = .ok (.if_icmp .ne 9, 3) := by decide +kernel
theorem dX12_wornOut_29 : decode cX12_wornOut 29 = .ok (.iconst 1, 1) := by decide +kernel
theorem dX12_wornOut_30 : decode cX12_wornOut 30 = .ok (.iload_n 2, 1) := by decide +kernel
theorem dX12_wornOut_31 : decode cX12_wornOut 31 = .ok (.ishl, 1) := by decide +kernel
theorem dX12_wornOut_32 : decode cX12_wornOut 32 = .ok (.goto 4, 3) := by decide +kernel
theorem dX12_wornOut_35 : decode cX12_wornOut 35 = .ok (.iconst 0, 1) := by decide +kernel
theorem dX12_wornOut_36 : decode cX12_wornOut 36 = .ok (.ior, 1) := by decide +kernel
theorem dX12_wornOut_37 : decode cX12_wornOut 37 = .ok (.istore_n 1, 1) := by decide +kernel
theorem dX12_wornOut_38 : decode cX12_wornOut 38 = .ok (.iinc 2 1, 3) := by decide +kernel
theorem dX12_wornOut_41 : decode cX12_wornOut 41 = .ok (.goto (-37), 3) := by decide +kernel
theorem dX12_wornOut_44 : decode cX12_wornOut 44 = .ok (.iload_n 1, 1) := by decide +kernel
theorem dX12_wornOut_45 : decode cX12_wornOut 45 = .ok (.ireturn, 1) := by decide +kernel
theorem dX12_officeOf_0 : decode cX12_officeOf 0 = .ok (.iconst 0, 1) := by decide +kernel
theorem dX12_officeOf_1 : decode cX12_officeOf 1 = .ok (.istore_n 2, 1) := by decide +kernel
theorem dX12_officeOf_2 : decode cX12_officeOf 2 = .ok (.iconst 0, 1) := by decide +kernel
theorem dX12_officeOf_3 : decode cX12_officeOf 3 = .ok (.istore_n 3, 1) := by decide +kernel
theorem dX12_officeOf_4 : decode cX12_officeOf 4 = .ok (.iload_n 3, 1) := by decide +kernel
theorem dX12_officeOf_5 : decode cX12_officeOf 5 = .ok (.aload_n 0, 1) := by decide +kernel
theorem dX12_officeOf_6 : decode cX12_officeOf 6 = .ok (.getfield 13, 3) := by decide +kernel
theorem dX12_officeOf_9 : decode cX12_officeOf 9 = .ok (.iconst 0, 1) := by decide +kernel
theorem dX12_officeOf_10 : decode cX12_officeOf 10 = .ok (.iaload, 1) := by decide +kernel
theorem dX12_officeOf_11 : decode cX12_officeOf 11 = .ok (.if_icmp .ge 31, 3) := by decide +kernel
theorem dX12_officeOf_14 : decode cX12_officeOf 14 = .ok (.iload_n 2, 1) := by decide +kernel
theorem dX12_officeOf_15 : decode cX12_officeOf 15 = .ok (.iload_n 1, 1) := by decide +kernel
theorem dX12_officeOf_16 : decode cX12_officeOf 16 = .ok (.iload_n 3, 1) := by decide +kernel
theorem dX12_officeOf_17 : decode cX12_officeOf 17 = .ok (.ishr, 1) := by decide +kernel
theorem dX12_officeOf_18 : decode cX12_officeOf 18 = .ok (.iconst 1, 1) := by decide +kernel
theorem dX12_officeOf_19 : decode cX12_officeOf 19 = .ok (.iand, 1) := by decide +kernel
theorem dX12_officeOf_20 : decode cX12_officeOf 20 = .ok (.iconst 1, 1) := by decide +kernel
theorem dX12_officeOf_21 : decode cX12_officeOf 21 = .ok (.if_icmp .ne 12, 3) := by decide +kernel
theorem dX12_officeOf_24 : decode cX12_officeOf 24 = .ok (.aload_n 0, 1) := by decide +kernel
theorem dX12_officeOf_25 : decode cX12_officeOf 25 = .ok (.getfield 26, 3) := by decide +kernel
theorem dX12_officeOf_28 : decode cX12_officeOf 28 = .ok (.iload_n 3, 1) := by decide +kernel
theorem dX12_officeOf_29 : decode cX12_officeOf 29 = .ok (.iaload, 1) := by decide +kernel
theorem dX12_officeOf_30 : decode cX12_officeOf 30 = .ok (.goto 4, 3) := by decide +kernel
theorem dX12_officeOf_33 : decode cX12_officeOf 33 = .ok (.iconst 0, 1) := by decide +kernel
theorem dX12_officeOf_34 : decode cX12_officeOf 34 = .ok (.iadd, 1) := by decide +kernel
theorem dX12_officeOf_35 : decode cX12_officeOf 35 = .ok (.istore_n 2, 1) := by decide +kernel
theorem dX12_officeOf_36 : decode cX12_officeOf 36 = .ok (.iinc 3 1, 3) := by decide +kernel
theorem dX12_officeOf_39 : decode cX12_officeOf 39 = .ok (.goto (-35), 3) := by decide +kernel
theorem dX12_officeOf_42 : decode cX12_officeOf 42 = .ok (.iload_n 2, 1) := by decide +kernel
theorem dX12_officeOf_43 : decode cX12_officeOf 43 = .ok (.ireturn, 1) := by decide +kernel
theorem dX12_canPut_0 : decode cX12_canPut 0 = .ok (.aload_n 0, 1) := by decide +kernel
theorem dX12_canPut_1 : decode cX12_canPut 1 = .ok (.getfield 120, 3) := by decide +kernel
theorem dX12_canPut_4 : decode cX12_canPut 4 = .ok (.iconst 1, 1) := by decide +kernel
theorem dX12_canPut_5 : decode cX12_canPut 5 = .ok (.iload_n 1, 1) := by decide +kernel
theorem dX12_canPut_6 : decode cX12_canPut 6 = .ok (.iadd, 1) := by decide +kernel
theorem dX12_canPut_7 : decode cX12_canPut 7 = .ok (.iaload, 1) := by decide +kernel
theorem dX12_canPut_8 : decode cX12_canPut 8 = .ok (.ifCond .ge 44, 3) := by decide +kernel
theorem dX12_canPut_11 : decode cX12_canPut 11 = .ok (.aload_n 0, 1) := by decide +kernel
theorem dX12_canPut_12 : decode cX12_canPut 12 = .ok (.getfield 120, 3) := by decide +kernel
theorem dX12_canPut_15 : decode cX12_canPut 15 = .ok (.bipush 7, 2) := by decide +kernel
theorem dX12_canPut_17 : decode cX12_canPut 17 = .ok (.iload_n 1, 1) := by decide +kernel
theorem dX12_canPut_18 : decode cX12_canPut 18 = .ok (.iadd, 1) := by decide +kernel
theorem dX12_canPut_19 : decode cX12_canPut 19 = .ok (.iaload, 1) := by decide +kernel
theorem dX12_canPut_20 : decode cX12_canPut 20 = .ok (.bipush 9, 2) := by decide +kernel
theorem dX12_canPut_22 : decode cX12_canPut 22 = .ok (.if_icmp .ge 30, 3) := by decide +kernel
theorem dX12_canPut_25 : decode cX12_canPut 25 = .ok (.aload_n 0, 1) := by decide +kernel
theorem dX12_canPut_26 : decode cX12_canPut 26 = .ok (.iload_n 2, 1) := by decide +kernel
theorem dX12_canPut_27 : decode cX12_canPut 27 = .ok (.invokevirtual 403, 3) := by decide +kernel
theorem dX12_canPut_30 : decode cX12_canPut 30 = .ok (.ifCond .ge 22, 3) := by decide +kernel
theorem dX12_canPut_33 : decode cX12_canPut 33 = .ok (.aload_n 0, 1) := by decide +kernel
theorem dX12_canPut_34 : decode cX12_canPut 34 = .ok (.iload_n 1, 1) := by decide +kernel
theorem dX12_canPut_35 : decode cX12_canPut 35 = .ok (.iload_n 2, 1) := by decide +kernel
theorem dX12_canPut_36 : decode cX12_canPut 36 = .ok (.aload_n 0, 1) := by decide +kernel
theorem dX12_canPut_37 : decode cX12_canPut 37 = .ok (.getfield 120, 3) := by decide +kernel
theorem dX12_canPut_40 : decode cX12_canPut 40 = .ok (.iconst 0, 1) := by decide +kernel
theorem dX12_canPut_41 : decode cX12_canPut 41 = .ok (.iaload, 1) := by decide +kernel
theorem dX12_canPut_42 : decode cX12_canPut 42 = .ok (.invokevirtual 406, 3) := by decide +kernel
theorem dX12_canPut_45 : decode cX12_canPut 45 = .ok (.ifCond .eq 7, 3) := by decide +kernel
theorem dX12_canPut_48 : decode cX12_canPut 48 = .ok (.iconst 1, 1) := by decide +kernel
theorem dX12_canPut_49 : decode cX12_canPut 49 = .ok (.goto 4, 3) := by decide +kernel
theorem dX12_canPut_52 : decode cX12_canPut 52 = .ok (.iconst 0, 1) := by decide +kernel
theorem dX12_canPut_53 : decode cX12_canPut 53 = .ok (.ireturn, 1) := by decide +kernel
theorem dX12_passes_0 : decode cX12_passes 0 = .ok (.iconst 0, 1) := by decide +kernel
theorem dX12_passes_1 : decode cX12_passes 1 = .ok (.istore_n 1, 1) := by decide +kernel
theorem dX12_passes_2 : decode cX12_passes 2 = .ok (.iload_n 1, 1) := by decide +kernel
theorem dX12_passes_3 : decode cX12_passes 3 = .ok (.aload_n 0, 1) := by decide +kernel
theorem dX12_passes_4 : decode cX12_passes 4 = .ok (.getfield 13, 3) := by decide +kernel
theorem dX12_passes_7 : decode cX12_passes 7 = .ok (.iconst 0, 1) := by decide +kernel
theorem dX12_passes_8 : decode cX12_passes 8 = .ok (.iaload, 1) := by decide +kernel
theorem dX12_passes_9 : decode cX12_passes 9 = .ok (.if_icmp .ge 45, 3) := by decide +kernel
theorem dX12_passes_12 : decode cX12_passes 12 = .ok (.aload_n 0, 1) := by decide +kernel
theorem dX12_passes_13 : decode cX12_passes 13 = .ok (.getfield 120, 3) := by decide +kernel
theorem dX12_passes_16 : decode cX12_passes 16 = .ok (.iconst 1, 1) := by decide +kernel
theorem dX12_passes_17 : decode cX12_passes 17 = .ok (.iload_n 1, 1) := by decide +kernel
theorem dX12_passes_18 : decode cX12_passes 18 = .ok (.iadd, 1) := by decide +kernel
theorem dX12_passes_19 : decode cX12_passes 19 = .ok (.iaload, 1) := by decide +kernel
theorem dX12_passes_20 : decode cX12_passes 20 = .ok (.ifCond .ge 28, 3) := by decide +kernel
theorem dX12_passes_23 : decode cX12_passes 23 = .ok (.aload_n 0, 1) := by decide +kernel
theorem dX12_passes_24 : decode cX12_passes 24 = .ok (.getfield 120, 3) := by decide +kernel
theorem dX12_passes_27 : decode cX12_passes 27 = .ok (.bipush 7, 2) := by decide +kernel
theorem dX12_passes_29 : decode cX12_passes 29 = .ok (.iload_n 1, 1) := by decide +kernel
theorem dX12_passes_30 : decode cX12_passes 30 = .ok (.iadd, 1) := by decide +kernel
theorem dX12_passes_31 : decode cX12_passes 31 = .ok (.bipush 9, 2) := by decide +kernel
theorem dX12_passes_33 : decode cX12_passes 33 = .ok (.aload_n 0, 1) := by decide +kernel
theorem dX12_passes_34 : decode cX12_passes 34 = .ok (.getfield 120, 3) := by decide +kernel
theorem dX12_passes_37 : decode cX12_passes 37 = .ok (.bipush 7, 2) := by decide +kernel
theorem dX12_passes_39 : decode cX12_passes 39 = .ok (.iload_n 1, 1) := by decide +kernel
theorem dX12_passes_40 : decode cX12_passes 40 = .ok (.iadd, 1) := by decide +kernel
theorem dX12_passes_41 : decode cX12_passes 41 = .ok (.iaload, 1) := by decide +kernel
theorem dX12_passes_42 : decode cX12_passes 42 = .ok (.iconst 1, 1) := by decide +kernel
theorem dX12_passes_43 : decode cX12_passes 43 = .ok (.iadd, 1) := by decide +kernel
theorem dX12_passes_44 : decode cX12_passes 44 = .ok (.invokestatic 409, 3) := by decide +kernel
theorem dX12_passes_47 : decode cX12_passes 47 = .ok (.iastore, 1) := by decide +kernel
theorem dX12_passes_48 : decode cX12_passes 48 = .ok (.iinc 1 1, 3) := by decide +kernel
theorem dX12_passes_51 : decode cX12_passes 51 = .ok (.goto (-49), 3) := by decide +kernel
theorem dX12_passes_54 : decode cX12_passes 54 = .ok (.aload_n 0, 1) := by decide +kernel
theorem dX12_passes_55 : decode cX12_passes 55 = .ok (.getfield 120, 3) := by decide +kernel
theorem dX12_passes_58 : decode cX12_passes 58 = .ok (.iconst 0, 1) := by decide +kernel
theorem dX12_passes_59 : decode cX12_passes 59 = .ok (.dup2, 1) := by decide +kernel
theorem dX12_passes_60 : decode cX12_passes 60 = .ok (.iaload, 1) := by decide +kernel
theorem dX12_passes_61 : decode cX12_passes 61 = .ok (.iconst 1, 1) := by decide +kernel
theorem dX12_passes_62 : decode cX12_passes 62 = .ok (.iadd, 1) := by decide +kernel
theorem dX12_passes_63 : decode cX12_passes 63 = .ok (.iastore, 1) := by decide +kernel
theorem dX12_passes_64 : decode cX12_passes 64 = .ok (.iconst 0, 1) := by decide +kernel
theorem dX12_passes_65 : decode cX12_passes 65 = .ok (.istore_n 1, 1) := by decide +kernel
theorem dX12_passes_66 : decode cX12_passes 66 = .ok (.iconst 0, 1) := by decide +kernel
theorem dX12_passes_67 : decode cX12_passes 67 = .ok (.istore_n 2, 1) := by decide +kernel
theorem dX12_passes_68 : decode cX12_passes 68 = .ok (.iload_n 2, 1) := by decide +kernel
theorem dX12_passes_69 : decode cX12_passes 69 = .ok (.aload_n 0, 1) := by decide +kernel
theorem dX12_passes_70 : decode cX12_passes 70 = .ok (.getfield 13, 3) := by decide +kernel
theorem dX12_passes_73 : decode cX12_passes 73 = .ok (.iconst 0, 1) := by decide +kernel
theorem dX12_passes_74 : decode cX12_passes 74 = .ok (.iaload, 1) := by decide +kernel
theorem dX12_passes_75 : decode cX12_passes 75 = .ok (.if_icmp .ge 57, 3) := by decide +kernel
theorem dX12_passes_78 : decode cX12_passes 78 = .ok (.aload_n 0, 1) := by decide +kernel
theorem dX12_passes_79 : decode cX12_passes 79 = .ok (.getfield 120, 3) := by decide +kernel
theorem dX12_passes_82 : decode cX12_passes 82 = .ok (.iconst 1, 1) := by decide +kernel
theorem dX12_passes_83 : decode cX12_passes 83 = .ok (.iload_n 2, 1) := by decide +kernel
theorem dX12_passes_84 : decode cX12_passes 84 = .ok (.iadd, 1) := by decide +kernel
theorem dX12_passes_85 : decode cX12_passes 85 = .ok (.iaload, 1) := by decide +kernel
theorem dX12_passes_86 : decode cX12_passes 86 = .ok (.ifCond .lt 40, 3) := by decide +kernel
theorem dX12_passes_89 : decode cX12_passes 89 = .ok (.aload_n 0, 1) := by decide +kernel
theorem dX12_passes_90 : decode cX12_passes 90 = .ok (.iload_n 2, 1) := by decide +kernel
theorem dX12_passes_91 : decode cX12_passes 91 = .ok (.aload_n 0, 1) := by decide +kernel
theorem dX12_passes_92 : decode cX12_passes 92 = .ok (.getfield 120, 3) := by decide +kernel
theorem dX12_passes_95 : decode cX12_passes 95 = .ok (.iconst 1, 1) := by decide +kernel
theorem dX12_passes_96 : decode cX12_passes 96 = .ok (.iload_n 2, 1) := by decide +kernel
theorem dX12_passes_97 : decode cX12_passes 97 = .ok (.iadd, 1) := by decide +kernel
theorem dX12_passes_98 : decode cX12_passes 98 = .ok (.iaload, 1) := by decide +kernel
theorem dX12_passes_99 : decode cX12_passes 99 = .ok (.aload_n 0, 1) := by decide +kernel
theorem dX12_passes_100 : decode cX12_passes 100 = .ok (.getfield 120, 3) := by decide +kernel
theorem dX12_passes_103 : decode cX12_passes 103 = .ok (.iconst 0, 1) := by decide +kernel
theorem dX12_passes_104 : decode cX12_passes 104 = .ok (.iaload, 1) := by decide +kernel
theorem dX12_passes_105 : decode cX12_passes 105 = .ok (.invokevirtual 406, 3) := by decide +kernel
theorem dX12_passes_108 : decode cX12_passes 108 = .ok (.ifCond .eq 6, 3) := by decide +kernel
theorem dX12_passes_111 : decode cX12_passes 111 = .ok (.goto 15, 3) := by decide +kernel
theorem dX12_passes_114 : decode cX12_passes 114 = .ok (.aload_n 0, 1) := by decide +kernel
theorem dX12_passes_115 : decode cX12_passes 115 = .ok (.getfield 120, 3) := by decide +kernel
theorem dX12_passes_118 : decode cX12_passes 118 = .ok (.iconst 1, 1) := by decide +kernel
theorem dX12_passes_119 : decode cX12_passes 119 = .ok (.iload_n 2, 1) := by decide +kernel
theorem dX12_passes_120 : decode cX12_passes 120 = .ok (.iadd, 1) := by decide +kernel
theorem dX12_passes_121 : decode cX12_passes 121 = .ok (.iconst (-1), 1) := by decide +kernel
theorem dX12_passes_122 : decode cX12_passes 122 = .ok (.iastore, 1) := by decide +kernel
theorem dX12_passes_123 : decode cX12_passes 123 = .ok (.iinc 1 1, 3) := by decide +kernel
theorem dX12_passes_126 : decode cX12_passes 126 = .ok (.iinc 2 1, 3) := by decide +kernel
theorem dX12_passes_129 : decode cX12_passes 129 = .ok (.goto (-61), 3) := by decide +kernel
theorem dX12_passes_132 : decode cX12_passes 132 = .ok (.iload_n 1, 1) := by decide +kernel
theorem dX12_passes_133 : decode cX12_passes 133 = .ok (.ireturn, 1) := by decide +kernel
theorem dX12_wig_0 : decode cX12_wig 0 = .ok (.aload_n 0, 1) := by decide +kernel
theorem dX12_wig_1 : decode cX12_wig 1 = .ok (.iconst 0, 1) := by decide +kernel
theorem dX12_wig_2 : decode cX12_wig 2 = .ok (.putfield 171, 3) := by decide +kernel
theorem dX12_wig_5 : decode cX12_wig 5 = .ok (.aload_n 0, 1) := by decide +kernel
theorem dX12_wig_6 : decode cX12_wig 6 = .ok (.iload_n 1, 1) := by decide +kernel
theorem dX12_wig_7 : decode cX12_wig 7 = .ok (.invokevirtual 414, 3) := by decide +kernel
theorem dX12_wig_10 : decode cX12_wig 10 = .ok (.ifCond .eq 12, 3) := by decide +kernel
theorem dX12_wig_13 : decode cX12_wig 13 = .ok (.iload_n 2, 1) := by decide +kernel
theorem dX12_wig_14 : decode cX12_wig 14 = .ok (.iconst 0, 1) := by decide +kernel
theorem dX12_wig_15 : decode cX12_wig 15 = .ok (.iconst 4, 1) := by decide +kernel
theorem dX12_wig_16 : decode cX12_wig 16 = .ok (.invokestatic 301, 3) := by decide +kernel
theorem dX12_wig_19 : decode cX12_wig 19 = .ok (.ifCond .ne 6, 3) := by decide +kernel
theorem dX12_wig_22 : decode cX12_wig 22 = .ok (.bipush (-2), 2) := by decide +kernel
theorem dX12_wig_24 : decode cX12_wig 24 = .ok (.ireturn, 1) := by decide +kernel
theorem dX12_wig_25 : decode cX12_wig 25 = .ok (.iload_n 2, 1) := by decide +kernel
theorem dX12_wig_26 : decode cX12_wig 26 = .ok (.iconst 3, 1) := by decide +kernel
theorem dX12_wig_27 : decode cX12_wig 27 = .ok (.if_icmp .ge 37, 3) := by decide +kernel
theorem dX12_wig_30 : decode cX12_wig 30 = .ok (.iload_n 2, 1) := by decide +kernel
theorem dX12_wig_31 : decode cX12_wig 31 = .ok (.ifCond .ne 12, 3) := by decide +kernel
theorem dX12_wig_34 : decode cX12_wig 34 = .ok (.aload_n 0, 1) := by decide +kernel
theorem dX12_wig_35 : decode cX12_wig 35 = .ok (.getfield 23, 3) := by decide +kernel
theorem dX12_wig_38 : decode cX12_wig 38 = .ok (.iload_n 1, 1) := by decide +kernel
theorem dX12_wig_39 : decode cX12_wig 39 = .ok (.iaload, 1) := by decide +kernel
theorem dX12_wig_40 : decode cX12_wig 40 = .ok (.goto 23, 3) := by decide +kernel
theorem dX12_wig_43 : decode cX12_wig 43 = .ok (.iload_n 2, 1) := by decide +kernel
theorem dX12_wig_44 : decode cX12_wig 44 = .ok (.iconst 1, 1) := by decide +kernel
theorem dX12_wig_45 : decode cX12_wig 45 = .ok (.if_icmp .ne 12, 3) := by decide +kernel
theorem dX12_wig_48 : decode cX12_wig 48 = .ok (.aload_n 0, 1) := by decide +kernel
theorem dX12_wig_49 : decode cX12_wig 49 = .ok (.getfield 26, 3) := by decide +kernel
theorem dX12_wig_52 : decode cX12_wig 52 = .ok (.iload_n 1, 1) := by decide +kernel
theorem dX12_wig_53 : decode cX12_wig 53 = .ok (.iaload, 1) := by decide +kernel
theorem dX12_wig_54 : decode cX12_wig 54 = .ok (.goto 9, 3) := by decide +kernel
theorem dX12_wig_57 : decode cX12_wig 57 = .ok (.aload_n 0, 1) := by decide +kernel
theorem dX12_wig_58 : decode cX12_wig 58 = .ok (.getfield 29, 3) := by decide +kernel
theorem dX12_wig_61 : decode cX12_wig 61 = .ok (.iload_n 1, 1) := by decide +kernel
theorem dX12_wig_62 : decode cX12_wig 62 = .ok (.iaload, 1) := by decide +kernel
theorem dX12_wig_63 : decode cX12_wig 63 = .ok (.ireturn, 1) := by decide +kernel
theorem dX12_wig_64 : decode cX12_wig 64 = .ok (.iload_n 2, 1) := by decide +kernel
theorem dX12_wig_65 : decode cX12_wig 65 = .ok (.iconst 3, 1) := by decide +kernel
theorem dX12_wig_66 : decode cX12_wig 66 = .ok (.if_icmp .ne 14, 3) := by decide +kernel
theorem dX12_wig_69 : decode cX12_wig 69 = .ok (.aload_n 0, 1) := by decide +kernel
theorem dX12_wig_70 : decode cX12_wig 70 = .ok (.getfield 120, 3) := by decide +kernel
theorem dX12_wig_73 : decode cX12_wig 73 = .ok (.iconst 1, 1) := by decide +kernel
theorem dX12_wig_74 : decode cX12_wig 74 = .ok (.iload_n 1, 1) := by decide +kernel
theorem dX12_wig_75 : decode cX12_wig 75 = .ok (.iadd, 1) := by decide +kernel
theorem dX12_wig_76 : decode cX12_wig 76 = .ok (.iaload, 1) := by decide +kernel
theorem dX12_wig_77 : decode cX12_wig 77 = .ok (.goto 12, 3) := by decide +kernel
theorem dX12_wig_80 : decode cX12_wig 80 = .ok (.aload_n 0, 1) := by decide +kernel
theorem dX12_wig_81 : decode cX12_wig 81 = .ok (.getfield 120, 3) := by decide +kernel
theorem dX12_wig_84 : decode cX12_wig 84 = .ok (.bipush 7, 2) := by decide +kernel
theorem dX12_wig_86 : decode cX12_wig 86 = .ok (.iload_n 1, 1) := by decide +kernel
theorem dX12_wig_87 : decode cX12_wig 87 = .ok (.iadd, 1) := by decide +kernel
theorem dX12_wig_88 : decode cX12_wig 88 = .ok (.iaload, 1) := by decide +kernel
theorem dX12_wig_89 : decode cX12_wig 89 = .ok (.ireturn, 1) := by decide +kernel
theorem dX12_head_0 : decode cX12_head 0 = .ok (.aload_n 0, 1) := by decide +kernel
theorem dX12_head_1 : decode cX12_head 1 = .ok (.iconst 0, 1) := by decide +kernel
theorem dX12_head_2 : decode cX12_head 2 = .ok (.putfield 171, 3) := by decide +kernel
theorem dX12_head_5 : decode cX12_head 5 = .ok (.aload_n 0, 1) := by decide +kernel
theorem dX12_head_6 : decode cX12_head 6 = .ok (.iload_n 1, 1) := by decide +kernel
theorem dX12_head_7 : decode cX12_head 7 = .ok (.invokevirtual 417, 3) := by decide +kernel
theorem dX12_head_10 : decode cX12_head 10 = .ok (.ifCond .eq 12, 3) := by decide +kernel
theorem dX12_head_13 : decode cX12_head 13 = .ok (.iload_n 2, 1) := by decide +kernel
theorem dX12_head_14 : decode cX12_head 14 = .ok (.iconst 0, 1) := by decide +kernel
theorem dX12_head_15 : decode cX12_head 15 = .ok (.iconst 5, 1) := by decide +kernel
theorem dX12_head_16 : decode cX12_head 16 = .ok (.invokestatic 301, 3) := by decide +kernel
theorem dX12_head_19 : decode cX12_head 19 = .ok (.ifCond .ne 6, 3) := by decide +kernel
theorem dX12_head_22 : decode cX12_head 22 = .ok (.bipush (-2), 2) := by decide +kernel
theorem dX12_head_24 : decode cX12_head 24 = .ok (.ireturn, 1) := by decide +kernel
theorem dX12_head_25 : decode cX12_head 25 = .ok (.iload_n 2, 1) := by decide +kernel
theorem dX12_head_26 : decode cX12_head 26 = .ok (.iconst 2, 1) := by decide +kernel
theorem dX12_head_27 : decode cX12_head 27 = .ok (.if_icmp .ge 23, 3) := by decide +kernel
theorem dX12_head_30 : decode cX12_head 30 = .ok (.iload_n 2, 1) := by decide +kernel
theorem dX12_head_31 : decode cX12_head 31 = .ok (.ifCond .ne 12, 3) := by decide +kernel
theorem dX12_head_34 : decode cX12_head 34 = .ok (.aload_n 0, 1) := by decide +kernel
theorem dX12_head_35 : decode cX12_head 35 = .ok (.getfield 32, 3) := by decide +kernel
theorem dX12_head_38 : decode cX12_head 38 = .ok (.iload_n 1, 1) := by decide +kernel
theorem dX12_head_39 : decode cX12_head 39 = .ok (.iaload, 1) := by decide +kernel
theorem dX12_head_40 : decode cX12_head 40 = .ok (.goto 9, 3) := by decide +kernel
theorem dX12_head_43 : decode cX12_head 43 = .ok (.aload_n 0, 1) := by decide +kernel
theorem dX12_head_44 : decode cX12_head 44 = .ok (.getfield 35, 3) := by decide +kernel
theorem dX12_head_47 : decode cX12_head 47 = .ok (.iload_n 1, 1) := by decide +kernel
theorem dX12_head_48 : decode cX12_head 48 = .ok (.iaload, 1) := by decide +kernel
theorem dX12_head_49 : decode cX12_head 49 = .ok (.ireturn, 1) := by decide +kernel
theorem dX12_head_50 : decode cX12_head 50 = .ok (.iload_n 2, 1) := by decide +kernel
theorem dX12_head_51 : decode cX12_head 51 = .ok (.iconst 4, 1) := by decide +kernel
theorem dX12_head_52 : decode cX12_head 52 = .ok (.if_icmp .ge 24, 3) := by decide +kernel
theorem dX12_head_55 : decode cX12_head 55 = .ok (.iload_n 2, 1) := by decide +kernel
theorem dX12_head_56 : decode cX12_head 56 = .ok (.iconst 2, 1) := by decide +kernel
theorem dX12_head_57 : decode cX12_head 57 = .ok (.if_icmp .ne 12, 3) := by decide +kernel
theorem dX12_head_60 : decode cX12_head 60 = .ok (.aload_n 0, 1) := by decide +kernel
theorem dX12_head_61 : decode cX12_head 61 = .ok (.getfield 38, 3) := by decide +kernel
theorem dX12_head_64 : decode cX12_head 64 = .ok (.iload_n 1, 1) := by decide +kernel
theorem dX12_head_65 : decode cX12_head 65 = .ok (.iaload, 1) := by decide +kernel
theorem dX12_head_66 : decode cX12_head 66 = .ok (.goto 9, 3) := by decide +kernel
theorem dX12_head_69 : decode cX12_head 69 = .ok (.aload_n 0, 1) := by decide +kernel
theorem dX12_head_70 : decode cX12_head 70 = .ok (.getfield 41, 3) := by decide +kernel
theorem dX12_head_73 : decode cX12_head 73 = .ok (.iload_n 1, 1) := by decide +kernel
theorem dX12_head_74 : decode cX12_head 74 = .ok (.iaload, 1) := by decide +kernel
theorem dX12_head_75 : decode cX12_head 75 = .ok (.ireturn, 1) := by decide +kernel
theorem dX12_head_76 : decode cX12_head 76 = .ok (.iload_n 2, 1) := by decide +kernel
theorem dX12_head_77 : decode cX12_head 77 = .ok (.iconst 4, 1) := by decide +kernel
theorem dX12_head_78 : decode cX12_head 78 = .ok (.if_icmp .ne 17, 3) := by decide +kernel
theorem dX12_head_81 : decode cX12_head 81 = .ok (.aload_n 0, 1) := by decide +kernel
theorem dX12_head_82 : decode cX12_head 82 = .ok (.iload_n 1, 1) := by decide +kernel
theorem dX12_head_83 : decode cX12_head 83 = .ok (.aload_n 0, 1) := by decide +kernel
theorem dX12_head_84 : decode cX12_head 84 = .ok (.getfield 120, 3) := by decide +kernel
theorem dX12_head_87 : decode cX12_head 87 = .ok (.iconst 0, 1) := by decide +kernel
theorem dX12_head_88 : decode cX12_head 88 = .ok (.iaload, 1) := by decide +kernel
theorem dX12_head_89 : decode cX12_head 89 = .ok (.invokevirtual 396, 3) := by decide +kernel
theorem dX12_head_92 : decode cX12_head 92 = .ok (.goto 8, 3) := by decide +kernel
theorem dX12_head_95 : decode cX12_head 95 = .ok (.aload_n 0, 1) := by decide +kernel
theorem dX12_head_96 : decode cX12_head 96 = .ok (.iload_n 1, 1) := by decide +kernel
theorem dX12_head_97 : decode cX12_head 97 = .ok (.invokevirtual 403, 3) := by decide +kernel
theorem dX12_head_100 : decode cX12_head 100 = .ok (.ireturn, 1) := by decide +kernel
theorem dX12_fits_0 : decode cX12_fits 0 = .ok (.aload_n 0, 1) := by decide +kernel
theorem dX12_fits_1 : decode cX12_fits 1 = .ok (.iconst 0, 1) := by decide +kernel
theorem dX12_fits_2 : decode cX12_fits 2 = .ok (.putfield 171, 3) := by decide +kernel
theorem dX12_fits_5 : decode cX12_fits 5 = .ok (.aload_n 0, 1) := by decide +kernel
theorem dX12_fits_6 : decode cX12_fits 6 = .ok (.iload_n 1, 1) := by decide +kernel
theorem dX12_fits_7 : decode cX12_fits 7 = .ok (.invokevirtual 414, 3) := by decide +kernel
theorem dX12_fits_10 : decode cX12_fits 10 = .ok (.ifCond .eq 42, 3) := by decide +kernel
theorem dX12_fits_13 : decode cX12_fits 13 = .ok (.aload_n 0, 1) := by decide +kernel
theorem dX12_fits_14 : decode cX12_fits 14 = .ok (.iload_n 2, 1) := by decide +kernel
theorem dX12_fits_15 : decode cX12_fits 15 = .ok (.invokevirtual 417, 3) := by decide +kernel
theorem dX12_fits_18 : decode cX12_fits 18 = .ok (.ifCond .eq 34, 3) := by decide +kernel
theorem dX12_fits_21 : decode cX12_fits 21 = .ok (.iload_n 3, 1) := by decide +kernel
theorem dX12_fits_22 : decode cX12_fits 22 = .ok (.iconst 0, 1) := by decide +kernel
theorem dX12_fits_23 : decode cX12_fits 23 = .ok (.bipush 99, 2) := by decide +kernel
theorem dX12_fits_25 : decode cX12_fits 25 = .ok (.invokestatic 301, 3) := by decide +kernel
theorem dX12_fits_28 : decode cX12_fits 28 = .ok (.ifCond .eq 24, 3) := by decide +kernel
theorem dX12_fits_31 : decode cX12_fits 31 = .ok (.aload_n 0, 1) := by decide +kernel
theorem dX12_fits_32 : decode cX12_fits 32 = .ok (.iload_n 1, 1) := by decide +kernel
theorem dX12_fits_33 : decode cX12_fits 33 = .ok (.iload_n 2, 1) := by decide +kernel
theorem dX12_fits_34 : decode cX12_fits 34 = .ok (.aload_n 0, 1) := by decide +kernel
theorem dX12_fits_35 : decode cX12_fits 35 = .ok (.getfield 120, 3) := by decide +kernel
theorem dX12_fits_38 : decode cX12_fits 38 = .ok (.iconst 0, 1) := by decide +kernel
theorem dX12_fits_39 : decode cX12_fits 39 = .ok (.iaload, 1) := by decide +kernel
theorem dX12_fits_40 : decode cX12_fits 40 = .ok (.iload_n 3, 1) := by decide +kernel
theorem dX12_fits_41 : decode cX12_fits 41 = .ok (.iadd, 1) := by decide +kernel
theorem dX12_fits_42 : decode cX12_fits 42 = .ok (.invokevirtual 406, 3) := by decide +kernel
theorem dX12_fits_45 : decode cX12_fits 45 = .ok (.ifCond .eq 7, 3) := by decide +kernel
theorem dX12_fits_48 : decode cX12_fits 48 = .ok (.iconst 1, 1) := by decide +kernel
theorem dX12_fits_49 : decode cX12_fits 49 = .ok (.goto 4, 3) := by decide +kernel
theorem dX12_fits_52 : decode cX12_fits 52 = .ok (.iconst 0, 1) := by decide +kernel
theorem dX12_fits_53 : decode cX12_fits 53 = .ok (.ireturn, 1) := by decide +kernel
theorem dX12_holds_0 : decode cX12_holds 0 = .ok (.aload_n 0, 1) := by decide +kernel
theorem dX12_holds_1 : decode cX12_holds 1 = .ok (.getfield 376, 3) := by decide +kernel
theorem dX12_holds_4 : decode cX12_holds 4 = .ok (.bipush 16, 2) := by decide +kernel
theorem dX12_holds_6 : decode cX12_holds 6 = .ok (.if_icmp .ne 43, 3) := by decide +kernel
theorem dX12_holds_9 : decode cX12_holds 9 = .ok (.iconst 0, 1) := by decide +kernel
theorem dX12_holds_10 : decode cX12_holds 10 = .ok (.istore_n 1, 1) := by decide +kernel
theorem dX12_holds_11 : decode cX12_holds 11 = .ok (.iload_n 1, 1) := by decide +kernel
theorem dX12_holds_12 : decode cX12_holds 12 = .ok (.sipush 195, 3) := by decide +kernel
theorem dX12_holds_15 : decode cX12_holds 15 = .ok (.if_icmp .ge 24, 3) := by decide +kernel
theorem dX12_holds_18 : decode cX12_holds 18 = .ok (.aload_n 0, 1) := by decide +kernel
theorem dX12_holds_19 : decode cX12_holds 19 = .ok (.getfield 129, 3) := by decide +kernel
theorem dX12_holds_22 : decode cX12_holds 22 = .ok (.iload_n 1, 1) := by decide +kernel
theorem dX12_holds_23 : decode cX12_holds 23 = .ok (.aload_n 0, 1) := by decide +kernel
theorem dX12_holds_24 : decode cX12_holds 24 = .ok (.getfield 129, 3) := by decide +kernel
theorem dX12_holds_27 : decode cX12_holds 27 = .ok (.iload_n 1, 1) := by decide +kernel
theorem dX12_holds_28 : decode cX12_holds 28 = .ok (.bipush 13, 2) := by decide +kernel
theorem dX12_holds_30 : decode cX12_holds 30 = .ok (.iadd, 1) := by decide +kernel
theorem dX12_holds_31 : decode cX12_holds 31 = .ok (.iaload, 1) := by decide +kernel
theorem dX12_holds_32 : decode cX12_holds 32 = .ok (.iastore, 1) := by decide +kernel
theorem dX12_holds_33 : decode cX12_holds 33 = .ok (.iinc 1 1, 3) := by decide +kernel
theorem dX12_holds_36 : decode cX12_holds 36 = .ok (.goto (-25), 3) := by decide +kernel
theorem dX12_holds_39 : decode cX12_holds 39 = .ok (.aload_n 0, 1) := by decide +kernel
theorem dX12_holds_40 : decode cX12_holds 40 = .ok (.dup, 1) := by decide +kernel
theorem dX12_holds_41 : decode cX12_holds 41 = .ok (.getfield 376, 3) := by decide +kernel
theorem dX12_holds_44 : decode cX12_holds 44 = .ok (.iconst 1, 1) := by decide +kernel
theorem dX12_holds_45 : decode cX12_holds 45 = .ok (.isub, 1) := by decide +kernel
theorem dX12_holds_46 : decode cX12_holds 46 = .ok (.putfield 376, 3) := by decide +kernel
theorem dX12_holds_49 : decode cX12_holds 49 = .ok (.aload_n 0, 1) := by decide +kernel
theorem dX12_holds_50 : decode cX12_holds 50 = .ok (.getfield 120, 3) := by decide +kernel
theorem dX12_holds_53 : decode cX12_holds 53 = .ok (.iconst 0, 1) := by decide +kernel
theorem dX12_holds_54 : decode cX12_holds 54 = .ok (.aload_n 0, 1) := by decide +kernel
theorem dX12_holds_55 : decode cX12_holds 55 = .ok (.getfield 129, 3) := by decide +kernel
theorem dX12_holds_58 : decode cX12_holds 58 = .ok (.bipush 13, 2) := by decide +kernel
theorem dX12_holds_60 : decode cX12_holds 60 = .ok (.aload_n 0, 1) := by decide +kernel
theorem dX12_holds_61 : decode cX12_holds 61 = .ok (.getfield 376, 3) := by decide +kernel
theorem dX12_holds_64 : decode cX12_holds 64 = .ok (.imul, 1) := by decide +kernel
theorem dX12_holds_65 : decode cX12_holds 65 = .ok (.invokestatic 420, 3) := by decide +kernel
theorem dX12_holds_68 : decode cX12_holds 68 = .ok (.aload_n 0, 1) := by decide +kernel
theorem dX12_holds_69 : decode cX12_holds 69 = .ok (.dup, 1) := by decide +kernel
theorem dX12_holds_70 : decode cX12_holds 70 = .ok (.getfield 376, 3) := by decide +kernel
theorem dX12_holds_73 : decode cX12_holds 73 = .ok (.iconst 1, 1) := by decide +kernel
theorem dX12_holds_74 : decode cX12_holds 74 = .ok (.iadd, 1) := by decide +kernel
theorem dX12_holds_75 : decode cX12_holds 75 = .ok (.putfield 376, 3) := by decide +kernel
theorem dX12_holds_78 : decode cX12_holds 78 = .ok (.return_, 1) := by decide +kernel
theorem dX12_put_0 : decode cX12_put 0 = .ok (.aload_n 0, 1) := by decide +kernel
theorem dX12_put_1 : decode cX12_put 1 = .ok (.iconst 0, 1) := by decide +kernel
theorem dX12_put_2 : decode cX12_put 2 = .ok (.putfield 171, 3) := by decide +kernel
theorem dX12_put_5 : decode cX12_put 5 = .ok (.aload_n 0, 1) := by decide +kernel
theorem dX12_put_6 : decode cX12_put 6 = .ok (.iload_n 1, 1) := by decide +kernel
theorem dX12_put_7 : decode cX12_put 7 = .ok (.invokevirtual 414, 3) := by decide +kernel
theorem dX12_put_10 : decode cX12_put 10 = .ok (.ifCond .eq 20, 3) := by decide +kernel
theorem dX12_put_13 : decode cX12_put 13 = .ok (.aload_n 0, 1) := by decide +kernel
theorem dX12_put_14 : decode cX12_put 14 = .ok (.iload_n 2, 1) := by decide +kernel
theorem dX12_put_15 : decode cX12_put 15 = .ok (.invokevirtual 417, 3) := by decide +kernel
theorem dX12_put_18 : decode cX12_put 18 = .ok (.ifCond .eq 12, 3) := by decide +kernel
theorem dX12_put_21 : decode cX12_put 21 = .ok (.aload_n 0, 1) := by decide +kernel
theorem dX12_put_22 : decode cX12_put 22 = .ok (.iload_n 1, 1) := by decide +kernel
theorem dX12_put_23 : decode cX12_put 23 = .ok (.iload_n 2, 1) := by decide +kernel
theorem dX12_put_24 : decode cX12_put 24 = .ok (.invokevirtual 424, 3) := by decide +kernel
theorem dX12_put_27 : decode cX12_put 27 = .ok (.ifCond .ne 5, 3) := by decide +kernel
theorem dX12_put_30 : decode cX12_put 30 = .ok (.iconst 0, 1) := by decide +kernel
theorem dX12_put_31 : decode cX12_put 31 = .ok (.ireturn, 1) := by decide +kernel
theorem dX12_put_32 : decode cX12_put 32 = .ok (.aload_n 0, 1) := by decide +kernel
theorem dX12_put_33 : decode cX12_put 33 = .ok (.invokevirtual 427, 3) := by decide +kernel
theorem dX12_put_36 : decode cX12_put 36 = .ok (.aload_n 0, 1) := by decide +kernel
theorem dX12_put_37 : decode cX12_put 37 = .ok (.getfield 120, 3) := by decide +kernel
theorem dX12_put_40 : decode cX12_put 40 = .ok (.iconst 1, 1) := by decide +kernel
theorem dX12_put_41 : decode cX12_put 41 = .ok (.iload_n 1, 1) := by decide +kernel
theorem dX12_put_42 : decode cX12_put 42 = .ok (.iadd, 1) := by decide +kernel
theorem dX12_put_43 : decode cX12_put 43 = .ok (.iload_n 2, 1) := by decide +kernel
theorem dX12_put_44 : decode cX12_put 44 = .ok (.iastore, 1) := by decide +kernel
theorem dX12_put_45 : decode cX12_put 45 = .ok (.iconst 1, 1) := by decide +kernel
theorem dX12_put_46 : decode cX12_put 46 = .ok (.ireturn, 1) := by decide +kernel
theorem dX12_off_0 : decode cX12_off 0 = .ok (.aload_n 0, 1) := by decide +kernel
theorem dX12_off_1 : decode cX12_off 1 = .ok (.iconst 0, 1) := by decide +kernel
theorem dX12_off_2 : decode cX12_off 2 = .ok (.putfield 171, 3) := by decide +kernel
theorem dX12_off_5 : decode cX12_off 5 = .ok (.aload_n 0, 1) := by decide +kernel
theorem dX12_off_6 : decode cX12_off 6 = .ok (.iload_n 1, 1) := by decide +kernel
theorem dX12_off_7 : decode cX12_off 7 = .ok (.invokevirtual 414, 3) := by decide +kernel
theorem dX12_off_10 : decode cX12_off 10 = .ok (.ifCond .eq 14, 3) := by decide +kernel
theorem dX12_off_13 : decode cX12_off 13 = .ok (.aload_n 0, 1) := by decide +kernel
theorem dX12_off_14 : decode cX12_off 14 = .ok (.getfield 120, 3) := by decide +kernel
theorem dX12_off_17 : decode cX12_off 17 = .ok (.iconst 1, 1) := by decide +kernel
theorem dX12_off_18 : decode cX12_off 18 = .ok (.iload_n 1, 1) := by decide +kernel
theorem dX12_off_19 : decode cX12_off 19 = .ok (.iadd, 1) := by decide +kernel
theorem dX12_off_20 : decode cX12_off 20 = .ok (.iaload, 1) := by decide +kernel
theorem dX12_off_21 : decode cX12_off 21 = .ok (.ifCond .ge 5, 3) := by decide +kernel
theorem dX12_off_24 : decode cX12_off 24 = .ok (.iconst (-1), 1) := by decide +kernel
theorem dX12_off_25 : decode cX12_off 25 = .ok (.ireturn, 1) := by decide +kernel
theorem dX12_off_26 : decode cX12_off 26 = .ok (.aload_n 0, 1) := by decide +kernel
theorem dX12_off_27 : decode cX12_off 27 = .ok (.invokevirtual 427, 3) := by decide +kernel
theorem dX12_off_30 : decode cX12_off 30 = .ok (.aload_n 0, 1) := by decide +kernel
theorem dX12_off_31 : decode cX12_off 31 = .ok (.getfield 120, 3) := by decide +kernel
theorem dX12_off_34 : decode cX12_off 34 = .ok (.iconst 1, 1) := by decide +kernel
theorem dX12_off_35 : decode cX12_off 35 = .ok (.iload_n 1, 1) := by decide +kernel
theorem dX12_off_36 : decode cX12_off 36 = .ok (.iadd, 1) := by decide +kernel
theorem dX12_off_37 : decode cX12_off 37 = .ok (.iaload, 1) := by decide +kernel
theorem dX12_off_38 : decode cX12_off 38 = .ok (.istore_n 2, 1) := by decide +kernel
theorem dX12_off_39 : decode cX12_off 39 = .ok (.aload_n 0, 1) := by decide +kernel
theorem dX12_off_40 : decode cX12_off 40 = .ok (.getfield 120, 3) := by decide +kernel
theorem dX12_off_43 : decode cX12_off 43 = .ok (.iconst 1, 1) := by decide +kernel
theorem dX12_off_44 : decode cX12_off 44 = .ok (.iload_n 1, 1) := by decide +kernel
theorem dX12_off_45 : decode cX12_off 45 = .ok (.iadd, 1) := by decide +kernel
theorem dX12_off_46 : decode cX12_off 46 = .ok (.iconst (-1), 1) := by decide +kernel
theorem dX12_off_47 : decode cX12_off 47 = .ok (.iastore, 1) := by decide +kernel
theorem dX12_off_48 : decode cX12_off 48 = .ok (.iload_n 2, 1) := by decide +kernel
theorem dX12_off_49 : decode cX12_off 49 = .ok (.ireturn, 1) := by decide +kernel
theorem dX12_mend_0 : decode cX12_mend 0 = .ok (.aload_n 0, 1) := by decide +kernel
theorem dX12_mend_1 : decode cX12_mend 1 = .ok (.iconst 0, 1) := by decide +kernel
theorem dX12_mend_2 : decode cX12_mend 2 = .ok (.putfield 171, 3) := by decide +kernel
theorem dX12_mend_5 : decode cX12_mend 5 = .ok (.aload_n 0, 1) := by decide +kernel
theorem dX12_mend_6 : decode cX12_mend 6 = .ok (.iload_n 1, 1) := by decide +kernel
theorem dX12_mend_7 : decode cX12_mend 7 = .ok (.invokevirtual 414, 3) := by decide +kernel
theorem dX12_mend_10 : decode cX12_mend 10 = .ok (.ifCond .eq 14, 3) := by decide +kernel
theorem dX12_mend_13 : decode cX12_mend 13 = .ok (.aload_n 0, 1) := by decide +kernel
theorem dX12_mend_14 : decode cX12_mend 14 = .ok (.getfield 120, 3) := by decide +kernel
theorem dX12_mend_17 : decode cX12_mend 17 = .ok (.iconst 1, 1) := by decide +kernel
theorem dX12_mend_18 : decode cX12_mend 18 = .ok (.iload_n 1, 1) := by decide +kernel
theorem dX12_mend_19 : decode cX12_mend 19 = .ok (.iadd, 1) := by decide +kernel
theorem dX12_mend_20 : decode cX12_mend 20 = .ok (.iaload, 1) := by decide +kernel
theorem dX12_mend_21 : decode cX12_mend 21 = .ok (.ifCond .lt 5, 3) := by decide +kernel
theorem dX12_mend_24 : decode cX12_mend 24 = .ok (.iconst (-1), 1) := by decide +kernel
theorem dX12_mend_25 : decode cX12_mend 25 = .ok (.ireturn, 1) := by decide +kernel
theorem dX12_mend_26 : decode cX12_mend 26 = .ok (.aload_n 0, 1) := by decide +kernel
theorem dX12_mend_27 : decode cX12_mend 27 = .ok (.invokevirtual 427, 3) := by decide +kernel
theorem dX12_mend_30 : decode cX12_mend 30 = .ok (.aload_n 0, 1) := by decide +kernel
theorem dX12_mend_31 : decode cX12_mend 31 = .ok (.getfield 120, 3) := by decide +kernel
theorem dX12_mend_34 : decode cX12_mend 34 = .ok (.bipush 7, 2) := by decide +kernel
theorem dX12_mend_36 : decode cX12_mend 36 = .ok (.iload_n 1, 1) := by decide +kernel
theorem dX12_mend_37 : decode cX12_mend 37 = .ok (.iadd, 1) := by decide +kernel
theorem dX12_mend_38 : decode cX12_mend 38 = .ok (.iaload, 1) := by decide +kernel
theorem dX12_mend_39 : decode cX12_mend 39 = .ok (.istore_n 2, 1) := by decide +kernel
theorem dX12_mend_40 : decode cX12_mend 40 = .ok (.aload_n 0, 1) := by decide +kernel
theorem dX12_mend_41 : decode cX12_mend 41 = .ok (.getfield 120, 3) := by decide +kernel
theorem dX12_mend_44 : decode cX12_mend 44 = .ok (.bipush 7, 2) := by decide +kernel
theorem dX12_mend_46 : decode cX12_mend 46 = .ok (.iload_n 1, 1) := by decide +kernel
theorem dX12_mend_47 : decode cX12_mend 47 = .ok (.iadd, 1) := by decide +kernel
theorem dX12_mend_48 : decode cX12_mend 48 = .ok (.iconst 0, 1) := by decide +kernel
theorem dX12_mend_49 : decode cX12_mend 49 = .ok (.iastore, 1) := by decide +kernel
theorem dX12_mend_50 : decode cX12_mend 50 = .ok (.iload_n 2, 1) := by decide +kernel
theorem dX12_mend_51 : decode cX12_mend 51 = .ok (.ireturn, 1) := by decide +kernel
theorem dX12_season_0 : decode cX12_season 0 = .ok (.aload_n 0, 1) := by decide +kernel
theorem dX12_season_1 : decode cX12_season 1 = .ok (.iconst 0, 1) := by decide +kernel
theorem dX12_season_2 : decode cX12_season 2 = .ok (.putfield 171, 3) := by decide +kernel
theorem dX12_season_5 : decode cX12_season 5 = .ok (.aload_n 0, 1) := by decide +kernel
theorem dX12_season_6 : decode cX12_season 6 = .ok (.invokevirtual 427, 3) := by decide +kernel
theorem dX12_season_9 : decode cX12_season 9 = .ok (.aload_n 0, 1) := by decide +kernel
theorem dX12_season_10 : decode cX12_season 10 = .ok (.invokevirtual 168, 3) := by decide +kernel
theorem dX12_season_13 : decode cX12_season 13 = .ok (.aload_n 0, 1) := by decide +kernel
theorem dX12_season_14 : decode cX12_season 14 = .ok (.invokevirtual 430, 3) := by decide +kernel
theorem dX12_season_17 : decode cX12_season 17 = .ok (.ireturn, 1) := by decide +kernel
theorem dX12_undo_0 : decode cX12_undo 0 = .ok (.aload_n 0, 1) := by decide +kernel
theorem dX12_undo_1 : decode cX12_undo 1 = .ok (.iconst 0, 1) := by decide +kernel
theorem dX12_undo_2 : decode cX12_undo 2 = .ok (.putfield 171, 3) := by decide +kernel
theorem dX12_undo_5 : decode cX12_undo 5 = .ok (.aload_n 0, 1) := by decide +kernel
theorem dX12_undo_6 : decode cX12_undo 6 = .ok (.getfield 376, 3) := by decide +kernel
theorem dX12_undo_9 : decode cX12_undo 9 = .ok (.ifCond .ne 5, 3) := by decide +kernel
theorem dX12_undo_12 : decode cX12_undo 12 = .ok (.iconst 0, 1) := by decide +kernel
theorem dX12_undo_13 : decode cX12_undo 13 = .ok (.ireturn, 1) := by decide +kernel
theorem dX12_undo_14 : decode cX12_undo 14 = .ok (.aload_n 0, 1) := by decide +kernel
theorem dX12_undo_15 : decode cX12_undo 15 = .ok (.dup, 1) := by decide +kernel
theorem dX12_undo_16 : decode cX12_undo 16 = .ok (.getfield 376, 3) := by decide +kernel
theorem dX12_undo_19 : decode cX12_undo 19 = .ok (.iconst 1, 1) := by decide +kernel
theorem dX12_undo_20 : decode cX12_undo 20 = .ok (.isub, 1) := by decide +kernel
theorem dX12_undo_21 : decode cX12_undo 21 = .ok (.putfield 376, 3) := by decide +kernel
theorem dX12_undo_24 : decode cX12_undo 24 = .ok (.aload_n 0, 1) := by decide +kernel
theorem dX12_undo_25 : decode cX12_undo 25 = .ok (.getfield 129, 3) := by decide +kernel
theorem dX12_undo_28 : decode cX12_undo 28 = .ok (.bipush 13, 2) := by decide +kernel
theorem dX12_undo_30 : decode cX12_undo 30 = .ok (.aload_n 0, 1) := by decide +kernel
theorem dX12_undo_31 : decode cX12_undo 31 = .ok (.getfield 376, 3) := by decide +kernel
theorem dX12_undo_34 : decode cX12_undo 34 = .ok (.imul, 1) := by decide +kernel
theorem dX12_undo_35 : decode cX12_undo 35 = .ok (.aload_n 0, 1) := by decide +kernel
theorem dX12_undo_36 : decode cX12_undo 36 = .ok (.getfield 120, 3) := by decide +kernel
theorem dX12_undo_39 : decode cX12_undo 39 = .ok (.iconst 0, 1) := by decide +kernel
theorem dX12_undo_40 : decode cX12_undo 40 = .ok (.invokestatic 420, 3) := by decide +kernel
theorem dX12_undo_43 : decode cX12_undo 43 = .ok (.aload_n 0, 1) := by decide +kernel
theorem dX12_undo_44 : decode cX12_undo 44 = .ok (.invokevirtual 168, 3) := by decide +kernel
theorem dX12_undo_47 : decode cX12_undo 47 = .ok (.iconst 1, 1) := by decide +kernel
theorem dX12_undo_48 : decode cX12_undo 48 = .ok (.ireturn, 1) := by decide +kernel
theorem dX12_goes_0 : decode cX12_goes 0 = .ok (.aload_n 0, 1) := by decide +kernel
theorem dX12_goes_1 : decode cX12_goes 1 = .ok (.getfield 99, 3) := by decide +kernel
theorem dX12_goes_4 : decode cX12_goes 4 = .ok (.iload_n 1, 1) := by decide +kernel
theorem dX12_goes_5 : decode cX12_goes 5 = .ok (.iaload, 1) := by decide +kernel
theorem dX12_goes_6 : decode cX12_goes 6 = .ok (.istore_n 2, 1) := by decide +kernel
theorem dX12_goes_7 : decode cX12_goes 7 = .ok (.aload_n 0, 1) := by decide +kernel
theorem dX12_goes_8 : decode cX12_goes 8 = .ok (.getfield 96, 3) := by decide +kernel
theorem dX12_goes_11 : decode cX12_goes 11 = .ok (.iload_n 1, 1) := by decide +kernel
theorem dX12_goes_12 : decode cX12_goes 12 = .ok (.iaload, 1) := by decide +kernel
theorem dX12_goes_13 : decode cX12_goes 13 = .ok (.ifCond .ne 36, 3) := by decide +kernel
theorem dX12_goes_16 : decode cX12_goes 16 = .ok (.aload_n 0, 1) := by decide +kernel
theorem dX12_goes_17 : decode cX12_goes 17 = .ok (.iload_n 2, 1) := by decide +kernel
theorem dX12_goes_18 : decode cX12_goes 18 = .ok (.aload_n 0, 1) := by decide +kernel
theorem dX12_goes_19 : decode cX12_goes 19 = .ok (.getfield 102, 3) := by decide +kernel
theorem dX12_goes_22 : decode cX12_goes 22 = .ok (.iload_n 1, 1) := by decide +kernel
theorem dX12_goes_23 : decode cX12_goes 23 = .ok (.iaload, 1) := by decide +kernel
theorem dX12_goes_24 : decode cX12_goes 24 = .ok (.invokevirtual 424, 3) := by decide +kernel
theorem dX12_goes_27 : decode cX12_goes 27 = .ok (.ifCond .ne 5, 3) := by decide +kernel
theorem dX12_goes_30 : decode cX12_goes 30 = .ok (.iconst 0, 1) := by decide +kernel
theorem dX12_goes_31 : decode cX12_goes 31 = .ok (.ireturn, 1) := by decide +kernel
theorem dX12_goes_32 : decode cX12_goes 32 = .ok (.aload_n 0, 1) := by decide +kernel
theorem dX12_goes_33 : decode cX12_goes 33 = .ok (.getfield 120, 3) := by decide +kernel
theorem dX12_goes_36 : decode cX12_goes 36 = .ok (.iconst 1, 1) := by decide +kernel
theorem dX12_goes_37 : decode cX12_goes 37 = .ok (.iload_n 2, 1) := by decide +kernel
theorem dX12_goes_38 : decode cX12_goes 38 = .ok (.iadd, 1) := by decide +kernel
theorem dX12_goes_39 : decode cX12_goes 39 = .ok (.aload_n 0, 1) := by decide +kernel
theorem dX12_goes_40 : decode cX12_goes 40 = .ok (.getfield 102, 3) := by decide +kernel
theorem dX12_goes_43 : decode cX12_goes 43 = .ok (.iload_n 1, 1) := by decide +kernel
theorem dX12_goes_44 : decode cX12_goes 44 = .ok (.iaload, 1) := by decide +kernel
theorem dX12_goes_45 : decode cX12_goes 45 = .ok (.iastore, 1) := by decide +kernel
theorem dX12_goes_46 : decode cX12_goes 46 = .ok (.goto 61, 3) := by decide +kernel
theorem dX12_goes_49 : decode cX12_goes 49 = .ok (.aload_n 0, 1) := by decide +kernel
theorem dX12_goes_50 : decode cX12_goes 50 = .ok (.getfield 96, 3) := by decide +kernel
theorem dX12_goes_53 : decode cX12_goes 53 = .ok (.iload_n 1, 1) := by decide +kernel
theorem dX12_goes_54 : decode cX12_goes 54 = .ok (.iaload, 1) := by decide +kernel
theorem dX12_goes_55 : decode cX12_goes 55 = .ok (.iconst 1, 1) := by decide +kernel
theorem dX12_goes_56 : decode cX12_goes 56 = .ok (.if_icmp .ne 28, 3) := by decide +kernel
theorem dX12_goes_59 : decode cX12_goes 59 = .ok (.aload_n 0, 1) := by decide +kernel
theorem dX12_goes_60 : decode cX12_goes 60 = .ok (.getfield 120, 3) := by decide +kernel
theorem dX12_goes_63 : decode cX12_goes 63 = .ok (.iconst 1, 1) := by decide +kernel
theorem dX12_goes_64 : decode cX12_goes 64 = .ok (.iload_n 2, 1) := by decide +kernel
theorem dX12_goes_65 : decode cX12_goes 65 = .ok (.iadd, 1) := by decide +kernel
theorem dX12_goes_66 : decode cX12_goes 66 = .ok (.iaload, 1) := by decide +kernel
theorem dX12_goes_67 : decode cX12_goes 67 = .ok (.ifCond .ge 5, 3) := by decide +kernel
theorem dX12_goes_70 : decode cX12_goes 70 = .ok (.iconst 0, 1) := by decide +kernel
theorem dX12_goes_71 : decode cX12_goes 71 = .ok (.ireturn, 1) := by decide +kernel
theorem dX12_goes_72 : decode cX12_goes 72 = .ok (.aload_n 0, 1) := by decide +kernel
theorem dX12_goes_73 : decode cX12_goes 73 = .ok (.getfield 120, 3) := by decide +kernel
theorem dX12_goes_76 : decode cX12_goes 76 = .ok (.iconst 1, 1) := by decide +kernel
theorem dX12_goes_77 : decode cX12_goes 77 = .ok (.iload_n 2, 1) := by decide +kernel
theorem dX12_goes_78 : decode cX12_goes 78 = .ok (.iadd, 1) := by decide +kernel
theorem dX12_goes_79 : decode cX12_goes 79 = .ok (.iconst (-1), 1) := by decide +kernel
theorem dX12_goes_80 : decode cX12_goes 80 = .ok (.iastore, 1) := by decide +kernel
theorem dX12_goes_81 : decode cX12_goes 81 = .ok (.goto 26, 3) := by decide +kernel
theorem dX12_goes_84 : decode cX12_goes 84 = .ok (.aload_n 0, 1) := by decide +kernel
theorem dX12_goes_85 : decode cX12_goes 85 = .ok (.getfield 120, 3) := by decide +kernel
theorem dX12_goes_88 : decode cX12_goes 88 = .ok (.iconst 1, 1) := by decide +kernel
theorem dX12_goes_89 : decode cX12_goes 89 = .ok (.iload_n 2, 1) := by decide +kernel
theorem dX12_goes_90 : decode cX12_goes 90 = .ok (.iadd, 1) := by decide +kernel
theorem dX12_goes_91 : decode cX12_goes 91 = .ok (.iaload, 1) := by decide +kernel
theorem dX12_goes_92 : decode cX12_goes 92 = .ok (.ifCond .lt 5, 3) := by decide +kernel
theorem dX12_goes_95 : decode cX12_goes 95 = .ok (.iconst 0, 1) := by decide +kernel
theorem dX12_goes_96 : decode cX12_goes 96 = .ok (.ireturn, 1) := by decide +kernel
theorem dX12_goes_97 : decode cX12_goes 97 = .ok (.aload_n 0, 1) := by decide +kernel
theorem dX12_goes_98 : decode cX12_goes 98 = .ok (.getfield 120, 3) := by decide +kernel
theorem dX12_goes_101 : decode cX12_goes 101 = .ok (.bipush 7, 2) := by decide +kernel
theorem dX12_goes_103 : decode cX12_goes 103 = .ok (.iload_n 2, 1) := by decide +kernel
theorem dX12_goes_104 : decode cX12_goes 104 = .ok (.iadd, 1) := by decide +kernel
theorem dX12_goes_105 : decode cX12_goes 105 = .ok (.iconst 0, 1) := by decide +kernel
theorem dX12_goes_106 : decode cX12_goes 106 = .ok (.iastore, 1) := by decide +kernel
theorem dX12_goes_107 : decode cX12_goes 107 = .ok (.iconst 1, 1) := by decide +kernel
theorem dX12_goes_108 : decode cX12_goes 108 = .ok (.ireturn, 1) := by decide +kernel
theorem dX12_judged_0 : decode cX12_judged 0 = .ok (.aload_n 0, 1) := by decide +kernel
theorem dX12_judged_1 : decode cX12_judged 1 = .ok (.iconst 0, 1) := by decide +kernel
theorem dX12_judged_2 : decode cX12_judged 2 = .ok (.putfield 171, 3) := by decide +kernel
theorem dX12_judged_5 : decode cX12_judged 5 = .ok (.iload_n 1, 1) := by decide +kernel
theorem dX12_judged_6 : decode cX12_judged 6 = .ok (.iconst 0, 1) := by decide +kernel
theorem dX12_judged_7 : decode cX12_judged 7 = .ok (.iconst 2, 1) := by decide +kernel
theorem dX12_judged_8 : decode cX12_judged 8 = .ok (.invokestatic 301, 3) := by decide +kernel
theorem dX12_judged_11 : decode cX12_judged 11 = .ok (.ifCond .ne 6, 3) := by decide +kernel
theorem dX12_judged_14 : decode cX12_judged 14 = .ok (.bipush (-2), 2) := by decide +kernel
theorem dX12_judged_16 : decode cX12_judged 16 = .ok (.ireturn, 1) := by decide +kernel
theorem dX12_judged_17 : decode cX12_judged 17 = .ok (.aload_n 0, 1) := by decide +kernel
theorem dX12_judged_18 : decode cX12_judged 18 = .ok (.getfield 120, 3) := by decide +kernel
theorem dX12_judged_21 : decode cX12_judged 21 = .ok (.iconst 0, 1) := by decide +kernel
theorem dX12_judged_22 : decode cX12_judged 22 = .ok (.aload_n 0, 1) := by decide +kernel
theorem dX12_judged_23 : decode cX12_judged 23 = .ok (.getfield 123, 3) := by decide +kernel
theorem dX12_judged_26 : decode cX12_judged 26 = .ok (.iconst 0, 1) := by decide +kernel
theorem dX12_judged_27 : decode cX12_judged 27 = .ok (.invokestatic 420, 3) := by decide +kernel
theorem dX12_judged_30 : decode cX12_judged 30 = .ok (.aload_n 0, 1) := by decide +kernel
theorem dX12_judged_31 : decode cX12_judged 31 = .ok (.invokevirtual 165, 3) := by decide +kernel
theorem dX12_judged_34 : decode cX12_judged 34 = .ok (.iconst (-1), 1) := by decide +kernel
theorem dX12_judged_35 : decode cX12_judged 35 = .ok (.istore_n 2, 1) := by decide +kernel
theorem dX12_judged_36 : decode cX12_judged 36 = .ok (.iconst (-1), 1) := by decide +kernel
theorem dX12_judged_37 : decode cX12_judged 37 = .ok (.istore_n 3, 1) := by decide +kernel
theorem dX12_judged_38 : decode cX12_judged 38 = .ok (.iconst 0, 1) := by decide +kernel
theorem dX12_judged_39 : decode cX12_judged 39 = .ok (.istore 4, 2) := by decide +kernel
theorem dX12_judged_41 : decode cX12_judged 41 = .ok (.iload 4, 2) := by decide +kernel
theorem dX12_judged_43 : decode cX12_judged 43 = .ok (.aload_n 0, 1) := by decide +kernel
theorem dX12_judged_44 : decode cX12_judged 44 = .ok (.getfield 93, 3) := by decide +kernel
theorem dX12_judged_47 : decode cX12_judged 47 = .ok (.iconst 0, 1) := by decide +kernel
theorem dX12_judged_48 : decode cX12_judged 48 = .ok (.iaload, 1) := by decide +kernel
theorem dX12_judged_49 : decode cX12_judged 49 = .ok (.if_icmp .ge 53, 3) := by decide +kernel
theorem dX12_judged_52 : decode cX12_judged 52 = .ok (.aload_n 0, 1) := by decide +kernel
theorem dX12_judged_53 : decode cX12_judged 53 = .ok (.getfield 96, 3) := by decide +kernel
theorem dX12_judged_56 : decode cX12_judged 56 = .ok (.iload 4, 2) := by decide +kernel
theorem dX12_judged_58 : decode cX12_judged 58 = .ok (.iaload, 1) := by decide +kernel
theorem dX12_judged_59 : decode cX12_judged 59 = .ok (.iconst 3, 1) := by decide +kernel
theorem dX12_judged_60 : decode cX12_judged 60 = .ok (.if_icmp .ne 20, 3) := by decide +kernel
theorem dX12_judged_63 : decode cX12_judged 63 = .ok (.aload_n 0, 1) := by decide +kernel
theorem dX12_judged_64 : decode cX12_judged 64 = .ok (.invokevirtual 430, 3) := by decide +kernel
theorem dX12_judged_67 : decode cX12_judged 67 = .ok (.ifCond .le 29, 3) := by decide +kernel
theorem dX12_judged_70 : decode cX12_judged 70 = .ok (.iload_n 3, 1) := by decide +kernel
theorem dX12_judged_71 : decode cX12_judged 71 = .ok (.ifCond .ge 25, 3) := by decide +kernel
theorem dX12_judged_74 : decode cX12_judged 74 = .ok (.iload 4, 2) := by decide +kernel
theorem dX12_judged_76 : decode cX12_judged 76 = .ok (.istore_n 3, 1) := by decide +kernel
theorem dX12_judged_77 : decode cX12_judged 77 = .ok (.goto 19, 3) := by decide +kernel
theorem dX12_judged_80 : decode cX12_judged 80 = .ok (.aload_n 0, 1) := by decide +kernel
theorem dX12_judged_81 : decode cX12_judged 81 = .ok (.iload 4, 2) := by decide +kernel
theorem dX12_judged_83 : decode cX12_judged 83 = .ok (.invokevirtual 433, 3) := by decide +kernel
theorem dX12_judged_86 : decode cX12_judged 86 = .ok (.ifCond .ne 10, 3) := by decide +kernel
theorem dX12_judged_89 : decode cX12_judged 89 = .ok (.iload_n 2, 1) := by decide +kernel
theorem dX12_judged_90 : decode cX12_judged 90 = .ok (.ifCond .ge 6, 3) := by decide +kernel
theorem dX12_judged_93 : decode cX12_judged 93 = .ok (.iload 4, 2) := by decide +kernel
theorem dX12_judged_95 : decode cX12_judged 95 = .ok (.istore_n 2, 1) := by decide +kernel
theorem dX12_judged_96 : decode cX12_judged 96 = .ok (.iinc 4 1, 3) := by decide +kernel
theorem dX12_judged_99 : decode cX12_judged 99 = .ok (.goto (-58), 3) := by decide +kernel
theorem dX12_judged_102 : decode cX12_judged 102 = .ok (.aload_n 0, 1) := by decide +kernel
theorem dX12_judged_103 : decode cX12_judged 103 = .ok (.aload_n 0, 1) := by decide +kernel
theorem dX12_judged_104 : decode cX12_judged 104 = .ok (.invokevirtual 436, 3) := by decide +kernel
theorem dX12_judged_107 : decode cX12_judged 107 = .ok (.invokevirtual 439, 3) := by decide +kernel
theorem dX12_judged_110 : decode cX12_judged 110 = .ok (.istore 4, 2) := by decide +kernel
theorem dX12_judged_112 : decode cX12_judged 112 = .ok (.aload_n 0, 1) := by decide +kernel
theorem dX12_judged_113 : decode cX12_judged 113 = .ok (.getfield 123, 3) := by decide +kernel
theorem dX12_judged_116 : decode cX12_judged 116 = .ok (.iconst 0, 1) := by decide +kernel
theorem dX12_judged_117 : decode cX12_judged 117 = .ok (.aload_n 0, 1) := by decide +kernel
theorem dX12_judged_118 : decode cX12_judged 118 = .ok (.getfield 120, 3) := by decide +kernel
theorem dX12_judged_121 : decode cX12_judged 121 = .ok (.iconst 0, 1) := by decide +kernel
theorem dX12_judged_122 : decode cX12_judged 122 = .ok (.invokestatic 420, 3) := by decide +kernel
theorem dX12_judged_125 : decode cX12_judged 125 = .ok (.iload_n 1, 1) := by decide +kernel
theorem dX12_judged_126 : decode cX12_judged 126 = .ok (.ifCond .ne 7, 3) := by decide +kernel
theorem dX12_judged_129 : decode cX12_judged 129 = .ok (.iload_n 2, 1) := by decide +kernel
theorem dX12_judged_130 : decode cX12_judged 130 = .ok (.goto 14, 3) := by decide +kernel
theorem dX12_judged_133 : decode cX12_judged 133 = .ok (.iload_n 1, 1) := by decide +kernel
theorem dX12_judged_134 : decode cX12_judged 134 = .ok (.iconst 1, 1) := by decide +kernel
theorem dX12_judged_135 : decode cX12_judged 135 = .ok (.if_icmp .ne 7, 3) := by decide +kernel
theorem dX12_judged_138 : decode cX12_judged 138 = .ok (.iload_n 3, 1) := by decide +kernel
theorem dX12_judged_139 : decode cX12_judged 139 = .ok (.goto 5, 3) := by decide +kernel
theorem dX12_judged_142 : decode cX12_judged 142 = .ok (.iload 4, 2) := by decide +kernel
theorem dX12_judged_144 : decode cX12_judged 144 = .ok (.ireturn, 1) := by decide +kernel
theorem dX12_isFor_0 : decode cX12_isFor 0 = .ok (.iload_n 1, 1) := by decide +kernel
theorem dX12_isFor_1 : decode cX12_isFor 1 = .ok (.iload_n 3, 1) := by decide +kernel
theorem dX12_isFor_2 : decode cX12_isFor 2 = .ok (.imul, 1) := by decide +kernel
theorem dX12_isFor_3 : decode cX12_isFor 3 = .ok (.aload_n 0, 1) := by decide +kernel
theorem dX12_isFor_4 : decode cX12_isFor 4 = .ok (.getfield 41, 3) := by decide +kernel
theorem dX12_isFor_7 : decode cX12_isFor 7 = .ok (.iload_n 2, 1) := by decide +kernel
theorem dX12_isFor_8 : decode cX12_isFor 8 = .ok (.iaload, 1) := by decide +kernel
theorem dX12_isFor_9 : decode cX12_isFor 9 = .ok (.bipush 9, 2) := by decide +kernel
theorem dX12_isFor_11 : decode cX12_isFor 11 = .ok (.imul, 1) := by decide +kernel
theorem dX12_isFor_12 : decode cX12_isFor 12 = .ok (.if_icmp .ge 7, 3) := by decide +kernel
theorem dX12_isFor_15 : decode cX12_isFor 15 = .ok (.iconst 1, 1) := by decide +kernel
theorem dX12_isFor_16 : decode cX12_isFor 16 = .ok (.goto 4, 3) := by decide +kernel
theorem dX12_isFor_19 : decode cX12_isFor 19 = .ok (.iconst 0, 1) := by decide +kernel
theorem dX12_isFor_20 : decode cX12_isFor 20 = .ok (.istore 4, 2) := by decide +kernel
theorem dX12_isFor_22 : decode cX12_isFor 22 = .ok (.aload_n 0, 1) := by decide +kernel
theorem dX12_isFor_23 : decode cX12_isFor 23 = .ok (.getfield 50, 3) := by decide +kernel
theorem dX12_isFor_26 : decode cX12_isFor 26 = .ok (.iconst 1, 1) := by decide +kernel
theorem dX12_isFor_27 : decode cX12_isFor 27 = .ok (.iaload, 1) := by decide +kernel
theorem dX12_isFor_28 : decode cX12_isFor 28 = .ok (.aload_n 0, 1) := by decide +kernel
theorem dX12_isFor_29 : decode cX12_isFor 29 = .ok (.getfield 47, 3) := by decide +kernel
theorem dX12_isFor_32 : decode cX12_isFor 32 = .ok (.iconst 1, 1) := by decide +kernel
theorem dX12_isFor_33 : decode cX12_isFor 33 = .ok (.iaload, 1) := by decide +kernel
theorem dX12_isFor_34 : decode cX12_isFor 34 = .ok (.if_icmp .le 37, 3) := by decide +kernel
theorem dX12_isFor_37 : decode cX12_isFor 37 = .ok (.aload_n 0, 1) := by decide +kernel
theorem dX12_isFor_38 : decode cX12_isFor 38 = .ok (.getfield 90, 3) := by decide +kernel
theorem dX12_isFor_41 : decode cX12_isFor 41 = .ok (.iconst 4, 1) := by decide +kernel
theorem dX12_isFor_42 : decode cX12_isFor 42 = .ok (.iload_n 1, 1) := by decide +kernel
theorem dX12_isFor_43 : decode cX12_isFor 43 = .ok (.iastore, 1) := by decide +kernel
theorem dX12_isFor_44 : decode cX12_isFor 44 = .ok (.aload_n 0, 1) := by decide +kernel
theorem dX12_isFor_45 : decode cX12_isFor 45 = .ok (.getfield 90, 3) := by decide +kernel
theorem dX12_isFor_48 : decode cX12_isFor 48 = .ok (.iconst 5, 1) := by decide +kernel
theorem dX12_isFor_49 : decode cX12_isFor 49 = .ok (.aload_n 0, 1) := by decide +kernel
theorem dX12_isFor_50 : decode cX12_isFor 50 = .ok (.getfield 41, 3) := by decide +kernel
theorem dX12_isFor_53 : decode cX12_isFor 53 = .ok (.iload_n 2, 1) := by decide +kernel
theorem dX12_isFor_54 : decode cX12_isFor 54 = .ok (.iaload, 1) := by decide +kernel
theorem dX12_isFor_55 : decode cX12_isFor 55 = .ok (.iastore, 1) := by decide +kernel
theorem dX12_isFor_56 : decode cX12_isFor 56 = .ok (.aload_n 0, 1) := by decide +kernel
theorem dX12_isFor_57 : decode cX12_isFor 57 = .ok (.getfield 90, 3) := by decide +kernel
theorem dX12_isFor_60 : decode cX12_isFor 60 = .ok (.bipush 6, 2) := by decide +kernel
theorem dX12_isFor_62 : decode cX12_isFor 62 = .ok (.iload_n 3, 1) := by decide +kernel
theorem dX12_isFor_63 : decode cX12_isFor 63 = .ok (.iastore, 1) := by decide +kernel
theorem dX12_isFor_64 : decode cX12_isFor 64 = .ok (.aload_n 0, 1) := by decide +kernel
theorem dX12_isFor_65 : decode cX12_isFor 65 = .ok (.iconst 1, 1) := by decide +kernel
theorem dX12_isFor_66 : decode cX12_isFor 66 = .ok (.invokevirtual 389, 3) := by decide +kernel
theorem dX12_isFor_69 : decode cX12_isFor 69 = .ok (.istore 4, 2) := by decide +kernel
theorem dX12_isFor_71 : decode cX12_isFor 71 = .ok (.iload 4, 2) := by decide +kernel
theorem dX12_isFor_73 : decode cX12_isFor 73 = .ok (.ifCond .eq 7, 3) := by decide +kernel
theorem dX12_isFor_76 : decode cX12_isFor 76 = .ok (.iconst 1, 1) := by decide +kernel
theorem dX12_isFor_77 : decode cX12_isFor 77 = .ok (.goto 4, 3) := by decide +kernel
theorem dX12_isFor_80 : decode cX12_isFor 80 = .ok (.iconst 0, 1) := by decide +kernel
theorem dX12_isFor_81 : decode cX12_isFor 81 = .ok (.ireturn, 1) := by decide +kernel
theorem dX12_judgedFor_0 : decode cX12_judgedFor 0 = .ok (.iconst 0, 1) := by decide +kernel
theorem dX12_judgedFor_1 : decode cX12_judgedFor 1 = .ok (.istore_n 2, 1) := by decide +kernel
theorem dX12_judgedFor_2 : decode cX12_judgedFor 2 = .ok (.iconst 0, 1) := by decide +kernel
theorem dX12_judgedFor_3 : decode cX12_judgedFor 3 = .ok (.istore_n 3, 1) := by decide +kernel
theorem dX12_judgedFor_4 : decode cX12_judgedFor 4 = .ok (.iload_n 3, 1) := by decide +kernel
theorem dX12_judgedFor_5 : decode cX12_judgedFor 5 = .ok (.aload_n 0, 1) := by decide +kernel
theorem dX12_judgedFor_6 : decode cX12_judgedFor 6 = .ok (.getfield 13, 3) := by decide +kernel
theorem dX12_judgedFor_9 : decode cX12_judgedFor 9 = .ok (.iconst 0, 1) := by decide +kernel
theorem dX12_judgedFor_10 : decode cX12_judgedFor 10 = .ok (.iaload, 1) := by decide +kernel
theorem dX12_judgedFor_11 : decode cX12_judgedFor 11 = .ok (.if_icmp .ge 52, 3) := by decide +kernel
theorem dX12_judgedFor_14 : decode cX12_judgedFor 14 = .ok (.iload_n 2, 1) := by decide +kernel
theorem dX12_judgedFor_15 : decode cX12_judgedFor 15 = .ok (.aload_n 0, 1) := by decide +kernel
theorem dX12_judgedFor_16 : decode cX12_judgedFor 16 = .ok (.getfield 120, 3) := by decide +kernel
theorem dX12_judgedFor_19 : decode cX12_judgedFor 19 = .ok (.iconst 1, 1) := by decide +kernel
theorem dX12_judgedFor_20 : decode cX12_judgedFor 20 = .ok (.iload_n 3, 1) := by decide +kernel
theorem dX12_judgedFor_21 : decode cX12_judgedFor 21 = .ok (.iadd, 1) := by decide +kernel
theorem dX12_judgedFor_22 : decode cX12_judgedFor 22 = .ok (.iaload, 1) := by decide +kernel
theorem dX12_judgedFor_23 : decode cX12_judgedFor 23 = .ok (.ifCond .lt 31, 3) := by decide +kernel
theorem dX12_judgedFor_26 : decode cX12_judgedFor 26 = .ok (.aload_n 0, 1) := by decide +kernel
theorem dX12_judgedFor_27 : decode cX12_judgedFor 27 = .ok (.aload_n 0, 1) := by decide +kernel
theorem dX12_judgedFor_28 : decode cX12_judgedFor 28 = .ok (.getfield 29, 3) := by decide +kernel
theorem dX12_judgedFor_31 : decode cX12_judgedFor 31 = .ok (.iload_n 3, 1) := by decide +kernel
theorem dX12_judgedFor_32 : decode cX12_judgedFor 32 = .ok (.iaload, 1) := by decide +kernel
theorem dX12_judgedFor_33 : decode cX12_judgedFor 33 = .ok (.aload_n 0, 1) := by decide +kernel
theorem dX12_judgedFor_34 : decode cX12_judgedFor 34 = .ok (.getfield 120, 3) := by decide +kernel
theorem dX12_judgedFor_37 : decode cX12_judgedFor 37 = .ok (.iconst 1, 1) := by decide +kernel
theorem dX12_judgedFor_38 : decode cX12_judgedFor 38 = .ok (.iload_n 3, 1) := by decide +kernel
theorem dX12_judgedFor_39 : decode cX12_judgedFor 39 = .ok (.iadd, 1) := by decide +kernel
theorem dX12_judgedFor_40 : decode cX12_judgedFor 40 = .ok (.iaload, 1) := by decide +kernel
theorem dX12_judgedFor_41 : decode cX12_judgedFor 41 = .ok (.iload_n 1, 1) := by decide +kernel
theorem dX12_judgedFor_42 : decode cX12_judgedFor 42 = .ok (.invokevirtual 442, 3) := by decide +kernel
theorem dX12_judgedFor_45 : decode cX12_judgedFor 45 = .ok (.ifCond .eq 9, 3) := by decide +kernel
theorem dX12_judgedFor_48 : decode cX12_judgedFor 48 = .ok (.iconst 1, 1) := by decide +kernel
theorem dX12_judgedFor_49 : decode cX12_judgedFor 49 = .ok (.iload_n 3, 1) := by decide +kernel
theorem dX12_judgedFor_50 : decode cX12_judgedFor 50 = .ok (.ishl, 1) := by decide +kernel
theorem dX12_judgedFor_51 : decode cX12_judgedFor 51 = .ok (.goto 4, 3) := by decide +kernel
theorem dX12_judgedFor_54 : decode cX12_judgedFor 54 = .ok (.iconst 0, 1) := by decide +kernel
theorem dX12_judgedFor_55 : decode cX12_judgedFor 55 = .ok (.ior, 1) := by decide +kernel
theorem dX12_judgedFor_56 : decode cX12_judgedFor 56 = .ok (.istore_n 2, 1) := by decide +kernel
theorem dX12_judgedFor_57 : decode cX12_judgedFor 57 = .ok (.iinc 3 1, 3) := by decide +kernel
theorem dX12_judgedFor_60 : decode cX12_judgedFor 60 = .ok (.goto (-56), 3) := by decide +kernel
theorem dX12_judgedFor_63 : decode cX12_judgedFor 63 = .ok (.iload_n 2, 1) := by decide +kernel
theorem dX12_judgedFor_64 : decode cX12_judgedFor 64 = .ok (.ireturn, 1) := by decide +kernel
theorem dX12_verdict_0 : decode cX12_verdict 0 = .ok (.aload_n 0, 1) := by decide +kernel
theorem dX12_verdict_1 : decode cX12_verdict 1 = .ok (.iconst 0, 1) := by decide +kernel
