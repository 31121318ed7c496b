theorem dX12_readSequences_0 : decode cX12_readSequences 0 = .ok (.aload_n 0, 1) := by decide +kernel
theorem dX12_readSequences_1 : decode cX12_readSequences 1 = .ok (.getfield 108, 3) := by decide +kernel
theorem dX12_readSequences_4 : decode cX12_readSequences 4 = .ok (.istore_n 3, 1) := by decide +kernel
theorem dX12_readSequences_5 : decode cX12_readSequences 5 = .ok (.aload_n 0, 1) := by decide +kernel
theorem dX12_readSequences_6 : decode cX12_readSequences 6 = .ok (.iconst 0, 1) := by decide +kernel
theorem dX12_readSequences_7 : decode cX12_readSequences 7 = .ok (.putfield 125, 3) := by decide +kernel
theorem dX12_readSequences_10 : decode cX12_readSequences 10 = .ok (.aload_n 0, 1) := by decide +kernel
theorem dX12_readSequences_11 : decode cX12_readSequences 11 = .ok (.iconst 0, 1) := by decide +kernel
theorem dX12_readSequences_12 : decode cX12_readSequences 12 = .ok (.putfield 128, 3) := by decide +kernel
theorem dX12_readSequences_15 : decode cX12_readSequences 15 = .ok (.aload_n 0, 1) := by decide +kernel
theorem dX12_readSequences_16 : decode cX12_readSequences 16 = .ok (.iconst 0, 1) := by decide +kernel
theorem dX12_readSequences_17 : decode cX12_readSequences 17 = .ok (.putfield 142, 3) := by decide +kernel
theorem dX12_readSequences_20 : decode cX12_readSequences 20 = .ok (.iconst 0, 1) := by decide +kernel
theorem dX12_readSequences_21 : decode cX12_readSequences 21 = .ok (.istore 4, 2) := by decide +kernel
theorem dX12_readSequences_23 : decode cX12_readSequences 23 = .ok (.aload_n 0, 1) := by decide +kernel
theorem dX12_readSequences_24 : decode cX12_readSequences 24 = .ok (.getfield 232, 3) := by decide +kernel
theorem dX12_readSequences_27 : decode cX12_readSequences 27 = .ok (.istore 5, 2) := by decide +kernel
theorem dX12_readSequences_29 : decode cX12_readSequences 29 = .ok (.aload_n 0, 1) := by decide +kernel
theorem dX12_readSequences_30 : decode cX12_readSequences 30 = .ok (.getfield 232, 3) := by decide +kernel
theorem dX12_readSequences_33 : decode cX12_readSequences 33 = .ok (.iload_n 1, 1) := by decide +kernel
theorem dX12_readSequences_34 : decode cX12_readSequences 34 = .ok (.if_icmp .lt 10, 3) := by decide +kernel
theorem dX12_readSequences_37 : decode cX12_readSequences 37 = .ok (.aload_n 0, 1) := by decide +kernel
theorem dX12_readSequences_38 : decode cX12_readSequences 38 = .ok (.iconst 1, 1) := by decide +kernel
theorem dX12_readSequences_39 : decode cX12_readSequences 39 = .ok (.iload_n 1, 1) := by decide +kernel
theorem dX12_readSequences_40 : decode cX12_readSequences 40 = .ok (.invokevirtual 235, 3) := by decide +kernel
theorem dX12_readSequences_43 : decode cX12_readSequences 43 = .ok (.ireturn, 1) := by decide +kernel
theorem dX12_readSequences_44 : decode cX12_readSequences 44 = .ok (.aload_n 0, 1) := by decide +kernel
theorem dX12_readSequences_45 : decode cX12_readSequences 45 = .ok (.getfield 170, 3) := by decide +kernel
theorem dX12_readSequences_48 : decode cX12_readSequences 48 = .ok (.aload_n 0, 1) := by decide +kernel
theorem dX12_readSequences_49 : decode cX12_readSequences 49 = .ok (.getfield 232, 3) := by decide +kernel
theorem dX12_readSequences_52 : decode cX12_readSequences 52 = .ok (.iaload, 1) := by decide +kernel
theorem dX12_readSequences_53 : decode cX12_readSequences 53 = .ok (.iconst 4, 1) := by decide +kernel
theorem dX12_readSequences_54 : decode cX12_readSequences 54 = .ok (.ishr, 1) := by decide +kernel
theorem dX12_readSequences_55 : decode cX12_readSequences 55 = .ok (.istore 6, 2) := by decide +kernel
theorem dX12_readSequences_57 : decode cX12_readSequences 57 = .ok (.aload_n 0, 1) := by decide +kernel
theorem dX12_readSequences_58 : decode cX12_readSequences 58 = .ok (.getfield 170, 3) := by decide +kernel
theorem dX12_readSequences_61 : decode cX12_readSequences 61 = .ok (.aload_n 0, 1) := by decide +kernel
theorem dX12_readSequences_62 : decode cX12_readSequences 62 = .ok (.getfield 232, 3) := by decide +kernel
theorem dX12_readSequences_65 : decode cX12_readSequences 65 = .ok (.iaload, 1) := by decide +kernel
theorem dX12_readSequences_66 : decode cX12_readSequences 66 = .ok (.bipush 15, 2) := by decide +kernel
theorem dX12_readSequences_68 : decode cX12_readSequences 68 = .ok (.iand, 1) := by decide +kernel
theorem dX12_readSequences_69 : decode cX12_readSequences 69 = .ok (.istore 7, 2) := by decide +kernel
theorem dX12_readSequences_71 : decode cX12_readSequences 71 = .ok (.aload_n 0, 1) := by decide +kernel
theorem dX12_readSequences_72 : decode cX12_readSequences 72 = .ok (.dup, 1) := by decide +kernel
theorem dX12_readSequences_73 : decode cX12_readSequences 73 = .ok (.getfield 232, 3) := by decide +kernel
theorem dX12_readSequences_76 : decode cX12_readSequences 76 = .ok (.iconst 1, 1) := by decide +kernel
theorem dX12_readSequences_77 : decode cX12_readSequences 77 = .ok (.iadd, 1) := by decide +kernel
theorem dX12_readSequences_78 : decode cX12_readSequences 78 = .ok (.putfield 232, 3) := by decide +kernel
theorem dX12_readSequences_81 : decode cX12_readSequences 81 = .ok (.iload 6, 2) := by decide +kernel
theorem dX12_readSequences_83 : decode cX12_readSequences 83 = .ok (.bipush 15, 2) := by decide +kernel
theorem dX12_readSequences_85 : decode cX12_readSequences 85 = .ok (.if_icmp .ne 62, 3) := by decide +kernel
theorem dX12_readSequences_88 : decode cX12_readSequences 88 = .ok (.sipush 255, 3) := by decide +kernel
theorem dX12_readSequences_91 : decode cX12_readSequences 91 = .ok (.istore 8, 2) := by decide +kernel
theorem dX12_readSequences_93 : decode cX12_readSequences 93 = .ok (.iload 8, 2) := by decide +kernel
theorem dX12_readSequences_95 : decode cX12_readSequences 95 = .ok (.sipush 255, 3) := by decide +kernel
theorem dX12_readSequences_98 : decode cX12_readSequences 98 = .ok (.if_icmp .ne 49, 3) := by decide +kernel
theorem dX12_readSequences_101 : decode cX12_readSequences 101 = .ok (.aload_n 0, 1) := by decide +kernel
theorem dX12_readSequences_102 : decode cX12_readSequences 102 = .ok (.getfield 232, 3) := by decide +kernel
theorem dX12_readSequences_105 : decode cX12_readSequences 105 = .ok (.iload_n 1, 1) := by decide +kernel
theorem dX12_readSequences_106 : decode cX12_readSequences 106 = .ok (.if_icmp .lt 10, 3) := by decide +kernel
theorem dX12_readSequences_109 : decode cX12_readSequences 109 = .ok (.aload_n 0, 1) := by decide +kernel
theorem dX12_readSequences_110 : decode cX12_readSequences 110 = .ok (.iconst 1, 1) := by decide +kernel
theorem dX12_readSequences_111 : decode cX12_readSequences 111 = .ok (.iload_n 1, 1) := by decide +kernel
theorem dX12_readSequences_112 : decode cX12_readSequences 112 = .ok (.invokevirtual 235, 3) := by decide +kernel
theorem dX12_readSequences_115 : decode cX12_readSequences 115 = .ok (.ireturn, 1) := by decide +kernel
theorem dX12_readSequences_116 : decode cX12_readSequences 116 = .ok (.aload_n 0, 1) := by decide +kernel
theorem dX12_readSequences_117 : decode cX12_readSequences 117 = .ok (.getfield 170, 3) := by decide +kernel
theorem dX12_readSequences_120 : decode cX12_readSequences 120 = .ok (.aload_n 0, 1) := by decide +kernel
theorem dX12_readSequences_121 : decode cX12_readSequences 121 = .ok (.getfield 232, 3) := by decide +kernel
theorem dX12_readSequences_124 : decode cX12_readSequences 124 = .ok (.iaload, 1) := by decide +kernel
theorem dX12_readSequences_125 : decode cX12_readSequences 125 = .ok (.istore 8, 2) := by decide +kernel
theorem dX12_readSequences_127 : decode cX12_readSequences 127 = .ok (.iload 6, 2) := by decide +kernel
theorem dX12_readSequences_129 : decode cX12_readSequences 129 = .ok (.iload 8, 2) := by decide +kernel
theorem dX12_readSequences_131 : decode cX12_readSequences 131 = .ok (.iadd, 1) := by decide +kernel
theorem dX12_readSequences_132 : decode cX12_readSequences 132 = .ok (.istore 6, 2) := by decide +kernel
theorem dX12_readSequences_134 : decode cX12_readSequences 134 = .ok (.aload_n 0, 1) := by decide +kernel
theorem dX12_readSequences_135 : decode cX12_readSequences 135 = .ok (.dup, 1) := by decide +kernel
theorem dX12_readSequences_136 : decode cX12_readSequences 136 = .ok (.getfield 232, 3) := by decide +kernel
theorem dX12_readSequences_139 : decode cX12_readSequences 139 = .ok (.iconst 1, 1) := by decide +kernel
theorem dX12_readSequences_140 : decode cX12_readSequences 140 = .ok (.iadd, 1) := by decide +kernel
theorem dX12_readSequences_141 : decode cX12_readSequences 141 = .ok (.putfield 232, 3) := by decide +kernel
theorem dX12_readSequences_144 : decode cX12_readSequences 144 = .ok (.goto (-51), 3) := by decide +kernel
theorem dX12_readSequences_147 : decode cX12_readSequences 147 = .ok (.iload_n 1, 1) := by decide +kernel
theorem dX12_readSequences_148 : decode cX12_readSequences 148 = .ok (.aload_n 0, 1) := by decide +kernel
theorem dX12_readSequences_149 : decode cX12_readSequences 149 = .ok (.getfield 232, 3) := by decide +kernel
theorem dX12_readSequences_152 : decode cX12_readSequences 152 = .ok (.isub, 1) := by decide +kernel
theorem dX12_readSequences_153 : decode cX12_readSequences 153 = .ok (.iload 6, 2) := by decide +kernel
theorem dX12_readSequences_155 : decode cX12_readSequences 155 = .ok (.if_icmp .ge 10, 3) := by decide +kernel
theorem dX12_readSequences_158 : decode cX12_readSequences 158 = .ok (.aload_n 0, 1) := by decide +kernel
theorem dX12_readSequences_159 : decode cX12_readSequences 159 = .ok (.iconst 1, 1) := by decide +kernel
theorem dX12_readSequences_160 : decode cX12_readSequences 160 = .ok (.iload_n 1, 1) := by decide +kernel
theorem dX12_readSequences_161 : decode cX12_readSequences 161 = .ok (.invokevirtual 235, 3) := by decide +kernel
theorem dX12_readSequences_164 : decode cX12_readSequences 164 = .ok (.ireturn, 1) := by decide +kernel
theorem dX12_readSequences_165 : decode cX12_readSequences 165 = .ok (.aload_n 0, 1) := by decide +kernel
theorem dX12_readSequences_166 : decode cX12_readSequences 166 = .ok (.getfield 108, 3) := by decide +kernel
theorem dX12_readSequences_169 : decode cX12_readSequences 169 = .ok (.iload 6, 2) := by decide +kernel
theorem dX12_readSequences_171 : decode cX12_readSequences 171 = .ok (.iadd, 1) := by decide +kernel
theorem dX12_readSequences_172 : decode cX12_readSequences 172 = .ok (.sipush 12000, 3) := by decide +kernel
theorem dX12_readSequences_175 : decode cX12_readSequences 175 = .ok (.if_icmp .le 12, 3) := by decide +kernel
theorem dX12_readSequences_178 : decode cX12_readSequences 178 = .ok (.aload_n 0, 1) := by decide +kernel
theorem dX12_readSequences_179 : decode cX12_readSequences 179 = .ok (.bipush 12, 2) := by decide +kernel
theorem dX12_readSequences_181 : decode cX12_readSequences 181 = .ok (.iload 5, 2) := by decide +kernel
theorem dX12_readSequences_183 : decode cX12_readSequences 183 = .ok (.invokevirtual 235, 3) := by decide +kernel
theorem dX12_readSequences_186 : decode cX12_readSequences 186 = .ok (.ireturn, 1) := by decide +kernel
theorem dX12_readSequences_187 : decode cX12_readSequences 187 = .ok (.aload_n 0, 1) := by decide +kernel
theorem dX12_readSequences_188 : decode cX12_readSequences 188 = .ok (.dup, 1) := by decide +kernel
theorem dX12_readSequences_189 : decode cX12_readSequences 189 = .ok (.getfield 142, 3) := by decide +kernel
theorem dX12_readSequences_192 : decode cX12_readSequences 192 = .ok (.iconst 1, 1) := by decide +kernel
theorem dX12_readSequences_193 : decode cX12_readSequences 193 = .ok (.iadd, 1) := by decide +kernel
theorem dX12_readSequences_194 : decode cX12_readSequences 194 = .ok (.putfield 142, 3) := by decide +kernel
theorem dX12_readSequences_197 : decode cX12_readSequences 197 = .ok (.aload_n 0, 1) := by decide +kernel
theorem dX12_readSequences_198 : decode cX12_readSequences 198 = .ok (.dup, 1) := by decide +kernel
theorem dX12_readSequences_199 : decode cX12_readSequences 199 = .ok (.getfield 128, 3) := by decide +kernel
theorem dX12_readSequences_202 : decode cX12_readSequences 202 = .ok (.iload 6, 2) := by decide +kernel
theorem dX12_readSequences_204 : decode cX12_readSequences 204 = .ok (.iadd, 1) := by decide +kernel
theorem dX12_readSequences_205 : decode cX12_readSequences 205 = .ok (.putfield 128, 3) := by decide +kernel
theorem dX12_readSequences_208 : decode cX12_readSequences 208 = .ok (.iconst 0, 1) := by decide +kernel
theorem dX12_readSequences_209 : decode cX12_readSequences 209 = .ok (.istore 8, 2) := by decide +kernel
theorem dX12_readSequences_211 : decode cX12_readSequences 211 = .ok (.iload 8, 2) := by decide +kernel
theorem dX12_readSequences_213 : decode cX12_readSequences 213 = .ok (.iload 6, 2) := by decide +kernel
theorem dX12_readSequences_215 : decode cX12_readSequences 215 = .ok (.if_icmp .ge 32, 3) := by decide +kernel
theorem dX12_readSequences_218 : decode cX12_readSequences 218 = .ok (.aload_n 0, 1) := by decide +kernel
theorem dX12_readSequences_219 : decode cX12_readSequences 219 = .ok (.aload_n 0, 1) := by decide +kernel
theorem dX12_readSequences_220 : decode cX12_readSequences 220 = .ok (.getfield 170, 3) := by decide +kernel
theorem dX12_readSequences_223 : decode cX12_readSequences 223 = .ok (.aload_n 0, 1) := by decide +kernel
theorem dX12_readSequences_224 : decode cX12_readSequences 224 = .ok (.getfield 232, 3) := by decide +kernel
theorem dX12_readSequences_227 : decode cX12_readSequences 227 = .ok (.iaload, 1) := by decide +kernel
theorem dX12_readSequences_228 : decode cX12_readSequences 228 = .ok (.invokevirtual 111, 3) := by decide +kernel
theorem dX12_readSequences_231 : decode cX12_readSequences 231 = .ok (.aload_n 0, 1) := by decide +kernel
theorem dX12_readSequences_232 : decode cX12_readSequences 232 = .ok (.dup, 1) := by decide +kernel
theorem dX12_readSequences_233 : decode cX12_readSequences 233 = .ok (.getfield 232, 3) := by decide +kernel
theorem dX12_readSequences_236 : decode cX12_readSequences 236 = .ok (.iconst 1, 1) := by decide +kernel
theorem dX12_readSequences_237 : decode cX12_readSequences 237 = .ok (.iadd, 1) := by decide +kernel
theorem dX12_readSequences_238 : decode cX12_readSequences 238 = .ok (.putfield 232, 3) := by decide +kernel
theorem dX12_readSequences_241 : decode cX12_readSequences 241 = .ok (.iinc 8 1, 3) := by decide +kernel
theorem dX12_readSequences_244 : decode cX12_readSequences 244 = .ok (.goto (-33), 3) := by decide +kernel
theorem dX12_readSequences_247 : decode cX12_readSequences 247 = .ok (.aload_n 0, 1) := by decide +kernel
theorem dX12_readSequences_248 : decode cX12_readSequences 248 = .ok (.getfield 232, 3) := by decide +kernel
theorem dX12_readSequences_251 : decode cX12_readSequences 251 = .ok (.iload_n 1, 1) := by decide +kernel
theorem dX12_readSequences_252 : decode cX12_readSequences 252 = .ok (.if_icmp .ne 61, 3) := by decide +kernel
theorem dX12_readSequences_255 : decode cX12_readSequences 255 = .ok (.iload 7, 2) := by decide +kernel
theorem dX12_readSequences_257 : decode cX12_readSequences 257 = .ok (.ifCond .ne 32, 3) := by decide +kernel
theorem dX12_readSequences_260 : decode cX12_readSequences 260 = .ok (.aload_n 0, 1) := by decide +kernel
theorem dX12_readSequences_261 : decode cX12_readSequences 261 = .ok (.getfield 125, 3) := by decide +kernel
theorem dX12_readSequences_264 : decode cX12_readSequences 264 = .ok (.ifCond .eq 21, 3) := by decide +kernel
theorem dX12_readSequences_267 : decode cX12_readSequences 267 = .ok (.iload 6, 2) := by decide +kernel
theorem dX12_readSequences_269 : decode cX12_readSequences 269 = .ok (.iconst 5, 1) := by decide +kernel
theorem dX12_readSequences_270 : decode cX12_readSequences 270 = .ok (.if_icmp .lt 19, 3) := by decide +kernel
theorem dX12_readSequences_273 : decode cX12_readSequences 273 = .ok (.aload_n 0, 1) := by decide +kernel
theorem dX12_readSequences_274 : decode cX12_readSequences 274 = .ok (.getfield 108, 3) := by decide +kernel
theorem dX12_readSequences_277 : decode cX12_readSequences 277 = .ok (.iload 4, 2) := by decide +kernel
theorem dX12_readSequences_279 : decode cX12_readSequences 279 = .ok (.isub, 1) := by decide +kernel
theorem dX12_readSequences_280 : decode cX12_readSequences 280 = .ok (.bipush 12, 2) := by decide +kernel
theorem dX12_readSequences_282 : decode cX12_readSequences 282 = .ok (.if_icmp .lt 7, 3) := by decide +kernel
theorem dX12_readSequences_285 : decode cX12_readSequences 285 = .ok (.iconst 1, 1) := by decide +kernel
theorem dX12_readSequences_286 : decode cX12_readSequences 286 = .ok (.goto 4, 3) := by decide +kernel
theorem dX12_readSequences_289 : decode cX12_readSequences 289 = .ok (.iconst 0, 1) := by decide +kernel
theorem dX12_readSequences_290 : decode cX12_readSequences 290 = .ok (.istore 8, 2) := by decide +kernel
theorem dX12_readSequences_292 : decode cX12_readSequences 292 = .ok (.iload 8, 2) := by decide +kernel
theorem dX12_readSequences_294 : decode cX12_readSequences 294 = .ok (.ifCond .ne 13, 3) := by decide +kernel
theorem dX12_readSequences_297 : decode cX12_readSequences 297 = .ok (.aload_n 0, 1) := by decide +kernel
theorem dX12_readSequences_298 : decode cX12_readSequences 298 = .ok (.iconst 3, 1) := by decide +kernel
theorem dX12_readSequences_299 : decode cX12_readSequences 299 = .ok (.iload 5, 2) := by decide +kernel
theorem dX12_readSequences_301 : decode cX12_readSequences 301 = .ok (.invokevirtual 235, 3) := by decide +kernel
theorem dX12_readSequences_304 : decode cX12_readSequences 304 = .ok (.ifCond .eq 7, 3) := by decide +kernel
theorem dX12_readSequences_307 : decode cX12_readSequences 307 = .ok (.iconst 1, 1) := by decide +kernel
theorem dX12_readSequences_308 : decode cX12_readSequences 308 = .ok (.goto 4, 3) := by decide +kernel
theorem dX12_readSequences_311 : decode cX12_readSequences 311 = .ok (.iconst 0, 1) := by decide +kernel
theorem dX12_readSequences_312 : decode cX12_readSequences 312 = .ok (.ireturn, 1) := by decide +kernel
theorem dX12_readSequences_313 : decode cX12_readSequences 313 = .ok (.iload_n 1, 1) := by decide +kernel
theorem dX12_readSequences_314 : decode cX12_readSequences 314 = .ok (.aload_n 0, 1) := by decide +kernel
theorem dX12_readSequences_315 : decode cX12_readSequences 315 = .ok (.getfield 232, 3) := by decide +kernel
theorem dX12_readSequences_318 : decode cX12_readSequences 318 = .ok (.isub, 1) := by decide +kernel
theorem dX12_readSequences_319 : decode cX12_readSequences 319 = .ok (.iconst 2, 1) := by decide +kernel
theorem dX12_readSequences_320 : decode cX12_readSequences 320 = .ok (.if_icmp .ge 10, 3) := by decide +kernel
theorem dX12_readSequences_323 : decode cX12_readSequences 323 = .ok (.aload_n 0, 1) := by decide +kernel
theorem dX12_readSequences_324 : decode cX12_readSequences 324 = .ok (.iconst 1, 1) := by decide +kernel
theorem dX12_readSequences_325 : decode cX12_readSequences 325 = .ok (.iload_n 1, 1) := by decide +kernel
theorem dX12_readSequences_326 : decode cX12_readSequences 326 = .ok (.invokevirtual 235, 3) := by decide +kernel
theorem dX12_readSequences_329 : decode cX12_readSequences 329 = .ok (.ireturn, 1) := by decide +kernel
theorem dX12_readSequences_330 : decode cX12_readSequences 330 = .ok (.aload_n 0, 1) := by decide +kernel
theorem dX12_readSequences_331 : decode cX12_readSequences 331 = .ok (.aload_n 0, 1) := by decide +kernel
theorem dX12_readSequences_332 : decode cX12_readSequences 332 = .ok (.getfield 232, 3) := by decide +kernel
theorem dX12_readSequences_335 : decode cX12_readSequences 335 = .ok (.iconst 2, 1) := by decide +kernel
theorem dX12_readSequences_336 : decode cX12_readSequences 336 = .ok (.invokevirtual 239, 3) := by decide +kernel
theorem dX12_readSequences_339 : decode cX12_readSequences 339 = .ok (.l2i, 1) := by decide +kernel
theorem dX12_readSequences_340 : decode cX12_readSequences 340 = .ok (.istore 8, 2) := by decide +kernel
theorem dX12_readSequences_342 : decode cX12_readSequences 342 = .ok (.iload 8, 2) := by decide +kernel
theorem dX12_readSequences_344 : decode cX12_readSequences 344 = .ok (.ifCond .eq 19, 3) := by decide +kernel
theorem dX12_readSequences_347 : decode cX12_readSequences 347 = .ok (.iload 8, 2) := by decide +kernel
theorem dX12_readSequences_349 : decode cX12_readSequences 349 = .ok (.aload_n 0, 1) := by decide +kernel
theorem dX12_readSequences_350 : decode cX12_readSequences 350 = .ok (.getfield 108, 3) := by decide +kernel
theorem dX12_readSequences_353 : decode cX12_readSequences 353 = .ok (.iload_n 2, 1) := by decide +kernel
theorem dX12_readSequences_354 : decode cX12_readSequences 354 = .ok (.isub, 1) := by decide +kernel
theorem dX12_readSequences_355 : decode cX12_readSequences 355 = .ok (.aload_n 0, 1) := by decide +kernel
theorem dX12_readSequences_356 : decode cX12_readSequences 356 = .ok (.getfield 167, 3) := by decide +kernel
theorem dX12_readSequences_359 : decode cX12_readSequences 359 = .ok (.iadd, 1) := by decide +kernel
theorem dX12_readSequences_360 : decode cX12_readSequences 360 = .ok (.if_icmp .le 13, 3) := by decide +kernel
theorem dX12_readSequences_363 : decode cX12_readSequences 363 = .ok (.aload_n 0, 1) := by decide +kernel
theorem dX12_readSequences_364 : decode cX12_readSequences 364 = .ok (.iconst 2, 1) := by decide +kernel
theorem dX12_readSequences_365 : decode cX12_readSequences 365 = .ok (.aload_n 0, 1) := by decide +kernel
theorem dX12_readSequences_366 : decode cX12_readSequences 366 = .ok (.getfield 232, 3) := by decide +kernel
theorem dX12_readSequences_369 : decode cX12_readSequences 369 = .ok (.invokevirtual 235, 3) := by decide +kernel
theorem dX12_readSequences_372 : decode cX12_readSequences 372 = .ok (.ireturn, 1) := by decide +kernel
theorem dX12_readSequences_373 : decode cX12_readSequences 373 = .ok (.aload_n 0, 1) := by decide +kernel
theorem dX12_readSequences_374 : decode cX12_readSequences 374 = .ok (.dup, 1) := by decide +kernel
theorem dX12_readSequences_375 : decode cX12_readSequences 375 = .ok (.getfield 232, 3) := by decide +kernel
theorem dX12_readSequences_378 : decode cX12_readSequences 378 = .ok (.iconst 2, 1) := by decide +kernel
theorem dX12_readSequences_379 : decode cX12_readSequences 379 = .ok (.iadd, 1) := by decide +kernel
theorem dX12_readSequences_380 : decode cX12_readSequences 380 = .ok (.putfield 232, 3) := by decide +kernel
theorem dX12_readSequences_383 : decode cX12_readSequences 383 = .ok (.iload 7, 2) := by decide +kernel
theorem dX12_readSequences_385 : decode cX12_readSequences 385 = .ok (.bipush 15, 2) := by decide +kernel
theorem dX12_readSequences_387 : decode cX12_readSequences 387 = .ok (.if_icmp .ne 62, 3) := by decide +kernel
theorem dX12_readSequences_390 : decode cX12_readSequences 390 = .ok (.sipush 255, 3) := by decide +kernel
theorem dX12_readSequences_393 : decode cX12_readSequences 393 = .ok (.istore 9, 2) := by decide +kernel
theorem dX12_readSequences_395 : decode cX12_readSequences 395 = .ok (.iload 9, 2) := by decide +kernel
theorem dX12_readSequences_397 : decode cX12_readSequences 397 = .ok (.sipush 255, 3) := by decide +kernel
theorem dX12_readSequences_400 : decode cX12_readSequences 400 = .ok (.if_icmp .ne 49, 3) := by decide +kernel
theorem dX12_readSequences_403 : decode cX12_readSequences 403 = .ok (.aload_n 0, 1) := by decide +kernel
theorem dX12_readSequences_404 : decode cX12_readSequences 404 = .ok (.getfield 232, 3) := by decide +kernel
theorem dX12_readSequences_407 : decode cX12_readSequences 407 = .ok (.iload_n 1, 1) := by decide +kernel
theorem dX12_readSequences_408 : decode cX12_readSequences 408 = .ok (.if_icmp .lt 10, 3) := by decide +kernel
theorem dX12_readSequences_411 : decode cX12_readSequences 411 = .ok (.aload_n 0, 1) := by decide +kernel
theorem dX12_readSequences_412 : decode cX12_readSequences 412 = .ok (.iconst 1, 1) := by decide +kernel
theorem dX12_readSequences_413 : decode cX12_readSequences 413 = .ok (.iload_n 1, 1) := by decide +kernel
theorem dX12_readSequences_414 : decode cX12_readSequences 414 = .ok (.invokevirtual 235, 3) := by decide +kernel
theorem dX12_readSequences_417 : decode cX12_readSequences 417 = .ok (.ireturn, 1) := by decide +kernel
theorem dX12_readSequences_418 : decode cX12_readSequences 418 = .ok (.aload_n 0, 1) := by decide +kernel
theorem dX12_readSequences_419 : decode cX12_readSequences 419 = .ok (.getfield 170, 3) := by decide +kernel
theorem dX12_readSequences_422 : decode cX12_readSequences 422 = .ok (.aload_n 0, 1) := by decide +kernel
theorem dX12_readSequences_423 : decode cX12_readSequences 423 = .ok (.getfield 232, 3) := by decide +kernel
theorem dX12_readSequences_426 : decode cX12_readSequences 426 = .ok (.iaload, 1) := by decide +kernel
theorem dX12_readSequences_427 : decode cX12_readSequences 427 = .ok (.istore 9, 2) := by decide +kernel
theorem dX12_readSequences_429 : decode cX12_readSequences 429 = .ok (.iload 7, 2) := by decide +kernel
theorem dX12_readSequences_431 : decode cX12_readSequences 431 = .ok (.iload 9, 2) := by decide +kernel
theorem dX12_readSequences_433 : decode cX12_readSequences 433 = .ok (.iadd, 1) := by decide +kernel
theorem dX12_readSequences_434 : decode cX12_readSequences 434 = .ok (.istore 7, 2) := by decide +kernel
theorem dX12_readSequences_436 : decode cX12_readSequences 436 = .ok (.aload_n 0, 1) := by decide +kernel
theorem dX12_readSequences_437 : decode cX12_readSequences 437 = .ok (.dup, 1) := by decide +kernel
theorem dX12_readSequences_438 : decode cX12_readSequences 438 = .ok (.getfield 232, 3) := by decide +kernel
theorem dX12_readSequences_441 : decode cX12_readSequences 441 = .ok (.iconst 1, 1) := by decide +kernel
theorem dX12_readSequences_442 : decode cX12_readSequences 442 = .ok (.iadd, 1) := by decide +kernel
theorem dX12_readSequences_443 : decode cX12_readSequences 443 = .ok (.putfield 232, 3) := by decide +kernel
theorem dX12_readSequences_446 : decode cX12_readSequences 446 = .ok (.goto (-51), 3) := by decide +kernel
theorem dX12_readSequences_449 : decode cX12_readSequences 449 = .ok (.aload_n 0, 1) := by decide +kernel
theorem dX12_readSequences_450 : decode cX12_readSequences 450 = .ok (.getfield 108, 3) := by decide +kernel
theorem dX12_readSequences_453 : decode cX12_readSequences 453 = .ok (.iload 7, 2) := by decide +kernel
theorem dX12_readSequences_455 : decode cX12_readSequences 455 = .ok (.iadd, 1) := by decide +kernel
theorem dX12_readSequences_456 : decode cX12_readSequences 456 = .ok (.iconst 4, 1) := by decide +kernel
theorem dX12_readSequences_457 : decode cX12_readSequences 457 = .ok (.iadd, 1) := by decide +kernel
theorem dX12_readSequences_458 : decode cX12_readSequences 458 = .ok (.sipush 12000, 3) := by decide +kernel
theorem dX12_readSequences_461 : decode cX12_readSequences 461 = .ok (.if_icmp .le 12, 3) := by decide +kernel
theorem dX12_readSequences_464 : decode cX12_readSequences 464 = .ok (.aload_n 0, 1) := by decide +kernel
theorem dX12_readSequences_465 : decode cX12_readSequences 465 = .ok (.bipush 12, 2) := by decide +kernel
theorem dX12_readSequences_467 : decode cX12_readSequences 467 = .ok (.iload 5, 2) := by decide +kernel
theorem dX12_readSequences_469 : decode cX12_readSequences 469 = .ok (.invokevirtual 235, 3) := by decide +kernel
theorem dX12_readSequences_472 : decode cX12_readSequences 472 = .ok (.ireturn, 1) := by decide +kernel
theorem dX12_readSequences_473 : decode cX12_readSequences 473 = .ok (.aload_n 0, 1) := by decide +kernel
theorem dX12_readSequences_474 : decode cX12_readSequences 474 = .ok (.dup, 1) := by decide +kernel
theorem dX12_readSequences_475 : decode cX12_readSequences 475 = .ok (.getfield 125, 3) := by decide +kernel
theorem dX12_readSequences_478 : decode cX12_readSequences 478 = .ok (.iconst 1, 1) := by decide +kernel
theorem dX12_readSequences_479 : decode cX12_readSequences 479 = .ok (.iadd, 1) := by decide +kernel
theorem dX12_readSequences_480 : decode cX12_readSequences 480 = .ok (.putfield 125, 3) := by decide +kernel
theorem dX12_readSequences_483 : decode cX12_readSequences 483 = .ok (.aload_n 0, 1) := by decide +kernel
theorem dX12_readSequences_484 : decode cX12_readSequences 484 = .ok (.getfield 108, 3) := by decide +kernel
theorem dX12_readSequences_487 : decode cX12_readSequences 487 = .ok (.istore 4, 2) := by decide +kernel
theorem dX12_readSequences_489 : decode cX12_readSequences 489 = .ok (.iconst 0, 1) := by decide +kernel
theorem dX12_readSequences_490 : decode cX12_readSequences 490 = .ok (.istore 9, 2) := by decide +kernel
theorem dX12_readSequences_492 : decode cX12_readSequences 492 = .ok (.iload 9, 2) := by decide +kernel
theorem dX12_readSequences_494 : decode cX12_readSequences 494 = .ok (.iload 7, 2) := by decide +kernel
theorem dX12_readSequences_496 : decode cX12_readSequences 496 = .ok (.iconst 4, 1) := by decide +kernel
theorem dX12_readSequences_497 : decode cX12_readSequences 497 = .ok (.iadd, 1) := by decide +kernel
theorem dX12_readSequences_498 : decode cX12_readSequences 498 = .ok (.if_icmp .ge 52, 3) := by decide +kernel
theorem dX12_readSequences_501 : decode cX12_readSequences 501 = .ok (.aload_n 0, 1) := by decide +kernel
theorem dX12_readSequences_502 : decode cX12_readSequences 502 = .ok (.getfield 108, 3) := by decide +kernel
theorem dX12_readSequences_505 : decode cX12_readSequences 505 = .ok (.iload 8, 2) := by decide +kernel
theorem dX12_readSequences_507 : decode cX12_readSequences 507 = .ok (.isub, 1) := by decide +kernel
theorem dX12_readSequences_508 : decode cX12_readSequences 508 = .ok (.istore 10, 2) := by decide +kernel
theorem dX12_readSequences_510 : decode cX12_readSequences 510 = .ok (.aload_n 0, 1) := by decide +kernel
theorem dX12_readSequences_511 : decode cX12_readSequences 511 = .ok (.iload 10, 2) := by decide +kernel
theorem dX12_readSequences_513 : decode cX12_readSequences 513 = .ok (.iload_n 2, 1) := by decide +kernel
theorem dX12_readSequences_514 : decode cX12_readSequences 514 = .ok (.if_icmp .lt 13, 3) := by decide +kernel
theorem dX12_readSequences_517 : decode cX12_readSequences 517 = .ok (.aload_n 0, 1) := by decide +kernel
theorem dX12_readSequences_518 : decode cX12_readSequences 518 = .ok (.getfield 105, 3) := by decide +kernel
theorem dX12_readSequences_521 : decode cX12_readSequences 521 = .ok (.iload 10, 2) := by decide +kernel
theorem dX12_readSequences_523 : decode cX12_readSequences 523 = .ok (.iaload, 1) := by decide +kernel
theorem dX12_readSequences_524 : decode cX12_readSequences 524 = .ok (.goto 17, 3) := by decide +kernel
theorem dX12_readSequences_527 : decode cX12_readSequences 527 = .ok (.aload_n 0, 1) := by decide +kernel
theorem dX12_readSequences_528 : decode cX12_readSequences 528 = .ok (.getfield 164, 3) := by decide +kernel
theorem dX12_readSequences_531 : decode cX12_readSequences 531 = .ok (.aload_n 0, 1) := by decide +kernel
theorem dX12_readSequences_532 : decode cX12_readSequences 532 = .ok (.getfield 167, 3) := by decide +kernel
theorem dX12_readSequences_535 : decode cX12_readSequences 535 = .ok (.iload_n 2, 1) := by decide +kernel
theorem dX12_readSequences_536 : decode cX12_readSequences 536 = .ok (.iload 10, 2) := by decide +kernel
theorem dX12_readSequences_538 : decode cX12_readSequences 538 = .ok (.isub, 1) := by decide +kernel
theorem dX12_readSequences_539 : decode cX12_readSequences 539 = .ok (.isub, 1) := by decide +kernel
theorem dX12_readSequences_540 : decode cX12_readSequences 540 = .ok (.iaload, 1) := by decide +kernel
theorem dX12_readSequences_541 : decode cX12_readSequences 541 = .ok (.invokevirtual 111, 3) := by decide +kernel
theorem dX12_readSequences_544 : decode cX12_readSequences 544 = .ok (.iinc 9 1, 3) := by decide +kernel
theorem dX12_readSequences_547 : decode cX12_readSequences 547 = .ok (.goto (-55), 3) := by decide +kernel
theorem dX12_readSequences_550 : decode cX12_readSequences 550 = .ok (.goto (-527), 3) := by decide +kernel
def m_Mo_readSequences_J290 (h0_rule : Int32) (h0_place : Int32) (f1 : Nat → Int32) (g2 : Int32) (g3 : Int32) (g4 : Int32) (g5 : Int32) (g6 : Int32) (j5_8 : Int32) (s11 : Int32) : Option (Int32 × Int32 × Int32 × Int32 × Int32 × Int32 × Int32 × Int32 × (Nat → Int32)) :=
  if s11 = 0 then
    (m_Mo_no (3 : Int32) j5_8).bind fun (r12, u13, u14) =>
    if r12 = 0 then
      some ((0 : Int32), g6, g2, g3, g4, u13, u14, g5, f1)
    else
      some ((1 : Int32), g6, g2, g3, g4, u13, u14, g5, f1)
  else
    some ((1 : Int32), g6, g2, g3, g4, h0_rule, h0_place, g5, f1)
def m_Mo_readSequences_E255 (h0_rule : Int32) (h0_place : Int32) (f1 : Nat → Int32) (g2 : Int32) (g3 : Int32) (g4 : Int32) (g5 : Int32) (g6 : Int32) (j4_7 : Int32) (j5_8 : Int32) (j6_9 : Int32) (j7_10 : Int32) : Option (Int32 × Int32 × Int32 × Int32 × Int32 × Int32 × Int32 × Int32 × (Nat → Int32)) :=
  if j7_10 = 0 then
    if g2 = 0 then
      m_Mo_readSequences_J290 h0_rule h0_place f1 g2 g3 g4 g5 g6 j5_8 (1 : Int32)
    else
      if j6_9 < (5 : Int32) then
        m_Mo_readSequences_J290 h0_rule h0_place f1 g2 g3 g4 g5 g6 j5_8 (0 : Int32)
      else
        if (g6 - j4_7) < (12 : Int32) then
          m_Mo_readSequences_J290 h0_rule h0_place f1 g2 g3 g4 g5 g6 j5_8 (0 : Int32)
        else
          m_Mo_readSequences_J290 h0_rule h0_place f1 g2 g3 g4 g5 g6 j5_8 (1 : Int32)
  else
    m_Mo_readSequences_J290 h0_rule h0_place f1 g2 g3 g4 g5 g6 j5_8 (0 : Int32)
def m_Mo_readSequences_E363 (f15 : Nat → Int32) (g16 : Int32) (g17 : Int32) (g18 : Int32) (g19 : Int32) (g20 : Int32) : Option (Int32 × Int32 × Int32 × Int32 × Int32 × Int32 × Int32 × Int32 × (Nat → Int32)) :=
  (m_Mo_no (2 : Int32) g19).bind fun (r21, u22, u23) =>
  bch r21 <|
  some (r21, g20, g16, g17, g18, u22, u23, g19, f15)
def m_Mo_readSequences_E550 (p_36 : Int32) (p_37 : Int32) (g40 : Int32) (g44 : Int32) (p_46 : Int32) (f47 : Nat → Int32) (g48 : Int32) : Option (((Nat → Int32) × Int32 × Int32 × Int32 × Int32 × Int32 × Int32) ⊕ (((Nat → Int32) × Int32 × Int32 × Int32 × Int32 × Int32 × Int32 × Int32 × Int32 × Int32) ⊕ ((Nat → Int32) × Int32 × Int32 × Int32 × Int32 × Int32) ⊕ (((Int32 × Int32 × Int32 × Int32 × Int32 × Int32 × Int32 × Int32 × (Nat → Int32)))))) :=
  some (.inl (f47, p_46, p_37, p_36, g44, g48, g40))
def m_Mo_readSequences_J541 (h0_fresh_n : Nat) (f49 : Nat → Int32) (g50 : Int32) (j9_51 : Int32) (s53 : Int32) : Option (((Nat → Int32) × Int32 × Int32) ⊕ (((Nat → Int32) × Int32))) :=
  (m_Mo_put s53 g50 h0_fresh_n f49).bind fun (u54, u55) =>
  bnd (j9_51 + (1 : Int32)) fun v9_56 =>
  some (.inl (u55, u54, v9_56))
def m_Mo_readSequences_B492 (a2 : Int32) (h0_dictSize : Int32) (h0_fresh_n : Nat) (h0_dict_n : Nat) (h0_dict_f : Nat → Int32) (v8_42 : Int32) (j7_45 : Int32) (f49 : Nat → Int32) (g50 : Int32) (j9_51 : Int32) : Option (((Nat → Int32) × Int32 × Int32) ⊕ (((Nat → Int32) × Int32))) :=
  if (j7_45 + (4 : Int32)) ≤ j9_51 then
    some (.inr (f49, g50))
  else
    bnd (g50 - v8_42) fun v10_52 =>
    if v10_52 < a2 then
      chk (h0_dictSize - (a2 - v10_52)) h0_dict_n <|
      m_Mo_readSequences_J541 h0_fresh_n f49 g50 j9_51 (h0_dict_f (h0_dictSize - (a2 - v10_52)).toNatClampNeg)
    else
      chk v10_52 h0_fresh_n <|
      m_Mo_readSequences_J541 h0_fresh_n f49 g50 j9_51 (f49 v10_52.toNatClampNeg)
def m_Mo_readSequences_J449 (a2 : Int32) (h0_dictSize : Int32) (h0_fresh_n : Nat) (h0_dict_n : Nat) (h0_dict_f : Nat → Int32) (g25 : Int32) (g28 : Int32) (p_36 : Int32) (p_37 : Int32) (f38 : Nat → Int32) (g40 : Int32) (v8_42 : Int32) (g44 : Int32) (j7_45 : Int32) : Option (((Nat → Int32) × Int32 × Int32 × Int32 × Int32 × Int32 × Int32) ⊕ (((Nat → Int32) × Int32 × Int32 × Int32 × Int32 × Int32 × Int32 × Int32 × Int32 × Int32) ⊕ ((Nat → Int32) × Int32 × Int32 × Int32 × Int32 × Int32) ⊕ (((Int32 × Int32 × Int32 × Int32 × Int32 × Int32 × Int32 × Int32 × (Nat → Int32)))))) :=
  if ((g40 + j7_45) + (4 : Int32)) ≤ (12000 : Int32) then
    bnd (g25 + (1 : Int32)) fun p_46 =>
    (iter (fun st => m_Mo_readSequences_B492 a2 h0_dictSize h0_fresh_n h0_dict_n h0_dict_f v8_42 j7_45 st.1 st.2.1 st.2.2) FU (f38, g40, (0 : Int32))).bind fun o => m_Mo_readSequences_E550 p_36 p_37 g40 g44 p_46 o.1 o.2
  else
    (m_Mo_no (12 : Int32) g28).bind fun (r57, u58, u59) =>
    bch r57 <|
    some (.inr (.inr (.inr (r57, g40, g25, p_37, p_36, u58, u59, g44, f38))))
def m_Mo_readSequences_B395 (a1 : Int32) (h0_in_n : Nat) (h0_in_f : Nat → Int32) (g25 : Int32) (p_36 : Int32) (p_37 : Int32) (f38 : Nat → Int32) (g40 : Int32) (g60 : Int32) (j7_61 : Int32) (j9_62 : Int32) : Option ((Int32 × Int32 × Int32) ⊕ ((Int32 × Int32) ⊕ (((((Nat → Int32) × Int32 × Int32 × Int32 × Int32 × Int32 × Int32) ⊕ (((Nat → Int32) × Int32 × Int32 × Int32 × Int32 × Int32 × Int32 × Int32 × Int32 × Int32) ⊕ ((Nat → Int32) × Int32 × Int32 × Int32 × Int32 × Int32) ⊕ (((Int32 × Int32 × Int32 × Int32 × Int32 × Int32 × Int32 × Int32 × (Nat → Int32)))))))))) :=
  if j9_62 = (255 : Int32) then
    if g60 < a1 then
      chk g60 h0_in_n <|
      bnd (h0_in_f g60.toNatClampNeg) fun v9_63 =>
      bnd (j7_61 + v9_63) fun v7_64 =>
      bnd (g60 + (1 : Int32)) fun p_65 =>
      some (.inl (p_65, v7_64, v9_63))
    else
      (m_Mo_no (1 : Int32) a1).bind fun (r66, u67, u68) =>
      bch r66 <|
      some (.inr (.inr (.inr (.inr (.inr (r66, g40, g25, p_37, p_36, u67, u68, g60, f38))))))
  else
    some (.inr (.inl (g60, j7_61)))
def m_Mo_readSequences_E247 (a1 : Int32) (a2 : Int32) (h0_dictSize : Int32) (h0_in_n : Nat) (h0_in_f : Nat → Int32) (h0_fresh_n : Nat) (h0_dict_n : Nat) (h0_dict_f : Nat → Int32) (g25 : Int32) (g28 : Int32) (j4_30 : Int32) (v7_32 : Int32) (j6_35 : Int32) (p_36 : Int32) (p_37 : Int32) (f38 : Nat → Int32) (g39 : Int32) (g40 : Int32) : Option (((Nat → Int32) × Int32 × Int32 × Int32 × Int32 × Int32 × Int32) ⊕ (((Nat → Int32) × Int32 × Int32 × Int32 × Int32 × Int32 × Int32 × Int32 × Int32 × Int32) ⊕ ((Nat → Int32) × Int32 × Int32 × Int32 × Int32 × Int32) ⊕ (((Int32 × Int32 × Int32 × Int32 × Int32 × Int32 × Int32 × Int32 × (Nat → Int32)))))) :=
  if g39 = a1 then
    some (.inr (.inl (f38, g25, p_37, p_36, g39, g40, j4_30, g28, j6_35, v7_32)))
  else
    if (2 : Int32) ≤ (a1 - g39) then
      (m_Mo_number g39 (2 : Int32) h0_in_n h0_in_f).bind fun r41 =>
      bnd (r41.toInt32) fun v8_42 =>
      if v8_42 = 0 then
        some (.inr (.inr (.inl (f38, g25, p_37, p_36, g39, g40))))
      else
        if v8_42 ≤ ((g40 - a2) + h0_dictSize) then
          bnd (g39 + (2 : Int32)) fun p_43 =>
          if v7_32 = (15 : Int32) then
            (iter (fun st => m_Mo_readSequences_B395 a1 h0_in_n h0_in_f g25 p_36 p_37 f38 g40 st.1 st.2.1 st.2.2) FU (p_43, v7_32, (255 : Int32))).bind fun o => match o with | (.inl y) => m_Mo_readSequences_J449 a2 h0_dictSize h0_fresh_n h0_dict_n h0_dict_f g25 g28 p_36 p_37 f38 g40 v8_42 y.1 y.2 | (.inr y) => some y
          else
            m_Mo_readSequences_J449 a2 h0_dictSize h0_fresh_n h0_dict_n h0_dict_f g25 g28 p_36 p_37 f38 g40 v8_42 p_43 v7_32
        else
          some (.inr (.inr (.inl (f38, g25, p_37, p_36, g39, g40))))
    else
      (m_Mo_no (1 : Int32) a1).bind fun (r69, u70, u71) =>
      bch r69 <|
      some (.inr (.inr (.inr (r69, g40, g25, p_37, p_36, u70, u71, g39, f38))))
def m_Mo_readSequences_B211 (h0_in_n : Nat) (h0_in_f : Nat → Int32) (h0_fresh_n : Nat) (j6_35 : Int32) (f72 : Nat → Int32) (g73 : Int32) (g74 : Int32) (j8_75 : Int32) : Option (((Nat → Int32) × Int32 × Int32 × Int32) ⊕ (((Nat → Int32) × Int32 × Int32))) :=
  if j6_35 ≤ j8_75 then
    some (.inr (f72, g73, g74))
  else
    chk g73 h0_in_n <|
    (m_Mo_put (h0_in_f g73.toNatClampNeg) g74 h0_fresh_n f72).bind fun (u76, u77) =>
    bnd (g73 + (1 : Int32)) fun p_78 =>
    bnd (j8_75 + (1 : Int32)) fun v8_79 =>
    some (.inl (u77, p_78, u76, v8_79))
def m_Mo_readSequences_J147 (a1 : Int32) (a2 : Int32) (h0_dictSize : Int32) (h0_in_n : Nat) (h0_in_f : Nat → Int32) (h0_fresh_n : Nat) (h0_dict_n : Nat) (h0_dict_f : Nat → Int32) (f24 : Nat → Int32) (g25 : Int32) (g26 : Int32) (g27 : Int32) (g28 : Int32) (g29 : Int32) (j4_30 : Int32) (v7_32 : Int32) (g34 : Int32) (j6_35 : Int32) : Option (((Nat → Int32) × Int32 × Int32 × Int32 × Int32 × Int32 × Int32) ⊕ (((Nat → Int32) × Int32 × Int32 × Int32 × Int32 × Int32 × Int32 × Int32 × Int32 × Int32) ⊕ ((Nat → Int32) × Int32 × Int32 × Int32 × Int32 × Int32) ⊕ (((Int32 × Int32 × Int32 × Int32 × Int32 × Int32 × Int32 × Int32 × (Nat → Int32)))))) :=
  if j6_35 ≤ (a1 - g34) then
    if (g29 + j6_35) ≤ (12000 : Int32) then
      bnd (g27 + (1 : Int32)) fun p_36 =>
      bnd (g26 + j6_35) fun p_37 =>
      (iter (fun st => m_Mo_readSequences_B211 h0_in_n h0_in_f h0_fresh_n j6_35 st.1 st.2.1 st.2.2.1 st.2.2.2) FU (f24, g34, g29, (0 : Int32))).bind fun o => m_Mo_readSequences_E247 a1 a2 h0_dictSize h0_in_n h0_in_f h0_fresh_n h0_dict_n h0_dict_f g25 g28 j4_30 v7_32 j6_35 p_36 p_37 o.1 o.2.1 o.2.2
    else
      (m_Mo_no (12 : Int32) g28).bind fun (r80, u81, u82) =>
      bch r80 <|
      some (.inr (.inr (.inr (r80, g29, g25, g26, g27, u81, u82, g34, f24))))
  else
    (m_Mo_no (1 : Int32) a1).bind fun (r83, u84, u85) =>
    bch r83 <|
    some (.inr (.inr (.inr (r83, g29, g25, g26, g27, u84, u85, g34, f24))))
def m_Mo_readSequences_B93 (a1 : Int32) (h0_in_n : Nat) (h0_in_f : Nat → Int32) (f24 : Nat → Int32) (g25 : Int32) (g26 : Int32) (g27 : Int32) (g29 : Int32) (g86 : Int32) (j6_87 : Int32) (j8_88 : Int32) : Option ((Int32 × Int32 × Int32) ⊕ ((Int32 × Int32) ⊕ (((((Nat → Int32) × Int32 × Int32 × Int32 × Int32 × Int32 × Int32) ⊕ (((Nat → Int32) × Int32 × Int32 × Int32 × Int32 × Int32 × Int32 × Int32 × Int32 × Int32) ⊕ ((Nat → Int32) × Int32 × Int32 × Int32 × Int32 × Int32) ⊕ (((Int32 × Int32 × Int32 × Int32 × Int32 × Int32 × Int32 × Int32 × (Nat → Int32)))))))))) :=
  if j8_88 = (255 : Int32) then
    if g86 < a1 then
      chk g86 h0_in_n <|
      bnd (h0_in_f g86.toNatClampNeg) fun v8_89 =>
      bnd (j6_87 + v8_89) fun v6_90 =>
      bnd (g86 + (1 : Int32)) fun p_91 =>
      some (.inl (p_91, v6_90, v8_89))
    else
      (m_Mo_no (1 : Int32) a1).bind fun (r92, u93, u94) =>
      bch r92 <|
      some (.inr (.inr (.inr (.inr (.inr (r92, g29, g25, g26, g27, u93, u94, g86, f24))))))
  else
    some (.inr (.inl (g86, j6_87)))
def m_Mo_readSequences_B23 (a1 : Int32) (a2 : Int32) (h0_dictSize : Int32) (h0_in_n : Nat) (h0_in_f : Nat → Int32) (h0_fresh_n : Nat) (h0_dict_n : Nat) (h0_dict_f : Nat → Int32) (f24 : Nat → Int32) (g25 : Int32) (g26 : Int32) (g27 : Int32) (g28 : Int32) (g29 : Int32) (j4_30 : Int32) : Option (((Nat → Int32) × Int32 × Int32 × Int32 × Int32 × Int32 × Int32) ⊕ (((Nat → Int32) × Int32 × Int32 × Int32 × Int32 × Int32 × Int32 × Int32 × Int32 × Int32) ⊕ ((Nat → Int32) × Int32 × Int32 × Int32 × Int32 × Int32) ⊕ (((Int32 × Int32 × Int32 × Int32 × Int32 × Int32 × Int32 × Int32 × (Nat → Int32)))))) :=
  if g28 < a1 then
    chk g28 h0_in_n <|
    bnd (ishr (h0_in_f g28.toNatClampNeg) (4 : Int32)) fun v6_31 =>
    chk g28 h0_in_n <|
    bnd ((h0_in_f g28.toNatClampNeg) &&& (15 : Int32)) fun v7_32 =>
    bnd (g28 + (1 : Int32)) fun p_33 =>
    if v6_31 = (15 : Int32) then
      (iter (fun st => m_Mo_readSequences_B93 a1 h0_in_n h0_in_f f24 g25 g26 g27 g29 st.1 st.2.1 st.2.2) FU (p_33, v6_31, (255 : Int32))).bind fun o => match o with | (.inl y) => m_Mo_readSequences_J147 a1 a2 h0_dictSize h0_in_n h0_in_f h0_fresh_n h0_dict_n h0_dict_f f24 g25 g26 g27 g28 g29 j4_30 v7_32 y.1 y.2 | (.inr y) => some y
    else
      m_Mo_readSequences_J147 a1 a2 h0_dictSize h0_in_n h0_in_f h0_fresh_n h0_dict_n h0_dict_f f24 g25 g26 g27 g28 g29 j4_30 v7_32 p_33 v6_31
  else
    (m_Mo_no (1 : Int32) a1).bind fun (r95, u96, u97) =>
    bch r95 <|
    some (.inr (.inr (.inr (r95, g29, g25, g26, g27, u96, u97, g28, f24))))
def m_Mo_readSequences (a1 : Int32) (a2 : Int32) (h0_dictSize : Int32) (h0_freshSize : Int32) (h0_rule : Int32) (h0_place : Int32) (h0_at : Int32) (h0_in_n : Nat) (h0_in_f : Nat → Int32) (h0_fresh_n : Nat) (h0_fresh_f : Nat → Int32) (h0_dict_n : Nat) (h0_dict_f : Nat → Int32) : Option (Int32 × Int32 × Int32 × Int32 × Int32 × Int32 × Int32 × Int32 × (Nat → Int32)) :=
  (iter (fun st => m_Mo_readSequences_B23 a1 a2 h0_dictSize h0_in_n h0_in_f h0_fresh_n h0_dict_n h0_dict_f st.1 st.2.1 st.2.2.1 st.2.2.2.1 st.2.2.2.2.1 st.2.2.2.2.2.1 st.2.2.2.2.2.2) FU (h0_fresh_f, (0 : Int32), (0 : Int32), (0 : Int32), h0_at, h0_freshSize, (0 : Int32))).bind fun o => match o with | (.inl y) => m_Mo_readSequences_E255 h0_rule h0_place y.1 y.2.1 y.2.2.1 y.2.2.2.1 y.2.2.2.2.1 y.2.2.2.2.2.1 y.2.2.2.2.2.2.1 y.2.2.2.2.2.2.2.1 y.2.2.2.2.2.2.2.2.1 y.2.2.2.2.2.2.2.2.2 | (.inr (.inl y)) => m_Mo_readSequences_E363 y.1 y.2.1 y.2.2.1 y.2.2.2.1 y.2.2.2.2.1 y.2.2.2.2.2 | (.inr (.inr y)) => some y
def rm_Mo_readSequences : Room := { frames := 1, cells := 0, slots := 0, locals := 25 }
set_option maxHeartbeats 4000000 in
set_option maxRecDepth 100000 in
theorem c_Mo_readSequences {l : Launch} {dC : Nat → ClassId} {dI : Nat → Nat → Nat} {cB cI : ClassId} {sz : Nat} {h0 : Nat} {a1 : Int32} {a2 : Int32} {h0_in : Nat} {h0_fresh : Nat} {h0_dict : Nat} {w_h0_inSize : Value} {w_h0_out : Value} {w_h0_outSize : Value} {h0_dictSize : Int32} {w_h0_told : Value} {h0_freshSize : Int32} {w_h0_text : Value} {w_h0_lean : Value} {w_h0_size : Value} {w_h0_most : Value} {w_h0_offset : Value} {w_h0_copyAt : Value} {w_h0_copies : Value} {w_h0_copyLength : Value} {w_h0_copyOffset : Value} {w_h0_fromHere : Value} {w_h0_withCopy : Value} {w_h0_bestCopy : Value} {w_h0_bestLiterals : Value} {h0_copiesOf : Int32} {h0_literalsOf : Int32} {h0_partsOf : Int32} {w_h0_blocks : Value} {w_h0_blockMany : Value} {w_h0_newBlocks : Value} {w_h0_newMany : Value} {h0_rule : Int32} {h0_place : Int32} {h0_at : Int32} {h0_in_n : Nat} {h0_in_f : Nat → Int32} {h0_fresh_n : Nat} {h0_fresh_f : Nat → Int32} {h0_dict_n : Nat} {h0_dict_f : Nat → Int32} {o_r : Int32} {o_h0_freshSize : Int32} {o_h0_copiesOf : Int32} {o_h0_literalsOf : Int32} {o_h0_partsOf : Int32} {o_h0_rule : Int32} {o_h0_place : Int32} {o_h0_at : Int32} {o_h0_fresh_f : Nat → Int32} (hf : m_Mo_readSequences a1 a2 h0_dictSize h0_freshSize h0_rule h0_place h0_at h0_in_n h0_in_f h0_fresh_n h0_fresh_f h0_dict_n h0_dict_f = some (o_r, o_h0_freshSize, o_h0_copiesOf, o_h0_literalsOf, o_h0_partsOf, o_h0_rule, o_h0_place, o_h0_at, o_h0_fresh_f)) : Met l yX12_readSequences (Cond.code yX12_readSequences cX12_readSequences 11 (some .boolean) :: lw_G) rm_Mo_readSequences (PreC (dC, dI) [(cB, .byte), (cI, .int)] [.ref h0, .int a1, .int a2] sz [(h0, .inr (10, [.ref h0_in, w_h0_inSize, w_h0_out, w_h0_outSize, .ref h0_dict, .int h0_dictSize, w_h0_told, .ref h0_fresh, .int h0_freshSize, w_h0_text, w_h0_lean, w_h0_size, w_h0_most, w_h0_offset, w_h0_copyAt, w_h0_copies, w_h0_copyLength, w_h0_copyOffset, w_h0_fromHere, w_h0_withCopy, w_h0_bestCopy, w_h0_bestLiterals, .int h0_copiesOf, .int h0_literalsOf, .int h0_partsOf, w_h0_blocks, w_h0_blockMany, w_h0_newBlocks, w_h0_newMany, .int h0_rule, .int h0_place, .int h0_at])), (h0_in, .inl (cI, h0_in_n, .inl h0_in_f)), (h0_fresh, .inl (cI, h0_fresh_n, .inl h0_fresh_f)), (h0_dict, .inl (cI, h0_dict_n, .inl h0_dict_f))]) (QcI o_r (dC, dI) [(h0, .inr (10, [.ref h0_in, w_h0_inSize, w_h0_out, w_h0_outSize, .ref h0_dict, .int h0_dictSize, w_h0_told, .ref h0_fresh, .int o_h0_freshSize, w_h0_text, w_h0_lean, w_h0_size, w_h0_most, w_h0_offset, w_h0_copyAt, w_h0_copies, w_h0_copyLength, w_h0_copyOffset, w_h0_fromHere, w_h0_withCopy, w_h0_bestCopy, w_h0_bestLiterals, .int o_h0_copiesOf, .int o_h0_literalsOf, .int o_h0_partsOf, w_h0_blocks, w_h0_blockMany, w_h0_newBlocks, w_h0_newMany, .int o_h0_rule, .int o_h0_place, .int o_h0_at])), (h0_in, .inl (cI, h0_in_n, .inl h0_in_f)), (h0_fresh, .inl (cI, h0_fresh_n, .inl o_h0_fresh_f)), (h0_dict, .inl (cI, h0_dict_n, .inl h0_dict_f))] (va_A [(h0, .inr (10, [.ref h0_in, w_h0_inSize, w_h0_out, w_h0_outSize, .ref h0_dict, .int h0_dictSize, w_h0_told, .ref h0_fresh, .int h0_freshSize, w_h0_text, w_h0_lean, w_h0_size, w_h0_most, w_h0_offset, w_h0_copyAt, w_h0_copies, w_h0_copyLength, w_h0_copyOffset, w_h0_fromHere, w_h0_withCopy, w_h0_bestCopy, w_h0_bestLiterals, .int h0_copiesOf, .int h0_literalsOf, .int h0_partsOf, w_h0_blocks, w_h0_blockMany, w_h0_newBlocks, w_h0_newMany, .int h0_rule, .int h0_place, .int h0_at])), (h0_in, .inl (cI, h0_in_n, .inl h0_in_f)), (h0_fresh, .inl (cI, h0_fresh_n, .inl h0_fresh_f)), (h0_dict, .inl (cI, h0_dict_n, .inl h0_dict_f))] sz)) 0 0 (va_A [(h0, .inr (10, [.ref h0_in, w_h0_inSize, w_h0_out, w_h0_outSize, .ref h0_dict, .int h0_dictSize, w_h0_told, .ref h0_fresh, .int h0_freshSize, w_h0_text, w_h0_lean, w_h0_size, w_h0_most, w_h0_offset, w_h0_copyAt, w_h0_copies, w_h0_copyLength, w_h0_copyOffset, w_h0_fromHere, w_h0_withCopy, w_h0_bestCopy, w_h0_bestLiterals, .int h0_copiesOf, .int h0_literalsOf, .int h0_partsOf, w_h0_blocks, w_h0_blockMany, w_h0_newBlocks, w_h0_newMany, .int h0_rule, .int h0_place, .int h0_at])), (h0_in, .inl (cI, h0_in_n, .inl h0_in_f)), (h0_fresh, .inl (cI, h0_fresh_n, .inl h0_fresh_f)), (h0_dict, .inl (cI, h0_dict_n, .inl h0_dict_f))] sz) := by
  refine met_of (Qf := fun A => QcI o_r (dC, dI) [(h0, .inr (10, [.ref h0_in, w_h0_inSize, w_h0_out, w_h0_outSize, .ref h0_dict, .int h0_dictSize, w_h0_told, .ref h0_fresh, .int o_h0_freshSize, w_h0_text, w_h0_lean, w_h0_size, w_h0_most, w_h0_offset, w_h0_copyAt, w_h0_copies, w_h0_copyLength, w_h0_copyOffset, w_h0_fromHere, w_h0_withCopy, w_h0_bestCopy, w_h0_bestLiterals, .int o_h0_copiesOf, .int o_h0_literalsOf, .int o_h0_partsOf, w_h0_blocks, w_h0_blockMany, w_h0_newBlocks, w_h0_newMany, .int o_h0_rule, .int o_h0_place, .int o_h0_at])), (h0_in, .inl (cI, h0_in_n, .inl h0_in_f)), (h0_fresh, .inl (cI, h0_fresh_n, .inl o_h0_fresh_f)), (h0_dict, .inl (cI, h0_dict_n, .inl h0_dict_f))] A) (by decide) (Nat.le_of_ble_eq_true rfl) ?_
  intro p e s m below meth c A ls Q hx hb hr hml hown hts hlocks hnm hP hK hD hN hT hA hl hQ
  have hown : s.vm.findClass RX12 = some m.cls := hown
  have hS : va_S A s.heap s.heap [] := va_S.rf
  have hl : lv_has ls 11 [(0, .ref h0), (1, .int a1), (2, .int a2)] := hl
  unfold m_Mo_readSequences at hf
  refine lv_aload_n hx hb dX12_readSequences_0 rfl (lv_at hl 0 rfl) ?_
  refine va_get (D := (dC, dI)) (ci := 10) (v := .int h0_freshSize) (C := RX12) (T := TX12) (N := 32) hx hb hts inG_X12 hown hK hP 0 rfl rfl 8 (by decide) (hts _ kw_1060) (fun _ h9 => h9) rfl dX12_readSequences_1 ?_
  refine lv_istore_n (lv' := [(3, .int h0_freshSize), (0, .ref h0), (1, .int a1), (2, .int a2)]) hx hb dX12_readSequences_4 rfl hl (by decide) rfl (fun ls hl => ?_)
  refine lv_aload_n hx hb dX12_readSequences_5 rfl (lv_at hl 1 rfl) ?_
  refine lv_iconst (v := 0) hx hb dX12_readSequences_6 (by decide) ?_
  refine va_put (D := (dC, dI)) (ci := 10) (v := .int (0 : Int32)) (ty := .int) (C := RX12) (T := TX12) (N := 32) hx hb hts inG_X12 tyX12 tyX12_ok nmX12 hown hK hP hD hS 0 rfl rfl 22 (by decide) (hts _ kw_1074) (fun _ h9 => h9) rfl (by decide +kernel) rfl rfl (Nat.le_of_ble_eq_true rfl) dX12_readSequences_7 (fun H locs hP hD hS => ?_)
  have hP : va_P (dC, dI) vwCl [(h0, .inr (10, [.ref h0_in, w_h0_inSize, w_h0_out, w_h0_outSize, .ref h0_dict, .int h0_dictSize, w_h0_told, .ref h0_fresh, .int h0_freshSize, w_h0_text, w_h0_lean, w_h0_size, w_h0_most, w_h0_offset, w_h0_copyAt, w_h0_copies, w_h0_copyLength, w_h0_copyOffset, w_h0_fromHere, w_h0_withCopy, w_h0_bestCopy, w_h0_bestLiterals, .int (0 : Int32), .int h0_literalsOf, .int h0_partsOf, w_h0_blocks, w_h0_blockMany, w_h0_newBlocks, w_h0_newMany, .int h0_rule, .int h0_place, .int h0_at])), (h0_in, .inl (cI, h0_in_n, .inl h0_in_f)), (h0_fresh, .inl (cI, h0_fresh_n, .inl h0_fresh_f)), (h0_dict, .inl (cI, h0_dict_n, .inl h0_dict_f))] H := hP
  have hD : va_D A [(h0, .inr (10, [.ref h0_in, w_h0_inSize, w_h0_out, w_h0_outSize, .ref h0_dict, .int h0_dictSize, w_h0_told, .ref h0_fresh, .int h0_freshSize, w_h0_text, w_h0_lean, w_h0_size, w_h0_most, w_h0_offset, w_h0_copyAt, w_h0_copies, w_h0_copyLength, w_h0_copyOffset, w_h0_fromHere, w_h0_withCopy, w_h0_bestCopy, w_h0_bestLiterals, .int (0 : Int32), .int h0_literalsOf, .int h0_partsOf, w_h0_blocks, w_h0_blockMany, w_h0_newBlocks, w_h0_newMany, .int h0_rule, .int h0_place, .int h0_at])), (h0_in, .inl (cI, h0_in_n, .inl h0_in_f)), (h0_fresh, .inl (cI, h0_fresh_n, .inl h0_fresh_f)), (h0_dict, .inl (cI, h0_dict_n, .inl h0_dict_f))] := hD
  refine lv_aload_n hx hb dX12_readSequences_10 rfl (lv_at hl 1 rfl) ?_
  refine lv_iconst (v := 0) hx hb dX12_readSequences_11 (by decide) ?_
  refine va_put (D := (dC, dI)) (ci := 10) (v := .int (0 : Int32)) (ty := .int) (C := RX12) (T := TX12) (N := 32) hx hb hts inG_X12 tyX12 tyX12_ok nmX12 hown hK hP hD hS 0 rfl rfl 23 (by decide) (hts _ kw_1075) (fun _ h9 => h9) rfl (by decide +kernel) rfl rfl (Nat.le_of_ble_eq_true rfl) dX12_readSequences_12 (fun H locs hP hD hS => ?_)
  have hP : va_P (dC, dI) vwCl [(h0, .inr (10, [.ref h0_in, w_h0_inSize, w_h0_out, w_h0_outSize, .ref h0_dict, .int h0_dictSize, w_h0_told, .ref h0_fresh, .int h0_freshSize, w_h0_text, w_h0_lean, w_h0_size, w_h0_most, w_h0_offset, w_h0_copyAt, w_h0_copies, w_h0_copyLength, w_h0_copyOffset, w_h0_fromHere, w_h0_withCopy, w_h0_bestCopy, w_h0_bestLiterals, .int (0 : Int32), .int (0 : Int32), .int h0_partsOf, w_h0_blocks, w_h0_blockMany, w_h0_newBlocks, w_h0_newMany, .int h0_rule, .int h0_place, .int h0_at])), (h0_in, .inl (cI, h0_in_n, .inl h0_in_f)), (h0_fresh, .inl (cI, h0_fresh_n, .inl h0_fresh_f)), (h0_dict, .inl (cI, h0_dict_n, .inl h0_dict_f))] H := hP
  have hD : va_D A [(h0, .inr (10, [.ref h0_in, w_h0_inSize, w_h0_out, w_h0_outSize, .ref h0_dict, .int h0_dictSize, w_h0_told, .ref h0_fresh, .int h0_freshSize, w_h0_text, w_h0_lean, w_h0_size, w_h0_most, w_h0_offset, w_h0_copyAt, w_h0_copies, w_h0_copyLength, w_h0_copyOffset, w_h0_fromHere, w_h0_withCopy, w_h0_bestCopy, w_h0_bestLiterals, .int (0 : Int32), .int (0 : Int32), .int h0_partsOf, w_h0_blocks, w_h0_blockMany, w_h0_newBlocks, w_h0_newMany, .int h0_rule, .int h0_place, .int h0_at])), (h0_in, .inl (cI, h0_in_n, .inl h0_in_f)), (h0_fresh, .inl (cI, h0_fresh_n, .inl h0_fresh_f)), (h0_dict, .inl (cI, h0_dict_n, .inl h0_dict_f))] := hD
  refine lv_aload_n hx hb dX12_readSequences_15 rfl (lv_at hl 1 rfl) ?_
  refine lv_iconst (v := 0) hx hb dX12_readSequences_16 (by decide) ?_
  refine va_put (D := (dC, dI)) (ci := 10) (v := .int (0 : Int32)) (ty := .int) (C := RX12) (T := TX12) (N := 32) hx hb hts inG_X12 tyX12 tyX12_ok nmX12 hown hK hP hD hS 0 rfl rfl 24 (by decide) (hts _ kw_1076) (fun _ h9 => h9) rfl (by decide +kernel) rfl rfl (Nat.le_of_ble_eq_true rfl) dX12_readSequences_17 (fun H locs hP hD hS => ?_)
  have hP : va_P (dC, dI) vwCl [(h0, .inr (10, [.ref h0_in, w_h0_inSize, w_h0_out, w_h0_outSize, .ref h0_dict, .int h0_dictSize, w_h0_told, .ref h0_fresh, .int h0_freshSize, w_h0_text, w_h0_lean, w_h0_size, w_h0_most, w_h0_offset, w_h0_copyAt, w_h0_copies, w_h0_copyLength, w_h0_copyOffset, w_h0_fromHere, w_h0_withCopy, w_h0_bestCopy, w_h0_bestLiterals, .int (0 : Int32), .int (0 : Int32), .int (0 : Int32), w_h0_blocks, w_h0_blockMany, w_h0_newBlocks, w_h0_newMany, .int h0_rule, .int h0_place, .int h0_at])), (h0_in, .inl (cI, h0_in_n, .inl h0_in_f)), (h0_fresh, .inl (cI, h0_fresh_n, .inl h0_fresh_f)), (h0_dict, .inl (cI, h0_dict_n, .inl h0_dict_f))] H := hP
  have hD : va_D A [(h0, .inr (10, [.ref h0_in, w_h0_inSize, w_h0_out, w_h0_outSize, .ref h0_dict, .int h0_dictSize, w_h0_told, .ref h0_fresh, .int h0_freshSize, w_h0_text, w_h0_lean, w_h0_size, w_h0_most, w_h0_offset, w_h0_copyAt, w_h0_copies, w_h0_copyLength, w_h0_copyOffset, w_h0_fromHere, w_h0_withCopy, w_h0_bestCopy, w_h0_bestLiterals, .int (0 : Int32), .int (0 : Int32), .int (0 : Int32), w_h0_blocks, w_h0_blockMany, w_h0_newBlocks, w_h0_newMany, .int h0_rule, .int h0_place, .int h0_at])), (h0_in, .inl (cI, h0_in_n, .inl h0_in_f)), (h0_fresh, .inl (cI, h0_fresh_n, .inl h0_fresh_f)), (h0_dict, .inl (cI, h0_dict_n, .inl h0_dict_f))] := hD
  refine lv_iconst (v := 0) hx hb dX12_readSequences_20 (by decide) ?_
  refine lv_istore (lv' := [(4, .int (0 : Int32)), (3, .int h0_freshSize), (0, .ref h0), (1, .int a1), (2, .int a2)]) hx hb dX12_readSequences_21 hl (by decide) rfl (fun ls hl => ?_)
  have hJ_255 : ∀ (f1 : Nat → Int32) (g2 : Int32) (g3 : Int32) (g4 : Int32) (g5 : Int32) (g6 : Int32) (j4_7 : Int32) (j5_8 : Int32) (j6_9 : Int32) (j7_10 : Int32) (H : Heap) (locs : List Loc) (ls : Array Slot), m_Mo_readSequences_E255 h0_rule h0_place f1 g2 g3 g4 g5 g6 j4_7 j5_8 j6_9 j7_10 = some (o_r, o_h0_freshSize, o_h0_copiesOf, o_h0_literalsOf, o_h0_partsOf, o_h0_rule, o_h0_place, o_h0_at, o_h0_fresh_f) → va_P (dC, dI) vwCl [(h0, .inr (10, [.ref h0_in, w_h0_inSize, w_h0_out, w_h0_outSize, .ref h0_dict, .int h0_dictSize, w_h0_told, .ref h0_fresh, .int g6, w_h0_text, w_h0_lean, w_h0_size, w_h0_most, w_h0_offset, w_h0_copyAt, w_h0_copies, w_h0_copyLength, w_h0_copyOffset, w_h0_fromHere, w_h0_withCopy, w_h0_bestCopy, w_h0_bestLiterals, .int g2, .int g3, .int g4, w_h0_blocks, w_h0_blockMany, w_h0_newBlocks, w_h0_newMany, .int h0_rule, .int h0_place, .int g5])), (h0_in, .inl (cI, h0_in_n, .inl h0_in_f)), (h0_fresh, .inl (cI, h0_fresh_n, .inl f1)), (h0_dict, .inl (cI, h0_dict_n, .inl h0_dict_f))] H → va_D A [(h0, .inr (10, [.ref h0_in, w_h0_inSize, w_h0_out, w_h0_outSize, .ref h0_dict, .int h0_dictSize, w_h0_told, .ref h0_fresh, .int g6, w_h0_text, w_h0_lean, w_h0_size, w_h0_most, w_h0_offset, w_h0_copyAt, w_h0_copies, w_h0_copyLength, w_h0_copyOffset, w_h0_fromHere, w_h0_withCopy, w_h0_bestCopy, w_h0_bestLiterals, .int g2, .int g3, .int g4, w_h0_blocks, w_h0_blockMany, w_h0_newBlocks, w_h0_newMany, .int h0_rule, .int h0_place, .int g5])), (h0_in, .inl (cI, h0_in_n, .inl h0_in_f)), (h0_fresh, .inl (cI, h0_fresh_n, .inl f1)), (h0_dict, .inl (cI, h0_dict_n, .inl h0_dict_f))] → va_S A s.heap H locs → lv_has ls 11 [(0, .ref h0), (4, .int j4_7), (5, .int j5_8), (6, .int j6_9), (7, .int j7_10)] → W p l e (rm_Mo_readSequences) s m ([.ref h0, .int a1, .int a2] : List Value).toArray below meth c H locs 0 0 Q (F0 m 255 ls []) := by
    intro f1 g2 g3 g4 g5 g6 j4_7 j5_8 j6_9 j7_10 H locs ls hf hP hD hS hl
    unfold m_Mo_readSequences_E255 at hf
    refine lv_iload hx hb dX12_readSequences_255 (lv_at hl 4 rfl) ?_
    have hJ_290 : ∀ (s11 : Int32) (H : Heap) (locs : List Loc) (ls : Array Slot), m_Mo_readSequences_J290 h0_rule h0_place f1 g2 g3 g4 g5 g6 j5_8 s11 = some (o_r, o_h0_freshSize, o_h0_copiesOf, o_h0_literalsOf, o_h0_partsOf, o_h0_rule, o_h0_place, o_h0_at, o_h0_fresh_f) → va_P (dC, dI) vwCl [(h0, .inr (10, [.ref h0_in, w_h0_inSize, w_h0_out, w_h0_outSize, .ref h0_dict, .int h0_dictSize, w_h0_told, .ref h0_fresh, .int g6, w_h0_text, w_h0_lean, w_h0_size, w_h0_most, w_h0_offset, w_h0_copyAt, w_h0_copies, w_h0_copyLength, w_h0_copyOffset, w_h0_fromHere, w_h0_withCopy, w_h0_bestCopy, w_h0_bestLiterals, .int g2, .int g3, .int g4, w_h0_blocks, w_h0_blockMany, w_h0_newBlocks, w_h0_newMany, .int h0_rule, .int h0_place, .int g5])), (h0_in, .inl (cI, h0_in_n, .inl h0_in_f)), (h0_fresh, .inl (cI, h0_fresh_n, .inl f1)), (h0_dict, .inl (cI, h0_dict_n, .inl h0_dict_f))] H → va_D A [(h0, .inr (10, [.ref h0_in, w_h0_inSize, w_h0_out, w_h0_outSize, .ref h0_dict, .int h0_dictSize, w_h0_told, .ref h0_fresh, .int g6, w_h0_text, w_h0_lean, w_h0_size, w_h0_most, w_h0_offset, w_h0_copyAt, w_h0_copies, w_h0_copyLength, w_h0_copyOffset, w_h0_fromHere, w_h0_withCopy, w_h0_bestCopy, w_h0_bestLiterals, .int g2, .int g3, .int g4, w_h0_blocks, w_h0_blockMany, w_h0_newBlocks, w_h0_newMany, .int h0_rule, .int h0_place, .int g5])), (h0_in, .inl (cI, h0_in_n, .inl h0_in_f)), (h0_fresh, .inl (cI, h0_fresh_n, .inl f1)), (h0_dict, .inl (cI, h0_dict_n, .inl h0_dict_f))] → va_S A s.heap H locs → lv_has ls 11 [(0, .ref h0), (5, .int j5_8)] → W p l e (rm_Mo_readSequences) s m ([.ref h0, .int a1, .int a2] : List Value).toArray below meth c H locs 0 0 Q (F0 m 290 ls [.int s11]) := by
      intro s11 H locs ls hf hP hD hS hl
      unfold m_Mo_readSequences_J290 at hf
      refine lv_istore (lv' := [(8, .int s11), (0, .ref h0), (5, .int j5_8)]) hx hb dX12_readSequences_290 hl (by decide) rfl (fun ls hl => ?_)
      refine lv_iload hx hb dX12_readSequences_292 (lv_at hl 0 rfl) ?_
      refine lv_if_ne (tgt := 307) hx hb dX12_readSequences_294 (by decide) (fun c_294 => ?_) (fun c_294 => ?_)
      · replace hf := if_f c_294 hf
        refine lv_iconst (v := 1) hx hb dX12_readSequences_307 (by decide) ?_
        refine lv_goto (tgt := 312) hx hb dX12_readSequences_308 (by decide) ?_
        have hzb : narrow .boolean (.int (1 : Int32)) = .int (1 : Int32) := rfl
        obtain ⟨rfl, hq_1⟩ := Prod.mk.inj (Option.some.inj hf)
        obtain ⟨rfl, hq_2⟩ := Prod.mk.inj hq_1
        obtain ⟨rfl, hq_3⟩ := Prod.mk.inj hq_2
        obtain ⟨rfl, hq_4⟩ := Prod.mk.inj hq_3
        obtain ⟨rfl, hq_5⟩ := Prod.mk.inj hq_4
        obtain ⟨rfl, hq_6⟩ := Prod.mk.inj hq_5
        obtain ⟨rfl, hq_7⟩ := Prod.mk.inj hq_6
        obtain ⟨rfl, hq_8⟩ := Prod.mk.inj hq_7
        obtain rfl := hq_8
        exact rt_z hQ hx hb hr hzb hlocks hP hD hS dX12_readSequences_312
      · replace hf := if_t c_294 hf
        refine lv_aload_n hx hb dX12_readSequences_297 rfl (lv_at hl 1 rfl) ?_
        refine lv_iconst (v := 3) hx hb dX12_readSequences_298 (by decide) ?_
        refine lv_iload hx hb dX12_readSequences_299 (lv_at hl 2 rfl) ?_
        obtain ⟨x, hc, hf⟩ := bind_some hf
        obtain ⟨r12, u13, u14⟩ := x
        dsimp only at hf
        refine nx_i (rn_V (As := [.int (3 : Int32), .int j5_8]) (rest := []) (n := 2) (ci := 10) (q0 := 0) ⟨hx, hb, hml, hown, hts⟩ (c_Mo_no (l := l) (dC := dC) (dI := dI) (cB := cB) (cI := cI) (h0 := h0) (a1 := (3 : Int32)) (a2 := j5_8) (w_h0_in := (.ref h0_in)) (w_h0_inSize := (w_h0_inSize)) (w_h0_out := (w_h0_out)) (w_h0_outSize := (w_h0_outSize)) (w_h0_dict := (.ref h0_dict)) (w_h0_dictSize := (.int h0_dictSize)) (w_h0_told := (w_h0_told)) (w_h0_fresh := (.ref h0_fresh)) (w_h0_freshSize := (.int g6)) (w_h0_text := (w_h0_text)) (w_h0_lean := (w_h0_lean)) (w_h0_size := (w_h0_size)) (w_h0_most := (w_h0_most)) (w_h0_offset := (w_h0_offset)) (w_h0_copyAt := (w_h0_copyAt)) (w_h0_copies := (w_h0_copies)) (w_h0_copyLength := (w_h0_copyLength)) (w_h0_copyOffset := (w_h0_copyOffset)) (w_h0_fromHere := (w_h0_fromHere)) (w_h0_withCopy := (w_h0_withCopy)) (w_h0_bestCopy := (w_h0_bestCopy)) (w_h0_bestLiterals := (w_h0_bestLiterals)) (w_h0_copiesOf := (.int g2)) (w_h0_literalsOf := (.int g3)) (w_h0_partsOf := (.int g4)) (w_h0_blocks := (w_h0_blocks)) (w_h0_blockMany := (w_h0_blockMany)) (w_h0_newBlocks := (w_h0_newBlocks)) (w_h0_newMany := (w_h0_newMany)) (h0_rule := h0_rule) (h0_place := h0_place) (w_h0_at := (.int g5)) (o_h0_rule := u13) (o_h0_place := u14) (o_r := r12) hc) (wV kw_1353 kw_1355 kw_72 kw_94 kw_1356) (by decide +kernel) ⟨Nat.le_of_ble_eq_true rfl, Nat.le_of_ble_eq_true rfl⟩ hK hP hD hN hT hS (va_free (wc := [(h0, .inr (10, [.ref h0_in, w_h0_inSize, w_h0_out, w_h0_outSize, .ref h0_dict, .int h0_dictSize, w_h0_told, .ref h0_fresh, .int g6, w_h0_text, w_h0_lean, w_h0_size, w_h0_most, w_h0_offset, w_h0_copyAt, w_h0_copies, w_h0_copyLength, w_h0_copyOffset, w_h0_fromHere, w_h0_withCopy, w_h0_bestCopy, w_h0_bestLiterals, .int g2, .int g3, .int g4, w_h0_blocks, w_h0_blockMany, w_h0_newBlocks, w_h0_newMany, .int h0_rule, .int h0_place, .int g5]))]) hD hS hA [0] rfl) [0] rfl (by decide) rfl rfl rfl hl.1 rfl (lv_room (Nat.le_of_ble_eq_true rfl)) dX12_readSequences_301 ⟨Nat.le_of_ble_eq_true rfl, Nat.le_of_ble_eq_true rfl⟩) hP hD hS hA (wr := [(h0_in, .inl (cI, h0_in_n, .inl h0_in_f)), (h0_fresh, .inl (cI, h0_fresh_n, .inl f1)), (h0_dict, .inl (cI, h0_dict_n, .inl h0_dict_f))]) (w1 := [(h0, .inr (10, [.ref h0_in, w_h0_inSize, w_h0_out, w_h0_outSize, .ref h0_dict, .int h0_dictSize, w_h0_told, .ref h0_fresh, .int g6, w_h0_text, w_h0_lean, w_h0_size, w_h0_most, w_h0_offset, w_h0_copyAt, w_h0_copies, w_h0_copyLength, w_h0_copyOffset, w_h0_fromHere, w_h0_withCopy, w_h0_bestCopy, w_h0_bestLiterals, .int g2, .int g3, .int g4, w_h0_blocks, w_h0_blockMany, w_h0_newBlocks, w_h0_newMany, .int u13, .int u14, .int g5]))]) (ws' := [(h0, .inr (10, [.ref h0_in, w_h0_inSize, w_h0_out, w_h0_outSize, .ref h0_dict, .int h0_dictSize, w_h0_told, .ref h0_fresh, .int g6, w_h0_text, w_h0_lean, w_h0_size, w_h0_most, w_h0_offset, w_h0_copyAt, w_h0_copies, w_h0_copyLength, w_h0_copyOffset, w_h0_fromHere, w_h0_withCopy, w_h0_bestCopy, w_h0_bestLiterals, .int g2, .int g3, .int g4, w_h0_blocks, w_h0_blockMany, w_h0_newBlocks, w_h0_newMany, .int u13, .int u14, .int g5])), (h0_in, .inl (cI, h0_in_n, .inl h0_in_f)), (h0_fresh, .inl (cI, h0_fresh_n, .inl f1)), (h0_dict, .inl (cI, h0_dict_n, .inl h0_dict_f))]) [0] [1, 2, 3] [3, 0, 1, 2] rfl rfl (by decide) (by decide) rfl (by decide) (fun H locs hP hD hS => ?_)
        refine lv_if_eq (tgt := 311) hx hb dX12_readSequences_304 (by decide) (fun c_304 => ?_) (fun c_304 => ?_)
        · replace hf := if_t c_304 hf
          refine lv_iconst (v := 0) hx hb dX12_readSequences_311 (by decide) ?_
          have hzb : narrow .boolean (.int (0 : Int32)) = .int (0 : Int32) := rfl
          obtain ⟨rfl, hq_1⟩ := Prod.mk.inj (Option.some.inj hf)
          obtain ⟨rfl, hq_2⟩ := Prod.mk.inj hq_1
          obtain ⟨rfl, hq_3⟩ := Prod.mk.inj hq_2
          obtain ⟨rfl, hq_4⟩ := Prod.mk.inj hq_3
          obtain ⟨rfl, hq_5⟩ := Prod.mk.inj hq_4
          obtain ⟨rfl, hq_6⟩ := Prod.mk.inj hq_5
          obtain ⟨rfl, hq_7⟩ := Prod.mk.inj hq_6
          obtain ⟨rfl, hq_8⟩ := Prod.mk.inj hq_7
          obtain rfl := hq_8
          exact rt_z hQ hx hb hr hzb hlocks hP hD hS dX12_readSequences_312
        · replace hf := if_f c_304 hf
          refine lv_iconst (v := 1) hx hb dX12_readSequences_307 (by decide) ?_
          refine lv_goto (tgt := 312) hx hb dX12_readSequences_308 (by decide) ?_
          have hzb : narrow .boolean (.int (1 : Int32)) = .int (1 : Int32) := rfl
          obtain ⟨rfl, hq_1⟩ := Prod.mk.inj (Option.some.inj hf)
          obtain ⟨rfl, hq_2⟩ := Prod.mk.inj hq_1
          obtain ⟨rfl, hq_3⟩ := Prod.mk.inj hq_2
          obtain ⟨rfl, hq_4⟩ := Prod.mk.inj hq_3
          obtain ⟨rfl, hq_5⟩ := Prod.mk.inj hq_4
          obtain ⟨rfl, hq_6⟩ := Prod.mk.inj hq_5
          obtain ⟨rfl, hq_7⟩ := Prod.mk.inj hq_6
          obtain ⟨rfl, hq_8⟩ := Prod.mk.inj hq_7
          obtain rfl := hq_8
          exact rt_z hQ hx hb hr hzb hlocks hP hD hS dX12_readSequences_312
    refine lv_if_ne (tgt := 289) hx hb dX12_readSequences_257 (by decide) (fun c_257 => ?_) (fun c_257 => ?_)
    · replace hf := if_f c_257 hf
      refine lv_iconst (v := 0) hx hb dX12_readSequences_289 (by decide) ?_
      exact hJ_290 (0 : Int32) _ _ _ hf hP hD hS (lv_sub hl [0, 2] rfl)
    · replace hf := if_t c_257 hf
      refine lv_aload_n hx hb dX12_readSequences_260 rfl (lv_at hl 0 rfl) ?_
      refine va_get (D := (dC, dI)) (ci := 10) (v := .int g2) (C := RX12) (T := TX12) (N := 32) hx hb hts inG_X12 hown hK hP 0 rfl rfl 22 (by decide) (hts _ kw_1074) (fun _ h9 => h9) rfl dX12_readSequences_261 ?_
      refine lv_if_eq (tgt := 285) hx hb dX12_readSequences_264 (by decide) (fun c_264 => ?_) (fun c_264 => ?_)
      · replace hf := if_t c_264 hf
        refine lv_iconst (v := 1) hx hb dX12_readSequences_285 (by decide) ?_
        refine lv_goto (tgt := 290) hx hb dX12_readSequences_286 (by decide) ?_
        exact hJ_290 (1 : Int32) _ _ _ hf hP hD hS (lv_sub hl [0, 2] rfl)
      · replace hf := if_f c_264 hf
        refine lv_iload hx hb dX12_readSequences_267 (lv_at hl 3 rfl) ?_
        refine lv_iconst (v := 5) hx hb dX12_readSequences_269 (by decide) ?_
        refine lv_icmp_lt (tgt := 289) hx hb dX12_readSequences_270 (by decide) (fun c_270 => ?_) (fun c_270 => ?_)
        · replace hf := if_t c_270 hf
          refine lv_iconst (v := 0) hx hb dX12_readSequences_289 (by decide) ?_
          exact hJ_290 (0 : Int32) _ _ _ hf hP hD hS (lv_sub hl [0, 2] rfl)
        · replace hf := if_f c_270 hf
          refine lv_aload_n hx hb dX12_readSequences_273 rfl (lv_at hl 0 rfl) ?_
          refine va_get (D := (dC, dI)) (ci := 10) (v := .int g6) (C := RX12) (T := TX12) (N := 32) hx hb hts inG_X12 hown hK hP 0 rfl rfl 8 (by decide) (hts _ kw_1060) (fun _ h9 => h9) rfl dX12_readSequences_274 ?_
          refine lv_iload hx hb dX12_readSequences_277 (lv_at hl 1 rfl) ?_
          refine lv_isub hx hb dX12_readSequences_279 ?_
          refine lv_bipush (v := 12) hx hb dX12_readSequences_280 (by decide) ?_
          refine lv_icmp_lt (tgt := 289) hx hb dX12_readSequences_282 (by decide) (fun c_282 => ?_) (fun c_282 => ?_)
          · replace hf := if_t c_282 hf
            refine lv_iconst (v := 0) hx hb dX12_readSequences_289 (by decide) ?_
            exact hJ_290 (0 : Int32) _ _ _ hf hP hD hS (lv_sub hl [0, 2] rfl)
          · replace hf := if_f c_282 hf
            refine lv_iconst (v := 1) hx hb dX12_readSequences_285 (by decide) ?_
            refine lv_goto (tgt := 290) hx hb dX12_readSequences_286 (by decide) ?_
            exact hJ_290 (1 : Int32) _ _ _ hf hP hD hS (lv_sub hl [0, 2] rfl)
  have hJ_363 : ∀ (f15 : Nat → Int32) (g16 : Int32) (g17 : Int32) (g18 : Int32) (g19 : Int32) (g20 : Int32) (H : Heap) (locs : List Loc) (ls : Array Slot), m_Mo_readSequences_E363 f15 g16 g17 g18 g19 g20 = some (o_r, o_h0_freshSize, o_h0_copiesOf, o_h0_literalsOf, o_h0_partsOf, o_h0_rule, o_h0_place, o_h0_at, o_h0_fresh_f) → va_P (dC, dI) vwCl [(h0, .inr (10, [.ref h0_in, w_h0_inSize, w_h0_out, w_h0_outSize, .ref h0_dict, .int h0_dictSize, w_h0_told, .ref h0_fresh, .int g20, w_h0_text, w_h0_lean, w_h0_size, w_h0_most, w_h0_offset, w_h0_copyAt, w_h0_copies, w_h0_copyLength, w_h0_copyOffset, w_h0_fromHere, w_h0_withCopy, w_h0_bestCopy, w_h0_bestLiterals, .int g16, .int g17, .int g18, w_h0_blocks, w_h0_blockMany, w_h0_newBlocks, w_h0_newMany, .int h0_rule, .int h0_place, .int g19])), (h0_in, .inl (cI, h0_in_n, .inl h0_in_f)), (h0_fresh, .inl (cI, h0_fresh_n, .inl f15)), (h0_dict, .inl (cI, h0_dict_n, .inl h0_dict_f))] H → va_D A [(h0, .inr (10, [.ref h0_in, w_h0_inSize, w_h0_out, w_h0_outSize, .ref h0_dict, .int h0_dictSize, w_h0_told, .ref h0_fresh, .int g20, w_h0_text, w_h0_lean, w_h0_size, w_h0_most, w_h0_offset, w_h0_copyAt, w_h0_copies, w_h0_copyLength, w_h0_copyOffset, w_h0_fromHere, w_h0_withCopy, w_h0_bestCopy, w_h0_bestLiterals, .int g16, .int g17, .int g18, w_h0_blocks, w_h0_blockMany, w_h0_newBlocks, w_h0_newMany, .int h0_rule, .int h0_place, .int g19])), (h0_in, .inl (cI, h0_in_n, .inl h0_in_f)), (h0_fresh, .inl (cI, h0_fresh_n, .inl f15)), (h0_dict, .inl (cI, h0_dict_n, .inl h0_dict_f))] → va_S A s.heap H locs → lv_has ls 11 [(0, .ref h0)] → W p l e (rm_Mo_readSequences) s m ([.ref h0, .int a1, .int a2] : List Value).toArray below meth c H locs 0 0 Q (F0 m 363 ls []) := by
    intro f15 g16 g17 g18 g19 g20 H locs ls hf hP hD hS hl
    unfold m_Mo_readSequences_E363 at hf
    refine lv_aload_n hx hb dX12_readSequences_363 rfl (lv_at hl 0 rfl) ?_
    refine lv_iconst (v := 2) hx hb dX12_readSequences_364 (by decide) ?_
    refine lv_aload_n hx hb dX12_readSequences_365 rfl (lv_at hl 0 rfl) ?_
    refine va_get (D := (dC, dI)) (ci := 10) (v := .int g19) (C := RX12) (T := TX12) (N := 32) hx hb hts inG_X12 hown hK hP 0 rfl rfl 31 (by decide) (hts _ kw_1083) (fun _ h9 => h9) rfl dX12_readSequences_366 ?_
    obtain ⟨x, hc, hf⟩ := bind_some hf
    obtain ⟨r21, u22, u23⟩ := x
    dsimp only at hf
    refine nx_i (rn_V (As := [.int (2 : Int32), .int g19]) (rest := []) (n := 2) (ci := 10) (q0 := 0) ⟨hx, hb, hml, hown, hts⟩ (c_Mo_no (l := l) (dC := dC) (dI := dI) (cB := cB) (cI := cI) (h0 := h0) (a1 := (2 : Int32)) (a2 := g19) (w_h0_in := (.ref h0_in)) (w_h0_inSize := (w_h0_inSize)) (w_h0_out := (w_h0_out)) (w_h0_outSize := (w_h0_outSize)) (w_h0_dict := (.ref h0_dict)) (w_h0_dictSize := (.int h0_dictSize)) (w_h0_told := (w_h0_told)) (w_h0_fresh := (.ref h0_fresh)) (w_h0_freshSize := (.int g20)) (w_h0_text := (w_h0_text)) (w_h0_lean := (w_h0_lean)) (w_h0_size := (w_h0_size)) (w_h0_most := (w_h0_most)) (w_h0_offset := (w_h0_offset)) (w_h0_copyAt := (w_h0_copyAt)) (w_h0_copies := (w_h0_copies)) (w_h0_copyLength := (w_h0_copyLength)) (w_h0_copyOffset := (w_h0_copyOffset)) (w_h0_fromHere := (w_h0_fromHere)) (w_h0_withCopy := (w_h0_withCopy)) (w_h0_bestCopy := (w_h0_bestCopy)) (w_h0_bestLiterals := (w_h0_bestLiterals)) (w_h0_copiesOf := (.int g16)) (w_h0_literalsOf := (.int g17)) (w_h0_partsOf := (.int g18)) (w_h0_blocks := (w_h0_blocks)) (w_h0_blockMany := (w_h0_blockMany)) (w_h0_newBlocks := (w_h0_newBlocks)) (w_h0_newMany := (w_h0_newMany)) (h0_rule := h0_rule) (h0_place := h0_place) (w_h0_at := (.int g19)) (o_h0_rule := u22) (o_h0_place := u23) (o_r := r21) hc) (wV kw_1353 kw_1355 kw_72 kw_94 kw_1356) (by decide +kernel) ⟨Nat.le_of_ble_eq_true rfl, Nat.le_of_ble_eq_true rfl⟩ hK hP hD hN hT hS (va_free (wc := [(h0, .inr (10, [.ref h0_in, w_h0_inSize, w_h0_out, w_h0_outSize, .ref h0_dict, .int h0_dictSize, w_h0_told, .ref h0_fresh, .int g20, w_h0_text, w_h0_lean, w_h0_size, w_h0_most, w_h0_offset, w_h0_copyAt, w_h0_copies, w_h0_copyLength, w_h0_copyOffset, w_h0_fromHere, w_h0_withCopy, w_h0_bestCopy, w_h0_bestLiterals, .int g16, .int g17, .int g18, w_h0_blocks, w_h0_blockMany, w_h0_newBlocks, w_h0_newMany, .int h0_rule, .int h0_place, .int g19]))]) hD hS hA [0] rfl) [0] rfl (by decide) rfl rfl rfl hl.1 rfl (lv_room (Nat.le_of_ble_eq_true rfl)) dX12_readSequences_369 ⟨Nat.le_of_ble_eq_true rfl, Nat.le_of_ble_eq_true rfl⟩) hP hD hS hA (wr := [(h0_in, .inl (cI, h0_in_n, .inl h0_in_f)), (h0_fresh, .inl (cI, h0_fresh_n, .inl f15)), (h0_dict, .inl (cI, h0_dict_n, .inl h0_dict_f))]) (w1 := [(h0, .inr (10, [.ref h0_in, w_h0_inSize, w_h0_out, w_h0_outSize, .ref h0_dict, .int h0_dictSize, w_h0_told, .ref h0_fresh, .int g20, w_h0_text, w_h0_lean, w_h0_size, w_h0_most, w_h0_offset, w_h0_copyAt, w_h0_copies, w_h0_copyLength, w_h0_copyOffset, w_h0_fromHere, w_h0_withCopy, w_h0_bestCopy, w_h0_bestLiterals, .int g16, .int g17, .int g18, w_h0_blocks, w_h0_blockMany, w_h0_newBlocks, w_h0_newMany, .int u22, .int u23, .int g19]))]) (ws' := [(h0, .inr (10, [.ref h0_in, w_h0_inSize, w_h0_out, w_h0_outSize, .ref h0_dict, .int h0_dictSize, w_h0_told, .ref h0_fresh, .int g20, w_h0_text, w_h0_lean, w_h0_size, w_h0_most, w_h0_offset, w_h0_copyAt, w_h0_copies, w_h0_copyLength, w_h0_copyOffset, w_h0_fromHere, w_h0_withCopy, w_h0_bestCopy, w_h0_bestLiterals, .int g16, .int g17, .int g18, w_h0_blocks, w_h0_blockMany, w_h0_newBlocks, w_h0_newMany, .int u22, .int u23, .int g19])), (h0_in, .inl (cI, h0_in_n, .inl h0_in_f)), (h0_fresh, .inl (cI, h0_fresh_n, .inl f15)), (h0_dict, .inl (cI, h0_dict_n, .inl h0_dict_f))]) [0] [1, 2, 3] [3, 0, 1, 2] rfl rfl (by decide) (by decide) rfl (by decide) (fun H locs hP hD hS => ?_)
    obtain ⟨hzb, hf⟩ := bch_some hf
    obtain ⟨rfl, hq_1⟩ := Prod.mk.inj (Option.some.inj hf)
    obtain ⟨rfl, hq_2⟩ := Prod.mk.inj hq_1
    obtain ⟨rfl, hq_3⟩ := Prod.mk.inj hq_2
    obtain ⟨rfl, hq_4⟩ := Prod.mk.inj hq_3
    obtain ⟨rfl, hq_5⟩ := Prod.mk.inj hq_4
    obtain ⟨rfl, hq_6⟩ := Prod.mk.inj hq_5
    obtain ⟨rfl, hq_7⟩ := Prod.mk.inj hq_6
    obtain ⟨rfl, hq_8⟩ := Prod.mk.inj hq_7
    obtain rfl := hq_8
    exact rt_z hQ hx hb hr hzb hlocks hP hD hS dX12_readSequences_372
  obtain ⟨o_23, hi_23, hk_23⟩ := bind_some hf
  have hL_23 : ∀ (n : Nat) (f24 : Nat → Int32) (g25 : Int32) (g26 : Int32) (g27 : Int32) (g28 : Int32) (g29 : Int32) (j4_30 : Int32) (H : Heap) (locs : List Loc) (ls : Array Slot), iter (fun st => m_Mo_readSequences_B23 a1 a2 h0_dictSize h0_in_n h0_in_f h0_fresh_n h0_dict_n h0_dict_f st.1 st.2.1 st.2.2.1 st.2.2.2.1 st.2.2.2.2.1 st.2.2.2.2.2.1 st.2.2.2.2.2.2) n (f24, g25, g26, g27, g28, g29, j4_30) = some o_23 → va_P (dC, dI) vwCl [(h0, .inr (10, [.ref h0_in, w_h0_inSize, w_h0_out, w_h0_outSize, .ref h0_dict, .int h0_dictSize, w_h0_told, .ref h0_fresh, .int g29, w_h0_text, w_h0_lean, w_h0_size, w_h0_most, w_h0_offset, w_h0_copyAt, w_h0_copies, w_h0_copyLength, w_h0_copyOffset, w_h0_fromHere, w_h0_withCopy, w_h0_bestCopy, w_h0_bestLiterals, .int g25, .int g26, .int g27, w_h0_blocks, w_h0_blockMany, w_h0_newBlocks, w_h0_newMany, .int h0_rule, .int h0_place, .int g28])), (h0_in, .inl (cI, h0_in_n, .inl h0_in_f)), (h0_fresh, .inl (cI, h0_fresh_n, .inl f24)), (h0_dict, .inl (cI, h0_dict_n, .inl h0_dict_f))] H → va_D A [(h0, .inr (10, [.ref h0_in, w_h0_inSize, w_h0_out, w_h0_outSize, .ref h0_dict, .int h0_dictSize, w_h0_told, .ref h0_fresh, .int g29, w_h0_text, w_h0_lean, w_h0_size, w_h0_most, w_h0_offset, w_h0_copyAt, w_h0_copies, w_h0_copyLength, w_h0_copyOffset, w_h0_fromHere, w_h0_withCopy, w_h0_bestCopy, w_h0_bestLiterals, .int g25, .int g26, .int g27, w_h0_blocks, w_h0_blockMany, w_h0_newBlocks, w_h0_newMany, .int h0_rule, .int h0_place, .int g28])), (h0_in, .inl (cI, h0_in_n, .inl h0_in_f)), (h0_fresh, .inl (cI, h0_fresh_n, .inl f24)), (h0_dict, .inl (cI, h0_dict_n, .inl h0_dict_f))] → va_S A s.heap H locs → lv_has ls 11 [(0, .ref h0), (1, .int a1), (2, .int a2), (4, .int j4_30)] → W p l e (rm_Mo_readSequences) s m ([.ref h0, .int a1, .int a2] : List Value).toArray below meth c H locs 0 0 Q (F0 m 23 ls []) := by
    intro n
    induction n with
    | zero => intro f24 g25 g26 g27 g28 g29 j4_30 H locs ls hf; exact absurd hf (fun z => by cases z)
    | succ n ih_23 =>
      intro f24 g25 g26 g27 g28 g29 j4_30 H locs ls hf hP hD hS hl
      obtain ⟨r_23, hf, hr_23⟩ := iter_succ hf
      have hf : m_Mo_readSequences_B23 a1 a2 h0_dictSize h0_in_n h0_in_f h0_fresh_n h0_dict_n h0_dict_f f24 g25 g26 g27 g28 g29 j4_30 = some r_23 := hf
      unfold m_Mo_readSequences_B23 at hf
      refine lv_aload_n hx hb dX12_readSequences_23 rfl (lv_at hl 0 rfl) ?_
      refine va_get (D := (dC, dI)) (ci := 10) (v := .int g28) (C := RX12) (T := TX12) (N := 32) hx hb hts inG_X12 hown hK hP 0 rfl rfl 31 (by decide) (hts _ kw_1083) (fun _ h9 => h9) rfl dX12_readSequences_24 ?_
      refine lv_istore (lv' := [(5, .int g28), (0, .ref h0), (1, .int a1), (2, .int a2), (4, .int j4_30)]) hx hb dX12_readSequences_27 hl (by decide) rfl (fun ls hl => ?_)
      refine lv_aload_n hx hb dX12_readSequences_29 rfl (lv_at hl 1 rfl) ?_
      refine va_get (D := (dC, dI)) (ci := 10) (v := .int g28) (C := RX12) (T := TX12) (N := 32) hx hb hts inG_X12 hown hK hP 0 rfl rfl 31 (by decide) (hts _ kw_1083) (fun _ h9 => h9) rfl dX12_readSequences_30 ?_
      refine lv_iload_n hx hb dX12_readSequences_33 rfl (lv_at hl 2 rfl) ?_
      refine lv_icmp_lt (tgt := 44) hx hb dX12_readSequences_34 (by decide) (fun c_34 => ?_) (fun c_34 => ?_)
      · replace hf := if_t c_34 hf
        refine lv_aload_n hx hb dX12_readSequences_44 rfl (lv_at hl 1 rfl) ?_
        refine va_get (D := (dC, dI)) (ci := 10) (v := .ref h0_in) (C := RX12) (T := TX12) (N := 32) hx hb hts inG_X12 hown hK hP 0 rfl rfl 0 (by decide) (hts _ kw_1052) (fun _ h9 => h9) rfl dX12_readSequences_45 ?_
        refine lv_aload_n hx hb dX12_readSequences_48 rfl (lv_at hl 1 rfl) ?_
        refine va_get (D := (dC, dI)) (ci := 10) (v := .int g28) (C := RX12) (T := TX12) (N := 32) hx hb hts inG_X12 hown hK hP 0 rfl rfl 31 (by decide) (hts _ kw_1083) (fun _ h9 => h9) rfl dX12_readSequences_49 ?_
        obtain ⟨hin, hf⟩ := chk_some hf
        refine va_iald hx hb hK hP 1 1 rfl rfl hin dX12_readSequences_52 ?_
        refine lv_iconst (v := 4) hx hb dX12_readSequences_53 (by decide) ?_
        refine lv_ishr hx hb dX12_readSequences_54 ?_
        refine lv_topi (fun v6_31 e_v6_31 => ?_)
        replace hf := bnd_at e_v6_31 hf
        refine lv_istore (lv' := [(6, .int v6_31), (5, .int g28), (0, .ref h0), (1, .int a1), (2, .int a2), (4, .int j4_30)]) hx hb dX12_readSequences_55 hl (by decide) rfl (fun ls hl => ?_)
        refine lv_aload_n hx hb dX12_readSequences_57 rfl (lv_at hl 2 rfl) ?_
        refine va_get (D := (dC, dI)) (ci := 10) (v := .ref h0_in) (C := RX12) (T := TX12) (N := 32) hx hb hts inG_X12 hown hK hP 0 rfl rfl 0 (by decide) (hts _ kw_1052) (fun _ h9 => h9) rfl dX12_readSequences_58 ?_
        refine lv_aload_n hx hb dX12_readSequences_61 rfl (lv_at hl 2 rfl) ?_
        refine va_get (D := (dC, dI)) (ci := 10) (v := .int g28) (C := RX12) (T := TX12) (N := 32) hx hb hts inG_X12 hown hK hP 0 rfl rfl 31 (by decide) (hts _ kw_1083) (fun _ h9 => h9) rfl dX12_readSequences_62 ?_
        obtain ⟨hin, hf⟩ := chk_some hf
        refine va_iald hx hb hK hP 1 1 rfl rfl hin dX12_readSequences_65 ?_
        refine lv_bipush (v := 15) hx hb dX12_readSequences_66 (by decide) ?_
        refine lv_iand hx hb dX12_readSequences_68 ?_
        refine lv_topi (fun v7_32 e_v7_32 => ?_)
        replace hf := bnd_at e_v7_32 hf
        refine lv_istore (lv' := [(7, .int v7_32), (6, .int v6_31), (5, .int g28), (0, .ref h0), (1, .int a1), (2, .int a2), (4, .int j4_30)]) hx hb dX12_readSequences_69 hl (by decide) rfl (fun ls hl => ?_)
        refine lv_aload_n hx hb dX12_readSequences_71 rfl (lv_at hl 3 rfl) ?_
        refine lv_dup hx hb dX12_readSequences_72 rfl ?_
        refine va_get (D := (dC, dI)) (ci := 10) (v := .int g28) (C := RX12) (T := TX12) (N := 32) hx hb hts inG_X12 hown hK hP 0 rfl rfl 31 (by decide) (hts _ kw_1083) (fun _ h9 => h9) rfl dX12_readSequences_73 ?_
        refine lv_iconst (v := 1) hx hb dX12_readSequences_76 (by decide) ?_
        refine lv_iadd hx hb dX12_readSequences_77 ?_
        refine lv_topi (fun p_33 e_p_33 => ?_)
        replace hf := bnd_at e_p_33 hf
        refine va_put (D := (dC, dI)) (ci := 10) (v := .int p_33) (ty := .int) (C := RX12) (T := TX12) (N := 32) hx hb hts inG_X12 tyX12 tyX12_ok nmX12 hown hK hP hD hS 0 rfl rfl 31 (by decide) (hts _ kw_1083) (fun _ h9 => h9) rfl (by decide +kernel) rfl rfl (Nat.le_of_ble_eq_true rfl) dX12_readSequences_78 (fun H locs hP hD hS => ?_)
        have hP : va_P (dC, dI) vwCl [(h0, .inr (10, [.ref h0_in, w_h0_inSize, w_h0_out, w_h0_outSize, .ref h0_dict, .int h0_dictSize, w_h0_told, .ref h0_fresh, .int g29, w_h0_text, w_h0_lean, w_h0_size, w_h0_most, w_h0_offset, w_h0_copyAt, w_h0_copies, w_h0_copyLength, w_h0_copyOffset, w_h0_fromHere, w_h0_withCopy, w_h0_bestCopy, w_h0_bestLiterals, .int g25, .int g26, .int g27, w_h0_blocks, w_h0_blockMany, w_h0_newBlocks, w_h0_newMany, .int h0_rule, .int h0_place, .int p_33])), (h0_in, .inl (cI, h0_in_n, .inl h0_in_f)), (h0_fresh, .inl (cI, h0_fresh_n, .inl f24)), (h0_dict, .inl (cI, h0_dict_n, .inl h0_dict_f))] H := hP
        have hD : va_D A [(h0, .inr (10, [.ref h0_in, w_h0_inSize, w_h0_out, w_h0_outSize, .ref h0_dict, .int h0_dictSize, w_h0_told, .ref h0_fresh, .int g29, w_h0_text, w_h0_lean, w_h0_size, w_h0_most, w_h0_offset, w_h0_copyAt, w_h0_copies, w_h0_copyLength, w_h0_copyOffset, w_h0_fromHere, w_h0_withCopy, w_h0_bestCopy, w_h0_bestLiterals, .int g25, .int g26, .int g27, w_h0_blocks, w_h0_blockMany, w_h0_newBlocks, w_h0_newMany, .int h0_rule, .int h0_place, .int p_33])), (h0_in, .inl (cI, h0_in_n, .inl h0_in_f)), (h0_fresh, .inl (cI, h0_fresh_n, .inl f24)), (h0_dict, .inl (cI, h0_dict_n, .inl h0_dict_f))] := hD
        refine lv_iload hx hb dX12_readSequences_81 (lv_at hl 1 rfl) ?_
        refine lv_bipush (v := 15) hx hb dX12_readSequences_83 (by decide) ?_
        have hJ_147 : ∀ (g34 : Int32) (j6_35 : Int32) (H : Heap) (locs : List Loc) (ls : Array Slot), m_Mo_readSequences_J147 a1 a2 h0_dictSize h0_in_n h0_in_f h0_fresh_n h0_dict_n h0_dict_f f24 g25 g26 g27 g28 g29 j4_30 v7_32 g34 j6_35 = some r_23 → va_P (dC, dI) vwCl [(h0, .inr (10, [.ref h0_in, w_h0_inSize, w_h0_out, w_h0_outSize, .ref h0_dict, .int h0_dictSize, w_h0_told, .ref h0_fresh, .int g29, w_h0_text, w_h0_lean, w_h0_size, w_h0_most, w_h0_offset, w_h0_copyAt, w_h0_copies, w_h0_copyLength, w_h0_copyOffset, w_h0_fromHere, w_h0_withCopy, w_h0_bestCopy, w_h0_bestLiterals, .int g25, .int g26, .int g27, w_h0_blocks, w_h0_blockMany, w_h0_newBlocks, w_h0_newMany, .int h0_rule, .int h0_place, .int g34])), (h0_in, .inl (cI, h0_in_n, .inl h0_in_f)), (h0_fresh, .inl (cI, h0_fresh_n, .inl f24)), (h0_dict, .inl (cI, h0_dict_n, .inl h0_dict_f))] H → va_D A [(h0, .inr (10, [.ref h0_in, w_h0_inSize, w_h0_out, w_h0_outSize, .ref h0_dict, .int h0_dictSize, w_h0_told, .ref h0_fresh, .int g29, w_h0_text, w_h0_lean, w_h0_size, w_h0_most, w_h0_offset, w_h0_copyAt, w_h0_copies, w_h0_copyLength, w_h0_copyOffset, w_h0_fromHere, w_h0_withCopy, w_h0_bestCopy, w_h0_bestLiterals, .int g25, .int g26, .int g27, w_h0_blocks, w_h0_blockMany, w_h0_newBlocks, w_h0_newMany, .int h0_rule, .int h0_place, .int g34])), (h0_in, .inl (cI, h0_in_n, .inl h0_in_f)), (h0_fresh, .inl (cI, h0_fresh_n, .inl f24)), (h0_dict, .inl (cI, h0_dict_n, .inl h0_dict_f))] → va_S A s.heap H locs → lv_has ls 11 [(0, .ref h0), (1, .int a1), (2, .int a2), (4, .int j4_30), (5, .int g28), (6, .int j6_35), (7, .int v7_32)] → W p l e (rm_Mo_readSequences) s m ([.ref h0, .int a1, .int a2] : List Value).toArray below meth c H locs 0 0 Q (F0 m 147 ls []) := by
          intro g34 j6_35 H locs ls hf hP hD hS hl
          unfold m_Mo_readSequences_J147 at hf
          refine lv_iload_n hx hb dX12_readSequences_147 rfl (lv_at hl 1 rfl) ?_
          refine lv_aload_n hx hb dX12_readSequences_148 rfl (lv_at hl 0 rfl) ?_
          refine va_get (D := (dC, dI)) (ci := 10) (v := .int g34) (C := RX12) (T := TX12) (N := 32) hx hb hts inG_X12 hown hK hP 0 rfl rfl 31 (by decide) (hts _ kw_1083) (fun _ h9 => h9) rfl dX12_readSequences_149 ?_
          refine lv_isub hx hb dX12_readSequences_152 ?_
          refine lv_iload hx hb dX12_readSequences_153 (lv_at hl 5 rfl) ?_
          refine lv_icmp_ge (tgt := 165) hx hb dX12_readSequences_155 (by decide) (fun c_155 => ?_) (fun c_155 => ?_)
          · replace hf := if_t c_155 hf
            refine lv_aload_n hx hb dX12_readSequences_165 rfl (lv_at hl 0 rfl) ?_
            refine va_get (D := (dC, dI)) (ci := 10) (v := .int g29) (C := RX12) (T := TX12) (N := 32) hx hb hts inG_X12 hown hK hP 0 rfl rfl 8 (by decide) (hts _ kw_1060) (fun _ h9 => h9) rfl dX12_readSequences_166 ?_
            refine lv_iload hx hb dX12_readSequences_169 (lv_at hl 5 rfl) ?_
            refine lv_iadd hx hb dX12_readSequences_171 ?_
            refine lv_sipush (v := 12000) hx hb dX12_readSequences_172 (by decide) ?_
            refine lv_icmp_le (tgt := 187) hx hb dX12_readSequences_175 (by decide) (fun c_175 => ?_) (fun c_175 => ?_)
            · replace hf := if_t c_175 hf
              refine lv_aload_n hx hb dX12_readSequences_187 rfl (lv_at hl 0 rfl) ?_
              refine lv_dup hx hb dX12_readSequences_188 rfl ?_
              refine va_get (D := (dC, dI)) (ci := 10) (v := .int g27) (C := RX12) (T := TX12) (N := 32) hx hb hts inG_X12 hown hK hP 0 rfl rfl 24 (by decide) (hts _ kw_1076) (fun _ h9 => h9) rfl dX12_readSequences_189 ?_
              refine lv_iconst (v := 1) hx hb dX12_readSequences_192 (by decide) ?_
              refine lv_iadd hx hb dX12_readSequences_193 ?_
              refine lv_topi (fun p_36 e_p_36 => ?_)
              replace hf := bnd_at e_p_36 hf
              refine va_put (D := (dC, dI)) (ci := 10) (v := .int p_36) (ty := .int) (C := RX12) (T := TX12) (N := 32) hx hb hts inG_X12 tyX12 tyX12_ok nmX12 hown hK hP hD hS 0 rfl rfl 24 (by decide) (hts _ kw_1076) (fun _ h9 => h9) rfl (by decide +kernel) rfl rfl (Nat.le_of_ble_eq_true rfl) dX12_readSequences_194 (fun H locs hP hD hS => ?_)
              have hP : va_P (dC, dI) vwCl [(h0, .inr (10, [.ref h0_in, w_h0_inSize, w_h0_out, w_h0_outSize, .ref h0_dict, .int h0_dictSize, w_h0_told, .ref h0_fresh, .int g29, w_h0_text, w_h0_lean, w_h0_size, w_h0_most, w_h0_offset, w_h0_copyAt, w_h0_copies, w_h0_copyLength, w_h0_copyOffset, w_h0_fromHere, w_h0_withCopy, w_h0_bestCopy, w_h0_bestLiterals, .int g25, .int g26, .int p_36, w_h0_blocks, w_h0_blockMany, w_h0_newBlocks, w_h0_newMany, .int h0_rule, .int h0_place, .int g34])), (h0_in, .inl (cI, h0_in_n, .inl h0_in_f)), (h0_fresh, .inl (cI, h0_fresh_n, .inl f24)), (h0_dict, .inl (cI, h0_dict_n, .inl h0_dict_f))] H := hP
              have hD : va_D A [(h0, .inr (10, [.ref h0_in, w_h0_inSize, w_h0_out, w_h0_outSize, .ref h0_dict, .int h0_dictSize, w_h0_told, .ref h0_fresh, .int g29, w_h0_text, w_h0_lean, w_h0_size, w_h0_most, w_h0_offset, w_h0_copyAt, w_h0_copies, w_h0_copyLength, w_h0_copyOffset, w_h0_fromHere, w_h0_withCopy, w_h0_bestCopy, w_h0_bestLiterals, .int g25, .int g26, .int p_36, w_h0_blocks, w_h0_blockMany, w_h0_newBlocks, w_h0_newMany, .int h0_rule, .int h0_place, .int g34])), (h0_in, .inl (cI, h0_in_n, .inl h0_in_f)), (h0_fresh, .inl (cI, h0_fresh_n, .inl f24)), (h0_dict, .inl (cI, h0_dict_n, .inl h0_dict_f))] := hD
              refine lv_aload_n hx hb dX12_readSequences_197 rfl (lv_at hl 0 rfl) ?_
              refine lv_dup hx hb dX12_readSequences_198 rfl ?_
              refine va_get (D := (dC, dI)) (ci := 10) (v := .int g26) (C := RX12) (T := TX12) (N := 32) hx hb hts inG_X12 hown hK hP 0 rfl rfl 23 (by decide) (hts _ kw_1075) (fun _ h9 => h9) rfl dX12_readSequences_199 ?_
              refine lv_iload hx hb dX12_readSequences_202 (lv_at hl 5 rfl) ?_
              refine lv_iadd hx hb dX12_readSequences_204 ?_
              refine lv_topi (fun p_37 e_p_37 => ?_)
              replace hf := bnd_at e_p_37 hf
              refine va_put (D := (dC, dI)) (ci := 10) (v := .int p_37) (ty := .int) (C := RX12) (T := TX12) (N := 32) hx hb hts inG_X12 tyX12 tyX12_ok nmX12 hown hK hP hD hS 0 rfl rfl 23 (by decide) (hts _ kw_1075) (fun _ h9 => h9) rfl (by decide +kernel) rfl rfl (Nat.le_of_ble_eq_true rfl) dX12_readSequences_205 (fun H locs hP hD hS => ?_)
              have hP : va_P (dC, dI) vwCl [(h0, .inr (10, [.ref h0_in, w_h0_inSize, w_h0_out, w_h0_outSize, .ref h0_dict, .int h0_dictSize, w_h0_told, .ref h0_fresh, .int g29, w_h0_text, w_h0_lean, w_h0_size, w_h0_most, w_h0_offset, w_h0_copyAt, w_h0_copies, w_h0_copyLength, w_h0_copyOffset, w_h0_fromHere, w_h0_withCopy, w_h0_bestCopy, w_h0_bestLiterals, .int g25, .int p_37, .int p_36, w_h0_blocks, w_h0_blockMany, w_h0_newBlocks, w_h0_newMany, .int h0_rule, .int h0_place, .int g34])), (h0_in, .inl (cI, h0_in_n, .inl h0_in_f)), (h0_fresh, .inl (cI, h0_fresh_n, .inl f24)), (h0_dict, .inl (cI, h0_dict_n, .inl h0_dict_f))] H := hP
              have hD : va_D A [(h0, .inr (10, [.ref h0_in, w_h0_inSize, w_h0_out, w_h0_outSize, .ref h0_dict, .int h0_dictSize, w_h0_told, .ref h0_fresh, .int g29, w_h0_text, w_h0_lean, w_h0_size, w_h0_most, w_h0_offset, w_h0_copyAt, w_h0_copies, w_h0_copyLength, w_h0_copyOffset, w_h0_fromHere, w_h0_withCopy, w_h0_bestCopy, w_h0_bestLiterals, .int g25, .int p_37, .int p_36, w_h0_blocks, w_h0_blockMany, w_h0_newBlocks, w_h0_newMany, .int h0_rule, .int h0_place, .int g34])), (h0_in, .inl (cI, h0_in_n, .inl h0_in_f)), (h0_fresh, .inl (cI, h0_fresh_n, .inl f24)), (h0_dict, .inl (cI, h0_dict_n, .inl h0_dict_f))] := hD
              refine lv_iconst (v := 0) hx hb dX12_readSequences_208 (by decide) ?_
              refine lv_istore (lv' := [(8, .int (0 : Int32)), (0, .ref h0), (1, .int a1), (2, .int a2), (4, .int j4_30), (5, .int g28), (6, .int j6_35), (7, .int v7_32)]) hx hb dX12_readSequences_209 hl (by decide) rfl (fun ls hl => ?_)
              have hJ_247 : ∀ (f38 : Nat → Int32) (g39 : Int32) (g40 : Int32) (H : Heap) (locs : List Loc) (ls : Array Slot), m_Mo_readSequences_E247 a1 a2 h0_dictSize h0_in_n h0_in_f h0_fresh_n h0_dict_n h0_dict_f g25 g28 j4_30 v7_32 j6_35 p_36 p_37 f38 g39 g40 = some r_23 → va_P (dC, dI) vwCl [(h0, .inr (10, [.ref h0_in, w_h0_inSize, w_h0_out, w_h0_outSize, .ref h0_dict, .int h0_dictSize, w_h0_told, .ref h0_fresh, .int g40, w_h0_text, w_h0_lean, w_h0_size, w_h0_most, w_h0_offset, w_h0_copyAt, w_h0_copies, w_h0_copyLength, w_h0_copyOffset, w_h0_fromHere, w_h0_withCopy, w_h0_bestCopy, w_h0_bestLiterals, .int g25, .int p_37, .int p_36, w_h0_blocks, w_h0_blockMany, w_h0_newBlocks, w_h0_newMany, .int h0_rule, .int h0_place, .int g39])), (h0_in, .inl (cI, h0_in_n, .inl h0_in_f)), (h0_fresh, .inl (cI, h0_fresh_n, .inl f38)), (h0_dict, .inl (cI, h0_dict_n, .inl h0_dict_f))] H → va_D A [(h0, .inr (10, [.ref h0_in, w_h0_inSize, w_h0_out, w_h0_outSize, .ref h0_dict, .int h0_dictSize, w_h0_told, .ref h0_fresh, .int g40, w_h0_text, w_h0_lean, w_h0_size, w_h0_most, w_h0_offset, w_h0_copyAt, w_h0_copies, w_h0_copyLength, w_h0_copyOffset, w_h0_fromHere, w_h0_withCopy, w_h0_bestCopy, w_h0_bestLiterals, .int g25, .int p_37, .int p_36, w_h0_blocks, w_h0_blockMany, w_h0_newBlocks, w_h0_newMany, .int h0_rule, .int h0_place, .int g39])), (h0_in, .inl (cI, h0_in_n, .inl h0_in_f)), (h0_fresh, .inl (cI, h0_fresh_n, .inl f38)), (h0_dict, .inl (cI, h0_dict_n, .inl h0_dict_f))] → va_S A s.heap H locs → lv_has ls 11 [(0, .ref h0), (1, .int a1), (2, .int a2), (4, .int j4_30), (5, .int g28), (6, .int j6_35), (7, .int v7_32)] → W p l e (rm_Mo_readSequences) s m ([.ref h0, .int a1, .int a2] : List Value).toArray below meth c H locs 0 0 Q (F0 m 247 ls []) := by
                intro f38 g39 g40 H locs ls hf hP hD hS hl
                unfold m_Mo_readSequences_E247 at hf
                refine lv_aload_n hx hb dX12_readSequences_247 rfl (lv_at hl 0 rfl) ?_
                refine va_get (D := (dC, dI)) (ci := 10) (v := .int g39) (C := RX12) (T := TX12) (N := 32) hx hb hts inG_X12 hown hK hP 0 rfl rfl 31 (by decide) (hts _ kw_1083) (fun _ h9 => h9) rfl dX12_readSequences_248 ?_
                refine lv_iload_n hx hb dX12_readSequences_251 rfl (lv_at hl 1 rfl) ?_
                refine lv_icmp_ne (tgt := 313) hx hb dX12_readSequences_252 (by decide) (fun c_252 => ?_) (fun c_252 => ?_)
                · replace hf := if_f c_252 hf
                  refine lv_iload_n hx hb dX12_readSequences_313 rfl (lv_at hl 1 rfl) ?_
                  refine lv_aload_n hx hb dX12_readSequences_314 rfl (lv_at hl 0 rfl) ?_
                  refine va_get (D := (dC, dI)) (ci := 10) (v := .int g39) (C := RX12) (T := TX12) (N := 32) hx hb hts inG_X12 hown hK hP 0 rfl rfl 31 (by decide) (hts _ kw_1083) (fun _ h9 => h9) rfl dX12_readSequences_315 ?_
                  refine lv_isub hx hb dX12_readSequences_318 ?_
                  refine lv_iconst (v := 2) hx hb dX12_readSequences_319 (by decide) ?_
                  refine lv_icmp_ge (tgt := 330) hx hb dX12_readSequences_320 (by decide) (fun c_320 => ?_) (fun c_320 => ?_)
                  · replace hf := if_t c_320 hf
                    refine lv_aload_n hx hb dX12_readSequences_330 rfl (lv_at hl 0 rfl) ?_
                    refine lv_aload_n hx hb dX12_readSequences_331 rfl (lv_at hl 0 rfl) ?_
                    refine va_get (D := (dC, dI)) (ci := 10) (v := .int g39) (C := RX12) (T := TX12) (N := 32) hx hb hts inG_X12 hown hK hP 0 rfl rfl 31 (by decide) (hts _ kw_1083) (fun _ h9 => h9) rfl dX12_readSequences_332 ?_
                    refine lv_iconst (v := 2) hx hb dX12_readSequences_335 (by decide) ?_
                    obtain ⟨r41, hc, hf⟩ := bind_some hf
                    refine nx_l (rn_V (As := [.int g39, .int (2 : Int32)]) (rest := []) (n := 2) (ci := 10) (q0 := 0) ⟨hx, hb, hml, hown, hts⟩ (c_Mo_number (l := l) (dC := dC) (dI := dI) (cB := cB) (cI := cI) (h0 := h0) (a1 := g39) (a2 := (2 : Int32)) (h0_in := h0_in) (w_h0_inSize := (w_h0_inSize)) (w_h0_out := (w_h0_out)) (w_h0_outSize := (w_h0_outSize)) (w_h0_dict := (.ref h0_dict)) (w_h0_dictSize := (.int h0_dictSize)) (w_h0_told := (w_h0_told)) (w_h0_fresh := (.ref h0_fresh)) (w_h0_freshSize := (.int g40)) (w_h0_text := (w_h0_text)) (w_h0_lean := (w_h0_lean)) (w_h0_size := (w_h0_size)) (w_h0_most := (w_h0_most)) (w_h0_offset := (w_h0_offset)) (w_h0_copyAt := (w_h0_copyAt)) (w_h0_copies := (w_h0_copies)) (w_h0_copyLength := (w_h0_copyLength)) (w_h0_copyOffset := (w_h0_copyOffset)) (w_h0_fromHere := (w_h0_fromHere)) (w_h0_withCopy := (w_h0_withCopy)) (w_h0_bestCopy := (w_h0_bestCopy)) (w_h0_bestLiterals := (w_h0_bestLiterals)) (w_h0_copiesOf := (.int g25)) (w_h0_literalsOf := (.int p_37)) (w_h0_partsOf := (.int p_36)) (w_h0_blocks := (w_h0_blocks)) (w_h0_blockMany := (w_h0_blockMany)) (w_h0_newBlocks := (w_h0_newBlocks)) (w_h0_newMany := (w_h0_newMany)) (w_h0_rule := (.int h0_rule)) (w_h0_place := (.int h0_place)) (w_h0_at := (.int g39)) (h0_in_n := h0_in_n) (h0_in_f := h0_in_f)  (o_r := r41) hc) (wV kw_1357 kw_1359 kw_73 kw_94 kw_1360) (by decide +kernel) ⟨Nat.le_of_ble_eq_true rfl, Nat.le_of_ble_eq_true rfl⟩ hK hP hD hN hT hS (va_free (wc := [(h0, .inr (10, [.ref h0_in, w_h0_inSize, w_h0_out, w_h0_outSize, .ref h0_dict, .int h0_dictSize, w_h0_told, .ref h0_fresh, .int g40, w_h0_text, w_h0_lean, w_h0_size, w_h0_most, w_h0_offset, w_h0_copyAt, w_h0_copies, w_h0_copyLength, w_h0_copyOffset, w_h0_fromHere, w_h0_withCopy, w_h0_bestCopy, w_h0_bestLiterals, .int g25, .int p_37, .int p_36, w_h0_blocks, w_h0_blockMany, w_h0_newBlocks, w_h0_newMany, .int h0_rule, .int h0_place, .int g39])), (h0_in, .inl (cI, h0_in_n, .inl h0_in_f))]) hD hS hA [0, 1] rfl) [0, 1] rfl (by decide) rfl rfl rfl hl.1 rfl (lv_room (Nat.le_of_ble_eq_true rfl)) dX12_readSequences_336 ⟨Nat.le_of_ble_eq_true rfl, Nat.le_of_ble_eq_true rfl⟩) hP hD hS hA (wr := [(h0_fresh, .inl (cI, h0_fresh_n, .inl f38)), (h0_dict, .inl (cI, h0_dict_n, .inl h0_dict_f))]) (w1 := [(h0, .inr (10, [.ref h0_in, w_h0_inSize, w_h0_out, w_h0_outSize, .ref h0_dict, .int h0_dictSize, w_h0_told, .ref h0_fresh, .int g40, w_h0_text, w_h0_lean, w_h0_size, w_h0_most, w_h0_offset, w_h0_copyAt, w_h0_copies, w_h0_copyLength, w_h0_copyOffset, w_h0_fromHere, w_h0_withCopy, w_h0_bestCopy, w_h0_bestLiterals, .int g25, .int p_37, .int p_36, w_h0_blocks, w_h0_blockMany, w_h0_newBlocks, w_h0_newMany, .int h0_rule, .int h0_place, .int g39])), (h0_in, .inl (cI, h0_in_n, .inl h0_in_f))]) (ws' := [(h0, .inr (10, [.ref h0_in, w_h0_inSize, w_h0_out, w_h0_outSize, .ref h0_dict, .int h0_dictSize, w_h0_told, .ref h0_fresh, .int g40, w_h0_text, w_h0_lean, w_h0_size, w_h0_most, w_h0_offset, w_h0_copyAt, w_h0_copies, w_h0_copyLength, w_h0_copyOffset, w_h0_fromHere, w_h0_withCopy, w_h0_bestCopy, w_h0_bestLiterals, .int g25, .int p_37, .int p_36, w_h0_blocks, w_h0_blockMany, w_h0_newBlocks, w_h0_newMany, .int h0_rule, .int h0_place, .int g39])), (h0_in, .inl (cI, h0_in_n, .inl h0_in_f)), (h0_fresh, .inl (cI, h0_fresh_n, .inl f38)), (h0_dict, .inl (cI, h0_dict_n, .inl h0_dict_f))]) [0, 1] [2, 3] [2, 3, 0, 1] rfl rfl (by decide) (by decide) rfl (by decide) (fun H locs hP hD hS => ?_)
                    refine lv_l2i (v := (r41.toInt32)) hx hb dX12_readSequences_339 rfl ?_
                    refine lv_topi (fun v8_42 e_v8_42 => ?_)
                    replace hf := bnd_at e_v8_42 hf
                    refine lv_istore (lv' := [(8, .int v8_42), (0, .ref h0), (1, .int a1), (2, .int a2), (4, .int j4_30), (5, .int g28), (6, .int j6_35), (7, .int v7_32)]) hx hb dX12_readSequences_340 hl (by decide) rfl (fun ls hl => ?_)
                    refine lv_iload hx hb dX12_readSequences_342 (lv_at hl 0 rfl) ?_
                    refine lv_if_eq (tgt := 363) hx hb dX12_readSequences_344 (by decide) (fun c_344 => ?_) (fun c_344 => ?_)
                    · replace hf := if_t c_344 hf
                      have hf : m_Mo_readSequences_E363 f38 g25 p_37 p_36 g39 g40 = some (o_r, o_h0_freshSize, o_h0_copiesOf, o_h0_literalsOf, o_h0_partsOf, o_h0_rule, o_h0_place, o_h0_at, o_h0_fresh_f) := by have hq := hk_23; rw [iter_exit hf hr_23] at hq; exact hq
                      exact hJ_363 f38 g25 p_37 p_36 g39 g40 _ _ _ hf hP hD hS (lv_sub hl [1] rfl)
                    · replace hf := if_f c_344 hf
                      refine lv_iload hx hb dX12_readSequences_347 (lv_at hl 0 rfl) ?_
                      refine lv_aload_n hx hb dX12_readSequences_349 rfl (lv_at hl 1 rfl) ?_
                      refine va_get (D := (dC, dI)) (ci := 10) (v := .int g40) (C := RX12) (T := TX12) (N := 32) hx hb hts inG_X12 hown hK hP 0 rfl rfl 8 (by decide) (hts _ kw_1060) (fun _ h9 => h9) rfl dX12_readSequences_350 ?_
                      refine lv_iload_n hx hb dX12_readSequences_353 rfl (lv_at hl 3 rfl) ?_
                      refine lv_isub hx hb dX12_readSequences_354 ?_
                      refine lv_aload_n hx hb dX12_readSequences_355 rfl (lv_at hl 1 rfl) ?_
                      refine va_get (D := (dC, dI)) (ci := 10) (v := .int h0_dictSize) (C := RX12) (T := TX12) (N := 32) hx hb hts inG_X12 hown hK hP 0 rfl rfl 5 (by decide) (hts _ kw_1057) (fun _ h9 => h9) rfl dX12_readSequences_356 ?_
                      refine lv_iadd hx hb dX12_readSequences_359 ?_
                      refine lv_icmp_le (tgt := 373) hx hb dX12_readSequences_360 (by decide) (fun c_360 => ?_) (fun c_360 => ?_)
                      · replace hf := if_t c_360 hf
                        refine lv_aload_n hx hb dX12_readSequences_373 rfl (lv_at hl 1 rfl) ?_
                        refine lv_dup hx hb dX12_readSequences_374 rfl ?_
                        refine va_get (D := (dC, dI)) (ci := 10) (v := .int g39) (C := RX12) (T := TX12) (N := 32) hx hb hts inG_X12 hown hK hP 0 rfl rfl 31 (by decide) (hts _ kw_1083) (fun _ h9 => h9) rfl dX12_readSequences_375 ?_
                        refine lv_iconst (v := 2) hx hb dX12_readSequences_378 (by decide) ?_
                        refine lv_iadd hx hb dX12_readSequences_379 ?_
                        refine lv_topi (fun p_43 e_p_43 => ?_)
                        replace hf := bnd_at e_p_43 hf
                        refine va_put (D := (dC, dI)) (ci := 10) (v := .int p_43) (ty := .int) (C := RX12) (T := TX12) (N := 32) hx hb hts inG_X12 tyX12 tyX12_ok nmX12 hown hK hP hD hS 0 rfl rfl 31 (by decide) (hts _ kw_1083) (fun _ h9 => h9) rfl (by decide +kernel) rfl rfl (Nat.le_of_ble_eq_true rfl) dX12_readSequences_380 (fun H locs hP hD hS => ?_)
                        have hP : va_P (dC, dI) vwCl [(h0, .inr (10, [.ref h0_in, w_h0_inSize, w_h0_out, w_h0_outSize, .ref h0_dict, .int h0_dictSize, w_h0_told, .ref h0_fresh, .int g40, w_h0_text, w_h0_lean, w_h0_size, w_h0_most, w_h0_offset, w_h0_copyAt, w_h0_copies, w_h0_copyLength, w_h0_copyOffset, w_h0_fromHere, w_h0_withCopy, w_h0_bestCopy, w_h0_bestLiterals, .int g25, .int p_37, .int p_36, w_h0_blocks, w_h0_blockMany, w_h0_newBlocks, w_h0_newMany, .int h0_rule, .int h0_place, .int p_43])), (h0_in, .inl (cI, h0_in_n, .inl h0_in_f)), (h0_fresh, .inl (cI, h0_fresh_n, .inl f38)), (h0_dict, .inl (cI, h0_dict_n, .inl h0_dict_f))] H := hP
                        have hD : va_D A [(h0, .inr (10, [.ref h0_in, w_h0_inSize, w_h0_out, w_h0_outSize, .ref h0_dict, .int h0_dictSize, w_h0_told, .ref h0_fresh, .int g40, w_h0_text, w_h0_lean, w_h0_size, w_h0_most, w_h0_offset, w_h0_copyAt, w_h0_copies, w_h0_copyLength, w_h0_copyOffset, w_h0_fromHere, w_h0_withCopy, w_h0_bestCopy, w_h0_bestLiterals, .int g25, .int p_37, .int p_36, w_h0_blocks, w_h0_blockMany, w_h0_newBlocks, w_h0_newMany, .int h0_rule, .int h0_place, .int p_43])), (h0_in, .inl (cI, h0_in_n, .inl h0_in_f)), (h0_fresh, .inl (cI, h0_fresh_n, .inl f38)), (h0_dict, .inl (cI, h0_dict_n, .inl h0_dict_f))] := hD
                        refine lv_iload hx hb dX12_readSequences_383 (lv_at hl 7 rfl) ?_
                        refine lv_bipush (v := 15) hx hb dX12_readSequences_385 (by decide) ?_
                        have hJ_449 : ∀ (g44 : Int32) (j7_45 : Int32) (H : Heap) (locs : List Loc) (ls : Array Slot), m_Mo_readSequences_J449 a2 h0_dictSize h0_fresh_n h0_dict_n h0_dict_f g25 g28 p_36 p_37 f38 g40 v8_42 g44 j7_45 = some r_23 → va_P (dC, dI) vwCl [(h0, .inr (10, [.ref h0_in, w_h0_inSize, w_h0_out, w_h0_outSize, .ref h0_dict, .int h0_dictSize, w_h0_told, .ref h0_fresh, .int g40, w_h0_text, w_h0_lean, w_h0_size, w_h0_most, w_h0_offset, w_h0_copyAt, w_h0_copies, w_h0_copyLength, w_h0_copyOffset, w_h0_fromHere, w_h0_withCopy, w_h0_bestCopy, w_h0_bestLiterals, .int g25, .int p_37, .int p_36, w_h0_blocks, w_h0_blockMany, w_h0_newBlocks, w_h0_newMany, .int h0_rule, .int h0_place, .int g44])), (h0_in, .inl (cI, h0_in_n, .inl h0_in_f)), (h0_fresh, .inl (cI, h0_fresh_n, .inl f38)), (h0_dict, .inl (cI, h0_dict_n, .inl h0_dict_f))] H → va_D A [(h0, .inr (10, [.ref h0_in, w_h0_inSize, w_h0_out, w_h0_outSize, .ref h0_dict, .int h0_dictSize, w_h0_told, .ref h0_fresh, .int g40, w_h0_text, w_h0_lean, w_h0_size, w_h0_most, w_h0_offset, w_h0_copyAt, w_h0_copies, w_h0_copyLength, w_h0_copyOffset, w_h0_fromHere, w_h0_withCopy, w_h0_bestCopy, w_h0_bestLiterals, .int g25, .int p_37, .int p_36, w_h0_blocks, w_h0_blockMany, w_h0_newBlocks, w_h0_newMany, .int h0_rule, .int h0_place, .int g44])), (h0_in, .inl (cI, h0_in_n, .inl h0_in_f)), (h0_fresh, .inl (cI, h0_fresh_n, .inl f38)), (h0_dict, .inl (cI, h0_dict_n, .inl h0_dict_f))] → va_S A s.heap H locs → lv_has ls 11 [(0, .ref h0), (1, .int a1), (2, .int a2), (5, .int g28), (7, .int j7_45), (8, .int v8_42)] → W p l e (rm_Mo_readSequences) s m ([.ref h0, .int a1, .int a2] : List Value).toArray below meth c H locs 0 0 Q (F0 m 449 ls []) := by
                          intro g44 j7_45 H locs ls hf hP hD hS hl
                          unfold m_Mo_readSequences_J449 at hf
                          refine lv_aload_n hx hb dX12_readSequences_449 rfl (lv_at hl 0 rfl) ?_
                          refine va_get (D := (dC, dI)) (ci := 10) (v := .int g40) (C := RX12) (T := TX12) (N := 32) hx hb hts inG_X12 hown hK hP 0 rfl rfl 8 (by decide) (hts _ kw_1060) (fun _ h9 => h9) rfl dX12_readSequences_450 ?_
                          refine lv_iload hx hb dX12_readSequences_453 (lv_at hl 4 rfl) ?_
                          refine lv_iadd hx hb dX12_readSequences_455 ?_
                          refine lv_iconst (v := 4) hx hb dX12_readSequences_456 (by decide) ?_
                          refine lv_iadd hx hb dX12_readSequences_457 ?_
                          refine lv_sipush (v := 12000) hx hb dX12_readSequences_458 (by decide) ?_
                          refine lv_icmp_le (tgt := 473) hx hb dX12_readSequences_461 (by decide) (fun c_461 => ?_) (fun c_461 => ?_)
                          · replace hf := if_t c_461 hf
                            refine lv_aload_n hx hb dX12_readSequences_473 rfl (lv_at hl 0 rfl) ?_
                            refine lv_dup hx hb dX12_readSequences_474 rfl ?_
                            refine va_get (D := (dC, dI)) (ci := 10) (v := .int g25) (C := RX12) (T := TX12) (N := 32) hx hb hts inG_X12 hown hK hP 0 rfl rfl 22 (by decide) (hts _ kw_1074) (fun _ h9 => h9) rfl dX12_readSequences_475 ?_
                            refine lv_iconst (v := 1) hx hb dX12_readSequences_478 (by decide) ?_
                            refine lv_iadd hx hb dX12_readSequences_479 ?_
                            refine lv_topi (fun p_46 e_p_46 => ?_)
                            replace hf := bnd_at e_p_46 hf
                            refine va_put (D := (dC, dI)) (ci := 10) (v := .int p_46) (ty := .int) (C := RX12) (T := TX12) (N := 32) hx hb hts inG_X12 tyX12 tyX12_ok nmX12 hown hK hP hD hS 0 rfl rfl 22 (by decide) (hts _ kw_1074) (fun _ h9 => h9) rfl (by decide +kernel) rfl rfl (Nat.le_of_ble_eq_true rfl) dX12_readSequences_480 (fun H locs hP hD hS => ?_)
                            have hP : va_P (dC, dI) vwCl [(h0, .inr (10, [.ref h0_in, w_h0_inSize, w_h0_out, w_h0_outSize, .ref h0_dict, .int h0_dictSize, w_h0_told, .ref h0_fresh, .int g40, w_h0_text, w_h0_lean, w_h0_size, w_h0_most, w_h0_offset, w_h0_copyAt, w_h0_copies, w_h0_copyLength, w_h0_copyOffset, w_h0_fromHere, w_h0_withCopy, w_h0_bestCopy, w_h0_bestLiterals, .int p_46, .int p_37, .int p_36, w_h0_blocks, w_h0_blockMany, w_h0_newBlocks, w_h0_newMany, .int h0_rule, .int h0_place, .int g44])), (h0_in, .inl (cI, h0_in_n, .inl h0_in_f)), (h0_fresh, .inl (cI, h0_fresh_n, .inl f38)), (h0_dict, .inl (cI, h0_dict_n, .inl h0_dict_f))] H := hP
                            have hD : va_D A [(h0, .inr (10, [.ref h0_in, w_h0_inSize, w_h0_out, w_h0_outSize, .ref h0_dict, .int h0_dictSize, w_h0_told, .ref h0_fresh, .int g40, w_h0_text, w_h0_lean, w_h0_size, w_h0_most, w_h0_offset, w_h0_copyAt, w_h0_copies, w_h0_copyLength, w_h0_copyOffset, w_h0_fromHere, w_h0_withCopy, w_h0_bestCopy, w_h0_bestLiterals, .int p_46, .int p_37, .int p_36, w_h0_blocks, w_h0_blockMany, w_h0_newBlocks, w_h0_newMany, .int h0_rule, .int h0_place, .int g44])), (h0_in, .inl (cI, h0_in_n, .inl h0_in_f)), (h0_fresh, .inl (cI, h0_fresh_n, .inl f38)), (h0_dict, .inl (cI, h0_dict_n, .inl h0_dict_f))] := hD
                            refine lv_aload_n hx hb dX12_readSequences_483 rfl (lv_at hl 0 rfl) ?_
                            refine va_get (D := (dC, dI)) (ci := 10) (v := .int g40) (C := RX12) (T := TX12) (N := 32) hx hb hts inG_X12 hown hK hP 0 rfl rfl 8 (by decide) (hts _ kw_1060) (fun _ h9 => h9) rfl dX12_readSequences_484 ?_
                            refine lv_istore (lv' := [(4, .int g40), (0, .ref h0), (1, .int a1), (2, .int a2), (5, .int g28), (7, .int j7_45), (8, .int v8_42)]) hx hb dX12_readSequences_487 hl (by decide) rfl (fun ls hl => ?_)
                            refine lv_iconst (v := 0) hx hb dX12_readSequences_489 (by decide) ?_
                            refine lv_istore (lv' := [(9, .int (0 : Int32)), (4, .int g40), (0, .ref h0), (1, .int a1), (2, .int a2), (5, .int g28), (7, .int j7_45), (8, .int v8_42)]) hx hb dX12_readSequences_490 hl (by decide) rfl (fun ls hl => ?_)
                            have hJ_550 : ∀ (f47 : Nat → Int32) (g48 : Int32) (H : Heap) (locs : List Loc) (ls : Array Slot), m_Mo_readSequences_E550 p_36 p_37 g40 g44 p_46 f47 g48 = some r_23 → va_P (dC, dI) vwCl [(h0, .inr (10, [.ref h0_in, w_h0_inSize, w_h0_out, w_h0_outSize, .ref h0_dict, .int h0_dictSize, w_h0_told, .ref h0_fresh, .int g48, w_h0_text, w_h0_lean, w_h0_size, w_h0_most, w_h0_offset, w_h0_copyAt, w_h0_copies, w_h0_copyLength, w_h0_copyOffset, w_h0_fromHere, w_h0_withCopy, w_h0_bestCopy, w_h0_bestLiterals, .int p_46, .int p_37, .int p_36, w_h0_blocks, w_h0_blockMany, w_h0_newBlocks, w_h0_newMany, .int h0_rule, .int h0_place, .int g44])), (h0_in, .inl (cI, h0_in_n, .inl h0_in_f)), (h0_fresh, .inl (cI, h0_fresh_n, .inl f47)), (h0_dict, .inl (cI, h0_dict_n, .inl h0_dict_f))] H → va_D A [(h0, .inr (10, [.ref h0_in, w_h0_inSize, w_h0_out, w_h0_outSize, .ref h0_dict, .int h0_dictSize, w_h0_told, .ref h0_fresh, .int g48, w_h0_text, w_h0_lean, w_h0_size, w_h0_most, w_h0_offset, w_h0_copyAt, w_h0_copies, w_h0_copyLength, w_h0_copyOffset, w_h0_fromHere, w_h0_withCopy, w_h0_bestCopy, w_h0_bestLiterals, .int p_46, .int p_37, .int p_36, w_h0_blocks, w_h0_blockMany, w_h0_newBlocks, w_h0_newMany, .int h0_rule, .int h0_place, .int g44])), (h0_in, .inl (cI, h0_in_n, .inl h0_in_f)), (h0_fresh, .inl (cI, h0_fresh_n, .inl f47)), (h0_dict, .inl (cI, h0_dict_n, .inl h0_dict_f))] → va_S A s.heap H locs → lv_has ls 11 [(0, .ref h0), (1, .int a1), (2, .int a2), (4, .int g40)] → W p l e (rm_Mo_readSequences) s m ([.ref h0, .int a1, .int a2] : List Value).toArray below meth c H locs 0 0 Q (F0 m 550 ls []) := by
                              intro f47 g48 H locs ls hf hP hD hS hl
                              unfold m_Mo_readSequences_E550 at hf
                              refine lv_goto (tgt := 23) hx hb dX12_readSequences_550 (by decide) ?_
                              exact ih_23 f47 p_46 p_37 p_36 g44 g48 g40 _ _ _ (iter_back hf hr_23) hP hD hS (lv_sub hl [0, 1, 2, 3] rfl)
                            obtain ⟨o_492, hi_492, hk_492⟩ := bind_some hf
                            have hL_492 : ∀ (n : Nat) (f49 : Nat → Int32) (g50 : Int32) (j9_51 : Int32) (H : Heap) (locs : List Loc) (ls : Array Slot), iter (fun st => m_Mo_readSequences_B492 a2 h0_dictSize h0_fresh_n h0_dict_n h0_dict_f v8_42 j7_45 st.1 st.2.1 st.2.2) n (f49, g50, j9_51) = some o_492 → va_P (dC, dI) vwCl [(h0, .inr (10, [.ref h0_in, w_h0_inSize, w_h0_out, w_h0_outSize, .ref h0_dict, .int h0_dictSize, w_h0_told, .ref h0_fresh, .int g50, w_h0_text, w_h0_lean, w_h0_size, w_h0_most, w_h0_offset, w_h0_copyAt, w_h0_copies, w_h0_copyLength, w_h0_copyOffset, w_h0_fromHere, w_h0_withCopy, w_h0_bestCopy, w_h0_bestLiterals, .int p_46, .int p_37, .int p_36, w_h0_blocks, w_h0_blockMany, w_h0_newBlocks, w_h0_newMany, .int h0_rule, .int h0_place, .int g44])), (h0_in, .inl (cI, h0_in_n, .inl h0_in_f)), (h0_fresh, .inl (cI, h0_fresh_n, .inl f49)), (h0_dict, .inl (cI, h0_dict_n, .inl h0_dict_f))] H → va_D A [(h0, .inr (10, [.ref h0_in, w_h0_inSize, w_h0_out, w_h0_outSize, .ref h0_dict, .int h0_dictSize, w_h0_told, .ref h0_fresh, .int g50, w_h0_text, w_h0_lean, w_h0_size, w_h0_most, w_h0_offset, w_h0_copyAt, w_h0_copies, w_h0_copyLength, w_h0_copyOffset, w_h0_fromHere, w_h0_withCopy, w_h0_bestCopy, w_h0_bestLiterals, .int p_46, .int p_37, .int p_36, w_h0_blocks, w_h0_blockMany, w_h0_newBlocks, w_h0_newMany, .int h0_rule, .int h0_place, .int g44])), (h0_in, .inl (cI, h0_in_n, .inl h0_in_f)), (h0_fresh, .inl (cI, h0_fresh_n, .inl f49)), (h0_dict, .inl (cI, h0_dict_n, .inl h0_dict_f))] → va_S A s.heap H locs → lv_has ls 11 [(0, .ref h0), (1, .int a1), (2, .int a2), (4, .int g40), (7, .int j7_45), (8, .int v8_42), (9, .int j9_51)] → W p l e (rm_Mo_readSequences) s m ([.ref h0, .int a1, .int a2] : List Value).toArray below meth c H locs 0 0 Q (F0 m 492 ls []) := by
                              intro n
                              induction n with
                              | zero => intro f49 g50 j9_51 H locs ls hf; exact absurd hf (fun z => by cases z)
                              | succ n ih_492 =>
                                intro f49 g50 j9_51 H locs ls hf hP hD hS hl
                                obtain ⟨r_492, hf, hr_492⟩ := iter_succ hf
                                have hf : m_Mo_readSequences_B492 a2 h0_dictSize h0_fresh_n h0_dict_n h0_dict_f v8_42 j7_45 f49 g50 j9_51 = some r_492 := hf
                                unfold m_Mo_readSequences_B492 at hf
                                refine lv_iload hx hb dX12_readSequences_492 (lv_at hl 6 rfl) ?_
                                refine lv_iload hx hb dX12_readSequences_494 (lv_at hl 4 rfl) ?_
                                refine lv_iconst (v := 4) hx hb dX12_readSequences_496 (by decide) ?_
                                refine lv_iadd hx hb dX12_readSequences_497 ?_
                                refine lv_icmp_ge (tgt := 550) hx hb dX12_readSequences_498 (by decide) (fun c_498 => ?_) (fun c_498 => ?_)
                                · replace hf := if_t c_498 hf
                                  have hf : m_Mo_readSequences_E550 p_36 p_37 g40 g44 p_46 f49 g50 = some r_23 := by have hq := hk_492; rw [iter_exit hf hr_492] at hq; exact hq
                                  exact hJ_550 f49 g50 _ _ _ hf hP hD hS (lv_sub hl [0, 1, 2, 3] rfl)
                                · replace hf := if_f c_498 hf
                                  refine lv_aload_n hx hb dX12_readSequences_501 rfl (lv_at hl 0 rfl) ?_
                                  refine va_get (D := (dC, dI)) (ci := 10) (v := .int g50) (C := RX12) (T := TX12) (N := 32) hx hb hts inG_X12 hown hK hP 0 rfl rfl 8 (by decide) (hts _ kw_1060) (fun _ h9 => h9) rfl dX12_readSequences_502 ?_
                                  refine lv_iload hx hb dX12_readSequences_505 (lv_at hl 5 rfl) ?_
                                  refine lv_isub hx hb dX12_readSequences_507 ?_
                                  refine lv_topi (fun v10_52 e_v10_52 => ?_)
                                  replace hf := bnd_at e_v10_52 hf
                                  refine lv_istore (lv' := [(10, .int v10_52), (0, .ref h0), (1, .int a1), (2, .int a2), (4, .int g40), (7, .int j7_45), (8, .int v8_42), (9, .int j9_51)]) hx hb dX12_readSequences_508 hl (by decide) rfl (fun ls hl => ?_)
                                  refine lv_aload_n hx hb dX12_readSequences_510 rfl (lv_at hl 1 rfl) ?_
                                  refine lv_iload hx hb dX12_readSequences_511 (lv_at hl 0 rfl) ?_
                                  refine lv_iload_n hx hb dX12_readSequences_513 rfl (lv_at hl 3 rfl) ?_
                                  have hJ_541 : ∀ (s53 : Int32) (H : Heap) (locs : List Loc) (ls : Array Slot), m_Mo_readSequences_J541 h0_fresh_n f49 g50 j9_51 s53 = some r_492 → va_P (dC, dI) vwCl [(h0, .inr (10, [.ref h0_in, w_h0_inSize, w_h0_out, w_h0_outSize, .ref h0_dict, .int h0_dictSize, w_h0_told, .ref h0_fresh, .int g50, w_h0_text, w_h0_lean, w_h0_size, w_h0_most, w_h0_offset, w_h0_copyAt, w_h0_copies, w_h0_copyLength, w_h0_copyOffset, w_h0_fromHere, w_h0_withCopy, w_h0_bestCopy, w_h0_bestLiterals, .int p_46, .int p_37, .int p_36, w_h0_blocks, w_h0_blockMany, w_h0_newBlocks, w_h0_newMany, .int h0_rule, .int h0_place, .int g44])), (h0_in, .inl (cI, h0_in_n, .inl h0_in_f)), (h0_fresh, .inl (cI, h0_fresh_n, .inl f49)), (h0_dict, .inl (cI, h0_dict_n, .inl h0_dict_f))] H → va_D A [(h0, .inr (10, [.ref h0_in, w_h0_inSize, w_h0_out, w_h0_outSize, .ref h0_dict, .int h0_dictSize, w_h0_told, .ref h0_fresh, .int g50, w_h0_text, w_h0_lean, w_h0_size, w_h0_most, w_h0_offset, w_h0_copyAt, w_h0_copies, w_h0_copyLength, w_h0_copyOffset, w_h0_fromHere, w_h0_withCopy, w_h0_bestCopy, w_h0_bestLiterals, .int p_46, .int p_37, .int p_36, w_h0_blocks, w_h0_blockMany, w_h0_newBlocks, w_h0_newMany, .int h0_rule, .int h0_place, .int g44])), (h0_in, .inl (cI, h0_in_n, .inl h0_in_f)), (h0_fresh, .inl (cI, h0_fresh_n, .inl f49)), (h0_dict, .inl (cI, h0_dict_n, .inl h0_dict_f))] → va_S A s.heap H locs → lv_has ls 11 [(0, .ref h0), (1, .int a1), (2, .int a2), (4, .int g40), (7, .int j7_45), (8, .int v8_42), (9, .int j9_51)] → W p l e (rm_Mo_readSequences) s m ([.ref h0, .int a1, .int a2] : List Value).toArray below meth c H locs 0 0 Q (F0 m 541 ls [.int s53, .ref h0]) := by
                                    intro s53 H locs ls hf hP hD hS hl
                                    unfold m_Mo_readSequences_J541 at hf
                                    obtain ⟨x, hc, hf⟩ := bind_some hf
                                    obtain ⟨u54, u55⟩ := x
                                    dsimp only at hf
                                    refine nx_v (rn_V (As := [.int s53]) (rest := []) (n := 1) (ci := 10) (q0 := 0) ⟨hx, hb, hml, hown, hts⟩ (c_Mo_put (l := l) (dC := dC) (dI := dI) (cB := cB) (cI := cI) (h0 := h0) (a1 := s53) (h0_fresh := h0_fresh) (w_h0_in := (.ref h0_in)) (w_h0_inSize := (w_h0_inSize)) (w_h0_out := (w_h0_out)) (w_h0_outSize := (w_h0_outSize)) (w_h0_dict := (.ref h0_dict)) (w_h0_dictSize := (.int h0_dictSize)) (w_h0_told := (w_h0_told)) (h0_freshSize := g50) (w_h0_text := (w_h0_text)) (w_h0_lean := (w_h0_lean)) (w_h0_size := (w_h0_size)) (w_h0_most := (w_h0_most)) (w_h0_offset := (w_h0_offset)) (w_h0_copyAt := (w_h0_copyAt)) (w_h0_copies := (w_h0_copies)) (w_h0_copyLength := (w_h0_copyLength)) (w_h0_copyOffset := (w_h0_copyOffset)) (w_h0_fromHere := (w_h0_fromHere)) (w_h0_withCopy := (w_h0_withCopy)) (w_h0_bestCopy := (w_h0_bestCopy)) (w_h0_bestLiterals := (w_h0_bestLiterals)) (w_h0_copiesOf := (.int p_46)) (w_h0_literalsOf := (.int p_37)) (w_h0_partsOf := (.int p_36)) (w_h0_blocks := (w_h0_blocks)) (w_h0_blockMany := (w_h0_blockMany)) (w_h0_newBlocks := (w_h0_newBlocks)) (w_h0_newMany := (w_h0_newMany)) (w_h0_rule := (.int h0_rule)) (w_h0_place := (.int h0_place)) (w_h0_at := (.int g44)) (h0_fresh_n := h0_fresh_n) (h0_fresh_f := f49) (o_h0_freshSize := u54) (o_h0_fresh_f := u55) hc) (wV kw_1205 kw_1207 kw_51 kw_94 kw_1208) (by decide +kernel) ⟨Nat.le_of_ble_eq_true rfl, Nat.le_of_ble_eq_true rfl⟩ hK hP hD hN hT hS (va_free (wc := [(h0, .inr (10, [.ref h0_in, w_h0_inSize, w_h0_out, w_h0_outSize, .ref h0_dict, .int h0_dictSize, w_h0_told, .ref h0_fresh, .int g50, w_h0_text, w_h0_lean, w_h0_size, w_h0_most, w_h0_offset, w_h0_copyAt, w_h0_copies, w_h0_copyLength, w_h0_copyOffset, w_h0_fromHere, w_h0_withCopy, w_h0_bestCopy, w_h0_bestLiterals, .int p_46, .int p_37, .int p_36, w_h0_blocks, w_h0_blockMany, w_h0_newBlocks, w_h0_newMany, .int h0_rule, .int h0_place, .int g44])), (h0_fresh, .inl (cI, h0_fresh_n, .inl f49))]) hD hS hA [0, 2] rfl) [0, 2] rfl (by decide) rfl rfl rfl hl.1 rfl (lv_room (Nat.le_of_ble_eq_true rfl)) dX12_readSequences_541 ⟨Nat.le_of_ble_eq_true rfl, Nat.le_of_ble_eq_true rfl⟩) hP hD hS hA (wr := [(h0_in, .inl (cI, h0_in_n, .inl h0_in_f)), (h0_dict, .inl (cI, h0_dict_n, .inl h0_dict_f))]) (w1 := [(h0, .inr (10, [.ref h0_in, w_h0_inSize, w_h0_out, w_h0_outSize, .ref h0_dict, .int h0_dictSize, w_h0_told, .ref h0_fresh, .int u54, w_h0_text, w_h0_lean, w_h0_size, w_h0_most, w_h0_offset, w_h0_copyAt, w_h0_copies, w_h0_copyLength, w_h0_copyOffset, w_h0_fromHere, w_h0_withCopy, w_h0_bestCopy, w_h0_bestLiterals, .int p_46, .int p_37, .int p_36, w_h0_blocks, w_h0_blockMany, w_h0_newBlocks, w_h0_newMany, .int h0_rule, .int h0_place, .int g44])), (h0_fresh, .inl (cI, h0_fresh_n, .inl u55))]) (ws' := [(h0, .inr (10, [.ref h0_in, w_h0_inSize, w_h0_out, w_h0_outSize, .ref h0_dict, .int h0_dictSize, w_h0_told, .ref h0_fresh, .int u54, w_h0_text, w_h0_lean, w_h0_size, w_h0_most, w_h0_offset, w_h0_copyAt, w_h0_copies, w_h0_copyLength, w_h0_copyOffset, w_h0_fromHere, w_h0_withCopy, w_h0_bestCopy, w_h0_bestLiterals, .int p_46, .int p_37, .int p_36, w_h0_blocks, w_h0_blockMany, w_h0_newBlocks, w_h0_newMany, .int h0_rule, .int h0_place, .int g44])), (h0_in, .inl (cI, h0_in_n, .inl h0_in_f)), (h0_fresh, .inl (cI, h0_fresh_n, .inl u55)), (h0_dict, .inl (cI, h0_dict_n, .inl h0_dict_f))]) [0, 2] [1, 3] [2, 0, 3, 1] rfl rfl (by decide) (by decide) rfl (by decide) (fun H locs hP hD hS => ?_)
                                    obtain ⟨v9_56, e_v9_56⟩ : ∃ y : Int32, y = (j9_51 + (1 : Int32)) := ⟨_, rfl⟩
                                    replace hf := bnd_at e_v9_56 hf
                                    refine lv_iinc (v := v9_56) (lv' := [(9, .int v9_56), (0, .ref h0), (1, .int a1), (2, .int a2), (4, .int g40), (7, .int j7_45), (8, .int v8_42)]) hx hb dX12_readSequences_544 hl (k := 6) rfl (by rw [e_v9_56]; rfl) (by decide) rfl (fun ls hl => ?_)
                                    refine lv_goto (tgt := 492) hx hb dX12_readSequences_547 (by decide) ?_
                                    exact ih_492 u55 u54 v9_56 _ _ _ (iter_back hf hr_492) hP hD hS (lv_sub hl [1, 2, 3, 4, 5, 6, 0] rfl)
                                  refine lv_icmp_lt (tgt := 527) hx hb dX12_readSequences_514 (by decide) (fun c_514 => ?_) (fun c_514 => ?_)
                                  · replace hf := if_t c_514 hf
                                    refine lv_aload_n hx hb dX12_readSequences_527 rfl (lv_at hl 1 rfl) ?_
                                    refine va_get (D := (dC, dI)) (ci := 10) (v := .ref h0_dict) (C := RX12) (T := TX12) (N := 32) hx hb hts inG_X12 hown hK hP 0 rfl rfl 4 (by decide) (hts _ kw_1056) (fun _ h9 => h9) rfl dX12_readSequences_528 ?_
                                    refine lv_aload_n hx hb dX12_readSequences_531 rfl (lv_at hl 1 rfl) ?_
                                    refine va_get (D := (dC, dI)) (ci := 10) (v := .int h0_dictSize) (C := RX12) (T := TX12) (N := 32) hx hb hts inG_X12 hown hK hP 0 rfl rfl 5 (by decide) (hts _ kw_1057) (fun _ h9 => h9) rfl dX12_readSequences_532 ?_
                                    refine lv_iload_n hx hb dX12_readSequences_535 rfl (lv_at hl 3 rfl) ?_
                                    refine lv_iload hx hb dX12_readSequences_536 (lv_at hl 0 rfl) ?_
                                    refine lv_isub hx hb dX12_readSequences_538 ?_
                                    refine lv_isub hx hb dX12_readSequences_539 ?_
                                    obtain ⟨hin, hf⟩ := chk_some hf
                                    refine va_iald hx hb hK hP 3 1 rfl rfl hin dX12_readSequences_540 ?_
                                    exact hJ_541 (h0_dict_f (h0_dictSize - (a2 - v10_52)).toNatClampNeg) _ _ _ hf hP hD hS (lv_sub hl [1, 2, 3, 4, 5, 6, 7] rfl)
                                  · replace hf := if_f c_514 hf
                                    refine lv_aload_n hx hb dX12_readSequences_517 rfl (lv_at hl 1 rfl) ?_
                                    refine va_get (D := (dC, dI)) (ci := 10) (v := .ref h0_fresh) (C := RX12) (T := TX12) (N := 32) hx hb hts inG_X12 hown hK hP 0 rfl rfl 7 (by decide) (hts _ kw_1059) (fun _ h9 => h9) rfl dX12_readSequences_518 ?_
                                    refine lv_iload hx hb dX12_readSequences_521 (lv_at hl 0 rfl) ?_
                                    obtain ⟨hin, hf⟩ := chk_some hf
                                    refine va_iald hx hb hK hP 2 1 rfl rfl hin dX12_readSequences_523 ?_
                                    refine lv_goto (tgt := 541) hx hb dX12_readSequences_524 (by decide) ?_
                                    exact hJ_541 (f49 v10_52.toNatClampNeg) _ _ _ hf hP hD hS (lv_sub hl [1, 2, 3, 4, 5, 6, 7] rfl)
                            exact hL_492 FU f38 g40 (0 : Int32) _ _ _ hi_492 hP hD hS (lv_sub hl [2, 3, 4, 1, 6, 7, 0] rfl)
                          · replace hf := if_f c_461 hf
                            refine lv_aload_n hx hb dX12_readSequences_464 rfl (lv_at hl 0 rfl) ?_
                            refine lv_bipush (v := 12) hx hb dX12_readSequences_465 (by decide) ?_
                            refine lv_iload hx hb dX12_readSequences_467 (lv_at hl 3 rfl) ?_
                            obtain ⟨x, hc, hf⟩ := bind_some hf
                            obtain ⟨r57, u58, u59⟩ := x
                            dsimp only at hf
                            refine nx_i (rn_V (As := [.int (12 : Int32), .int g28]) (rest := []) (n := 2) (ci := 10) (q0 := 0) ⟨hx, hb, hml, hown, hts⟩ (c_Mo_no (l := l) (dC := dC) (dI := dI) (cB := cB) (cI := cI) (h0 := h0) (a1 := (12 : Int32)) (a2 := g28) (w_h0_in := (.ref h0_in)) (w_h0_inSize := (w_h0_inSize)) (w_h0_out := (w_h0_out)) (w_h0_outSize := (w_h0_outSize)) (w_h0_dict := (.ref h0_dict)) (w_h0_dictSize := (.int h0_dictSize)) (w_h0_told := (w_h0_told)) (w_h0_fresh := (.ref h0_fresh)) (w_h0_freshSize := (.int g40)) (w_h0_text := (w_h0_text)) (w_h0_lean := (w_h0_lean)) (w_h0_size := (w_h0_size)) (w_h0_most := (w_h0_most)) (w_h0_offset := (w_h0_offset)) (w_h0_copyAt := (w_h0_copyAt)) (w_h0_copies := (w_h0_copies)) (w_h0_copyLength := (w_h0_copyLength)) (w_h0_copyOffset := (w_h0_copyOffset)) (w_h0_fromHere := (w_h0_fromHere)) (w_h0_withCopy := (w_h0_withCopy)) (w_h0_bestCopy := (w_h0_bestCopy)) (w_h0_bestLiterals := (w_h0_bestLiterals)) (w_h0_copiesOf := (.int g25)) (w_h0_literalsOf := (.int p_37)) (w_h0_partsOf := (.int p_36)) (w_h0_blocks := (w_h0_blocks)) (w_h0_blockMany := (w_h0_blockMany)) (w_h0_newBlocks := (w_h0_newBlocks)) (w_h0_newMany := (w_h0_newMany)) (h0_rule := h0_rule) (h0_place := h0_place) (w_h0_at := (.int g44)) (o_h0_rule := u58) (o_h0_place := u59) (o_r := r57) hc) (wV kw_1353 kw_1355 kw_72 kw_94 kw_1356) (by decide +kernel) ⟨Nat.le_of_ble_eq_true rfl, Nat.le_of_ble_eq_true rfl⟩ hK hP hD hN hT hS (va_free (wc := [(h0, .inr (10, [.ref h0_in, w_h0_inSize, w_h0_out, w_h0_outSize, .ref h0_dict, .int h0_dictSize, w_h0_told, .ref h0_fresh, .int g40, w_h0_text, w_h0_lean, w_h0_size, w_h0_most, w_h0_offset, w_h0_copyAt, w_h0_copies, w_h0_copyLength, w_h0_copyOffset, w_h0_fromHere, w_h0_withCopy, w_h0_bestCopy, w_h0_bestLiterals, .int g25, .int p_37, .int p_36, w_h0_blocks, w_h0_blockMany, w_h0_newBlocks, w_h0_newMany, .int h0_rule, .int h0_place, .int g44]))]) hD hS hA [0] rfl) [0] rfl (by decide) rfl rfl rfl hl.1 rfl (lv_room (Nat.le_of_ble_eq_true rfl)) dX12_readSequences_469 ⟨Nat.le_of_ble_eq_true rfl, Nat.le_of_ble_eq_true rfl⟩) hP hD hS hA (wr := [(h0_in, .inl (cI, h0_in_n, .inl h0_in_f)), (h0_fresh, .inl (cI, h0_fresh_n, .inl f38)), (h0_dict, .inl (cI, h0_dict_n, .inl h0_dict_f))]) (w1 := [(h0, .inr (10, [.ref h0_in, w_h0_inSize, w_h0_out, w_h0_outSize, .ref h0_dict, .int h0_dictSize, w_h0_told, .ref h0_fresh, .int g40, w_h0_text, w_h0_lean, w_h0_size, w_h0_most, w_h0_offset, w_h0_copyAt, w_h0_copies, w_h0_copyLength, w_h0_copyOffset, w_h0_fromHere, w_h0_withCopy, w_h0_bestCopy, w_h0_bestLiterals, .int g25, .int p_37, .int p_36, w_h0_blocks, w_h0_blockMany, w_h0_newBlocks, w_h0_newMany, .int u58, .int u59, .int g44]))]) (ws' := [(h0, .inr (10, [.ref h0_in, w_h0_inSize, w_h0_out, w_h0_outSize, .ref h0_dict, .int h0_dictSize, w_h0_told, .ref h0_fresh, .int g40, w_h0_text, w_h0_lean, w_h0_size, w_h0_most, w_h0_offset, w_h0_copyAt, w_h0_copies, w_h0_copyLength, w_h0_copyOffset, w_h0_fromHere, w_h0_withCopy, w_h0_bestCopy, w_h0_bestLiterals, .int g25, .int p_37, .int p_36, w_h0_blocks, w_h0_blockMany, w_h0_newBlocks, w_h0_newMany, .int u58, .int u59, .int g44])), (h0_in, .inl (cI, h0_in_n, .inl h0_in_f)), (h0_fresh, .inl (cI, h0_fresh_n, .inl f38)), (h0_dict, .inl (cI, h0_dict_n, .inl h0_dict_f))]) [0] [1, 2, 3] [3, 0, 1, 2] rfl rfl (by decide) (by decide) rfl (by decide) (fun H locs hP hD hS => ?_)
                            obtain ⟨hzb, hf⟩ := bch_some hf
                            replace hf : some (r57, g40, g25, p_37, p_36, u58, u59, g44, f38) = some (o_r, o_h0_freshSize, o_h0_copiesOf, o_h0_literalsOf, o_h0_partsOf, o_h0_rule, o_h0_place, o_h0_at, o_h0_fresh_f) := by have hq := hk_23; rw [iter_exit hf hr_23] at hq; exact hq
                            obtain ⟨rfl, hq_1⟩ := Prod.mk.inj (Option.some.inj hf)
                            obtain ⟨rfl, hq_2⟩ := Prod.mk.inj hq_1
                            obtain ⟨rfl, hq_3⟩ := Prod.mk.inj hq_2
                            obtain ⟨rfl, hq_4⟩ := Prod.mk.inj hq_3
                            obtain ⟨rfl, hq_5⟩ := Prod.mk.inj hq_4
                            obtain ⟨rfl, hq_6⟩ := Prod.mk.inj hq_5
                            obtain ⟨rfl, hq_7⟩ := Prod.mk.inj hq_6
                            obtain ⟨rfl, hq_8⟩ := Prod.mk.inj hq_7
                            obtain rfl := hq_8
                            exact rt_z hQ hx hb hr hzb hlocks hP hD hS dX12_readSequences_472
                        refine lv_icmp_ne (tgt := 449) hx hb dX12_readSequences_387 (by decide) (fun c_387 => ?_) (fun c_387 => ?_)
                        · replace hf := if_f c_387 hf
                          exact hJ_449 p_43 v7_32 _ _ _ hf hP hD hS (lv_sub hl [1, 2, 3, 5, 7, 0] rfl)
                        · replace hf := if_t c_387 hf
                          refine lv_sipush (v := 255) hx hb dX12_readSequences_390 (by decide) ?_
                          refine lv_istore (lv' := [(9, .int (255 : Int32)), (8, .int v8_42), (0, .ref h0), (1, .int a1), (2, .int a2), (4, .int j4_30), (5, .int g28), (6, .int j6_35), (7, .int v7_32)]) hx hb dX12_readSequences_393 hl (by decide) rfl (fun ls hl => ?_)
                          obtain ⟨o_395, hi_395, hk_395⟩ := bind_some hf
                          have hL_395 : ∀ (n : Nat) (g60 : Int32) (j7_61 : Int32) (j9_62 : Int32) (H : Heap) (locs : List Loc) (ls : Array Slot), iter (fun st => m_Mo_readSequences_B395 a1 h0_in_n h0_in_f g25 p_36 p_37 f38 g40 st.1 st.2.1 st.2.2) n (g60, j7_61, j9_62) = some o_395 → va_P (dC, dI) vwCl [(h0, .inr (10, [.ref h0_in, w_h0_inSize, w_h0_out, w_h0_outSize, .ref h0_dict, .int h0_dictSize, w_h0_told, .ref h0_fresh, .int g40, w_h0_text, w_h0_lean, w_h0_size, w_h0_most, w_h0_offset, w_h0_copyAt, w_h0_copies, w_h0_copyLength, w_h0_copyOffset, w_h0_fromHere, w_h0_withCopy, w_h0_bestCopy, w_h0_bestLiterals, .int g25, .int p_37, .int p_36, w_h0_blocks, w_h0_blockMany, w_h0_newBlocks, w_h0_newMany, .int h0_rule, .int h0_place, .int g60])), (h0_in, .inl (cI, h0_in_n, .inl h0_in_f)), (h0_fresh, .inl (cI, h0_fresh_n, .inl f38)), (h0_dict, .inl (cI, h0_dict_n, .inl h0_dict_f))] H → va_D A [(h0, .inr (10, [.ref h0_in, w_h0_inSize, w_h0_out, w_h0_outSize, .ref h0_dict, .int h0_dictSize, w_h0_told, .ref h0_fresh, .int g40, w_h0_text, w_h0_lean, w_h0_size, w_h0_most, w_h0_offset, w_h0_copyAt, w_h0_copies, w_h0_copyLength, w_h0_copyOffset, w_h0_fromHere, w_h0_withCopy, w_h0_bestCopy, w_h0_bestLiterals, .int g25, .int p_37, .int p_36, w_h0_blocks, w_h0_blockMany, w_h0_newBlocks, w_h0_newMany, .int h0_rule, .int h0_place, .int g60])), (h0_in, .inl (cI, h0_in_n, .inl h0_in_f)), (h0_fresh, .inl (cI, h0_fresh_n, .inl f38)), (h0_dict, .inl (cI, h0_dict_n, .inl h0_dict_f))] → va_S A s.heap H locs → lv_has ls 11 [(0, .ref h0), (1, .int a1), (2, .int a2), (5, .int g28), (7, .int j7_61), (8, .int v8_42), (9, .int j9_62)] → W p l e (rm_Mo_readSequences) s m ([.ref h0, .int a1, .int a2] : List Value).toArray below meth c H locs 0 0 Q (F0 m 395 ls []) := by
                            intro n
                            induction n with
                            | zero => intro g60 j7_61 j9_62 H locs ls hf; exact absurd hf (fun z => by cases z)
                            | succ n ih_395 =>
                              intro g60 j7_61 j9_62 H locs ls hf hP hD hS hl
                              obtain ⟨r_395, hf, hr_395⟩ := iter_succ hf
                              have hf : m_Mo_readSequences_B395 a1 h0_in_n h0_in_f g25 p_36 p_37 f38 g40 g60 j7_61 j9_62 = some r_395 := hf
                              unfold m_Mo_readSequences_B395 at hf
                              refine lv_iload hx hb dX12_readSequences_395 (lv_at hl 6 rfl) ?_
                              refine lv_sipush (v := 255) hx hb dX12_readSequences_397 (by decide) ?_
                              refine lv_icmp_ne (tgt := 449) hx hb dX12_readSequences_400 (by decide) (fun c_400 => ?_) (fun c_400 => ?_)
                              · replace hf := if_f c_400 hf
                                have hf : m_Mo_readSequences_J449 a2 h0_dictSize h0_fresh_n h0_dict_n h0_dict_f g25 g28 p_36 p_37 f38 g40 v8_42 g60 j7_61 = some r_23 := by have hq := hk_395; rw [iter_exit hf hr_395] at hq; exact hq
                                exact hJ_449 g60 j7_61 _ _ _ hf hP hD hS (lv_sub hl [0, 1, 2, 3, 4, 5] rfl)
                              · replace hf := if_t c_400 hf
                                refine lv_aload_n hx hb dX12_readSequences_403 rfl (lv_at hl 0 rfl) ?_
                                refine va_get (D := (dC, dI)) (ci := 10) (v := .int g60) (C := RX12) (T := TX12) (N := 32) hx hb hts inG_X12 hown hK hP 0 rfl rfl 31 (by decide) (hts _ kw_1083) (fun _ h9 => h9) rfl dX12_readSequences_404 ?_
                                refine lv_iload_n hx hb dX12_readSequences_407 rfl (lv_at hl 1 rfl) ?_
                                refine lv_icmp_lt (tgt := 418) hx hb dX12_readSequences_408 (by decide) (fun c_408 => ?_) (fun c_408 => ?_)
                                · replace hf := if_t c_408 hf
                                  refine lv_aload_n hx hb dX12_readSequences_418 rfl (lv_at hl 0 rfl) ?_
                                  refine va_get (D := (dC, dI)) (ci := 10) (v := .ref h0_in) (C := RX12) (T := TX12) (N := 32) hx hb hts inG_X12 hown hK hP 0 rfl rfl 0 (by decide) (hts _ kw_1052) (fun _ h9 => h9) rfl dX12_readSequences_419 ?_
                                  refine lv_aload_n hx hb dX12_readSequences_422 rfl (lv_at hl 0 rfl) ?_
                                  refine va_get (D := (dC, dI)) (ci := 10) (v := .int g60) (C := RX12) (T := TX12) (N := 32) hx hb hts inG_X12 hown hK hP 0 rfl rfl 31 (by decide) (hts _ kw_1083) (fun _ h9 => h9) rfl dX12_readSequences_423 ?_
                                  obtain ⟨hin, hf⟩ := chk_some hf
                                  refine va_iald hx hb hK hP 1 1 rfl rfl hin dX12_readSequences_426 ?_
                                  refine lv_topi (fun v9_63 e_v9_63 => ?_)
                                  replace hf := bnd_at e_v9_63 hf
                                  refine lv_istore (lv' := [(9, .int v9_63), (0, .ref h0), (1, .int a1), (2, .int a2), (5, .int g28), (7, .int j7_61), (8, .int v8_42)]) hx hb dX12_readSequences_427 hl (by decide) rfl (fun ls hl => ?_)
                                  refine lv_iload hx hb dX12_readSequences_429 (lv_at hl 5 rfl) ?_
                                  refine lv_iload hx hb dX12_readSequences_431 (lv_at hl 0 rfl) ?_
                                  refine lv_iadd hx hb dX12_readSequences_433 ?_
                                  refine lv_topi (fun v7_64 e_v7_64 => ?_)
                                  replace hf := bnd_at e_v7_64 hf
                                  refine lv_istore (lv' := [(7, .int v7_64), (9, .int v9_63), (0, .ref h0), (1, .int a1), (2, .int a2), (5, .int g28), (8, .int v8_42)]) hx hb dX12_readSequences_434 hl (by decide) rfl (fun ls hl => ?_)
                                  refine lv_aload_n hx hb dX12_readSequences_436 rfl (lv_at hl 2 rfl) ?_
                                  refine lv_dup hx hb dX12_readSequences_437 rfl ?_
                                  refine va_get (D := (dC, dI)) (ci := 10) (v := .int g60) (C := RX12) (T := TX12) (N := 32) hx hb hts inG_X12 hown hK hP 0 rfl rfl 31 (by decide) (hts _ kw_1083) (fun _ h9 => h9) rfl dX12_readSequences_438 ?_
                                  refine lv_iconst (v := 1) hx hb dX12_readSequences_441 (by decide) ?_
                                  refine lv_iadd hx hb dX12_readSequences_442 ?_
                                  refine lv_topi (fun p_65 e_p_65 => ?_)
                                  replace hf := bnd_at e_p_65 hf
                                  refine va_put (D := (dC, dI)) (ci := 10) (v := .int p_65) (ty := .int) (C := RX12) (T := TX12) (N := 32) hx hb hts inG_X12 tyX12 tyX12_ok nmX12 hown hK hP hD hS 0 rfl rfl 31 (by decide) (hts _ kw_1083) (fun _ h9 => h9) rfl (by decide +kernel) rfl rfl (Nat.le_of_ble_eq_true rfl) dX12_readSequences_443 (fun H locs hP hD hS => ?_)
                                  have hP : va_P (dC, dI) vwCl [(h0, .inr (10, [.ref h0_in, w_h0_inSize, w_h0_out, w_h0_outSize, .ref h0_dict, .int h0_dictSize, w_h0_told, .ref h0_fresh, .int g40, w_h0_text, w_h0_lean, w_h0_size, w_h0_most, w_h0_offset, w_h0_copyAt, w_h0_copies, w_h0_copyLength, w_h0_copyOffset, w_h0_fromHere, w_h0_withCopy, w_h0_bestCopy, w_h0_bestLiterals, .int g25, .int p_37, .int p_36, w_h0_blocks, w_h0_blockMany, w_h0_newBlocks, w_h0_newMany, .int h0_rule, .int h0_place, .int p_65])), (h0_in, .inl (cI, h0_in_n, .inl h0_in_f)), (h0_fresh, .inl (cI, h0_fresh_n, .inl f38)), (h0_dict, .inl (cI, h0_dict_n, .inl h0_dict_f))] H := hP
                                  have hD : va_D A [(h0, .inr (10, [.ref h0_in, w_h0_inSize, w_h0_out, w_h0_outSize, .ref h0_dict, .int h0_dictSize, w_h0_told, .ref h0_fresh, .int g40, w_h0_text, w_h0_lean, w_h0_size, w_h0_most, w_h0_offset, w_h0_copyAt, w_h0_copies, w_h0_copyLength, w_h0_copyOffset, w_h0_fromHere, w_h0_withCopy, w_h0_bestCopy, w_h0_bestLiterals, .int g25, .int p_37, .int p_36, w_h0_blocks, w_h0_blockMany, w_h0_newBlocks, w_h0_newMany, .int h0_rule, .int h0_place, .int p_65])), (h0_in, .inl (cI, h0_in_n, .inl h0_in_f)), (h0_fresh, .inl (cI, h0_fresh_n, .inl f38)), (h0_dict, .inl (cI, h0_dict_n, .inl h0_dict_f))] := hD
                                  refine lv_goto (tgt := 395) hx hb dX12_readSequences_446 (by decide) ?_
                                  exact ih_395 p_65 v7_64 v9_63 _ _ _ (iter_back hf hr_395) hP hD hS (lv_sub hl [2, 3, 4, 5, 0, 6, 1] rfl)
                                · replace hf := if_f c_408 hf
                                  refine lv_aload_n hx hb dX12_readSequences_411 rfl (lv_at hl 0 rfl) ?_
                                  refine lv_iconst (v := 1) hx hb dX12_readSequences_412 (by decide) ?_
                                  refine lv_iload_n hx hb dX12_readSequences_413 rfl (lv_at hl 1 rfl) ?_
                                  obtain ⟨x, hc, hf⟩ := bind_some hf
                                  obtain ⟨r66, u67, u68⟩ := x
                                  dsimp only at hf
                                  refine nx_i (rn_V (As := [.int (1 : Int32), .int a1]) (rest := []) (n := 2) (ci := 10) (q0 := 0) ⟨hx, hb, hml, hown, hts⟩ (c_Mo_no (l := l) (dC := dC) (dI := dI) (cB := cB) (cI := cI) (h0 := h0) (a1 := (1 : Int32)) (a2 := a1) (w_h0_in := (.ref h0_in)) (w_h0_inSize := (w_h0_inSize)) (w_h0_out := (w_h0_out)) (w_h0_outSize := (w_h0_outSize)) (w_h0_dict := (.ref h0_dict)) (w_h0_dictSize := (.int h0_dictSize)) (w_h0_told := (w_h0_told)) (w_h0_fresh := (.ref h0_fresh)) (w_h0_freshSize := (.int g40)) (w_h0_text := (w_h0_text)) (w_h0_lean := (w_h0_lean)) (w_h0_size := (w_h0_size)) (w_h0_most := (w_h0_most)) (w_h0_offset := (w_h0_offset)) (w_h0_copyAt := (w_h0_copyAt)) (w_h0_copies := (w_h0_copies)) (w_h0_copyLength := (w_h0_copyLength)) (w_h0_copyOffset := (w_h0_copyOffset)) (w_h0_fromHere := (w_h0_fromHere)) (w_h0_withCopy := (w_h0_withCopy)) (w_h0_bestCopy := (w_h0_bestCopy)) (w_h0_bestLiterals := (w_h0_bestLiterals)) (w_h0_copiesOf := (.int g25)) (w_h0_literalsOf := (.int p_37)) (w_h0_partsOf := (.int p_36)) (w_h0_blocks := (w_h0_blocks)) (w_h0_blockMany := (w_h0_blockMany)) (w_h0_newBlocks := (w_h0_newBlocks)) (w_h0_newMany := (w_h0_newMany)) (h0_rule := h0_rule) (h0_place := h0_place) (w_h0_at := (.int g60)) (o_h0_rule := u67) (o_h0_place := u68) (o_r := r66) hc) (wV kw_1353 kw_1355 kw_72 kw_94 kw_1356) (by decide +kernel) ⟨Nat.le_of_ble_eq_true rfl, Nat.le_of_ble_eq_true rfl⟩ hK hP hD hN hT hS (va_free (wc := [(h0, .inr (10, [.ref h0_in, w_h0_inSize, w_h0_out, w_h0_outSize, .ref h0_dict, .int h0_dictSize, w_h0_told, .ref h0_fresh, .int g40, w_h0_text, w_h0_lean, w_h0_size, w_h0_most, w_h0_offset, w_h0_copyAt, w_h0_copies, w_h0_copyLength, w_h0_copyOffset, w_h0_fromHere, w_h0_withCopy, w_h0_bestCopy, w_h0_bestLiterals, .int g25, .int p_37, .int p_36, w_h0_blocks, w_h0_blockMany, w_h0_newBlocks, w_h0_newMany, .int h0_rule, .int h0_place, .int g60]))]) hD hS hA [0] rfl) [0] rfl (by decide) rfl rfl rfl hl.1 rfl (lv_room (Nat.le_of_ble_eq_true rfl)) dX12_readSequences_414 ⟨Nat.le_of_ble_eq_true rfl, Nat.le_of_ble_eq_true rfl⟩) hP hD hS hA (wr := [(h0_in, .inl (cI, h0_in_n, .inl h0_in_f)), (h0_fresh, .inl (cI, h0_fresh_n, .inl f38)), (h0_dict, .inl (cI, h0_dict_n, .inl h0_dict_f))]) (w1 := [(h0, .inr (10, [.ref h0_in, w_h0_inSize, w_h0_out, w_h0_outSize, .ref h0_dict, .int h0_dictSize, w_h0_told, .ref h0_fresh, .int g40, w_h0_text, w_h0_lean, w_h0_size, w_h0_most, w_h0_offset, w_h0_copyAt, w_h0_copies, w_h0_copyLength, w_h0_copyOffset, w_h0_fromHere, w_h0_withCopy, w_h0_bestCopy, w_h0_bestLiterals, .int g25, .int p_37, .int p_36, w_h0_blocks, w_h0_blockMany, w_h0_newBlocks, w_h0_newMany, .int u67, .int u68, .int g60]))]) (ws' := [(h0, .inr (10, [.ref h0_in, w_h0_inSize, w_h0_out, w_h0_outSize, .ref h0_dict, .int h0_dictSize, w_h0_told, .ref h0_fresh, .int g40, w_h0_text, w_h0_lean, w_h0_size, w_h0_most, w_h0_offset, w_h0_copyAt, w_h0_copies, w_h0_copyLength, w_h0_copyOffset, w_h0_fromHere, w_h0_withCopy, w_h0_bestCopy, w_h0_bestLiterals, .int g25, .int p_37, .int p_36, w_h0_blocks, w_h0_blockMany, w_h0_newBlocks, w_h0_newMany, .int u67, .int u68, .int g60])), (h0_in, .inl (cI, h0_in_n, .inl h0_in_f)), (h0_fresh, .inl (cI, h0_fresh_n, .inl f38)), (h0_dict, .inl (cI, h0_dict_n, .inl h0_dict_f))]) [0] [1, 2, 3] [3, 0, 1, 2] rfl rfl (by decide) (by decide) rfl (by decide) (fun H locs hP hD hS => ?_)
                                  obtain ⟨hzb, hf⟩ := bch_some hf
                                  replace hf : some (.inr (.inr (.inr (r66, g40, g25, p_37, p_36, u67, u68, g60, f38)))) = some r_23 := by have hq := hk_395; rw [iter_exit hf hr_395] at hq; exact hq
                                  replace hf : some (r66, g40, g25, p_37, p_36, u67, u68, g60, f38) = some (o_r, o_h0_freshSize, o_h0_copiesOf, o_h0_literalsOf, o_h0_partsOf, o_h0_rule, o_h0_place, o_h0_at, o_h0_fresh_f) := by have hq := hk_23; rw [iter_exit hf hr_23] at hq; exact hq
                                  obtain ⟨rfl, hq_1⟩ := Prod.mk.inj (Option.some.inj hf)
                                  obtain ⟨rfl, hq_2⟩ := Prod.mk.inj hq_1
                                  obtain ⟨rfl, hq_3⟩ := Prod.mk.inj hq_2
                                  obtain ⟨rfl, hq_4⟩ := Prod.mk.inj hq_3
                                  obtain ⟨rfl, hq_5⟩ := Prod.mk.inj hq_4
                                  obtain ⟨rfl, hq_6⟩ := Prod.mk.inj hq_5
                                  obtain ⟨rfl, hq_7⟩ := Prod.mk.inj hq_6
                                  obtain ⟨rfl, hq_8⟩ := Prod.mk.inj hq_7
                                  obtain rfl := hq_8
                                  exact rt_z hQ hx hb hr hzb hlocks hP hD hS dX12_readSequences_417
                          exact hL_395 FU p_43 v7_32 (255 : Int32) _ _ _ hi_395 hP hD hS (lv_sub hl [2, 3, 4, 6, 8, 1, 0] rfl)
                      · replace hf := if_f c_360 hf
                        have hf : m_Mo_readSequences_E363 f38 g25 p_37 p_36 g39 g40 = some (o_r, o_h0_freshSize, o_h0_copiesOf, o_h0_literalsOf, o_h0_partsOf, o_h0_rule, o_h0_place, o_h0_at, o_h0_fresh_f) := by have hq := hk_23; rw [iter_exit hf hr_23] at hq; exact hq
                        exact hJ_363 f38 g25 p_37 p_36 g39 g40 _ _ _ hf hP hD hS (lv_sub hl [1] rfl)
                  · replace hf := if_f c_320 hf
                    refine lv_aload_n hx hb dX12_readSequences_323 rfl (lv_at hl 0 rfl) ?_
                    refine lv_iconst (v := 1) hx hb dX12_readSequences_324 (by decide) ?_
                    refine lv_iload_n hx hb dX12_readSequences_325 rfl (lv_at hl 1 rfl) ?_
                    obtain ⟨x, hc, hf⟩ := bind_some hf
                    obtain ⟨r69, u70, u71⟩ := x
                    dsimp only at hf
                    refine nx_i (rn_V (As := [.int (1 : Int32), .int a1]) (rest := []) (n := 2) (ci := 10) (q0 := 0) ⟨hx, hb, hml, hown, hts⟩ (c_Mo_no (l := l) (dC := dC) (dI := dI) (cB := cB) (cI := cI) (h0 := h0) (a1 := (1 : Int32)) (a2 := a1) (w_h0_in := (.ref h0_in)) (w_h0_inSize := (w_h0_inSize)) (w_h0_out := (w_h0_out)) (w_h0_outSize := (w_h0_outSize)) (w_h0_dict := (.ref h0_dict)) (w_h0_dictSize := (.int h0_dictSize)) (w_h0_told := (w_h0_told)) (w_h0_fresh := (.ref h0_fresh)) (w_h0_freshSize := (.int g40)) (w_h0_text := (w_h0_text)) (w_h0_lean := (w_h0_lean)) (w_h0_size := (w_h0_size)) (w_h0_most := (w_h0_most)) (w_h0_offset := (w_h0_offset)) (w_h0_copyAt := (w_h0_copyAt)) (w_h0_copies := (w_h0_copies)) (w_h0_copyLength := (w_h0_copyLength)) (w_h0_copyOffset := (w_h0_copyOffset)) (w_h0_fromHere := (w_h0_fromHere)) (w_h0_withCopy := (w_h0_withCopy)) (w_h0_bestCopy := (w_h0_bestCopy)) (w_h0_bestLiterals := (w_h0_bestLiterals)) (w_h0_copiesOf := (.int g25)) (w_h0_literalsOf := (.int p_37)) (w_h0_partsOf := (.int p_36)) (w_h0_blocks := (w_h0_blocks)) (w_h0_blockMany := (w_h0_blockMany)) (w_h0_newBlocks := (w_h0_newBlocks)) (w_h0_newMany := (w_h0_newMany)) (h0_rule := h0_rule) (h0_place := h0_place) (w_h0_at := (.int g39)) (o_h0_rule := u70) (o_h0_place := u71) (o_r := r69) hc) (wV kw_1353 kw_1355 kw_72 kw_94 kw_1356) (by decide +kernel) ⟨Nat.le_of_ble_eq_true rfl, Nat.le_of_ble_eq_true rfl⟩ hK hP hD hN hT hS (va_free (wc := [(h0, .inr (10, [.ref h0_in, w_h0_inSize, w_h0_out, w_h0_outSize, .ref h0_dict, .int h0_dictSize, w_h0_told, .ref h0_fresh, .int g40, w_h0_text, w_h0_lean, w_h0_size, w_h0_most, w_h0_offset, w_h0_copyAt, w_h0_copies, w_h0_copyLength, w_h0_copyOffset, w_h0_fromHere, w_h0_withCopy, w_h0_bestCopy, w_h0_bestLiterals, .int g25, .int p_37, .int p_36, w_h0_blocks, w_h0_blockMany, w_h0_newBlocks, w_h0_newMany, .int h0_rule, .int h0_place, .int g39]))]) hD hS hA [0] rfl) [0] rfl (by decide) rfl rfl rfl hl.1 rfl (lv_room (Nat.le_of_ble_eq_true rfl)) dX12_readSequences_326 ⟨Nat.le_of_ble_eq_true rfl, Nat.le_of_ble_eq_true rfl⟩) hP hD hS hA (wr := [(h0_in, .inl (cI, h0_in_n, .inl h0_in_f)), (h0_fresh, .inl (cI, h0_fresh_n, .inl f38)), (h0_dict, .inl (cI, h0_dict_n, .inl h0_dict_f))]) (w1 := [(h0, .inr (10, [.ref h0_in, w_h0_inSize, w_h0_out, w_h0_outSize, .ref h0_dict, .int h0_dictSize, w_h0_told, .ref h0_fresh, .int g40, w_h0_text, w_h0_lean, w_h0_size, w_h0_most, w_h0_offset, w_h0_copyAt, w_h0_copies, w_h0_copyLength, w_h0_copyOffset, w_h0_fromHere, w_h0_withCopy, w_h0_bestCopy, w_h0_bestLiterals, .int g25, .int p_37, .int p_36, w_h0_blocks, w_h0_blockMany, w_h0_newBlocks, w_h0_newMany, .int u70, .int u71, .int g39]))]) (ws' := [(h0, .inr (10, [.ref h0_in, w_h0_inSize, w_h0_out, w_h0_outSize, .ref h0_dict, .int h0_dictSize, w_h0_told, .ref h0_fresh, .int g40, w_h0_text, w_h0_lean, w_h0_size, w_h0_most, w_h0_offset, w_h0_copyAt, w_h0_copies, w_h0_copyLength, w_h0_copyOffset, w_h0_fromHere, w_h0_withCopy, w_h0_bestCopy, w_h0_bestLiterals, .int g25, .int p_37, .int p_36, w_h0_blocks, w_h0_blockMany, w_h0_newBlocks, w_h0_newMany, .int u70, .int u71, .int g39])), (h0_in, .inl (cI, h0_in_n, .inl h0_in_f)), (h0_fresh, .inl (cI, h0_fresh_n, .inl f38)), (h0_dict, .inl (cI, h0_dict_n, .inl h0_dict_f))]) [0] [1, 2, 3] [3, 0, 1, 2] rfl rfl (by decide) (by decide) rfl (by decide) (fun H locs hP hD hS => ?_)
                    obtain ⟨hzb, hf⟩ := bch_some hf
                    replace hf : some (r69, g40, g25, p_37, p_36, u70, u71, g39, f38) = some (o_r, o_h0_freshSize, o_h0_copiesOf, o_h0_literalsOf, o_h0_partsOf, o_h0_rule, o_h0_place, o_h0_at, o_h0_fresh_f) := by have hq := hk_23; rw [iter_exit hf hr_23] at hq; exact hq
                    obtain ⟨rfl, hq_1⟩ := Prod.mk.inj (Option.some.inj hf)
                    obtain ⟨rfl, hq_2⟩ := Prod.mk.inj hq_1
                    obtain ⟨rfl, hq_3⟩ := Prod.mk.inj hq_2
                    obtain ⟨rfl, hq_4⟩ := Prod.mk.inj hq_3
                    obtain ⟨rfl, hq_5⟩ := Prod.mk.inj hq_4
                    obtain ⟨rfl, hq_6⟩ := Prod.mk.inj hq_5
                    obtain ⟨rfl, hq_7⟩ := Prod.mk.inj hq_6
                    obtain ⟨rfl, hq_8⟩ := Prod.mk.inj hq_7
                    obtain rfl := hq_8
                    exact rt_z hQ hx hb hr hzb hlocks hP hD hS dX12_readSequences_329
                · replace hf := if_t c_252 hf
                  have hf : m_Mo_readSequences_E255 h0_rule h0_place f38 g25 p_37 p_36 g39 g40 j4_30 g28 j6_35 v7_32 = some (o_r, o_h0_freshSize, o_h0_copiesOf, o_h0_literalsOf, o_h0_partsOf, o_h0_rule, o_h0_place, o_h0_at, o_h0_fresh_f) := by have hq := hk_23; rw [iter_exit hf hr_23] at hq; exact hq
                  exact hJ_255 f38 g25 p_37 p_36 g39 g40 j4_30 g28 j6_35 v7_32 _ _ _ hf hP hD hS (lv_sub hl [0, 3, 4, 5, 6] rfl)
              obtain ⟨o_211, hi_211, hk_211⟩ := bind_some hf
              have hL_211 : ∀ (n : Nat) (f72 : Nat → Int32) (g73 : Int32) (g74 : Int32) (j8_75 : Int32) (H : Heap) (locs : List Loc) (ls : Array Slot), iter (fun st => m_Mo_readSequences_B211 h0_in_n h0_in_f h0_fresh_n j6_35 st.1 st.2.1 st.2.2.1 st.2.2.2) n (f72, g73, g74, j8_75) = some o_211 → va_P (dC, dI) vwCl [(h0, .inr (10, [.ref h0_in, w_h0_inSize, w_h0_out, w_h0_outSize, .ref h0_dict, .int h0_dictSize, w_h0_told, .ref h0_fresh, .int g74, w_h0_text, w_h0_lean, w_h0_size, w_h0_most, w_h0_offset, w_h0_copyAt, w_h0_copies, w_h0_copyLength, w_h0_copyOffset, w_h0_fromHere, w_h0_withCopy, w_h0_bestCopy, w_h0_bestLiterals, .int g25, .int p_37, .int p_36, w_h0_blocks, w_h0_blockMany, w_h0_newBlocks, w_h0_newMany, .int h0_rule, .int h0_place, .int g73])), (h0_in, .inl (cI, h0_in_n, .inl h0_in_f)), (h0_fresh, .inl (cI, h0_fresh_n, .inl f72)), (h0_dict, .inl (cI, h0_dict_n, .inl h0_dict_f))] H → va_D A [(h0, .inr (10, [.ref h0_in, w_h0_inSize, w_h0_out, w_h0_outSize, .ref h0_dict, .int h0_dictSize, w_h0_told, .ref h0_fresh, .int g74, w_h0_text, w_h0_lean, w_h0_size, w_h0_most, w_h0_offset, w_h0_copyAt, w_h0_copies, w_h0_copyLength, w_h0_copyOffset, w_h0_fromHere, w_h0_withCopy, w_h0_bestCopy, w_h0_bestLiterals, .int g25, .int p_37, .int p_36, w_h0_blocks, w_h0_blockMany, w_h0_newBlocks, w_h0_newMany, .int h0_rule, .int h0_place, .int g73])), (h0_in, .inl (cI, h0_in_n, .inl h0_in_f)), (h0_fresh, .inl (cI, h0_fresh_n, .inl f72)), (h0_dict, .inl (cI, h0_dict_n, .inl h0_dict_f))] → va_S A s.heap H locs → lv_has ls 11 [(0, .ref h0), (1, .int a1), (2, .int a2), (4, .int j4_30), (5, .int g28), (6, .int j6_35), (7, .int v7_32), (8, .int j8_75)] → W p l e (rm_Mo_readSequences) s m ([.ref h0, .int a1, .int a2] : List Value).toArray below meth c H locs 0 0 Q (F0 m 211 ls []) := by
                intro n
                induction n with
                | zero => intro f72 g73 g74 j8_75 H locs ls hf; exact absurd hf (fun z => by cases z)
                | succ n ih_211 =>
                  intro f72 g73 g74 j8_75 H locs ls hf hP hD hS hl
                  obtain ⟨r_211, hf, hr_211⟩ := iter_succ hf
                  have hf : m_Mo_readSequences_B211 h0_in_n h0_in_f h0_fresh_n j6_35 f72 g73 g74 j8_75 = some r_211 := hf
                  unfold m_Mo_readSequences_B211 at hf
                  refine lv_iload hx hb dX12_readSequences_211 (lv_at hl 7 rfl) ?_
                  refine lv_iload hx hb dX12_readSequences_213 (lv_at hl 5 rfl) ?_
                  refine lv_icmp_ge (tgt := 247) hx hb dX12_readSequences_215 (by decide) (fun c_215 => ?_) (fun c_215 => ?_)
                  · replace hf := if_t c_215 hf
                    have hf : m_Mo_readSequences_E247 a1 a2 h0_dictSize h0_in_n h0_in_f h0_fresh_n h0_dict_n h0_dict_f g25 g28 j4_30 v7_32 j6_35 p_36 p_37 f72 g73 g74 = some r_23 := by have hq := hk_211; rw [iter_exit hf hr_211] at hq; exact hq
                    exact hJ_247 f72 g73 g74 _ _ _ hf hP hD hS (lv_sub hl [0, 1, 2, 3, 4, 5, 6] rfl)
                  · replace hf := if_f c_215 hf
                    refine lv_aload_n hx hb dX12_readSequences_218 rfl (lv_at hl 0 rfl) ?_
                    refine lv_aload_n hx hb dX12_readSequences_219 rfl (lv_at hl 0 rfl) ?_
                    refine va_get (D := (dC, dI)) (ci := 10) (v := .ref h0_in) (C := RX12) (T := TX12) (N := 32) hx hb hts inG_X12 hown hK hP 0 rfl rfl 0 (by decide) (hts _ kw_1052) (fun _ h9 => h9) rfl dX12_readSequences_220 ?_
                    refine lv_aload_n hx hb dX12_readSequences_223 rfl (lv_at hl 0 rfl) ?_
                    refine va_get (D := (dC, dI)) (ci := 10) (v := .int g73) (C := RX12) (T := TX12) (N := 32) hx hb hts inG_X12 hown hK hP 0 rfl rfl 31 (by decide) (hts _ kw_1083) (fun _ h9 => h9) rfl dX12_readSequences_224 ?_
                    obtain ⟨hin, hf⟩ := chk_some hf
                    refine va_iald hx hb hK hP 1 1 rfl rfl hin dX12_readSequences_227 ?_
                    obtain ⟨x, hc, hf⟩ := bind_some hf
                    obtain ⟨u76, u77⟩ := x
                    dsimp only at hf
                    refine nx_v (rn_V (As := [.int (h0_in_f g73.toNatClampNeg)]) (rest := []) (n := 1) (ci := 10) (q0 := 0) ⟨hx, hb, hml, hown, hts⟩ (c_Mo_put (l := l) (dC := dC) (dI := dI) (cB := cB) (cI := cI) (h0 := h0) (a1 := (h0_in_f g73.toNatClampNeg)) (h0_fresh := h0_fresh) (w_h0_in := (.ref h0_in)) (w_h0_inSize := (w_h0_inSize)) (w_h0_out := (w_h0_out)) (w_h0_outSize := (w_h0_outSize)) (w_h0_dict := (.ref h0_dict)) (w_h0_dictSize := (.int h0_dictSize)) (w_h0_told := (w_h0_told)) (h0_freshSize := g74) (w_h0_text := (w_h0_text)) (w_h0_lean := (w_h0_lean)) (w_h0_size := (w_h0_size)) (w_h0_most := (w_h0_most)) (w_h0_offset := (w_h0_offset)) (w_h0_copyAt := (w_h0_copyAt)) (w_h0_copies := (w_h0_copies)) (w_h0_copyLength := (w_h0_copyLength)) (w_h0_copyOffset := (w_h0_copyOffset)) (w_h0_fromHere := (w_h0_fromHere)) (w_h0_withCopy := (w_h0_withCopy)) (w_h0_bestCopy := (w_h0_bestCopy)) (w_h0_bestLiterals := (w_h0_bestLiterals)) (w_h0_copiesOf := (.int g25)) (w_h0_literalsOf := (.int p_37)) (w_h0_partsOf := (.int p_36)) (w_h0_blocks := (w_h0_blocks)) (w_h0_blockMany := (w_h0_blockMany)) (w_h0_newBlocks := (w_h0_newBlocks)) (w_h0_newMany := (w_h0_newMany)) (w_h0_rule := (.int h0_rule)) (w_h0_place := (.int h0_place)) (w_h0_at := (.int g73)) (h0_fresh_n := h0_fresh_n) (h0_fresh_f := f72) (o_h0_freshSize := u76) (o_h0_fresh_f := u77) hc) (wV kw_1205 kw_1207 kw_51 kw_94 kw_1208) (by decide +kernel) ⟨Nat.le_of_ble_eq_true rfl, Nat.le_of_ble_eq_true rfl⟩ hK hP hD hN hT hS (va_free (wc := [(h0, .inr (10, [.ref h0_in, w_h0_inSize, w_h0_out, w_h0_outSize, .ref h0_dict, .int h0_dictSize, w_h0_told, .ref h0_fresh, .int g74, w_h0_text, w_h0_lean, w_h0_size, w_h0_most, w_h0_offset, w_h0_copyAt, w_h0_copies, w_h0_copyLength, w_h0_copyOffset, w_h0_fromHere, w_h0_withCopy, w_h0_bestCopy, w_h0_bestLiterals, .int g25, .int p_37, .int p_36, w_h0_blocks, w_h0_blockMany, w_h0_newBlocks, w_h0_newMany, .int h0_rule, .int h0_place, .int g73])), (h0_fresh, .inl (cI, h0_fresh_n, .inl f72))]) hD hS hA [0, 2] rfl) [0, 2] rfl (by decide) rfl rfl rfl hl.1 rfl (lv_room (Nat.le_of_ble_eq_true rfl)) dX12_readSequences_228 ⟨Nat.le_of_ble_eq_true rfl, Nat.le_of_ble_eq_true rfl⟩) hP hD hS hA (wr := [(h0_in, .inl (cI, h0_in_n, .inl h0_in_f)), (h0_dict, .inl (cI, h0_dict_n, .inl h0_dict_f))]) (w1 := [(h0, .inr (10, [.ref h0_in, w_h0_inSize, w_h0_out, w_h0_outSize, .ref h0_dict, .int h0_dictSize, w_h0_told, .ref h0_fresh, .int u76, w_h0_text, w_h0_lean, w_h0_size, w_h0_most, w_h0_offset, w_h0_copyAt, w_h0_copies, w_h0_copyLength, w_h0_copyOffset, w_h0_fromHere, w_h0_withCopy, w_h0_bestCopy, w_h0_bestLiterals, .int g25, .int p_37, .int p_36, w_h0_blocks, w_h0_blockMany, w_h0_newBlocks, w_h0_newMany, .int h0_rule, .int h0_place, .int g73])), (h0_fresh, .inl (cI, h0_fresh_n, .inl u77))]) (ws' := [(h0, .inr (10, [.ref h0_in, w_h0_inSize, w_h0_out, w_h0_outSize, .ref h0_dict, .int h0_dictSize, w_h0_told, .ref h0_fresh, .int u76, w_h0_text, w_h0_lean, w_h0_size, w_h0_most, w_h0_offset, w_h0_copyAt, w_h0_copies, w_h0_copyLength, w_h0_copyOffset, w_h0_fromHere, w_h0_withCopy, w_h0_bestCopy, w_h0_bestLiterals, .int g25, .int p_37, .int p_36, w_h0_blocks, w_h0_blockMany, w_h0_newBlocks, w_h0_newMany, .int h0_rule, .int h0_place, .int g73])), (h0_in, .inl (cI, h0_in_n, .inl h0_in_f)), (h0_fresh, .inl (cI, h0_fresh_n, .inl u77)), (h0_dict, .inl (cI, h0_dict_n, .inl h0_dict_f))]) [0, 2] [1, 3] [2, 0, 3, 1] rfl rfl (by decide) (by decide) rfl (by decide) (fun H locs hP hD hS => ?_)
                    refine lv_aload_n hx hb dX12_readSequences_231 rfl (lv_at hl 0 rfl) ?_
                    refine lv_dup hx hb dX12_readSequences_232 rfl ?_
                    refine va_get (D := (dC, dI)) (ci := 10) (v := .int g73) (C := RX12) (T := TX12) (N := 32) hx hb hts inG_X12 hown hK hP 0 rfl rfl 31 (by decide) (hts _ kw_1083) (fun _ h9 => h9) rfl dX12_readSequences_233 ?_
                    refine lv_iconst (v := 1) hx hb dX12_readSequences_236 (by decide) ?_
                    refine lv_iadd hx hb dX12_readSequences_237 ?_
                    refine lv_topi (fun p_78 e_p_78 => ?_)
                    replace hf := bnd_at e_p_78 hf
                    refine va_put (D := (dC, dI)) (ci := 10) (v := .int p_78) (ty := .int) (C := RX12) (T := TX12) (N := 32) hx hb hts inG_X12 tyX12 tyX12_ok nmX12 hown hK hP hD hS 0 rfl rfl 31 (by decide) (hts _ kw_1083) (fun _ h9 => h9) rfl (by decide +kernel) rfl rfl (Nat.le_of_ble_eq_true rfl) dX12_readSequences_238 (fun H locs hP hD hS => ?_)
                    have hP : va_P (dC, dI) vwCl [(h0, .inr (10, [.ref h0_in, w_h0_inSize, w_h0_out, w_h0_outSize, .ref h0_dict, .int h0_dictSize, w_h0_told, .ref h0_fresh, .int u76, w_h0_text, w_h0_lean, w_h0_size, w_h0_most, w_h0_offset, w_h0_copyAt, w_h0_copies, w_h0_copyLength, w_h0_copyOffset, w_h0_fromHere, w_h0_withCopy, w_h0_bestCopy, w_h0_bestLiterals, .int g25, .int p_37, .int p_36, w_h0_blocks, w_h0_blockMany, w_h0_newBlocks, w_h0_newMany, .int h0_rule, .int h0_place, .int p_78])), (h0_in, .inl (cI, h0_in_n, .inl h0_in_f)), (h0_fresh, .inl (cI, h0_fresh_n, .inl u77)), (h0_dict, .inl (cI, h0_dict_n, .inl h0_dict_f))] H := hP
                    have hD : va_D A [(h0, .inr (10, [.ref h0_in, w_h0_inSize, w_h0_out, w_h0_outSize, .ref h0_dict, .int h0_dictSize, w_h0_told, .ref h0_fresh, .int u76, w_h0_text, w_h0_lean, w_h0_size, w_h0_most, w_h0_offset, w_h0_copyAt, w_h0_copies, w_h0_copyLength, w_h0_copyOffset, w_h0_fromHere, w_h0_withCopy, w_h0_bestCopy, w_h0_bestLiterals, .int g25, .int p_37, .int p_36, w_h0_blocks, w_h0_blockMany, w_h0_newBlocks, w_h0_newMany, .int h0_rule, .int h0_place, .int p_78])), (h0_in, .inl (cI, h0_in_n, .inl h0_in_f)), (h0_fresh, .inl (cI, h0_fresh_n, .inl u77)), (h0_dict, .inl (cI, h0_dict_n, .inl h0_dict_f))] := hD
                    obtain ⟨v8_79, e_v8_79⟩ : ∃ y : Int32, y = (j8_75 + (1 : Int32)) := ⟨_, rfl⟩
                    replace hf := bnd_at e_v8_79 hf
                    refine lv_iinc (v := v8_79) (lv' := [(8, .int v8_79), (0, .ref h0), (1, .int a1), (2, .int a2), (4, .int j4_30), (5, .int g28), (6, .int j6_35), (7, .int v7_32)]) hx hb dX12_readSequences_241 hl (k := 7) rfl (by rw [e_v8_79]; rfl) (by decide) rfl (fun ls hl => ?_)
                    refine lv_goto (tgt := 211) hx hb dX12_readSequences_244 (by decide) ?_
                    exact ih_211 u77 p_78 u76 v8_79 _ _ _ (iter_back hf hr_211) hP hD hS (lv_sub hl [1, 2, 3, 4, 5, 6, 7, 0] rfl)
              exact hL_211 FU f24 g34 g29 (0 : Int32) _ _ _ hi_211 hP hD hS (lv_sub hl [1, 2, 3, 4, 5, 6, 7, 0] rfl)
            · replace hf := if_f c_175 hf
              refine lv_aload_n hx hb dX12_readSequences_178 rfl (lv_at hl 0 rfl) ?_
              refine lv_bipush (v := 12) hx hb dX12_readSequences_179 (by decide) ?_
              refine lv_iload hx hb dX12_readSequences_181 (lv_at hl 4 rfl) ?_
              obtain ⟨x, hc, hf⟩ := bind_some hf
              obtain ⟨r80, u81, u82⟩ := x
              dsimp only at hf
              refine nx_i (rn_V (As := [.int (12 : Int32), .int g28]) (rest := []) (n := 2) (ci := 10) (q0 := 0) ⟨hx, hb, hml, hown, hts⟩ (c_Mo_no (l := l) (dC := dC) (dI := dI) (cB := cB) (cI := cI) (h0 := h0) (a1 := (12 : Int32)) (a2 := g28) (w_h0_in := (.ref h0_in)) (w_h0_inSize := (w_h0_inSize)) (w_h0_out := (w_h0_out)) (w_h0_outSize := (w_h0_outSize)) (w_h0_dict := (.ref h0_dict)) (w_h0_dictSize := (.int h0_dictSize)) (w_h0_told := (w_h0_told)) (w_h0_fresh := (.ref h0_fresh)) (w_h0_freshSize := (.int g29)) (w_h0_text := (w_h0_text)) (w_h0_lean := (w_h0_lean)) (w_h0_size := (w_h0_size)) (w_h0_most := (w_h0_most)) (w_h0_offset := (w_h0_offset)) (w_h0_copyAt := (w_h0_copyAt)) (w_h0_copies := (w_h0_copies)) (w_h0_copyLength := (w_h0_copyLength)) (w_h0_copyOffset := (w_h0_copyOffset)) (w_h0_fromHere := (w_h0_fromHere)) (w_h0_withCopy := (w_h0_withCopy)) (w_h0_bestCopy := (w_h0_bestCopy)) (w_h0_bestLiterals := (w_h0_bestLiterals)) (w_h0_copiesOf := (.int g25)) (w_h0_literalsOf := (.int g26)) (w_h0_partsOf := (.int g27)) (w_h0_blocks := (w_h0_blocks)) (w_h0_blockMany := (w_h0_blockMany)) (w_h0_newBlocks := (w_h0_newBlocks)) (w_h0_newMany := (w_h0_newMany)) (h0_rule := h0_rule) (h0_place := h0_place) (w_h0_at := (.int g34)) (o_h0_rule := u81) (o_h0_place := u82) (o_r := r80) hc) (wV kw_1353 kw_1355 kw_72 kw_94 kw_1356) (by decide +kernel) ⟨Nat.le_of_ble_eq_true rfl, Nat.le_of_ble_eq_true rfl⟩ hK hP hD hN hT hS (va_free (wc := [(h0, .inr (10, [.ref h0_in, w_h0_inSize, w_h0_out, w_h0_outSize, .ref h0_dict, .int h0_dictSize, w_h0_told, .ref h0_fresh, .int g29, w_h0_text, w_h0_lean, w_h0_size, w_h0_most, w_h0_offset, w_h0_copyAt, w_h0_copies, w_h0_copyLength, w_h0_copyOffset, w_h0_fromHere, w_h0_withCopy, w_h0_bestCopy, w_h0_bestLiterals, .int g25, .int g26, .int g27, w_h0_blocks, w_h0_blockMany, w_h0_newBlocks, w_h0_newMany, .int h0_rule, .int h0_place, .int g34]))]) hD hS hA [0] rfl) [0] rfl (by decide) rfl rfl rfl hl.1 rfl (lv_room (Nat.le_of_ble_eq_true rfl)) dX12_readSequences_183 ⟨Nat.le_of_ble_eq_true rfl, Nat.le_of_ble_eq_true rfl⟩) hP hD hS hA (wr := [(h0_in, .inl (cI, h0_in_n, .inl h0_in_f)), (h0_fresh, .inl (cI, h0_fresh_n, .inl f24)), (h0_dict, .inl (cI, h0_dict_n, .inl h0_dict_f))]) (w1 := [(h0, .inr (10, [.ref h0_in, w_h0_inSize, w_h0_out, w_h0_outSize, .ref h0_dict, .int h0_dictSize, w_h0_told, .ref h0_fresh, .int g29, w_h0_text, w_h0_lean, w_h0_size, w_h0_most, w_h0_offset, w_h0_copyAt, w_h0_copies, w_h0_copyLength, w_h0_copyOffset, w_h0_fromHere, w_h0_withCopy, w_h0_bestCopy, w_h0_bestLiterals, .int g25, .int g26, .int g27, w_h0_blocks, w_h0_blockMany, w_h0_newBlocks, w_h0_newMany, .int u81, .int u82, .int g34]))]) (ws' := [(h0, .inr (10, [.ref h0_in, w_h0_inSize, w_h0_out, w_h0_outSize, .ref h0_dict, .int h0_dictSize, w_h0_told, .ref h0_fresh, .int g29, w_h0_text, w_h0_lean, w_h0_size, w_h0_most, w_h0_offset, w_h0_copyAt, w_h0_copies, w_h0_copyLength, w_h0_copyOffset, w_h0_fromHere, w_h0_withCopy, w_h0_bestCopy, w_h0_bestLiterals, .int g25, .int g26, .int g27, w_h0_blocks, w_h0_blockMany, w_h0_newBlocks, w_h0_newMany, .int u81, .int u82, .int g34])), (h0_in, .inl (cI, h0_in_n, .inl h0_in_f)), (h0_fresh, .inl (cI, h0_fresh_n, .inl f24)), (h0_dict, .inl (cI, h0_dict_n, .inl h0_dict_f))]) [0] [1, 2, 3] [3, 0, 1, 2] rfl rfl (by decide) (by decide) rfl (by decide) (fun H locs hP hD hS => ?_)
              obtain ⟨hzb, hf⟩ := bch_some hf
              replace hf : some (r80, g29, g25, g26, g27, u81, u82, g34, f24) = some (o_r, o_h0_freshSize, o_h0_copiesOf, o_h0_literalsOf, o_h0_partsOf, o_h0_rule, o_h0_place, o_h0_at, o_h0_fresh_f) := by have hq := hk_23; rw [iter_exit hf hr_23] at hq; exact hq
              obtain ⟨rfl, hq_1⟩ := Prod.mk.inj (Option.some.inj hf)
              obtain ⟨rfl, hq_2⟩ := Prod.mk.inj hq_1
              obtain ⟨rfl, hq_3⟩ := Prod.mk.inj hq_2
              obtain ⟨rfl, hq_4⟩ := Prod.mk.inj hq_3
              obtain ⟨rfl, hq_5⟩ := Prod.mk.inj hq_4
              obtain ⟨rfl, hq_6⟩ := Prod.mk.inj hq_5
              obtain ⟨rfl, hq_7⟩ := Prod.mk.inj hq_6
              obtain ⟨rfl, hq_8⟩ := Prod.mk.inj hq_7
              obtain rfl := hq_8
              exact rt_z hQ hx hb hr hzb hlocks hP hD hS dX12_readSequences_186
          · replace hf := if_f c_155 hf
            refine lv_aload_n hx hb dX12_readSequences_158 rfl (lv_at hl 0 rfl) ?_
            refine lv_iconst (v := 1) hx hb dX12_readSequences_159 (by decide) ?_
            refine lv_iload_n hx hb dX12_readSequences_160 rfl (lv_at hl 1 rfl) ?_
            obtain ⟨x, hc, hf⟩ := bind_some hf
            obtain ⟨r83, u84, u85⟩ := x
            dsimp only at hf
            refine nx_i (rn_V (As := [.int (1 : Int32), .int a1]) (rest := []) (n := 2) (ci := 10) (q0 := 0) ⟨hx, hb, hml, hown, hts⟩ (c_Mo_no (l := l) (dC := dC) (dI := dI) (cB := cB) (cI := cI) (h0 := h0) (a1 := (1 : Int32)) (a2 := a1) (w_h0_in := (.ref h0_in)) (w_h0_inSize := (w_h0_inSize)) (w_h0_out := (w_h0_out)) (w_h0_outSize := (w_h0_outSize)) (w_h0_dict := (.ref h0_dict)) (w_h0_dictSize := (.int h0_dictSize)) (w_h0_told := (w_h0_told)) (w_h0_fresh := (.ref h0_fresh)) (w_h0_freshSize := (.int g29)) (w_h0_text := (w_h0_text)) (w_h0_lean := (w_h0_lean)) (w_h0_size := (w_h0_size)) (w_h0_most := (w_h0_most)) (w_h0_offset := (w_h0_offset)) (w_h0_copyAt := (w_h0_copyAt)) (w_h0_copies := (w_h0_copies)) (w_h0_copyLength := (w_h0_copyLength)) (w_h0_copyOffset := (w_h0_copyOffset)) (w_h0_fromHere := (w_h0_fromHere)) (w_h0_withCopy := (w_h0_withCopy)) (w_h0_bestCopy := (w_h0_bestCopy)) (w_h0_bestLiterals := (w_h0_bestLiterals)) (w_h0_copiesOf := (.int g25)) (w_h0_literalsOf := (.int g26)) (w_h0_partsOf := (.int g27)) (w_h0_blocks := (w_h0_blocks)) (w_h0_blockMany := (w_h0_blockMany)) (w_h0_newBlocks := (w_h0_newBlocks)) (w_h0_newMany := (w_h0_newMany)) (h0_rule := h0_rule) (h0_place := h0_place) (w_h0_at := (.int g34)) (o_h0_rule := u84) (o_h0_place := u85) (o_r := r83) hc) (wV kw_1353 kw_1355 kw_72 kw_94 kw_1356) (by decide +kernel) ⟨Nat.le_of_ble_eq_true rfl, Nat.le_of_ble_eq_true rfl⟩ hK hP hD hN hT hS (va_free (wc := [(h0, .inr (10, [.ref h0_in, w_h0_inSize, w_h0_out, w_h0_outSize, .ref h0_dict, .int h0_dictSize, w_h0_told, .ref h0_fresh, .int g29, w_h0_text, w_h0_lean, w_h0_size, w_h0_most, w_h0_offset, w_h0_copyAt, w_h0_copies, w_h0_copyLength, w_h0_copyOffset, w_h0_fromHere, w_h0_withCopy, w_h0_bestCopy, w_h0_bestLiterals, .int g25, .int g26, .int g27, w_h0_blocks, w_h0_blockMany, w_h0_newBlocks, w_h0_newMany, .int h0_rule, .int h0_place, .int g34]))]) hD hS hA [0] rfl) [0] rfl (by decide) rfl rfl rfl hl.1 rfl (lv_room (Nat.le_of_ble_eq_true rfl)) dX12_readSequences_161 ⟨Nat.le_of_ble_eq_true rfl, Nat.le_of_ble_eq_true rfl⟩) hP hD hS hA (wr := [(h0_in, .inl (cI, h0_in_n, .inl h0_in_f)), (h0_fresh, .inl (cI, h0_fresh_n, .inl f24)), (h0_dict, .inl (cI, h0_dict_n, .inl h0_dict_f))]) (w1 := [(h0, .inr (10, [.ref h0_in, w_h0_inSize, w_h0_out, w_h0_outSize, .ref h0_dict, .int h0_dictSize, w_h0_told, .ref h0_fresh, .int g29, w_h0_text, w_h0_lean, w_h0_size, w_h0_most, w_h0_offset, w_h0_copyAt, w_h0_copies, w_h0_copyLength, w_h0_copyOffset, w_h0_fromHere, w_h0_withCopy, w_h0_bestCopy, w_h0_bestLiterals, .int g25, .int g26, .int g27, w_h0_blocks, w_h0_blockMany, w_h0_newBlocks, w_h0_newMany, .int u84, .int u85, .int g34]))]) (ws' := [(h0, .inr (10, [.ref h0_in, w_h0_inSize, w_h0_out, w_h0_outSize, .ref h0_dict, .int h0_dictSize, w_h0_told, .ref h0_fresh, .int g29, w_h0_text, w_h0_lean, w_h0_size, w_h0_most, w_h0_offset, w_h0_copyAt, w_h0_copies, w_h0_copyLength, w_h0_copyOffset, w_h0_fromHere, w_h0_withCopy, w_h0_bestCopy, w_h0_bestLiterals, .int g25, .int g26, .int g27, w_h0_blocks, w_h0_blockMany, w_h0_newBlocks, w_h0_newMany, .int u84, .int u85, .int g34])), (h0_in, .inl (cI, h0_in_n, .inl h0_in_f)), (h0_fresh, .inl (cI, h0_fresh_n, .inl f24)), (h0_dict, .inl (cI, h0_dict_n, .inl h0_dict_f))]) [0] [1, 2, 3] [3, 0, 1, 2] rfl rfl (by decide) (by decide) rfl (by decide) (fun H locs hP hD hS => ?_)
            obtain ⟨hzb, hf⟩ := bch_some hf
            replace hf : some (r83, g29, g25, g26, g27, u84, u85, g34, f24) = some (o_r, o_h0_freshSize, o_h0_copiesOf, o_h0_literalsOf, o_h0_partsOf, o_h0_rule, o_h0_place, o_h0_at, o_h0_fresh_f) := by have hq := hk_23; rw [iter_exit hf hr_23] at hq; exact hq
            obtain ⟨rfl, hq_1⟩ := Prod.mk.inj (Option.some.inj hf)
            obtain ⟨rfl, hq_2⟩ := Prod.mk.inj hq_1
            obtain ⟨rfl, hq_3⟩ := Prod.mk.inj hq_2
            obtain ⟨rfl, hq_4⟩ := Prod.mk.inj hq_3
            obtain ⟨rfl, hq_5⟩ := Prod.mk.inj hq_4
            obtain ⟨rfl, hq_6⟩ := Prod.mk.inj hq_5
            obtain ⟨rfl, hq_7⟩ := Prod.mk.inj hq_6
            obtain ⟨rfl, hq_8⟩ := Prod.mk.inj hq_7
            obtain rfl := hq_8
            exact rt_z hQ hx hb hr hzb hlocks hP hD hS dX12_readSequences_164
        refine lv_icmp_ne (tgt := 147) hx hb dX12_readSequences_85 (by decide) (fun c_85 => ?_) (fun c_85 => ?_)
        · replace hf := if_f c_85 hf
          exact hJ_147 p_33 v6_31 _ _ _ hf hP hD hS (lv_sub hl [3, 4, 5, 6, 2, 1, 0] rfl)
        · replace hf := if_t c_85 hf
          refine lv_sipush (v := 255) hx hb dX12_readSequences_88 (by decide) ?_
          refine lv_istore (lv' := [(8, .int (255 : Int32)), (7, .int v7_32), (6, .int v6_31), (5, .int g28), (0, .ref h0), (1, .int a1), (2, .int a2), (4, .int j4_30)]) hx hb dX12_readSequences_91 hl (by decide) rfl (fun ls hl => ?_)
          obtain ⟨o_93, hi_93, hk_93⟩ := bind_some hf
          have hL_93 : ∀ (n : Nat) (g86 : Int32) (j6_87 : Int32) (j8_88 : Int32) (H : Heap) (locs : List Loc) (ls : Array Slot), iter (fun st => m_Mo_readSequences_B93 a1 h0_in_n h0_in_f f24 g25 g26 g27 g29 st.1 st.2.1 st.2.2) n (g86, j6_87, j8_88) = some o_93 → va_P (dC, dI) vwCl [(h0, .inr (10, [.ref h0_in, w_h0_inSize, w_h0_out, w_h0_outSize, .ref h0_dict, .int h0_dictSize, w_h0_told, .ref h0_fresh, .int g29, w_h0_text, w_h0_lean, w_h0_size, w_h0_most, w_h0_offset, w_h0_copyAt, w_h0_copies, w_h0_copyLength, w_h0_copyOffset, w_h0_fromHere, w_h0_withCopy, w_h0_bestCopy, w_h0_bestLiterals, .int g25, .int g26, .int g27, w_h0_blocks, w_h0_blockMany, w_h0_newBlocks, w_h0_newMany, .int h0_rule, .int h0_place, .int g86])), (h0_in, .inl (cI, h0_in_n, .inl h0_in_f)), (h0_fresh, .inl (cI, h0_fresh_n, .inl f24)), (h0_dict, .inl (cI, h0_dict_n, .inl h0_dict_f))] H → va_D A [(h0, .inr (10, [.ref h0_in, w_h0_inSize, w_h0_out, w_h0_outSize, .ref h0_dict, .int h0_dictSize, w_h0_told, .ref h0_fresh, .int g29, w_h0_text, w_h0_lean, w_h0_size, w_h0_most, w_h0_offset, w_h0_copyAt, w_h0_copies, w_h0_copyLength, w_h0_copyOffset, w_h0_fromHere, w_h0_withCopy, w_h0_bestCopy, w_h0_bestLiterals, .int g25, .int g26, .int g27, w_h0_blocks, w_h0_blockMany, w_h0_newBlocks, w_h0_newMany, .int h0_rule, .int h0_place, .int g86])), (h0_in, .inl (cI, h0_in_n, .inl h0_in_f)), (h0_fresh, .inl (cI, h0_fresh_n, .inl f24)), (h0_dict, .inl (cI, h0_dict_n, .inl h0_dict_f))] → va_S A s.heap H locs → lv_has ls 11 [(0, .ref h0), (1, .int a1), (2, .int a2), (4, .int j4_30), (5, .int g28), (6, .int j6_87), (7, .int v7_32), (8, .int j8_88)] → W p l e (rm_Mo_readSequences) s m ([.ref h0, .int a1, .int a2] : List Value).toArray below meth c H locs 0 0 Q (F0 m 93 ls []) := by
            intro n
            induction n with
            | zero => intro g86 j6_87 j8_88 H locs ls hf; exact absurd hf (fun z => by cases z)
            | succ n ih_93 =>
              intro g86 j6_87 j8_88 H locs ls hf hP hD hS hl
              obtain ⟨r_93, hf, hr_93⟩ := iter_succ hf
              have hf : m_Mo_readSequences_B93 a1 h0_in_n h0_in_f f24 g25 g26 g27 g29 g86 j6_87 j8_88 = some r_93 := hf
              unfold m_Mo_readSequences_B93 at hf
              refine lv_iload hx hb dX12_readSequences_93 (lv_at hl 7 rfl) ?_
              refine lv_sipush (v := 255) hx hb dX12_readSequences_95 (by decide) ?_
              refine lv_icmp_ne (tgt := 147) hx hb dX12_readSequences_98 (by decide) (fun c_98 => ?_) (fun c_98 => ?_)
              · replace hf := if_f c_98 hf
                have hf : m_Mo_readSequences_J147 a1 a2 h0_dictSize h0_in_n h0_in_f h0_fresh_n h0_dict_n h0_dict_f f24 g25 g26 g27 g28 g29 j4_30 v7_32 g86 j6_87 = some r_23 := by have hq := hk_93; rw [iter_exit hf hr_93] at hq; exact hq
                exact hJ_147 g86 j6_87 _ _ _ hf hP hD hS (lv_sub hl [0, 1, 2, 3, 4, 5, 6] rfl)
              · replace hf := if_t c_98 hf
                refine lv_aload_n hx hb dX12_readSequences_101 rfl (lv_at hl 0 rfl) ?_
                refine va_get (D := (dC, dI)) (ci := 10) (v := .int g86) (C := RX12) (T := TX12) (N := 32) hx hb hts inG_X12 hown hK hP 0 rfl rfl 31 (by decide) (hts _ kw_1083) (fun _ h9 => h9) rfl dX12_readSequences_102 ?_
                refine lv_iload_n hx hb dX12_readSequences_105 rfl (lv_at hl 1 rfl) ?_
                refine lv_icmp_lt (tgt := 116) hx hb dX12_readSequences_106 (by decide) (fun c_106 => ?_) (fun c_106 => ?_)
                · replace hf := if_t c_106 hf
                  refine lv_aload_n hx hb dX12_readSequences_116 rfl (lv_at hl 0 rfl) ?_
                  refine va_get (D := (dC, dI)) (ci := 10) (v := .ref h0_in) (C := RX12) (T := TX12) (N := 32) hx hb hts inG_X12 hown hK hP 0 rfl rfl 0 (by decide) (hts _ kw_1052) (fun _ h9 => h9) rfl dX12_readSequences_117 ?_
                  refine lv_aload_n hx hb dX12_readSequences_120 rfl (lv_at hl 0 rfl) ?_
                  refine va_get (D := (dC, dI)) (ci := 10) (v := .int g86) (C := RX12) (T := TX12) (N := 32) hx hb hts inG_X12 hown hK hP 0 rfl rfl 31 (by decide) (hts _ kw_1083) (fun _ h9 => h9) rfl dX12_readSequences_121 ?_
                  obtain ⟨hin, hf⟩ := chk_some hf
                  refine va_iald hx hb hK hP 1 1 rfl rfl hin dX12_readSequences_124 ?_
                  refine lv_topi (fun v8_89 e_v8_89 => ?_)
                  replace hf := bnd_at e_v8_89 hf
                  refine lv_istore (lv' := [(8, .int v8_89), (0, .ref h0), (1, .int a1), (2, .int a2), (4, .int j4_30), (5, .int g28), (6, .int j6_87), (7, .int v7_32)]) hx hb dX12_readSequences_125 hl (by decide) rfl (fun ls hl => ?_)
                  refine lv_iload hx hb dX12_readSequences_127 (lv_at hl 6 rfl) ?_
                  refine lv_iload hx hb dX12_readSequences_129 (lv_at hl 0 rfl) ?_
                  refine lv_iadd hx hb dX12_readSequences_131 ?_
                  refine lv_topi (fun v6_90 e_v6_90 => ?_)
                  replace hf := bnd_at e_v6_90 hf
                  refine lv_istore (lv' := [(6, .int v6_90), (8, .int v8_89), (0, .ref h0), (1, .int a1), (2, .int a2), (4, .int j4_30), (5, .int g28), (7, .int v7_32)]) hx hb dX12_readSequences_132 hl (by decide) rfl (fun ls hl => ?_)
                  refine lv_aload_n hx hb dX12_readSequences_134 rfl (lv_at hl 2 rfl) ?_
                  refine lv_dup hx hb dX12_readSequences_135 rfl ?_
                  refine va_get (D := (dC, dI)) (ci := 10) (v := .int g86) (C := RX12) (T := TX12) (N := 32) hx hb hts inG_X12 hown hK hP 0 rfl rfl 31 (by decide) (hts _ kw_1083) (fun _ h9 => h9) rfl dX12_readSequences_136 ?_
                  refine lv_iconst (v := 1) hx hb dX12_readSequences_139 (by decide) ?_
                  refine lv_iadd hx hb dX12_readSequences_140 ?_
                  refine lv_topi (fun p_91 e_p_91 => ?_)
                  replace hf := bnd_at e_p_91 hf
                  refine va_put (D := (dC, dI)) (ci := 10) (v := .int p_91) (ty := .int) (C := RX12) (T := TX12) (N := 32) hx hb hts inG_X12 tyX12 tyX12_ok nmX12 hown hK hP hD hS 0 rfl rfl 31 (by decide) (hts _ kw_1083) (fun _ h9 => h9) rfl (by decide +kernel) rfl rfl (Nat.le_of_ble_eq_true rfl) dX12_readSequences_141 (fun H locs hP hD hS => ?_)
                  have hP : va_P (dC, dI) vwCl [(h0, .inr (10, [.ref h0_in, w_h0_inSize, w_h0_out, w_h0_outSize, .ref h0_dict, .int h0_dictSize, w_h0_told, .ref h0_fresh, .int g29, w_h0_text, w_h0_lean, w_h0_size, w_h0_most, w_h0_offset, w_h0_copyAt, w_h0_copies, w_h0_copyLength, w_h0_copyOffset, w_h0_fromHere, w_h0_withCopy, w_h0_bestCopy, w_h0_bestLiterals, .int g25, .int g26, .int g27, w_h0_blocks, w_h0_blockMany, w_h0_newBlocks, w_h0_newMany, .int h0_rule, .int h0_place, .int p_91])), (h0_in, .inl (cI, h0_in_n, .inl h0_in_f)), (h0_fresh, .inl (cI, h0_fresh_n, .inl f24)), (h0_dict, .inl (cI, h0_dict_n, .inl h0_dict_f))] H := hP
                  have hD : va_D A [(h0, .inr (10, [.ref h0_in, w_h0_inSize, w_h0_out, w_h0_outSize, .ref h0_dict, .int h0_dictSize, w_h0_told, .ref h0_fresh, .int g29, w_h0_text, w_h0_lean, w_h0_size, w_h0_most, w_h0_offset, w_h0_copyAt, w_h0_copies, w_h0_copyLength, w_h0_copyOffset, w_h0_fromHere, w_h0_withCopy, w_h0_bestCopy, w_h0_bestLiterals, .int g25, .int g26, .int g27, w_h0_blocks, w_h0_blockMany, w_h0_newBlocks, w_h0_newMany, .int h0_rule, .int h0_place, .int p_91])), (h0_in, .inl (cI, h0_in_n, .inl h0_in_f)), (h0_fresh, .inl (cI, h0_fresh_n, .inl f24)), (h0_dict, .inl (cI, h0_dict_n, .inl h0_dict_f))] := hD
                  refine lv_goto (tgt := 93) hx hb dX12_readSequences_144 (by decide) ?_
                  exact ih_93 p_91 v6_90 v8_89 _ _ _ (iter_back hf hr_93) hP hD hS (lv_sub hl [2, 3, 4, 5, 6, 0, 7, 1] rfl)
                · replace hf := if_f c_106 hf
                  refine lv_aload_n hx hb dX12_readSequences_109 rfl (lv_at hl 0 rfl) ?_
                  refine lv_iconst (v := 1) hx hb dX12_readSequences_110 (by decide) ?_
                  refine lv_iload_n hx hb dX12_readSequences_111 rfl (lv_at hl 1 rfl) ?_
                  obtain ⟨x, hc, hf⟩ := bind_some hf
                  obtain ⟨r92, u93, u94⟩ := x
                  dsimp only at hf
                  refine nx_i (rn_V (As := [.int (1 : Int32), .int a1]) (rest := []) (n := 2) (ci := 10) (q0 := 0) ⟨hx, hb, hml, hown, hts⟩ (c_Mo_no (l := l) (dC := dC) (dI := dI) (cB := cB) (cI := cI) (h0 := h0) (a1 := (1 : Int32)) (a2 := a1) (w_h0_in := (.ref h0_in)) (w_h0_inSize := (w_h0_inSize)) (w_h0_out := (w_h0_out)) (w_h0_outSize := (w_h0_outSize)) (w_h0_dict := (.ref h0_dict)) (w_h0_dictSize := (.int h0_dictSize)) (w_h0_told := (w_h0_told)) (w_h0_fresh := (.ref h0_fresh)) (w_h0_freshSize := (.int g29)) (w_h0_text := (w_h0_text)) (w_h0_lean := (w_h0_lean)) (w_h0_size := (w_h0_size)) (w_h0_most := (w_h0_most)) (w_h0_offset := (w_h0_offset)) (w_h0_copyAt := (w_h0_copyAt)) (w_h0_copies := (w_h0_copies)) (w_h0_copyLength := (w_h0_copyLength)) (w_h0_copyOffset := (w_h0_copyOffset)) (w_h0_fromHere := (w_h0_fromHere)) (w_h0_withCopy := (w_h0_withCopy)) (w_h0_bestCopy := (w_h0_bestCopy)) (w_h0_bestLiterals := (w_h0_bestLiterals)) (w_h0_copiesOf := (.int g25)) (w_h0_literalsOf := (.int g26)) (w_h0_partsOf := (.int g27)) (w_h0_blocks := (w_h0_blocks)) (w_h0_blockMany := (w_h0_blockMany)) (w_h0_newBlocks := (w_h0_newBlocks)) (w_h0_newMany := (w_h0_newMany)) (h0_rule := h0_rule) (h0_place := h0_place) (w_h0_at := (.int g86)) (o_h0_rule := u93) (o_h0_place := u94) (o_r := r92) hc) (wV kw_1353 kw_1355 kw_72 kw_94 kw_1356) (by decide +kernel) ⟨Nat.le_of_ble_eq_true rfl, Nat.le_of_ble_eq_true rfl⟩ hK hP hD hN hT hS (va_free (wc := [(h0, .inr (10, [.ref h0_in, w_h0_inSize, w_h0_out, w_h0_outSize, .ref h0_dict, .int h0_dictSize, w_h0_told, .ref h0_fresh, .int g29, w_h0_text, w_h0_lean, w_h0_size, w_h0_most, w_h0_offset, w_h0_copyAt, w_h0_copies, w_h0_copyLength, w_h0_copyOffset, w_h0_fromHere, w_h0_withCopy, w_h0_bestCopy, w_h0_bestLiterals, .int g25, .int g26, .int g27, w_h0_blocks, w_h0_blockMany, w_h0_newBlocks, w_h0_newMany, .int h0_rule, .int h0_place, .int g86]))]) hD hS hA [0] rfl) [0] rfl (by decide) rfl rfl rfl hl.1 rfl (lv_room (Nat.le_of_ble_eq_true rfl)) dX12_readSequences_112 ⟨Nat.le_of_ble_eq_true rfl, Nat.le_of_ble_eq_true rfl⟩) hP hD hS hA (wr := [(h0_in, .inl (cI, h0_in_n, .inl h0_in_f)), (h0_fresh, .inl (cI, h0_fresh_n, .inl f24)), (h0_dict, .inl (cI, h0_dict_n, .inl h0_dict_f))]) (w1 := [(h0, .inr (10, [.ref h0_in, w_h0_inSize, w_h0_out, w_h0_outSize, .ref h0_dict, .int h0_dictSize, w_h0_told, .ref h0_fresh, .int g29, w_h0_text, w_h0_lean, w_h0_size, w_h0_most, w_h0_offset, w_h0_copyAt, w_h0_copies, w_h0_copyLength, w_h0_copyOffset, w_h0_fromHere, w_h0_withCopy, w_h0_bestCopy, w_h0_bestLiterals, .int g25, .int g26, .int g27, w_h0_blocks, w_h0_blockMany, w_h0_newBlocks, w_h0_newMany, .int u93, .int u94, .int g86]))]) (ws' := [(h0, .inr (10, [.ref h0_in, w_h0_inSize, w_h0_out, w_h0_outSize, .ref h0_dict, .int h0_dictSize, w_h0_told, .ref h0_fresh, .int g29, w_h0_text, w_h0_lean, w_h0_size, w_h0_most, w_h0_offset, w_h0_copyAt, w_h0_copies, w_h0_copyLength, w_h0_copyOffset, w_h0_fromHere, w_h0_withCopy, w_h0_bestCopy, w_h0_bestLiterals, .int g25, .int g26, .int g27, w_h0_blocks, w_h0_blockMany, w_h0_newBlocks, w_h0_newMany, .int u93, .int u94, .int g86])), (h0_in, .inl (cI, h0_in_n, .inl h0_in_f)), (h0_fresh, .inl (cI, h0_fresh_n, .inl f24)), (h0_dict, .inl (cI, h0_dict_n, .inl h0_dict_f))]) [0] [1, 2, 3] [3, 0, 1, 2] rfl rfl (by decide) (by decide) rfl (by decide) (fun H locs hP hD hS => ?_)
                  obtain ⟨hzb, hf⟩ := bch_some hf
                  replace hf : some (.inr (.inr (.inr (r92, g29, g25, g26, g27, u93, u94, g86, f24)))) = some r_23 := by have hq := hk_93; rw [iter_exit hf hr_93] at hq; exact hq
                  replace hf : some (r92, g29, g25, g26, g27, u93, u94, g86, f24) = some (o_r, o_h0_freshSize, o_h0_copiesOf, o_h0_literalsOf, o_h0_partsOf, o_h0_rule, o_h0_place, o_h0_at, o_h0_fresh_f) := by have hq := hk_23; rw [iter_exit hf hr_23] at hq; exact hq
                  obtain ⟨rfl, hq_1⟩ := Prod.mk.inj (Option.some.inj hf)
                  obtain ⟨rfl, hq_2⟩ := Prod.mk.inj hq_1
                  obtain ⟨rfl, hq_3⟩ := Prod.mk.inj hq_2
                  obtain ⟨rfl, hq_4⟩ := Prod.mk.inj hq_3
                  obtain ⟨rfl, hq_5⟩ := Prod.mk.inj hq_4
                  obtain ⟨rfl, hq_6⟩ := Prod.mk.inj hq_5
                  obtain ⟨rfl, hq_7⟩ := Prod.mk.inj hq_6
                  obtain ⟨rfl, hq_8⟩ := Prod.mk.inj hq_7
                  obtain rfl := hq_8
                  exact rt_z hQ hx hb hr hzb hlocks hP hD hS dX12_readSequences_115
          exact hL_93 FU p_33 v6_31 (255 : Int32) _ _ _ hi_93 hP hD hS (lv_sub hl [4, 5, 6, 7, 3, 2, 1, 0] rfl)
      · replace hf := if_f c_34 hf
        refine lv_aload_n hx hb dX12_readSequences_37 rfl (lv_at hl 1 rfl) ?_
        refine lv_iconst (v := 1) hx hb dX12_readSequences_38 (by decide) ?_
        refine lv_iload_n hx hb dX12_readSequences_39 rfl (lv_at hl 2 rfl) ?_
        obtain ⟨x, hc, hf⟩ := bind_some hf
        obtain ⟨r95, u96, u97⟩ := x
        dsimp only at hf
        refine nx_i (rn_V (As := [.int (1 : Int32), .int a1]) (rest := []) (n := 2) (ci := 10) (q0 := 0) ⟨hx, hb, hml, hown, hts⟩ (c_Mo_no (l := l) (dC := dC) (dI := dI) (cB := cB) (cI := cI) (h0 := h0) (a1 := (1 : Int32)) (a2 := a1) (w_h0_in := (.ref h0_in)) (w_h0_inSize := (w_h0_inSize)) (w_h0_out := (w_h0_out)) (w_h0_outSize := (w_h0_outSize)) (w_h0_dict := (.ref h0_dict)) (w_h0_dictSize := (.int h0_dictSize)) (w_h0_told := (w_h0_told)) (w_h0_fresh := (.ref h0_fresh)) (w_h0_freshSize := (.int g29)) (w_h0_text := (w_h0_text)) (w_h0_lean := (w_h0_lean)) (w_h0_size := (w_h0_size)) (w_h0_most := (w_h0_most)) (w_h0_offset := (w_h0_offset)) (w_h0_copyAt := (w_h0_copyAt)) (w_h0_copies := (w_h0_copies)) (w_h0_copyLength := (w_h0_copyLength)) (w_h0_copyOffset := (w_h0_copyOffset)) (w_h0_fromHere := (w_h0_fromHere)) (w_h0_withCopy := (w_h0_withCopy)) (w_h0_bestCopy := (w_h0_bestCopy)) (w_h0_bestLiterals := (w_h0_bestLiterals)) (w_h0_copiesOf := (.int g25)) (w_h0_literalsOf := (.int g26)) (w_h0_partsOf := (.int g27)) (w_h0_blocks := (w_h0_blocks)) (w_h0_blockMany := (w_h0_blockMany)) (w_h0_newBlocks := (w_h0_newBlocks)) (w_h0_newMany := (w_h0_newMany)) (h0_rule := h0_rule) (h0_place := h0_place) (w_h0_at := (.int g28)) (o_h0_rule := u96) (o_h0_place := u97) (o_r := r95) hc) (wV kw_1353 kw_1355 kw_72 kw_94 kw_1356) (by decide +kernel) ⟨Nat.le_of_ble_eq_true rfl, Nat.le_of_ble_eq_true rfl⟩ hK hP hD hN hT hS (va_free (wc := [(h0, .inr (10, [.ref h0_in, w_h0_inSize, w_h0_out, w_h0_outSize, .ref h0_dict, .int h0_dictSize, w_h0_told, .ref h0_fresh, .int g29, w_h0_text, w_h0_lean, w_h0_size, w_h0_most, w_h0_offset, w_h0_copyAt, w_h0_copies, w_h0_copyLength, w_h0_copyOffset, w_h0_fromHere, w_h0_withCopy, w_h0_bestCopy, w_h0_bestLiterals, .int g25, .int g26, .int g27, w_h0_blocks, w_h0_blockMany, w_h0_newBlocks, w_h0_newMany, .int h0_rule, .int h0_place, .int g28]))]) hD hS hA [0] rfl) [0] rfl (by decide) rfl rfl rfl hl.1 rfl (lv_room (Nat.le_of_ble_eq_true rfl)) dX12_readSequences_40 ⟨Nat.le_of_ble_eq_true rfl, Nat.le_of_ble_eq_true rfl⟩) hP hD hS hA (wr := [(h0_in, .inl (cI, h0_in_n, .inl h0_in_f)), (h0_fresh, .inl (cI, h0_fresh_n, .inl f24)), (h0_dict, .inl (cI, h0_dict_n, .inl h0_dict_f))]) (w1 := [(h0, .inr (10, [.ref h0_in, w_h0_inSize, w_h0_out, w_h0_outSize, .ref h0_dict, .int h0_dictSize, w_h0_told, .ref h0_fresh, .int g29, w_h0_text, w_h0_lean, w_h0_size, w_h0_most, w_h0_offset, w_h0_copyAt, w_h0_copies, w_h0_copyLength, w_h0_copyOffset, w_h0_fromHere, w_h0_withCopy, w_h0_bestCopy, w_h0_bestLiterals, .int g25, .int g26, .int g27, w_h0_blocks, w_h0_blockMany, w_h0_newBlocks, w_h0_newMany, .int u96, .int u97, .int g28]))]) (ws' := [(h0, .inr (10, [.ref h0_in, w_h0_inSize, w_h0_out, w_h0_outSize, .ref h0_dict, .int h0_dictSize, w_h0_told, .ref h0_fresh, .int g29, w_h0_text, w_h0_lean, w_h0_size, w_h0_most, w_h0_offset, w_h0_copyAt, w_h0_copies, w_h0_copyLength, w_h0_copyOffset, w_h0_fromHere, w_h0_withCopy, w_h0_bestCopy, w_h0_bestLiterals, .int g25, .int g26, .int g27, w_h0_blocks, w_h0_blockMany, w_h0_newBlocks, w_h0_newMany, .int u96, .int u97, .int g28])), (h0_in, .inl (cI, h0_in_n, .inl h0_in_f)), (h0_fresh, .inl (cI, h0_fresh_n, .inl f24)), (h0_dict, .inl (cI, h0_dict_n, .inl h0_dict_f))]) [0] [1, 2, 3] [3, 0, 1, 2] rfl rfl (by decide) (by decide) rfl (by decide) (fun H locs hP hD hS => ?_)
        obtain ⟨hzb, hf⟩ := bch_some hf
        replace hf : some (r95, g29, g25, g26, g27, u96, u97, g28, f24) = some (o_r, o_h0_freshSize, o_h0_copiesOf, o_h0_literalsOf, o_h0_partsOf, o_h0_rule, o_h0_place, o_h0_at, o_h0_fresh_f) := by have hq := hk_23; rw [iter_exit hf hr_23] at hq; exact hq
        obtain ⟨rfl, hq_1⟩ := Prod.mk.inj (Option.some.inj hf)
        obtain ⟨rfl, hq_2⟩ := Prod.mk.inj hq_1
        obtain ⟨rfl, hq_3⟩ := Prod.mk.inj hq_2
        obtain ⟨rfl, hq_4⟩ := Prod.mk.inj hq_3
        obtain ⟨rfl, hq_5⟩ := Prod.mk.inj hq_4
        obtain ⟨rfl, hq_6⟩ := Prod.mk.inj hq_5
        obtain ⟨rfl, hq_7⟩ := Prod.mk.inj hq_6
        obtain ⟨rfl, hq_8⟩ := Prod.mk.inj hq_7
        obtain rfl := hq_8
        exact rt_z hQ hx hb hr hzb hlocks hP hD hS dX12_readSequences_43
  exact hL_23 FU h0_fresh_f (0 : Int32) (0 : Int32) (0 : Int32) h0_at h0_freshSize (0 : Int32) _ _ _ hi_23 hP hD hS (lv_sub hl [2, 3, 4, 0] rfl)

theorem dX12_readElements_0 : decode cX12_readElements 0 = .ok (.aload_n 0, 1) := by decide +kernel
theorem dX12_readElements_1 : decode cX12_readElements 1 = .ok (.getfield 108, 3) := by decide +kernel
theorem dX12_readElements_4 : decode cX12_readElements 4 = .ok (.istore_n 2, 1) := by decide +kernel
theorem dX12_readElements_5 : decode cX12_readElements 5 = .ok (.aload_n 0, 1) := by decide +kernel
theorem dX12_readElements_6 : decode cX12_readElements 6 = .ok (.getfield 232, 3) := by decide +kernel
theorem dX12_readElements_9 : decode cX12_readElements 9 = .ok (.istore_n 3, 1) := by decide +kernel
theorem dX12_readElements_10 : decode cX12_readElements 10 = .ok (.aload_n 0, 1) := by decide +kernel
theorem dX12_readElements_11 : decode cX12_readElements 11 = .ok (.iconst 0, 1) := by decide +kernel
theorem dX12_readElements_12 : decode cX12_readElements 12 = .ok (.putfield 125, 3) := by decide +kernel
theorem dX12_readElements_15 : decode cX12_readElements 15 = .ok (.aload_n 0, 1) := by decide +kernel
theorem dX12_readElements_16 : decode cX12_readElements 16 = .ok (.iconst 0, 1) := by decide +kernel
theorem dX12_readElements_17 : decode cX12_readElements 17 = .ok (.putfield 128, 3) := by decide +kernel
theorem dX12_readElements_20 : decode cX12_readElements 20 = .ok (.aload_n 0, 1) := by decide +kernel
theorem dX12_readElements_21 : decode cX12_readElements 21 = .ok (.iconst 0, 1) := by decide +kernel
theorem dX12_readElements_22 : decode cX12_readElements 22 = .ok (.putfield 142, 3) := by decide +kernel
theorem dX12_readElements_25 : decode cX12_readElements 25 = .ok (.lconst 0, 1) := by decide +kernel
theorem dX12_readElements_26 : decode cX12_readElements 26 = .ok (.lstore 4, 2) := by decide +kernel
theorem dX12_readElements_28 : decode cX12_readElements 28 = .ok (.iconst 0, 1) := by decide +kernel
theorem dX12_readElements_29 : decode cX12_readElements 29 = .ok (.istore 6, 2) := by decide +kernel
theorem dX12_readElements_31 : decode cX12_readElements 31 = .ok (.sipush 128, 3) := by decide +kernel
theorem dX12_readElements_34 : decode cX12_readElements 34 = .ok (.istore 7, 2) := by decide +kernel
theorem dX12_readElements_36 : decode cX12_readElements 36 = .ok (.iload 7, 2) := by decide +kernel
theorem dX12_readElements_38 : decode cX12_readElements 38 = .ok (.sipush 128, 3) := by decide +kernel
theorem dX12_readElements_41 : decode cX12_readElements 41 = .ok (.if_icmp .lt 76, 3) := by decide +kernel
theorem dX12_readElements_44 : decode cX12_readElements 44 = .ok (.iload 6, 2) := by decide +kernel
theorem dX12_readElements_46 : decode cX12_readElements 46 = .ok (.iconst 5, 1) := by decide +kernel
theorem dX12_readElements_47 : decode cX12_readElements 47 = .ok (.if_icmp .ne 11, 3) := by decide +kernel
theorem dX12_readElements_50 : decode cX12_readElements 50 = .ok (.aload_n 0, 1) := by decide +kernel
theorem dX12_readElements_51 : decode cX12_readElements 51 = .ok (.bipush 13, 2) := by decide +kernel
theorem dX12_readElements_53 : decode cX12_readElements 53 = .ok (.iload_n 3, 1) := by decide +kernel
theorem dX12_readElements_54 : decode cX12_readElements 54 = .ok (.invokevirtual 235, 3) := by decide +kernel
theorem dX12_readElements_57 : decode cX12_readElements 57 = .ok (.ireturn, 1) := by decide +kernel
theorem dX12_readElements_58 : decode cX12_readElements 58 = .ok (.aload_n 0, 1) := by decide +kernel
theorem dX12_readElements_59 : decode cX12_readElements 59 = .ok (.getfield 232, 3) := by decide +kernel
theorem dX12_readElements_62 : decode cX12_readElements 62 = .ok (.iload_n 1, 1) := by decide +kernel
theorem dX12_readElements_63 : decode cX12_readElements 63 = .ok (.if_icmp .lt 10, 3) := by decide +kernel
theorem dX12_readElements_66 : decode cX12_readElements 66 = .ok (.aload_n 0, 1) := by decide +kernel
theorem dX12_readElements_67 : decode cX12_readElements 67 = .ok (.iconst 1, 1) := by decide +kernel
theorem dX12_readElements_68 : decode cX12_readElements 68 = .ok (.iload_n 1, 1) := by decide +kernel
theorem dX12_readElements_69 : decode cX12_readElements 69 = .ok (.invokevirtual 235, 3) := by decide +kernel
theorem dX12_readElements_72 : decode cX12_readElements 72 = .ok (.ireturn, 1) := by decide +kernel
theorem dX12_readElements_73 : decode cX12_readElements 73 = .ok (.aload_n 0, 1) := by decide +kernel
theorem dX12_readElements_74 : decode cX12_readElements 74 = .ok (.getfield 170, 3) := by decide +kernel
theorem dX12_readElements_77 : decode cX12_readElements 77 = .ok (.aload_n 0, 1) := by decide +kernel
theorem dX12_readElements_78 : decode cX12_readElements 78 = .ok (.getfield 232, 3) := by decide +kernel
theorem dX12_readElements_81 : decode cX12_readElements 81 = .ok (.iaload, 1) := by decide +kernel
theorem dX12_readElements_82 : decode cX12_readElements 82 = .ok (.istore 7, 2) := by decide +kernel
theorem dX12_readElements_84 : decode cX12_readElements 84 = .ok (.lload 4, 2) := by decide +kernel
theorem dX12_readElements_86 : decode cX12_readElements 86 = .ok (.iload 7, 2) := by decide +kernel
theorem dX12_readElements_88 : decode cX12_readElements 88 = .ok (.bipush 127, 2) := by decide +kernel
theorem dX12_readElements_90 : decode cX12_readElements 90 = .ok (.iand, 1) := by decide +kernel
theorem dX12_readElements_91 : decode cX12_readElements 91 = .ok (.i2l, 1) := by decide +kernel
theorem dX12_readElements_92 : decode cX12_readElements 92 = .ok (.bipush 7, 2) := by decide +kernel
theorem dX12_readElements_94 : decode cX12_readElements 94 = .ok (.iload 6, 2) := by decide +kernel
theorem dX12_readElements_96 : decode cX12_readElements 96 = .ok (.imul, 1) := by decide +kernel
theorem dX12_readElements_97 : decode cX12_readElements 97 = .ok (.lshl, 1) := by decide +kernel
theorem dX12_readElements_98 : decode cX12_readElements 98 = .ok (.lor, 1) := by decide +kernel
theorem dX12_readElements_99 : decode cX12_readElements 99 = .ok (.lstore 4, 2) := by decide +kernel
theorem dX12_readElements_101 : decode cX12_readElements 101 = .ok (.iinc 6 1, 3) := by decide +kernel
theorem dX12_readElements_104 : decode cX12_readElements 104 = .ok (.aload_n 0, 1) := by decide +kernel
theorem dX12_readElements_105 : decode cX12_readElements 105 = .ok (.dup, 1) := by decide +kernel
theorem dX12_readElements_106 : decode cX12_readElements 106 = .ok (.getfield 232, 3) := by decide +kernel
theorem dX12_readElements_109 : decode cX12_readElements 109 = .ok (.iconst 1, 1) := by decide +kernel
theorem dX12_readElements_110 : decode cX12_readElements 110 = .ok (.iadd, 1) := by decide +kernel
theorem dX12_readElements_111 : decode cX12_readElements 111 = .ok (.putfield 232, 3) := by decide +kernel
theorem dX12_readElements_114 : decode cX12_readElements 114 = .ok (.goto (-78), 3) := by decide +kernel
theorem dX12_readElements_117 : decode cX12_readElements 117 = .ok (.lload 4, 2) := by decide +kernel
theorem dX12_readElements_119 : decode cX12_readElements 119 = .ok (.ldc2_w 243, 3) := by decide +kernel
theorem dX12_readElements_122 : decode cX12_readElements 122 = .ok (.lcmp, 1) := by decide +kernel
theorem dX12_readElements_123 : decode cX12_readElements 123 = .ok (.ifCond .le 11, 3) := by decide +kernel
theorem dX12_readElements_126 : decode cX12_readElements 126 = .ok (.aload_n 0, 1) := by decide +kernel
theorem dX12_readElements_127 : decode cX12_readElements 127 = .ok (.bipush 13, 2) := by decide +kernel
theorem dX12_readElements_129 : decode cX12_readElements 129 = .ok (.iload_n 3, 1) := by decide +kernel
theorem dX12_readElements_130 : decode cX12_readElements 130 = .ok (.invokevirtual 235, 3) := by decide +kernel
theorem dX12_readElements_133 : decode cX12_readElements 133 = .ok (.ireturn, 1) := by decide +kernel
theorem dX12_readElements_134 : decode cX12_readElements 134 = .ok (.aload_n 0, 1) := by decide +kernel
theorem dX12_readElements_135 : decode cX12_readElements 135 = .ok (.getfield 108, 3) := by decide +kernel
theorem dX12_readElements_138 : decode cX12_readElements 138 = .ok (.i2l, 1) := by decide +kernel
theorem dX12_readElements_139 : decode cX12_readElements 139 = .ok (.lload 4, 2) := by decide +kernel
theorem dX12_readElements_141 : decode cX12_readElements 141 = .ok (.ladd, 1) := by decide +kernel
theorem dX12_readElements_142 : decode cX12_readElements 142 = .ok (.ldc2_w 245, 3) := by decide +kernel
theorem dX12_readElements_145 : decode cX12_readElements 145 = .ok (.lcmp, 1) := by decide +kernel
theorem dX12_readElements_146 : decode cX12_readElements 146 = .ok (.ifCond .le 11, 3) := by decide +kernel
theorem dX12_readElements_149 : decode cX12_readElements 149 = .ok (.aload_n 0, 1) := by decide +kernel
theorem dX12_readElements_150 : decode cX12_readElements 150 = .ok (.bipush 12, 2) := by decide +kernel
theorem dX12_readElements_152 : decode cX12_readElements 152 = .ok (.iload_n 3, 1) := by decide +kernel
theorem dX12_readElements_153 : decode cX12_readElements 153 = .ok (.invokevirtual 235, 3) := by decide +kernel
theorem dX12_readElements_156 : decode cX12_readElements 156 = .ok (.ireturn, 1) := by decide +kernel
theorem dX12_readElements_157 : decode cX12_readElements 157 = .ok (.aload_n 0, 1) := by decide +kernel
theorem dX12_readElements_158 : decode cX12_readElements 158 = .ok (.getfield 232, 3) := by decide +kernel
theorem dX12_readElements_161 : decode cX12_readElements 161 = .ok (.iload_n 1, 1) := by decide +kernel
theorem dX12_readElements_162 : decode cX12_readElements 162 = .ok (.if_icmp .ge 385, 3) := by decide +kernel
theorem dX12_readElements_165 : decode cX12_readElements 165 = .ok (.aload_n 0, 1) := by decide +kernel
theorem dX12_readElements_166 : decode cX12_readElements 166 = .ok (.getfield 232, 3) := by decide +kernel
theorem dX12_readElements_169 : decode cX12_readElements 169 = .ok (.istore 8, 2) := by decide +kernel
theorem dX12_readElements_171 : decode cX12_readElements 171 = .ok (.aload_n 0, 1) := by decide +kernel
theorem dX12_readElements_172 : decode cX12_readElements 172 = .ok (.getfield 170, 3) := by decide +kernel
theorem dX12_readElements_175 : decode cX12_readElements 175 = .ok (.aload_n 0, 1) := by decide +kernel
theorem dX12_readElements_176 : decode cX12_readElements 176 = .ok (.getfield 232, 3) := by decide +kernel
theorem dX12_readElements_179 : decode cX12_readElements 179 = .ok (.iaload, 1) := by decide +kernel
theorem dX12_readElements_180 : decode cX12_readElements 180 = .ok (.iconst 3, 1) := by decide +kernel
theorem dX12_readElements_181 : decode cX12_readElements 181 = .ok (.iand, 1) := by decide +kernel
theorem dX12_readElements_182 : decode cX12_readElements 182 = .ok (.istore 9, 2) := by decide +kernel
theorem dX12_readElements_184 : decode cX12_readElements 184 = .ok (.aload_n 0, 1) := by decide +kernel
theorem dX12_readElements_185 : decode cX12_readElements 185 = .ok (.getfield 170, 3) := by decide +kernel
theorem dX12_readElements_188 : decode cX12_readElements 188 = .ok (.aload_n 0, 1) := by decide +kernel
theorem dX12_readElements_189 : decode cX12_readElements 189 = .ok (.getfield 232, 3) := by decide +kernel
theorem dX12_readElements_192 : decode cX12_readElements 192 = .ok (.iaload, 1) := by decide +kernel
theorem dX12_readElements_193 : decode cX12_readElements 193 = .ok (.iconst 2, 1) := by decide +kernel
theorem dX12_readElements_194 : decode cX12_readElements 194 = .ok (.ishr, 1) := by decide +kernel
theorem dX12_readElements_195 : decode cX12_readElements 195 = .ok (.istore 10, 2) := by decide +kernel
theorem dX12_readElements_197 : decode cX12_readElements 197 = .ok (.aload_n 0, 1) := by decide +kernel
theorem dX12_readElements_198 : decode cX12_readElements 198 = .ok (.dup, 1) := by decide +kernel
theorem dX12_readElements_199 : decode cX12_readElements 199 = .ok (.getfield 232, 3) := by decide +kernel
theorem dX12_readElements_202 : decode cX12_readElements 202 = .ok (.iconst 1, 1) := by decide +kernel
theorem dX12_readElements_203 : decode cX12_readElements 203 = .ok (.iadd, 1) := by decide +kernel
theorem dX12_readElements_204 : decode cX12_readElements 204 = .ok (.putfield 232, 3) := by decide +kernel
theorem dX12_readElements_207 : decode cX12_readElements 207 = .ok (.iload 9, 2) := by decide +kernel
theorem dX12_readElements_209 : decode cX12_readElements 209 = .ok (.ifCond .ne 15, 3) := by decide +kernel
theorem dX12_readElements_212 : decode cX12_readElements 212 = .ok (.iconst 0, 1) := by decide +kernel
theorem dX12_readElements_213 : decode cX12_readElements 213 = .ok (.iload 10, 2) := by decide +kernel
theorem dX12_readElements_215 : decode cX12_readElements 215 = .ok (.bipush 59, 2) := by decide +kernel
theorem dX12_readElements_217 : decode cX12_readElements 217 = .ok (.isub, 1) := by decide +kernel
theorem dX12_readElements_218 : decode cX12_readElements 218 = .ok (.invokestatic 32, 3) := by decide +kernel
theorem dX12_readElements_221 : decode cX12_readElements 221 = .ok (.goto 15, 3) := by decide +kernel
theorem dX12_readElements_224 : decode cX12_readElements 224 = .ok (.iload 9, 2) := by decide +kernel
theorem dX12_readElements_226 : decode cX12_readElements 226 = .ok (.iconst 3, 1) := by decide +kernel
theorem dX12_readElements_227 : decode cX12_readElements 227 = .ok (.if_icmp .ne 7, 3) := by decide +kernel
theorem dX12_readElements_230 : decode cX12_readElements 230 = .ok (.iconst 4, 1) := by decide +kernel
theorem dX12_readElements_231 : decode cX12_readElements 231 = .ok (.goto 5, 3) := by decide +kernel
theorem dX12_readElements_234 : decode cX12_readElements 234 = .ok (.iload 9, 2) := by decide +kernel
theorem dX12_readElements_236 : decode cX12_readElements 236 = .ok (.istore 11, 2) := by decide +kernel
theorem dX12_readElements_238 : decode cX12_readElements 238 = .ok (.iload_n 1, 1) := by decide +kernel
theorem dX12_readElements_239 : decode cX12_readElements 239 = .ok (.aload_n 0, 1) := by decide +kernel
theorem dX12_readElements_240 : decode cX12_readElements 240 = .ok (.getfield 232, 3) := by decide +kernel
theorem dX12_readElements_243 : decode cX12_readElements 243 = .ok (.isub, 1) := by decide +kernel
theorem dX12_readElements_244 : decode cX12_readElements 244 = .ok (.iload 11, 2) := by decide +kernel
theorem dX12_readElements_246 : decode cX12_readElements 246 = .ok (.if_icmp .ge 10, 3) := by decide +kernel
theorem dX12_readElements_249 : decode cX12_readElements 249 = .ok (.aload_n 0, 1) := by decide +kernel
theorem dX12_readElements_250 : decode cX12_readElements 250 = .ok (.iconst 1, 1) := by decide +kernel
theorem dX12_readElements_251 : decode cX12_readElements 251 = .ok (.iload_n 1, 1) := by decide +kernel
theorem dX12_readElements_252 : decode cX12_readElements 252 = .ok (.invokevirtual 235, 3) := by decide +kernel
theorem dX12_readElements_255 : decode cX12_readElements 255 = .ok (.ireturn, 1) := by decide +kernel
theorem dX12_readElements_256 : decode cX12_readElements 256 = .ok (.aload_n 0, 1) := by decide +kernel
theorem dX12_readElements_257 : decode cX12_readElements 257 = .ok (.aload_n 0, 1) := by decide +kernel
theorem dX12_readElements_258 : decode cX12_readElements 258 = .ok (.getfield 232, 3) := by decide +kernel
theorem dX12_readElements_261 : decode cX12_readElements 261 = .ok (.iload 11, 2) := by decide +kernel
theorem dX12_readElements_263 : decode cX12_readElements 263 = .ok (.invokevirtual 239, 3) := by decide +kernel
theorem dX12_readElements_266 : decode cX12_readElements 266 = .ok (.lstore 12, 2) := by decide +kernel
theorem dX12_readElements_268 : decode cX12_readElements 268 = .ok (.aload_n 0, 1) := by decide +kernel
theorem dX12_readElements_269 : decode cX12_readElements 269 = .ok (.dup, 1) := by decide +kernel
theorem dX12_readElements_270 : decode cX12_readElements 270 = .ok (.getfield 232, 3) := by decide +kernel
theorem dX12_readElements_273 : decode cX12_readElements 273 = .ok (.iload 11, 2) := by decide +kernel
theorem dX12_readElements_275 : decode cX12_readElements 275 = .ok (.iadd, 1) := by decide +kernel
theorem dX12_readElements_276 : decode cX12_readElements 276 = .ok (.putfield 232, 3) := by decide +kernel
theorem dX12_readElements_279 : decode cX12_readElements 279 = .ok (.iload 9, 2) := by decide +kernel
theorem dX12_readElements_281 : decode cX12_readElements 281 = .ok (.ifCond .ne 25, 3) := by decide +kernel
theorem dX12_readElements_284 : decode cX12_readElements 284 = .ok (.iload 10, 2) := by decide +kernel
theorem dX12_readElements_286 : decode cX12_readElements 286 = .ok (.bipush 60, 2) := by decide +kernel
theorem dX12_readElements_288 : decode cX12_readElements 288 = .ok (.if_icmp .ge 11, 3) := by decide +kernel
theorem dX12_readElements_291 : decode cX12_readElements 291 = .ok (.iload 10, 2) := by decide +kernel
theorem dX12_readElements_293 : decode cX12_readElements 293 = .ok (.i2l, 1) := by decide +kernel
theorem dX12_readElements_294 : decode cX12_readElements 294 = .ok (.lconst 1, 1) := by decide +kernel
theorem dX12_readElements_295 : decode cX12_readElements 295 = .ok (.ladd, 1) := by decide +kernel
theorem dX12_readElements_296 : decode cX12_readElements 296 = .ok (.goto 32, 3) := by decide +kernel
theorem dX12_readElements_299 : decode cX12_readElements 299 = .ok (.lload 12, 2) := by decide +kernel
theorem dX12_readElements_301 : decode cX12_readElements 301 = .ok (.lconst 1, 1) := by decide +kernel
theorem dX12_readElements_302 : decode cX12_readElements 302 = .ok (.ladd, 1) := by decide +kernel
theorem dX12_readElements_303 : decode cX12_readElements 303 = .ok (.goto 25, 3) := by decide +kernel
theorem dX12_readElements_306 : decode cX12_readElements 306 = .ok (.iload 9, 2) := by decide +kernel
theorem dX12_readElements_308 : decode cX12_readElements 308 = .ok (.iconst 1, 1) := by decide +kernel
theorem dX12_readElements_309 : decode cX12_readElements 309 = .ok (.if_icmp .ne 14, 3) := by decide +kernel
theorem dX12_readElements_312 : decode cX12_readElements 312 = .ok (.iconst 4, 1) := by decide +kernel
theorem dX12_readElements_313 : decode cX12_readElements 313 = .ok (.iload 10, 2) := by decide +kernel
theorem dX12_readElements_315 : decode cX12_readElements 315 = .ok (.bipush 7, 2) := by decide +kernel
theorem dX12_readElements_317 : decode cX12_readElements 317 = .ok (.iand, 1) := by decide +kernel
theorem dX12_readElements_318 : decode cX12_readElements 318 = .ok (.iadd, 1) := by decide +kernel
theorem dX12_readElements_319 : decode cX12_readElements 319 = .ok (.i2l, 1) := by decide +kernel
theorem dX12_readElements_320 : decode cX12_readElements 320 = .ok (.goto 8, 3) := by decide +kernel
theorem dX12_readElements_323 : decode cX12_readElements 323 = .ok (.iload 10, 2) := by decide +kernel
theorem dX12_readElements_325 : decode cX12_readElements 325 = .ok (.i2l, 1) := by decide +kernel
theorem dX12_readElements_326 : decode cX12_readElements 326 = .ok (.lconst 1, 1) := by decide +kernel
theorem dX12_readElements_327 : decode cX12_readElements 327 = .ok (.ladd, 1) := by decide +kernel
theorem dX12_readElements_328 : decode cX12_readElements 328 = .ok (.lstore 14, 2) := by decide +kernel
theorem dX12_readElements_330 : decode cX12_readElements 330 = .ok (.iload 9, 2) := by decide +kernel
theorem dX12_readElements_332 : decode cX12_readElements 332 = .ok (.iconst 1, 1) := by decide +kernel
theorem dX12_readElements_333 : decode cX12_readElements 333 = .ok (.if_icmp .ne 18, 3) := by decide +kernel
theorem dX12_readElements_336 : decode cX12_readElements 336 = .ok (.iload 10, 2) := by decide +kernel
theorem dX12_readElements_338 : decode cX12_readElements 338 = .ok (.iconst 3, 1) := by decide +kernel
theorem dX12_readElements_339 : decode cX12_readElements 339 = .ok (.ishr, 1) := by decide +kernel
theorem dX12_readElements_340 : decode cX12_readElements 340 = .ok (.i2l, 1) := by decide +kernel
theorem dX12_readElements_341 : decode cX12_readElements 341 = .ok (.ldc2_w 247, 3) := by decide +kernel
theorem dX12_readElements_344 : decode cX12_readElements 344 = .ok (.lmul, 1) := by decide +kernel
theorem dX12_readElements_345 : decode cX12_readElements 345 = .ok (.lload 12, 2) := by decide +kernel
theorem dX12_readElements_347 : decode cX12_readElements 347 = .ok (.ladd, 1) := by decide +kernel
theorem dX12_readElements_348 : decode cX12_readElements 348 = .ok (.goto 5, 3) := by decide +kernel
theorem dX12_readElements_351 : decode cX12_readElements 351 = .ok (.lload 12, 2) := by decide +kernel
theorem dX12_readElements_353 : decode cX12_readElements 353 = .ok (.lstore 16, 2) := by decide +kernel
theorem dX12_readElements_355 : decode cX12_readElements 355 = .ok (.aload_n 0, 1) := by decide +kernel
theorem dX12_readElements_356 : decode cX12_readElements 356 = .ok (.getfield 108, 3) := by decide +kernel
theorem dX12_readElements_359 : decode cX12_readElements 359 = .ok (.iload_n 2, 1) := by decide +kernel
theorem dX12_readElements_360 : decode cX12_readElements 360 = .ok (.isub, 1) := by decide +kernel
theorem dX12_readElements_361 : decode cX12_readElements 361 = .ok (.i2l, 1) := by decide +kernel
theorem dX12_readElements_362 : decode cX12_readElements 362 = .ok (.lload 14, 2) := by decide +kernel
theorem dX12_readElements_364 : decode cX12_readElements 364 = .ok (.ladd, 1) := by decide +kernel
theorem dX12_readElements_365 : decode cX12_readElements 365 = .ok (.lload 4, 2) := by decide +kernel
theorem dX12_readElements_367 : decode cX12_readElements 367 = .ok (.lcmp, 1) := by decide +kernel
theorem dX12_readElements_368 : decode cX12_readElements 368 = .ok (.ifCond .le 12, 3) := by decide +kernel
theorem dX12_readElements_371 : decode cX12_readElements 371 = .ok (.aload_n 0, 1) := by decide +kernel
theorem dX12_readElements_372 : decode cX12_readElements 372 = .ok (.bipush 14, 2) := by decide +kernel
theorem dX12_readElements_374 : decode cX12_readElements 374 = .ok (.iload 8, 2) := by decide +kernel
theorem dX12_readElements_376 : decode cX12_readElements 376 = .ok (.invokevirtual 235, 3) := by decide +kernel
theorem dX12_readElements_379 : decode cX12_readElements 379 = .ok (.ireturn, 1) := by decide +kernel
theorem dX12_readElements_380 : decode cX12_readElements 380 = .ok (.aload_n 0, 1) := by decide +kernel
theorem dX12_readElements_381 : decode cX12_readElements 381 = .ok (.dup, 1) := by decide +kernel
theorem dX12_readElements_382 : decode cX12_readElements 382 = .ok (.getfield 142, 3) := by decide +kernel
theorem dX12_readElements_385 : decode cX12_readElements 385 = .ok (.iconst 1, 1) := by decide +kernel
theorem dX12_readElements_386 : decode cX12_readElements 386 = .ok (.iadd, 1) := by decide +kernel
theorem dX12_readElements_387 : decode cX12_readElements 387 = .ok (.putfield 142, 3) := by decide +kernel
theorem dX12_readElements_390 : decode cX12_readElements 390 = .ok (.iload 9, 2) := by decide +kernel
theorem dX12_readElements_392 : decode cX12_readElements 392 = .ok (.ifCond .ne 79, 3) := by decide +kernel
theorem dX12_readElements_395 : decode cX12_readElements 395 = .ok (.iload_n 1, 1) := by decide +kernel
theorem dX12_readElements_396 : decode cX12_readElements 396 = .ok (.aload_n 0, 1) := by decide +kernel
theorem dX12_readElements_397 : decode cX12_readElements 397 = .ok (.getfield 232, 3) := by decide +kernel
theorem dX12_readElements_400 : decode cX12_readElements 400 = .ok (.isub, 1) := by decide +kernel
theorem dX12_readElements_401 : decode cX12_readElements 401 = .ok (.i2l, 1) := by decide +kernel
theorem dX12_readElements_402 : decode cX12_readElements 402 = .ok (.lload 14, 2) := by decide +kernel
theorem dX12_readElements_404 : decode cX12_readElements 404 = .ok (.lcmp, 1) := by decide +kernel
theorem dX12_readElements_405 : decode cX12_readElements 405 = .ok (.ifCond .ge 10, 3) := by decide +kernel
theorem dX12_readElements_408 : decode cX12_readElements 408 = .ok (.aload_n 0, 1) := by decide +kernel
theorem dX12_readElements_409 : decode cX12_readElements 409 = .ok (.iconst 1, 1) := by decide +kernel
theorem dX12_readElements_410 : decode cX12_readElements 410 = .ok (.iload_n 1, 1) := by decide +kernel
theorem dX12_readElements_411 : decode cX12_readElements 411 = .ok (.invokevirtual 235, 3) := by decide +kernel
theorem dX12_readElements_414 : decode cX12_readElements 414 = .ok (.ireturn, 1) := by decide +kernel
theorem dX12_readElements_415 : decode cX12_readElements 415 = .ok (.aload_n 0, 1) := by decide +kernel
theorem dX12_readElements_416 : decode cX12_readElements 416 = .ok (.dup, 1) := by decide +kernel
theorem dX12_readElements_417 : decode cX12_readElements 417 = .ok (.getfield 128, 3) := by decide +kernel
theorem dX12_readElements_420 : decode cX12_readElements 420 = .ok (.lload 14, 2) := by decide +kernel
theorem dX12_readElements_422 : decode cX12_readElements 422 = .ok (.l2i, 1) := by decide +kernel
theorem dX12_readElements_423 : decode cX12_readElements 423 = .ok (.iadd, 1) := by decide +kernel
theorem dX12_readElements_424 : decode cX12_readElements 424 = .ok (.putfield 128, 3) := by decide +kernel
theorem dX12_readElements_427 : decode cX12_readElements 427 = .ok (.iconst 0, 1) := by decide +kernel
theorem dX12_readElements_428 : decode cX12_readElements 428 = .ok (.istore 18, 2) := by decide +kernel
theorem dX12_readElements_430 : decode cX12_readElements 430 = .ok (.iload 18, 2) := by decide +kernel
theorem dX12_readElements_432 : decode cX12_readElements 432 = .ok (.i2l, 1) := by decide +kernel
theorem dX12_readElements_433 : decode cX12_readElements 433 = .ok (.lload 14, 2) := by decide +kernel
theorem dX12_readElements_435 : decode cX12_readElements 435 = .ok (.lcmp, 1) := by decide +kernel
theorem dX12_readElements_436 : decode cX12_readElements 436 = .ok (.ifCond .ge 32, 3) := by decide +kernel
theorem dX12_readElements_439 : decode cX12_readElements 439 = .ok (.aload_n 0, 1) := by decide +kernel
theorem dX12_readElements_440 : decode cX12_readElements 440 = .ok (.aload_n 0, 1) := by decide +kernel
theorem dX12_readElements_441 : decode cX12_readElements 441 = .ok (.getfield 170, 3) := by decide +kernel
theorem dX12_readElements_444 : decode cX12_readElements 444 = .ok (.aload_n 0, 1) := by decide +kernel
theorem dX12_readElements_445 : decode cX12_readElements 445 = .ok (.getfield 232, 3) := by decide +kernel
theorem dX12_readElements_448 : decode cX12_readElements 448 = .ok (.iaload, 1) := by decide +kernel
theorem dX12_readElements_449 : decode cX12_readElements 449 = .ok (.invokevirtual 111, 3) := by decide +kernel
theorem dX12_readElements_452 : decode cX12_readElements 452 = .ok (.aload_n 0, 1) := by decide +kernel
theorem dX12_readElements_453 : decode cX12_readElements 453 = .ok (.dup, 1) := by decide +kernel
theorem dX12_readElements_454 : decode cX12_readElements 454 = .ok (.getfield 232, 3) := by decide +kernel
theorem dX12_readElements_457 : decode cX12_readElements 457 = .ok (.iconst 1, 1) := by decide +kernel
theorem dX12_readElements_458 : decode cX12_readElements 458 = .ok (.iadd, 1) := by decide +kernel
theorem dX12_readElements_459 : decode cX12_readElements 459 = .ok (.putfield 232, 3) := by decide +kernel
theorem dX12_readElements_462 : decode cX12_readElements 462 = .ok (.iinc 18 1, 3) := by decide +kernel
theorem dX12_readElements_465 : decode cX12_readElements 465 = .ok (.goto (-35), 3) := by decide +kernel
theorem dX12_readElements_468 : decode cX12_readElements 468 = .ok (.goto 76, 3) := by decide +kernel
theorem dX12_readElements_471 : decode cX12_readElements 471 = .ok (.lload 16, 2) := by decide +kernel
theorem dX12_readElements_473 : decode cX12_readElements 473 = .ok (.lconst 0, 1) := by decide +kernel
theorem dX12_readElements_474 : decode cX12_readElements 474 = .ok (.lcmp, 1) := by decide +kernel
theorem dX12_readElements_475 : decode cX12_readElements 475 = .ok (.ifCond .eq 16, 3) := by decide +kernel
theorem dX12_readElements_478 : decode cX12_readElements 478 = .ok (.lload 16, 2) := by decide +kernel
theorem dX12_readElements_480 : decode cX12_readElements 480 = .ok (.aload_n 0, 1) := by decide +kernel
theorem dX12_readElements_481 : decode cX12_readElements 481 = .ok (.getfield 108, 3) := by decide +kernel
theorem dX12_readElements_484 : decode cX12_readElements 484 = .ok (.iload_n 2, 1) := by decide +kernel
theorem dX12_readElements_485 : decode cX12_readElements 485 = .ok (.isub, 1) := by decide +kernel
theorem dX12_readElements_486 : decode cX12_readElements 486 = .ok (.i2l, 1) := by decide +kernel
theorem dX12_readElements_487 : decode cX12_readElements 487 = .ok (.lcmp, 1) := by decide +kernel
theorem dX12_readElements_488 : decode cX12_readElements 488 = .ok (.ifCond .le 11, 3) := by decide +kernel
theorem dX12_readElements_491 : decode cX12_readElements 491 = .ok (.aload_n 0, 1) := by decide +kernel
theorem dX12_readElements_492 : decode cX12_readElements 492 = .ok (.iconst 2, 1) := by decide +kernel
theorem dX12_readElements_493 : decode cX12_readElements 493 = .ok (.iload 8, 2) := by decide +kernel
theorem dX12_readElements_495 : decode cX12_readElements 495 = .ok (.invokevirtual 235, 3) := by decide +kernel
theorem dX12_readElements_498 : decode cX12_readElements 498 = .ok (.ireturn, 1) := by decide +kernel
theorem dX12_readElements_499 : decode cX12_readElements 499 = .ok (.aload_n 0, 1) := by decide +kernel
theorem dX12_readElements_500 : decode cX12_readElements 500 = .ok (.dup, 1) := by decide +kernel
theorem dX12_readElements_501 : decode cX12_readElements 501 = .ok (.getfield 125, 3) := by decide +kernel
theorem dX12_readElements_504 : decode cX12_readElements 504 = .ok (.iconst 1, 1) := by decide +kernel
theorem dX12_readElements_505 : decode cX12_readElements 505 = .ok (.iadd, 1) := by decide +kernel
theorem dX12_readElements_506 : decode cX12_readElements 506 = .ok (.putfield 125, 3) := by decide +kernel
theorem dX12_readElements_509 : decode cX12_readElements 509 = .ok (.iconst 0, 1) := by decide +kernel
theorem dX12_readElements_510 : decode cX12_readElements 510 = .ok (.istore 18, 2) := by decide +kernel
theorem dX12_readElements_512 : decode cX12_readElements 512 = .ok (.iload 18, 2) := by decide +kernel
theorem dX12_readElements_514 : decode cX12_readElements 514 = .ok (.i2l, 1) := by decide +kernel
theorem dX12_readElements_515 : decode cX12_readElements 515 = .ok (.lload 14, 2) := by decide +kernel
theorem dX12_readElements_517 : decode cX12_readElements 517 = .ok (.lcmp, 1) := by decide +kernel
theorem dX12_readElements_518 : decode cX12_readElements 518 = .ok (.ifCond .ge 26, 3) := by decide +kernel
theorem dX12_readElements_521 : decode cX12_readElements 521 = .ok (.aload_n 0, 1) := by decide +kernel
theorem dX12_readElements_522 : decode cX12_readElements 522 = .ok (.aload_n 0, 1) := by decide +kernel
theorem dX12_readElements_523 : decode cX12_readElements 523 = .ok (.getfield 105, 3) := by decide +kernel
theorem dX12_readElements_526 : decode cX12_readElements 526 = .ok (.aload_n 0, 1) := by decide +kernel
theorem dX12_readElements_527 : decode cX12_readElements 527 = .ok (.getfield 108, 3) := by decide +kernel
theorem dX12_readElements_530 : decode cX12_readElements 530 = .ok (.lload 16, 2) := by decide +kernel
theorem dX12_readElements_532 : decode cX12_readElements 532 = .ok (.l2i, 1) := by decide +kernel
theorem dX12_readElements_533 : decode cX12_readElements 533 = .ok (.isub, 1) := by decide +kernel
theorem dX12_readElements_534 : decode cX12_readElements 534 = .ok (.iaload, 1) := by decide +kernel
theorem dX12_readElements_535 : decode cX12_readElements 535 = .ok (.invokevirtual 111, 3) := by decide +kernel
theorem dX12_readElements_538 : decode cX12_readElements 538 = .ok (.iinc 18 1, 3) := by decide +kernel
theorem dX12_readElements_541 : decode cX12_readElements 541 = .ok (.goto (-29), 3) := by decide +kernel
theorem dX12_readElements_544 : decode cX12_readElements 544 = .ok (.goto (-387), 3) := by decide +kernel
theorem dX12_readElements_547 : decode cX12_readElements 547 = .ok (.aload_n 0, 1) := by decide +kernel
theorem dX12_readElements_548 : decode cX12_readElements 548 = .ok (.getfield 108, 3) := by decide +kernel
theorem dX12_readElements_551 : decode cX12_readElements 551 = .ok (.iload_n 2, 1) := by decide +kernel
theorem dX12_readElements_552 : decode cX12_readElements 552 = .ok (.isub, 1) := by decide +kernel
theorem dX12_readElements_553 : decode cX12_readElements 553 = .ok (.i2l, 1) := by decide +kernel
theorem dX12_readElements_554 : decode cX12_readElements 554 = .ok (.lload 4, 2) := by decide +kernel
theorem dX12_readElements_556 : decode cX12_readElements 556 = .ok (.lcmp, 1) := by decide +kernel
theorem dX12_readElements_557 : decode cX12_readElements 557 = .ok (.ifCond .eq 13, 3) := by decide +kernel
theorem dX12_readElements_560 : decode cX12_readElements 560 = .ok (.aload_n 0, 1) := by decide +kernel
theorem dX12_readElements_561 : decode cX12_readElements 561 = .ok (.bipush 14, 2) := by decide +kernel
theorem dX12_readElements_563 : decode cX12_readElements 563 = .ok (.iload_n 1, 1) := by decide +kernel
theorem dX12_readElements_564 : decode cX12_readElements 564 = .ok (.invokevirtual 235, 3) := by decide +kernel
theorem dX12_readElements_567 : decode cX12_readElements 567 = .ok (.ifCond .eq 7, 3) := by decide +kernel
theorem dX12_readElements_570 : decode cX12_readElements 570 = .ok (.iconst 1, 1) := by decide +kernel
theorem dX12_readElements_571 : decode cX12_readElements 571 = .ok (.goto 4, 3) := by decide +kernel
theorem dX12_readElements_574 : decode cX12_readElements 574 = .ok (.iconst 0, 1) := by decide +kernel
theorem dX12_readElements_575 : decode cX12_readElements 575 = .ok (.ireturn, 1) := by decide +kernel
def m_Mo_readElements_E491 (f3 : Nat → Int32) (g4 : Int32) (g5 : Int32) (g6 : Int32) (g7 : Int32) (g8 : Int32) (j8_9 : Int32) : Option (Int32 × Int32 × Int32 × Int32 × Int32 × Int32 × Int32 × Int32 × (Nat → Int32)) :=
  (m_Mo_no (2 : Int32) j8_9).bind fun (r10, u11, u12) =>
  bch r10 <|
  some (r10, g8, g4, g5, g6, u11, u12, g7, f3)
def m_Mo_readElements_E547 (a1 : Int32) (h0_freshSize : Int32) (h0_rule : Int32) (h0_place : Int32) (j4_2 : Int64) (f13 : Nat → Int32) (g14 : Int32) (g15 : Int32) (g16 : Int32) (g17 : Int32) (g18 : Int32) : Option (Int32 × Int32 × Int32 × Int32 × Int32 × Int32 × Int32 × Int32 × (Nat → Int32)) :=
  if (lg_cmp ((g18 - h0_freshSize).toInt64) j4_2) = 0 then
    some ((1 : Int32), g18, g14, g15, g16, h0_rule, h0_place, g17, f13)
  else
    (m_Mo_no (14 : Int32) a1).bind fun (r19, u20, u21) =>
    if r19 = 0 then
      some ((0 : Int32), g18, g14, g15, g16, u20, u21, g17, f13)
    else
      some ((1 : Int32), g18, g14, g15, g16, u20, u21, g17, f13)
def m_Mo_readElements_E544 (g24 : Int32) (p_33 : Int32) (p_36 : Int32) (p_37 : Int32) (f38 : Nat → Int32) (g39 : Int32) : Option (((Nat → Int32) × Int32 × Int32 × Int32 × Int32 × Int32) ⊕ (((Nat → Int32) × Int32 × Int32 × Int32 × Int32 × Int32 × Int32) ⊕ ((Nat → Int32) × Int32 × Int32 × Int32 × Int32 × Int32) ⊕ (((Int32 × Int32 × Int32 × Int32 × Int32 × Int32 × Int32 × Int32 × (Nat → Int32)))))) :=
  some (.inl (f38, p_37, g24, p_36, p_33, g39))
def m_Mo_readElements_B512 (h0_fresh_n : Nat) (s34 : Int64) (s35 : Int64) (f40 : Nat → Int32) (g41 : Int32) (j18_42 : Int32) : Option (((Nat → Int32) × Int32 × Int32) ⊕ (((Nat → Int32) × Int32))) :=
  if 0 ≤ (lg_cmp (j18_42.toInt64) s34) then
    some (.inr (f40, g41))
  else
    chk (g41 - (s35.toInt32)) h0_fresh_n <|
    (m_Mo_put (f40 (g41 - (s35.toInt32)).toNatClampNeg) g41 h0_fresh_n f40).bind fun (u43, u44) =>
    bnd (j18_42 + (1 : Int32)) fun v18_45 =>
    some (.inl (u44, u43, v18_45))
def m_Mo_readElements_E468 (g23 : Int32) (p_36 : Int32) (p_46 : Int32) (f47 : Nat → Int32) (g48 : Int32) (g49 : Int32) : Option (((Nat → Int32) × Int32 × Int32 × Int32 × Int32 × Int32) ⊕ (((Nat → Int32) × Int32 × Int32 × Int32 × Int32 × Int32 × Int32) ⊕ ((Nat → Int32) × Int32 × Int32 × Int32 × Int32 × Int32) ⊕ (((Int32 × Int32 × Int32 × Int32 × Int32 × Int32 × Int32 × Int32 × (Nat → Int32)))))) :=
  some (.inl (f47, g23, p_46, p_36, g48, g49))
def m_Mo_readElements_B430 (h0_in_n : Nat) (h0_in_f : Nat → Int32) (h0_fresh_n : Nat) (s34 : Int64) (f50 : Nat → Int32) (g51 : Int32) (g52 : Int32) (j18_53 : Int32) : Option (((Nat → Int32) × Int32 × Int32 × Int32) ⊕ (((Nat → Int32) × Int32 × Int32))) :=
  if 0 ≤ (lg_cmp (j18_53.toInt64) s34) then
    some (.inr (f50, g51, g52))
  else
    chk g51 h0_in_n <|
    (m_Mo_put (h0_in_f g51.toNatClampNeg) g52 h0_fresh_n f50).bind fun (u54, u55) =>
    bnd (g51 + (1 : Int32)) fun p_56 =>
    bnd (j18_53 + (1 : Int32)) fun v18_57 =>
    some (.inl (u55, p_56, u54, v18_57))
def m_Mo_readElements_J353 (a1 : Int32) (h0_freshSize : Int32) (h0_in_n : Nat) (h0_in_f : Nat → Int32) (h0_fresh_n : Nat) (j4_2 : Int64) (f22 : Nat → Int32) (g23 : Int32) (g24 : Int32) (g25 : Int32) (g26 : Int32) (g27 : Int32) (v9_28 : Int32) (p_33 : Int32) (s34 : Int64) (s35 : Int64) : Option (((Nat → Int32) × Int32 × Int32 × Int32 × Int32 × Int32) ⊕ (((Nat → Int32) × Int32 × Int32 × Int32 × Int32 × Int32 × Int32) ⊕ ((Nat → Int32) × Int32 × Int32 × Int32 × Int32 × Int32) ⊕ (((Int32 × Int32 × Int32 × Int32 × Int32 × Int32 × Int32 × Int32 × (Nat → Int32)))))) :=
  if (lg_cmp (((g27 - h0_freshSize).toInt64) + s34) j4_2) ≤ 0 then
    bnd (g25 + (1 : Int32)) fun p_36 =>
    if v9_28 = 0 then
      if 0 ≤ (lg_cmp ((a1 - p_33).toInt64) s34) then
        bnd (g24 + (s34.toInt32)) fun p_46 =>
        (iter (fun st => m_Mo_readElements_B430 h0_in_n h0_in_f h0_fresh_n s34 st.1 st.2.1 st.2.2.1 st.2.2.2) FU (f22, p_33, g27, (0 : Int32))).bind fun o => m_Mo_readElements_E468 g23 p_36 p_46 o.1 o.2.1 o.2.2
      else
        (m_Mo_no (1 : Int32) a1).bind fun (r58, u59, u60) =>
        bch r58 <|
        some (.inr (.inr (.inr (r58, g27, g23, g24, p_36, u59, u60, p_33, f22))))
    else
      if (lg_cmp s35 (0 : Int64)) = 0 then
        some (.inr (.inl (f22, g23, g24, p_36, p_33, g27, g26)))
      else
        if (lg_cmp s35 ((g27 - h0_freshSize).toInt64)) ≤ 0 then
          bnd (g23 + (1 : Int32)) fun p_37 =>
          (iter (fun st => m_Mo_readElements_B512 h0_fresh_n s34 s35 st.1 st.2.1 st.2.2) FU (f22, g27, (0 : Int32))).bind fun o => m_Mo_readElements_E544 g24 p_33 p_36 p_37 o.1 o.2
        else
          some (.inr (.inl (f22, g23, g24, p_36, p_33, g27, g26)))
  else
    (m_Mo_no (14 : Int32) g26).bind fun (r61, u62, u63) =>
    bch r61 <|
    some (.inr (.inr (.inr (r61, g27, g23, g24, g25, u62, u63, p_33, f22))))
def m_Mo_readElements_J328 (a1 : Int32) (h0_freshSize : Int32) (h0_in_n : Nat) (h0_in_f : Nat → Int32) (h0_fresh_n : Nat) (j4_2 : Int64) (f22 : Nat → Int32) (g23 : Int32) (g24 : Int32) (g25 : Int32) (g26 : Int32) (g27 : Int32) (v9_28 : Int32) (v10_29 : Int32) (r32 : Int64) (p_33 : Int32) (s34 : Int64) : Option (((Nat → Int32) × Int32 × Int32 × Int32 × Int32 × Int32) ⊕ (((Nat → Int32) × Int32 × Int32 × Int32 × Int32 × Int32 × Int32) ⊕ ((Nat → Int32) × Int32 × Int32 × Int32 × Int32 × Int32) ⊕ (((Int32 × Int32 × Int32 × Int32 × Int32 × Int32 × Int32 × Int32 × (Nat → Int32)))))) :=
  if v9_28 = (1 : Int32) then
    m_Mo_readElements_J353 a1 h0_freshSize h0_in_n h0_in_f h0_fresh_n j4_2 f22 g23 g24 g25 g26 g27 v9_28 p_33 s34 ((((ishr v10_29 (3 : Int32)).toInt64) * (256 : Int64)) + r32)
  else
    m_Mo_readElements_J353 a1 h0_freshSize h0_in_n h0_in_f h0_fresh_n j4_2 f22 g23 g24 g25 g26 g27 v9_28 p_33 s34 r32
def m_Mo_readElements_J236 (a1 : Int32) (h0_freshSize : Int32) (h0_in_n : Nat) (h0_in_f : Nat → Int32) (h0_fresh_n : Nat) (j4_2 : Int64) (f22 : Nat → Int32) (g23 : Int32) (g24 : Int32) (g25 : Int32) (g26 : Int32) (g27 : Int32) (v9_28 : Int32) (v10_29 : Int32) (p_30 : Int32) (s31 : Int32) : Option (((Nat → Int32) × Int32 × Int32 × Int32 × Int32 × Int32) ⊕ (((Nat → Int32) × Int32 × Int32 × Int32 × Int32 × Int32 × Int32) ⊕ ((Nat → Int32) × Int32 × Int32 × Int32 × Int32 × Int32) ⊕ (((Int32 × Int32 × Int32 × Int32 × Int32 × Int32 × Int32 × Int32 × (Nat → Int32)))))) :=
  if s31 ≤ (a1 - p_30) then
    (m_Mo_number p_30 s31 h0_in_n h0_in_f).bind fun r32 =>
    bnd (p_30 + s31) fun p_33 =>
    if v9_28 = 0 then
      if (60 : Int32) ≤ v10_29 then
        m_Mo_readElements_J328 a1 h0_freshSize h0_in_n h0_in_f h0_fresh_n j4_2 f22 g23 g24 g25 g26 g27 v9_28 v10_29 r32 p_33 (r32 + (1 : Int64))
      else
        m_Mo_readElements_J328 a1 h0_freshSize h0_in_n h0_in_f h0_fresh_n j4_2 f22 g23 g24 g25 g26 g27 v9_28 v10_29 r32 p_33 ((v10_29.toInt64) + (1 : Int64))
    else
      if v9_28 = (1 : Int32) then
        m_Mo_readElements_J328 a1 h0_freshSize h0_in_n h0_in_f h0_fresh_n j4_2 f22 g23 g24 g25 g26 g27 v9_28 v10_29 r32 p_33 (((4 : Int32) + (v10_29 &&& (7 : Int32))).toInt64)
      else
        m_Mo_readElements_J328 a1 h0_freshSize h0_in_n h0_in_f h0_fresh_n j4_2 f22 g23 g24 g25 g26 g27 v9_28 v10_29 r32 p_33 ((v10_29.toInt64) + (1 : Int64))
  else
    (m_Mo_no (1 : Int32) a1).bind fun (r64, u65, u66) =>
    bch r64 <|
    some (.inr (.inr (.inr (r64, g27, g23, g24, g25, u65, u66, p_30, f22))))
def m_Mo_readElements_B157 (a1 : Int32) (h0_freshSize : Int32) (h0_in_n : Nat) (h0_in_f : Nat → Int32) (h0_fresh_n : Nat) (j4_2 : Int64) (f22 : Nat → Int32) (g23 : Int32) (g24 : Int32) (g25 : Int32) (g26 : Int32) (g27 : Int32) : Option (((Nat → Int32) × Int32 × Int32 × Int32 × Int32 × Int32) ⊕ (((Nat → Int32) × Int32 × Int32 × Int32 × Int32 × Int32 × Int32) ⊕ ((Nat → Int32) × Int32 × Int32 × Int32 × Int32 × Int32) ⊕ (((Int32 × Int32 × Int32 × Int32 × Int32 × Int32 × Int32 × Int32 × (Nat → Int32)))))) :=
  if a1 ≤ g26 then
    some (.inr (.inr (.inl (f22, g23, g24, g25, g26, g27))))
  else
    chk g26 h0_in_n <|
    bnd ((h0_in_f g26.toNatClampNeg) &&& (3 : Int32)) fun v9_28 =>
    chk g26 h0_in_n <|
    bnd (ishr (h0_in_f g26.toNatClampNeg) (2 : Int32)) fun v10_29 =>
    bnd (g26 + (1 : Int32)) fun p_30 =>
    if v9_28 = 0 then
      (m_Mo_great (0 : Int32) (v10_29 - (59 : Int32))).bind fun r67 =>
      m_Mo_readElements_J236 a1 h0_freshSize h0_in_n h0_in_f h0_fresh_n j4_2 f22 g23 g24 g25 g26 g27 v9_28 v10_29 p_30 r67
    else
      if v9_28 = (3 : Int32) then
        m_Mo_readElements_J236 a1 h0_freshSize h0_in_n h0_in_f h0_fresh_n j4_2 f22 g23 g24 g25 g26 g27 v9_28 v10_29 p_30 (4 : Int32)
      else
        m_Mo_readElements_J236 a1 h0_freshSize h0_in_n h0_in_f h0_fresh_n j4_2 f22 g23 g24 g25 g26 g27 v9_28 v10_29 p_30 v9_28
def m_Mo_readElements_E117 (a1 : Int32) (h0_freshSize : Int32) (h0_rule : Int32) (h0_place : Int32) (h0_at : Int32) (h0_in_n : Nat) (h0_in_f : Nat → Int32) (h0_fresh_n : Nat) (h0_fresh_f : Nat → Int32) (g1 : Int32) (j4_2 : Int64) : Option (Int32 × Int32 × Int32 × Int32 × Int32 × Int32 × Int32 × Int32 × (Nat → Int32)) :=
  if (lg_cmp j4_2 (4294967295 : Int64)) ≤ 0 then
    if (lg_cmp ((h0_freshSize.toInt64) + j4_2) (12000 : Int64)) ≤ 0 then
      (iter (fun st => m_Mo_readElements_B157 a1 h0_freshSize h0_in_n h0_in_f h0_fresh_n j4_2 st.1 st.2.1 st.2.2.1 st.2.2.2.1 st.2.2.2.2.1 st.2.2.2.2.2) FU (h0_fresh_f, (0 : Int32), (0 : Int32), (0 : Int32), g1, h0_freshSize)).bind fun o => match o with | (.inl y) => m_Mo_readElements_E491 y.1 y.2.1 y.2.2.1 y.2.2.2.1 y.2.2.2.2.1 y.2.2.2.2.2.1 y.2.2.2.2.2.2 | (.inr (.inl y)) => m_Mo_readElements_E547 a1 h0_freshSize h0_rule h0_place j4_2 y.1 y.2.1 y.2.2.1 y.2.2.2.1 y.2.2.2.2.1 y.2.2.2.2.2 | (.inr (.inr y)) => some y
    else
      (m_Mo_no (12 : Int32) h0_at).bind fun (r68, u69, u70) =>
      bch r68 <|
      some (r68, h0_freshSize, (0 : Int32), (0 : Int32), (0 : Int32), u69, u70, g1, h0_fresh_f)
  else
    (m_Mo_no (13 : Int32) h0_at).bind fun (r71, u72, u73) =>
    bch r71 <|
    some (r71, h0_freshSize, (0 : Int32), (0 : Int32), (0 : Int32), u72, u73, g1, h0_fresh_f)
def m_Mo_readElements_B36 (a1 : Int32) (h0_freshSize : Int32) (h0_at : Int32) (h0_in_n : Nat) (h0_in_f : Nat → Int32) (h0_fresh_f : Nat → Int32) (g74 : Int32) (j4_75 : Int64) (j6_76 : Int32) (j7_77 : Int32) : Option ((Int32 × Int64 × Int32 × Int32) ⊕ ((Int32 × Int64) ⊕ (((Int32 × Int32 × Int32 × Int32 × Int32 × Int32 × Int32 × Int32 × (Nat → Int32)))))) :=
  if j7_77 < (128 : Int32) then
    some (.inr (.inl (g74, j4_75)))
  else
    if j6_76 = (5 : Int32) then
      (m_Mo_no (13 : Int32) h0_at).bind fun (r85, u86, u87) =>
      bch r85 <|
      some (.inr (.inr (r85, h0_freshSize, (0 : Int32), (0 : Int32), (0 : Int32), u86, u87, g74, h0_fresh_f)))
    else
      if g74 < a1 then
        chk g74 h0_in_n <|
        bnd (h0_in_f g74.toNatClampNeg) fun v7_78 =>
        bnd (j4_75 ||| (lshl ((v7_78 &&& (127 : Int32)).toInt64) ((7 : Int32) * j6_76))) fun v4_79 =>
        bnd (j6_76 + (1 : Int32)) fun v6_80 =>
        bnd (g74 + (1 : Int32)) fun p_81 =>
        some (.inl (p_81, v4_79, v6_80, v7_78))
      else
        (m_Mo_no (1 : Int32) a1).bind fun (r82, u83, u84) =>
        bch r82 <|
        some (.inr (.inr (r82, h0_freshSize, (0 : Int32), (0 : Int32), (0 : Int32), u83, u84, g74, h0_fresh_f)))
def m_Mo_readElements (a1 : Int32) (h0_freshSize : Int32) (h0_rule : Int32) (h0_place : Int32) (h0_at : Int32) (h0_in_n : Nat) (h0_in_f : Nat → Int32) (h0_fresh_n : Nat) (h0_fresh_f : Nat → Int32) : Option (Int32 × Int32 × Int32 × Int32 × Int32 × Int32 × Int32 × Int32 × (Nat → Int32)) :=
  (iter (fun st => m_Mo_readElements_B36 a1 h0_freshSize h0_at h0_in_n h0_in_f h0_fresh_f st.1 st.2.1 st.2.2.1 st.2.2.2) FU (h0_at, (0 : Int64), (0 : Int32), (128 : Int32))).bind fun o => match o with | (.inl y) => m_Mo_readElements_E117 a1 h0_freshSize h0_rule h0_place h0_at h0_in_n h0_in_f h0_fresh_n h0_fresh_f y.1 y.2 | (.inr y) => some y
def rm_Mo_readElements : Room := { frames := 1, cells := 0, slots := 0, locals := 25 }
set_option maxHeartbeats 4000000 in
set_option maxRecDepth 100000 in
theorem c_Mo_readElements {l : Launch} {dC : Nat → ClassId} {dI : Nat → Nat → Nat} {cB cI : ClassId} {sz : Nat} {h0 : Nat} {a1 : Int32} {h0_in : Nat} {h0_fresh : Nat} {w_h0_inSize : Value} {w_h0_out : Value} {w_h0_outSize : Value} {w_h0_dict : Value} {w_h0_dictSize : Value} {w_h0_told : Value} {h0_freshSize : Int32} {w_h0_text : Value} {w_h0_lean : Value} {w_h0_size : Value} {w_h0_most : Value} {w_h0_offset : Value} {w_h0_copyAt : Value} {w_h0_copies : Value} {w_h0_copyLength : Value} {w_h0_copyOffset : Value} {w_h0_fromHere : Value} {w_h0_withCopy : Value} {w_h0_bestCopy : Value} {w_h0_bestLiterals : Value} {h0_copiesOf : Int32} {h0_literalsOf : Int32} {h0_partsOf : Int32} {w_h0_blocks : Value} {w_h0_blockMany : Value} {w_h0_newBlocks : Value} {w_h0_newMany : Value} {h0_rule : Int32} {h0_place : Int32} {h0_at : Int32} {h0_in_n : Nat} {h0_in_f : Nat → Int32} {h0_fresh_n : Nat} {h0_fresh_f : Nat → Int32} {o_r : Int32} {o_h0_freshSize : Int32} {o_h0_copiesOf : Int32} {o_h0_literalsOf : Int32} {o_h0_partsOf : Int32} {o_h0_rule : Int32} {o_h0_place : Int32} {o_h0_at : Int32} {o_h0_fresh_f : Nat → Int32} (hf : m_Mo_readElements a1 h0_freshSize h0_rule h0_place h0_at h0_in_n h0_in_f h0_fresh_n h0_fresh_f = some (o_r, o_h0_freshSize, o_h0_copiesOf, o_h0_literalsOf, o_h0_partsOf, o_h0_rule, o_h0_place, o_h0_at, o_h0_fresh_f)) : Met l yX12_readElements (Cond.code yX12_readElements cX12_readElements 19 (some .boolean) :: lw_G) rm_Mo_readElements (PreC (dC, dI) [(cB, .byte), (cI, .int)] [.ref h0, .int a1] sz [(h0, .inr (10, [.ref h0_in, w_h0_inSize, w_h0_out, w_h0_outSize, w_h0_dict, w_h0_dictSize, w_h0_told, .ref h0_fresh, .int h0_freshSize, w_h0_text, w_h0_lean, w_h0_size, w_h0_most, w_h0_offset, w_h0_copyAt, w_h0_copies, w_h0_copyLength, w_h0_copyOffset, w_h0_fromHere, w_h0_withCopy, w_h0_bestCopy, w_h0_bestLiterals, .int h0_copiesOf, .int h0_literalsOf, .int h0_partsOf, w_h0_blocks, w_h0_blockMany, w_h0_newBlocks, w_h0_newMany, .int h0_rule, .int h0_place, .int h0_at])), (h0_in, .inl (cI, h0_in_n, .inl h0_in_f)), (h0_fresh, .inl (cI, h0_fresh_n, .inl h0_fresh_f))]) (QcI o_r (dC, dI) [(h0, .inr (10, [.ref h0_in, w_h0_inSize, w_h0_out, w_h0_outSize, w_h0_dict, w_h0_dictSize, w_h0_told, .ref h0_fresh, .int o_h0_freshSize, w_h0_text, w_h0_lean, w_h0_size, w_h0_most, w_h0_offset, w_h0_copyAt, w_h0_copies, w_h0_copyLength, w_h0_copyOffset, w_h0_fromHere, w_h0_withCopy, w_h0_bestCopy, w_h0_bestLiterals, .int o_h0_copiesOf, .int o_h0_literalsOf, .int o_h0_partsOf, w_h0_blocks, w_h0_blockMany, w_h0_newBlocks, w_h0_newMany, .int o_h0_rule, .int o_h0_place, .int o_h0_at])), (h0_in, .inl (cI, h0_in_n, .inl h0_in_f)), (h0_fresh, .inl (cI, h0_fresh_n, .inl o_h0_fresh_f))] (va_A [(h0, .inr (10, [.ref h0_in, w_h0_inSize, w_h0_out, w_h0_outSize, w_h0_dict, w_h0_dictSize, w_h0_told, .ref h0_fresh, .int h0_freshSize, w_h0_text, w_h0_lean, w_h0_size, w_h0_most, w_h0_offset, w_h0_copyAt, w_h0_copies, w_h0_copyLength, w_h0_copyOffset, w_h0_fromHere, w_h0_withCopy, w_h0_bestCopy, w_h0_bestLiterals, .int h0_copiesOf, .int h0_literalsOf, .int h0_partsOf, w_h0_blocks, w_h0_blockMany, w_h0_newBlocks, w_h0_newMany, .int h0_rule, .int h0_place, .int h0_at])), (h0_in, .inl (cI, h0_in_n, .inl h0_in_f)), (h0_fresh, .inl (cI, h0_fresh_n, .inl h0_fresh_f))] sz)) 0 0 (va_A [(h0, .inr (10, [.ref h0_in, w_h0_inSize, w_h0_out, w_h0_outSize, w_h0_dict, w_h0_dictSize, w_h0_told, .ref h0_fresh, .int h0_freshSize, w_h0_text, w_h0_lean, w_h0_size, w_h0_most, w_h0_offset, w_h0_copyAt, w_h0_copies, w_h0_copyLength, w_h0_copyOffset, w_h0_fromHere, w_h0_withCopy, w_h0_bestCopy, w_h0_bestLiterals, .int h0_copiesOf, .int h0_literalsOf, .int h0_partsOf, w_h0_blocks, w_h0_blockMany, w_h0_newBlocks, w_h0_newMany, .int h0_rule, .int h0_place, .int h0_at])), (h0_in, .inl (cI, h0_in_n, .inl h0_in_f)), (h0_fresh, .inl (cI, h0_fresh_n, .inl h0_fresh_f))] sz) := by
  refine met_of (Qf := fun A => QcI o_r (dC, dI) [(h0, .inr (10, [.ref h0_in, w_h0_inSize, w_h0_out, w_h0_outSize, w_h0_dict, w_h0_dictSize, w_h0_told, .ref h0_fresh, .int o_h0_freshSize, w_h0_text, w_h0_lean, w_h0_size, w_h0_most, w_h0_offset, w_h0_copyAt, w_h0_copies, w_h0_copyLength, w_h0_copyOffset, w_h0_fromHere, w_h0_withCopy, w_h0_bestCopy, w_h0_bestLiterals, .int o_h0_copiesOf, .int o_h0_literalsOf, .int o_h0_partsOf, w_h0_blocks, w_h0_blockMany, w_h0_newBlocks, w_h0_newMany, .int o_h0_rule, .int o_h0_place, .int o_h0_at])), (h0_in, .inl (cI, h0_in_n, .inl h0_in_f)), (h0_fresh, .inl (cI, h0_fresh_n, .inl o_h0_fresh_f))] A) (by decide) (Nat.le_of_ble_eq_true rfl) ?_
  intro p e s m below meth c A ls Q hx hb hr hml hown hts hlocks hnm hP hK hD hN hT hA hl hQ
  have hown : s.vm.findClass RX12 = some m.cls := hown
  have hS : va_S A s.heap s.heap [] := va_S.rf
  have hl : lv_has ls 19 [(0, .ref h0), (1, .int a1)] := hl
  unfold m_Mo_readElements at hf
  refine lv_aload_n hx hb dX12_readElements_0 rfl (lv_at hl 0 rfl) ?_
  refine va_get (D := (dC, dI)) (ci := 10) (v := .int h0_freshSize) (C := RX12) (T := TX12) (N := 32) hx hb hts inG_X12 hown hK hP 0 rfl rfl 8 (by decide) (hts _ kw_1060) (fun _ h9 => h9) rfl dX12_readElements_1 ?_
  refine lv_istore_n (lv' := [(2, .int h0_freshSize), (0, .ref h0), (1, .int a1)]) hx hb dX12_readElements_4 rfl hl (by decide) rfl (fun ls hl => ?_)
  refine lv_aload_n hx hb dX12_readElements_5 rfl (lv_at hl 1 rfl) ?_
  refine va_get (D := (dC, dI)) (ci := 10) (v := .int h0_at) (C := RX12) (T := TX12) (N := 32) hx hb hts inG_X12 hown hK hP 0 rfl rfl 31 (by decide) (hts _ kw_1083) (fun _ h9 => h9) rfl dX12_readElements_6 ?_
  refine lv_istore_n (lv' := [(3, .int h0_at), (2, .int h0_freshSize), (0, .ref h0), (1, .int a1)]) hx hb dX12_readElements_9 rfl hl (by decide) rfl (fun ls hl => ?_)
  refine lv_aload_n hx hb dX12_readElements_10 rfl (lv_at hl 2 rfl) ?_
  refine lv_iconst (v := 0) hx hb dX12_readElements_11 (by decide) ?_
  refine va_put (D := (dC, dI)) (ci := 10) (v := .int (0 : Int32)) (ty := .int) (C := RX12) (T := TX12) (N := 32) hx hb hts inG_X12 tyX12 tyX12_ok nmX12 hown hK hP hD hS 0 rfl rfl 22 (by decide) (hts _ kw_1074) (fun _ h9 => h9) rfl (by decide +kernel) rfl rfl (Nat.le_of_ble_eq_true rfl) dX12_readElements_12 (fun H locs hP hD hS => ?_)
  have hP : va_P (dC, dI) vwCl [(h0, .inr (10, [.ref h0_in, w_h0_inSize, w_h0_out, w_h0_outSize, w_h0_dict, w_h0_dictSize, w_h0_told, .ref h0_fresh, .int h0_freshSize, w_h0_text, w_h0_lean, w_h0_size, w_h0_most, w_h0_offset, w_h0_copyAt, w_h0_copies, w_h0_copyLength, w_h0_copyOffset, w_h0_fromHere, w_h0_withCopy, w_h0_bestCopy, w_h0_bestLiterals, .int (0 : Int32), .int h0_literalsOf, .int h0_partsOf, w_h0_blocks, w_h0_blockMany, w_h0_newBlocks, w_h0_newMany, .int h0_rule, .int h0_place, .int h0_at])), (h0_in, .inl (cI, h0_in_n, .inl h0_in_f)), (h0_fresh, .inl (cI, h0_fresh_n, .inl h0_fresh_f))] H := hP
  have hD : va_D A [(h0, .inr (10, [.ref h0_in, w_h0_inSize, w_h0_out, w_h0_outSize, w_h0_dict, w_h0_dictSize, w_h0_told, .ref h0_fresh, .int h0_freshSize, w_h0_text, w_h0_lean, w_h0_size, w_h0_most, w_h0_offset, w_h0_copyAt, w_h0_copies, w_h0_copyLength, w_h0_copyOffset, w_h0_fromHere, w_h0_withCopy, w_h0_bestCopy, w_h0_bestLiterals, .int (0 : Int32), .int h0_literalsOf, .int h0_partsOf, w_h0_blocks, w_h0_blockMany, w_h0_newBlocks, w_h0_newMany, .int h0_rule, .int h0_place, .int h0_at])), (h0_in, .inl (cI, h0_in_n, .inl h0_in_f)), (h0_fresh, .inl (cI, h0_fresh_n, .inl h0_fresh_f))] := hD
  refine lv_aload_n hx hb dX12_readElements_15 rfl (lv_at hl 2 rfl) ?_
  refine lv_iconst (v := 0) hx hb dX12_readElements_16 (by decide) ?_
  refine va_put (D := (dC, dI)) (ci := 10) (v := .int (0 : Int32)) (ty := .int) (C := RX12) (T := TX12) (N := 32) hx hb hts inG_X12 tyX12 tyX12_ok nmX12 hown hK hP hD hS 0 rfl rfl 23 (by decide) (hts _ kw_1075) (fun _ h9 => h9) rfl (by decide +kernel) rfl rfl (Nat.le_of_ble_eq_true rfl) dX12_readElements_17 (fun H locs hP hD hS => ?_)
  have hP : va_P (dC, dI) vwCl [(h0, .inr (10, [.ref h0_in, w_h0_inSize, w_h0_out, w_h0_outSize, w_h0_dict, w_h0_dictSize, w_h0_told, .ref h0_fresh, .int h0_freshSize, w_h0_text, w_h0_lean, w_h0_size, w_h0_most, w_h0_offset, w_h0_copyAt, w_h0_copies, w_h0_copyLength, w_h0_copyOffset, w_h0_fromHere, w_h0_withCopy, w_h0_bestCopy, w_h0_bestLiterals, .int (0 : Int32), .int (0 : Int32), .int h0_partsOf, w_h0_blocks, w_h0_blockMany, w_h0_newBlocks, w_h0_newMany, .int h0_rule, .int h0_place, .int h0_at])), (h0_in, .inl (cI, h0_in_n, .inl h0_in_f)), (h0_fresh, .inl (cI, h0_fresh_n, .inl h0_fresh_f))] H := hP
  have hD : va_D A [(h0, .inr (10, [.ref h0_in, w_h0_inSize, w_h0_out, w_h0_outSize, w_h0_dict, w_h0_dictSize, w_h0_told, .ref h0_fresh, .int h0_freshSize, w_h0_text, w_h0_lean, w_h0_size, w_h0_most, w_h0_offset, w_h0_copyAt, w_h0_copies, w_h0_copyLength, w_h0_copyOffset, w_h0_fromHere, w_h0_withCopy, w_h0_bestCopy, w_h0_bestLiterals, .int (0 : Int32), .int (0 : Int32), .int h0_partsOf, w_h0_blocks, w_h0_blockMany, w_h0_newBlocks, w_h0_newMany, .int h0_rule, .int h0_place, .int h0_at])), (h0_in, .inl (cI, h0_in_n, .inl h0_in_f)), (h0_fresh, .inl (cI, h0_fresh_n, .inl h0_fresh_f))] := hD
  refine lv_aload_n hx hb dX12_readElements_20 rfl (lv_at hl 2 rfl) ?_
  refine lv_iconst (v := 0) hx hb dX12_readElements_21 (by decide) ?_
  refine va_put (D := (dC, dI)) (ci := 10) (v := .int (0 : Int32)) (ty := .int) (C := RX12) (T := TX12) (N := 32) hx hb hts inG_X12 tyX12 tyX12_ok nmX12 hown hK hP hD hS 0 rfl rfl 24 (by decide) (hts _ kw_1076) (fun _ h9 => h9) rfl (by decide +kernel) rfl rfl (Nat.le_of_ble_eq_true rfl) dX12_readElements_22 (fun H locs hP hD hS => ?_)
  have hP : va_P (dC, dI) vwCl [(h0, .inr (10, [.ref h0_in, w_h0_inSize, w_h0_out, w_h0_outSize, w_h0_dict, w_h0_dictSize, w_h0_told, .ref h0_fresh, .int h0_freshSize, w_h0_text, w_h0_lean, w_h0_size, w_h0_most, w_h0_offset, w_h0_copyAt, w_h0_copies, w_h0_copyLength, w_h0_copyOffset, w_h0_fromHere, w_h0_withCopy, w_h0_bestCopy, w_h0_bestLiterals, .int (0 : Int32), .int (0 : Int32), .int (0 : Int32), w_h0_blocks, w_h0_blockMany, w_h0_newBlocks, w_h0_newMany, .int h0_rule, .int h0_place, .int h0_at])), (h0_in, .inl (cI, h0_in_n, .inl h0_in_f)), (h0_fresh, .inl (cI, h0_fresh_n, .inl h0_fresh_f))] H := hP
  have hD : va_D A [(h0, .inr (10, [.ref h0_in, w_h0_inSize, w_h0_out, w_h0_outSize, w_h0_dict, w_h0_dictSize, w_h0_told, .ref h0_fresh, .int h0_freshSize, w_h0_text, w_h0_lean, w_h0_size, w_h0_most, w_h0_offset, w_h0_copyAt, w_h0_copies, w_h0_copyLength, w_h0_copyOffset, w_h0_fromHere, w_h0_withCopy, w_h0_bestCopy, w_h0_bestLiterals, .int (0 : Int32), .int (0 : Int32), .int (0 : Int32), w_h0_blocks, w_h0_blockMany, w_h0_newBlocks, w_h0_newMany, .int h0_rule, .int h0_place, .int h0_at])), (h0_in, .inl (cI, h0_in_n, .inl h0_in_f)), (h0_fresh, .inl (cI, h0_fresh_n, .inl h0_fresh_f))] := hD
  refine lv_lconst (v := 0) hx hb dX12_readElements_25 (by decide) ?_
  refine lv_lstore (lv' := [(4, .long (0 : Int64)), (3, .int h0_at), (2, .int h0_freshSize), (0, .ref h0), (1, .int a1)]) hx hb dX12_readElements_26 hl (by decide) rfl (fun ls hl => ?_)
  refine lv_iconst (v := 0) hx hb dX12_readElements_28 (by decide) ?_
  refine lv_istore (lv' := [(6, .int (0 : Int32)), (4, .long (0 : Int64)), (3, .int h0_at), (2, .int h0_freshSize), (0, .ref h0), (1, .int a1)]) hx hb dX12_readElements_29 hl (by decide) rfl (fun ls hl => ?_)
  refine lv_sipush (v := 128) hx hb dX12_readElements_31 (by decide) ?_
  refine lv_istore (lv' := [(7, .int (128 : Int32)), (6, .int (0 : Int32)), (4, .long (0 : Int64)), (3, .int h0_at), (2, .int h0_freshSize), (0, .ref h0), (1, .int a1)]) hx hb dX12_readElements_34 hl (by decide) rfl (fun ls hl => ?_)
  have hJ_117 : ∀ (g1 : Int32) (j4_2 : Int64) (H : Heap) (locs : List Loc) (ls : Array Slot), m_Mo_readElements_E117 a1 h0_freshSize h0_rule h0_place h0_at h0_in_n h0_in_f h0_fresh_n h0_fresh_f g1 j4_2 = some (o_r, o_h0_freshSize, o_h0_copiesOf, o_h0_literalsOf, o_h0_partsOf, o_h0_rule, o_h0_place, o_h0_at, o_h0_fresh_f) → va_P (dC, dI) vwCl [(h0, .inr (10, [.ref h0_in, w_h0_inSize, w_h0_out, w_h0_outSize, w_h0_dict, w_h0_dictSize, w_h0_told, .ref h0_fresh, .int h0_freshSize, w_h0_text, w_h0_lean, w_h0_size, w_h0_most, w_h0_offset, w_h0_copyAt, w_h0_copies, w_h0_copyLength, w_h0_copyOffset, w_h0_fromHere, w_h0_withCopy, w_h0_bestCopy, w_h0_bestLiterals, .int (0 : Int32), .int (0 : Int32), .int (0 : Int32), w_h0_blocks, w_h0_blockMany, w_h0_newBlocks, w_h0_newMany, .int h0_rule, .int h0_place, .int g1])), (h0_in, .inl (cI, h0_in_n, .inl h0_in_f)), (h0_fresh, .inl (cI, h0_fresh_n, .inl h0_fresh_f))] H → va_D A [(h0, .inr (10, [.ref h0_in, w_h0_inSize, w_h0_out, w_h0_outSize, w_h0_dict, w_h0_dictSize, w_h0_told, .ref h0_fresh, .int h0_freshSize, w_h0_text, w_h0_lean, w_h0_size, w_h0_most, w_h0_offset, w_h0_copyAt, w_h0_copies, w_h0_copyLength, w_h0_copyOffset, w_h0_fromHere, w_h0_withCopy, w_h0_bestCopy, w_h0_bestLiterals, .int (0 : Int32), .int (0 : Int32), .int (0 : Int32), w_h0_blocks, w_h0_blockMany, w_h0_newBlocks, w_h0_newMany, .int h0_rule, .int h0_place, .int g1])), (h0_in, .inl (cI, h0_in_n, .inl h0_in_f)), (h0_fresh, .inl (cI, h0_fresh_n, .inl h0_fresh_f))] → va_S A s.heap H locs → lv_has ls 19 [(0, .ref h0), (1, .int a1), (2, .int h0_freshSize), (3, .int h0_at), (4, .long j4_2)] → W p l e (rm_Mo_readElements) s m ([.ref h0, .int a1] : List Value).toArray below meth c H locs 0 0 Q (F0 m 117 ls []) := by
    intro g1 j4_2 H locs ls hf hP hD hS hl
    unfold m_Mo_readElements_E117 at hf
    refine lv_lload hx hb dX12_readElements_117 (lv_at hl 4 rfl) ?_
    refine lv_ldc2 hx hb hown (hts _ kw_1390) dX12_readElements_119 ?_
    refine W.lcmp hx hb dX12_readElements_122 ?_
    refine lv_if_le (tgt := 134) hx hb dX12_readElements_123 (by decide) (fun c_123 => ?_) (fun c_123 => ?_)
    · replace hf := if_t c_123 hf
      refine lv_aload_n hx hb dX12_readElements_134 rfl (lv_at hl 0 rfl) ?_
      refine va_get (D := (dC, dI)) (ci := 10) (v := .int h0_freshSize) (C := RX12) (T := TX12) (N := 32) hx hb hts inG_X12 hown hK hP 0 rfl rfl 8 (by decide) (hts _ kw_1060) (fun _ h9 => h9) rfl dX12_readElements_135 ?_
      refine lv_i2l (v := (h0_freshSize.toInt64)) hx hb dX12_readElements_138 rfl ?_
      refine lv_lload hx hb dX12_readElements_139 (lv_at hl 4 rfl) ?_
      refine lv_ladd hx hb dX12_readElements_141 ?_
      refine lv_ldc2 hx hb hown (hts _ kw_1370) dX12_readElements_142 ?_
      refine W.lcmp hx hb dX12_readElements_145 ?_
      refine lv_if_le (tgt := 157) hx hb dX12_readElements_146 (by decide) (fun c_146 => ?_) (fun c_146 => ?_)
      · replace hf := if_t c_146 hf
        have hJ_491 : ∀ (f3 : Nat → Int32) (g4 : Int32) (g5 : Int32) (g6 : Int32) (g7 : Int32) (g8 : Int32) (j8_9 : Int32) (H : Heap) (locs : List Loc) (ls : Array Slot), m_Mo_readElements_E491 f3 g4 g5 g6 g7 g8 j8_9 = some (o_r, o_h0_freshSize, o_h0_copiesOf, o_h0_literalsOf, o_h0_partsOf, o_h0_rule, o_h0_place, o_h0_at, o_h0_fresh_f) → va_P (dC, dI) vwCl [(h0, .inr (10, [.ref h0_in, w_h0_inSize, w_h0_out, w_h0_outSize, w_h0_dict, w_h0_dictSize, w_h0_told, .ref h0_fresh, .int g8, w_h0_text, w_h0_lean, w_h0_size, w_h0_most, w_h0_offset, w_h0_copyAt, w_h0_copies, w_h0_copyLength, w_h0_copyOffset, w_h0_fromHere, w_h0_withCopy, w_h0_bestCopy, w_h0_bestLiterals, .int g4, .int g5, .int g6, w_h0_blocks, w_h0_blockMany, w_h0_newBlocks, w_h0_newMany, .int h0_rule, .int h0_place, .int g7])), (h0_in, .inl (cI, h0_in_n, .inl h0_in_f)), (h0_fresh, .inl (cI, h0_fresh_n, .inl f3))] H → va_D A [(h0, .inr (10, [.ref h0_in, w_h0_inSize, w_h0_out, w_h0_outSize, w_h0_dict, w_h0_dictSize, w_h0_told, .ref h0_fresh, .int g8, w_h0_text, w_h0_lean, w_h0_size, w_h0_most, w_h0_offset, w_h0_copyAt, w_h0_copies, w_h0_copyLength, w_h0_copyOffset, w_h0_fromHere, w_h0_withCopy, w_h0_bestCopy, w_h0_bestLiterals, .int g4, .int g5, .int g6, w_h0_blocks, w_h0_blockMany, w_h0_newBlocks, w_h0_newMany, .int h0_rule, .int h0_place, .int g7])), (h0_in, .inl (cI, h0_in_n, .inl h0_in_f)), (h0_fresh, .inl (cI, h0_fresh_n, .inl f3))] → va_S A s.heap H locs → lv_has ls 19 [(0, .ref h0), (8, .int j8_9)] → W p l e (rm_Mo_readElements) s m ([.ref h0, .int a1] : List Value).toArray below meth c H locs 0 0 Q (F0 m 491 ls []) := by
          intro f3 g4 g5 g6 g7 g8 j8_9 H locs ls hf hP hD hS hl
          unfold m_Mo_readElements_E491 at hf
          refine lv_aload_n hx hb dX12_readElements_491 rfl (lv_at hl 0 rfl) ?_
          refine lv_iconst (v := 2) hx hb dX12_readElements_492 (by decide) ?_
          refine lv_iload hx hb dX12_readElements_493 (lv_at hl 1 rfl) ?_
          obtain ⟨x, hc, hf⟩ := bind_some hf
          obtain ⟨r10, u11, u12⟩ := x
          dsimp only at hf
          refine nx_i (rn_V (As := [.int (2 : Int32), .int j8_9]) (rest := []) (n := 2) (ci := 10) (q0 := 0) ⟨hx, hb, hml, hown, hts⟩ (c_Mo_no (l := l) (dC := dC) (dI := dI) (cB := cB) (cI := cI) (h0 := h0) (a1 := (2 : Int32)) (a2 := j8_9) (w_h0_in := (.ref h0_in)) (w_h0_inSize := (w_h0_inSize)) (w_h0_out := (w_h0_out)) (w_h0_outSize := (w_h0_outSize)) (w_h0_dict := (w_h0_dict)) (w_h0_dictSize := (w_h0_dictSize)) (w_h0_told := (w_h0_told)) (w_h0_fresh := (.ref h0_fresh)) (w_h0_freshSize := (.int g8)) (w_h0_text := (w_h0_text)) (w_h0_lean := (w_h0_lean)) (w_h0_size := (w_h0_size)) (w_h0_most := (w_h0_most)) (w_h0_offset := (w_h0_offset)) (w_h0_copyAt := (w_h0_copyAt)) (w_h0_copies := (w_h0_copies)) (w_h0_copyLength := (w_h0_copyLength)) (w_h0_copyOffset := (w_h0_copyOffset)) (w_h0_fromHere := (w_h0_fromHere)) (w_h0_withCopy := (w_h0_withCopy)) (w_h0_bestCopy := (w_h0_bestCopy)) (w_h0_bestLiterals := (w_h0_bestLiterals)) (w_h0_copiesOf := (.int g4)) (w_h0_literalsOf := (.int g5)) (w_h0_partsOf := (.int g6)) (w_h0_blocks := (w_h0_blocks)) (w_h0_blockMany := (w_h0_blockMany)) (w_h0_newBlocks := (w_h0_newBlocks)) (w_h0_newMany := (w_h0_newMany)) (h0_rule := h0_rule) (h0_place := h0_place) (w_h0_at := (.int g7)) (o_h0_rule := u11) (o_h0_place := u12) (o_r := r10) hc) (wV kw_1353 kw_1355 kw_72 kw_94 kw_1356) (by decide +kernel) ⟨Nat.le_of_ble_eq_true rfl, Nat.le_of_ble_eq_true rfl⟩ hK hP hD hN hT hS (va_free (wc := [(h0, .inr (10, [.ref h0_in, w_h0_inSize, w_h0_out, w_h0_outSize, w_h0_dict, w_h0_dictSize, w_h0_told, .ref h0_fresh, .int g8, w_h0_text, w_h0_lean, w_h0_size, w_h0_most, w_h0_offset, w_h0_copyAt, w_h0_copies, w_h0_copyLength, w_h0_copyOffset, w_h0_fromHere, w_h0_withCopy, w_h0_bestCopy, w_h0_bestLiterals, .int g4, .int g5, .int g6, w_h0_blocks, w_h0_blockMany, w_h0_newBlocks, w_h0_newMany, .int h0_rule, .int h0_place, .int g7]))]) hD hS hA [0] rfl) [0] rfl (by decide) rfl rfl rfl hl.1 rfl (lv_room (Nat.le_of_ble_eq_true rfl)) dX12_readElements_495 ⟨Nat.le_of_ble_eq_true rfl, Nat.le_of_ble_eq_true rfl⟩) hP hD hS hA (wr := [(h0_in, .inl (cI, h0_in_n, .inl h0_in_f)), (h0_fresh, .inl (cI, h0_fresh_n, .inl f3))]) (w1 := [(h0, .inr (10, [.ref h0_in, w_h0_inSize, w_h0_out, w_h0_outSize, w_h0_dict, w_h0_dictSize, w_h0_told, .ref h0_fresh, .int g8, w_h0_text, w_h0_lean, w_h0_size, w_h0_most, w_h0_offset, w_h0_copyAt, w_h0_copies, w_h0_copyLength, w_h0_copyOffset, w_h0_fromHere, w_h0_withCopy, w_h0_bestCopy, w_h0_bestLiterals, .int g4, .int g5, .int g6, w_h0_blocks, w_h0_blockMany, w_h0_newBlocks, w_h0_newMany, .int u11, .int u12, .int g7]))]) (ws' := [(h0, .inr (10, [.ref h0_in, w_h0_inSize, w_h0_out, w_h0_outSize, w_h0_dict, w_h0_dictSize, w_h0_told, .ref h0_fresh, .int g8, w_h0_text, w_h0_lean, w_h0_size, w_h0_most, w_h0_offset, w_h0_copyAt, w_h0_copies, w_h0_copyLength, w_h0_copyOffset, w_h0_fromHere, w_h0_withCopy, w_h0_bestCopy, w_h0_bestLiterals, .int g4, .int g5, .int g6, w_h0_blocks, w_h0_blockMany, w_h0_newBlocks, w_h0_newMany, .int u11, .int u12, .int g7])), (h0_in, .inl (cI, h0_in_n, .inl h0_in_f)), (h0_fresh, .inl (cI, h0_fresh_n, .inl f3))]) [0] [1, 2] [2, 0, 1] rfl rfl (by decide) (by decide) rfl (by decide) (fun H locs hP hD hS => ?_)
          obtain ⟨hzb, hf⟩ := bch_some hf
          obtain ⟨rfl, hq_1⟩ := Prod.mk.inj (Option.some.inj hf)
          obtain ⟨rfl, hq_2⟩ := Prod.mk.inj hq_1
          obtain ⟨rfl, hq_3⟩ := Prod.mk.inj hq_2
          obtain ⟨rfl, hq_4⟩ := Prod.mk.inj hq_3
          obtain ⟨rfl, hq_5⟩ := Prod.mk.inj hq_4
          obtain ⟨rfl, hq_6⟩ := Prod.mk.inj hq_5
          obtain ⟨rfl, hq_7⟩ := Prod.mk.inj hq_6
          obtain ⟨rfl, hq_8⟩ := Prod.mk.inj hq_7
          obtain rfl := hq_8
          exact rt_z hQ hx hb hr hzb hlocks hP hD hS dX12_readElements_498
        have hJ_547 : ∀ (f13 : Nat → Int32) (g14 : Int32) (g15 : Int32) (g16 : Int32) (g17 : Int32) (g18 : Int32) (H : Heap) (locs : List Loc) (ls : Array Slot), m_Mo_readElements_E547 a1 h0_freshSize h0_rule h0_place j4_2 f13 g14 g15 g16 g17 g18 = some (o_r, o_h0_freshSize, o_h0_copiesOf, o_h0_literalsOf, o_h0_partsOf, o_h0_rule, o_h0_place, o_h0_at, o_h0_fresh_f) → va_P (dC, dI) vwCl [(h0, .inr (10, [.ref h0_in, w_h0_inSize, w_h0_out, w_h0_outSize, w_h0_dict, w_h0_dictSize, w_h0_told, .ref h0_fresh, .int g18, w_h0_text, w_h0_lean, w_h0_size, w_h0_most, w_h0_offset, w_h0_copyAt, w_h0_copies, w_h0_copyLength, w_h0_copyOffset, w_h0_fromHere, w_h0_withCopy, w_h0_bestCopy, w_h0_bestLiterals, .int g14, .int g15, .int g16, w_h0_blocks, w_h0_blockMany, w_h0_newBlocks, w_h0_newMany, .int h0_rule, .int h0_place, .int g17])), (h0_in, .inl (cI, h0_in_n, .inl h0_in_f)), (h0_fresh, .inl (cI, h0_fresh_n, .inl f13))] H → va_D A [(h0, .inr (10, [.ref h0_in, w_h0_inSize, w_h0_out, w_h0_outSize, w_h0_dict, w_h0_dictSize, w_h0_told, .ref h0_fresh, .int g18, w_h0_text, w_h0_lean, w_h0_size, w_h0_most, w_h0_offset, w_h0_copyAt, w_h0_copies, w_h0_copyLength, w_h0_copyOffset, w_h0_fromHere, w_h0_withCopy, w_h0_bestCopy, w_h0_bestLiterals, .int g14, .int g15, .int g16, w_h0_blocks, w_h0_blockMany, w_h0_newBlocks, w_h0_newMany, .int h0_rule, .int h0_place, .int g17])), (h0_in, .inl (cI, h0_in_n, .inl h0_in_f)), (h0_fresh, .inl (cI, h0_fresh_n, .inl f13))] → va_S A s.heap H locs → lv_has ls 19 [(0, .ref h0), (1, .int a1), (2, .int h0_freshSize), (4, .long j4_2)] → W p l e (rm_Mo_readElements) s m ([.ref h0, .int a1] : List Value).toArray below meth c H locs 0 0 Q (F0 m 547 ls []) := by
          intro f13 g14 g15 g16 g17 g18 H locs ls hf hP hD hS hl
          unfold m_Mo_readElements_E547 at hf
          refine lv_aload_n hx hb dX12_readElements_547 rfl (lv_at hl 0 rfl) ?_
          refine va_get (D := (dC, dI)) (ci := 10) (v := .int g18) (C := RX12) (T := TX12) (N := 32) hx hb hts inG_X12 hown hK hP 0 rfl rfl 8 (by decide) (hts _ kw_1060) (fun _ h9 => h9) rfl dX12_readElements_548 ?_
          refine lv_iload_n hx hb dX12_readElements_551 rfl (lv_at hl 2 rfl) ?_
          refine lv_isub hx hb dX12_readElements_552 ?_
          refine lv_i2l (v := ((g18 - h0_freshSize).toInt64)) hx hb dX12_readElements_553 rfl ?_
          refine lv_lload hx hb dX12_readElements_554 (lv_at hl 3 rfl) ?_
          refine W.lcmp hx hb dX12_readElements_556 ?_
          refine lv_if_eq (tgt := 570) hx hb dX12_readElements_557 (by decide) (fun c_557 => ?_) (fun c_557 => ?_)
          · replace hf := if_t c_557 hf
            refine lv_iconst (v := 1) hx hb dX12_readElements_570 (by decide) ?_
            refine lv_goto (tgt := 575) hx hb dX12_readElements_571 (by decide) ?_
            have hzb : narrow .boolean (.int (1 : Int32)) = .int (1 : Int32) := rfl
            obtain ⟨rfl, hq_1⟩ := Prod.mk.inj (Option.some.inj hf)
            obtain ⟨rfl, hq_2⟩ := Prod.mk.inj hq_1
            obtain ⟨rfl, hq_3⟩ := Prod.mk.inj hq_2
            obtain ⟨rfl, hq_4⟩ := Prod.mk.inj hq_3
            obtain ⟨rfl, hq_5⟩ := Prod.mk.inj hq_4
            obtain ⟨rfl, hq_6⟩ := Prod.mk.inj hq_5
            obtain ⟨rfl, hq_7⟩ := Prod.mk.inj hq_6
            obtain ⟨rfl, hq_8⟩ := Prod.mk.inj hq_7
            obtain rfl := hq_8
            exact rt_z hQ hx hb hr hzb hlocks hP hD hS dX12_readElements_575
          · replace hf := if_f c_557 hf
            refine lv_aload_n hx hb dX12_readElements_560 rfl (lv_at hl 0 rfl) ?_
            refine lv_bipush (v := 14) hx hb dX12_readElements_561 (by decide) ?_
            refine lv_iload_n hx hb dX12_readElements_563 rfl (lv_at hl 1 rfl) ?_
            obtain ⟨x, hc, hf⟩ := bind_some hf
            obtain ⟨r19, u20, u21⟩ := x
            dsimp only at hf
            refine nx_i (rn_V (As := [.int (14 : Int32), .int a1]) (rest := []) (n := 2) (ci := 10) (q0 := 0) ⟨hx, hb, hml, hown, hts⟩ (c_Mo_no (l := l) (dC := dC) (dI := dI) (cB := cB) (cI := cI) (h0 := h0) (a1 := (14 : Int32)) (a2 := a1) (w_h0_in := (.ref h0_in)) (w_h0_inSize := (w_h0_inSize)) (w_h0_out := (w_h0_out)) (w_h0_outSize := (w_h0_outSize)) (w_h0_dict := (w_h0_dict)) (w_h0_dictSize := (w_h0_dictSize)) (w_h0_told := (w_h0_told)) (w_h0_fresh := (.ref h0_fresh)) (w_h0_freshSize := (.int g18)) (w_h0_text := (w_h0_text)) (w_h0_lean := (w_h0_lean)) (w_h0_size := (w_h0_size)) (w_h0_most := (w_h0_most)) (w_h0_offset := (w_h0_offset)) (w_h0_copyAt := (w_h0_copyAt)) (w_h0_copies := (w_h0_copies)) (w_h0_copyLength := (w_h0_copyLength)) (w_h0_copyOffset := (w_h0_copyOffset)) (w_h0_fromHere := (w_h0_fromHere)) (w_h0_withCopy := (w_h0_withCopy)) (w_h0_bestCopy := (w_h0_bestCopy)) (w_h0_bestLiterals := (w_h0_bestLiterals)) (w_h0_copiesOf := (.int g14)) (w_h0_literalsOf := (.int g15)) (w_h0_partsOf := (.int g16)) (w_h0_blocks := (w_h0_blocks)) (w_h0_blockMany := (w_h0_blockMany)) (w_h0_newBlocks := (w_h0_newBlocks)) (w_h0_newMany := (w_h0_newMany)) (h0_rule := h0_rule) (h0_place := h0_place) (w_h0_at := (.int g17)) (o_h0_rule := u20) (o_h0_place := u21) (o_r := r19) hc) (wV kw_1353 kw_1355 kw_72 kw_94 kw_1356) (by decide +kernel) ⟨Nat.le_of_ble_eq_true rfl, Nat.le_of_ble_eq_true rfl⟩ hK hP hD hN hT hS (va_free (wc := [(h0, .inr (10, [.ref h0_in, w_h0_inSize, w_h0_out, w_h0_outSize, w_h0_dict, w_h0_dictSize, w_h0_told, .ref h0_fresh, .int g18, w_h0_text, w_h0_lean, w_h0_size, w_h0_most, w_h0_offset, w_h0_copyAt, w_h0_copies, w_h0_copyLength, w_h0_copyOffset, w_h0_fromHere, w_h0_withCopy, w_h0_bestCopy, w_h0_bestLiterals, .int g14, .int g15, .int g16, w_h0_blocks, w_h0_blockMany, w_h0_newBlocks, w_h0_newMany, .int h0_rule, .int h0_place, .int g17]))]) hD hS hA [0] rfl) [0] rfl (by decide) rfl rfl rfl hl.1 rfl (lv_room (Nat.le_of_ble_eq_true rfl)) dX12_readElements_564 ⟨Nat.le_of_ble_eq_true rfl, Nat.le_of_ble_eq_true rfl⟩) hP hD hS hA (wr := [(h0_in, .inl (cI, h0_in_n, .inl h0_in_f)), (h0_fresh, .inl (cI, h0_fresh_n, .inl f13))]) (w1 := [(h0, .inr (10, [.ref h0_in, w_h0_inSize, w_h0_out, w_h0_outSize, w_h0_dict, w_h0_dictSize, w_h0_told, .ref h0_fresh, .int g18, w_h0_text, w_h0_lean, w_h0_size, w_h0_most, w_h0_offset, w_h0_copyAt, w_h0_copies, w_h0_copyLength, w_h0_copyOffset, w_h0_fromHere, w_h0_withCopy, w_h0_bestCopy, w_h0_bestLiterals, .int g14, .int g15, .int g16, w_h0_blocks, w_h0_blockMany, w_h0_newBlocks, w_h0_newMany, .int u20, .int u21, .int g17]))]) (ws' := [(h0, .inr (10, [.ref h0_in, w_h0_inSize, w_h0_out, w_h0_outSize, w_h0_dict, w_h0_dictSize, w_h0_told, .ref h0_fresh, .int g18, w_h0_text, w_h0_lean, w_h0_size, w_h0_most, w_h0_offset, w_h0_copyAt, w_h0_copies, w_h0_copyLength, w_h0_copyOffset, w_h0_fromHere, w_h0_withCopy, w_h0_bestCopy, w_h0_bestLiterals, .int g14, .int g15, .int g16, w_h0_blocks, w_h0_blockMany, w_h0_newBlocks, w_h0_newMany, .int u20, .int u21, .int g17])), (h0_in, .inl (cI, h0_in_n, .inl h0_in_f)), (h0_fresh, .inl (cI, h0_fresh_n, .inl f13))]) [0] [1, 2] [2, 0, 1] rfl rfl (by decide) (by decide) rfl (by decide) (fun H locs hP hD hS => ?_)
            refine lv_if_eq (tgt := 574) hx hb dX12_readElements_567 (by decide) (fun c_567 => ?_) (fun c_567 => ?_)
            · replace hf := if_t c_567 hf
              refine lv_iconst (v := 0) hx hb dX12_readElements_574 (by decide) ?_
              have hzb : narrow .boolean (.int (0 : Int32)) = .int (0 : Int32) := rfl
              obtain ⟨rfl, hq_1⟩ := Prod.mk.inj (Option.some.inj hf)
              obtain ⟨rfl, hq_2⟩ := Prod.mk.inj hq_1
              obtain ⟨rfl, hq_3⟩ := Prod.mk.inj hq_2
              obtain ⟨rfl, hq_4⟩ := Prod.mk.inj hq_3
              obtain ⟨rfl, hq_5⟩ := Prod.mk.inj hq_4
              obtain ⟨rfl, hq_6⟩ := Prod.mk.inj hq_5
              obtain ⟨rfl, hq_7⟩ := Prod.mk.inj hq_6
              obtain ⟨rfl, hq_8⟩ := Prod.mk.inj hq_7
              obtain rfl := hq_8
              exact rt_z hQ hx hb hr hzb hlocks hP hD hS dX12_readElements_575
            · replace hf := if_f c_567 hf
              refine lv_iconst (v := 1) hx hb dX12_readElements_570 (by decide) ?_
              refine lv_goto (tgt := 575) hx hb dX12_readElements_571 (by decide) ?_
              have hzb : narrow .boolean (.int (1 : Int32)) = .int (1 : Int32) := rfl
              obtain ⟨rfl, hq_1⟩ := Prod.mk.inj (Option.some.inj hf)
              obtain ⟨rfl, hq_2⟩ := Prod.mk.inj hq_1
              obtain ⟨rfl, hq_3⟩ := Prod.mk.inj hq_2
              obtain ⟨rfl, hq_4⟩ := Prod.mk.inj hq_3
              obtain ⟨rfl, hq_5⟩ := Prod.mk.inj hq_4
              obtain ⟨rfl, hq_6⟩ := Prod.mk.inj hq_5
              obtain ⟨rfl, hq_7⟩ := Prod.mk.inj hq_6
              obtain ⟨rfl, hq_8⟩ := Prod.mk.inj hq_7
              obtain rfl := hq_8
              exact rt_z hQ hx hb hr hzb hlocks hP hD hS dX12_readElements_575
        obtain ⟨o_157, hi_157, hk_157⟩ := bind_some hf
        have hL_157 : ∀ (n : Nat) (f22 : Nat → Int32) (g23 : Int32) (g24 : Int32) (g25 : Int32) (g26 : Int32) (g27 : Int32) (H : Heap) (locs : List Loc) (ls : Array Slot), iter (fun st => m_Mo_readElements_B157 a1 h0_freshSize h0_in_n h0_in_f h0_fresh_n j4_2 st.1 st.2.1 st.2.2.1 st.2.2.2.1 st.2.2.2.2.1 st.2.2.2.2.2) n (f22, g23, g24, g25, g26, g27) = some o_157 → va_P (dC, dI) vwCl [(h0, .inr (10, [.ref h0_in, w_h0_inSize, w_h0_out, w_h0_outSize, w_h0_dict, w_h0_dictSize, w_h0_told, .ref h0_fresh, .int g27, w_h0_text, w_h0_lean, w_h0_size, w_h0_most, w_h0_offset, w_h0_copyAt, w_h0_copies, w_h0_copyLength, w_h0_copyOffset, w_h0_fromHere, w_h0_withCopy, w_h0_bestCopy, w_h0_bestLiterals, .int g23, .int g24, .int g25, w_h0_blocks, w_h0_blockMany, w_h0_newBlocks, w_h0_newMany, .int h0_rule, .int h0_place, .int g26])), (h0_in, .inl (cI, h0_in_n, .inl h0_in_f)), (h0_fresh, .inl (cI, h0_fresh_n, .inl f22))] H → va_D A [(h0, .inr (10, [.ref h0_in, w_h0_inSize, w_h0_out, w_h0_outSize, w_h0_dict, w_h0_dictSize, w_h0_told, .ref h0_fresh, .int g27, w_h0_text, w_h0_lean, w_h0_size, w_h0_most, w_h0_offset, w_h0_copyAt, w_h0_copies, w_h0_copyLength, w_h0_copyOffset, w_h0_fromHere, w_h0_withCopy, w_h0_bestCopy, w_h0_bestLiterals, .int g23, .int g24, .int g25, w_h0_blocks, w_h0_blockMany, w_h0_newBlocks, w_h0_newMany, .int h0_rule, .int h0_place, .int g26])), (h0_in, .inl (cI, h0_in_n, .inl h0_in_f)), (h0_fresh, .inl (cI, h0_fresh_n, .inl f22))] → va_S A s.heap H locs → lv_has ls 19 [(0, .ref h0), (1, .int a1), (2, .int h0_freshSize), (4, .long j4_2)] → W p l e (rm_Mo_readElements) s m ([.ref h0, .int a1] : List Value).toArray below meth c H locs 0 0 Q (F0 m 157 ls []) := by
          intro n
          induction n with
          | zero => intro f22 g23 g24 g25 g26 g27 H locs ls hf; exact absurd hf (fun z => by cases z)
          | succ n ih_157 =>
            intro f22 g23 g24 g25 g26 g27 H locs ls hf hP hD hS hl
            obtain ⟨r_157, hf, hr_157⟩ := iter_succ hf
            have hf : m_Mo_readElements_B157 a1 h0_freshSize h0_in_n h0_in_f h0_fresh_n j4_2 f22 g23 g24 g25 g26 g27 = some r_157 := hf
            unfold m_Mo_readElements_B157 at hf
            refine lv_aload_n hx hb dX12_readElements_157 rfl (lv_at hl 0 rfl) ?_
            refine va_get (D := (dC, dI)) (ci := 10) (v := .int g26) (C := RX12) (T := TX12) (N := 32) hx hb hts inG_X12 hown hK hP 0 rfl rfl 31 (by decide) (hts _ kw_1083) (fun _ h9 => h9) rfl dX12_readElements_158 ?_
            refine lv_iload_n hx hb dX12_readElements_161 rfl (lv_at hl 1 rfl) ?_
            refine lv_icmp_ge (tgt := 547) hx hb dX12_readElements_162 (by decide) (fun c_162 => ?_) (fun c_162 => ?_)
            · replace hf := if_t c_162 hf
              have hf : m_Mo_readElements_E547 a1 h0_freshSize h0_rule h0_place j4_2 f22 g23 g24 g25 g26 g27 = some (o_r, o_h0_freshSize, o_h0_copiesOf, o_h0_literalsOf, o_h0_partsOf, o_h0_rule, o_h0_place, o_h0_at, o_h0_fresh_f) := by have hq := hk_157; rw [iter_exit hf hr_157] at hq; exact hq
              exact hJ_547 f22 g23 g24 g25 g26 g27 _ _ _ hf hP hD hS (lv_sub hl [0, 1, 2, 3] rfl)
            · replace hf := if_f c_162 hf
              refine lv_aload_n hx hb dX12_readElements_165 rfl (lv_at hl 0 rfl) ?_
              refine va_get (D := (dC, dI)) (ci := 10) (v := .int g26) (C := RX12) (T := TX12) (N := 32) hx hb hts inG_X12 hown hK hP 0 rfl rfl 31 (by decide) (hts _ kw_1083) (fun _ h9 => h9) rfl dX12_readElements_166 ?_
              refine lv_istore (lv' := [(8, .int g26), (0, .ref h0), (1, .int a1), (2, .int h0_freshSize), (4, .long j4_2)]) hx hb dX12_readElements_169 hl (by decide) rfl (fun ls hl => ?_)
              refine lv_aload_n hx hb dX12_readElements_171 rfl (lv_at hl 1 rfl) ?_
              refine va_get (D := (dC, dI)) (ci := 10) (v := .ref h0_in) (C := RX12) (T := TX12) (N := 32) hx hb hts inG_X12 hown hK hP 0 rfl rfl 0 (by decide) (hts _ kw_1052) (fun _ h9 => h9) rfl dX12_readElements_172 ?_
              refine lv_aload_n hx hb dX12_readElements_175 rfl (lv_at hl 1 rfl) ?_
              refine va_get (D := (dC, dI)) (ci := 10) (v := .int g26) (C := RX12) (T := TX12) (N := 32) hx hb hts inG_X12 hown hK hP 0 rfl rfl 31 (by decide) (hts _ kw_1083) (fun _ h9 => h9) rfl dX12_readElements_176 ?_
              obtain ⟨hin, hf⟩ := chk_some hf
              refine va_iald hx hb hK hP 1 1 rfl rfl hin dX12_readElements_179 ?_
              refine lv_iconst (v := 3) hx hb dX12_readElements_180 (by decide) ?_
              refine lv_iand hx hb dX12_readElements_181 ?_
              refine lv_topi (fun v9_28 e_v9_28 => ?_)
              replace hf := bnd_at e_v9_28 hf
              refine lv_istore (lv' := [(9, .int v9_28), (8, .int g26), (0, .ref h0), (1, .int a1), (2, .int h0_freshSize), (4, .long j4_2)]) hx hb dX12_readElements_182 hl (by decide) rfl (fun ls hl => ?_)
              refine lv_aload_n hx hb dX12_readElements_184 rfl (lv_at hl 2 rfl) ?_
              refine va_get (D := (dC, dI)) (ci := 10) (v := .ref h0_in) (C := RX12) (T := TX12) (N := 32) hx hb hts inG_X12 hown hK hP 0 rfl rfl 0 (by decide) (hts _ kw_1052) (fun _ h9 => h9) rfl dX12_readElements_185 ?_
              refine lv_aload_n hx hb dX12_readElements_188 rfl (lv_at hl 2 rfl) ?_
              refine va_get (D := (dC, dI)) (ci := 10) (v := .int g26) (C := RX12) (T := TX12) (N := 32) hx hb hts inG_X12 hown hK hP 0 rfl rfl 31 (by decide) (hts _ kw_1083) (fun _ h9 => h9) rfl dX12_readElements_189 ?_
              obtain ⟨hin, hf⟩ := chk_some hf
              refine va_iald hx hb hK hP 1 1 rfl rfl hin dX12_readElements_192 ?_
              refine lv_iconst (v := 2) hx hb dX12_readElements_193 (by decide) ?_
              refine lv_ishr hx hb dX12_readElements_194 ?_
              refine lv_topi (fun v10_29 e_v10_29 => ?_)
              replace hf := bnd_at e_v10_29 hf
              refine lv_istore (lv' := [(10, .int v10_29), (9, .int v9_28), (8, .int g26), (0, .ref h0), (1, .int a1), (2, .int h0_freshSize), (4, .long j4_2)]) hx hb dX12_readElements_195 hl (by decide) rfl (fun ls hl => ?_)
              refine lv_aload_n hx hb dX12_readElements_197 rfl (lv_at hl 3 rfl) ?_
              refine lv_dup hx hb dX12_readElements_198 rfl ?_
              refine va_get (D := (dC, dI)) (ci := 10) (v := .int g26) (C := RX12) (T := TX12) (N := 32) hx hb hts inG_X12 hown hK hP 0 rfl rfl 31 (by decide) (hts _ kw_1083) (fun _ h9 => h9) rfl dX12_readElements_199 ?_
              refine lv_iconst (v := 1) hx hb dX12_readElements_202 (by decide) ?_
              refine lv_iadd hx hb dX12_readElements_203 ?_
              refine lv_topi (fun p_30 e_p_30 => ?_)
              replace hf := bnd_at e_p_30 hf
              refine va_put (D := (dC, dI)) (ci := 10) (v := .int p_30) (ty := .int) (C := RX12) (T := TX12) (N := 32) hx hb hts inG_X12 tyX12 tyX12_ok nmX12 hown hK hP hD hS 0 rfl rfl 31 (by decide) (hts _ kw_1083) (fun _ h9 => h9) rfl (by decide +kernel) rfl rfl (Nat.le_of_ble_eq_true rfl) dX12_readElements_204 (fun H locs hP hD hS => ?_)
              have hP : va_P (dC, dI) vwCl [(h0, .inr (10, [.ref h0_in, w_h0_inSize, w_h0_out, w_h0_outSize, w_h0_dict, w_h0_dictSize, w_h0_told, .ref h0_fresh, .int g27, w_h0_text, w_h0_lean, w_h0_size, w_h0_most, w_h0_offset, w_h0_copyAt, w_h0_copies, w_h0_copyLength, w_h0_copyOffset, w_h0_fromHere, w_h0_withCopy, w_h0_bestCopy, w_h0_bestLiterals, .int g23, .int g24, .int g25, w_h0_blocks, w_h0_blockMany, w_h0_newBlocks, w_h0_newMany, .int h0_rule, .int h0_place, .int p_30])), (h0_in, .inl (cI, h0_in_n, .inl h0_in_f)), (h0_fresh, .inl (cI, h0_fresh_n, .inl f22))] H := hP
              have hD : va_D A [(h0, .inr (10, [.ref h0_in, w_h0_inSize, w_h0_out, w_h0_outSize, w_h0_dict, w_h0_dictSize, w_h0_told, .ref h0_fresh, .int g27, w_h0_text, w_h0_lean, w_h0_size, w_h0_most, w_h0_offset, w_h0_copyAt, w_h0_copies, w_h0_copyLength, w_h0_copyOffset, w_h0_fromHere, w_h0_withCopy, w_h0_bestCopy, w_h0_bestLiterals, .int g23, .int g24, .int g25, w_h0_blocks, w_h0_blockMany, w_h0_newBlocks, w_h0_newMany, .int h0_rule, .int h0_place, .int p_30])), (h0_in, .inl (cI, h0_in_n, .inl h0_in_f)), (h0_fresh, .inl (cI, h0_fresh_n, .inl f22))] := hD
              refine lv_iload hx hb dX12_readElements_207 (lv_at hl 1 rfl) ?_
              have hJ_236 : ∀ (s31 : Int32) (H : Heap) (locs : List Loc) (ls : Array Slot), m_Mo_readElements_J236 a1 h0_freshSize h0_in_n h0_in_f h0_fresh_n j4_2 f22 g23 g24 g25 g26 g27 v9_28 v10_29 p_30 s31 = some r_157 → va_P (dC, dI) vwCl [(h0, .inr (10, [.ref h0_in, w_h0_inSize, w_h0_out, w_h0_outSize, w_h0_dict, w_h0_dictSize, w_h0_told, .ref h0_fresh, .int g27, w_h0_text, w_h0_lean, w_h0_size, w_h0_most, w_h0_offset, w_h0_copyAt, w_h0_copies, w_h0_copyLength, w_h0_copyOffset, w_h0_fromHere, w_h0_withCopy, w_h0_bestCopy, w_h0_bestLiterals, .int g23, .int g24, .int g25, w_h0_blocks, w_h0_blockMany, w_h0_newBlocks, w_h0_newMany, .int h0_rule, .int h0_place, .int p_30])), (h0_in, .inl (cI, h0_in_n, .inl h0_in_f)), (h0_fresh, .inl (cI, h0_fresh_n, .inl f22))] H → va_D A [(h0, .inr (10, [.ref h0_in, w_h0_inSize, w_h0_out, w_h0_outSize, w_h0_dict, w_h0_dictSize, w_h0_told, .ref h0_fresh, .int g27, w_h0_text, w_h0_lean, w_h0_size, w_h0_most, w_h0_offset, w_h0_copyAt, w_h0_copies, w_h0_copyLength, w_h0_copyOffset, w_h0_fromHere, w_h0_withCopy, w_h0_bestCopy, w_h0_bestLiterals, .int g23, .int g24, .int g25, w_h0_blocks, w_h0_blockMany, w_h0_newBlocks, w_h0_newMany, .int h0_rule, .int h0_place, .int p_30])), (h0_in, .inl (cI, h0_in_n, .inl h0_in_f)), (h0_fresh, .inl (cI, h0_fresh_n, .inl f22))] → va_S A s.heap H locs → lv_has ls 19 [(0, .ref h0), (1, .int a1), (2, .int h0_freshSize), (4, .long j4_2), (8, .int g26), (9, .int v9_28), (10, .int v10_29)] → W p l e (rm_Mo_readElements) s m ([.ref h0, .int a1] : List Value).toArray below meth c H locs 0 0 Q (F0 m 236 ls [.int s31]) := by
                intro s31 H locs ls hf hP hD hS hl
                unfold m_Mo_readElements_J236 at hf
                refine lv_istore (lv' := [(11, .int s31), (0, .ref h0), (1, .int a1), (2, .int h0_freshSize), (4, .long j4_2), (8, .int g26), (9, .int v9_28), (10, .int v10_29)]) hx hb dX12_readElements_236 hl (by decide) rfl (fun ls hl => ?_)
                refine lv_iload_n hx hb dX12_readElements_238 rfl (lv_at hl 2 rfl) ?_
                refine lv_aload_n hx hb dX12_readElements_239 rfl (lv_at hl 1 rfl) ?_
                refine va_get (D := (dC, dI)) (ci := 10) (v := .int p_30) (C := RX12) (T := TX12) (N := 32) hx hb hts inG_X12 hown hK hP 0 rfl rfl 31 (by decide) (hts _ kw_1083) (fun _ h9 => h9) rfl dX12_readElements_240 ?_
                refine lv_isub hx hb dX12_readElements_243 ?_
                refine lv_iload hx hb dX12_readElements_244 (lv_at hl 0 rfl) ?_
                refine lv_icmp_ge (tgt := 256) hx hb dX12_readElements_246 (by decide) (fun c_246 => ?_) (fun c_246 => ?_)
                · replace hf := if_t c_246 hf
                  refine lv_aload_n hx hb dX12_readElements_256 rfl (lv_at hl 1 rfl) ?_
                  refine lv_aload_n hx hb dX12_readElements_257 rfl (lv_at hl 1 rfl) ?_
                  refine va_get (D := (dC, dI)) (ci := 10) (v := .int p_30) (C := RX12) (T := TX12) (N := 32) hx hb hts inG_X12 hown hK hP 0 rfl rfl 31 (by decide) (hts _ kw_1083) (fun _ h9 => h9) rfl dX12_readElements_258 ?_
                  refine lv_iload hx hb dX12_readElements_261 (lv_at hl 0 rfl) ?_
                  obtain ⟨r32, hc, hf⟩ := bind_some hf
                  refine nx_l (rn_V (As := [.int p_30, .int s31]) (rest := []) (n := 2) (ci := 10) (q0 := 0) ⟨hx, hb, hml, hown, hts⟩ (c_Mo_number (l := l) (dC := dC) (dI := dI) (cB := cB) (cI := cI) (h0 := h0) (a1 := p_30) (a2 := s31) (h0_in := h0_in) (w_h0_inSize := (w_h0_inSize)) (w_h0_out := (w_h0_out)) (w_h0_outSize := (w_h0_outSize)) (w_h0_dict := (w_h0_dict)) (w_h0_dictSize := (w_h0_dictSize)) (w_h0_told := (w_h0_told)) (w_h0_fresh := (.ref h0_fresh)) (w_h0_freshSize := (.int g27)) (w_h0_text := (w_h0_text)) (w_h0_lean := (w_h0_lean)) (w_h0_size := (w_h0_size)) (w_h0_most := (w_h0_most)) (w_h0_offset := (w_h0_offset)) (w_h0_copyAt := (w_h0_copyAt)) (w_h0_copies := (w_h0_copies)) (w_h0_copyLength := (w_h0_copyLength)) (w_h0_copyOffset := (w_h0_copyOffset)) (w_h0_fromHere := (w_h0_fromHere)) (w_h0_withCopy := (w_h0_withCopy)) (w_h0_bestCopy := (w_h0_bestCopy)) (w_h0_bestLiterals := (w_h0_bestLiterals)) (w_h0_copiesOf := (.int g23)) (w_h0_literalsOf := (.int g24)) (w_h0_partsOf := (.int g25)) (w_h0_blocks := (w_h0_blocks)) (w_h0_blockMany := (w_h0_blockMany)) (w_h0_newBlocks := (w_h0_newBlocks)) (w_h0_newMany := (w_h0_newMany)) (w_h0_rule := (.int h0_rule)) (w_h0_place := (.int h0_place)) (w_h0_at := (.int p_30)) (h0_in_n := h0_in_n) (h0_in_f := h0_in_f)  (o_r := r32) hc) (wV kw_1357 kw_1359 kw_73 kw_94 kw_1360) (by decide +kernel) ⟨Nat.le_of_ble_eq_true rfl, Nat.le_of_ble_eq_true rfl⟩ hK hP hD hN hT hS (va_free (wc := [(h0, .inr (10, [.ref h0_in, w_h0_inSize, w_h0_out, w_h0_outSize, w_h0_dict, w_h0_dictSize, w_h0_told, .ref h0_fresh, .int g27, w_h0_text, w_h0_lean, w_h0_size, w_h0_most, w_h0_offset, w_h0_copyAt, w_h0_copies, w_h0_copyLength, w_h0_copyOffset, w_h0_fromHere, w_h0_withCopy, w_h0_bestCopy, w_h0_bestLiterals, .int g23, .int g24, .int g25, w_h0_blocks, w_h0_blockMany, w_h0_newBlocks, w_h0_newMany, .int h0_rule, .int h0_place, .int p_30])), (h0_in, .inl (cI, h0_in_n, .inl h0_in_f))]) hD hS hA [0, 1] rfl) [0, 1] rfl (by decide) rfl rfl rfl hl.1 rfl (lv_room (Nat.le_of_ble_eq_true rfl)) dX12_readElements_263 ⟨Nat.le_of_ble_eq_true rfl, Nat.le_of_ble_eq_true rfl⟩) hP hD hS hA (wr := [(h0_fresh, .inl (cI, h0_fresh_n, .inl f22))]) (w1 := [(h0, .inr (10, [.ref h0_in, w_h0_inSize, w_h0_out, w_h0_outSize, w_h0_dict, w_h0_dictSize, w_h0_told, .ref h0_fresh, .int g27, w_h0_text, w_h0_lean, w_h0_size, w_h0_most, w_h0_offset, w_h0_copyAt, w_h0_copies, w_h0_copyLength, w_h0_copyOffset, w_h0_fromHere, w_h0_withCopy, w_h0_bestCopy, w_h0_bestLiterals, .int g23, .int g24, .int g25, w_h0_blocks, w_h0_blockMany, w_h0_newBlocks, w_h0_newMany, .int h0_rule, .int h0_place, .int p_30])), (h0_in, .inl (cI, h0_in_n, .inl h0_in_f))]) (ws' := [(h0, .inr (10, [.ref h0_in, w_h0_inSize, w_h0_out, w_h0_outSize, w_h0_dict, w_h0_dictSize, w_h0_told, .ref h0_fresh, .int g27, w_h0_text, w_h0_lean, w_h0_size, w_h0_most, w_h0_offset, w_h0_copyAt, w_h0_copies, w_h0_copyLength, w_h0_copyOffset, w_h0_fromHere, w_h0_withCopy, w_h0_bestCopy, w_h0_bestLiterals, .int g23, .int g24, .int g25, w_h0_blocks, w_h0_blockMany, w_h0_newBlocks, w_h0_newMany, .int h0_rule, .int h0_place, .int p_30])), (h0_in, .inl (cI, h0_in_n, .inl h0_in_f)), (h0_fresh, .inl (cI, h0_fresh_n, .inl f22))]) [0, 1] [2] [1, 2, 0] rfl rfl (by decide) (by decide) rfl (by decide) (fun H locs hP hD hS => ?_)
                  refine lv_lstore (lv' := [(12, .long r32), (11, .int s31), (0, .ref h0), (1, .int a1), (2, .int h0_freshSize), (4, .long j4_2), (8, .int g26), (9, .int v9_28), (10, .int v10_29)]) hx hb dX12_readElements_266 hl (by decide) rfl (fun ls hl => ?_)
                  refine lv_aload_n hx hb dX12_readElements_268 rfl (lv_at hl 2 rfl) ?_
                  refine lv_dup hx hb dX12_readElements_269 rfl ?_
                  refine va_get (D := (dC, dI)) (ci := 10) (v := .int p_30) (C := RX12) (T := TX12) (N := 32) hx hb hts inG_X12 hown hK hP 0 rfl rfl 31 (by decide) (hts _ kw_1083) (fun _ h9 => h9) rfl dX12_readElements_270 ?_
                  refine lv_iload hx hb dX12_readElements_273 (lv_at hl 1 rfl) ?_
                  refine lv_iadd hx hb dX12_readElements_275 ?_
                  refine lv_topi (fun p_33 e_p_33 => ?_)
                  replace hf := bnd_at e_p_33 hf
                  refine va_put (D := (dC, dI)) (ci := 10) (v := .int p_33) (ty := .int) (C := RX12) (T := TX12) (N := 32) hx hb hts inG_X12 tyX12 tyX12_ok nmX12 hown hK hP hD hS 0 rfl rfl 31 (by decide) (hts _ kw_1083) (fun _ h9 => h9) rfl (by decide +kernel) rfl rfl (Nat.le_of_ble_eq_true rfl) dX12_readElements_276 (fun H locs hP hD hS => ?_)
                  have hP : va_P (dC, dI) vwCl [(h0, .inr (10, [.ref h0_in, w_h0_inSize, w_h0_out, w_h0_outSize, w_h0_dict, w_h0_dictSize, w_h0_told, .ref h0_fresh, .int g27, w_h0_text, w_h0_lean, w_h0_size, w_h0_most, w_h0_offset, w_h0_copyAt, w_h0_copies, w_h0_copyLength, w_h0_copyOffset, w_h0_fromHere, w_h0_withCopy, w_h0_bestCopy, w_h0_bestLiterals, .int g23, .int g24, .int g25, w_h0_blocks, w_h0_blockMany, w_h0_newBlocks, w_h0_newMany, .int h0_rule, .int h0_place, .int p_33])), (h0_in, .inl (cI, h0_in_n, .inl h0_in_f)), (h0_fresh, .inl (cI, h0_fresh_n, .inl f22))] H := hP
                  have hD : va_D A [(h0, .inr (10, [.ref h0_in, w_h0_inSize, w_h0_out, w_h0_outSize, w_h0_dict, w_h0_dictSize, w_h0_told, .ref h0_fresh, .int g27, w_h0_text, w_h0_lean, w_h0_size, w_h0_most, w_h0_offset, w_h0_copyAt, w_h0_copies, w_h0_copyLength, w_h0_copyOffset, w_h0_fromHere, w_h0_withCopy, w_h0_bestCopy, w_h0_bestLiterals, .int g23, .int g24, .int g25, w_h0_blocks, w_h0_blockMany, w_h0_newBlocks, w_h0_newMany, .int h0_rule, .int h0_place, .int p_33])), (h0_in, .inl (cI, h0_in_n, .inl h0_in_f)), (h0_fresh, .inl (cI, h0_fresh_n, .inl f22))] := hD
                  refine lv_iload hx hb dX12_readElements_279 (lv_at hl 7 rfl) ?_
                  have hJ_328 : ∀ (s34 : Int64) (H : Heap) (locs : List Loc) (ls : Array Slot), m_Mo_readElements_J328 a1 h0_freshSize h0_in_n h0_in_f h0_fresh_n j4_2 f22 g23 g24 g25 g26 g27 v9_28 v10_29 r32 p_33 s34 = some r_157 → va_P (dC, dI) vwCl [(h0, .inr (10, [.ref h0_in, w_h0_inSize, w_h0_out, w_h0_outSize, w_h0_dict, w_h0_dictSize, w_h0_told, .ref h0_fresh, .int g27, w_h0_text, w_h0_lean, w_h0_size, w_h0_most, w_h0_offset, w_h0_copyAt, w_h0_copies, w_h0_copyLength, w_h0_copyOffset, w_h0_fromHere, w_h0_withCopy, w_h0_bestCopy, w_h0_bestLiterals, .int g23, .int g24, .int g25, w_h0_blocks, w_h0_blockMany, w_h0_newBlocks, w_h0_newMany, .int h0_rule, .int h0_place, .int p_33])), (h0_in, .inl (cI, h0_in_n, .inl h0_in_f)), (h0_fresh, .inl (cI, h0_fresh_n, .inl f22))] H → va_D A [(h0, .inr (10, [.ref h0_in, w_h0_inSize, w_h0_out, w_h0_outSize, w_h0_dict, w_h0_dictSize, w_h0_told, .ref h0_fresh, .int g27, w_h0_text, w_h0_lean, w_h0_size, w_h0_most, w_h0_offset, w_h0_copyAt, w_h0_copies, w_h0_copyLength, w_h0_copyOffset, w_h0_fromHere, w_h0_withCopy, w_h0_bestCopy, w_h0_bestLiterals, .int g23, .int g24, .int g25, w_h0_blocks, w_h0_blockMany, w_h0_newBlocks, w_h0_newMany, .int h0_rule, .int h0_place, .int p_33])), (h0_in, .inl (cI, h0_in_n, .inl h0_in_f)), (h0_fresh, .inl (cI, h0_fresh_n, .inl f22))] → va_S A s.heap H locs → lv_has ls 19 [(0, .ref h0), (1, .int a1), (2, .int h0_freshSize), (4, .long j4_2), (8, .int g26), (9, .int v9_28), (10, .int v10_29), (12, .long r32)] → W p l e (rm_Mo_readElements) s m ([.ref h0, .int a1] : List Value).toArray below meth c H locs 0 0 Q (F0 m 328 ls [.long s34]) := by
                    intro s34 H locs ls hf hP hD hS hl
                    unfold m_Mo_readElements_J328 at hf
                    refine lv_lstore (lv' := [(14, .long s34), (0, .ref h0), (1, .int a1), (2, .int h0_freshSize), (4, .long j4_2), (8, .int g26), (9, .int v9_28), (10, .int v10_29), (12, .long r32)]) hx hb dX12_readElements_328 hl (by decide) rfl (fun ls hl => ?_)
                    refine lv_iload hx hb dX12_readElements_330 (lv_at hl 6 rfl) ?_
                    refine lv_iconst (v := 1) hx hb dX12_readElements_332 (by decide) ?_
                    have hJ_353 : ∀ (s35 : Int64) (H : Heap) (locs : List Loc) (ls : Array Slot), m_Mo_readElements_J353 a1 h0_freshSize h0_in_n h0_in_f h0_fresh_n j4_2 f22 g23 g24 g25 g26 g27 v9_28 p_33 s34 s35 = some r_157 → va_P (dC, dI) vwCl [(h0, .inr (10, [.ref h0_in, w_h0_inSize, w_h0_out, w_h0_outSize, w_h0_dict, w_h0_dictSize, w_h0_told, .ref h0_fresh, .int g27, w_h0_text, w_h0_lean, w_h0_size, w_h0_most, w_h0_offset, w_h0_copyAt, w_h0_copies, w_h0_copyLength, w_h0_copyOffset, w_h0_fromHere, w_h0_withCopy, w_h0_bestCopy, w_h0_bestLiterals, .int g23, .int g24, .int g25, w_h0_blocks, w_h0_blockMany, w_h0_newBlocks, w_h0_newMany, .int h0_rule, .int h0_place, .int p_33])), (h0_in, .inl (cI, h0_in_n, .inl h0_in_f)), (h0_fresh, .inl (cI, h0_fresh_n, .inl f22))] H → va_D A [(h0, .inr (10, [.ref h0_in, w_h0_inSize, w_h0_out, w_h0_outSize, w_h0_dict, w_h0_dictSize, w_h0_told, .ref h0_fresh, .int g27, w_h0_text, w_h0_lean, w_h0_size, w_h0_most, w_h0_offset, w_h0_copyAt, w_h0_copies, w_h0_copyLength, w_h0_copyOffset, w_h0_fromHere, w_h0_withCopy, w_h0_bestCopy, w_h0_bestLiterals, .int g23, .int g24, .int g25, w_h0_blocks, w_h0_blockMany, w_h0_newBlocks, w_h0_newMany, .int h0_rule, .int h0_place, .int p_33])), (h0_in, .inl (cI, h0_in_n, .inl h0_in_f)), (h0_fresh, .inl (cI, h0_fresh_n, .inl f22))] → va_S A s.heap H locs → lv_has ls 19 [(0, .ref h0), (1, .int a1), (2, .int h0_freshSize), (4, .long j4_2), (8, .int g26), (9, .int v9_28), (14, .long s34)] → W p l e (rm_Mo_readElements) s m ([.ref h0, .int a1] : List Value).toArray below meth c H locs 0 0 Q (F0 m 353 ls [.long s35]) := by
                      intro s35 H locs ls hf hP hD hS hl
                      unfold m_Mo_readElements_J353 at hf
                      refine lv_lstore (lv' := [(16, .long s35), (0, .ref h0), (1, .int a1), (2, .int h0_freshSize), (4, .long j4_2), (8, .int g26), (9, .int v9_28), (14, .long s34)]) hx hb dX12_readElements_353 hl (by decide) rfl (fun ls hl => ?_)
                      refine lv_aload_n hx hb dX12_readElements_355 rfl (lv_at hl 1 rfl) ?_
                      refine va_get (D := (dC, dI)) (ci := 10) (v := .int g27) (C := RX12) (T := TX12) (N := 32) hx hb hts inG_X12 hown hK hP 0 rfl rfl 8 (by decide) (hts _ kw_1060) (fun _ h9 => h9) rfl dX12_readElements_356 ?_
                      refine lv_iload_n hx hb dX12_readElements_359 rfl (lv_at hl 3 rfl) ?_
                      refine lv_isub hx hb dX12_readElements_360 ?_
                      refine lv_i2l (v := ((g27 - h0_freshSize).toInt64)) hx hb dX12_readElements_361 rfl ?_
                      refine lv_lload hx hb dX12_readElements_362 (lv_at hl 7 rfl) ?_
                      refine lv_ladd hx hb dX12_readElements_364 ?_
                      refine lv_lload hx hb dX12_readElements_365 (lv_at hl 4 rfl) ?_
                      refine W.lcmp hx hb dX12_readElements_367 ?_
                      refine lv_if_le (tgt := 380) hx hb dX12_readElements_368 (by decide) (fun c_368 => ?_) (fun c_368 => ?_)
                      · replace hf := if_t c_368 hf
                        refine lv_aload_n hx hb dX12_readElements_380 rfl (lv_at hl 1 rfl) ?_
                        refine lv_dup hx hb dX12_readElements_381 rfl ?_
                        refine va_get (D := (dC, dI)) (ci := 10) (v := .int g25) (C := RX12) (T := TX12) (N := 32) hx hb hts inG_X12 hown hK hP 0 rfl rfl 24 (by decide) (hts _ kw_1076) (fun _ h9 => h9) rfl dX12_readElements_382 ?_
                        refine lv_iconst (v := 1) hx hb dX12_readElements_385 (by decide) ?_
                        refine lv_iadd hx hb dX12_readElements_386 ?_
                        refine lv_topi (fun p_36 e_p_36 => ?_)
                        replace hf := bnd_at e_p_36 hf
                        refine va_put (D := (dC, dI)) (ci := 10) (v := .int p_36) (ty := .int) (C := RX12) (T := TX12) (N := 32) hx hb hts inG_X12 tyX12 tyX12_ok nmX12 hown hK hP hD hS 0 rfl rfl 24 (by decide) (hts _ kw_1076) (fun _ h9 => h9) rfl (by decide +kernel) rfl rfl (Nat.le_of_ble_eq_true rfl) dX12_readElements_387 (fun H locs hP hD hS => ?_)
                        have hP : va_P (dC, dI) vwCl [(h0, .inr (10, [.ref h0_in, w_h0_inSize, w_h0_out, w_h0_outSize, w_h0_dict, w_h0_dictSize, w_h0_told, .ref h0_fresh, .int g27, w_h0_text, w_h0_lean, w_h0_size, w_h0_most, w_h0_offset, w_h0_copyAt, w_h0_copies, w_h0_copyLength, w_h0_copyOffset, w_h0_fromHere, w_h0_withCopy, w_h0_bestCopy, w_h0_bestLiterals, .int g23, .int g24, .int p_36, w_h0_blocks, w_h0_blockMany, w_h0_newBlocks, w_h0_newMany, .int h0_rule, .int h0_place, .int p_33])), (h0_in, .inl (cI, h0_in_n, .inl h0_in_f)), (h0_fresh, .inl (cI, h0_fresh_n, .inl f22))] H := hP
                        have hD : va_D A [(h0, .inr (10, [.ref h0_in, w_h0_inSize, w_h0_out, w_h0_outSize, w_h0_dict, w_h0_dictSize, w_h0_told, .ref h0_fresh, .int g27, w_h0_text, w_h0_lean, w_h0_size, w_h0_most, w_h0_offset, w_h0_copyAt, w_h0_copies, w_h0_copyLength, w_h0_copyOffset, w_h0_fromHere, w_h0_withCopy, w_h0_bestCopy, w_h0_bestLiterals, .int g23, .int g24, .int p_36, w_h0_blocks, w_h0_blockMany, w_h0_newBlocks, w_h0_newMany, .int h0_rule, .int h0_place, .int p_33])), (h0_in, .inl (cI, h0_in_n, .inl h0_in_f)), (h0_fresh, .inl (cI, h0_fresh_n, .inl f22))] := hD
                        refine lv_iload hx hb dX12_readElements_390 (lv_at hl 6 rfl) ?_
                        refine lv_if_ne (tgt := 471) hx hb dX12_readElements_392 (by decide) (fun c_392 => ?_) (fun c_392 => ?_)
                        · replace hf := if_f c_392 hf
                          refine lv_lload hx hb dX12_readElements_471 (lv_at hl 0 rfl) ?_
                          refine lv_lconst (v := 0) hx hb dX12_readElements_473 (by decide) ?_
                          refine W.lcmp hx hb dX12_readElements_474 ?_
                          refine lv_if_eq (tgt := 491) hx hb dX12_readElements_475 (by decide) (fun c_475 => ?_) (fun c_475 => ?_)
                          · replace hf := if_t c_475 hf
                            have hf : m_Mo_readElements_E491 f22 g23 g24 p_36 p_33 g27 g26 = some (o_r, o_h0_freshSize, o_h0_copiesOf, o_h0_literalsOf, o_h0_partsOf, o_h0_rule, o_h0_place, o_h0_at, o_h0_fresh_f) := by have hq := hk_157; rw [iter_exit hf hr_157] at hq; exact hq
                            exact hJ_491 f22 g23 g24 p_36 p_33 g27 g26 _ _ _ hf hP hD hS (lv_sub hl [1, 5] rfl)
                          · replace hf := if_f c_475 hf
                            refine lv_lload hx hb dX12_readElements_478 (lv_at hl 0 rfl) ?_
                            refine lv_aload_n hx hb dX12_readElements_480 rfl (lv_at hl 1 rfl) ?_
                            refine va_get (D := (dC, dI)) (ci := 10) (v := .int g27) (C := RX12) (T := TX12) (N := 32) hx hb hts inG_X12 hown hK hP 0 rfl rfl 8 (by decide) (hts _ kw_1060) (fun _ h9 => h9) rfl dX12_readElements_481 ?_
                            refine lv_iload_n hx hb dX12_readElements_484 rfl (lv_at hl 3 rfl) ?_
                            refine lv_isub hx hb dX12_readElements_485 ?_
                            refine lv_i2l (v := ((g27 - h0_freshSize).toInt64)) hx hb dX12_readElements_486 rfl ?_
                            refine W.lcmp hx hb dX12_readElements_487 ?_
                            refine lv_if_le (tgt := 499) hx hb dX12_readElements_488 (by decide) (fun c_488 => ?_) (fun c_488 => ?_)
                            · replace hf := if_t c_488 hf
                              refine lv_aload_n hx hb dX12_readElements_499 rfl (lv_at hl 1 rfl) ?_
                              refine lv_dup hx hb dX12_readElements_500 rfl ?_
                              refine va_get (D := (dC, dI)) (ci := 10) (v := .int g23) (C := RX12) (T := TX12) (N := 32) hx hb hts inG_X12 hown hK hP 0 rfl rfl 22 (by decide) (hts _ kw_1074) (fun _ h9 => h9) rfl dX12_readElements_501 ?_
                              refine lv_iconst (v := 1) hx hb dX12_readElements_504 (by decide) ?_
                              refine lv_iadd hx hb dX12_readElements_505 ?_
                              refine lv_topi (fun p_37 e_p_37 => ?_)
                              replace hf := bnd_at e_p_37 hf
                              refine va_put (D := (dC, dI)) (ci := 10) (v := .int p_37) (ty := .int) (C := RX12) (T := TX12) (N := 32) hx hb hts inG_X12 tyX12 tyX12_ok nmX12 hown hK hP hD hS 0 rfl rfl 22 (by decide) (hts _ kw_1074) (fun _ h9 => h9) rfl (by decide +kernel) rfl rfl (Nat.le_of_ble_eq_true rfl) dX12_readElements_506 (fun H locs hP hD hS => ?_)
                              have hP : va_P (dC, dI) vwCl [(h0, .inr (10, [.ref h0_in, w_h0_inSize, w_h0_out, w_h0_outSize, w_h0_dict, w_h0_dictSize, w_h0_told, .ref h0_fresh, .int g27, w_h0_text, w_h0_lean, w_h0_size, w_h0_most, w_h0_offset, w_h0_copyAt, w_h0_copies, w_h0_copyLength, w_h0_copyOffset, w_h0_fromHere, w_h0_withCopy, w_h0_bestCopy, w_h0_bestLiterals, .int p_37, .int g24, .int p_36, w_h0_blocks, w_h0_blockMany, w_h0_newBlocks, w_h0_newMany, .int h0_rule, .int h0_place, .int p_33])), (h0_in, .inl (cI, h0_in_n, .inl h0_in_f)), (h0_fresh, .inl (cI, h0_fresh_n, .inl f22))] H := hP
                              have hD : va_D A [(h0, .inr (10, [.ref h0_in, w_h0_inSize, w_h0_out, w_h0_outSize, w_h0_dict, w_h0_dictSize, w_h0_told, .ref h0_fresh, .int g27, w_h0_text, w_h0_lean, w_h0_size, w_h0_most, w_h0_offset, w_h0_copyAt, w_h0_copies, w_h0_copyLength, w_h0_copyOffset, w_h0_fromHere, w_h0_withCopy, w_h0_bestCopy, w_h0_bestLiterals, .int p_37, .int g24, .int p_36, w_h0_blocks, w_h0_blockMany, w_h0_newBlocks, w_h0_newMany, .int h0_rule, .int h0_place, .int p_33])), (h0_in, .inl (cI, h0_in_n, .inl h0_in_f)), (h0_fresh, .inl (cI, h0_fresh_n, .inl f22))] := hD
                              refine lv_iconst (v := 0) hx hb dX12_readElements_509 (by decide) ?_
                              refine lv_istore (lv' := [(18, .int (0 : Int32)), (16, .long s35), (0, .ref h0), (1, .int a1), (2, .int h0_freshSize), (4, .long j4_2), (8, .int g26), (9, .int v9_28), (14, .long s34)]) hx hb dX12_readElements_510 hl (by decide) rfl (fun ls hl => ?_)
                              have hJ_544 : ∀ (f38 : Nat → Int32) (g39 : Int32) (H : Heap) (locs : List Loc) (ls : Array Slot), m_Mo_readElements_E544 g24 p_33 p_36 p_37 f38 g39 = some r_157 → va_P (dC, dI) vwCl [(h0, .inr (10, [.ref h0_in, w_h0_inSize, w_h0_out, w_h0_outSize, w_h0_dict, w_h0_dictSize, w_h0_told, .ref h0_fresh, .int g39, w_h0_text, w_h0_lean, w_h0_size, w_h0_most, w_h0_offset, w_h0_copyAt, w_h0_copies, w_h0_copyLength, w_h0_copyOffset, w_h0_fromHere, w_h0_withCopy, w_h0_bestCopy, w_h0_bestLiterals, .int p_37, .int g24, .int p_36, w_h0_blocks, w_h0_blockMany, w_h0_newBlocks, w_h0_newMany, .int h0_rule, .int h0_place, .int p_33])), (h0_in, .inl (cI, h0_in_n, .inl h0_in_f)), (h0_fresh, .inl (cI, h0_fresh_n, .inl f38))] H → va_D A [(h0, .inr (10, [.ref h0_in, w_h0_inSize, w_h0_out, w_h0_outSize, w_h0_dict, w_h0_dictSize, w_h0_told, .ref h0_fresh, .int g39, w_h0_text, w_h0_lean, w_h0_size, w_h0_most, w_h0_offset, w_h0_copyAt, w_h0_copies, w_h0_copyLength, w_h0_copyOffset, w_h0_fromHere, w_h0_withCopy, w_h0_bestCopy, w_h0_bestLiterals, .int p_37, .int g24, .int p_36, w_h0_blocks, w_h0_blockMany, w_h0_newBlocks, w_h0_newMany, .int h0_rule, .int h0_place, .int p_33])), (h0_in, .inl (cI, h0_in_n, .inl h0_in_f)), (h0_fresh, .inl (cI, h0_fresh_n, .inl f38))] → va_S A s.heap H locs → lv_has ls 19 [(0, .ref h0), (1, .int a1), (2, .int h0_freshSize), (4, .long j4_2)] → W p l e (rm_Mo_readElements) s m ([.ref h0, .int a1] : List Value).toArray below meth c H locs 0 0 Q (F0 m 544 ls []) := by
                                intro f38 g39 H locs ls hf hP hD hS hl
                                unfold m_Mo_readElements_E544 at hf
                                refine lv_goto (tgt := 157) hx hb dX12_readElements_544 (by decide) ?_
                                exact ih_157 f38 p_37 g24 p_36 p_33 g39 _ _ _ (iter_back hf hr_157) hP hD hS (lv_sub hl [0, 1, 2, 3] rfl)
                              obtain ⟨o_512, hi_512, hk_512⟩ := bind_some hf
                              have hL_512 : ∀ (n : Nat) (f40 : Nat → Int32) (g41 : Int32) (j18_42 : Int32) (H : Heap) (locs : List Loc) (ls : Array Slot), iter (fun st => m_Mo_readElements_B512 h0_fresh_n s34 s35 st.1 st.2.1 st.2.2) n (f40, g41, j18_42) = some o_512 → va_P (dC, dI) vwCl [(h0, .inr (10, [.ref h0_in, w_h0_inSize, w_h0_out, w_h0_outSize, w_h0_dict, w_h0_dictSize, w_h0_told, .ref h0_fresh, .int g41, w_h0_text, w_h0_lean, w_h0_size, w_h0_most, w_h0_offset, w_h0_copyAt, w_h0_copies, w_h0_copyLength, w_h0_copyOffset, w_h0_fromHere, w_h0_withCopy, w_h0_bestCopy, w_h0_bestLiterals, .int p_37, .int g24, .int p_36, w_h0_blocks, w_h0_blockMany, w_h0_newBlocks, w_h0_newMany, .int h0_rule, .int h0_place, .int p_33])), (h0_in, .inl (cI, h0_in_n, .inl h0_in_f)), (h0_fresh, .inl (cI, h0_fresh_n, .inl f40))] H → va_D A [(h0, .inr (10, [.ref h0_in, w_h0_inSize, w_h0_out, w_h0_outSize, w_h0_dict, w_h0_dictSize, w_h0_told, .ref h0_fresh, .int g41, w_h0_text, w_h0_lean, w_h0_size, w_h0_most, w_h0_offset, w_h0_copyAt, w_h0_copies, w_h0_copyLength, w_h0_copyOffset, w_h0_fromHere, w_h0_withCopy, w_h0_bestCopy, w_h0_bestLiterals, .int p_37, .int g24, .int p_36, w_h0_blocks, w_h0_blockMany, w_h0_newBlocks, w_h0_newMany, .int h0_rule, .int h0_place, .int p_33])), (h0_in, .inl (cI, h0_in_n, .inl h0_in_f)), (h0_fresh, .inl (cI, h0_fresh_n, .inl f40))] → va_S A s.heap H locs → lv_has ls 19 [(0, .ref h0), (1, .int a1), (2, .int h0_freshSize), (4, .long j4_2), (14, .long s34), (16, .long s35), (18, .int j18_42)] → W p l e (rm_Mo_readElements) s m ([.ref h0, .int a1] : List Value).toArray below meth c H locs 0 0 Q (F0 m 512 ls []) := by
                                intro n
                                induction n with
                                | zero => intro f40 g41 j18_42 H locs ls hf; exact absurd hf (fun z => by cases z)
                                | succ n ih_512 =>
                                  intro f40 g41 j18_42 H locs ls hf hP hD hS hl
                                  obtain ⟨r_512, hf, hr_512⟩ := iter_succ hf
                                  have hf : m_Mo_readElements_B512 h0_fresh_n s34 s35 f40 g41 j18_42 = some r_512 := hf
                                  unfold m_Mo_readElements_B512 at hf
                                  refine lv_iload hx hb dX12_readElements_512 (lv_at hl 6 rfl) ?_
                                  refine lv_i2l (v := (j18_42.toInt64)) hx hb dX12_readElements_514 rfl ?_
                                  refine lv_lload hx hb dX12_readElements_515 (lv_at hl 4 rfl) ?_
                                  refine W.lcmp hx hb dX12_readElements_517 ?_
                                  refine lv_if_ge (tgt := 544) hx hb dX12_readElements_518 (by decide) (fun c_518 => ?_) (fun c_518 => ?_)
                                  · replace hf := if_t c_518 hf
                                    have hf : m_Mo_readElements_E544 g24 p_33 p_36 p_37 f40 g41 = some r_157 := by have hq := hk_512; rw [iter_exit hf hr_512] at hq; exact hq
                                    exact hJ_544 f40 g41 _ _ _ hf hP hD hS (lv_sub hl [0, 1, 2, 3] rfl)
                                  · replace hf := if_f c_518 hf
                                    refine lv_aload_n hx hb dX12_readElements_521 rfl (lv_at hl 0 rfl) ?_
                                    refine lv_aload_n hx hb dX12_readElements_522 rfl (lv_at hl 0 rfl) ?_
                                    refine va_get (D := (dC, dI)) (ci := 10) (v := .ref h0_fresh) (C := RX12) (T := TX12) (N := 32) hx hb hts inG_X12 hown hK hP 0 rfl rfl 7 (by decide) (hts _ kw_1059) (fun _ h9 => h9) rfl dX12_readElements_523 ?_
                                    refine lv_aload_n hx hb dX12_readElements_526 rfl (lv_at hl 0 rfl) ?_
                                    refine va_get (D := (dC, dI)) (ci := 10) (v := .int g41) (C := RX12) (T := TX12) (N := 32) hx hb hts inG_X12 hown hK hP 0 rfl rfl 8 (by decide) (hts _ kw_1060) (fun _ h9 => h9) rfl dX12_readElements_527 ?_
                                    refine lv_lload hx hb dX12_readElements_530 (lv_at hl 5 rfl) ?_
                                    refine lv_l2i (v := (s35.toInt32)) hx hb dX12_readElements_532 rfl ?_
                                    refine lv_isub hx hb dX12_readElements_533 ?_
                                    obtain ⟨hin, hf⟩ := chk_some hf
                                    refine va_iald hx hb hK hP 2 1 rfl rfl hin dX12_readElements_534 ?_
                                    obtain ⟨x, hc, hf⟩ := bind_some hf
                                    obtain ⟨u43, u44⟩ := x
                                    dsimp only at hf
                                    refine nx_v (rn_V (As := [.int (f40 (g41 - (s35.toInt32)).toNatClampNeg)]) (rest := []) (n := 1) (ci := 10) (q0 := 0) ⟨hx, hb, hml, hown, hts⟩ (c_Mo_put (l := l) (dC := dC) (dI := dI) (cB := cB) (cI := cI) (h0 := h0) (a1 := (f40 (g41 - (s35.toInt32)).toNatClampNeg)) (h0_fresh := h0_fresh) (w_h0_in := (.ref h0_in)) (w_h0_inSize := (w_h0_inSize)) (w_h0_out := (w_h0_out)) (w_h0_outSize := (w_h0_outSize)) (w_h0_dict := (w_h0_dict)) (w_h0_dictSize := (w_h0_dictSize)) (w_h0_told := (w_h0_told)) (h0_freshSize := g41) (w_h0_text := (w_h0_text)) (w_h0_lean := (w_h0_lean)) (w_h0_size := (w_h0_size)) (w_h0_most := (w_h0_most)) (w_h0_offset := (w_h0_offset)) (w_h0_copyAt := (w_h0_copyAt)) (w_h0_copies := (w_h0_copies)) (w_h0_copyLength := (w_h0_copyLength)) (w_h0_copyOffset := (w_h0_copyOffset)) (w_h0_fromHere := (w_h0_fromHere)) (w_h0_withCopy := (w_h0_withCopy)) (w_h0_bestCopy := (w_h0_bestCopy)) (w_h0_bestLiterals := (w_h0_bestLiterals)) (w_h0_copiesOf := (.int p_37)) (w_h0_literalsOf := (.int g24)) (w_h0_partsOf := (.int p_36)) (w_h0_blocks := (w_h0_blocks)) (w_h0_blockMany := (w_h0_blockMany)) (w_h0_newBlocks := (w_h0_newBlocks)) (w_h0_newMany := (w_h0_newMany)) (w_h0_rule := (.int h0_rule)) (w_h0_place := (.int h0_place)) (w_h0_at := (.int p_33)) (h0_fresh_n := h0_fresh_n) (h0_fresh_f := f40) (o_h0_freshSize := u43) (o_h0_fresh_f := u44) hc) (wV kw_1205 kw_1207 kw_51 kw_94 kw_1208) (by decide +kernel) ⟨Nat.le_of_ble_eq_true rfl, Nat.le_of_ble_eq_true rfl⟩ hK hP hD hN hT hS (va_free (wc := [(h0, .inr (10, [.ref h0_in, w_h0_inSize, w_h0_out, w_h0_outSize, w_h0_dict, w_h0_dictSize, w_h0_told, .ref h0_fresh, .int g41, w_h0_text, w_h0_lean, w_h0_size, w_h0_most, w_h0_offset, w_h0_copyAt, w_h0_copies, w_h0_copyLength, w_h0_copyOffset, w_h0_fromHere, w_h0_withCopy, w_h0_bestCopy, w_h0_bestLiterals, .int p_37, .int g24, .int p_36, w_h0_blocks, w_h0_blockMany, w_h0_newBlocks, w_h0_newMany, .int h0_rule, .int h0_place, .int p_33])), (h0_fresh, .inl (cI, h0_fresh_n, .inl f40))]) hD hS hA [0, 2] rfl) [0, 2] rfl (by decide) rfl rfl rfl hl.1 rfl (lv_room (Nat.le_of_ble_eq_true rfl)) dX12_readElements_535 ⟨Nat.le_of_ble_eq_true rfl, Nat.le_of_ble_eq_true rfl⟩) hP hD hS hA (wr := [(h0_in, .inl (cI, h0_in_n, .inl h0_in_f))]) (w1 := [(h0, .inr (10, [.ref h0_in, w_h0_inSize, w_h0_out, w_h0_outSize, w_h0_dict, w_h0_dictSize, w_h0_told, .ref h0_fresh, .int u43, w_h0_text, w_h0_lean, w_h0_size, w_h0_most, w_h0_offset, w_h0_copyAt, w_h0_copies, w_h0_copyLength, w_h0_copyOffset, w_h0_fromHere, w_h0_withCopy, w_h0_bestCopy, w_h0_bestLiterals, .int p_37, .int g24, .int p_36, w_h0_blocks, w_h0_blockMany, w_h0_newBlocks, w_h0_newMany, .int h0_rule, .int h0_place, .int p_33])), (h0_fresh, .inl (cI, h0_fresh_n, .inl u44))]) (ws' := [(h0, .inr (10, [.ref h0_in, w_h0_inSize, w_h0_out, w_h0_outSize, w_h0_dict, w_h0_dictSize, w_h0_told, .ref h0_fresh, .int u43, w_h0_text, w_h0_lean, w_h0_size, w_h0_most, w_h0_offset, w_h0_copyAt, w_h0_copies, w_h0_copyLength, w_h0_copyOffset, w_h0_fromHere, w_h0_withCopy, w_h0_bestCopy, w_h0_bestLiterals, .int p_37, .int g24, .int p_36, w_h0_blocks, w_h0_blockMany, w_h0_newBlocks, w_h0_newMany, .int h0_rule, .int h0_place, .int p_33])), (h0_in, .inl (cI, h0_in_n, .inl h0_in_f)), (h0_fresh, .inl (cI, h0_fresh_n, .inl u44))]) [0, 2] [1] [1, 0, 2] rfl rfl (by decide) (by decide) rfl (by decide) (fun H locs hP hD hS => ?_)
                                    obtain ⟨v18_45, e_v18_45⟩ : ∃ y : Int32, y = (j18_42 + (1 : Int32)) := ⟨_, rfl⟩
                                    replace hf := bnd_at e_v18_45 hf
                                    refine lv_iinc (v := v18_45) (lv' := [(18, .int v18_45), (0, .ref h0), (1, .int a1), (2, .int h0_freshSize), (4, .long j4_2), (14, .long s34), (16, .long s35)]) hx hb dX12_readElements_538 hl (k := 6) rfl (by rw [e_v18_45]; rfl) (by decide) rfl (fun ls hl => ?_)
                                    refine lv_goto (tgt := 512) hx hb dX12_readElements_541 (by decide) ?_
                                    exact ih_512 u44 u43 v18_45 _ _ _ (iter_back hf hr_512) hP hD hS (lv_sub hl [1, 2, 3, 4, 5, 6, 0] rfl)
                              exact hL_512 FU f22 g27 (0 : Int32) _ _ _ hi_512 hP hD hS (lv_sub hl [2, 3, 4, 5, 8, 1, 0] rfl)
                            · replace hf := if_f c_488 hf
                              have hf : m_Mo_readElements_E491 f22 g23 g24 p_36 p_33 g27 g26 = some (o_r, o_h0_freshSize, o_h0_copiesOf, o_h0_literalsOf, o_h0_partsOf, o_h0_rule, o_h0_place, o_h0_at, o_h0_fresh_f) := by have hq := hk_157; rw [iter_exit hf hr_157] at hq; exact hq
                              exact hJ_491 f22 g23 g24 p_36 p_33 g27 g26 _ _ _ hf hP hD hS (lv_sub hl [1, 5] rfl)
                        · replace hf := if_t c_392 hf
                          refine lv_iload_n hx hb dX12_readElements_395 rfl (lv_at hl 2 rfl) ?_
                          refine lv_aload_n hx hb dX12_readElements_396 rfl (lv_at hl 1 rfl) ?_
                          refine va_get (D := (dC, dI)) (ci := 10) (v := .int p_33) (C := RX12) (T := TX12) (N := 32) hx hb hts inG_X12 hown hK hP 0 rfl rfl 31 (by decide) (hts _ kw_1083) (fun _ h9 => h9) rfl dX12_readElements_397 ?_
                          refine lv_isub hx hb dX12_readElements_400 ?_
                          refine lv_i2l (v := ((a1 - p_33).toInt64)) hx hb dX12_readElements_401 rfl ?_
                          refine lv_lload hx hb dX12_readElements_402 (lv_at hl 7 rfl) ?_
                          refine W.lcmp hx hb dX12_readElements_404 ?_
                          refine lv_if_ge (tgt := 415) hx hb dX12_readElements_405 (by decide) (fun c_405 => ?_) (fun c_405 => ?_)
                          · replace hf := if_t c_405 hf
                            refine lv_aload_n hx hb dX12_readElements_415 rfl (lv_at hl 1 rfl) ?_
                            refine lv_dup hx hb dX12_readElements_416 rfl ?_
                            refine va_get (D := (dC, dI)) (ci := 10) (v := .int g24) (C := RX12) (T := TX12) (N := 32) hx hb hts inG_X12 hown hK hP 0 rfl rfl 23 (by decide) (hts _ kw_1075) (fun _ h9 => h9) rfl dX12_readElements_417 ?_
                            refine lv_lload hx hb dX12_readElements_420 (lv_at hl 7 rfl) ?_
                            refine lv_l2i (v := (s34.toInt32)) hx hb dX12_readElements_422 rfl ?_
                            refine lv_iadd hx hb dX12_readElements_423 ?_
                            refine lv_topi (fun p_46 e_p_46 => ?_)
                            replace hf := bnd_at e_p_46 hf
                            refine va_put (D := (dC, dI)) (ci := 10) (v := .int p_46) (ty := .int) (C := RX12) (T := TX12) (N := 32) hx hb hts inG_X12 tyX12 tyX12_ok nmX12 hown hK hP hD hS 0 rfl rfl 23 (by decide) (hts _ kw_1075) (fun _ h9 => h9) rfl (by decide +kernel) rfl rfl (Nat.le_of_ble_eq_true rfl) dX12_readElements_424 (fun H locs hP hD hS => ?_)
                            have hP : va_P (dC, dI) vwCl [(h0, .inr (10, [.ref h0_in, w_h0_inSize, w_h0_out, w_h0_outSize, w_h0_dict, w_h0_dictSize, w_h0_told, .ref h0_fresh, .int g27, w_h0_text, w_h0_lean, w_h0_size, w_h0_most, w_h0_offset, w_h0_copyAt, w_h0_copies, w_h0_copyLength, w_h0_copyOffset, w_h0_fromHere, w_h0_withCopy, w_h0_bestCopy, w_h0_bestLiterals, .int g23, .int p_46, .int p_36, w_h0_blocks, w_h0_blockMany, w_h0_newBlocks, w_h0_newMany, .int h0_rule, .int h0_place, .int p_33])), (h0_in, .inl (cI, h0_in_n, .inl h0_in_f)), (h0_fresh, .inl (cI, h0_fresh_n, .inl f22))] H := hP
                            have hD : va_D A [(h0, .inr (10, [.ref h0_in, w_h0_inSize, w_h0_out, w_h0_outSize, w_h0_dict, w_h0_dictSize, w_h0_told, .ref h0_fresh, .int g27, w_h0_text, w_h0_lean, w_h0_size, w_h0_most, w_h0_offset, w_h0_copyAt, w_h0_copies, w_h0_copyLength, w_h0_copyOffset, w_h0_fromHere, w_h0_withCopy, w_h0_bestCopy, w_h0_bestLiterals, .int g23, .int p_46, .int p_36, w_h0_blocks, w_h0_blockMany, w_h0_newBlocks, w_h0_newMany, .int h0_rule, .int h0_place, .int p_33])), (h0_in, .inl (cI, h0_in_n, .inl h0_in_f)), (h0_fresh, .inl (cI, h0_fresh_n, .inl f22))] := hD
                            refine lv_iconst (v := 0) hx hb dX12_readElements_427 (by decide) ?_
                            refine lv_istore (lv' := [(18, .int (0 : Int32)), (16, .long s35), (0, .ref h0), (1, .int a1), (2, .int h0_freshSize), (4, .long j4_2), (8, .int g26), (9, .int v9_28), (14, .long s34)]) hx hb dX12_readElements_428 hl (by decide) rfl (fun ls hl => ?_)
                            have hJ_468 : ∀ (f47 : Nat → Int32) (g48 : Int32) (g49 : Int32) (H : Heap) (locs : List Loc) (ls : Array Slot), m_Mo_readElements_E468 g23 p_36 p_46 f47 g48 g49 = some r_157 → va_P (dC, dI) vwCl [(h0, .inr (10, [.ref h0_in, w_h0_inSize, w_h0_out, w_h0_outSize, w_h0_dict, w_h0_dictSize, w_h0_told, .ref h0_fresh, .int g49, w_h0_text, w_h0_lean, w_h0_size, w_h0_most, w_h0_offset, w_h0_copyAt, w_h0_copies, w_h0_copyLength, w_h0_copyOffset, w_h0_fromHere, w_h0_withCopy, w_h0_bestCopy, w_h0_bestLiterals, .int g23, .int p_46, .int p_36, w_h0_blocks, w_h0_blockMany, w_h0_newBlocks, w_h0_newMany, .int h0_rule, .int h0_place, .int g48])), (h0_in, .inl (cI, h0_in_n, .inl h0_in_f)), (h0_fresh, .inl (cI, h0_fresh_n, .inl f47))] H → va_D A [(h0, .inr (10, [.ref h0_in, w_h0_inSize, w_h0_out, w_h0_outSize, w_h0_dict, w_h0_dictSize, w_h0_told, .ref h0_fresh, .int g49, w_h0_text, w_h0_lean, w_h0_size, w_h0_most, w_h0_offset, w_h0_copyAt, w_h0_copies, w_h0_copyLength, w_h0_copyOffset, w_h0_fromHere, w_h0_withCopy, w_h0_bestCopy, w_h0_bestLiterals, .int g23, .int p_46, .int p_36, w_h0_blocks, w_h0_blockMany, w_h0_newBlocks, w_h0_newMany, .int h0_rule, .int h0_place, .int g48])), (h0_in, .inl (cI, h0_in_n, .inl h0_in_f)), (h0_fresh, .inl (cI, h0_fresh_n, .inl f47))] → va_S A s.heap H locs → lv_has ls 19 [(0, .ref h0), (1, .int a1), (2, .int h0_freshSize), (4, .long j4_2)] → W p l e (rm_Mo_readElements) s m ([.ref h0, .int a1] : List Value).toArray below meth c H locs 0 0 Q (F0 m 468 ls []) := by
                              intro f47 g48 g49 H locs ls hf hP hD hS hl
                              unfold m_Mo_readElements_E468 at hf
                              refine lv_goto (tgt := 544) hx hb dX12_readElements_468 (by decide) ?_
                              refine lv_goto (tgt := 157) hx hb dX12_readElements_544 (by decide) ?_
                              exact ih_157 f47 g23 p_46 p_36 g48 g49 _ _ _ (iter_back hf hr_157) hP hD hS (lv_sub hl [0, 1, 2, 3] rfl)
                            obtain ⟨o_430, hi_430, hk_430⟩ := bind_some hf
                            have hL_430 : ∀ (n : Nat) (f50 : Nat → Int32) (g51 : Int32) (g52 : Int32) (j18_53 : Int32) (H : Heap) (locs : List Loc) (ls : Array Slot), iter (fun st => m_Mo_readElements_B430 h0_in_n h0_in_f h0_fresh_n s34 st.1 st.2.1 st.2.2.1 st.2.2.2) n (f50, g51, g52, j18_53) = some o_430 → va_P (dC, dI) vwCl [(h0, .inr (10, [.ref h0_in, w_h0_inSize, w_h0_out, w_h0_outSize, w_h0_dict, w_h0_dictSize, w_h0_told, .ref h0_fresh, .int g52, w_h0_text, w_h0_lean, w_h0_size, w_h0_most, w_h0_offset, w_h0_copyAt, w_h0_copies, w_h0_copyLength, w_h0_copyOffset, w_h0_fromHere, w_h0_withCopy, w_h0_bestCopy, w_h0_bestLiterals, .int g23, .int p_46, .int p_36, w_h0_blocks, w_h0_blockMany, w_h0_newBlocks, w_h0_newMany, .int h0_rule, .int h0_place, .int g51])), (h0_in, .inl (cI, h0_in_n, .inl h0_in_f)), (h0_fresh, .inl (cI, h0_fresh_n, .inl f50))] H → va_D A [(h0, .inr (10, [.ref h0_in, w_h0_inSize, w_h0_out, w_h0_outSize, w_h0_dict, w_h0_dictSize, w_h0_told, .ref h0_fresh, .int g52, w_h0_text, w_h0_lean, w_h0_size, w_h0_most, w_h0_offset, w_h0_copyAt, w_h0_copies, w_h0_copyLength, w_h0_copyOffset, w_h0_fromHere, w_h0_withCopy, w_h0_bestCopy, w_h0_bestLiterals, .int g23, .int p_46, .int p_36, w_h0_blocks, w_h0_blockMany, w_h0_newBlocks, w_h0_newMany, .int h0_rule, .int h0_place, .int g51])), (h0_in, .inl (cI, h0_in_n, .inl h0_in_f)), (h0_fresh, .inl (cI, h0_fresh_n, .inl f50))] → va_S A s.heap H locs → lv_has ls 19 [(0, .ref h0), (1, .int a1), (2, .int h0_freshSize), (4, .long j4_2), (14, .long s34), (18, .int j18_53)] → W p l e (rm_Mo_readElements) s m ([.ref h0, .int a1] : List Value).toArray below meth c H locs 0 0 Q (F0 m 430 ls []) := by
                              intro n
                              induction n with
                              | zero => intro f50 g51 g52 j18_53 H locs ls hf; exact absurd hf (fun z => by cases z)
                              | succ n ih_430 =>
                                intro f50 g51 g52 j18_53 H locs ls hf hP hD hS hl
                                obtain ⟨r_430, hf, hr_430⟩ := iter_succ hf
                                have hf : m_Mo_readElements_B430 h0_in_n h0_in_f h0_fresh_n s34 f50 g51 g52 j18_53 = some r_430 := hf
                                unfold m_Mo_readElements_B430 at hf
                                refine lv_iload hx hb dX12_readElements_430 (lv_at hl 5 rfl) ?_
                                refine lv_i2l (v := (j18_53.toInt64)) hx hb dX12_readElements_432 rfl ?_
                                refine lv_lload hx hb dX12_readElements_433 (lv_at hl 4 rfl) ?_
                                refine W.lcmp hx hb dX12_readElements_435 ?_
                                refine lv_if_ge (tgt := 468) hx hb dX12_readElements_436 (by decide) (fun c_436 => ?_) (fun c_436 => ?_)
                                · replace hf := if_t c_436 hf
                                  have hf : m_Mo_readElements_E468 g23 p_36 p_46 f50 g51 g52 = some r_157 := by have hq := hk_430; rw [iter_exit hf hr_430] at hq; exact hq
                                  exact hJ_468 f50 g51 g52 _ _ _ hf hP hD hS (lv_sub hl [0, 1, 2, 3] rfl)
                                · replace hf := if_f c_436 hf
                                  refine lv_aload_n hx hb dX12_readElements_439 rfl (lv_at hl 0 rfl) ?_
                                  refine lv_aload_n hx hb dX12_readElements_440 rfl (lv_at hl 0 rfl) ?_
                                  refine va_get (D := (dC, dI)) (ci := 10) (v := .ref h0_in) (C := RX12) (T := TX12) (N := 32) hx hb hts inG_X12 hown hK hP 0 rfl rfl 0 (by decide) (hts _ kw_1052) (fun _ h9 => h9) rfl dX12_readElements_441 ?_
                                  refine lv_aload_n hx hb dX12_readElements_444 rfl (lv_at hl 0 rfl) ?_
                                  refine va_get (D := (dC, dI)) (ci := 10) (v := .int g51) (C := RX12) (T := TX12) (N := 32) hx hb hts inG_X12 hown hK hP 0 rfl rfl 31 (by decide) (hts _ kw_1083) (fun _ h9 => h9) rfl dX12_readElements_445 ?_
                                  obtain ⟨hin, hf⟩ := chk_some hf
                                  refine va_iald hx hb hK hP 1 1 rfl rfl hin dX12_readElements_448 ?_
                                  obtain ⟨x, hc, hf⟩ := bind_some hf
                                  obtain ⟨u54, u55⟩ := x
                                  dsimp only at hf
                                  refine nx_v (rn_V (As := [.int (h0_in_f g51.toNatClampNeg)]) (rest := []) (n := 1) (ci := 10) (q0 := 0) ⟨hx, hb, hml, hown, hts⟩ (c_Mo_put (l := l) (dC := dC) (dI := dI) (cB := cB) (cI := cI) (h0 := h0) (a1 := (h0_in_f g51.toNatClampNeg)) (h0_fresh := h0_fresh) (w_h0_in := (.ref h0_in)) (w_h0_inSize := (w_h0_inSize)) (w_h0_out := (w_h0_out)) (w_h0_outSize := (w_h0_outSize)) (w_h0_dict := (w_h0_dict)) (w_h0_dictSize := (w_h0_dictSize)) (w_h0_told := (w_h0_told)) (h0_freshSize := g52) (w_h0_text := (w_h0_text)) (w_h0_lean := (w_h0_lean)) (w_h0_size := (w_h0_size)) (w_h0_most := (w_h0_most)) (w_h0_offset := (w_h0_offset)) (w_h0_copyAt := (w_h0_copyAt)) (w_h0_copies := (w_h0_copies)) (w_h0_copyLength := (w_h0_copyLength)) (w_h0_copyOffset := (w_h0_copyOffset)) (w_h0_fromHere := (w_h0_fromHere)) (w_h0_withCopy := (w_h0_withCopy)) (w_h0_bestCopy := (w_h0_bestCopy)) (w_h0_bestLiterals := (w_h0_bestLiterals)) (w_h0_copiesOf := (.int g23)) (w_h0_literalsOf := (.int p_46)) (w_h0_partsOf := (.int p_36)) (w_h0_blocks := (w_h0_blocks)) (w_h0_blockMany := (w_h0_blockMany)) (w_h0_newBlocks := (w_h0_newBlocks)) (w_h0_newMany := (w_h0_newMany)) (w_h0_rule := (.int h0_rule)) (w_h0_place := (.int h0_place)) (w_h0_at := (.int g51)) (h0_fresh_n := h0_fresh_n) (h0_fresh_f := f50) (o_h0_freshSize := u54) (o_h0_fresh_f := u55) hc) (wV kw_1205 kw_1207 kw_51 kw_94 kw_1208) (by decide +kernel) ⟨Nat.le_of_ble_eq_true rfl, Nat.le_of_ble_eq_true rfl⟩ hK hP hD hN hT hS (va_free (wc := [(h0, .inr (10, [.ref h0_in, w_h0_inSize, w_h0_out, w_h0_outSize, w_h0_dict, w_h0_dictSize, w_h0_told, .ref h0_fresh, .int g52, w_h0_text, w_h0_lean, w_h0_size, w_h0_most, w_h0_offset, w_h0_copyAt, w_h0_copies, w_h0_copyLength, w_h0_copyOffset, w_h0_fromHere, w_h0_withCopy, w_h0_bestCopy, w_h0_bestLiterals, .int g23, .int p_46, .int p_36, w_h0_blocks, w_h0_blockMany, w_h0_newBlocks, w_h0_newMany, .int h0_rule, .int h0_place, .int g51])), (h0_fresh, .inl (cI, h0_fresh_n, .inl f50))]) hD hS hA [0, 2] rfl) [0, 2] rfl (by decide) rfl rfl rfl hl.1 rfl (lv_room (Nat.le_of_ble_eq_true rfl)) dX12_readElements_449 ⟨Nat.le_of_ble_eq_true rfl, Nat.le_of_ble_eq_true rfl⟩) hP hD hS hA (wr := [(h0_in, .inl (cI, h0_in_n, .inl h0_in_f))]) (w1 := [(h0, .inr (10, [.ref h0_in, w_h0_inSize, w_h0_out, w_h0_outSize, w_h0_dict, w_h0_dictSize, w_h0_told, .ref h0_fresh, .int u54, w_h0_text, w_h0_lean, w_h0_size, w_h0_most, w_h0_offset, w_h0_copyAt, w_h0_copies, w_h0_copyLength, w_h0_copyOffset, w_h0_fromHere, w_h0_withCopy, w_h0_bestCopy, w_h0_bestLiterals, .int g23, .int p_46, .int p_36, w_h0_blocks, w_h0_blockMany, w_h0_newBlocks, w_h0_newMany, .int h0_rule, .int h0_place, .int g51])), (h0_fresh, .inl (cI, h0_fresh_n, .inl u55))]) (ws' := [(h0, .inr (10, [.ref h0_in, w_h0_inSize, w_h0_out, w_h0_outSize, w_h0_dict, w_h0_dictSize, w_h0_told, .ref h0_fresh, .int u54, w_h0_text, w_h0_lean, w_h0_size, w_h0_most, w_h0_offset, w_h0_copyAt, w_h0_copies, w_h0_copyLength, w_h0_copyOffset, w_h0_fromHere, w_h0_withCopy, w_h0_bestCopy, w_h0_bestLiterals, .int g23, .int p_46, .int p_36, w_h0_blocks, w_h0_blockMany, w_h0_newBlocks, w_h0_newMany, .int h0_rule, .int h0_place, .int g51])), (h0_in, .inl (cI, h0_in_n, .inl h0_in_f)), (h0_fresh, .inl (cI, h0_fresh_n, .inl u55))]) [0, 2] [1] [1, 0, 2] rfl rfl (by decide) (by decide) rfl (by decide) (fun H locs hP hD hS => ?_)
                                  refine lv_aload_n hx hb dX12_readElements_452 rfl (lv_at hl 0 rfl) ?_
                                  refine lv_dup hx hb dX12_readElements_453 rfl ?_
                                  refine va_get (D := (dC, dI)) (ci := 10) (v := .int g51) (C := RX12) (T := TX12) (N := 32) hx hb hts inG_X12 hown hK hP 0 rfl rfl 31 (by decide) (hts _ kw_1083) (fun _ h9 => h9) rfl dX12_readElements_454 ?_
                                  refine lv_iconst (v := 1) hx hb dX12_readElements_457 (by decide) ?_
                                  refine lv_iadd hx hb dX12_readElements_458 ?_
                                  refine lv_topi (fun p_56 e_p_56 => ?_)
                                  replace hf := bnd_at e_p_56 hf
                                  refine va_put (D := (dC, dI)) (ci := 10) (v := .int p_56) (ty := .int) (C := RX12) (T := TX12) (N := 32) hx hb hts inG_X12 tyX12 tyX12_ok nmX12 hown hK hP hD hS 0 rfl rfl 31 (by decide) (hts _ kw_1083) (fun _ h9 => h9) rfl (by decide +kernel) rfl rfl (Nat.le_of_ble_eq_true rfl) dX12_readElements_459 (fun H locs hP hD hS => ?_)
                                  have hP : va_P (dC, dI) vwCl [(h0, .inr (10, [.ref h0_in, w_h0_inSize, w_h0_out, w_h0_outSize, w_h0_dict, w_h0_dictSize, w_h0_told, .ref h0_fresh, .int u54, w_h0_text, w_h0_lean, w_h0_size, w_h0_most, w_h0_offset, w_h0_copyAt, w_h0_copies, w_h0_copyLength, w_h0_copyOffset, w_h0_fromHere, w_h0_withCopy, w_h0_bestCopy, w_h0_bestLiterals, .int g23, .int p_46, .int p_36, w_h0_blocks, w_h0_blockMany, w_h0_newBlocks, w_h0_newMany, .int h0_rule, .int h0_place, .int p_56])), (h0_in, .inl (cI, h0_in_n, .inl h0_in_f)), (h0_fresh, .inl (cI, h0_fresh_n, .inl u55))] H := hP
                                  have hD : va_D A [(h0, .inr (10, [.ref h0_in, w_h0_inSize, w_h0_out, w_h0_outSize, w_h0_dict, w_h0_dictSize, w_h0_told, .ref h0_fresh, .int u54, w_h0_text, w_h0_lean, w_h0_size, w_h0_most, w_h0_offset, w_h0_copyAt, w_h0_copies, w_h0_copyLength, w_h0_copyOffset, w_h0_fromHere, w_h0_withCopy, w_h0_bestCopy, w_h0_bestLiterals, .int g23, .int p_46, .int p_36, w_h0_blocks, w_h0_blockMany, w_h0_newBlocks, w_h0_newMany, .int h0_rule, .int h0_place, .int p_56])), (h0_in, .inl (cI, h0_in_n, .inl h0_in_f)), (h0_fresh, .inl (cI, h0_fresh_n, .inl u55))] := hD
                                  obtain ⟨v18_57, e_v18_57⟩ : ∃ y : Int32, y = (j18_53 + (1 : Int32)) := ⟨_, rfl⟩
                                  replace hf := bnd_at e_v18_57 hf
                                  refine lv_iinc (v := v18_57) (lv' := [(18, .int v18_57), (0, .ref h0), (1, .int a1), (2, .int h0_freshSize), (4, .long j4_2), (14, .long s34)]) hx hb dX12_readElements_462 hl (k := 5) rfl (by rw [e_v18_57]; rfl) (by decide) rfl (fun ls hl => ?_)
                                  refine lv_goto (tgt := 430) hx hb dX12_readElements_465 (by decide) ?_
                                  exact ih_430 u55 p_56 u54 v18_57 _ _ _ (iter_back hf hr_430) hP hD hS (lv_sub hl [1, 2, 3, 4, 5, 0] rfl)
                            exact hL_430 FU f22 p_33 g27 (0 : Int32) _ _ _ hi_430 hP hD hS (lv_sub hl [2, 3, 4, 5, 8, 0] rfl)
                          · replace hf := if_f c_405 hf
                            refine lv_aload_n hx hb dX12_readElements_408 rfl (lv_at hl 1 rfl) ?_
                            refine lv_iconst (v := 1) hx hb dX12_readElements_409 (by decide) ?_
                            refine lv_iload_n hx hb dX12_readElements_410 rfl (lv_at hl 2 rfl) ?_
                            obtain ⟨x, hc, hf⟩ := bind_some hf
                            obtain ⟨r58, u59, u60⟩ := x
                            dsimp only at hf
                            refine nx_i (rn_V (As := [.int (1 : Int32), .int a1]) (rest := []) (n := 2) (ci := 10) (q0 := 0) ⟨hx, hb, hml, hown, hts⟩ (c_Mo_no (l := l) (dC := dC) (dI := dI) (cB := cB) (cI := cI) (h0 := h0) (a1 := (1 : Int32)) (a2 := a1) (w_h0_in := (.ref h0_in)) (w_h0_inSize := (w_h0_inSize)) (w_h0_out := (w_h0_out)) (w_h0_outSize := (w_h0_outSize)) (w_h0_dict := (w_h0_dict)) (w_h0_dictSize := (w_h0_dictSize)) (w_h0_told := (w_h0_told)) (w_h0_fresh := (.ref h0_fresh)) (w_h0_freshSize := (.int g27)) (w_h0_text := (w_h0_text)) (w_h0_lean := (w_h0_lean)) (w_h0_size := (w_h0_size)) (w_h0_most := (w_h0_most)) (w_h0_offset := (w_h0_offset)) (w_h0_copyAt := (w_h0_copyAt)) (w_h0_copies := (w_h0_copies)) (w_h0_copyLength := (w_h0_copyLength)) (w_h0_copyOffset := (w_h0_copyOffset)) (w_h0_fromHere := (w_h0_fromHere)) (w_h0_withCopy := (w_h0_withCopy)) (w_h0_bestCopy := (w_h0_bestCopy)) (w_h0_bestLiterals := (w_h0_bestLiterals)) (w_h0_copiesOf := (.int g23)) (w_h0_literalsOf := (.int g24)) (w_h0_partsOf := (.int p_36)) (w_h0_blocks := (w_h0_blocks)) (w_h0_blockMany := (w_h0_blockMany)) (w_h0_newBlocks := (w_h0_newBlocks)) (w_h0_newMany := (w_h0_newMany)) (h0_rule := h0_rule) (h0_place := h0_place) (w_h0_at := (.int p_33)) (o_h0_rule := u59) (o_h0_place := u60) (o_r := r58) hc) (wV kw_1353 kw_1355 kw_72 kw_94 kw_1356) (by decide +kernel) ⟨Nat.le_of_ble_eq_true rfl, Nat.le_of_ble_eq_true rfl⟩ hK hP hD hN hT hS (va_free (wc := [(h0, .inr (10, [.ref h0_in, w_h0_inSize, w_h0_out, w_h0_outSize, w_h0_dict, w_h0_dictSize, w_h0_told, .ref h0_fresh, .int g27, w_h0_text, w_h0_lean, w_h0_size, w_h0_most, w_h0_offset, w_h0_copyAt, w_h0_copies, w_h0_copyLength, w_h0_copyOffset, w_h0_fromHere, w_h0_withCopy, w_h0_bestCopy, w_h0_bestLiterals, .int g23, .int g24, .int p_36, w_h0_blocks, w_h0_blockMany, w_h0_newBlocks, w_h0_newMany, .int h0_rule, .int h0_place, .int p_33]))]) hD hS hA [0] rfl) [0] rfl (by decide) rfl rfl rfl hl.1 rfl (lv_room (Nat.le_of_ble_eq_true rfl)) dX12_readElements_411 ⟨Nat.le_of_ble_eq_true rfl, Nat.le_of_ble_eq_true rfl⟩) hP hD hS hA (wr := [(h0_in, .inl (cI, h0_in_n, .inl h0_in_f)), (h0_fresh, .inl (cI, h0_fresh_n, .inl f22))]) (w1 := [(h0, .inr (10, [.ref h0_in, w_h0_inSize, w_h0_out, w_h0_outSize, w_h0_dict, w_h0_dictSize, w_h0_told, .ref h0_fresh, .int g27, w_h0_text, w_h0_lean, w_h0_size, w_h0_most, w_h0_offset, w_h0_copyAt, w_h0_copies, w_h0_copyLength, w_h0_copyOffset, w_h0_fromHere, w_h0_withCopy, w_h0_bestCopy, w_h0_bestLiterals, .int g23, .int g24, .int p_36, w_h0_blocks, w_h0_blockMany, w_h0_newBlocks, w_h0_newMany, .int u59, .int u60, .int p_33]))]) (ws' := [(h0, .inr (10, [.ref h0_in, w_h0_inSize, w_h0_out, w_h0_outSize, w_h0_dict, w_h0_dictSize, w_h0_told, .ref h0_fresh, .int g27, w_h0_text, w_h0_lean, w_h0_size, w_h0_most, w_h0_offset, w_h0_copyAt, w_h0_copies, w_h0_copyLength, w_h0_copyOffset, w_h0_fromHere, w_h0_withCopy, w_h0_bestCopy, w_h0_bestLiterals, .int g23, .int g24, .int p_36, w_h0_blocks, w_h0_blockMany, w_h0_newBlocks, w_h0_newMany, .int u59, .int u60, .int p_33])), (h0_in, .inl (cI, h0_in_n, .inl h0_in_f)), (h0_fresh, .inl (cI, h0_fresh_n, .inl f22))]) [0] [1, 2] [2, 0, 1] rfl rfl (by decide) (by decide) rfl (by decide) (fun H locs hP hD hS => ?_)
                            obtain ⟨hzb, hf⟩ := bch_some hf
                            replace hf : some (r58, g27, g23, g24, p_36, u59, u60, p_33, f22) = some (o_r, o_h0_freshSize, o_h0_copiesOf, o_h0_literalsOf, o_h0_partsOf, o_h0_rule, o_h0_place, o_h0_at, o_h0_fresh_f) := by have hq := hk_157; rw [iter_exit hf hr_157] at hq; exact hq
                            obtain ⟨rfl, hq_1⟩ := Prod.mk.inj (Option.some.inj hf)
                            obtain ⟨rfl, hq_2⟩ := Prod.mk.inj hq_1
                            obtain ⟨rfl, hq_3⟩ := Prod.mk.inj hq_2
                            obtain ⟨rfl, hq_4⟩ := Prod.mk.inj hq_3
                            obtain ⟨rfl, hq_5⟩ := Prod.mk.inj hq_4
                            obtain ⟨rfl, hq_6⟩ := Prod.mk.inj hq_5
                            obtain ⟨rfl, hq_7⟩ := Prod.mk.inj hq_6
                            obtain ⟨rfl, hq_8⟩ := Prod.mk.inj hq_7
                            obtain rfl := hq_8
                            exact rt_z hQ hx hb hr hzb hlocks hP hD hS dX12_readElements_414
                      · replace hf := if_f c_368 hf
                        refine lv_aload_n hx hb dX12_readElements_371 rfl (lv_at hl 1 rfl) ?_
                        refine lv_bipush (v := 14) hx hb dX12_readElements_372 (by decide) ?_
                        refine lv_iload hx hb dX12_readElements_374 (lv_at hl 5 rfl) ?_
                        obtain ⟨x, hc, hf⟩ := bind_some hf
                        obtain ⟨r61, u62, u63⟩ := x
                        dsimp only at hf
                        refine nx_i (rn_V (As := [.int (14 : Int32), .int g26]) (rest := []) (n := 2) (ci := 10) (q0 := 0) ⟨hx, hb, hml, hown, hts⟩ (c_Mo_no (l := l) (dC := dC) (dI := dI) (cB := cB) (cI := cI) (h0 := h0) (a1 := (14 : Int32)) (a2 := g26) (w_h0_in := (.ref h0_in)) (w_h0_inSize := (w_h0_inSize)) (w_h0_out := (w_h0_out)) (w_h0_outSize := (w_h0_outSize)) (w_h0_dict := (w_h0_dict)) (w_h0_dictSize := (w_h0_dictSize)) (w_h0_told := (w_h0_told)) (w_h0_fresh := (.ref h0_fresh)) (w_h0_freshSize := (.int g27)) (w_h0_text := (w_h0_text)) (w_h0_lean := (w_h0_lean)) (w_h0_size := (w_h0_size)) (w_h0_most := (w_h0_most)) (w_h0_offset := (w_h0_offset)) (w_h0_copyAt := (w_h0_copyAt)) (w_h0_copies := (w_h0_copies)) (w_h0_copyLength := (w_h0_copyLength)) (w_h0_copyOffset := (w_h0_copyOffset)) (w_h0_fromHere := (w_h0_fromHere)) (w_h0_withCopy := (w_h0_withCopy)) (w_h0_bestCopy := (w_h0_bestCopy)) (w_h0_bestLiterals := (w_h0_bestLiterals)) (w_h0_copiesOf := (.int g23)) (w_h0_literalsOf := (.int g24)) (w_h0_partsOf := (.int g25)) (w_h0_blocks := (w_h0_blocks)) (w_h0_blockMany := (w_h0_blockMany)) (w_h0_newBlocks := (w_h0_newBlocks)) (w_h0_newMany := (w_h0_newMany)) (h0_rule := h0_rule) (h0_place := h0_place) (w_h0_at := (.int p_33)) (o_h0_rule := u62) (o_h0_place := u63) (o_r := r61) hc) (wV kw_1353 kw_1355 kw_72 kw_94 kw_1356) (by decide +kernel) ⟨Nat.le_of_ble_eq_true rfl, Nat.le_of_ble_eq_true rfl⟩ hK hP hD hN hT hS (va_free (wc := [(h0, .inr (10, [.ref h0_in, w_h0_inSize, w_h0_out, w_h0_outSize, w_h0_dict, w_h0_dictSize, w_h0_told, .ref h0_fresh, .int g27, w_h0_text, w_h0_lean, w_h0_size, w_h0_most, w_h0_offset, w_h0_copyAt, w_h0_copies, w_h0_copyLength, w_h0_copyOffset, w_h0_fromHere, w_h0_withCopy, w_h0_bestCopy, w_h0_bestLiterals, .int g23, .int g24, .int g25, w_h0_blocks, w_h0_blockMany, w_h0_newBlocks, w_h0_newMany, .int h0_rule, .int h0_place, .int p_33]))]) hD hS hA [0] rfl) [0] rfl (by decide) rfl rfl rfl hl.1 rfl (lv_room (Nat.le_of_ble_eq_true rfl)) dX12_readElements_376 ⟨Nat.le_of_ble_eq_true rfl, Nat.le_of_ble_eq_true rfl⟩) hP hD hS hA (wr := [(h0_in, .inl (cI, h0_in_n, .inl h0_in_f)), (h0_fresh, .inl (cI, h0_fresh_n, .inl f22))]) (w1 := [(h0, .inr (10, [.ref h0_in, w_h0_inSize, w_h0_out, w_h0_outSize, w_h0_dict, w_h0_dictSize, w_h0_told, .ref h0_fresh, .int g27, w_h0_text, w_h0_lean, w_h0_size, w_h0_most, w_h0_offset, w_h0_copyAt, w_h0_copies, w_h0_copyLength, w_h0_copyOffset, w_h0_fromHere, w_h0_withCopy, w_h0_bestCopy, w_h0_bestLiterals, .int g23, .int g24, .int g25, w_h0_blocks, w_h0_blockMany, w_h0_newBlocks, w_h0_newMany, .int u62, .int u63, .int p_33]))]) (ws' := [(h0, .inr (10, [.ref h0_in, w_h0_inSize, w_h0_out, w_h0_outSize, w_h0_dict, w_h0_dictSize, w_h0_told, .ref h0_fresh, .int g27, w_h0_text, w_h0_lean, w_h0_size, w_h0_most, w_h0_offset, w_h0_copyAt, w_h0_copies, w_h0_copyLength, w_h0_copyOffset, w_h0_fromHere, w_h0_withCopy, w_h0_bestCopy, w_h0_bestLiterals, .int g23, .int g24, .int g25, w_h0_blocks, w_h0_blockMany, w_h0_newBlocks, w_h0_newMany, .int u62, .int u63, .int p_33])), (h0_in, .inl (cI, h0_in_n, .inl h0_in_f)), (h0_fresh, .inl (cI, h0_fresh_n, .inl f22))]) [0] [1, 2] [2, 0, 1] rfl rfl (by decide) (by decide) rfl (by decide) (fun H locs hP hD hS => ?_)
                        obtain ⟨hzb, hf⟩ := bch_some hf
                        replace hf : some (r61, g27, g23, g24, g25, u62, u63, p_33, f22) = some (o_r, o_h0_freshSize, o_h0_copiesOf, o_h0_literalsOf, o_h0_partsOf, o_h0_rule, o_h0_place, o_h0_at, o_h0_fresh_f) := by have hq := hk_157; rw [iter_exit hf hr_157] at hq; exact hq
                        obtain ⟨rfl, hq_1⟩ := Prod.mk.inj (Option.some.inj hf)
                        obtain ⟨rfl, hq_2⟩ := Prod.mk.inj hq_1
                        obtain ⟨rfl, hq_3⟩ := Prod.mk.inj hq_2
                        obtain ⟨rfl, hq_4⟩ := Prod.mk.inj hq_3
                        obtain ⟨rfl, hq_5⟩ := Prod.mk.inj hq_4
                        obtain ⟨rfl, hq_6⟩ := Prod.mk.inj hq_5
                        obtain ⟨rfl, hq_7⟩ := Prod.mk.inj hq_6
                        obtain ⟨rfl, hq_8⟩ := Prod.mk.inj hq_7
                        obtain rfl := hq_8
                        exact rt_z hQ hx hb hr hzb hlocks hP hD hS dX12_readElements_379
                    refine lv_icmp_ne (tgt := 351) hx hb dX12_readElements_333 (by decide) (fun c_333 => ?_) (fun c_333 => ?_)
                    · replace hf := if_f c_333 hf
                      refine lv_lload hx hb dX12_readElements_351 (lv_at hl 8 rfl) ?_
                      exact hJ_353 r32 _ _ _ hf hP hD hS (lv_sub hl [1, 2, 3, 4, 5, 6, 0] rfl)
                    · replace hf := if_t c_333 hf
                      refine lv_iload hx hb dX12_readElements_336 (lv_at hl 7 rfl) ?_
                      refine lv_iconst (v := 3) hx hb dX12_readElements_338 (by decide) ?_
                      refine lv_ishr hx hb dX12_readElements_339 ?_
                      refine lv_i2l (v := ((ishr v10_29 (3 : Int32)).toInt64)) hx hb dX12_readElements_340 rfl ?_
                      refine lv_ldc2 hx hb hown (hts _ kw_1391) dX12_readElements_341 ?_
                      refine lv_lmul hx hb dX12_readElements_344 ?_
                      refine lv_lload hx hb dX12_readElements_345 (lv_at hl 8 rfl) ?_
                      refine lv_ladd hx hb dX12_readElements_347 ?_
                      refine lv_goto (tgt := 353) hx hb dX12_readElements_348 (by decide) ?_
                      exact hJ_353 ((((ishr v10_29 (3 : Int32)).toInt64) * (256 : Int64)) + r32) _ _ _ hf hP hD hS (lv_sub hl [1, 2, 3, 4, 5, 6, 0] rfl)
                  refine lv_if_ne (tgt := 306) hx hb dX12_readElements_281 (by decide) (fun c_281 => ?_) (fun c_281 => ?_)
                  · replace hf := if_f c_281 hf
                    refine lv_iload hx hb dX12_readElements_306 (lv_at hl 7 rfl) ?_
                    refine lv_iconst (v := 1) hx hb dX12_readElements_308 (by decide) ?_
                    refine lv_icmp_ne (tgt := 323) hx hb dX12_readElements_309 (by decide) (fun c_309 => ?_) (fun c_309 => ?_)
                    · replace hf := if_f c_309 hf
                      refine lv_iload hx hb dX12_readElements_323 (lv_at hl 8 rfl) ?_
                      refine lv_i2l (v := (v10_29.toInt64)) hx hb dX12_readElements_325 rfl ?_
                      refine lv_lconst (v := 1) hx hb dX12_readElements_326 (by decide) ?_
                      refine lv_ladd hx hb dX12_readElements_327 ?_
                      exact hJ_328 ((v10_29.toInt64) + (1 : Int64)) _ _ _ hf hP hD hS (lv_sub hl [2, 3, 4, 5, 6, 7, 8, 0] rfl)
                    · replace hf := if_t c_309 hf
                      refine lv_iconst (v := 4) hx hb dX12_readElements_312 (by decide) ?_
                      refine lv_iload hx hb dX12_readElements_313 (lv_at hl 8 rfl) ?_
                      refine lv_bipush (v := 7) hx hb dX12_readElements_315 (by decide) ?_
                      refine lv_iand hx hb dX12_readElements_317 ?_
                      refine lv_iadd hx hb dX12_readElements_318 ?_
                      refine lv_i2l (v := (((4 : Int32) + (v10_29 &&& (7 : Int32))).toInt64)) hx hb dX12_readElements_319 rfl ?_
                      refine lv_goto (tgt := 328) hx hb dX12_readElements_320 (by decide) ?_
                      exact hJ_328 (((4 : Int32) + (v10_29 &&& (7 : Int32))).toInt64) _ _ _ hf hP hD hS (lv_sub hl [2, 3, 4, 5, 6, 7, 8, 0] rfl)
                  · replace hf := if_t c_281 hf
                    refine lv_iload hx hb dX12_readElements_284 (lv_at hl 8 rfl) ?_
                    refine lv_bipush (v := 60) hx hb dX12_readElements_286 (by decide) ?_
                    refine lv_icmp_ge (tgt := 299) hx hb dX12_readElements_288 (by decide) (fun c_288 => ?_) (fun c_288 => ?_)
                    · replace hf := if_t c_288 hf
                      refine lv_lload hx hb dX12_readElements_299 (lv_at hl 0 rfl) ?_
                      refine lv_lconst (v := 1) hx hb dX12_readElements_301 (by decide) ?_
                      refine lv_ladd hx hb dX12_readElements_302 ?_
                      refine lv_goto (tgt := 328) hx hb dX12_readElements_303 (by decide) ?_
                      exact hJ_328 (r32 + (1 : Int64)) _ _ _ hf hP hD hS (lv_sub hl [2, 3, 4, 5, 6, 7, 8, 0] rfl)
                    · replace hf := if_f c_288 hf
                      refine lv_iload hx hb dX12_readElements_291 (lv_at hl 8 rfl) ?_
                      refine lv_i2l (v := (v10_29.toInt64)) hx hb dX12_readElements_293 rfl ?_
                      refine lv_lconst (v := 1) hx hb dX12_readElements_294 (by decide) ?_
                      refine lv_ladd hx hb dX12_readElements_295 ?_
                      refine lv_goto (tgt := 328) hx hb dX12_readElements_296 (by decide) ?_
                      exact hJ_328 ((v10_29.toInt64) + (1 : Int64)) _ _ _ hf hP hD hS (lv_sub hl [2, 3, 4, 5, 6, 7, 8, 0] rfl)
                · replace hf := if_f c_246 hf
                  refine lv_aload_n hx hb dX12_readElements_249 rfl (lv_at hl 1 rfl) ?_
                  refine lv_iconst (v := 1) hx hb dX12_readElements_250 (by decide) ?_
                  refine lv_iload_n hx hb dX12_readElements_251 rfl (lv_at hl 2 rfl) ?_
                  obtain ⟨x, hc, hf⟩ := bind_some hf
                  obtain ⟨r64, u65, u66⟩ := x
                  dsimp only at hf
                  refine nx_i (rn_V (As := [.int (1 : Int32), .int a1]) (rest := []) (n := 2) (ci := 10) (q0 := 0) ⟨hx, hb, hml, hown, hts⟩ (c_Mo_no (l := l) (dC := dC) (dI := dI) (cB := cB) (cI := cI) (h0 := h0) (a1 := (1 : Int32)) (a2 := a1) (w_h0_in := (.ref h0_in)) (w_h0_inSize := (w_h0_inSize)) (w_h0_out := (w_h0_out)) (w_h0_outSize := (w_h0_outSize)) (w_h0_dict := (w_h0_dict)) (w_h0_dictSize := (w_h0_dictSize)) (w_h0_told := (w_h0_told)) (w_h0_fresh := (.ref h0_fresh)) (w_h0_freshSize := (.int g27)) (w_h0_text := (w_h0_text)) (w_h0_lean := (w_h0_lean)) (w_h0_size := (w_h0_size)) (w_h0_most := (w_h0_most)) (w_h0_offset := (w_h0_offset)) (w_h0_copyAt := (w_h0_copyAt)) (w_h0_copies := (w_h0_copies)) (w_h0_copyLength := (w_h0_copyLength)) (w_h0_copyOffset := (w_h0_copyOffset)) (w_h0_fromHere := (w_h0_fromHere)) (w_h0_withCopy := (w_h0_withCopy)) (w_h0_bestCopy := (w_h0_bestCopy)) (w_h0_bestLiterals := (w_h0_bestLiterals)) (w_h0_copiesOf := (.int g23)) (w_h0_literalsOf := (.int g24)) (w_h0_partsOf := (.int g25)) (w_h0_blocks := (w_h0_blocks)) (w_h0_blockMany := (w_h0_blockMany)) (w_h0_newBlocks := (w_h0_newBlocks)) (w_h0_newMany := (w_h0_newMany)) (h0_rule := h0_rule) (h0_place := h0_place) (w_h0_at := (.int p_30)) (o_h0_rule := u65) (o_h0_place := u66) (o_r := r64) hc) (wV kw_1353 kw_1355 kw_72 kw_94 kw_1356) (by decide +kernel) ⟨Nat.le_of_ble_eq_true rfl, Nat.le_of_ble_eq_true rfl⟩ hK hP hD hN hT hS (va_free (wc := [(h0, .inr (10, [.ref h0_in, w_h0_inSize, w_h0_out, w_h0_outSize, w_h0_dict, w_h0_dictSize, w_h0_told, .ref h0_fresh, .int g27, w_h0_text, w_h0_lean, w_h0_size, w_h0_most, w_h0_offset, w_h0_copyAt, w_h0_copies, w_h0_copyLength, w_h0_copyOffset, w_h0_fromHere, w_h0_withCopy, w_h0_bestCopy, w_h0_bestLiterals, .int g23, .int g24, .int g25, w_h0_blocks, w_h0_blockMany, w_h0_newBlocks, w_h0_newMany, .int h0_rule, .int h0_place, .int p_30]))]) hD hS hA [0] rfl) [0] rfl (by decide) rfl rfl rfl hl.1 rfl (lv_room (Nat.le_of_ble_eq_true rfl)) dX12_readElements_252 ⟨Nat.le_of_ble_eq_true rfl, Nat.le_of_ble_eq_true rfl⟩) hP hD hS hA (wr := [(h0_in, .inl (cI, h0_in_n, .inl h0_in_f)), (h0_fresh, .inl (cI, h0_fresh_n, .inl f22))]) (w1 := [(h0, .inr (10, [.ref h0_in, w_h0_inSize, w_h0_out, w_h0_outSize, w_h0_dict, w_h0_dictSize, w_h0_told, .ref h0_fresh, .int g27, w_h0_text, w_h0_lean, w_h0_size, w_h0_most, w_h0_offset, w_h0_copyAt, w_h0_copies, w_h0_copyLength, w_h0_copyOffset, w_h0_fromHere, w_h0_withCopy, w_h0_bestCopy, w_h0_bestLiterals, .int g23, .int g24, .int g25, w_h0_blocks, w_h0_blockMany, w_h0_newBlocks, w_h0_newMany, .int u65, .int u66, .int p_30]))]) (ws' := [(h0, .inr (10, [.ref h0_in, w_h0_inSize, w_h0_out, w_h0_outSize, w_h0_dict, w_h0_dictSize, w_h0_told, .ref h0_fresh, .int g27, w_h0_text, w_h0_lean, w_h0_size, w_h0_most, w_h0_offset, w_h0_copyAt, w_h0_copies, w_h0_copyLength, w_h0_copyOffset, w_h0_fromHere, w_h0_withCopy, w_h0_bestCopy, w_h0_bestLiterals, .int g23, .int g24, .int g25, w_h0_blocks, w_h0_blockMany, w_h0_newBlocks, w_h0_newMany, .int u65, .int u66, .int p_30])), (h0_in, .inl (cI, h0_in_n, .inl h0_in_f)), (h0_fresh, .inl (cI, h0_fresh_n, .inl f22))]) [0] [1, 2] [2, 0, 1] rfl rfl (by decide) (by decide) rfl (by decide) (fun H locs hP hD hS => ?_)
                  obtain ⟨hzb, hf⟩ := bch_some hf
                  replace hf : some (r64, g27, g23, g24, g25, u65, u66, p_30, f22) = some (o_r, o_h0_freshSize, o_h0_copiesOf, o_h0_literalsOf, o_h0_partsOf, o_h0_rule, o_h0_place, o_h0_at, o_h0_fresh_f) := by have hq := hk_157; rw [iter_exit hf hr_157] at hq; exact hq
                  obtain ⟨rfl, hq_1⟩ := Prod.mk.inj (Option.some.inj hf)
                  obtain ⟨rfl, hq_2⟩ := Prod.mk.inj hq_1
                  obtain ⟨rfl, hq_3⟩ := Prod.mk.inj hq_2
                  obtain ⟨rfl, hq_4⟩ := Prod.mk.inj hq_3
                  obtain ⟨rfl, hq_5⟩ := Prod.mk.inj hq_4
                  obtain ⟨rfl, hq_6⟩ := Prod.mk.inj hq_5
                  obtain ⟨rfl, hq_7⟩ := Prod.mk.inj hq_6
                  obtain ⟨rfl, hq_8⟩ := Prod.mk.inj hq_7
                  obtain rfl := hq_8
                  exact rt_z hQ hx hb hr hzb hlocks hP hD hS dX12_readElements_255
              refine lv_if_ne (tgt := 224) hx hb dX12_readElements_209 (by decide) (fun c_209 => ?_) (fun c_209 => ?_)
              · replace hf := if_f c_209 hf
                refine lv_iload hx hb dX12_readElements_224 (lv_at hl 1 rfl) ?_
                refine lv_iconst (v := 3) hx hb dX12_readElements_226 (by decide) ?_
                refine lv_icmp_ne (tgt := 234) hx hb dX12_readElements_227 (by decide) (fun c_227 => ?_) (fun c_227 => ?_)
                · replace hf := if_f c_227 hf
                  refine lv_iload hx hb dX12_readElements_234 (lv_at hl 1 rfl) ?_
                  exact hJ_236 v9_28 _ _ _ hf hP hD hS (lv_sub hl [3, 4, 5, 6, 2, 1, 0] rfl)
                · replace hf := if_t c_227 hf
                  refine lv_iconst (v := 4) hx hb dX12_readElements_230 (by decide) ?_
                  refine lv_goto (tgt := 236) hx hb dX12_readElements_231 (by decide) ?_
                  exact hJ_236 (4 : Int32) _ _ _ hf hP hD hS (lv_sub hl [3, 4, 5, 6, 2, 1, 0] rfl)
              · replace hf := if_t c_209 hf
                refine lv_iconst (v := 0) hx hb dX12_readElements_212 (by decide) ?_
                refine lv_iload hx hb dX12_readElements_213 (lv_at hl 0 rfl) ?_
                refine lv_bipush (v := 59) hx hb dX12_readElements_215 (by decide) ?_
                refine lv_isub hx hb dX12_readElements_217 ?_
                obtain ⟨r67, hc, hf⟩ := bind_some hf
                refine nx_i (rn_S (As := [.int (0 : Int32), .int (v10_29 - (59 : Int32))]) (rest := []) (n := 2) ⟨hx, hb, hml, hown, hts⟩ (c_Mo_great (l := l) (dC := dC) (dI := dI) (cB := cB) (cI := cI) (a0 := (0 : Int32)) (a1 := (v10_29 - (59 : Int32)))  (o_r := r67) hc) (wS kw_1244 kw_1245 kw_94 kw_1246) (by decide +kernel) ⟨Nat.le_of_ble_eq_true rfl, Nat.le_of_ble_eq_true rfl⟩ hK hP hD hN hT hS (va_free (wc := []) hD hS hA [] rfl) [] rfl (by decide) rfl hl.1 rfl (lv_room (Nat.le_of_ble_eq_true rfl)) dX12_readElements_218 ⟨Nat.le_of_ble_eq_true rfl, Nat.le_of_ble_eq_true rfl⟩) hP hD hS hA (wr := [(h0, .inr (10, [.ref h0_in, w_h0_inSize, w_h0_out, w_h0_outSize, w_h0_dict, w_h0_dictSize, w_h0_told, .ref h0_fresh, .int g27, w_h0_text, w_h0_lean, w_h0_size, w_h0_most, w_h0_offset, w_h0_copyAt, w_h0_copies, w_h0_copyLength, w_h0_copyOffset, w_h0_fromHere, w_h0_withCopy, w_h0_bestCopy, w_h0_bestLiterals, .int g23, .int g24, .int g25, w_h0_blocks, w_h0_blockMany, w_h0_newBlocks, w_h0_newMany, .int h0_rule, .int h0_place, .int p_30])), (h0_in, .inl (cI, h0_in_n, .inl h0_in_f)), (h0_fresh, .inl (cI, h0_fresh_n, .inl f22))]) (w1 := []) (ws' := [(h0, .inr (10, [.ref h0_in, w_h0_inSize, w_h0_out, w_h0_outSize, w_h0_dict, w_h0_dictSize, w_h0_told, .ref h0_fresh, .int g27, w_h0_text, w_h0_lean, w_h0_size, w_h0_most, w_h0_offset, w_h0_copyAt, w_h0_copies, w_h0_copyLength, w_h0_copyOffset, w_h0_fromHere, w_h0_withCopy, w_h0_bestCopy, w_h0_bestLiterals, .int g23, .int g24, .int g25, w_h0_blocks, w_h0_blockMany, w_h0_newBlocks, w_h0_newMany, .int h0_rule, .int h0_place, .int p_30])), (h0_in, .inl (cI, h0_in_n, .inl h0_in_f)), (h0_fresh, .inl (cI, h0_fresh_n, .inl f22))]) [] [0, 1, 2] [0, 1, 2] rfl rfl (by decide) (by decide) rfl (by decide) (fun H locs hP hD hS => ?_)
                refine lv_goto (tgt := 236) hx hb dX12_readElements_221 (by decide) ?_
                exact hJ_236 r67 _ _ _ hf hP hD hS (lv_sub hl [3, 4, 5, 6, 2, 1, 0] rfl)
        exact hL_157 FU h0_fresh_f (0 : Int32) (0 : Int32) (0 : Int32) g1 h0_freshSize _ _ _ hi_157 hP hD hS (lv_sub hl [0, 1, 2, 4] rfl)
      · replace hf := if_f c_146 hf
        refine lv_aload_n hx hb dX12_readElements_149 rfl (lv_at hl 0 rfl) ?_
        refine lv_bipush (v := 12) hx hb dX12_readElements_150 (by decide) ?_
        refine lv_iload_n hx hb dX12_readElements_152 rfl (lv_at hl 3 rfl) ?_
        obtain ⟨x, hc, hf⟩ := bind_some hf
        obtain ⟨r68, u69, u70⟩ := x
        dsimp only at hf
        refine nx_i (rn_V (As := [.int (12 : Int32), .int h0_at]) (rest := []) (n := 2) (ci := 10) (q0 := 0) ⟨hx, hb, hml, hown, hts⟩ (c_Mo_no (l := l) (dC := dC) (dI := dI) (cB := cB) (cI := cI) (h0 := h0) (a1 := (12 : Int32)) (a2 := h0_at) (w_h0_in := (.ref h0_in)) (w_h0_inSize := (w_h0_inSize)) (w_h0_out := (w_h0_out)) (w_h0_outSize := (w_h0_outSize)) (w_h0_dict := (w_h0_dict)) (w_h0_dictSize := (w_h0_dictSize)) (w_h0_told := (w_h0_told)) (w_h0_fresh := (.ref h0_fresh)) (w_h0_freshSize := (.int h0_freshSize)) (w_h0_text := (w_h0_text)) (w_h0_lean := (w_h0_lean)) (w_h0_size := (w_h0_size)) (w_h0_most := (w_h0_most)) (w_h0_offset := (w_h0_offset)) (w_h0_copyAt := (w_h0_copyAt)) (w_h0_copies := (w_h0_copies)) (w_h0_copyLength := (w_h0_copyLength)) (w_h0_copyOffset := (w_h0_copyOffset)) (w_h0_fromHere := (w_h0_fromHere)) (w_h0_withCopy := (w_h0_withCopy)) (w_h0_bestCopy := (w_h0_bestCopy)) (w_h0_bestLiterals := (w_h0_bestLiterals)) (w_h0_copiesOf := (.int (0 : Int32))) (w_h0_literalsOf := (.int (0 : Int32))) (w_h0_partsOf := (.int (0 : Int32))) (w_h0_blocks := (w_h0_blocks)) (w_h0_blockMany := (w_h0_blockMany)) (w_h0_newBlocks := (w_h0_newBlocks)) (w_h0_newMany := (w_h0_newMany)) (h0_rule := h0_rule) (h0_place := h0_place) (w_h0_at := (.int g1)) (o_h0_rule := u69) (o_h0_place := u70) (o_r := r68) hc) (wV kw_1353 kw_1355 kw_72 kw_94 kw_1356) (by decide +kernel) ⟨Nat.le_of_ble_eq_true rfl, Nat.le_of_ble_eq_true rfl⟩ hK hP hD hN hT hS (va_free (wc := [(h0, .inr (10, [.ref h0_in, w_h0_inSize, w_h0_out, w_h0_outSize, w_h0_dict, w_h0_dictSize, w_h0_told, .ref h0_fresh, .int h0_freshSize, w_h0_text, w_h0_lean, w_h0_size, w_h0_most, w_h0_offset, w_h0_copyAt, w_h0_copies, w_h0_copyLength, w_h0_copyOffset, w_h0_fromHere, w_h0_withCopy, w_h0_bestCopy, w_h0_bestLiterals, .int (0 : Int32), .int (0 : Int32), .int (0 : Int32), w_h0_blocks, w_h0_blockMany, w_h0_newBlocks, w_h0_newMany, .int h0_rule, .int h0_place, .int g1]))]) hD hS hA [0] rfl) [0] rfl (by decide) rfl rfl rfl hl.1 rfl (lv_room (Nat.le_of_ble_eq_true rfl)) dX12_readElements_153 ⟨Nat.le_of_ble_eq_true rfl, Nat.le_of_ble_eq_true rfl⟩) hP hD hS hA (wr := [(h0_in, .inl (cI, h0_in_n, .inl h0_in_f)), (h0_fresh, .inl (cI, h0_fresh_n, .inl h0_fresh_f))]) (w1 := [(h0, .inr (10, [.ref h0_in, w_h0_inSize, w_h0_out, w_h0_outSize, w_h0_dict, w_h0_dictSize, w_h0_told, .ref h0_fresh, .int h0_freshSize, w_h0_text, w_h0_lean, w_h0_size, w_h0_most, w_h0_offset, w_h0_copyAt, w_h0_copies, w_h0_copyLength, w_h0_copyOffset, w_h0_fromHere, w_h0_withCopy, w_h0_bestCopy, w_h0_bestLiterals, .int (0 : Int32), .int (0 : Int32), .int (0 : Int32), w_h0_blocks, w_h0_blockMany, w_h0_newBlocks, w_h0_newMany, .int u69, .int u70, .int g1]))]) (ws' := [(h0, .inr (10, [.ref h0_in, w_h0_inSize, w_h0_out, w_h0_outSize, w_h0_dict, w_h0_dictSize, w_h0_told, .ref h0_fresh, .int h0_freshSize, w_h0_text, w_h0_lean, w_h0_size, w_h0_most, w_h0_offset, w_h0_copyAt, w_h0_copies, w_h0_copyLength, w_h0_copyOffset, w_h0_fromHere, w_h0_withCopy, w_h0_bestCopy, w_h0_bestLiterals, .int (0 : Int32), .int (0 : Int32), .int (0 : Int32), w_h0_blocks, w_h0_blockMany, w_h0_newBlocks, w_h0_newMany, .int u69, .int u70, .int g1])), (h0_in, .inl (cI, h0_in_n, .inl h0_in_f)), (h0_fresh, .inl (cI, h0_fresh_n, .inl h0_fresh_f))]) [0] [1, 2] [2, 0, 1] rfl rfl (by decide) (by decide) rfl (by decide) (fun H locs hP hD hS => ?_)
        obtain ⟨hzb, hf⟩ := bch_some hf
        obtain ⟨rfl, hq_1⟩ := Prod.mk.inj (Option.some.inj hf)
        obtain ⟨rfl, hq_2⟩ := Prod.mk.inj hq_1
        obtain ⟨rfl, hq_3⟩ := Prod.mk.inj hq_2
        obtain ⟨rfl, hq_4⟩ := Prod.mk.inj hq_3
        obtain ⟨rfl, hq_5⟩ := Prod.mk.inj hq_4
        obtain ⟨rfl, hq_6⟩ := Prod.mk.inj hq_5
        obtain ⟨rfl, hq_7⟩ := Prod.mk.inj hq_6
        obtain ⟨rfl, hq_8⟩ := Prod.mk.inj hq_7
        obtain rfl := hq_8
        exact rt_z hQ hx hb hr hzb hlocks hP hD hS dX12_readElements_156
    · replace hf := if_f c_123 hf
      refine lv_aload_n hx hb dX12_readElements_126 rfl (lv_at hl 0 rfl) ?_
      refine lv_bipush (v := 13) hx hb dX12_readElements_127 (by decide) ?_
      refine lv_iload_n hx hb dX12_readElements_129 rfl (lv_at hl 3 rfl) ?_
      obtain ⟨x, hc, hf⟩ := bind_some hf
      obtain ⟨r71, u72, u73⟩ := x
      dsimp only at hf
      refine nx_i (rn_V (As := [.int (13 : Int32), .int h0_at]) (rest := []) (n := 2) (ci := 10) (q0 := 0) ⟨hx, hb, hml, hown, hts⟩ (c_Mo_no (l := l) (dC := dC) (dI := dI) (cB := cB) (cI := cI) (h0 := h0) (a1 := (13 : Int32)) (a2 := h0_at) (w_h0_in := (.ref h0_in)) (w_h0_inSize := (w_h0_inSize)) (w_h0_out := (w_h0_out)) (w_h0_outSize := (w_h0_outSize)) (w_h0_dict := (w_h0_dict)) (w_h0_dictSize := (w_h0_dictSize)) (w_h0_told := (w_h0_told)) (w_h0_fresh := (.ref h0_fresh)) (w_h0_freshSize := (.int h0_freshSize)) (w_h0_text := (w_h0_text)) (w_h0_lean := (w_h0_lean)) (w_h0_size := (w_h0_size)) (w_h0_most := (w_h0_most)) (w_h0_offset := (w_h0_offset)) (w_h0_copyAt := (w_h0_copyAt)) (w_h0_copies := (w_h0_copies)) (w_h0_copyLength := (w_h0_copyLength)) (w_h0_copyOffset := (w_h0_copyOffset)) (w_h0_fromHere := (w_h0_fromHere)) (w_h0_withCopy := (w_h0_withCopy)) (w_h0_bestCopy := (w_h0_bestCopy)) (w_h0_bestLiterals := (w_h0_bestLiterals)) (w_h0_copiesOf := (.int (0 : Int32))) (w_h0_literalsOf := (.int (0 : Int32))) (w_h0_partsOf := (.int (0 : Int32))) (w_h0_blocks := (w_h0_blocks)) (w_h0_blockMany := (w_h0_blockMany)) (w_h0_newBlocks := (w_h0_newBlocks)) (w_h0_newMany := (w_h0_newMany)) (h0_rule := h0_rule) (h0_place := h0_place) (w_h0_at := (.int g1)) (o_h0_rule := u72) (o_h0_place := u73) (o_r := r71) hc) (wV kw_1353 kw_1355 kw_72 kw_94 kw_1356) (by decide +kernel) ⟨Nat.le_of_ble_eq_true rfl, Nat.le_of_ble_eq_true rfl⟩ hK hP hD hN hT hS (va_free (wc := [(h0, .inr (10, [.ref h0_in, w_h0_inSize, w_h0_out, w_h0_outSize, w_h0_dict, w_h0_dictSize, w_h0_told, .ref h0_fresh, .int h0_freshSize, w_h0_text, w_h0_lean, w_h0_size, w_h0_most, w_h0_offset, w_h0_copyAt, w_h0_copies, w_h0_copyLength, w_h0_copyOffset, w_h0_fromHere, w_h0_withCopy, w_h0_bestCopy, w_h0_bestLiterals, .int (0 : Int32), .int (0 : Int32), .int (0 : Int32), w_h0_blocks, w_h0_blockMany, w_h0_newBlocks, w_h0_newMany, .int h0_rule, .int h0_place, .int g1]))]) hD hS hA [0] rfl) [0] rfl (by decide) rfl rfl rfl hl.1 rfl (lv_room (Nat.le_of_ble_eq_true rfl)) dX12_readElements_130 ⟨Nat.le_of_ble_eq_true rfl, Nat.le_of_ble_eq_true rfl⟩) hP hD hS hA (wr := [(h0_in, .inl (cI, h0_in_n, .inl h0_in_f)), (h0_fresh, .inl (cI, h0_fresh_n, .inl h0_fresh_f))]) (w1 := [(h0, .inr (10, [.ref h0_in, w_h0_inSize, w_h0_out, w_h0_outSize, w_h0_dict, w_h0_dictSize, w_h0_told, .ref h0_fresh, .int h0_freshSize, w_h0_text, w_h0_lean, w_h0_size, w_h0_most, w_h0_offset, w_h0_copyAt, w_h0_copies, w_h0_copyLength, w_h0_copyOffset, w_h0_fromHere, w_h0_withCopy, w_h0_bestCopy, w_h0_bestLiterals, .int (0 : Int32), .int (0 : Int32), .int (0 : Int32), w_h0_blocks, w_h0_blockMany, w_h0_newBlocks, w_h0_newMany, .int u72, .int u73, .int g1]))]) (ws' := [(h0, .inr (10, [.ref h0_in, w_h0_inSize, w_h0_out, w_h0_outSize, w_h0_dict, w_h0_dictSize, w_h0_told, .ref h0_fresh, .int h0_freshSize, w_h0_text, w_h0_lean, w_h0_size, w_h0_most, w_h0_offset, w_h0_copyAt, w_h0_copies, w_h0_copyLength, w_h0_copyOffset, w_h0_fromHere, w_h0_withCopy, w_h0_bestCopy, w_h0_bestLiterals, .int (0 : Int32), .int (0 : Int32), .int (0 : Int32), w_h0_blocks, w_h0_blockMany, w_h0_newBlocks, w_h0_newMany, .int u72, .int u73, .int g1])), (h0_in, .inl (cI, h0_in_n, .inl h0_in_f)), (h0_fresh, .inl (cI, h0_fresh_n, .inl h0_fresh_f))]) [0] [1, 2] [2, 0, 1] rfl rfl (by decide) (by decide) rfl (by decide) (fun H locs hP hD hS => ?_)
      obtain ⟨hzb, hf⟩ := bch_some hf
      obtain ⟨rfl, hq_1⟩ := Prod.mk.inj (Option.some.inj hf)
      obtain ⟨rfl, hq_2⟩ := Prod.mk.inj hq_1
      obtain ⟨rfl, hq_3⟩ := Prod.mk.inj hq_2
      obtain ⟨rfl, hq_4⟩ := Prod.mk.inj hq_3
      obtain ⟨rfl, hq_5⟩ := Prod.mk.inj hq_4
      obtain ⟨rfl, hq_6⟩ := Prod.mk.inj hq_5
      obtain ⟨rfl, hq_7⟩ := Prod.mk.inj hq_6
      obtain ⟨rfl, hq_8⟩ := Prod.mk.inj hq_7
      obtain rfl := hq_8
      exact rt_z hQ hx hb hr hzb hlocks hP hD hS dX12_readElements_133
  obtain ⟨o_36, hi_36, hk_36⟩ := bind_some hf
  have hL_36 : ∀ (n : Nat) (g74 : Int32) (j4_75 : Int64) (j6_76 : Int32) (j7_77 : Int32) (H : Heap) (locs : List Loc) (ls : Array Slot), iter (fun st => m_Mo_readElements_B36 a1 h0_freshSize h0_at h0_in_n h0_in_f h0_fresh_f st.1 st.2.1 st.2.2.1 st.2.2.2) n (g74, j4_75, j6_76, j7_77) = some o_36 → va_P (dC, dI) vwCl [(h0, .inr (10, [.ref h0_in, w_h0_inSize, w_h0_out, w_h0_outSize, w_h0_dict, w_h0_dictSize, w_h0_told, .ref h0_fresh, .int h0_freshSize, w_h0_text, w_h0_lean, w_h0_size, w_h0_most, w_h0_offset, w_h0_copyAt, w_h0_copies, w_h0_copyLength, w_h0_copyOffset, w_h0_fromHere, w_h0_withCopy, w_h0_bestCopy, w_h0_bestLiterals, .int (0 : Int32), .int (0 : Int32), .int (0 : Int32), w_h0_blocks, w_h0_blockMany, w_h0_newBlocks, w_h0_newMany, .int h0_rule, .int h0_place, .int g74])), (h0_in, .inl (cI, h0_in_n, .inl h0_in_f)), (h0_fresh, .inl (cI, h0_fresh_n, .inl h0_fresh_f))] H → va_D A [(h0, .inr (10, [.ref h0_in, w_h0_inSize, w_h0_out, w_h0_outSize, w_h0_dict, w_h0_dictSize, w_h0_told, .ref h0_fresh, .int h0_freshSize, w_h0_text, w_h0_lean, w_h0_size, w_h0_most, w_h0_offset, w_h0_copyAt, w_h0_copies, w_h0_copyLength, w_h0_copyOffset, w_h0_fromHere, w_h0_withCopy, w_h0_bestCopy, w_h0_bestLiterals, .int (0 : Int32), .int (0 : Int32), .int (0 : Int32), w_h0_blocks, w_h0_blockMany, w_h0_newBlocks, w_h0_newMany, .int h0_rule, .int h0_place, .int g74])), (h0_in, .inl (cI, h0_in_n, .inl h0_in_f)), (h0_fresh, .inl (cI, h0_fresh_n, .inl h0_fresh_f))] → va_S A s.heap H locs → lv_has ls 19 [(0, .ref h0), (1, .int a1), (2, .int h0_freshSize), (3, .int h0_at), (4, .long j4_75), (6, .int j6_76), (7, .int j7_77)] → W p l e (rm_Mo_readElements) s m ([.ref h0, .int a1] : List Value).toArray below meth c H locs 0 0 Q (F0 m 36 ls []) := by
    intro n
    induction n with
    | zero => intro g74 j4_75 j6_76 j7_77 H locs ls hf; exact absurd hf (fun z => by cases z)
    | succ n ih_36 =>
      intro g74 j4_75 j6_76 j7_77 H locs ls hf hP hD hS hl
      obtain ⟨r_36, hf, hr_36⟩ := iter_succ hf
      have hf : m_Mo_readElements_B36 a1 h0_freshSize h0_at h0_in_n h0_in_f h0_fresh_f g74 j4_75 j6_76 j7_77 = some r_36 := hf
      unfold m_Mo_readElements_B36 at hf
      refine lv_iload hx hb dX12_readElements_36 (lv_at hl 6 rfl) ?_
      refine lv_sipush (v := 128) hx hb dX12_readElements_38 (by decide) ?_
      refine lv_icmp_lt (tgt := 117) hx hb dX12_readElements_41 (by decide) (fun c_41 => ?_) (fun c_41 => ?_)
      · replace hf := if_t c_41 hf
        have hf : m_Mo_readElements_E117 a1 h0_freshSize h0_rule h0_place h0_at h0_in_n h0_in_f h0_fresh_n h0_fresh_f g74 j4_75 = some (o_r, o_h0_freshSize, o_h0_copiesOf, o_h0_literalsOf, o_h0_partsOf, o_h0_rule, o_h0_place, o_h0_at, o_h0_fresh_f) := by have hq := hk_36; rw [iter_exit hf hr_36] at hq; exact hq
        exact hJ_117 g74 j4_75 _ _ _ hf hP hD hS (lv_sub hl [0, 1, 2, 3, 4] rfl)
      · replace hf := if_f c_41 hf
        refine lv_iload hx hb dX12_readElements_44 (lv_at hl 5 rfl) ?_
        refine lv_iconst (v := 5) hx hb dX12_readElements_46 (by decide) ?_
        refine lv_icmp_ne (tgt := 58) hx hb dX12_readElements_47 (by decide) (fun c_47 => ?_) (fun c_47 => ?_)
        · replace hf := if_f c_47 hf
          refine lv_aload_n hx hb dX12_readElements_58 rfl (lv_at hl 0 rfl) ?_
          refine va_get (D := (dC, dI)) (ci := 10) (v := .int g74) (C := RX12) (T := TX12) (N := 32) hx hb hts inG_X12 hown hK hP 0 rfl rfl 31 (by decide) (hts _ kw_1083) (fun _ h9 => h9) rfl dX12_readElements_59 ?_
          refine lv_iload_n hx hb dX12_readElements_62 rfl (lv_at hl 1 rfl) ?_
          refine lv_icmp_lt (tgt := 73) hx hb dX12_readElements_63 (by decide) (fun c_63 => ?_) (fun c_63 => ?_)
          · replace hf := if_t c_63 hf
            refine lv_aload_n hx hb dX12_readElements_73 rfl (lv_at hl 0 rfl) ?_
            refine va_get (D := (dC, dI)) (ci := 10) (v := .ref h0_in) (C := RX12) (T := TX12) (N := 32) hx hb hts inG_X12 hown hK hP 0 rfl rfl 0 (by decide) (hts _ kw_1052) (fun _ h9 => h9) rfl dX12_readElements_74 ?_
            refine lv_aload_n hx hb dX12_readElements_77 rfl (lv_at hl 0 rfl) ?_
            refine va_get (D := (dC, dI)) (ci := 10) (v := .int g74) (C := RX12) (T := TX12) (N := 32) hx hb hts inG_X12 hown hK hP 0 rfl rfl 31 (by decide) (hts _ kw_1083) (fun _ h9 => h9) rfl dX12_readElements_78 ?_
            obtain ⟨hin, hf⟩ := chk_some hf
            refine va_iald hx hb hK hP 1 1 rfl rfl hin dX12_readElements_81 ?_
            refine lv_topi (fun v7_78 e_v7_78 => ?_)
            replace hf := bnd_at e_v7_78 hf
            refine lv_istore (lv' := [(7, .int v7_78), (0, .ref h0), (1, .int a1), (2, .int h0_freshSize), (3, .int h0_at), (4, .long j4_75), (6, .int j6_76)]) hx hb dX12_readElements_82 hl (by decide) rfl (fun ls hl => ?_)
            refine lv_lload hx hb dX12_readElements_84 (lv_at hl 5 rfl) ?_
            refine lv_iload hx hb dX12_readElements_86 (lv_at hl 0 rfl) ?_
            refine lv_bipush (v := 127) hx hb dX12_readElements_88 (by decide) ?_
            refine lv_iand hx hb dX12_readElements_90 ?_
            refine lv_i2l (v := ((v7_78 &&& (127 : Int32)).toInt64)) hx hb dX12_readElements_91 rfl ?_
            refine lv_bipush (v := 7) hx hb dX12_readElements_92 (by decide) ?_
            refine lv_iload hx hb dX12_readElements_94 (lv_at hl 6 rfl) ?_
            refine lv_imul hx hb dX12_readElements_96 ?_
            refine lv_lshl (v := (lshl ((v7_78 &&& (127 : Int32)).toInt64) ((7 : Int32) * j6_76))) hx hb dX12_readElements_97 rfl ?_
            refine lv_lor hx hb dX12_readElements_98 ?_
            refine lv_topl (fun v4_79 e_v4_79 => ?_)
            replace hf := bnd_at e_v4_79 hf
            refine lv_lstore (lv' := [(4, .long v4_79), (7, .int v7_78), (0, .ref h0), (1, .int a1), (2, .int h0_freshSize), (3, .int h0_at), (6, .int j6_76)]) hx hb dX12_readElements_99 hl (by decide) rfl (fun ls hl => ?_)
            obtain ⟨v6_80, e_v6_80⟩ : ∃ y : Int32, y = (j6_76 + (1 : Int32)) := ⟨_, rfl⟩
            replace hf := bnd_at e_v6_80 hf
            refine lv_iinc (v := v6_80) (lv' := [(6, .int v6_80), (4, .long v4_79), (7, .int v7_78), (0, .ref h0), (1, .int a1), (2, .int h0_freshSize), (3, .int h0_at)]) hx hb dX12_readElements_101 hl (k := 6) rfl (by rw [e_v6_80]; rfl) (by decide) rfl (fun ls hl => ?_)
            refine lv_aload_n hx hb dX12_readElements_104 rfl (lv_at hl 3 rfl) ?_
            refine lv_dup hx hb dX12_readElements_105 rfl ?_
            refine va_get (D := (dC, dI)) (ci := 10) (v := .int g74) (C := RX12) (T := TX12) (N := 32) hx hb hts inG_X12 hown hK hP 0 rfl rfl 31 (by decide) (hts _ kw_1083) (fun _ h9 => h9) rfl dX12_readElements_106 ?_
            refine lv_iconst (v := 1) hx hb dX12_readElements_109 (by decide) ?_
            refine lv_iadd hx hb dX12_readElements_110 ?_
            refine lv_topi (fun p_81 e_p_81 => ?_)
            replace hf := bnd_at e_p_81 hf
            refine va_put (D := (dC, dI)) (ci := 10) (v := .int p_81) (ty := .int) (C := RX12) (T := TX12) (N := 32) hx hb hts inG_X12 tyX12 tyX12_ok nmX12 hown hK hP hD hS 0 rfl rfl 31 (by decide) (hts _ kw_1083) (fun _ h9 => h9) rfl (by decide +kernel) rfl rfl (Nat.le_of_ble_eq_true rfl) dX12_readElements_111 (fun H locs hP hD hS => ?_)
            have hP : va_P (dC, dI) vwCl [(h0, .inr (10, [.ref h0_in, w_h0_inSize, w_h0_out, w_h0_outSize, w_h0_dict, w_h0_dictSize, w_h0_told, .ref h0_fresh, .int h0_freshSize, w_h0_text, w_h0_lean, w_h0_size, w_h0_most, w_h0_offset, w_h0_copyAt, w_h0_copies, w_h0_copyLength, w_h0_copyOffset, w_h0_fromHere, w_h0_withCopy, w_h0_bestCopy, w_h0_bestLiterals, .int (0 : Int32), .int (0 : Int32), .int (0 : Int32), w_h0_blocks, w_h0_blockMany, w_h0_newBlocks, w_h0_newMany, .int h0_rule, .int h0_place, .int p_81])), (h0_in, .inl (cI, h0_in_n, .inl h0_in_f)), (h0_fresh, .inl (cI, h0_fresh_n, .inl h0_fresh_f))] H := hP
            have hD : va_D A [(h0, .inr (10, [.ref h0_in, w_h0_inSize, w_h0_out, w_h0_outSize, w_h0_dict, w_h0_dictSize, w_h0_told, .ref h0_fresh, .int h0_freshSize, w_h0_text, w_h0_lean, w_h0_size, w_h0_most, w_h0_offset, w_h0_copyAt, w_h0_copies, w_h0_copyLength, w_h0_copyOffset, w_h0_fromHere, w_h0_withCopy, w_h0_bestCopy, w_h0_bestLiterals, .int (0 : Int32), .int (0 : Int32), .int (0 : Int32), w_h0_blocks, w_h0_blockMany, w_h0_newBlocks, w_h0_newMany, .int h0_rule, .int h0_place, .int p_81])), (h0_in, .inl (cI, h0_in_n, .inl h0_in_f)), (h0_fresh, .inl (cI, h0_fresh_n, .inl h0_fresh_f))] := hD
            refine lv_goto (tgt := 36) hx hb dX12_readElements_114 (by decide) ?_
            exact ih_36 p_81 v4_79 v6_80 v7_78 _ _ _ (iter_back hf hr_36) hP hD hS (lv_sub hl [3, 4, 5, 6, 1, 0, 2] rfl)
          · replace hf := if_f c_63 hf
            refine lv_aload_n hx hb dX12_readElements_66 rfl (lv_at hl 0 rfl) ?_
            refine lv_iconst (v := 1) hx hb dX12_readElements_67 (by decide) ?_
            refine lv_iload_n hx hb dX12_readElements_68 rfl (lv_at hl 1 rfl) ?_
            obtain ⟨x, hc, hf⟩ := bind_some hf
            obtain ⟨r82, u83, u84⟩ := x
            dsimp only at hf
            refine nx_i (rn_V (As := [.int (1 : Int32), .int a1]) (rest := []) (n := 2) (ci := 10) (q0 := 0) ⟨hx, hb, hml, hown, hts⟩ (c_Mo_no (l := l) (dC := dC) (dI := dI) (cB := cB) (cI := cI) (h0 := h0) (a1 := (1 : Int32)) (a2 := a1) (w_h0_in := (.ref h0_in)) (w_h0_inSize := (w_h0_inSize)) (w_h0_out := (w_h0_out)) (w_h0_outSize := (w_h0_outSize)) (w_h0_dict := (w_h0_dict)) (w_h0_dictSize := (w_h0_dictSize)) (w_h0_told := (w_h0_told)) (w_h0_fresh := (.ref h0_fresh)) (w_h0_freshSize := (.int h0_freshSize)) (w_h0_text := (w_h0_text)) (w_h0_lean := (w_h0_lean)) (w_h0_size := (w_h0_size)) (w_h0_most := (w_h0_most)) (w_h0_offset := (w_h0_offset)) (w_h0_copyAt := (w_h0_copyAt)) (w_h0_copies := (w_h0_copies)) (w_h0_copyLength := (w_h0_copyLength)) (w_h0_copyOffset := (w_h0_copyOffset)) (w_h0_fromHere := (w_h0_fromHere)) (w_h0_withCopy := (w_h0_withCopy)) (w_h0_bestCopy := (w_h0_bestCopy)) (w_h0_bestLiterals := (w_h0_bestLiterals)) (w_h0_copiesOf := (.int (0 : Int32))) (w_h0_literalsOf := (.int (0 : Int32))) (w_h0_partsOf := (.int (0 : Int32))) (w_h0_blocks := (w_h0_blocks)) (w_h0_blockMany := (w_h0_blockMany)) (w_h0_newBlocks := (w_h0_newBlocks)) (w_h0_newMany := (w_h0_newMany)) (h0_rule := h0_rule) (h0_place := h0_place) (w_h0_at := (.int g74)) (o_h0_rule := u83) (o_h0_place := u84) (o_r := r82) hc) (wV kw_1353 kw_1355 kw_72 kw_94 kw_1356) (by decide +kernel) ⟨Nat.le_of_ble_eq_true rfl, Nat.le_of_ble_eq_true rfl⟩ hK hP hD hN hT hS (va_free (wc := [(h0, .inr (10, [.ref h0_in, w_h0_inSize, w_h0_out, w_h0_outSize, w_h0_dict, w_h0_dictSize, w_h0_told, .ref h0_fresh, .int h0_freshSize, w_h0_text, w_h0_lean, w_h0_size, w_h0_most, w_h0_offset, w_h0_copyAt, w_h0_copies, w_h0_copyLength, w_h0_copyOffset, w_h0_fromHere, w_h0_withCopy, w_h0_bestCopy, w_h0_bestLiterals, .int (0 : Int32), .int (0 : Int32), .int (0 : Int32), w_h0_blocks, w_h0_blockMany, w_h0_newBlocks, w_h0_newMany, .int h0_rule, .int h0_place, .int g74]))]) hD hS hA [0] rfl) [0] rfl (by decide) rfl rfl rfl hl.1 rfl (lv_room (Nat.le_of_ble_eq_true rfl)) dX12_readElements_69 ⟨Nat.le_of_ble_eq_true rfl, Nat.le_of_ble_eq_true rfl⟩) hP hD hS hA (wr := [(h0_in, .inl (cI, h0_in_n, .inl h0_in_f)), (h0_fresh, .inl (cI, h0_fresh_n, .inl h0_fresh_f))]) (w1 := [(h0, .inr (10, [.ref h0_in, w_h0_inSize, w_h0_out, w_h0_outSize, w_h0_dict, w_h0_dictSize, w_h0_told, .ref h0_fresh, .int h0_freshSize, w_h0_text, w_h0_lean, w_h0_size, w_h0_most, w_h0_offset, w_h0_copyAt, w_h0_copies, w_h0_copyLength, w_h0_copyOffset, w_h0_fromHere, w_h0_withCopy, w_h0_bestCopy, w_h0_bestLiterals, .int (0 : Int32), .int (0 : Int32), .int (0 : Int32), w_h0_blocks, w_h0_blockMany, w_h0_newBlocks, w_h0_newMany, .int u83, .int u84, .int g74]))]) (ws' := [(h0, .inr (10, [.ref h0_in, w_h0_inSize, w_h0_out, w_h0_outSize, w_h0_dict, w_h0_dictSize, w_h0_told, .ref h0_fresh, .int h0_freshSize, w_h0_text, w_h0_lean, w_h0_size, w_h0_most, w_h0_offset, w_h0_copyAt, w_h0_copies, w_h0_copyLength, w_h0_copyOffset, w_h0_fromHere, w_h0_withCopy, w_h0_bestCopy, w_h0_bestLiterals, .int (0 : Int32), .int (0 : Int32), .int (0 : Int32), w_h0_blocks, w_h0_blockMany, w_h0_newBlocks, w_h0_newMany, .int u83, .int u84, .int g74])), (h0_in, .inl (cI, h0_in_n, .inl h0_in_f)), (h0_fresh, .inl (cI, h0_fresh_n, .inl h0_fresh_f))]) [0] [1, 2] [2, 0, 1] rfl rfl (by decide) (by decide) rfl (by decide) (fun H locs hP hD hS => ?_)
            obtain ⟨hzb, hf⟩ := bch_some hf
            replace hf : some (r82, h0_freshSize, (0 : Int32), (0 : Int32), (0 : Int32), u83, u84, g74, h0_fresh_f) = some (o_r, o_h0_freshSize, o_h0_copiesOf, o_h0_literalsOf, o_h0_partsOf, o_h0_rule, o_h0_place, o_h0_at, o_h0_fresh_f) := by have hq := hk_36; rw [iter_exit hf hr_36] at hq; exact hq
            obtain ⟨rfl, hq_1⟩ := Prod.mk.inj (Option.some.inj hf)
            obtain ⟨rfl, hq_2⟩ := Prod.mk.inj hq_1
            obtain ⟨rfl, hq_3⟩ := Prod.mk.inj hq_2
            obtain ⟨rfl, hq_4⟩ := Prod.mk.inj hq_3
            obtain ⟨rfl, hq_5⟩ := Prod.mk.inj hq_4
            obtain ⟨rfl, hq_6⟩ := Prod.mk.inj hq_5
            obtain ⟨rfl, hq_7⟩ := Prod.mk.inj hq_6
            obtain ⟨rfl, hq_8⟩ := Prod.mk.inj hq_7
            obtain rfl := hq_8
            exact rt_z hQ hx hb hr hzb hlocks hP hD hS dX12_readElements_72
        · replace hf := if_t c_47 hf
          refine lv_aload_n hx hb dX12_readElements_50 rfl (lv_at hl 0 rfl) ?_
          refine lv_bipush (v := 13) hx hb dX12_readElements_51 (by decide) ?_
          refine lv_iload_n hx hb dX12_readElements_53 rfl (lv_at hl 3 rfl) ?_
          obtain ⟨x, hc, hf⟩ := bind_some hf
          obtain ⟨r85, u86, u87⟩ := x
          dsimp only at hf
          refine nx_i (rn_V (As := [.int (13 : Int32), .int h0_at]) (rest := []) (n := 2) (ci := 10) (q0 := 0) ⟨hx, hb, hml, hown, hts⟩ (c_Mo_no (l := l) (dC := dC) (dI := dI) (cB := cB) (cI := cI) (h0 := h0) (a1 := (13 : Int32)) (a2 := h0_at) (w_h0_in := (.ref h0_in)) (w_h0_inSize := (w_h0_inSize)) (w_h0_out := (w_h0_out)) (w_h0_outSize := (w_h0_outSize)) (w_h0_dict := (w_h0_dict)) (w_h0_dictSize := (w_h0_dictSize)) (w_h0_told := (w_h0_told)) (w_h0_fresh := (.ref h0_fresh)) (w_h0_freshSize := (.int h0_freshSize)) (w_h0_text := (w_h0_text)) (w_h0_lean := (w_h0_lean)) (w_h0_size := (w_h0_size)) (w_h0_most := (w_h0_most)) (w_h0_offset := (w_h0_offset)) (w_h0_copyAt := (w_h0_copyAt)) (w_h0_copies := (w_h0_copies)) (w_h0_copyLength := (w_h0_copyLength)) (w_h0_copyOffset := (w_h0_copyOffset)) (w_h0_fromHere := (w_h0_fromHere)) (w_h0_withCopy := (w_h0_withCopy)) (w_h0_bestCopy := (w_h0_bestCopy)) (w_h0_bestLiterals := (w_h0_bestLiterals)) (w_h0_copiesOf := (.int (0 : Int32))) (w_h0_literalsOf := (.int (0 : Int32))) (w_h0_partsOf := (.int (0 : Int32))) (w_h0_blocks := (w_h0_blocks)) (w_h0_blockMany := (w_h0_blockMany)) (w_h0_newBlocks := (w_h0_newBlocks)) (w_h0_newMany := (w_h0_newMany)) (h0_rule := h0_rule) (h0_place := h0_place) (w_h0_at := (.int g74)) (o_h0_rule := u86) (o_h0_place := u87) (o_r := r85) hc) (wV kw_1353 kw_1355 kw_72 kw_94 kw_1356) (by decide +kernel) ⟨Nat.le_of_ble_eq_true rfl, Nat.le_of_ble_eq_true rfl⟩ hK hP hD hN hT hS (va_free (wc := [(h0, .inr (10, [.ref h0_in, w_h0_inSize, w_h0_out, w_h0_outSize, w_h0_dict, w_h0_dictSize, w_h0_told, .ref h0_fresh, .int h0_freshSize, w_h0_text, w_h0_lean, w_h0_size, w_h0_most, w_h0_offset, w_h0_copyAt, w_h0_copies, w_h0_copyLength, w_h0_copyOffset, w_h0_fromHere, w_h0_withCopy, w_h0_bestCopy, w_h0_bestLiterals, .int (0 : Int32), .int (0 : Int32), .int (0 : Int32), w_h0_blocks, w_h0_blockMany, w_h0_newBlocks, w_h0_newMany, .int h0_rule, .int h0_place, .int g74]))]) hD hS hA [0] rfl) [0] rfl (by decide) rfl rfl rfl hl.1 rfl (lv_room (Nat.le_of_ble_eq_true rfl)) dX12_readElements_54 ⟨Nat.le_of_ble_eq_true rfl, Nat.le_of_ble_eq_true rfl⟩) hP hD hS hA (wr := [(h0_in, .inl (cI, h0_in_n, .inl h0_in_f)), (h0_fresh, .inl (cI, h0_fresh_n, .inl h0_fresh_f))]) (w1 := [(h0, .inr (10, [.ref h0_in, w_h0_inSize, w_h0_out, w_h0_outSize, w_h0_dict, w_h0_dictSize, w_h0_told, .ref h0_fresh, .int h0_freshSize, w_h0_text, w_h0_lean, w_h0_size, w_h0_most, w_h0_offset, w_h0_copyAt, w_h0_copies, w_h0_copyLength, w_h0_copyOffset, w_h0_fromHere, w_h0_withCopy, w_h0_bestCopy, w_h0_bestLiterals, .int (0 : Int32), .int (0 : Int32), .int (0 : Int32), w_h0_blocks, w_h0_blockMany, w_h0_newBlocks, w_h0_newMany, .int u86, .int u87, .int g74]))]) (ws' := [(h0, .inr (10, [.ref h0_in, w_h0_inSize, w_h0_out, w_h0_outSize, w_h0_dict, w_h0_dictSize, w_h0_told, .ref h0_fresh, .int h0_freshSize, w_h0_text, w_h0_lean, w_h0_size, w_h0_most, w_h0_offset, w_h0_copyAt, w_h0_copies, w_h0_copyLength, w_h0_copyOffset, w_h0_fromHere, w_h0_withCopy, w_h0_bestCopy, w_h0_bestLiterals, .int (0 : Int32), .int (0 : Int32), .int (0 : Int32), w_h0_blocks, w_h0_blockMany, w_h0_newBlocks, w_h0_newMany, .int u86, .int u87, .int g74])), (h0_in, .inl (cI, h0_in_n, .inl h0_in_f)), (h0_fresh, .inl (cI, h0_fresh_n, .inl h0_fresh_f))]) [0] [1, 2] [2, 0, 1] rfl rfl (by decide) (by decide) rfl (by decide) (fun H locs hP hD hS => ?_)
          obtain ⟨hzb, hf⟩ := bch_some hf
          replace hf : some (r85, h0_freshSize, (0 : Int32), (0 : Int32), (0 : Int32), u86, u87, g74, h0_fresh_f) = some (o_r, o_h0_freshSize, o_h0_copiesOf, o_h0_literalsOf, o_h0_partsOf, o_h0_rule, o_h0_place, o_h0_at, o_h0_fresh_f) := by have hq := hk_36; rw [iter_exit hf hr_36] at hq; exact hq
          obtain ⟨rfl, hq_1⟩ := Prod.mk.inj (Option.some.inj hf)
          obtain ⟨rfl, hq_2⟩ := Prod.mk.inj hq_1
          obtain ⟨rfl, hq_3⟩ := Prod.mk.inj hq_2
          obtain ⟨rfl, hq_4⟩ := Prod.mk.inj hq_3
          obtain ⟨rfl, hq_5⟩ := Prod.mk.inj hq_4
          obtain ⟨rfl, hq_6⟩ := Prod.mk.inj hq_5
          obtain ⟨rfl, hq_7⟩ := Prod.mk.inj hq_6
          obtain ⟨rfl, hq_8⟩ := Prod.mk.inj hq_7
          obtain rfl := hq_8
          exact rt_z hQ hx hb hr hzb hlocks hP hD hS dX12_readElements_57
  exact hL_36 FU h0_at (0 : Int64) (0 : Int32) (128 : Int32) _ _ _ hi_36 hP hD hS (lv_sub hl [5, 6, 4, 3, 2, 1, 0] rfl)

