theorem dX12_layAll_189 : decode cX12_layAll 189 = .ok (.goto (-80), 3) := by decide +kernel
theorem dX12_layAll_192 : decode cX12_layAll 192 = .ok (.iinc 1 1, 3) := by decide +kernel
theorem dX12_layAll_195 : decode cX12_layAll 195 = .ok (.goto (-96), 3) := by decide +kernel
theorem dX12_layAll_198 : decode cX12_layAll 198 = .ok (.aload_n 0, 1) := by decide +kernel
theorem dX12_layAll_199 : decode cX12_layAll 199 = .ok (.invokevirtual 134, 3) := by decide +kernel
theorem dX12_layAll_202 : decode cX12_layAll 202 = .ok (.istore_n 1, 1) := by decide +kernel
theorem dX12_layAll_203 : decode cX12_layAll 203 = .ok (.iload_n 1, 1) := by decide +kernel
theorem dX12_layAll_204 : decode cX12_layAll 204 = .ok (.ifCond .lt 140, 3) := by decide +kernel
theorem dX12_layAll_207 : decode cX12_layAll 207 = .ok (.aload_n 0, 1) := by decide +kernel
theorem dX12_layAll_208 : decode cX12_layAll 208 = .ok (.getfield 56, 3) := by decide +kernel
theorem dX12_layAll_211 : decode cX12_layAll 211 = .ok (.iload_n 1, 1) := by decide +kernel
theorem dX12_layAll_212 : decode cX12_layAll 212 = .ok (.iload_n 1, 1) := by decide +kernel
theorem dX12_layAll_213 : decode cX12_layAll 213 = .ok (.aload_n 0, 1) := by decide +kernel
theorem dX12_layAll_214 : decode cX12_layAll 214 = .ok (.invokevirtual 134, 3) := by decide +kernel
theorem dX12_layAll_217 : decode cX12_layAll 217 = .ok (.if_icmp .ne 7, 3) := by decide +kernel
theorem dX12_layAll_220 : decode cX12_layAll 220 = .ok (.iconst 0, 1) := by decide +kernel
theorem dX12_layAll_221 : decode cX12_layAll 221 = .ok (.goto 5, 3) := by decide +kernel
theorem dX12_layAll_224 : decode cX12_layAll 224 = .ok (.ldc 137, 2) := by decide +kernel
theorem dX12_layAll_226 : decode cX12_layAll 226 = .ok (.iastore, 1) := by decide +kernel
theorem dX12_layAll_227 : decode cX12_layAll 227 = .ok (.iconst 0, 1) := by decide +kernel
theorem dX12_layAll_228 : decode cX12_layAll 228 = .ok (.istore_n 2, 1) := by decide +kernel
theorem dX12_layAll_229 : decode cX12_layAll 229 = .ok (.iload_n 2, 1) := by decide +kernel
theorem dX12_layAll_230 : decode cX12_layAll 230 = .ok (.aload_n 0, 1) := by decide +kernel
theorem dX12_layAll_231 : decode cX12_layAll 231 = .ok (.getfield 75, 3) := by decide +kernel
theorem dX12_layAll_234 : decode cX12_layAll 234 = .ok (.if_icmp .ge 104, 3) := by decide +kernel
theorem dX12_layAll_237 : decode cX12_layAll 237 = .ok (.iload_n 1, 1) := by decide +kernel
theorem dX12_layAll_238 : decode cX12_layAll 238 = .ok (.iload_n 2, 1) := by decide +kernel
theorem dX12_layAll_239 : decode cX12_layAll 239 = .ok (.invokestatic 82, 3) := by decide +kernel
theorem dX12_layAll_242 : decode cX12_layAll 242 = .ok (.ifCond .ne 90, 3) := by decide +kernel
theorem dX12_layAll_245 : decode cX12_layAll 245 = .ok (.aload_n 0, 1) := by decide +kernel
theorem dX12_layAll_246 : decode cX12_layAll 246 = .ok (.getfield 65, 3) := by decide +kernel
theorem dX12_layAll_249 : decode cX12_layAll 249 = .ok (.iload_n 2, 1) := by decide +kernel
theorem dX12_layAll_250 : decode cX12_layAll 250 = .ok (.iaload, 1) := by decide +kernel
theorem dX12_layAll_251 : decode cX12_layAll 251 = .ok (.iload_n 1, 1) := by decide +kernel
theorem dX12_layAll_252 : decode cX12_layAll 252 = .ok (.iconst (-1), 1) := by decide +kernel
theorem dX12_layAll_253 : decode cX12_layAll 253 = .ok (.ixor, 1) := by decide +kernel
theorem dX12_layAll_254 : decode cX12_layAll 254 = .ok (.iand, 1) := by decide +kernel
theorem dX12_layAll_255 : decode cX12_layAll 255 = .ok (.ifCond .ne 77, 3) := by decide +kernel
theorem dX12_layAll_258 : decode cX12_layAll 258 = .ok (.aload_n 0, 1) := by decide +kernel
theorem dX12_layAll_259 : decode cX12_layAll 259 = .ok (.getfield 56, 3) := by decide +kernel
theorem dX12_layAll_262 : decode cX12_layAll 262 = .ok (.iload_n 1, 1) := by decide +kernel
theorem dX12_layAll_263 : decode cX12_layAll 263 = .ok (.iconst 1, 1) := by decide +kernel
theorem dX12_layAll_264 : decode cX12_layAll 264 = .ok (.iload_n 2, 1) := by decide +kernel
theorem dX12_layAll_265 : decode cX12_layAll 265 = .ok (.ishl, 1) := by decide +kernel
theorem dX12_layAll_266 : decode cX12_layAll 266 = .ok (.ior, 1) := by decide +kernel
theorem dX12_layAll_267 : decode cX12_layAll 267 = .ok (.iaload, 1) := by decide +kernel
theorem dX12_layAll_268 : decode cX12_layAll 268 = .ok (.istore_n 3, 1) := by decide +kernel
theorem dX12_layAll_269 : decode cX12_layAll 269 = .ok (.iload_n 3, 1) := by decide +kernel
theorem dX12_layAll_270 : decode cX12_layAll 270 = .ok (.ldc 137, 2) := by decide +kernel
theorem dX12_layAll_272 : decode cX12_layAll 272 = .ok (.if_icmp .ne 8, 3) := by decide +kernel
theorem dX12_layAll_275 : decode cX12_layAll 275 = .ok (.ldc 137, 2) := by decide +kernel
theorem dX12_layAll_277 : decode cX12_layAll 277 = .ok (.goto 25, 3) := by decide +kernel
theorem dX12_layAll_280 : decode cX12_layAll 280 = .ok (.aload_n 0, 1) := by decide +kernel
theorem dX12_layAll_281 : decode cX12_layAll 281 = .ok (.getfield 62, 3) := by decide +kernel
theorem dX12_layAll_284 : decode cX12_layAll 284 = .ok (.iload_n 2, 1) := by decide +kernel
theorem dX12_layAll_285 : decode cX12_layAll 285 = .ok (.iaload, 1) := by decide +kernel
theorem dX12_layAll_286 : decode cX12_layAll 286 = .ok (.aload_n 0, 1) := by decide +kernel
theorem dX12_layAll_287 : decode cX12_layAll 287 = .ok (.getfield 47, 3) := by decide +kernel
theorem dX12_layAll_290 : decode cX12_layAll 290 = .ok (.iload_n 1, 1) := by decide +kernel
theorem dX12_layAll_291 : decode cX12_layAll 291 = .ok (.iaload, 1) := by decide +kernel
theorem dX12_layAll_292 : decode cX12_layAll 292 = .ok (.aload_n 0, 1) := by decide +kernel
theorem dX12_layAll_293 : decode cX12_layAll 293 = .ok (.getfield 59, 3) := by decide +kernel
theorem dX12_layAll_296 : decode cX12_layAll 296 = .ok (.iload_n 2, 1) := by decide +kernel
theorem dX12_layAll_297 : decode cX12_layAll 297 = .ok (.iaload, 1) := by decide +kernel
theorem dX12_layAll_298 : decode cX12_layAll 298 = .ok (.iadd, 1) := by decide +kernel
theorem dX12_layAll_299 : decode cX12_layAll 299 = .ok (.imul, 1) := by decide +kernel
theorem dX12_layAll_300 : decode cX12_layAll 300 = .ok (.iload_n 3, 1) := by decide +kernel
theorem dX12_layAll_301 : decode cX12_layAll 301 = .ok (.iadd, 1) := by decide +kernel
theorem dX12_layAll_302 : decode cX12_layAll 302 = .ok (.istore 4, 2) := by decide +kernel
theorem dX12_layAll_304 : decode cX12_layAll 304 = .ok (.aload_n 0, 1) := by decide +kernel
theorem dX12_layAll_305 : decode cX12_layAll 305 = .ok (.getfield 56, 3) := by decide +kernel
theorem dX12_layAll_308 : decode cX12_layAll 308 = .ok (.iload_n 1, 1) := by decide +kernel
theorem dX12_layAll_309 : decode cX12_layAll 309 = .ok (.iload 4, 2) := by decide +kernel
theorem dX12_layAll_311 : decode cX12_layAll 311 = .ok (.aload_n 0, 1) := by decide +kernel
theorem dX12_layAll_312 : decode cX12_layAll 312 = .ok (.getfield 56, 3) := by decide +kernel
theorem dX12_layAll_315 : decode cX12_layAll 315 = .ok (.iload_n 1, 1) := by decide +kernel
theorem dX12_layAll_316 : decode cX12_layAll 316 = .ok (.iaload, 1) := by decide +kernel
theorem dX12_layAll_317 : decode cX12_layAll 317 = .ok (.if_icmp .ge 8, 3) := by decide +kernel
theorem dX12_layAll_320 : decode cX12_layAll 320 = .ok (.iload 4, 2) := by decide +kernel
theorem dX12_layAll_322 : decode cX12_layAll 322 = .ok (.goto 9, 3) := by decide +kernel
theorem dX12_layAll_325 : decode cX12_layAll 325 = .ok (.aload_n 0, 1) := by decide +kernel
theorem dX12_layAll_326 : decode cX12_layAll 326 = .ok (.getfield 56, 3) := by decide +kernel
theorem dX12_layAll_329 : decode cX12_layAll 329 = .ok (.iload_n 1, 1) := by decide +kernel
theorem dX12_layAll_330 : decode cX12_layAll 330 = .ok (.iaload, 1) := by decide +kernel
theorem dX12_layAll_331 : decode cX12_layAll 331 = .ok (.iastore, 1) := by decide +kernel
theorem dX12_layAll_332 : decode cX12_layAll 332 = .ok (.iinc 2 1, 3) := by decide +kernel
theorem dX12_layAll_335 : decode cX12_layAll 335 = .ok (.goto (-106), 3) := by decide +kernel
theorem dX12_layAll_338 : decode cX12_layAll 338 = .ok (.iinc 1 (-1), 3) := by decide +kernel
theorem dX12_layAll_341 : decode cX12_layAll 341 = .ok (.goto (-138), 3) := by decide +kernel
theorem dX12_layAll_344 : decode cX12_layAll 344 = .ok (.return_, 1) := by decide +kernel
theorem dX12_goes_0 : decode cX12_goes 0 = .ok (.iload_n 3, 1) := by decide +kernel
theorem dX12_goes_1 : decode cX12_goes 1 = .ok (.aload_n 0, 1) := by decide +kernel
theorem dX12_goes_2 : decode cX12_goes 2 = .ok (.getfield 50, 3) := by decide +kernel
theorem dX12_goes_5 : decode cX12_goes 5 = .ok (.iload_n 2, 1) := by decide +kernel
theorem dX12_goes_6 : decode cX12_goes 6 = .ok (.iaload, 1) := by decide +kernel
theorem dX12_goes_7 : decode cX12_goes 7 = .ok (.if_icmp .ge 25, 3) := by decide +kernel
theorem dX12_goes_10 : decode cX12_goes 10 = .ok (.aload_n 0, 1) := by decide +kernel
theorem dX12_goes_11 : decode cX12_goes 11 = .ok (.getfield 50, 3) := by decide +kernel
theorem dX12_goes_14 : decode cX12_goes 14 = .ok (.iload_n 2, 1) := by decide +kernel
theorem dX12_goes_15 : decode cX12_goes 15 = .ok (.iload_n 3, 1) := by decide +kernel
theorem dX12_goes_16 : decode cX12_goes 16 = .ok (.iastore, 1) := by decide +kernel
theorem dX12_goes_17 : decode cX12_goes 17 = .ok (.aload_n 0, 1) := by decide +kernel
theorem dX12_goes_18 : decode cX12_goes 18 = .ok (.getfield 53, 3) := by decide +kernel
theorem dX12_goes_21 : decode cX12_goes 21 = .ok (.iload_n 2, 1) := by decide +kernel
theorem dX12_goes_22 : decode cX12_goes 22 = .ok (.aload_n 0, 1) := by decide +kernel
theorem dX12_goes_23 : decode cX12_goes 23 = .ok (.getfield 53, 3) := by decide +kernel
theorem dX12_goes_26 : decode cX12_goes 26 = .ok (.iload_n 1, 1) := by decide +kernel
theorem dX12_goes_27 : decode cX12_goes 27 = .ok (.iaload, 1) := by decide +kernel
theorem dX12_goes_28 : decode cX12_goes 28 = .ok (.iastore, 1) := by decide +kernel
theorem dX12_goes_29 : decode cX12_goes 29 = .ok (.goto 28, 3) := by decide +kernel
theorem dX12_goes_32 : decode cX12_goes 32 = .ok (.iload_n 3, 1) := by decide +kernel
theorem dX12_goes_33 : decode cX12_goes 33 = .ok (.aload_n 0, 1) := by decide +kernel
theorem dX12_goes_34 : decode cX12_goes 34 = .ok (.getfield 50, 3) := by decide +kernel
theorem dX12_goes_37 : decode cX12_goes 37 = .ok (.iload_n 2, 1) := by decide +kernel
theorem dX12_goes_38 : decode cX12_goes 38 = .ok (.iaload, 1) := by decide +kernel
theorem dX12_goes_39 : decode cX12_goes 39 = .ok (.if_icmp .ne 18, 3) := by decide +kernel
theorem dX12_goes_42 : decode cX12_goes 42 = .ok (.aload_n 0, 1) := by decide +kernel
theorem dX12_goes_43 : decode cX12_goes 43 = .ok (.getfield 53, 3) := by decide +kernel
theorem dX12_goes_46 : decode cX12_goes 46 = .ok (.iload_n 2, 1) := by decide +kernel
theorem dX12_goes_47 : decode cX12_goes 47 = .ok (.dup2, 1) := by decide +kernel
theorem dX12_goes_48 : decode cX12_goes 48 = .ok (.iaload, 1) := by decide +kernel
theorem dX12_goes_49 : decode cX12_goes 49 = .ok (.aload_n 0, 1) := by decide +kernel
theorem dX12_goes_50 : decode cX12_goes 50 = .ok (.getfield 53, 3) := by decide +kernel
theorem dX12_goes_53 : decode cX12_goes 53 = .ok (.iload_n 1, 1) := by decide +kernel
theorem dX12_goes_54 : decode cX12_goes 54 = .ok (.iaload, 1) := by decide +kernel
theorem dX12_goes_55 : decode cX12_goes 55 = .ok (.iadd, 1) := by decide +kernel
theorem dX12_goes_56 : decode cX12_goes 56 = .ok (.iastore, 1) := by decide +kernel
theorem dX12_goes_57 : decode cX12_goes 57 = .ok (.return_, 1) := by decide +kernel
theorem dX12_look_0 : decode cX12_look 0 = .ok (.aload_n 0, 1) := by decide +kernel
theorem dX12_look_1 : decode cX12_look 1 = .ok (.iconst 0, 1) := by decide +kernel
theorem dX12_look_2 : decode cX12_look 2 = .ok (.invokevirtual 142, 3) := by decide +kernel
theorem dX12_look_5 : decode cX12_look 5 = .ok (.aload_n 0, 1) := by decide +kernel
theorem dX12_look_6 : decode cX12_look 6 = .ok (.invokevirtual 146, 3) := by decide +kernel
theorem dX12_look_9 : decode cX12_look 9 = .ok (.return_, 1) := by decide +kernel
theorem dX12_least_0 : decode cX12_least 0 = .ok (.aload_n 0, 1) := by decide +kernel
theorem dX12_least_1 : decode cX12_least 1 = .ok (.invokevirtual 149, 3) := by decide +kernel
theorem dX12_least_4 : decode cX12_least 4 = .ok (.aload_n 0, 1) := by decide +kernel
theorem dX12_least_5 : decode cX12_least 5 = .ok (.getfield 50, 3) := by decide +kernel
theorem dX12_least_8 : decode cX12_least 8 = .ok (.aload_n 0, 1) := by decide +kernel
theorem dX12_least_9 : decode cX12_least 9 = .ok (.invokevirtual 134, 3) := by decide +kernel
theorem dX12_least_12 : decode cX12_least 12 = .ok (.iaload, 1) := by decide +kernel
theorem dX12_least_13 : decode cX12_least 13 = .ok (.ireturn, 1) := by decide +kernel
theorem dX12_many_0 : decode cX12_many 0 = .ok (.aload_n 0, 1) := by decide +kernel
theorem dX12_many_1 : decode cX12_many 1 = .ok (.invokevirtual 149, 3) := by decide +kernel
theorem dX12_many_4 : decode cX12_many 4 = .ok (.aload_n 0, 1) := by decide +kernel
theorem dX12_many_5 : decode cX12_many 5 = .ok (.getfield 53, 3) := by decide +kernel
theorem dX12_many_8 : decode cX12_many 8 = .ok (.aload_n 0, 1) := by decide +kernel
theorem dX12_many_9 : decode cX12_many 9 = .ok (.invokevirtual 134, 3) := by decide +kernel
theorem dX12_many_12 : decode cX12_many 12 = .ok (.iaload, 1) := by decide +kernel
theorem dX12_many_13 : decode cX12_many 13 = .ok (.ireturn, 1) := by decide +kernel
theorem dX12_best_0 : decode cX12_best 0 = .ok (.aload_n 0, 1) := by decide +kernel
theorem dX12_best_1 : decode cX12_best 1 = .ok (.invokevirtual 149, 3) := by decide +kernel
theorem dX12_best_4 : decode cX12_best 4 = .ok (.iconst 0, 1) := by decide +kernel
theorem dX12_best_5 : decode cX12_best 5 = .ok (.istore_n 2, 1) := by decide +kernel
theorem dX12_best_6 : decode cX12_best 6 = .ok (.iconst (-1), 1) := by decide +kernel
theorem dX12_best_7 : decode cX12_best 7 = .ok (.istore_n 3, 1) := by decide +kernel
theorem dX12_best_8 : decode cX12_best 8 = .ok (.iconst 0, 1) := by decide +kernel
theorem dX12_best_9 : decode cX12_best 9 = .ok (.istore 4, 2) := by decide +kernel
theorem dX12_best_11 : decode cX12_best 11 = .ok (.iload 4, 2) := by decide +kernel
theorem dX12_best_13 : decode cX12_best 13 = .ok (.iload_n 1, 1) := by decide +kernel
theorem dX12_best_14 : decode cX12_best 14 = .ok (.if_icmp .gt 142, 3) := by decide +kernel
theorem dX12_best_17 : decode cX12_best 17 = .ok (.iload 4, 2) := by decide +kernel
theorem dX12_best_19 : decode cX12_best 19 = .ok (.aload_n 0, 1) := by decide +kernel
theorem dX12_best_20 : decode cX12_best 20 = .ok (.getfield 75, 3) := by decide +kernel
theorem dX12_best_23 : decode cX12_best 23 = .ok (.if_icmp .ge 133, 3) := by decide +kernel
theorem dX12_best_26 : decode cX12_best 26 = .ok (.iconst (-1), 1) := by decide +kernel
theorem dX12_best_27 : decode cX12_best 27 = .ok (.istore_n 3, 1) := by decide +kernel
theorem dX12_best_28 : decode cX12_best 28 = .ok (.aload_n 0, 1) := by decide +kernel
theorem dX12_best_29 : decode cX12_best 29 = .ok (.getfield 75, 3) := by decide +kernel
theorem dX12_best_32 : decode cX12_best 32 = .ok (.iconst 1, 1) := by decide +kernel
theorem dX12_best_33 : decode cX12_best 33 = .ok (.isub, 1) := by decide +kernel
theorem dX12_best_34 : decode cX12_best 34 = .ok (.istore 5, 2) := by decide +kernel
theorem dX12_best_36 : decode cX12_best 36 = .ok (.iload 5, 2) := by decide +kernel
theorem dX12_best_38 : decode cX12_best 38 = .ok (.ifCond .lt 106, 3) := by decide +kernel
theorem dX12_best_41 : decode cX12_best 41 = .ok (.iload_n 2, 1) := by decide +kernel
theorem dX12_best_42 : decode cX12_best 42 = .ok (.iload 5, 2) := by decide +kernel
theorem dX12_best_44 : decode cX12_best 44 = .ok (.invokestatic 82, 3) := by decide +kernel
theorem dX12_best_47 : decode cX12_best 47 = .ok (.ifCond .ne 21, 3) := by decide +kernel
theorem dX12_best_50 : decode cX12_best 50 = .ok (.aload_n 0, 1) := by decide +kernel
theorem dX12_best_51 : decode cX12_best 51 = .ok (.getfield 65, 3) := by decide +kernel
theorem dX12_best_54 : decode cX12_best 54 = .ok (.iload 5, 2) := by decide +kernel
theorem dX12_best_56 : decode cX12_best 56 = .ok (.iaload, 1) := by decide +kernel
theorem dX12_best_57 : decode cX12_best 57 = .ok (.iload_n 2, 1) := by decide +kernel
theorem dX12_best_58 : decode cX12_best 58 = .ok (.iconst (-1), 1) := by decide +kernel
theorem dX12_best_59 : decode cX12_best 59 = .ok (.ixor, 1) := by decide +kernel
theorem dX12_best_60 : decode cX12_best 60 = .ok (.iand, 1) := by decide +kernel
theorem dX12_best_61 : decode cX12_best 61 = .ok (.ifCond .ne 7, 3) := by decide +kernel
theorem dX12_best_64 : decode cX12_best 64 = .ok (.iconst 1, 1) := by decide +kernel
theorem dX12_best_65 : decode cX12_best 65 = .ok (.goto 4, 3) := by decide +kernel
theorem dX12_best_68 : decode cX12_best 68 = .ok (.iconst 0, 1) := by decide +kernel
theorem dX12_best_69 : decode cX12_best 69 = .ok (.istore 6, 2) := by decide +kernel
theorem dX12_best_71 : decode cX12_best 71 = .ok (.iload 6, 2) := by decide +kernel
theorem dX12_best_73 : decode cX12_best 73 = .ok (.ifCond .eq 50, 3) := by decide +kernel
theorem dX12_best_76 : decode cX12_best 76 = .ok (.aload_n 0, 1) := by decide +kernel
theorem dX12_best_77 : decode cX12_best 77 = .ok (.getfield 62, 3) := by decide +kernel
theorem dX12_best_80 : decode cX12_best 80 = .ok (.iload 5, 2) := by decide +kernel
theorem dX12_best_82 : decode cX12_best 82 = .ok (.iaload, 1) := by decide +kernel
theorem dX12_best_83 : decode cX12_best 83 = .ok (.aload_n 0, 1) := by decide +kernel
theorem dX12_best_84 : decode cX12_best 84 = .ok (.getfield 47, 3) := by decide +kernel
theorem dX12_best_87 : decode cX12_best 87 = .ok (.iload_n 2, 1) := by decide +kernel
theorem dX12_best_88 : decode cX12_best 88 = .ok (.iaload, 1) := by decide +kernel
theorem dX12_best_89 : decode cX12_best 89 = .ok (.aload_n 0, 1) := by decide +kernel
theorem dX12_best_90 : decode cX12_best 90 = .ok (.getfield 59, 3) := by decide +kernel
theorem dX12_best_93 : decode cX12_best 93 = .ok (.iload 5, 2) := by decide +kernel
theorem dX12_best_95 : decode cX12_best 95 = .ok (.iaload, 1) := by decide +kernel
theorem dX12_best_96 : decode cX12_best 96 = .ok (.iadd, 1) := by decide +kernel
theorem dX12_best_97 : decode cX12_best 97 = .ok (.imul, 1) := by decide +kernel
theorem dX12_best_98 : decode cX12_best 98 = .ok (.aload_n 0, 1) := by decide +kernel
theorem dX12_best_99 : decode cX12_best 99 = .ok (.getfield 56, 3) := by decide +kernel
theorem dX12_best_102 : decode cX12_best 102 = .ok (.iload_n 2, 1) := by decide +kernel
theorem dX12_best_103 : decode cX12_best 103 = .ok (.iconst 1, 1) := by decide +kernel
theorem dX12_best_104 : decode cX12_best 104 = .ok (.iload 5, 2) := by decide +kernel
theorem dX12_best_106 : decode cX12_best 106 = .ok (.ishl, 1) := by decide +kernel
theorem dX12_best_107 : decode cX12_best 107 = .ok (.ior, 1) := by decide +kernel
theorem dX12_best_108 : decode cX12_best 108 = .ok (.iaload, 1) := by decide +kernel
theorem dX12_best_109 : decode cX12_best 109 = .ok (.iadd, 1) := by decide +kernel
theorem dX12_best_110 : decode cX12_best 110 = .ok (.aload_n 0, 1) := by decide +kernel
theorem dX12_best_111 : decode cX12_best 111 = .ok (.getfield 56, 3) := by decide +kernel
theorem dX12_best_114 : decode cX12_best 114 = .ok (.iload_n 2, 1) := by decide +kernel
theorem dX12_best_115 : decode cX12_best 115 = .ok (.iaload, 1) := by decide +kernel
theorem dX12_best_116 : decode cX12_best 116 = .ok (.if_icmp .ne 7, 3) := by decide +kernel
theorem dX12_best_119 : decode cX12_best 119 = .ok (.iconst 1, 1) := by decide +kernel
theorem dX12_best_120 : decode cX12_best 120 = .ok (.goto 4, 3) := by decide +kernel
theorem dX12_best_123 : decode cX12_best 123 = .ok (.iconst 0, 1) := by decide +kernel
theorem dX12_best_124 : decode cX12_best 124 = .ok (.istore 7, 2) := by decide +kernel
theorem dX12_best_126 : decode cX12_best 126 = .ok (.iload 7, 2) := by decide +kernel
theorem dX12_best_128 : decode cX12_best 128 = .ok (.ifCond .eq 8, 3) := by decide +kernel
theorem dX12_best_131 : decode cX12_best 131 = .ok (.iload 5, 2) := by decide +kernel
theorem dX12_best_133 : decode cX12_best 133 = .ok (.goto 4, 3) := by decide +kernel
theorem dX12_best_136 : decode cX12_best 136 = .ok (.iload_n 3, 1) := by decide +kernel
theorem dX12_best_137 : decode cX12_best 137 = .ok (.istore_n 3, 1) := by decide +kernel
theorem dX12_best_138 : decode cX12_best 138 = .ok (.iinc 5 (-1), 3) := by decide +kernel
theorem dX12_best_141 : decode cX12_best 141 = .ok (.goto (-105), 3) := by decide +kernel
theorem dX12_best_144 : decode cX12_best 144 = .ok (.iload_n 2, 1) := by decide +kernel
theorem dX12_best_145 : decode cX12_best 145 = .ok (.iconst 1, 1) := by decide +kernel
theorem dX12_best_146 : decode cX12_best 146 = .ok (.iload_n 3, 1) := by decide +kernel
theorem dX12_best_147 : decode cX12_best 147 = .ok (.ishl, 1) := by decide +kernel
theorem dX12_best_148 : decode cX12_best 148 = .ok (.ior, 1) := by decide +kernel
theorem dX12_best_149 : decode cX12_best 149 = .ok (.istore_n 2, 1) := by decide +kernel
theorem dX12_best_150 : decode cX12_best 150 = .ok (.iinc 4 1, 3) := by decide +kernel
theorem dX12_best_153 : decode cX12_best 153 = .ok (.goto (-142), 3) := by decide +kernel
theorem dX12_best_156 : decode cX12_best 156 = .ok (.iload_n 1, 1) := by decide +kernel
theorem dX12_best_157 : decode cX12_best 157 = .ok (.iconst 0, 1) := by decide +kernel
theorem dX12_best_158 : decode cX12_best 158 = .ok (.aload_n 0, 1) := by decide +kernel
theorem dX12_best_159 : decode cX12_best 159 = .ok (.getfield 75, 3) := by decide +kernel
theorem dX12_best_162 : decode cX12_best 162 = .ok (.iconst 1, 1) := by decide +kernel
theorem dX12_best_163 : decode cX12_best 163 = .ok (.isub, 1) := by decide +kernel
theorem dX12_best_164 : decode cX12_best 164 = .ok (.invokestatic 78, 3) := by decide +kernel
theorem dX12_best_167 : decode cX12_best 167 = .ok (.ifCond .eq 7, 3) := by decide +kernel
theorem dX12_best_170 : decode cX12_best 170 = .ok (.iload_n 3, 1) := by decide +kernel
theorem dX12_best_171 : decode cX12_best 171 = .ok (.goto 4, 3) := by decide +kernel
theorem dX12_best_174 : decode cX12_best 174 = .ok (.iconst (-1), 1) := by decide +kernel
theorem dX12_best_175 : decode cX12_best 175 = .ok (.ireturn, 1) := by decide +kernel
theorem dX12_fixed_0 : decode cX12_fixed 0 = .ok (.aload_n 0, 1) := by decide +kernel
theorem dX12_fixed_1 : decode cX12_fixed 1 = .ok (.iload_n 1, 1) := by decide +kernel
theorem dX12_fixed_2 : decode cX12_fixed 2 = .ok (.invokevirtual 106, 3) := by decide +kernel
theorem dX12_fixed_5 : decode cX12_fixed 5 = .ok (.ifCond .eq 16, 3) := by decide +kernel
theorem dX12_fixed_8 : decode cX12_fixed 8 = .ok (.aload_n 0, 1) := by decide +kernel
theorem dX12_fixed_9 : decode cX12_fixed 9 = .ok (.iload_n 2, 1) := by decide +kernel
theorem dX12_fixed_10 : decode cX12_fixed 10 = .ok (.invokevirtual 106, 3) := by decide +kernel
theorem dX12_fixed_13 : decode cX12_fixed 13 = .ok (.ifCond .eq 8, 3) := by decide +kernel
theorem dX12_fixed_16 : decode cX12_fixed 16 = .ok (.iload_n 1, 1) := by decide +kernel
theorem dX12_fixed_17 : decode cX12_fixed 17 = .ok (.iload_n 2, 1) := by decide +kernel
theorem dX12_fixed_18 : decode cX12_fixed 18 = .ok (.if_icmp .ne 5, 3) := by decide +kernel
theorem dX12_fixed_21 : decode cX12_fixed 21 = .ok (.iconst (-1), 1) := by decide +kernel
theorem dX12_fixed_22 : decode cX12_fixed 22 = .ok (.ireturn, 1) := by decide +kernel
theorem dX12_fixed_23 : decode cX12_fixed 23 = .ok (.aload_n 0, 1) := by decide +kernel
theorem dX12_fixed_24 : decode cX12_fixed 24 = .ok (.invokevirtual 149, 3) := by decide +kernel
theorem dX12_fixed_27 : decode cX12_fixed 27 = .ok (.iconst 1, 1) := by decide +kernel
theorem dX12_fixed_28 : decode cX12_fixed 28 = .ok (.istore_n 3, 1) := by decide +kernel
theorem dX12_fixed_29 : decode cX12_fixed 29 = .ok (.iconst 0, 1) := by decide +kernel
theorem dX12_fixed_30 : decode cX12_fixed 30 = .ok (.istore 4, 2) := by decide +kernel
theorem dX12_fixed_32 : decode cX12_fixed 32 = .ok (.iload 4, 2) := by decide +kernel
theorem dX12_fixed_34 : decode cX12_fixed 34 = .ok (.aload_n 0, 1) := by decide +kernel
theorem dX12_fixed_35 : decode cX12_fixed 35 = .ok (.invokevirtual 134, 3) := by decide +kernel
theorem dX12_fixed_38 : decode cX12_fixed 38 = .ok (.if_icmp .gt 100, 3) := by decide +kernel
theorem dX12_fixed_41 : decode cX12_fixed 41 = .ok (.iload 4, 2) := by decide +kernel
theorem dX12_fixed_43 : decode cX12_fixed 43 = .ok (.iload_n 2, 1) := by decide +kernel
theorem dX12_fixed_44 : decode cX12_fixed 44 = .ok (.invokestatic 82, 3) := by decide +kernel
theorem dX12_fixed_47 : decode cX12_fixed 47 = .ok (.ifCond .eq 40, 3) := by decide +kernel
theorem dX12_fixed_50 : decode cX12_fixed 50 = .ok (.iload 4, 2) := by decide +kernel
theorem dX12_fixed_52 : decode cX12_fixed 52 = .ok (.iload_n 1, 1) := by decide +kernel
theorem dX12_fixed_53 : decode cX12_fixed 53 = .ok (.invokestatic 82, 3) := by decide +kernel
theorem dX12_fixed_56 : decode cX12_fixed 56 = .ok (.ifCond .ne 31, 3) := by decide +kernel
theorem dX12_fixed_59 : decode cX12_fixed 59 = .ok (.aload_n 0, 1) := by decide +kernel
theorem dX12_fixed_60 : decode cX12_fixed 60 = .ok (.getfield 50, 3) := by decide +kernel
theorem dX12_fixed_63 : decode cX12_fixed 63 = .ok (.iload 4, 2) := by decide +kernel
theorem dX12_fixed_65 : decode cX12_fixed 65 = .ok (.iaload, 1) := by decide +kernel
theorem dX12_fixed_66 : decode cX12_fixed 66 = .ok (.ldc 137, 2) := by decide +kernel
theorem dX12_fixed_68 : decode cX12_fixed 68 = .ok (.if_icmp .ge 19, 3) := by decide +kernel
theorem dX12_fixed_71 : decode cX12_fixed 71 = .ok (.aload_n 0, 1) := by decide +kernel
theorem dX12_fixed_72 : decode cX12_fixed 72 = .ok (.getfield 56, 3) := by decide +kernel
theorem dX12_fixed_75 : decode cX12_fixed 75 = .ok (.iload 4, 2) := by decide +kernel
theorem dX12_fixed_77 : decode cX12_fixed 77 = .ok (.iaload, 1) := by decide +kernel
theorem dX12_fixed_78 : decode cX12_fixed 78 = .ok (.ldc 137, 2) := by decide +kernel
theorem dX12_fixed_80 : decode cX12_fixed 80 = .ok (.if_icmp .ge 7, 3) := by decide +kernel
theorem dX12_fixed_83 : decode cX12_fixed 83 = .ok (.iconst 1, 1) := by decide +kernel
theorem dX12_fixed_84 : decode cX12_fixed 84 = .ok (.goto 4, 3) := by decide +kernel
theorem dX12_fixed_87 : decode cX12_fixed 87 = .ok (.iconst 0, 1) := by decide +kernel
theorem dX12_fixed_88 : decode cX12_fixed 88 = .ok (.istore 5, 2) := by decide +kernel
theorem dX12_fixed_90 : decode cX12_fixed 90 = .ok (.iload_n 3, 1) := by decide +kernel
theorem dX12_fixed_91 : decode cX12_fixed 91 = .ok (.ifCond .eq 39, 3) := by decide +kernel
theorem dX12_fixed_94 : decode cX12_fixed 94 = .ok (.iload 5, 2) := by decide +kernel
theorem dX12_fixed_96 : decode cX12_fixed 96 = .ok (.ifCond .eq 30, 3) := by decide +kernel
theorem dX12_fixed_99 : decode cX12_fixed 99 = .ok (.aload_n 0, 1) := by decide +kernel
theorem dX12_fixed_100 : decode cX12_fixed 100 = .ok (.getfield 50, 3) := by decide +kernel
theorem dX12_fixed_103 : decode cX12_fixed 103 = .ok (.iload 4, 2) := by decide +kernel
theorem dX12_fixed_105 : decode cX12_fixed 105 = .ok (.iaload, 1) := by decide +kernel
theorem dX12_fixed_106 : decode cX12_fixed 106 = .ok (.aload_n 0, 1) := by decide +kernel
theorem dX12_fixed_107 : decode cX12_fixed 107 = .ok (.getfield 56, 3) := by decide +kernel
theorem dX12_fixed_110 : decode cX12_fixed 110 = .ok (.iload 4, 2) := by decide +kernel
theorem dX12_fixed_112 : decode cX12_fixed 112 = .ok (.iaload, 1) := by decide +kernel
theorem dX12_fixed_113 : decode cX12_fixed 113 = .ok (.iadd, 1) := by decide +kernel
theorem dX12_fixed_114 : decode cX12_fixed 114 = .ok (.aload_n 0, 1) := by decide +kernel
theorem dX12_fixed_115 : decode cX12_fixed 115 = .ok (.getfield 50, 3) := by decide +kernel
theorem dX12_fixed_118 : decode cX12_fixed 118 = .ok (.aload_n 0, 1) := by decide +kernel
theorem dX12_fixed_119 : decode cX12_fixed 119 = .ok (.invokevirtual 134, 3) := by decide +kernel
theorem dX12_fixed_122 : decode cX12_fixed 122 = .ok (.iaload, 1) := by decide +kernel
theorem dX12_fixed_123 : decode cX12_fixed 123 = .ok (.if_icmp .eq 7, 3) := by decide +kernel
theorem dX12_fixed_126 : decode cX12_fixed 126 = .ok (.iconst 1, 1) := by decide +kernel
theorem dX12_fixed_127 : decode cX12_fixed 127 = .ok (.goto 4, 3) := by decide +kernel
theorem dX12_fixed_130 : decode cX12_fixed 130 = .ok (.iconst 0, 1) := by decide +kernel
theorem dX12_fixed_131 : decode cX12_fixed 131 = .ok (.istore_n 3, 1) := by decide +kernel
theorem dX12_fixed_132 : decode cX12_fixed 132 = .ok (.iinc 4 1, 3) := by decide +kernel
theorem dX12_fixed_135 : decode cX12_fixed 135 = .ok (.goto (-103), 3) := by decide +kernel
theorem dX12_fixed_138 : decode cX12_fixed 138 = .ok (.iload_n 3, 1) := by decide +kernel
theorem dX12_fixed_139 : decode cX12_fixed 139 = .ok (.ifCond .eq 7, 3) := by decide +kernel
theorem dX12_fixed_142 : decode cX12_fixed 142 = .ok (.iconst 1, 1) := by decide +kernel
theorem dX12_fixed_143 : decode cX12_fixed 143 = .ok (.goto 4, 3) := by decide +kernel
theorem dX12_fixed_146 : decode cX12_fixed 146 = .ok (.iconst 0, 1) := by decide +kernel
theorem dX12_fixed_147 : decode cX12_fixed 147 = .ok (.ireturn, 1) := by decide +kernel
theorem dX12_turned_0 : decode cX12_turned 0 = .ok (.iconst 0, 1) := by decide +kernel
theorem dX12_turned_1 : decode cX12_turned 1 = .ok (.istore_n 1, 1) := by decide +kernel
theorem dX12_turned_2 : decode cX12_turned 2 = .ok (.iload_n 1, 1) := by decide +kernel
theorem dX12_turned_3 : decode cX12_turned 3 = .ok (.aload_n 0, 1) := by decide +kernel
theorem dX12_turned_4 : decode cX12_turned 4 = .ok (.getfield 75, 3) := by decide +kernel
theorem dX12_turned_7 : decode cX12_turned 7 = .ok (.if_icmp .ge 20, 3) := by decide +kernel
theorem dX12_turned_10 : decode cX12_turned 10 = .ok (.aload_n 0, 1) := by decide +kernel
theorem dX12_turned_11 : decode cX12_turned 11 = .ok (.getfield 13, 3) := by decide +kernel
theorem dX12_turned_14 : decode cX12_turned 14 = .ok (.iload_n 1, 1) := by decide +kernel
theorem dX12_turned_15 : decode cX12_turned 15 = .ok (.iaload, 1) := by decide +kernel
theorem dX12_turned_16 : decode cX12_turned 16 = .ok (.ifCond .ne 5, 3) := by decide +kernel
theorem dX12_turned_19 : decode cX12_turned 19 = .ok (.iconst (-1), 1) := by decide +kernel
theorem dX12_turned_20 : decode cX12_turned 20 = .ok (.ireturn, 1) := by decide +kernel
theorem dX12_turned_21 : decode cX12_turned 21 = .ok (.iinc 1 1, 3) := by decide +kernel
theorem dX12_turned_24 : decode cX12_turned 24 = .ok (.goto (-22), 3) := by decide +kernel
theorem dX12_turned_27 : decode cX12_turned 27 = .ok (.aload_n 0, 1) := by decide +kernel
theorem dX12_turned_28 : decode cX12_turned 28 = .ok (.iconst 1, 1) := by decide +kernel
theorem dX12_turned_29 : decode cX12_turned 29 = .ok (.invokevirtual 142, 3) := by decide +kernel
theorem dX12_turned_32 : decode cX12_turned 32 = .ok (.aload_n 0, 1) := by decide +kernel
theorem dX12_turned_33 : decode cX12_turned 33 = .ok (.invokevirtual 146, 3) := by decide +kernel
theorem dX12_turned_36 : decode cX12_turned 36 = .ok (.aload_n 0, 1) := by decide +kernel
theorem dX12_turned_37 : decode cX12_turned 37 = .ok (.getfield 50, 3) := by decide +kernel
theorem dX12_turned_40 : decode cX12_turned 40 = .ok (.aload_n 0, 1) := by decide +kernel
theorem dX12_turned_41 : decode cX12_turned 41 = .ok (.invokevirtual 134, 3) := by decide +kernel
theorem dX12_turned_44 : decode cX12_turned 44 = .ok (.iaload, 1) := by decide +kernel
theorem dX12_turned_45 : decode cX12_turned 45 = .ok (.ireturn, 1) := by decide +kernel
theorem dX12_weightOf_0 : decode cX12_weightOf 0 = .ok (.iconst 0, 1) := by decide +kernel
theorem dX12_weightOf_1 : decode cX12_weightOf 1 = .ok (.istore_n 2, 1) := by decide +kernel
theorem dX12_weightOf_2 : decode cX12_weightOf 2 = .ok (.iconst 0, 1) := by decide +kernel
theorem dX12_weightOf_3 : decode cX12_weightOf 3 = .ok (.istore_n 3, 1) := by decide +kernel
theorem dX12_weightOf_4 : decode cX12_weightOf 4 = .ok (.iload_n 3, 1) := by decide +kernel
theorem dX12_weightOf_5 : decode cX12_weightOf 5 = .ok (.aload_n 0, 1) := by decide +kernel
theorem dX12_weightOf_6 : decode cX12_weightOf 6 = .ok (.getfield 75, 3) := by decide +kernel
theorem dX12_weightOf_9 : decode cX12_weightOf 9 = .ok (.if_icmp .ge 30, 3) := by decide +kernel
theorem dX12_weightOf_12 : decode cX12_weightOf 12 = .ok (.iload_n 2, 1) := by decide +kernel
theorem dX12_weightOf_13 : decode cX12_weightOf 13 = .ok (.iload_n 1, 1) := by decide +kernel
theorem dX12_weightOf_14 : decode cX12_weightOf 14 = .ok (.iload_n 3, 1) := by decide +kernel
theorem dX12_weightOf_15 : decode cX12_weightOf 15 = .ok (.invokestatic 82, 3) := by decide +kernel
theorem dX12_weightOf_18 : decode cX12_weightOf 18 = .ok (.ifCond .eq 12, 3) := by decide +kernel
theorem dX12_weightOf_21 : decode cX12_weightOf 21 = .ok (.aload_n 0, 1) := by decide +kernel
theorem dX12_weightOf_22 : decode cX12_weightOf 22 = .ok (.getfield 13, 3) := by decide +kernel
theorem dX12_weightOf_25 : decode cX12_weightOf 25 = .ok (.iload_n 3, 1) := by decide +kernel
theorem dX12_weightOf_26 : decode cX12_weightOf 26 = .ok (.iaload, 1) := by decide +kernel
theorem dX12_weightOf_27 : decode cX12_weightOf 27 = .ok (.goto 4, 3) := by decide +kernel
theorem dX12_weightOf_30 : decode cX12_weightOf 30 = .ok (.iconst 0, 1) := by decide +kernel
theorem dX12_weightOf_31 : decode cX12_weightOf 31 = .ok (.iadd, 1) := by decide +kernel
theorem dX12_weightOf_32 : decode cX12_weightOf 32 = .ok (.istore_n 2, 1) := by decide +kernel
theorem dX12_weightOf_33 : decode cX12_weightOf 33 = .ok (.iinc 3 1, 3) := by decide +kernel
theorem dX12_weightOf_36 : decode cX12_weightOf 36 = .ok (.goto (-32), 3) := by decide +kernel
theorem dX12_weightOf_39 : decode cX12_weightOf 39 = .ok (.iload_n 2, 1) := by decide +kernel
theorem dX12_weightOf_40 : decode cX12_weightOf 40 = .ok (.ireturn, 1) := by decide +kernel
theorem dX12_lengthOf_0 : decode cX12_lengthOf 0 = .ok (.iconst 0, 1) := by decide +kernel
theorem dX12_lengthOf_1 : decode cX12_lengthOf 1 = .ok (.istore_n 2, 1) := by decide +kernel
theorem dX12_lengthOf_2 : decode cX12_lengthOf 2 = .ok (.iconst 0, 1) := by decide +kernel
theorem dX12_lengthOf_3 : decode cX12_lengthOf 3 = .ok (.istore_n 3, 1) := by decide +kernel
theorem dX12_lengthOf_4 : decode cX12_lengthOf 4 = .ok (.iload_n 3, 1) := by decide +kernel
theorem dX12_lengthOf_5 : decode cX12_lengthOf 5 = .ok (.aload_n 0, 1) := by decide +kernel
theorem dX12_lengthOf_6 : decode cX12_lengthOf 6 = .ok (.getfield 75, 3) := by decide +kernel
theorem dX12_lengthOf_9 : decode cX12_lengthOf 9 = .ok (.if_icmp .ge 30, 3) := by decide +kernel
theorem dX12_lengthOf_12 : decode cX12_lengthOf 12 = .ok (.iload_n 2, 1) := by decide +kernel
theorem dX12_lengthOf_13 : decode cX12_lengthOf 13 = .ok (.iload_n 1, 1) := by decide +kernel
theorem dX12_lengthOf_14 : decode cX12_lengthOf 14 = .ok (.iload_n 3, 1) := by decide +kernel
theorem dX12_lengthOf_15 : decode cX12_lengthOf 15 = .ok (.invokestatic 82, 3) := by decide +kernel
theorem dX12_lengthOf_18 : decode cX12_lengthOf 18 = .ok (.ifCond .eq 12, 3) := by decide +kernel
theorem dX12_lengthOf_21 : decode cX12_lengthOf 21 = .ok (.aload_n 0, 1) := by decide +kernel
theorem dX12_lengthOf_22 : decode cX12_lengthOf 22 = .ok (.getfield 7, 3) := by decide +kernel
theorem dX12_lengthOf_25 : decode cX12_lengthOf 25 = .ok (.iload_n 3, 1) := by decide +kernel
theorem dX12_lengthOf_26 : decode cX12_lengthOf 26 = .ok (.iaload, 1) := by decide +kernel
theorem dX12_lengthOf_27 : decode cX12_lengthOf 27 = .ok (.goto 4, 3) := by decide +kernel
theorem dX12_lengthOf_30 : decode cX12_lengthOf 30 = .ok (.iconst 0, 1) := by decide +kernel
theorem dX12_lengthOf_31 : decode cX12_lengthOf 31 = .ok (.iadd, 1) := by decide +kernel
theorem dX12_lengthOf_32 : decode cX12_lengthOf 32 = .ok (.istore_n 2, 1) := by decide +kernel
theorem dX12_lengthOf_33 : decode cX12_lengthOf 33 = .ok (.iinc 3 1, 3) := by decide +kernel
theorem dX12_lengthOf_36 : decode cX12_lengthOf 36 = .ok (.goto (-32), 3) := by decide +kernel
theorem dX12_lengthOf_39 : decode cX12_lengthOf 39 = .ok (.iload_n 2, 1) := by decide +kernel
theorem dX12_lengthOf_40 : decode cX12_lengthOf 40 = .ok (.ireturn, 1) := by decide +kernel
theorem dX12_isBeginning_0 : decode cX12_isBeginning 0 = .ok (.iconst 1, 1) := by decide +kernel
theorem dX12_isBeginning_1 : decode cX12_isBeginning 1 = .ok (.istore_n 3, 1) := by decide +kernel
theorem dX12_isBeginning_2 : decode cX12_isBeginning 2 = .ok (.iconst 0, 1) := by decide +kernel
theorem dX12_isBeginning_3 : decode cX12_isBeginning 3 = .ok (.istore 4, 2) := by decide +kernel
theorem dX12_isBeginning_5 : decode cX12_isBeginning 5 = .ok (.iload 4, 2) := by decide +kernel
theorem dX12_isBeginning_7 : decode cX12_isBeginning 7 = .ok (.aload_n 0, 1) := by decide +kernel
theorem dX12_isBeginning_8 : decode cX12_isBeginning 8 = .ok (.getfield 75, 3) := by decide +kernel
theorem dX12_isBeginning_11 : decode cX12_isBeginning 11 = .ok (.if_icmp .ge 44, 3) := by decide +kernel
theorem dX12_isBeginning_14 : decode cX12_isBeginning 14 = .ok (.iload_n 3, 1) := by decide +kernel
theorem dX12_isBeginning_15 : decode cX12_isBeginning 15 = .ok (.ifCond .eq 32, 3) := by decide +kernel
theorem dX12_isBeginning_18 : decode cX12_isBeginning 18 = .ok (.iload_n 1, 1) := by decide +kernel
theorem dX12_isBeginning_19 : decode cX12_isBeginning 19 = .ok (.iload 4, 2) := by decide +kernel
theorem dX12_isBeginning_21 : decode cX12_isBeginning 21 = .ok (.invokestatic 82, 3) := by decide +kernel
theorem dX12_isBeginning_24 : decode cX12_isBeginning 24 = .ok (.ifCond .eq 19, 3) := by decide +kernel
theorem dX12_isBeginning_27 : decode cX12_isBeginning 27 = .ok (.aload_n 0, 1) := by decide +kernel
theorem dX12_isBeginning_28 : decode cX12_isBeginning 28 = .ok (.getfield 22, 3) := by decide +kernel
theorem dX12_isBeginning_31 : decode cX12_isBeginning 31 = .ok (.iload 4, 2) := by decide +kernel
theorem dX12_isBeginning_33 : decode cX12_isBeginning 33 = .ok (.iaload, 1) := by decide +kernel
theorem dX12_isBeginning_34 : decode cX12_isBeginning 34 = .ok (.iload_n 1, 1) := by decide +kernel
theorem dX12_isBeginning_35 : decode cX12_isBeginning 35 = .ok (.iload_n 2, 1) := by decide +kernel
theorem dX12_isBeginning_36 : decode cX12_isBeginning 36 = .ok (.ior, 1) := by decide +kernel
theorem dX12_isBeginning_37 : decode cX12_isBeginning 37 = .ok (.iconst (-1), 1) := by decide +kernel
theorem dX12_isBeginning_38 : decode cX12_isBeginning 38 = .ok (.ixor, 1) := by decide +kernel
theorem dX12_isBeginning_39 : decode cX12_isBeginning 39 = .ok (.iand, 1) := by decide +kernel
theorem dX12_isBeginning_40 : decode cX12_isBeginning 40 = .ok (.ifCond .ne 7, 3) := by decide +kernel
theorem dX12_isBeginning_43 : decode cX12_isBeginning 43 = .ok (.iconst 1, 1) := by decide +kernel
theorem dX12_isBeginning_44 : decode cX12_isBeginning 44 = .ok (.goto 4, 3) := by decide +kernel
theorem dX12_isBeginning_47 : decode cX12_isBeginning 47 = .ok (.iconst 0, 1) := by decide +kernel
theorem dX12_isBeginning_48 : decode cX12_isBeginning 48 = .ok (.istore_n 3, 1) := by decide +kernel
theorem dX12_isBeginning_49 : decode cX12_isBeginning 49 = .ok (.iinc 4 1, 3) := by decide +kernel
theorem dX12_isBeginning_52 : decode cX12_isBeginning 52 = .ok (.goto (-47), 3) := by decide +kernel
theorem dX12_isBeginning_55 : decode cX12_isBeginning 55 = .ok (.iload_n 3, 1) := by decide +kernel
theorem dX12_isBeginning_56 : decode cX12_isBeginning 56 = .ok (.ireturn, 1) := by decide +kernel
theorem dX12_blockBehind_0 : decode cX12_blockBehind 0 = .ok (.iconst 0, 1) := by decide +kernel
theorem dX12_blockBehind_1 : decode cX12_blockBehind 1 = .ok (.istore_n 2, 1) := by decide +kernel
theorem dX12_blockBehind_2 : decode cX12_blockBehind 2 = .ok (.iconst 1, 1) := by decide +kernel
theorem dX12_blockBehind_3 : decode cX12_blockBehind 3 = .ok (.istore_n 3, 1) := by decide +kernel
theorem dX12_blockBehind_4 : decode cX12_blockBehind 4 = .ok (.iload_n 3, 1) := by decide +kernel
theorem dX12_blockBehind_5 : decode cX12_blockBehind 5 = .ok (.aload_n 0, 1) := by decide +kernel
theorem dX12_blockBehind_6 : decode cX12_blockBehind 6 = .ok (.invokevirtual 134, 3) := by decide +kernel
theorem dX12_blockBehind_9 : decode cX12_blockBehind 9 = .ok (.if_icmp .gt 79, 3) := by decide +kernel
theorem dX12_blockBehind_12 : decode cX12_blockBehind 12 = .ok (.iload_n 3, 1) := by decide +kernel
theorem dX12_blockBehind_13 : decode cX12_blockBehind 13 = .ok (.iload_n 1, 1) := by decide +kernel
theorem dX12_blockBehind_14 : decode cX12_blockBehind 14 = .ok (.iand, 1) := by decide +kernel
theorem dX12_blockBehind_15 : decode cX12_blockBehind 15 = .ok (.ifCond .ne 67, 3) := by decide +kernel
theorem dX12_blockBehind_18 : decode cX12_blockBehind 18 = .ok (.aload_n 0, 1) := by decide +kernel
theorem dX12_blockBehind_19 : decode cX12_blockBehind 19 = .ok (.iload_n 3, 1) := by decide +kernel
theorem dX12_blockBehind_20 : decode cX12_blockBehind 20 = .ok (.iload_n 1, 1) := by decide +kernel
theorem dX12_blockBehind_21 : decode cX12_blockBehind 21 = .ok (.invokevirtual 152, 3) := by decide +kernel
theorem dX12_blockBehind_24 : decode cX12_blockBehind 24 = .ok (.ifCond .eq 58, 3) := by decide +kernel
theorem dX12_blockBehind_27 : decode cX12_blockBehind 27 = .ok (.iload_n 2, 1) := by decide +kernel
theorem dX12_blockBehind_28 : decode cX12_blockBehind 28 = .ok (.ifCond .ne 7, 3) := by decide +kernel
theorem dX12_blockBehind_31 : decode cX12_blockBehind 31 = .ok (.iconst 1, 1) := by decide +kernel
theorem dX12_blockBehind_32 : decode cX12_blockBehind 32 = .ok (.goto 26, 3) := by decide +kernel
theorem dX12_blockBehind_35 : decode cX12_blockBehind 35 = .ok (.aload_n 0, 1) := by decide +kernel
theorem dX12_blockBehind_36 : decode cX12_blockBehind 36 = .ok (.iload_n 3, 1) := by decide +kernel
theorem dX12_blockBehind_37 : decode cX12_blockBehind 37 = .ok (.invokevirtual 155, 3) := by decide +kernel
theorem dX12_blockBehind_40 : decode cX12_blockBehind 40 = .ok (.aload_n 0, 1) := by decide +kernel
theorem dX12_blockBehind_41 : decode cX12_blockBehind 41 = .ok (.iload_n 2, 1) := by decide +kernel
theorem dX12_blockBehind_42 : decode cX12_blockBehind 42 = .ok (.invokevirtual 158, 3) := by decide +kernel
theorem dX12_blockBehind_45 : decode cX12_blockBehind 45 = .ok (.imul, 1) := by decide +kernel
theorem dX12_blockBehind_46 : decode cX12_blockBehind 46 = .ok (.aload_n 0, 1) := by decide +kernel
theorem dX12_blockBehind_47 : decode cX12_blockBehind 47 = .ok (.iload_n 2, 1) := by decide +kernel
theorem dX12_blockBehind_48 : decode cX12_blockBehind 48 = .ok (.invokevirtual 155, 3) := by decide +kernel
theorem dX12_blockBehind_51 : decode cX12_blockBehind 51 = .ok (.aload_n 0, 1) := by decide +kernel
theorem dX12_blockBehind_52 : decode cX12_blockBehind 52 = .ok (.iload_n 3, 1) := by decide +kernel
theorem dX12_blockBehind_53 : decode cX12_blockBehind 53 = .ok (.invokevirtual 158, 3) := by decide +kernel
theorem dX12_blockBehind_56 : decode cX12_blockBehind 56 = .ok (.imul, 1) := by decide +kernel
theorem dX12_blockBehind_57 : decode cX12_blockBehind 57 = .ok (.isub, 1) := by decide +kernel
theorem dX12_blockBehind_58 : decode cX12_blockBehind 58 = .ok (.istore 4, 2) := by decide +kernel
theorem dX12_blockBehind_60 : decode cX12_blockBehind 60 = .ok (.iload 4, 2) := by decide +kernel
theorem dX12_blockBehind_62 : decode cX12_blockBehind 62 = .ok (.ifCond .le 7, 3) := by decide +kernel
theorem dX12_blockBehind_65 : decode cX12_blockBehind 65 = .ok (.iload_n 3, 1) := by decide +kernel
theorem dX12_blockBehind_66 : decode cX12_blockBehind 66 = .ok (.goto 15, 3) := by decide +kernel
theorem dX12_blockBehind_69 : decode cX12_blockBehind 69 = .ok (.iload 4, 2) := by decide +kernel
theorem dX12_blockBehind_71 : decode cX12_blockBehind 71 = .ok (.ifCond .ne 9, 3) := by decide +kernel
theorem dX12_blockBehind_74 : decode cX12_blockBehind 74 = .ok (.iload_n 2, 1) := by decide +kernel
theorem dX12_blockBehind_75 : decode cX12_blockBehind 75 = .ok (.iload_n 3, 1) := by decide +kernel
theorem dX12_blockBehind_76 : decode cX12_blockBehind 76 = .ok (.ior, 1) := by decide +kernel
theorem dX12_blockBehind_77 : decode cX12_blockBehind 77 = .ok (.goto 4, 3) := by decide +kernel
theorem dX12_blockBehind_80 : decode cX12_blockBehind 80 = .ok (.iload_n 2, 1) := by decide +kernel
theorem dX12_blockBehind_81 : decode cX12_blockBehind 81 = .ok (.istore_n 2, 1) := by decide +kernel
theorem dX12_blockBehind_82 : decode cX12_blockBehind 82 = .ok (.iinc 3 1, 3) := by decide +kernel
theorem dX12_blockBehind_85 : decode cX12_blockBehind 85 = .ok (.goto (-81), 3) := by decide +kernel
theorem dX12_blockBehind_88 : decode cX12_blockBehind 88 = .ok (.iload_n 2, 1) := by decide +kernel
theorem dX12_blockBehind_89 : decode cX12_blockBehind 89 = .ok (.ireturn, 1) := by decide +kernel
theorem dX12_findBlocks_0 : decode cX12_findBlocks 0 = .ok (.aload_n 0, 1) := by decide +kernel
theorem dX12_findBlocks_1 : decode cX12_findBlocks 1 = .ok (.invokevirtual 110, 3) := by decide +kernel
theorem dX12_findBlocks_4 : decode cX12_findBlocks 4 = .ok (.aload_n 0, 1) := by decide +kernel
theorem dX12_findBlocks_5 : decode cX12_findBlocks 5 = .ok (.iconst 0, 1) := by decide +kernel
theorem dX12_findBlocks_6 : decode cX12_findBlocks 6 = .ok (.putfield 161, 3) := by decide +kernel
theorem dX12_findBlocks_9 : decode cX12_findBlocks 9 = .ok (.iconst 0, 1) := by decide +kernel
theorem dX12_findBlocks_10 : decode cX12_findBlocks 10 = .ok (.istore_n 1, 1) := by decide +kernel
theorem dX12_findBlocks_11 : decode cX12_findBlocks 11 = .ok (.iload_n 1, 1) := by decide +kernel
theorem dX12_findBlocks_12 : decode cX12_findBlocks 12 = .ok (.aload_n 0, 1) := by decide +kernel
theorem dX12_findBlocks_13 : decode cX12_findBlocks 13 = .ok (.invokevirtual 134, 3) := by decide +kernel
theorem dX12_findBlocks_16 : decode cX12_findBlocks 16 = .ok (.if_icmp .eq 42, 3) := by decide +kernel
theorem dX12_findBlocks_19 : decode cX12_findBlocks 19 = .ok (.aload_n 0, 1) := by decide +kernel
theorem dX12_findBlocks_20 : decode cX12_findBlocks 20 = .ok (.getfield 68, 3) := by decide +kernel
theorem dX12_findBlocks_23 : decode cX12_findBlocks 23 = .ok (.aload_n 0, 1) := by decide +kernel
theorem dX12_findBlocks_24 : decode cX12_findBlocks 24 = .ok (.getfield 161, 3) := by decide +kernel
theorem dX12_findBlocks_27 : decode cX12_findBlocks 27 = .ok (.aload_n 0, 1) := by decide +kernel
theorem dX12_findBlocks_28 : decode cX12_findBlocks 28 = .ok (.iload_n 1, 1) := by decide +kernel
theorem dX12_findBlocks_29 : decode cX12_findBlocks 29 = .ok (.invokevirtual 164, 3) := by decide +kernel
theorem dX12_findBlocks_32 : decode cX12_findBlocks 32 = .ok (.iastore, 1) := by decide +kernel
theorem dX12_findBlocks_33 : decode cX12_findBlocks 33 = .ok (.iload_n 1, 1) := by decide +kernel
theorem dX12_findBlocks_34 : decode cX12_findBlocks 34 = .ok (.aload_n 0, 1) := by decide +kernel
theorem dX12_findBlocks_35 : decode cX12_findBlocks 35 = .ok (.getfield 68, 3) := by decide +kernel
theorem dX12_findBlocks_38 : decode cX12_findBlocks 38 = .ok (.aload_n 0, 1) := by decide +kernel
theorem dX12_findBlocks_39 : decode cX12_findBlocks 39 = .ok (.getfield 161, 3) := by decide +kernel
theorem dX12_findBlocks_42 : decode cX12_findBlocks 42 = .ok (.iaload, 1) := by decide +kernel
theorem dX12_findBlocks_43 : decode cX12_findBlocks 43 = .ok (.ior, 1) := by decide +kernel
theorem dX12_findBlocks_44 : decode cX12_findBlocks 44 = .ok (.istore_n 1, 1) := by decide +kernel
theorem dX12_findBlocks_45 : decode cX12_findBlocks 45 = .ok (.aload_n 0, 1) := by decide +kernel
theorem dX12_findBlocks_46 : decode cX12_findBlocks 46 = .ok (.dup, 1) := by decide +kernel
theorem dX12_findBlocks_47 : decode cX12_findBlocks 47 = .ok (.getfield 161, 3) := by decide +kernel
theorem dX12_findBlocks_50 : decode cX12_findBlocks 50 = .ok (.iconst 1, 1) := by decide +kernel
theorem dX12_findBlocks_51 : decode cX12_findBlocks 51 = .ok (.iadd, 1) := by decide +kernel
theorem dX12_findBlocks_52 : decode cX12_findBlocks 52 = .ok (.putfield 161, 3) := by decide +kernel
theorem dX12_findBlocks_55 : decode cX12_findBlocks 55 = .ok (.goto (-44), 3) := by decide +kernel
theorem dX12_findBlocks_58 : decode cX12_findBlocks 58 = .ok (.return_, 1) := by decide +kernel
theorem dX12_block_0 : decode cX12_block 0 = .ok (.aload_n 0, 1) := by decide +kernel
theorem dX12_block_1 : decode cX12_block 1 = .ok (.invokevirtual 167, 3) := by decide +kernel
theorem dX12_block_4 : decode cX12_block 4 = .ok (.iload_n 1, 1) := by decide +kernel
theorem dX12_block_5 : decode cX12_block 5 = .ok (.iconst 0, 1) := by decide +kernel
theorem dX12_block_6 : decode cX12_block 6 = .ok (.aload_n 0, 1) := by decide +kernel
theorem dX12_block_7 : decode cX12_block 7 = .ok (.getfield 161, 3) := by decide +kernel
theorem dX12_block_10 : decode cX12_block 10 = .ok (.iconst 1, 1) := by decide +kernel
theorem dX12_block_11 : decode cX12_block 11 = .ok (.isub, 1) := by decide +kernel
theorem dX12_block_12 : decode cX12_block 12 = .ok (.invokestatic 78, 3) := by decide +kernel
theorem dX12_block_15 : decode cX12_block 15 = .ok (.ifCond .eq 12, 3) := by decide +kernel
theorem dX12_block_18 : decode cX12_block 18 = .ok (.iload_n 2, 1) := by decide +kernel
theorem dX12_block_19 : decode cX12_block 19 = .ok (.iconst 0, 1) := by decide +kernel
theorem dX12_block_20 : decode cX12_block 20 = .ok (.iconst 2, 1) := by decide +kernel
theorem dX12_block_21 : decode cX12_block 21 = .ok (.invokestatic 78, 3) := by decide +kernel
theorem dX12_block_24 : decode cX12_block 24 = .ok (.ifCond .ne 5, 3) := by decide +kernel
theorem dX12_block_27 : decode cX12_block 27 = .ok (.iconst (-1), 1) := by decide +kernel
theorem dX12_block_28 : decode cX12_block 28 = .ok (.ireturn, 1) := by decide +kernel
theorem dX12_block_29 : decode cX12_block 29 = .ok (.iload_n 2, 1) := by decide +kernel
theorem dX12_block_30 : decode cX12_block 30 = .ok (.ifCond .ne 12, 3) := by decide +kernel
theorem dX12_block_33 : decode cX12_block 33 = .ok (.aload_n 0, 1) := by decide +kernel
theorem dX12_block_34 : decode cX12_block 34 = .ok (.getfield 68, 3) := by decide +kernel
theorem dX12_block_37 : decode cX12_block 37 = .ok (.iload_n 1, 1) := by decide +kernel
theorem dX12_block_38 : decode cX12_block 38 = .ok (.iaload, 1) := by decide +kernel
theorem dX12_block_39 : decode cX12_block 39 = .ok (.goto 31, 3) := by decide +kernel
theorem dX12_block_42 : decode cX12_block 42 = .ok (.iload_n 2, 1) := by decide +kernel
theorem dX12_block_43 : decode cX12_block 43 = .ok (.iconst 1, 1) := by decide +kernel
theorem dX12_block_44 : decode cX12_block 44 = .ok (.if_icmp .ne 16, 3) := by decide +kernel
theorem dX12_block_47 : decode cX12_block 47 = .ok (.aload_n 0, 1) := by decide +kernel
theorem dX12_block_48 : decode cX12_block 48 = .ok (.aload_n 0, 1) := by decide +kernel
theorem dX12_block_49 : decode cX12_block 49 = .ok (.getfield 68, 3) := by decide +kernel
theorem dX12_block_52 : decode cX12_block 52 = .ok (.iload_n 1, 1) := by decide +kernel
theorem dX12_block_53 : decode cX12_block 53 = .ok (.iaload, 1) := by decide +kernel
theorem dX12_block_54 : decode cX12_block 54 = .ok (.invokevirtual 155, 3) := by decide +kernel
theorem dX12_block_57 : decode cX12_block 57 = .ok (.goto 13, 3) := by decide +kernel
theorem dX12_block_60 : decode cX12_block 60 = .ok (.aload_n 0, 1) := by decide +kernel
theorem dX12_block_61 : decode cX12_block 61 = .ok (.aload_n 0, 1) := by decide +kernel
theorem dX12_block_62 : decode cX12_block 62 = .ok (.getfield 68, 3) := by decide +kernel
theorem dX12_block_65 : decode cX12_block 65 = .ok (.iload_n 1, 1) := by decide +kernel
theorem dX12_block_66 : decode cX12_block 66 = .ok (.iaload, 1) := by decide +kernel
theorem dX12_block_67 : decode cX12_block 67 = .ok (.invokevirtual 158, 3) := by decide +kernel
theorem dX12_block_70 : decode cX12_block 70 = .ok (.ireturn, 1) := by decide +kernel
theorem dX12_kindOf_0 : decode cX12_kindOf 0 = .ok (.aload_n 0, 1) := by decide +kernel
theorem dX12_kindOf_1 : decode cX12_kindOf 1 = .ok (.invokevirtual 110, 3) := by decide +kernel
theorem dX12_kindOf_4 : decode cX12_kindOf 4 = .ok (.aload_n 0, 1) := by decide +kernel
theorem dX12_kindOf_5 : decode cX12_kindOf 5 = .ok (.getfield 16, 3) := by decide +kernel
theorem dX12_kindOf_8 : decode cX12_kindOf 8 = .ok (.iload_n 1, 1) := by decide +kernel
theorem dX12_kindOf_9 : decode cX12_kindOf 9 = .ok (.iaload, 1) := by decide +kernel
theorem dX12_kindOf_10 : decode cX12_kindOf 10 = .ok (.ifCond .le 5, 3) := by decide +kernel
theorem dX12_kindOf_13 : decode cX12_kindOf 13 = .ok (.iconst 4, 1) := by decide +kernel
theorem dX12_kindOf_14 : decode cX12_kindOf 14 = .ok (.ireturn, 1) := by decide +kernel
theorem dX12_kindOf_15 : decode cX12_kindOf 15 = .ok (.aload_n 0, 1) := by decide +kernel
theorem dX12_kindOf_16 : decode cX12_kindOf 16 = .ok (.getfield 7, 3) := by decide +kernel
theorem dX12_kindOf_19 : decode cX12_kindOf 19 = .ok (.iload_n 1, 1) := by decide +kernel
theorem dX12_kindOf_20 : decode cX12_kindOf 20 = .ok (.iaload, 1) := by decide +kernel
theorem dX12_kindOf_21 : decode cX12_kindOf 21 = .ok (.iconst 1, 1) := by decide +kernel
theorem dX12_kindOf_22 : decode cX12_kindOf 22 = .ok (.if_icmp .ne 18, 3) := by decide +kernel
theorem dX12_kindOf_25 : decode cX12_kindOf 25 = .ok (.aload_n 0, 1) := by decide +kernel
theorem dX12_kindOf_26 : decode cX12_kindOf 26 = .ok (.getfield 22, 3) := by decide +kernel
theorem dX12_kindOf_29 : decode cX12_kindOf 29 = .ok (.iload_n 1, 1) := by decide +kernel
theorem dX12_kindOf_30 : decode cX12_kindOf 30 = .ok (.iaload, 1) := by decide +kernel
theorem dX12_kindOf_31 : decode cX12_kindOf 31 = .ok (.ifCond .ne 7, 3) := by decide +kernel
theorem dX12_kindOf_34 : decode cX12_kindOf 34 = .ok (.iconst 3, 1) := by decide +kernel
theorem dX12_kindOf_35 : decode cX12_kindOf 35 = .ok (.goto 4, 3) := by decide +kernel
theorem dX12_kindOf_38 : decode cX12_kindOf 38 = .ok (.iconst 1, 1) := by decide +kernel
theorem dX12_kindOf_39 : decode cX12_kindOf 39 = .ok (.ireturn, 1) := by decide +kernel
theorem dX12_kindOf_40 : decode cX12_kindOf 40 = .ok (.aload_n 0, 1) := by decide +kernel
theorem dX12_kindOf_41 : decode cX12_kindOf 41 = .ok (.getfield 13, 3) := by decide +kernel
theorem dX12_kindOf_44 : decode cX12_kindOf 44 = .ok (.iload_n 1, 1) := by decide +kernel
theorem dX12_kindOf_45 : decode cX12_kindOf 45 = .ok (.iaload, 1) := by decide +kernel
theorem dX12_kindOf_46 : decode cX12_kindOf 46 = .ok (.ifCond .ne 7, 3) := by decide +kernel
theorem dX12_kindOf_49 : decode cX12_kindOf 49 = .ok (.iconst 2, 1) := by decide +kernel
theorem dX12_kindOf_50 : decode cX12_kindOf 50 = .ok (.goto 4, 3) := by decide +kernel
theorem dX12_kindOf_53 : decode cX12_kindOf 53 = .ok (.iconst 0, 1) := by decide +kernel
theorem dX12_kindOf_54 : decode cX12_kindOf 54 = .ok (.ireturn, 1) := by decide +kernel
theorem dX12_behindOf_0 : decode cX12_behindOf 0 = .ok (.iconst 0, 1) := by decide +kernel
theorem dX12_behindOf_1 : decode cX12_behindOf 1 = .ok (.istore_n 2, 1) := by decide +kernel
theorem dX12_behindOf_2 : decode cX12_behindOf 2 = .ok (.iconst 0, 1) := by decide +kernel
theorem dX12_behindOf_3 : decode cX12_behindOf 3 = .ok (.istore_n 3, 1) := by decide +kernel
theorem dX12_behindOf_4 : decode cX12_behindOf 4 = .ok (.iload_n 3, 1) := by decide +kernel
theorem dX12_behindOf_5 : decode cX12_behindOf 5 = .ok (.aload_n 0, 1) := by decide +kernel
theorem dX12_behindOf_6 : decode cX12_behindOf 6 = .ok (.getfield 75, 3) := by decide +kernel
theorem dX12_behindOf_9 : decode cX12_behindOf 9 = .ok (.if_icmp .ge 30, 3) := by decide +kernel
theorem dX12_behindOf_12 : decode cX12_behindOf 12 = .ok (.iload_n 2, 1) := by decide +kernel
theorem dX12_behindOf_13 : decode cX12_behindOf 13 = .ok (.aload_n 0, 1) := by decide +kernel
theorem dX12_behindOf_14 : decode cX12_behindOf 14 = .ok (.getfield 22, 3) := by decide +kernel
theorem dX12_behindOf_17 : decode cX12_behindOf 17 = .ok (.iload_n 3, 1) := by decide +kernel
theorem dX12_behindOf_18 : decode cX12_behindOf 18 = .ok (.iaload, 1) := by decide +kernel
theorem dX12_behindOf_19 : decode cX12_behindOf 19 = .ok (.iload_n 1, 1) := by decide +kernel
theorem dX12_behindOf_20 : decode cX12_behindOf 20 = .ok (.invokestatic 82, 3) := by decide +kernel
theorem dX12_behindOf_23 : decode cX12_behindOf 23 = .ok (.ifCond .eq 7, 3) := by decide +kernel
theorem dX12_behindOf_26 : decode cX12_behindOf 26 = .ok (.iconst 1, 1) := by decide +kernel
theorem dX12_behindOf_27 : decode cX12_behindOf 27 = .ok (.goto 4, 3) := by decide +kernel
theorem dX12_behindOf_30 : decode cX12_behindOf 30 = .ok (.iconst 0, 1) := by decide +kernel
theorem dX12_behindOf_31 : decode cX12_behindOf 31 = .ok (.iadd, 1) := by decide +kernel
theorem dX12_behindOf_32 : decode cX12_behindOf 32 = .ok (.istore_n 2, 1) := by decide +kernel
theorem dX12_behindOf_33 : decode cX12_behindOf 33 = .ok (.iinc 3 1, 3) := by decide +kernel
theorem dX12_behindOf_36 : decode cX12_behindOf 36 = .ok (.goto (-32), 3) := by decide +kernel
theorem dX12_behindOf_39 : decode cX12_behindOf 39 = .ok (.iload_n 2, 1) := by decide +kernel
theorem dX12_behindOf_40 : decode cX12_behindOf 40 = .ok (.ireturn, 1) := by decide +kernel
theorem dX12_blockWith_0 : decode cX12_blockWith 0 = .ok (.aload_n 0, 1) := by decide +kernel
theorem dX12_blockWith_1 : decode cX12_blockWith 1 = .ok (.invokevirtual 167, 3) := by decide +kernel
theorem dX12_blockWith_4 : decode cX12_blockWith 4 = .ok (.iconst 0, 1) := by decide +kernel
theorem dX12_blockWith_5 : decode cX12_blockWith 5 = .ok (.istore_n 2, 1) := by decide +kernel
theorem dX12_blockWith_6 : decode cX12_blockWith 6 = .ok (.aload_n 0, 1) := by decide +kernel
theorem dX12_blockWith_7 : decode cX12_blockWith 7 = .ok (.getfield 68, 3) := by decide +kernel
theorem dX12_blockWith_10 : decode cX12_blockWith 10 = .ok (.iload_n 2, 1) := by decide +kernel
theorem dX12_blockWith_11 : decode cX12_blockWith 11 = .ok (.iaload, 1) := by decide +kernel
theorem dX12_blockWith_12 : decode cX12_blockWith 12 = .ok (.iload_n 1, 1) := by decide +kernel
theorem dX12_blockWith_13 : decode cX12_blockWith 13 = .ok (.invokestatic 82, 3) := by decide +kernel
theorem dX12_blockWith_16 : decode cX12_blockWith 16 = .ok (.ifCond .ne 9, 3) := by decide +kernel
theorem dX12_blockWith_19 : decode cX12_blockWith 19 = .ok (.iinc 2 1, 3) := by decide +kernel
theorem dX12_blockWith_22 : decode cX12_blockWith 22 = .ok (.goto (-16), 3) := by decide +kernel
theorem dX12_blockWith_25 : decode cX12_blockWith 25 = .ok (.iload_n 2, 1) := by decide +kernel
theorem dX12_blockWith_26 : decode cX12_blockWith 26 = .ok (.ireturn, 1) := by decide +kernel
theorem dX12_told_0 : decode cX12_told 0 = .ok (.aload_n 0, 1) := by decide +kernel
theorem dX12_told_1 : decode cX12_told 1 = .ok (.iload_n 1, 1) := by decide +kernel
theorem dX12_told_2 : decode cX12_told 2 = .ok (.invokevirtual 106, 3) := by decide +kernel
theorem dX12_told_5 : decode cX12_told 5 = .ok (.ifCond .ne 5, 3) := by decide +kernel
theorem dX12_told_8 : decode cX12_told 8 = .ok (.iconst (-1), 1) := by decide +kernel
theorem dX12_told_9 : decode cX12_told 9 = .ok (.ireturn, 1) := by decide +kernel
theorem dX12_told_10 : decode cX12_told 10 = .ok (.aload_n 0, 1) := by decide +kernel
theorem dX12_told_11 : decode cX12_told 11 = .ok (.invokevirtual 110, 3) := by decide +kernel
theorem dX12_told_14 : decode cX12_told 14 = .ok (.iload_n 2, 1) := by decide +kernel
theorem dX12_told_15 : decode cX12_told 15 = .ok (.tableswitch 100 0 7 #[45, 52, 59, 66, 72, 82, 88, 94], 45) := by decide +kernel
theorem dX12_told_60 : decode cX12_told 60 = .ok (.aload_n 0, 1) := by decide +kernel
theorem dX12_told_61 : decode cX12_told 61 = .ok (.getfield 7, 3) := by decide +kernel
theorem dX12_told_64 : decode cX12_told 64 = .ok (.iload_n 1, 1) := by decide +kernel
theorem dX12_told_65 : decode cX12_told 65 = .ok (.iaload, 1) := by decide +kernel
theorem dX12_told_66 : decode cX12_told 66 = .ok (.ireturn, 1) := by decide +kernel
theorem dX12_told_67 : decode cX12_told 67 = .ok (.aload_n 0, 1) := by decide +kernel
theorem dX12_told_68 : decode cX12_told 68 = .ok (.getfield 13, 3) := by decide +kernel
theorem dX12_told_71 : decode cX12_told 71 = .ok (.iload_n 1, 1) := by decide +kernel
theorem dX12_told_72 : decode cX12_told 72 = .ok (.iaload, 1) := by decide +kernel
theorem dX12_told_73 : decode cX12_told 73 = .ok (.ireturn, 1) := by decide +kernel
theorem dX12_told_74 : decode cX12_told 74 = .ok (.aload_n 0, 1) := by decide +kernel
theorem dX12_told_75 : decode cX12_told 75 = .ok (.getfield 16, 3) := by decide +kernel
theorem dX12_told_78 : decode cX12_told 78 = .ok (.iload_n 1, 1) := by decide +kernel
theorem dX12_told_79 : decode cX12_told 79 = .ok (.iaload, 1) := by decide +kernel
theorem dX12_told_80 : decode cX12_told 80 = .ok (.ireturn, 1) := by decide +kernel
theorem dX12_told_81 : decode cX12_told 81 = .ok (.aload_n 0, 1) := by decide +kernel
theorem dX12_told_82 : decode cX12_told 82 = .ok (.iload_n 1, 1) := by decide +kernel
theorem dX12_told_83 : decode cX12_told 83 = .ok (.invokevirtual 170, 3) := by decide +kernel
theorem dX12_told_86 : decode cX12_told 86 = .ok (.ireturn, 1) := by decide +kernel
theorem dX12_told_87 : decode cX12_told 87 = .ok (.aload_n 0, 1) := by decide +kernel
theorem dX12_told_88 : decode cX12_told 88 = .ok (.getfield 22, 3) := by decide +kernel
theorem dX12_told_91 : decode cX12_told 91 = .ok (.iload_n 1, 1) := by decide +kernel
theorem dX12_told_92 : decode cX12_told 92 = .ok (.iaload, 1) := by decide +kernel
theorem dX12_told_93 : decode cX12_told 93 = .ok (.invokestatic 173, 3) := by decide +kernel
theorem dX12_told_96 : decode cX12_told 96 = .ok (.ireturn, 1) := by decide +kernel
theorem dX12_told_97 : decode cX12_told 97 = .ok (.aload_n 0, 1) := by decide +kernel
theorem dX12_told_98 : decode cX12_told 98 = .ok (.iload_n 1, 1) := by decide +kernel
theorem dX12_told_99 : decode cX12_told 99 = .ok (.invokevirtual 176, 3) := by decide +kernel
theorem dX12_told_102 : decode cX12_told 102 = .ok (.ireturn, 1) := by decide +kernel
theorem dX12_told_103 : decode cX12_told 103 = .ok (.aload_n 0, 1) := by decide +kernel
theorem dX12_told_104 : decode cX12_told 104 = .ok (.iload_n 1, 1) := by decide +kernel
theorem dX12_told_105 : decode cX12_told 105 = .ok (.invokevirtual 113, 3) := by decide +kernel
theorem dX12_told_108 : decode cX12_told 108 = .ok (.ireturn, 1) := by decide +kernel
theorem dX12_told_109 : decode cX12_told 109 = .ok (.aload_n 0, 1) := by decide +kernel
theorem dX12_told_110 : decode cX12_told 110 = .ok (.iload_n 1, 1) := by decide +kernel
theorem dX12_told_111 : decode cX12_told 111 = .ok (.invokevirtual 179, 3) := by decide +kernel
theorem dX12_told_114 : decode cX12_told 114 = .ok (.ireturn, 1) := by decide +kernel
theorem dX12_told_115 : decode cX12_told 115 = .ok (.iconst (-1), 1) := by decide +kernel
theorem dX12_told_116 : decode cX12_told 116 = .ok (.ireturn, 1) := by decide +kernel
theorem dX12_ahead_0 : decode cX12_ahead 0 = .ok (.aload_n 0, 1) := by decide +kernel
theorem dX12_ahead_1 : decode cX12_ahead 1 = .ok (.iload_n 1, 1) := by decide +kernel
theorem dX12_ahead_2 : decode cX12_ahead 2 = .ok (.invokevirtual 106, 3) := by decide +kernel
theorem dX12_ahead_5 : decode cX12_ahead 5 = .ok (.ifCond .eq 11, 3) := by decide +kernel
theorem dX12_ahead_8 : decode cX12_ahead 8 = .ok (.aload_n 0, 1) := by decide +kernel
theorem dX12_ahead_9 : decode cX12_ahead 9 = .ok (.iload_n 2, 1) := by decide +kernel
theorem dX12_ahead_10 : decode cX12_ahead 10 = .ok (.invokevirtual 106, 3) := by decide +kernel
theorem dX12_ahead_13 : decode cX12_ahead 13 = .ok (.ifCond .ne 5, 3) := by decide +kernel
theorem dX12_ahead_16 : decode cX12_ahead 16 = .ok (.iconst (-1), 1) := by decide +kernel
theorem dX12_ahead_17 : decode cX12_ahead 17 = .ok (.ireturn, 1) := by decide +kernel
theorem dX12_ahead_18 : decode cX12_ahead 18 = .ok (.aload_n 0, 1) := by decide +kernel
theorem dX12_ahead_19 : decode cX12_ahead 19 = .ok (.invokevirtual 110, 3) := by decide +kernel
theorem dX12_ahead_22 : decode cX12_ahead 22 = .ok (.aload_n 0, 1) := by decide +kernel
theorem dX12_ahead_23 : decode cX12_ahead 23 = .ok (.getfield 19, 3) := by decide +kernel
theorem dX12_ahead_26 : decode cX12_ahead 26 = .ok (.iload_n 2, 1) := by decide +kernel
theorem dX12_ahead_27 : decode cX12_ahead 27 = .ok (.iaload, 1) := by decide +kernel
theorem dX12_ahead_28 : decode cX12_ahead 28 = .ok (.iload_n 1, 1) := by decide +kernel
theorem dX12_ahead_29 : decode cX12_ahead 29 = .ok (.invokestatic 82, 3) := by decide +kernel
theorem dX12_ahead_32 : decode cX12_ahead 32 = .ok (.ifCond .eq 7, 3) := by decide +kernel
theorem dX12_ahead_35 : decode cX12_ahead 35 = .ok (.iconst 2, 1) := by decide +kernel
theorem dX12_ahead_36 : decode cX12_ahead 36 = .ok (.goto 21, 3) := by decide +kernel
theorem dX12_ahead_39 : decode cX12_ahead 39 = .ok (.aload_n 0, 1) := by decide +kernel
theorem dX12_ahead_40 : decode cX12_ahead 40 = .ok (.getfield 22, 3) := by decide +kernel
theorem dX12_ahead_43 : decode cX12_ahead 43 = .ok (.iload_n 2, 1) := by decide +kernel
theorem dX12_ahead_44 : decode cX12_ahead 44 = .ok (.iaload, 1) := by decide +kernel
theorem dX12_ahead_45 : decode cX12_ahead 45 = .ok (.iload_n 1, 1) := by decide +kernel
theorem dX12_ahead_46 : decode cX12_ahead 46 = .ok (.invokestatic 82, 3) := by decide +kernel
theorem dX12_ahead_49 : decode cX12_ahead 49 = .ok (.ifCond .eq 7, 3) := by decide +kernel
theorem dX12_ahead_52 : decode cX12_ahead 52 = .ok (.iconst 1, 1) := by decide +kernel
theorem dX12_ahead_53 : decode cX12_ahead 53 = .ok (.goto 4, 3) := by decide +kernel
theorem dX12_ahead_56 : decode cX12_ahead 56 = .ok (.iconst 0, 1) := by decide +kernel
theorem dX12_ahead_57 : decode cX12_ahead 57 = .ok (.ireturn, 1) := by decide +kernel
theorem dX12_beginnings_0 : decode cX12_beginnings 0 = .ok (.aload_n 0, 1) := by decide +kernel
theorem dX12_beginnings_1 : decode cX12_beginnings 1 = .ok (.invokevirtual 110, 3) := by decide +kernel
theorem dX12_beginnings_4 : decode cX12_beginnings 4 = .ok (.iconst 0, 1) := by decide +kernel
theorem dX12_beginnings_5 : decode cX12_beginnings 5 = .ok (.istore_n 1, 1) := by decide +kernel
theorem dX12_beginnings_6 : decode cX12_beginnings 6 = .ok (.iconst 0, 1) := by decide +kernel
theorem dX12_beginnings_7 : decode cX12_beginnings 7 = .ok (.istore_n 2, 1) := by decide +kernel
theorem dX12_beginnings_8 : decode cX12_beginnings 8 = .ok (.iload_n 2, 1) := by decide +kernel
theorem dX12_beginnings_9 : decode cX12_beginnings 9 = .ok (.aload_n 0, 1) := by decide +kernel
theorem dX12_beginnings_10 : decode cX12_beginnings 10 = .ok (.invokevirtual 134, 3) := by decide +kernel
theorem dX12_beginnings_13 : decode cX12_beginnings 13 = .ok (.if_icmp .gt 26, 3) := by decide +kernel
theorem dX12_beginnings_16 : decode cX12_beginnings 16 = .ok (.iload_n 1, 1) := by decide +kernel
theorem dX12_beginnings_17 : decode cX12_beginnings 17 = .ok (.aload_n 0, 1) := by decide +kernel
theorem dX12_beginnings_18 : decode cX12_beginnings 18 = .ok (.iload_n 2, 1) := by decide +kernel
theorem dX12_beginnings_19 : decode cX12_beginnings 19 = .ok (.iconst 0, 1) := by decide +kernel
theorem dX12_beginnings_20 : decode cX12_beginnings 20 = .ok (.invokevirtual 152, 3) := by decide +kernel
theorem dX12_beginnings_23 : decode cX12_beginnings 23 = .ok (.ifCond .eq 7, 3) := by decide +kernel
theorem dX12_beginnings_26 : decode cX12_beginnings 26 = .ok (.iconst 1, 1) := by decide +kernel
theorem dX12_beginnings_27 : decode cX12_beginnings 27 = .ok (.goto 4, 3) := by decide +kernel
theorem dX12_beginnings_30 : decode cX12_beginnings 30 = .ok (.iconst 0, 1) := by decide +kernel
theorem dX12_beginnings_31 : decode cX12_beginnings 31 = .ok (.iadd, 1) := by decide +kernel
theorem dX12_beginnings_32 : decode cX12_beginnings 32 = .ok (.istore_n 1, 1) := by decide +kernel
theorem dX12_beginnings_33 : decode cX12_beginnings 33 = .ok (.iinc 2 1, 3) := by decide +kernel
theorem dX12_beginnings_36 : decode cX12_beginnings 36 = .ok (.goto (-28), 3) := by decide +kernel
theorem dX12_beginnings_39 : decode cX12_beginnings 39 = .ok (.iload_n 1, 1) := by decide +kernel
theorem dX12_beginnings_40 : decode cX12_beginnings 40 = .ok (.ireturn, 1) := by decide +kernel
theorem dX12_pairs_0 : decode cX12_pairs 0 = .ok (.iconst 0, 1) := by decide +kernel
theorem dX12_pairs_1 : decode cX12_pairs 1 = .ok (.istore_n 1, 1) := by decide +kernel
theorem dX12_pairs_2 : decode cX12_pairs 2 = .ok (.iconst 0, 1) := by decide +kernel
theorem dX12_pairs_3 : decode cX12_pairs 3 = .ok (.istore_n 2, 1) := by decide +kernel
theorem dX12_pairs_4 : decode cX12_pairs 4 = .ok (.iload_n 2, 1) := by decide +kernel
theorem dX12_pairs_5 : decode cX12_pairs 5 = .ok (.aload_n 0, 1) := by decide +kernel
theorem dX12_pairs_6 : decode cX12_pairs 6 = .ok (.getfield 75, 3) := by decide +kernel
theorem dX12_pairs_9 : decode cX12_pairs 9 = .ok (.if_icmp .ge 21, 3) := by decide +kernel
theorem dX12_pairs_12 : decode cX12_pairs 12 = .ok (.iload_n 1, 1) := by decide +kernel
theorem dX12_pairs_13 : decode cX12_pairs 13 = .ok (.aload_n 0, 1) := by decide +kernel
theorem dX12_pairs_14 : decode cX12_pairs 14 = .ok (.getfield 19, 3) := by decide +kernel
theorem dX12_pairs_17 : decode cX12_pairs 17 = .ok (.iload_n 2, 1) := by decide +kernel
theorem dX12_pairs_18 : decode cX12_pairs 18 = .ok (.iaload, 1) := by decide +kernel
theorem dX12_pairs_19 : decode cX12_pairs 19 = .ok (.invokestatic 173, 3) := by decide +kernel
theorem dX12_pairs_22 : decode cX12_pairs 22 = .ok (.iadd, 1) := by decide +kernel
theorem dX12_pairs_23 : decode cX12_pairs 23 = .ok (.istore_n 1, 1) := by decide +kernel
theorem dX12_pairs_24 : decode cX12_pairs 24 = .ok (.iinc 2 1, 3) := by decide +kernel
theorem dX12_pairs_27 : decode cX12_pairs 27 = .ok (.goto (-23), 3) := by decide +kernel
theorem dX12_pairs_30 : decode cX12_pairs 30 = .ok (.iload_n 1, 1) := by decide +kernel
theorem dX12_pairs_31 : decode cX12_pairs 31 = .ok (.ireturn, 1) := by decide +kernel
theorem dX12_count_0 : decode cX12_count 0 = .ok (.iload_n 1, 1) := by decide +kernel
theorem dX12_count_1 : decode cX12_count 1 = .ok (.tableswitch 82 0 6 #[43, 48, 53, 58, 67, 72, 77], 43) := by decide +kernel
theorem dX12_count_44 : decode cX12_count 44 = .ok (.aload_n 0, 1) := by decide +kernel
theorem dX12_count_45 : decode cX12_count 45 = .ok (.getfield 75, 3) := by decide +kernel
theorem dX12_count_48 : decode cX12_count 48 = .ok (.ireturn, 1) := by decide +kernel
theorem dX12_count_49 : decode cX12_count 49 = .ok (.aload_n 0, 1) := by decide +kernel
theorem dX12_count_50 : decode cX12_count 50 = .ok (.invokevirtual 182, 3) := by decide +kernel
theorem dX12_count_53 : decode cX12_count 53 = .ok (.ireturn, 1) := by decide +kernel
theorem dX12_count_54 : decode cX12_count 54 = .ok (.aload_n 0, 1) := by decide +kernel
theorem dX12_count_55 : decode cX12_count 55 = .ok (.getfield 93, 3) := by decide +kernel
theorem dX12_count_58 : decode cX12_count 58 = .ok (.ireturn, 1) := by decide +kernel
theorem dX12_count_59 : decode cX12_count 59 = .ok (.aload_n 0, 1) := by decide +kernel
theorem dX12_count_60 : decode cX12_count 60 = .ok (.invokevirtual 167, 3) := by decide +kernel
theorem dX12_count_63 : decode cX12_count 63 = .ok (.aload_n 0, 1) := by decide +kernel
theorem dX12_count_64 : decode cX12_count 64 = .ok (.getfield 161, 3) := by decide +kernel
theorem dX12_count_67 : decode cX12_count 67 = .ok (.ireturn, 1) := by decide +kernel
theorem dX12_count_68 : decode cX12_count 68 = .ok (.aload_n 0, 1) := by decide +kernel
theorem dX12_count_69 : decode cX12_count 69 = .ok (.invokevirtual 185, 3) := by decide +kernel
theorem dX12_count_72 : decode cX12_count 72 = .ok (.ireturn, 1) := by decide +kernel
theorem dX12_count_73 : decode cX12_count 73 = .ok (.aload_n 0, 1) := by decide +kernel
theorem dX12_count_74 : decode cX12_count 74 = .ok (.getfield 188, 3) := by decide +kernel
theorem dX12_count_77 : decode cX12_count 77 = .ok (.ireturn, 1) := by decide +kernel
theorem dX12_count_78 : decode cX12_count 78 = .ok (.aload_n 0, 1) := by decide +kernel
theorem dX12_count_79 : decode cX12_count 79 = .ok (.getfield 86, 3) := by decide +kernel
theorem dX12_count_82 : decode cX12_count 82 = .ok (.ireturn, 1) := by decide +kernel
theorem dX12_count_83 : decode cX12_count 83 = .ok (.iconst (-1), 1) := by decide +kernel
theorem dX12_count_84 : decode cX12_count 84 = .ok (.ireturn, 1) := by decide +kernel
theorem dX12_apart_0 : decode cX12_apart 0 = .ok (.iload_n 1, 1) := by decide +kernel
theorem dX12_apart_1 : decode cX12_apart 1 = .ok (.iload_n 2, 1) := by decide +kernel
theorem dX12_apart_2 : decode cX12_apart 2 = .ok (.if_icmp .eq 33, 3) := by decide +kernel
theorem dX12_apart_5 : decode cX12_apart 5 = .ok (.aload_n 0, 1) := by decide +kernel
theorem dX12_apart_6 : decode cX12_apart 6 = .ok (.getfield 22, 3) := by decide +kernel
theorem dX12_apart_9 : decode cX12_apart 9 = .ok (.iload_n 1, 1) := by decide +kernel
theorem dX12_apart_10 : decode cX12_apart 10 = .ok (.iaload, 1) := by decide +kernel
theorem dX12_apart_11 : decode cX12_apart 11 = .ok (.iload_n 2, 1) := by decide +kernel
theorem dX12_apart_12 : decode cX12_apart 12 = .ok (.invokestatic 82, 3) := by decide +kernel
theorem dX12_apart_15 : decode cX12_apart 15 = .ok (.ifCond .ne 20, 3) := by decide +kernel
theorem dX12_apart_18 : decode cX12_apart 18 = .ok (.aload_n 0, 1) := by decide +kernel
theorem dX12_apart_19 : decode cX12_apart 19 = .ok (.getfield 22, 3) := by decide +kernel
theorem dX12_apart_22 : decode cX12_apart 22 = .ok (.iload_n 2, 1) := by decide +kernel
theorem dX12_apart_23 : decode cX12_apart 23 = .ok (.iaload, 1) := by decide +kernel
theorem dX12_apart_24 : decode cX12_apart 24 = .ok (.iload_n 1, 1) := by decide +kernel
theorem dX12_apart_25 : decode cX12_apart 25 = .ok (.invokestatic 82, 3) := by decide +kernel
theorem dX12_apart_28 : decode cX12_apart 28 = .ok (.ifCond .ne 7, 3) := by decide +kernel
theorem dX12_apart_31 : decode cX12_apart 31 = .ok (.iconst 1, 1) := by decide +kernel
theorem dX12_apart_32 : decode cX12_apart 32 = .ok (.goto 4, 3) := by decide +kernel
theorem dX12_apart_35 : decode cX12_apart 35 = .ok (.iconst 0, 1) := by decide +kernel
theorem dX12_apart_36 : decode cX12_apart 36 = .ok (.ireturn, 1) := by decide +kernel
theorem dX12_four_0 : decode cX12_four 0 = .ok (.aload_n 0, 1) := by decide +kernel
theorem dX12_four_1 : decode cX12_four 1 = .ok (.invokevirtual 110, 3) := by decide +kernel
theorem dX12_four_4 : decode cX12_four 4 = .ok (.iconst 0, 1) := by decide +kernel
theorem dX12_four_5 : decode cX12_four 5 = .ok (.istore_n 1, 1) := by decide +kernel
theorem dX12_four_6 : decode cX12_four 6 = .ok (.iload_n 1, 1) := by decide +kernel
theorem dX12_four_7 : decode cX12_four 7 = .ok (.aload_n 0, 1) := by decide +kernel
theorem dX12_four_8 : decode cX12_four 8 = .ok (.getfield 75, 3) := by decide +kernel
theorem dX12_four_11 : decode cX12_four 11 = .ok (.if_icmp .ge 157, 3) := by decide +kernel
theorem dX12_four_14 : decode cX12_four 14 = .ok (.iconst 0, 1) := by decide +kernel
theorem dX12_four_15 : decode cX12_four 15 = .ok (.istore_n 2, 1) := by decide +kernel
theorem dX12_four_16 : decode cX12_four 16 = .ok (.iload_n 2, 1) := by decide +kernel
theorem dX12_four_17 : decode cX12_four 17 = .ok (.aload_n 0, 1) := by decide +kernel
theorem dX12_four_18 : decode cX12_four 18 = .ok (.getfield 75, 3) := by decide +kernel
theorem dX12_four_21 : decode cX12_four 21 = .ok (.if_icmp .ge 141, 3) := by decide +kernel
theorem dX12_four_24 : decode cX12_four 24 = .ok (.iconst 0, 1) := by decide +kernel
theorem dX12_four_25 : decode cX12_four 25 = .ok (.istore_n 3, 1) := by decide +kernel
theorem dX12_four_26 : decode cX12_four 26 = .ok (.iload_n 3, 1) := by decide +kernel
theorem dX12_four_27 : decode cX12_four 27 = .ok (.aload_n 0, 1) := by decide +kernel
theorem dX12_four_28 : decode cX12_four 28 = .ok (.getfield 75, 3) := by decide +kernel
theorem dX12_four_31 : decode cX12_four 31 = .ok (.if_icmp .ge 125, 3) := by decide +kernel
theorem dX12_four_34 : decode cX12_four 34 = .ok (.iconst 0, 1) := by decide +kernel
theorem dX12_four_35 : decode cX12_four 35 = .ok (.istore 4, 2) := by decide +kernel
theorem dX12_four_37 : decode cX12_four 37 = .ok (.iload 4, 2) := by decide +kernel
theorem dX12_four_39 : decode cX12_four 39 = .ok (.aload_n 0, 1) := by decide +kernel
theorem dX12_four_40 : decode cX12_four 40 = .ok (.getfield 75, 3) := by decide +kernel
theorem dX12_four_43 : decode cX12_four 43 = .ok (.if_icmp .ge 107, 3) := by decide +kernel
theorem dX12_four_46 : decode cX12_four 46 = .ok (.aload_n 0, 1) := by decide +kernel
theorem dX12_four_47 : decode cX12_four 47 = .ok (.getfield 22, 3) := by decide +kernel
theorem dX12_four_50 : decode cX12_four 50 = .ok (.iload_n 3, 1) := by decide +kernel
theorem dX12_four_51 : decode cX12_four 51 = .ok (.iaload, 1) := by decide +kernel
theorem dX12_four_52 : decode cX12_four 52 = .ok (.iload_n 1, 1) := by decide +kernel
theorem dX12_four_53 : decode cX12_four 53 = .ok (.invokestatic 82, 3) := by decide +kernel
theorem dX12_four_56 : decode cX12_four 56 = .ok (.ifCond .eq 63, 3) := by decide +kernel
theorem dX12_four_59 : decode cX12_four 59 = .ok (.aload_n 0, 1) := by decide +kernel
theorem dX12_four_60 : decode cX12_four 60 = .ok (.getfield 22, 3) := by decide +kernel
theorem dX12_four_63 : decode cX12_four 63 = .ok (.iload_n 3, 1) := by decide +kernel
theorem dX12_four_64 : decode cX12_four 64 = .ok (.iaload, 1) := by decide +kernel
theorem dX12_four_65 : decode cX12_four 65 = .ok (.iload_n 2, 1) := by decide +kernel
theorem dX12_four_66 : decode cX12_four 66 = .ok (.invokestatic 82, 3) := by decide +kernel
theorem dX12_four_69 : decode cX12_four 69 = .ok (.ifCond .eq 50, 3) := by decide +kernel
theorem dX12_four_72 : decode cX12_four 72 = .ok (.aload_n 0, 1) := by decide +kernel
theorem dX12_four_73 : decode cX12_four 73 = .ok (.getfield 22, 3) := by decide +kernel
theorem dX12_four_76 : decode cX12_four 76 = .ok (.iload 4, 2) := by decide +kernel
theorem dX12_four_78 : decode cX12_four 78 = .ok (.iaload, 1) := by decide +kernel
theorem dX12_four_79 : decode cX12_four 79 = .ok (.iload_n 2, 1) := by decide +kernel
theorem dX12_four_80 : decode cX12_four 80 = .ok (.invokestatic 82, 3) := by decide +kernel
theorem dX12_four_83 : decode cX12_four 83 = .ok (.ifCond .eq 36, 3) := by decide +kernel
theorem dX12_four_86 : decode cX12_four 86 = .ok (.aload_n 0, 1) := by decide +kernel
theorem dX12_four_87 : decode cX12_four 87 = .ok (.iload_n 1, 1) := by decide +kernel
theorem dX12_four_88 : decode cX12_four 88 = .ok (.iload_n 2, 1) := by decide +kernel
theorem dX12_four_89 : decode cX12_four 89 = .ok (.invokevirtual 191, 3) := by decide +kernel
theorem dX12_four_92 : decode cX12_four 92 = .ok (.ifCond .eq 27, 3) := by decide +kernel
theorem dX12_four_95 : decode cX12_four 95 = .ok (.aload_n 0, 1) := by decide +kernel
theorem dX12_four_96 : decode cX12_four 96 = .ok (.iload_n 1, 1) := by decide +kernel
theorem dX12_four_97 : decode cX12_four 97 = .ok (.iload 4, 2) := by decide +kernel
theorem dX12_four_99 : decode cX12_four 99 = .ok (.invokevirtual 191, 3) := by decide +kernel
theorem dX12_four_102 : decode cX12_four 102 = .ok (.ifCond .eq 17, 3) := by decide +kernel
theorem dX12_four_105 : decode cX12_four 105 = .ok (.aload_n 0, 1) := by decide +kernel
theorem dX12_four_106 : decode cX12_four 106 = .ok (.iload_n 3, 1) := by decide +kernel
theorem dX12_four_107 : decode cX12_four 107 = .ok (.iload 4, 2) := by decide +kernel
theorem dX12_four_109 : decode cX12_four 109 = .ok (.invokevirtual 191, 3) := by decide +kernel
theorem dX12_four_112 : decode cX12_four 112 = .ok (.ifCond .eq 7, 3) := by decide +kernel
theorem dX12_four_115 : decode cX12_four 115 = .ok (.iconst 1, 1) := by decide +kernel
theorem dX12_four_116 : decode cX12_four 116 = .ok (.goto 4, 3) := by decide +kernel
theorem dX12_four_119 : decode cX12_four 119 = .ok (.iconst 0, 1) := by decide +kernel
theorem dX12_four_120 : decode cX12_four 120 = .ok (.istore 5, 2) := by decide +kernel
theorem dX12_four_122 : decode cX12_four 122 = .ok (.iload 5, 2) := by decide +kernel
theorem dX12_four_124 : decode cX12_four 124 = .ok (.ifCond .eq 20, 3) := by decide +kernel
theorem dX12_four_127 : decode cX12_four 127 = .ok (.iload_n 1, 1) := by decide +kernel
theorem dX12_four_128 : decode cX12_four 128 = .ok (.iload_n 2, 1) := by decide +kernel
theorem dX12_four_129 : decode cX12_four 129 = .ok (.iconst 4, 1) := by decide +kernel
theorem dX12_four_130 : decode cX12_four 130 = .ok (.ishl, 1) := by decide +kernel
theorem dX12_four_131 : decode cX12_four 131 = .ok (.ior, 1) := by decide +kernel
theorem dX12_four_132 : decode cX12_four 132 = .ok (.iload_n 3, 1) := by decide +kernel
theorem dX12_four_133 : decode cX12_four 133 = .ok (.bipush 8, 2) := by decide +kernel
theorem dX12_four_135 : decode cX12_four 135 = .ok (.ishl, 1) := by decide +kernel
theorem dX12_four_136 : decode cX12_four 136 = .ok (.ior, 1) := by decide +kernel
theorem dX12_four_137 : decode cX12_four 137 = .ok (.iload 4, 2) := by decide +kernel
theorem dX12_four_139 : decode cX12_four 139 = .ok (.bipush 12, 2) := by decide +kernel
theorem dX12_four_141 : decode cX12_four 141 = .ok (.ishl, 1) := by decide +kernel
theorem dX12_four_142 : decode cX12_four 142 = .ok (.ior, 1) := by decide +kernel
theorem dX12_four_143 : decode cX12_four 143 = .ok (.ireturn, 1) := by decide +kernel
theorem dX12_four_144 : decode cX12_four 144 = .ok (.iinc 4 1, 3) := by decide +kernel
theorem dX12_four_147 : decode cX12_four 147 = .ok (.goto (-110), 3) := by decide +kernel
theorem dX12_four_150 : decode cX12_four 150 = .ok (.iinc 3 1, 3) := by decide +kernel
theorem dX12_four_153 : decode cX12_four 153 = .ok (.goto (-127), 3) := by decide +kernel
theorem dX12_four_156 : decode cX12_four 156 = .ok (.iinc 2 1, 3) := by decide +kernel
theorem dX12_four_159 : decode cX12_four 159 = .ok (.goto (-143), 3) := by decide +kernel
theorem dX12_four_162 : decode cX12_four 162 = .ok (.iinc 1 1, 3) := by decide +kernel
theorem dX12_four_165 : decode cX12_four 165 = .ok (.goto (-159), 3) := by decide +kernel
theorem dX12_four_168 : decode cX12_four 168 = .ok (.iconst (-1), 1) := by decide +kernel
theorem dX12_four_169 : decode cX12_four 169 = .ok (.ireturn, 1) := by decide +kernel
theorem dX12_series_0 : decode cX12_series 0 = .ok (.aload_n 0, 1) := by decide +kernel
theorem dX12_series_1 : decode cX12_series 1 = .ok (.invokevirtual 194, 3) := by decide +kernel
theorem dX12_series_4 : decode cX12_series 4 = .ok (.iconst (-1), 1) := by decide +kernel
theorem dX12_series_5 : decode cX12_series 5 = .ok (.if_icmp .ne 7, 3) := by decide +kernel
theorem dX12_series_8 : decode cX12_series 8 = .ok (.iconst 1, 1) := by decide +kernel
theorem dX12_series_9 : decode cX12_series 9 = .ok (.goto 4, 3) := by decide +kernel
theorem dX12_series_12 : decode cX12_series 12 = .ok (.iconst 0, 1) := by decide +kernel
theorem dX12_series_13 : decode cX12_series 13 = .ok (.ireturn, 1) := by decide +kernel
theorem dX12_shows_0 : decode cX12_shows 0 = .ok (.aload_n 0, 1) := by decide +kernel
theorem dX12_shows_1 : decode cX12_shows 1 = .ok (.invokevirtual 194, 3) := by decide +kernel
theorem dX12_shows_4 : decode cX12_shows 4 = .ok (.istore_n 2, 1) := by decide +kernel
theorem dX12_shows_5 : decode cX12_shows 5 = .ok (.iload_n 2, 1) := by decide +kernel
theorem dX12_shows_6 : decode cX12_shows 6 = .ok (.iconst (-1), 1) := by decide +kernel
theorem dX12_shows_7 : decode cX12_shows 7 = .ok (.if_icmp .eq 12, 3) := by decide +kernel
theorem dX12_shows_10 : decode cX12_shows 10 = .ok (.iload_n 1, 1) := by decide +kernel
theorem dX12_shows_11 : decode cX12_shows 11 = .ok (.iconst 0, 1) := by decide +kernel
theorem dX12_shows_12 : decode cX12_shows 12 = .ok (.iconst 3, 1) := by decide +kernel
theorem dX12_shows_13 : decode cX12_shows 13 = .ok (.invokestatic 78, 3) := by decide +kernel
theorem dX12_shows_16 : decode cX12_shows 16 = .ok (.ifCond .ne 7, 3) := by decide +kernel
theorem dX12_shows_19 : decode cX12_shows 19 = .ok (.iconst (-1), 1) := by decide +kernel
theorem dX12_shows_20 : decode cX12_shows 20 = .ok (.goto 11, 3) := by decide +kernel
theorem dX12_shows_23 : decode cX12_shows 23 = .ok (.iload_n 2, 1) := by decide +kernel
theorem dX12_shows_24 : decode cX12_shows 24 = .ok (.iconst 4, 1) := by decide +kernel
theorem dX12_shows_25 : decode cX12_shows 25 = .ok (.iload_n 1, 1) := by decide +kernel
theorem dX12_shows_26 : decode cX12_shows 26 = .ok (.imul, 1) := by decide +kernel
theorem dX12_shows_27 : decode cX12_shows 27 = .ok (.ishr, 1) := by decide +kernel
theorem dX12_shows_28 : decode cX12_shows 28 = .ok (.bipush 15, 2) := by decide +kernel
theorem dX12_shows_30 : decode cX12_shows 30 = .ok (.iand, 1) := by decide +kernel
theorem dX12_shows_31 : decode cX12_shows 31 = .ok (.ireturn, 1) := by decide +kernel
theorem dX12_ran_0 : decode cX12_ran 0 = .ok (.aload_n 0, 1) := by decide +kernel
theorem dX12_ran_1 : decode cX12_ran 1 = .ok (.getfield 188, 3) := by decide +kernel
theorem dX12_ran_4 : decode cX12_ran 4 = .ok (.bipush 50, 2) := by decide +kernel
theorem dX12_ran_6 : decode cX12_ran 6 = .ok (.if_icmp .ge 13, 3) := by decide +kernel
theorem dX12_ran_9 : decode cX12_ran 9 = .ok (.aload_n 0, 1) := by decide +kernel
theorem dX12_ran_10 : decode cX12_ran 10 = .ok (.getfield 44, 3) := by decide +kernel
theorem dX12_ran_13 : decode cX12_ran 13 = .ok (.aload_n 0, 1) := by decide +kernel
theorem dX12_ran_14 : decode cX12_ran 14 = .ok (.getfield 188, 3) := by decide +kernel
theorem dX12_ran_17 : decode cX12_ran 17 = .ok (.iload_n 1, 1) := by decide +kernel
theorem dX12_ran_18 : decode cX12_ran 18 = .ok (.iastore, 1) := by decide +kernel
theorem dX12_ran_19 : decode cX12_ran 19 = .ok (.aload_n 0, 1) := by decide +kernel
theorem dX12_ran_20 : decode cX12_ran 20 = .ok (.dup, 1) := by decide +kernel
theorem dX12_ran_21 : decode cX12_ran 21 = .ok (.getfield 188, 3) := by decide +kernel
theorem dX12_ran_24 : decode cX12_ran 24 = .ok (.iconst 1, 1) := by decide +kernel
theorem dX12_ran_25 : decode cX12_ran 25 = .ok (.iadd, 1) := by decide +kernel
theorem dX12_ran_26 : decode cX12_ran 26 = .ok (.putfield 188, 3) := by decide +kernel
theorem dX12_ran_29 : decode cX12_ran 29 = .ok (.return_, 1) := by decide +kernel
theorem dX12_jobLast_0 : decode cX12_jobLast 0 = .ok (.aload_n 0, 1) := by decide +kernel
theorem dX12_jobLast_1 : decode cX12_jobLast 1 = .ok (.bipush 10, 2) := by decide +kernel
theorem dX12_jobLast_3 : decode cX12_jobLast 3 = .ok (.invokevirtual 197, 3) := by decide +kernel
theorem dX12_jobLast_6 : decode cX12_jobLast 6 = .ok (.iload_n 2, 1) := by decide +kernel
theorem dX12_jobLast_7 : decode cX12_jobLast 7 = .ok (.aload_n 0, 1) := by decide +kernel
theorem dX12_jobLast_8 : decode cX12_jobLast 8 = .ok (.getfield 7, 3) := by decide +kernel
theorem dX12_jobLast_11 : decode cX12_jobLast 11 = .ok (.iload_n 1, 1) := by decide +kernel
theorem dX12_jobLast_12 : decode cX12_jobLast 12 = .ok (.iaload, 1) := by decide +kernel
theorem dX12_jobLast_13 : decode cX12_jobLast 13 = .ok (.iadd, 1) := by decide +kernel
theorem dX12_jobLast_14 : decode cX12_jobLast 14 = .ok (.ireturn, 1) := by decide +kernel
theorem dX12_unitLast_0 : decode cX12_unitLast 0 = .ok (.aload_n 0, 1) := by decide +kernel
theorem dX12_unitLast_1 : decode cX12_unitLast 1 = .ok (.bipush 20, 2) := by decide +kernel
theorem dX12_unitLast_3 : decode cX12_unitLast 3 = .ok (.invokevirtual 197, 3) := by decide +kernel
theorem dX12_unitLast_6 : decode cX12_unitLast 6 = .ok (.aload_n 0, 1) := by decide +kernel
theorem dX12_unitLast_7 : decode cX12_unitLast 7 = .ok (.iload_n 1, 1) := by decide +kernel
theorem dX12_unitLast_8 : decode cX12_unitLast 8 = .ok (.iload_n 2, 1) := by decide +kernel
theorem dX12_unitLast_9 : decode cX12_unitLast 9 = .ok (.invokevirtual 200, 3) := by decide +kernel
theorem dX12_unitLast_12 : decode cX12_unitLast 12 = .ok (.iconst 2, 1) := by decide +kernel
theorem dX12_unitLast_13 : decode cX12_unitLast 13 = .ok (.imul, 1) := by decide +kernel
theorem dX12_unitLast_14 : decode cX12_unitLast 14 = .ok (.ireturn, 1) := by decide +kernel
theorem dX12_jobFollow_0 : decode cX12_jobFollow 0 = .ok (.aload_n 0, 1) := by decide +kernel
theorem dX12_jobFollow_1 : decode cX12_jobFollow 1 = .ok (.bipush 12, 2) := by decide +kernel
theorem dX12_jobFollow_3 : decode cX12_jobFollow 3 = .ok (.invokevirtual 197, 3) := by decide +kernel
theorem dX12_jobFollow_6 : decode cX12_jobFollow 6 = .ok (.iload_n 2, 1) := by decide +kernel
theorem dX12_jobFollow_7 : decode cX12_jobFollow 7 = .ok (.aload_n 0, 1) := by decide +kernel
theorem dX12_jobFollow_8 : decode cX12_jobFollow 8 = .ok (.getfield 22, 3) := by decide +kernel
theorem dX12_jobFollow_11 : decode cX12_jobFollow 11 = .ok (.iload_n 1, 1) := by decide +kernel
theorem dX12_jobFollow_12 : decode cX12_jobFollow 12 = .ok (.iaload, 1) := by decide +kernel
theorem dX12_jobFollow_13 : decode cX12_jobFollow 13 = .ok (.invokestatic 173, 3) := by decide +kernel
theorem dX12_jobFollow_16 : decode cX12_jobFollow 16 = .ok (.iadd, 1) := by decide +kernel
theorem dX12_jobFollow_17 : decode cX12_jobFollow 17 = .ok (.ireturn, 1) := by decide +kernel
theorem dX12_last_0 : decode cX12_last 0 = .ok (.iload_n 2, 1) := by decide +kernel
theorem dX12_last_1 : decode cX12_last 1 = .ok (.tableswitch 82 1 4 #[31, 82, 38, 62], 31) := by decide +kernel
theorem dX12_last_32 : decode cX12_last 32 = .ok (.aload_n 0, 1) := by decide +kernel
theorem dX12_last_33 : decode cX12_last 33 = .ok (.iload_n 1, 1) := by decide +kernel
theorem dX12_last_34 : decode cX12_last 34 = .ok (.iload_n 3, 1) := by decide +kernel
theorem dX12_last_35 : decode cX12_last 35 = .ok (.invokevirtual 203, 3) := by decide +kernel
theorem dX12_last_38 : decode cX12_last 38 = .ok (.ireturn, 1) := by decide +kernel
theorem dX12_last_39 : decode cX12_last 39 = .ok (.aload_n 0, 1) := by decide +kernel
theorem dX12_last_40 : decode cX12_last 40 = .ok (.bipush 41, 2) := by decide +kernel
theorem dX12_last_42 : decode cX12_last 42 = .ok (.invokevirtual 197, 3) := by decide +kernel
theorem dX12_last_45 : decode cX12_last 45 = .ok (.aload_n 0, 1) := by decide +kernel
theorem dX12_last_46 : decode cX12_last 46 = .ok (.iload_n 1, 1) := by decide +kernel
theorem dX12_last_47 : decode cX12_last 47 = .ok (.iload_n 3, 1) := by decide +kernel
theorem dX12_last_48 : decode cX12_last 48 = .ok (.invokevirtual 203, 3) := by decide +kernel
theorem dX12_last_51 : decode cX12_last 51 = .ok (.istore 4, 2) := by decide +kernel
theorem dX12_last_53 : decode cX12_last 53 = .ok (.iload 4, 2) := by decide +kernel
theorem dX12_last_55 : decode cX12_last 55 = .ok (.aload_n 0, 1) := by decide +kernel
theorem dX12_last_56 : decode cX12_last 56 = .ok (.iload_n 1, 1) := by decide +kernel
theorem dX12_last_57 : decode cX12_last 57 = .ok (.iload_n 3, 1) := by decide +kernel
theorem dX12_last_58 : decode cX12_last 58 = .ok (.invokevirtual 206, 3) := by decide +kernel
theorem dX12_last_61 : decode cX12_last 61 = .ok (.iadd, 1) := by decide +kernel
theorem dX12_last_62 : decode cX12_last 62 = .ok (.ireturn, 1) := by decide +kernel
theorem dX12_last_63 : decode cX12_last 63 = .ok (.aload_n 0, 1) := by decide +kernel
theorem dX12_last_64 : decode cX12_last 64 = .ok (.bipush 50, 2) := by decide +kernel
theorem dX12_last_66 : decode cX12_last 66 = .ok (.invokevirtual 197, 3) := by decide +kernel
theorem dX12_last_69 : decode cX12_last 69 = .ok (.aload_n 0, 1) := by decide +kernel
theorem dX12_last_70 : decode cX12_last 70 = .ok (.iload_n 1, 1) := by decide +kernel
theorem dX12_last_71 : decode cX12_last 71 = .ok (.iload_n 3, 1) := by decide +kernel
theorem dX12_last_72 : decode cX12_last 72 = .ok (.aload_n 0, 1) := by decide +kernel
theorem dX12_last_73 : decode cX12_last 73 = .ok (.getfield 16, 3) := by decide +kernel
theorem dX12_last_76 : decode cX12_last 76 = .ok (.iload_n 1, 1) := by decide +kernel
theorem dX12_last_77 : decode cX12_last 77 = .ok (.iaload, 1) := by decide +kernel
theorem dX12_last_78 : decode cX12_last 78 = .ok (.iadd, 1) := by decide +kernel
theorem dX12_last_79 : decode cX12_last 79 = .ok (.invokevirtual 200, 3) := by decide +kernel
theorem dX12_last_82 : decode cX12_last 82 = .ok (.ireturn, 1) := by decide +kernel
theorem dX12_last_83 : decode cX12_last 83 = .ok (.aload_n 0, 1) := by decide +kernel
theorem dX12_last_84 : decode cX12_last 84 = .ok (.iload_n 1, 1) := by decide +kernel
theorem dX12_last_85 : decode cX12_last 85 = .ok (.iload_n 3, 1) := by decide +kernel
theorem dX12_last_86 : decode cX12_last 86 = .ok (.invokevirtual 200, 3) := by decide +kernel
theorem dX12_last_89 : decode cX12_last 89 = .ok (.ireturn, 1) := by decide +kernel
theorem dX12_weigh_0 : decode cX12_weigh 0 = .ok (.iload_n 2, 1) := by decide +kernel
theorem dX12_weigh_1 : decode cX12_weigh 1 = .ok (.iconst 2, 1) := by decide +kernel
theorem dX12_weigh_2 : decode cX12_weigh 2 = .ok (.if_icmp .ne 9, 3) := by decide +kernel
theorem dX12_weigh_5 : decode cX12_weigh 5 = .ok (.aload_n 0, 1) := by decide +kernel
theorem dX12_weigh_6 : decode cX12_weigh 6 = .ok (.bipush 30, 2) := by decide +kernel
theorem dX12_weigh_8 : decode cX12_weigh 8 = .ok (.invokevirtual 197, 3) := by decide +kernel
theorem dX12_weigh_11 : decode cX12_weigh 11 = .ok (.aload_n 0, 1) := by decide +kernel
theorem dX12_weigh_12 : decode cX12_weigh 12 = .ok (.bipush 11, 2) := by decide +kernel
theorem dX12_weigh_14 : decode cX12_weigh 14 = .ok (.invokevirtual 197, 3) := by decide +kernel
theorem dX12_weigh_17 : decode cX12_weigh 17 = .ok (.aload_n 0, 1) := by decide +kernel
theorem dX12_weigh_18 : decode cX12_weigh 18 = .ok (.iload_n 1, 1) := by decide +kernel
theorem dX12_weigh_19 : decode cX12_weigh 19 = .ok (.iload_n 2, 1) := by decide +kernel
theorem dX12_weigh_20 : decode cX12_weigh 20 = .ok (.iload_n 3, 1) := by decide +kernel
theorem dX12_weigh_21 : decode cX12_weigh 21 = .ok (.invokevirtual 209, 3) := by decide +kernel
theorem dX12_weigh_24 : decode cX12_weigh 24 = .ok (.aload_n 0, 1) := by decide +kernel
theorem dX12_weigh_25 : decode cX12_weigh 25 = .ok (.getfield 13, 3) := by decide +kernel
theorem dX12_weigh_28 : decode cX12_weigh 28 = .ok (.iload_n 1, 1) := by decide +kernel
theorem dX12_weigh_29 : decode cX12_weigh 29 = .ok (.iaload, 1) := by decide +kernel
theorem dX12_weigh_30 : decode cX12_weigh 30 = .ok (.imul, 1) := by decide +kernel
theorem dX12_weigh_31 : decode cX12_weigh 31 = .ok (.istore 4, 2) := by decide +kernel
theorem dX12_weigh_33 : decode cX12_weigh 33 = .ok (.iload_n 2, 1) := by decide +kernel
theorem dX12_weigh_34 : decode cX12_weigh 34 = .ok (.iconst 2, 1) := by decide +kernel
theorem dX12_weigh_35 : decode cX12_weigh 35 = .ok (.if_icmp .ne 15, 3) := by decide +kernel
theorem dX12_weigh_38 : decode cX12_weigh 38 = .ok (.iload 4, 2) := by decide +kernel
theorem dX12_weigh_40 : decode cX12_weigh 40 = .ok (.aload_n 0, 1) := by decide +kernel
theorem dX12_weigh_41 : decode cX12_weigh 41 = .ok (.getfield 7, 3) := by decide +kernel
theorem dX12_weigh_44 : decode cX12_weigh 44 = .ok (.iload_n 1, 1) := by decide +kernel
theorem dX12_weigh_45 : decode cX12_weigh 45 = .ok (.iaload, 1) := by decide +kernel
theorem dX12_weigh_46 : decode cX12_weigh 46 = .ok (.iadd, 1) := by decide +kernel
theorem dX12_weigh_47 : decode cX12_weigh 47 = .ok (.goto 5, 3) := by decide +kernel
theorem dX12_weigh_50 : decode cX12_weigh 50 = .ok (.iload 4, 2) := by decide +kernel
theorem dX12_weigh_52 : decode cX12_weigh 52 = .ok (.ireturn, 1) := by decide +kernel
theorem dX12_follow_0 : decode cX12_follow 0 = .ok (.iload_n 2, 1) := by decide +kernel
theorem dX12_follow_1 : decode cX12_follow 1 = .ok (.iconst 3, 1) := by decide +kernel
theorem dX12_follow_2 : decode cX12_follow 2 = .ok (.if_icmp .ne 19, 3) := by decide +kernel
theorem dX12_follow_5 : decode cX12_follow 5 = .ok (.aload_n 0, 1) := by decide +kernel
theorem dX12_follow_6 : decode cX12_follow 6 = .ok (.bipush 40, 2) := by decide +kernel
theorem dX12_follow_8 : decode cX12_follow 8 = .ok (.invokevirtual 197, 3) := by decide +kernel
theorem dX12_follow_11 : decode cX12_follow 11 = .ok (.aload_n 0, 1) := by decide +kernel
theorem dX12_follow_12 : decode cX12_follow 12 = .ok (.iload_n 1, 1) := by decide +kernel
theorem dX12_follow_13 : decode cX12_follow 13 = .ok (.iload_n 3, 1) := by decide +kernel
theorem dX12_follow_14 : decode cX12_follow 14 = .ok (.invokevirtual 206, 3) := by decide +kernel
theorem dX12_follow_17 : decode cX12_follow 17 = .ok (.bipush 7, 2) := by decide +kernel
theorem dX12_follow_19 : decode cX12_follow 19 = .ok (.isub, 1) := by decide +kernel
theorem dX12_follow_20 : decode cX12_follow 20 = .ok (.ireturn, 1) := by decide +kernel
theorem dX12_follow_21 : decode cX12_follow 21 = .ok (.aload_n 0, 1) := by decide +kernel
theorem dX12_follow_22 : decode cX12_follow 22 = .ok (.iload_n 1, 1) := by decide +kernel
theorem dX12_follow_23 : decode cX12_follow 23 = .ok (.iload_n 3, 1) := by decide +kernel
theorem dX12_follow_24 : decode cX12_follow 24 = .ok (.invokevirtual 206, 3) := by decide +kernel
theorem dX12_follow_27 : decode cX12_follow 27 = .ok (.ireturn, 1) := by decide +kernel
theorem dX12_jobTell_0 : decode cX12_jobTell 0 = .ok (.aload_n 0, 1) := by decide +kernel
theorem dX12_jobTell_1 : decode cX12_jobTell 1 = .ok (.bipush 13, 2) := by decide +kernel
theorem dX12_jobTell_3 : decode cX12_jobTell 3 = .ok (.invokevirtual 197, 3) := by decide +kernel
theorem dX12_jobTell_6 : decode cX12_jobTell 6 = .ok (.aload_n 0, 1) := by decide +kernel
theorem dX12_jobTell_7 : decode cX12_jobTell 7 = .ok (.iload_n 1, 1) := by decide +kernel
theorem dX12_jobTell_8 : decode cX12_jobTell 8 = .ok (.iload_n 2, 1) := by decide +kernel
theorem dX12_jobTell_9 : decode cX12_jobTell 9 = .ok (.iload_n 3, 1) := by decide +kernel
theorem dX12_jobTell_10 : decode cX12_jobTell 10 = .ok (.invokevirtual 213, 3) := by decide +kernel
theorem dX12_jobTell_13 : decode cX12_jobTell 13 = .ok (.istore 4, 2) := by decide +kernel
theorem dX12_jobTell_15 : decode cX12_jobTell 15 = .ok (.iload 4, 2) := by decide +kernel
theorem dX12_jobTell_17 : decode cX12_jobTell 17 = .ok (.aload_n 0, 1) := by decide +kernel
theorem dX12_jobTell_18 : decode cX12_jobTell 18 = .ok (.iload_n 1, 1) := by decide +kernel
theorem dX12_jobTell_19 : decode cX12_jobTell 19 = .ok (.iload_n 2, 1) := by decide +kernel
theorem dX12_jobTell_20 : decode cX12_jobTell 20 = .ok (.iload_n 3, 1) := by decide +kernel
theorem dX12_jobTell_21 : decode cX12_jobTell 21 = .ok (.invokevirtual 216, 3) := by decide +kernel
theorem dX12_jobTell_24 : decode cX12_jobTell 24 = .ok (.isub, 1) := by decide +kernel
theorem dX12_jobTell_25 : decode cX12_jobTell 25 = .ok (.ireturn, 1) := by decide +kernel
theorem dX12_tell_0 : decode cX12_tell 0 = .ok (.iload_n 2, 1) := by decide +kernel
theorem dX12_tell_1 : decode cX12_tell 1 = .ok (.tableswitch 75 1 4 #[31, 75, 31, 49], 31) := by decide +kernel
theorem dX12_tell_32 : decode cX12_tell 32 = .ok (.aload_n 0, 1) := by decide +kernel
theorem dX12_tell_33 : decode cX12_tell 33 = .ok (.bipush 21, 2) := by decide +kernel
theorem dX12_tell_35 : decode cX12_tell 35 = .ok (.invokevirtual 197, 3) := by decide +kernel
theorem dX12_tell_38 : decode cX12_tell 38 = .ok (.aload_n 0, 1) := by decide +kernel
theorem dX12_tell_39 : decode cX12_tell 39 = .ok (.iload_n 1, 1) := by decide +kernel
theorem dX12_tell_40 : decode cX12_tell 40 = .ok (.iload_n 2, 1) := by decide +kernel
theorem dX12_tell_41 : decode cX12_tell 41 = .ok (.iload_n 3, 1) := by decide +kernel
theorem dX12_tell_42 : decode cX12_tell 42 = .ok (.iconst 1, 1) := by decide +kernel
theorem dX12_tell_43 : decode cX12_tell 43 = .ok (.iadd, 1) := by decide +kernel
theorem dX12_tell_44 : decode cX12_tell 44 = .ok (.invokevirtual 219, 3) := by decide +kernel
theorem dX12_tell_47 : decode cX12_tell 47 = .ok (.iconst 3, 1) := by decide +kernel
theorem dX12_tell_48 : decode cX12_tell 48 = .ok (.ixor, 1) := by decide +kernel
theorem dX12_tell_49 : decode cX12_tell 49 = .ok (.ireturn, 1) := by decide +kernel
theorem dX12_tell_50 : decode cX12_tell 50 = .ok (.aload_n 0, 1) := by decide +kernel
theorem dX12_tell_51 : decode cX12_tell 51 = .ok (.bipush 51, 2) := by decide +kernel
theorem dX12_tell_53 : decode cX12_tell 53 = .ok (.invokevirtual 197, 3) := by decide +kernel
theorem dX12_tell_56 : decode cX12_tell 56 = .ok (.aload_n 0, 1) := by decide +kernel
theorem dX12_tell_57 : decode cX12_tell 57 = .ok (.iload_n 1, 1) := by decide +kernel
theorem dX12_tell_58 : decode cX12_tell 58 = .ok (.iload_n 2, 1) := by decide +kernel
theorem dX12_tell_59 : decode cX12_tell 59 = .ok (.iload_n 3, 1) := by decide +kernel
theorem dX12_tell_60 : decode cX12_tell 60 = .ok (.invokevirtual 216, 3) := by decide +kernel
theorem dX12_tell_63 : decode cX12_tell 63 = .ok (.istore 4, 2) := by decide +kernel
theorem dX12_tell_65 : decode cX12_tell 65 = .ok (.iload 4, 2) := by decide +kernel
theorem dX12_tell_67 : decode cX12_tell 67 = .ok (.aload_n 0, 1) := by decide +kernel
theorem dX12_tell_68 : decode cX12_tell 68 = .ok (.iload_n 1, 1) := by decide +kernel
theorem dX12_tell_69 : decode cX12_tell 69 = .ok (.iload_n 2, 1) := by decide +kernel
theorem dX12_tell_70 : decode cX12_tell 70 = .ok (.iload_n 3, 1) := by decide +kernel
theorem dX12_tell_71 : decode cX12_tell 71 = .ok (.invokevirtual 219, 3) := by decide +kernel
theorem dX12_tell_74 : decode cX12_tell 74 = .ok (.imul, 1) := by decide +kernel
theorem dX12_tell_75 : decode cX12_tell 75 = .ok (.ireturn, 1) := by decide +kernel
theorem dX12_tell_76 : decode cX12_tell 76 = .ok (.aload_n 0, 1) := by decide +kernel
theorem dX12_tell_77 : decode cX12_tell 77 = .ok (.iload_n 1, 1) := by decide +kernel
theorem dX12_tell_78 : decode cX12_tell 78 = .ok (.iload_n 2, 1) := by decide +kernel
theorem dX12_tell_79 : decode cX12_tell 79 = .ok (.iload_n 3, 1) := by decide +kernel
theorem dX12_tell_80 : decode cX12_tell 80 = .ok (.invokevirtual 219, 3) := by decide +kernel
theorem dX12_tell_83 : decode cX12_tell 83 = .ok (.ireturn, 1) := by decide +kernel
theorem dX12_act_0 : decode cX12_act 0 = .ok (.aload_n 0, 1) := by decide +kernel
theorem dX12_act_1 : decode cX12_act 1 = .ok (.iload_n 1, 1) := by decide +kernel
theorem dX12_act_2 : decode cX12_act 2 = .ok (.invokevirtual 106, 3) := by decide +kernel
theorem dX12_act_5 : decode cX12_act 5 = .ok (.ifCond .eq 12, 3) := by decide +kernel
theorem dX12_act_8 : decode cX12_act 8 = .ok (.iload_n 2, 1) := by decide +kernel
theorem dX12_act_9 : decode cX12_act 9 = .ok (.iconst 0, 1) := by decide +kernel
theorem dX12_act_10 : decode cX12_act 10 = .ok (.iconst 3, 1) := by decide +kernel
theorem dX12_act_11 : decode cX12_act 11 = .ok (.invokestatic 78, 3) := by decide +kernel
theorem dX12_act_14 : decode cX12_act 14 = .ok (.ifCond .ne 9, 3) := by decide +kernel
theorem dX12_act_17 : decode cX12_act 17 = .ok (.aload_n 0, 1) := by decide +kernel
theorem dX12_act_18 : decode cX12_act 18 = .ok (.iconst 1, 1) := by decide +kernel
theorem dX12_act_19 : decode cX12_act 19 = .ok (.invokevirtual 89, 3) := by decide +kernel
theorem dX12_act_22 : decode cX12_act 22 = .ok (.ireturn, 1) := by decide +kernel
theorem dX12_act_23 : decode cX12_act 23 = .ok (.aload_n 0, 1) := by decide +kernel
theorem dX12_act_24 : decode cX12_act 24 = .ok (.iload_n 1, 1) := by decide +kernel
theorem dX12_act_25 : decode cX12_act 25 = .ok (.invokevirtual 170, 3) := by decide +kernel
theorem dX12_act_28 : decode cX12_act 28 = .ok (.istore 4, 2) := by decide +kernel
theorem dX12_act_30 : decode cX12_act 30 = .ok (.aload_n 0, 1) := by decide +kernel
theorem dX12_act_31 : decode cX12_act 31 = .ok (.iconst 0, 1) := by decide +kernel
theorem dX12_act_32 : decode cX12_act 32 = .ok (.putfield 188, 3) := by decide +kernel
theorem dX12_act_35 : decode cX12_act 35 = .ok (.aload_n 0, 1) := by decide +kernel
theorem dX12_act_36 : decode cX12_act 36 = .ok (.iload_n 2, 1) := by decide +kernel
theorem dX12_act_37 : decode cX12_act 37 = .ok (.ifCond .ne 14, 3) := by decide +kernel
theorem dX12_act_40 : decode cX12_act 40 = .ok (.aload_n 0, 1) := by decide +kernel
theorem dX12_act_41 : decode cX12_act 41 = .ok (.iload_n 1, 1) := by decide +kernel
theorem dX12_act_42 : decode cX12_act 42 = .ok (.iload 4, 2) := by decide +kernel
theorem dX12_act_44 : decode cX12_act 44 = .ok (.iload_n 3, 1) := by decide +kernel
theorem dX12_act_45 : decode cX12_act 45 = .ok (.invokevirtual 209, 3) := by decide +kernel
theorem dX12_act_48 : decode cX12_act 48 = .ok (.goto 43, 3) := by decide +kernel
theorem dX12_act_51 : decode cX12_act 51 = .ok (.iload_n 2, 1) := by decide +kernel
theorem dX12_act_52 : decode cX12_act 52 = .ok (.iconst 1, 1) := by decide +kernel
theorem dX12_act_53 : decode cX12_act 53 = .ok (.if_icmp .ne 14, 3) := by decide +kernel
theorem dX12_act_56 : decode cX12_act 56 = .ok (.aload_n 0, 1) := by decide +kernel
theorem dX12_act_57 : decode cX12_act 57 = .ok (.iload_n 1, 1) := by decide +kernel
theorem dX12_act_58 : decode cX12_act 58 = .ok (.iload 4, 2) := by decide +kernel
theorem dX12_act_60 : decode cX12_act 60 = .ok (.iload_n 3, 1) := by decide +kernel
theorem dX12_act_61 : decode cX12_act 61 = .ok (.invokevirtual 213, 3) := by decide +kernel
theorem dX12_act_64 : decode cX12_act 64 = .ok (.goto 27, 3) := by decide +kernel
theorem dX12_act_67 : decode cX12_act 67 = .ok (.iload_n 2, 1) := by decide +kernel
theorem dX12_act_68 : decode cX12_act 68 = .ok (.iconst 2, 1) := by decide +kernel
theorem dX12_act_69 : decode cX12_act 69 = .ok (.if_icmp .ne 14, 3) := by decide +kernel
theorem dX12_act_72 : decode cX12_act 72 = .ok (.aload_n 0, 1) := by decide +kernel
theorem dX12_act_73 : decode cX12_act 73 = .ok (.iload_n 1, 1) := by decide +kernel
theorem dX12_act_74 : decode cX12_act 74 = .ok (.iload 4, 2) := by decide +kernel
theorem dX12_act_76 : decode cX12_act 76 = .ok (.iload_n 3, 1) := by decide +kernel
theorem dX12_act_77 : decode cX12_act 77 = .ok (.invokevirtual 216, 3) := by decide +kernel
theorem dX12_act_80 : decode cX12_act 80 = .ok (.goto 11, 3) := by decide +kernel
theorem dX12_act_83 : decode cX12_act 83 = .ok (.aload_n 0, 1) := by decide +kernel
theorem dX12_act_84 : decode cX12_act 84 = .ok (.iload_n 1, 1) := by decide +kernel
theorem dX12_act_85 : decode cX12_act 85 = .ok (.iload 4, 2) := by decide +kernel
theorem dX12_act_87 : decode cX12_act 87 = .ok (.iload_n 3, 1) := by decide +kernel
theorem dX12_act_88 : decode cX12_act 88 = .ok (.invokevirtual 222, 3) := by decide +kernel
theorem dX12_act_91 : decode cX12_act 91 = .ok (.invokevirtual 96, 3) := by decide +kernel
theorem dX12_act_94 : decode cX12_act 94 = .ok (.ireturn, 1) := by decide +kernel
theorem dX12_trace_0 : decode cX12_trace 0 = .ok (.iload_n 1, 1) := by decide +kernel
theorem dX12_trace_1 : decode cX12_trace 1 = .ok (.iconst 0, 1) := by decide +kernel
theorem dX12_trace_2 : decode cX12_trace 2 = .ok (.aload_n 0, 1) := by decide +kernel
theorem dX12_trace_3 : decode cX12_trace 3 = .ok (.getfield 188, 3) := by decide +kernel
theorem dX12_trace_6 : decode cX12_trace 6 = .ok (.bipush 50, 2) := by decide +kernel
theorem dX12_trace_8 : decode cX12_trace 8 = .ok (.if_icmp .ge 10, 3) := by decide +kernel
theorem dX12_trace_11 : decode cX12_trace 11 = .ok (.aload_n 0, 1) := by decide +kernel
theorem dX12_trace_12 : decode cX12_trace 12 = .ok (.getfield 188, 3) := by decide +kernel
theorem dX12_trace_15 : decode cX12_trace 15 = .ok (.goto 5, 3) := by decide +kernel
theorem dX12_trace_18 : decode cX12_trace 18 = .ok (.bipush 50, 2) := by decide +kernel
theorem dX12_trace_20 : decode cX12_trace 20 = .ok (.iconst 1, 1) := by decide +kernel
theorem dX12_trace_21 : decode cX12_trace 21 = .ok (.isub, 1) := by decide +kernel
theorem dX12_trace_22 : decode cX12_trace 22 = .ok (.invokestatic 78, 3) := by decide +kernel
theorem dX12_trace_25 : decode cX12_trace 25 = .ok (.ifCond .eq 12, 3) := by decide +kernel
theorem dX12_trace_28 : decode cX12_trace 28 = .ok (.aload_n 0, 1) := by decide +kernel
theorem dX12_trace_29 : decode cX12_trace 29 = .ok (.getfield 44, 3) := by decide +kernel
theorem dX12_trace_32 : decode cX12_trace 32 = .ok (.iload_n 1, 1) := by decide +kernel
theorem dX12_trace_33 : decode cX12_trace 33 = .ok (.iaload, 1) := by decide +kernel
theorem dX12_trace_34 : decode cX12_trace 34 = .ok (.goto 4, 3) := by decide +kernel
theorem dX12_trace_37 : decode cX12_trace 37 = .ok (.iconst (-1), 1) := by decide +kernel
theorem dX12_trace_38 : decode cX12_trace 38 = .ok (.ireturn, 1) := by decide +kernel
theorem dX12_sheet_0 : decode cX12_sheet 0 = .ok (.iload_n 1, 1) := by decide +kernel
theorem dX12_sheet_1 : decode cX12_sheet 1 = .ok (.iconst 0, 1) := by decide +kernel
theorem dX12_sheet_2 : decode cX12_sheet 2 = .ok (.iconst 5, 1) := by decide +kernel
theorem dX12_sheet_3 : decode cX12_sheet 3 = .ok (.invokestatic 78, 3) := by decide +kernel
theorem dX12_sheet_6 : decode cX12_sheet 6 = .ok (.ifCond .eq 27, 3) := by decide +kernel
theorem dX12_sheet_9 : decode cX12_sheet 9 = .ok (.iload_n 2, 1) := by decide +kernel
theorem dX12_sheet_10 : decode cX12_sheet 10 = .ok (.iconst (-1), 1) := by decide +kernel
theorem dX12_sheet_11 : decode cX12_sheet 11 = .ok (.iconst 2, 1) := by decide +kernel
theorem dX12_sheet_12 : decode cX12_sheet 12 = .ok (.invokestatic 78, 3) := by decide +kernel
theorem dX12_sheet_15 : decode cX12_sheet 15 = .ok (.ifCond .eq 18, 3) := by decide +kernel
theorem dX12_sheet_18 : decode cX12_sheet 18 = .ok (.iload_n 2, 1) := by decide +kernel
theorem dX12_sheet_19 : decode cX12_sheet 19 = .ok (.iconst (-1), 1) := by decide +kernel
theorem dX12_sheet_20 : decode cX12_sheet 20 = .ok (.if_icmp .eq 19, 3) := by decide +kernel
theorem dX12_sheet_23 : decode cX12_sheet 23 = .ok (.iload_n 3, 1) := by decide +kernel
theorem dX12_sheet_24 : decode cX12_sheet 24 = .ok (.iconst 0, 1) := by decide +kernel
theorem dX12_sheet_25 : decode cX12_sheet 25 = .ok (.bipush 20, 2) := by decide +kernel
theorem dX12_sheet_27 : decode cX12_sheet 27 = .ok (.invokestatic 78, 3) := by decide +kernel
theorem dX12_sheet_30 : decode cX12_sheet 30 = .ok (.ifCond .ne 9, 3) := by decide +kernel
theorem dX12_sheet_33 : decode cX12_sheet 33 = .ok (.aload_n 0, 1) := by decide +kernel
theorem dX12_sheet_34 : decode cX12_sheet 34 = .ok (.iconst 1, 1) := by decide +kernel
theorem dX12_sheet_35 : decode cX12_sheet 35 = .ok (.invokevirtual 89, 3) := by decide +kernel
theorem dX12_sheet_38 : decode cX12_sheet 38 = .ok (.ireturn, 1) := by decide +kernel
theorem dX12_sheet_39 : decode cX12_sheet 39 = .ok (.aload_n 0, 1) := by decide +kernel
theorem dX12_sheet_40 : decode cX12_sheet 40 = .ok (.getfield 34, 3) := by decide +kernel
theorem dX12_sheet_43 : decode cX12_sheet 43 = .ok (.iload_n 1, 1) := by decide +kernel
theorem dX12_sheet_44 : decode cX12_sheet 44 = .ok (.iload_n 2, 1) := by decide +kernel
theorem dX12_sheet_45 : decode cX12_sheet 45 = .ok (.iastore, 1) := by decide +kernel
theorem dX12_sheet_46 : decode cX12_sheet 46 = .ok (.aload_n 0, 1) := by decide +kernel
theorem dX12_sheet_47 : decode cX12_sheet 47 = .ok (.getfield 37, 3) := by decide +kernel
theorem dX12_sheet_50 : decode cX12_sheet 50 = .ok (.iload_n 1, 1) := by decide +kernel
theorem dX12_sheet_51 : decode cX12_sheet 51 = .ok (.iload_n 2, 1) := by decide +kernel
theorem dX12_sheet_52 : decode cX12_sheet 52 = .ok (.iconst (-1), 1) := by decide +kernel
theorem dX12_sheet_53 : decode cX12_sheet 53 = .ok (.if_icmp .ne 7, 3) := by decide +kernel
theorem dX12_sheet_56 : decode cX12_sheet 56 = .ok (.iconst 0, 1) := by decide +kernel
theorem dX12_sheet_57 : decode cX12_sheet 57 = .ok (.goto 4, 3) := by decide +kernel
theorem dX12_sheet_60 : decode cX12_sheet 60 = .ok (.iload_n 3, 1) := by decide +kernel
theorem dX12_sheet_61 : decode cX12_sheet 61 = .ok (.iastore, 1) := by decide +kernel
theorem dX12_sheet_62 : decode cX12_sheet 62 = .ok (.iconst 0, 1) := by decide +kernel
theorem dX12_sheet_63 : decode cX12_sheet 63 = .ok (.istore 4, 2) := by decide +kernel
theorem dX12_sheet_65 : decode cX12_sheet 65 = .ok (.iload 4, 2) := by decide +kernel
theorem dX12_sheet_67 : decode cX12_sheet 67 = .ok (.bipush 20, 2) := by decide +kernel
theorem dX12_sheet_69 : decode cX12_sheet 69 = .ok (.if_icmp .ge 22, 3) := by decide +kernel
theorem dX12_sheet_72 : decode cX12_sheet 72 = .ok (.aload_n 0, 1) := by decide +kernel
theorem dX12_sheet_73 : decode cX12_sheet 73 = .ok (.getfield 40, 3) := by decide +kernel
theorem dX12_sheet_76 : decode cX12_sheet 76 = .ok (.bipush 20, 2) := by decide +kernel
theorem dX12_sheet_78 : decode cX12_sheet 78 = .ok (.iload_n 1, 1) := by decide +kernel
theorem dX12_sheet_79 : decode cX12_sheet 79 = .ok (.imul, 1) := by decide +kernel
theorem dX12_sheet_80 : decode cX12_sheet 80 = .ok (.iload 4, 2) := by decide +kernel
theorem dX12_sheet_82 : decode cX12_sheet 82 = .ok (.iadd, 1) := by decide +kernel
theorem dX12_sheet_83 : decode cX12_sheet 83 = .ok (.lconst 0, 1) := by decide +kernel
theorem dX12_sheet_84 : decode cX12_sheet 84 = .ok (.lastore, 1) := by decide +kernel
theorem dX12_sheet_85 : decode cX12_sheet 85 = .ok (.iinc 4 1, 3) := by decide +kernel
theorem dX12_sheet_88 : decode cX12_sheet 88 = .ok (.goto (-23), 3) := by decide +kernel
theorem dX12_sheet_91 : decode cX12_sheet 91 = .ok (.aload_n 0, 1) := by decide +kernel
theorem dX12_sheet_92 : decode cX12_sheet 92 = .ok (.iconst 1, 1) := by decide +kernel
theorem dX12_sheet_93 : decode cX12_sheet 93 = .ok (.invokevirtual 96, 3) := by decide +kernel
theorem dX12_sheet_96 : decode cX12_sheet 96 = .ok (.ireturn, 1) := by decide +kernel
theorem dX12_cell_0 : decode cX12_cell 0 = .ok (.iload_n 1, 1) := by decide +kernel
theorem dX12_cell_1 : decode cX12_cell 1 = .ok (.iconst 0, 1) := by decide +kernel
theorem dX12_cell_2 : decode cX12_cell 2 = .ok (.iconst 5, 1) := by decide +kernel
theorem dX12_cell_3 : decode cX12_cell 3 = .ok (.invokestatic 78, 3) := by decide +kernel
theorem dX12_cell_6 : decode cX12_cell 6 = .ok (.ifCond .ne 9, 3) := by decide +kernel
theorem dX12_cell_9 : decode cX12_cell 9 = .ok (.aload_n 0, 1) := by decide +kernel
theorem dX12_cell_10 : decode cX12_cell 10 = .ok (.iconst 1, 1) := by decide +kernel
theorem dX12_cell_11 : decode cX12_cell 11 = .ok (.invokevirtual 89, 3) := by decide +kernel
theorem dX12_cell_14 : decode cX12_cell 14 = .ok (.ireturn, 1) := by decide +kernel
theorem dX12_cell_15 : decode cX12_cell 15 = .ok (.aload_n 0, 1) := by decide +kernel
theorem dX12_cell_16 : decode cX12_cell 16 = .ok (.getfield 34, 3) := by decide +kernel
theorem dX12_cell_19 : decode cX12_cell 19 = .ok (.iload_n 1, 1) := by decide +kernel
theorem dX12_cell_20 : decode cX12_cell 20 = .ok (.iaload, 1) := by decide +kernel
theorem dX12_cell_21 : decode cX12_cell 21 = .ok (.iconst (-1), 1) := by decide +kernel
theorem dX12_cell_22 : decode cX12_cell 22 = .ok (.if_icmp .ne 10, 3) := by decide +kernel
theorem dX12_cell_25 : decode cX12_cell 25 = .ok (.aload_n 0, 1) := by decide +kernel
theorem dX12_cell_26 : decode cX12_cell 26 = .ok (.bipush 10, 2) := by decide +kernel
theorem dX12_cell_28 : decode cX12_cell 28 = .ok (.invokevirtual 89, 3) := by decide +kernel
theorem dX12_cell_31 : decode cX12_cell 31 = .ok (.ireturn, 1) := by decide +kernel
theorem dX12_cell_32 : decode cX12_cell 32 = .ok (.iload_n 2, 1) := by decide +kernel
theorem dX12_cell_33 : decode cX12_cell 33 = .ok (.iconst 0, 1) := by decide +kernel
theorem dX12_cell_34 : decode cX12_cell 34 = .ok (.aload_n 0, 1) := by decide +kernel
theorem dX12_cell_35 : decode cX12_cell 35 = .ok (.getfield 37, 3) := by decide +kernel
theorem dX12_cell_38 : decode cX12_cell 38 = .ok (.iload_n 1, 1) := by decide +kernel
theorem dX12_cell_39 : decode cX12_cell 39 = .ok (.iaload, 1) := by decide +kernel
theorem dX12_cell_40 : decode cX12_cell 40 = .ok (.iconst 1, 1) := by decide +kernel
theorem dX12_cell_41 : decode cX12_cell 41 = .ok (.isub, 1) := by decide +kernel
theorem dX12_cell_42 : decode cX12_cell 42 = .ok (.invokestatic 78, 3) := by decide +kernel
theorem dX12_cell_45 : decode cX12_cell 45 = .ok (.ifCond .ne 10, 3) := by decide +kernel
theorem dX12_cell_48 : decode cX12_cell 48 = .ok (.aload_n 0, 1) := by decide +kernel
theorem dX12_cell_49 : decode cX12_cell 49 = .ok (.bipush 12, 2) := by decide +kernel
theorem dX12_cell_51 : decode cX12_cell 51 = .ok (.invokevirtual 89, 3) := by decide +kernel
theorem dX12_cell_54 : decode cX12_cell 54 = .ok (.ireturn, 1) := by decide +kernel
theorem dX12_cell_55 : decode cX12_cell 55 = .ok (.aload_n 0, 1) := by decide +kernel
theorem dX12_cell_56 : decode cX12_cell 56 = .ok (.getfield 40, 3) := by decide +kernel
theorem dX12_cell_59 : decode cX12_cell 59 = .ok (.bipush 20, 2) := by decide +kernel
theorem dX12_cell_61 : decode cX12_cell 61 = .ok (.iload_n 1, 1) := by decide +kernel
theorem dX12_cell_62 : decode cX12_cell 62 = .ok (.imul, 1) := by decide +kernel
theorem dX12_cell_63 : decode cX12_cell 63 = .ok (.iload_n 2, 1) := by decide +kernel
theorem dX12_cell_64 : decode cX12_cell 64 = .ok (.iadd, 1) := by decide +kernel
theorem dX12_cell_65 : decode cX12_cell 65 = .ok (.aload_n 0, 1) := by decide +kernel
theorem dX12_cell_66 : decode cX12_cell 66 = .ok (.getfield 34, 3) := by decide +kernel
theorem dX12_cell_69 : decode cX12_cell 69 = .ok (.iload_n 1, 1) := by decide +kernel
theorem dX12_cell_70 : decode cX12_cell 70 = .ok (.iaload, 1) := by decide +kernel
theorem dX12_cell_71 : decode cX12_cell 71 = .ok (.ifCond .ne 9, 3) := by decide +kernel
theorem dX12_cell_74 : decode cX12_cell 74 = .ok (.iload_n 3, 1) := by decide +kernel
theorem dX12_cell_75 : decode cX12_cell 75 = .ok (.i2s, 1) := by decide +kernel
theorem dX12_cell_76 : decode cX12_cell 76 = .ok (.i2l, 1) := by decide +kernel
theorem dX12_cell_77 : decode cX12_cell 77 = .ok (.goto 5, 3) := by decide +kernel
theorem dX12_cell_80 : decode cX12_cell 80 = .ok (.iload_n 3, 1) := by decide +kernel
theorem dX12_cell_81 : decode cX12_cell 81 = .ok (.i2l, 1) := by decide +kernel
theorem dX12_cell_82 : decode cX12_cell 82 = .ok (.lastore, 1) := by decide +kernel
theorem dX12_cell_83 : decode cX12_cell 83 = .ok (.aload_n 0, 1) := by decide +kernel
theorem dX12_cell_84 : decode cX12_cell 84 = .ok (.iconst 1, 1) := by decide +kernel
theorem dX12_cell_85 : decode cX12_cell 85 = .ok (.invokevirtual 96, 3) := by decide +kernel
theorem dX12_cell_88 : decode cX12_cell 88 = .ok (.ireturn, 1) := by decide +kernel
theorem dX12_fromSheet_0 : decode cX12_fromSheet 0 = .ok (.iload_n 1, 1) := by decide +kernel
theorem dX12_fromSheet_1 : decode cX12_fromSheet 1 = .ok (.iconst 0, 1) := by decide +kernel
theorem dX12_fromSheet_2 : decode cX12_fromSheet 2 = .ok (.iconst 5, 1) := by decide +kernel
theorem dX12_fromSheet_3 : decode cX12_fromSheet 3 = .ok (.invokestatic 78, 3) := by decide +kernel
theorem dX12_fromSheet_6 : decode cX12_fromSheet 6 = .ok (.ifCond .eq 12, 3) := by decide +kernel
theorem dX12_fromSheet_9 : decode cX12_fromSheet 9 = .ok (.iload_n 2, 1) := by decide +kernel
theorem dX12_fromSheet_10 : decode cX12_fromSheet 10 = .ok (.iconst 0, 1) := by decide +kernel
theorem dX12_fromSheet_11 : decode cX12_fromSheet 11 = .ok (.iconst 2, 1) := by decide +kernel
theorem dX12_fromSheet_12 : decode cX12_fromSheet 12 = .ok (.invokestatic 78, 3) := by decide +kernel
theorem dX12_fromSheet_15 : decode cX12_fromSheet 15 = .ok (.ifCond .ne 9, 3) := by decide +kernel
theorem dX12_fromSheet_18 : decode cX12_fromSheet 18 = .ok (.aload_n 0, 1) := by decide +kernel
theorem dX12_fromSheet_19 : decode cX12_fromSheet 19 = .ok (.iconst 1, 1) := by decide +kernel
theorem dX12_fromSheet_20 : decode cX12_fromSheet 20 = .ok (.invokevirtual 89, 3) := by decide +kernel
theorem dX12_fromSheet_23 : decode cX12_fromSheet 23 = .ok (.ireturn, 1) := by decide +kernel
theorem dX12_fromSheet_24 : decode cX12_fromSheet 24 = .ok (.aload_n 0, 1) := by decide +kernel
theorem dX12_fromSheet_25 : decode cX12_fromSheet 25 = .ok (.getfield 75, 3) := by decide +kernel
theorem dX12_fromSheet_28 : decode cX12_fromSheet 28 = .ok (.bipush 12, 2) := by decide +kernel
theorem dX12_fromSheet_30 : decode cX12_fromSheet 30 = .ok (.if_icmp .ne 9, 3) := by decide +kernel
theorem dX12_fromSheet_33 : decode cX12_fromSheet 33 = .ok (.aload_n 0, 1) := by decide +kernel
theorem dX12_fromSheet_34 : decode cX12_fromSheet 34 = .ok (.iconst 2, 1) := by decide +kernel
theorem dX12_fromSheet_35 : decode cX12_fromSheet 35 = .ok (.invokevirtual 89, 3) := by decide +kernel
theorem dX12_fromSheet_38 : decode cX12_fromSheet 38 = .ok (.ireturn, 1) := by decide +kernel
theorem dX12_fromSheet_39 : decode cX12_fromSheet 39 = .ok (.aload_n 0, 1) := by decide +kernel
theorem dX12_fromSheet_40 : decode cX12_fromSheet 40 = .ok (.getfield 34, 3) := by decide +kernel
theorem dX12_fromSheet_43 : decode cX12_fromSheet 43 = .ok (.iload_n 1, 1) := by decide +kernel
theorem dX12_fromSheet_44 : decode cX12_fromSheet 44 = .ok (.iaload, 1) := by decide +kernel
theorem dX12_fromSheet_45 : decode cX12_fromSheet 45 = .ok (.iconst (-1), 1) := by decide +kernel
theorem dX12_fromSheet_46 : decode cX12_fromSheet 46 = .ok (.if_icmp .ne 10, 3) := by decide +kernel
theorem dX12_fromSheet_49 : decode cX12_fromSheet 49 = .ok (.aload_n 0, 1) := by decide +kernel
theorem dX12_fromSheet_50 : decode cX12_fromSheet 50 = .ok (.bipush 10, 2) := by decide +kernel
theorem dX12_fromSheet_52 : decode cX12_fromSheet 52 = .ok (.invokevirtual 89, 3) := by decide +kernel
theorem dX12_fromSheet_55 : decode cX12_fromSheet 55 = .ok (.ireturn, 1) := by decide +kernel
theorem dX12_fromSheet_56 : decode cX12_fromSheet 56 = .ok (.aload_n 0, 1) := by decide +kernel
theorem dX12_fromSheet_57 : decode cX12_fromSheet 57 = .ok (.getfield 34, 3) := by decide +kernel
theorem dX12_fromSheet_60 : decode cX12_fromSheet 60 = .ok (.iload_n 1, 1) := by decide +kernel
theorem dX12_fromSheet_61 : decode cX12_fromSheet 61 = .ok (.iaload, 1) := by decide +kernel
theorem dX12_fromSheet_62 : decode cX12_fromSheet 62 = .ok (.iload_n 2, 1) := by decide +kernel
theorem dX12_fromSheet_63 : decode cX12_fromSheet 63 = .ok (.if_icmp .eq 10, 3) := by decide +kernel
theorem dX12_fromSheet_66 : decode cX12_fromSheet 66 = .ok (.aload_n 0, 1) := by decide +kernel
theorem dX12_fromSheet_67 : decode cX12_fromSheet 67 = .ok (.bipush 11, 2) := by decide +kernel
theorem dX12_fromSheet_69 : decode cX12_fromSheet 69 = .ok (.invokevirtual 89, 3) := by decide +kernel
theorem dX12_fromSheet_72 : decode cX12_fromSheet 72 = .ok (.ireturn, 1) := by decide +kernel
theorem dX12_fromSheet_73 : decode cX12_fromSheet 73 = .ok (.iload_n 3, 1) := by decide +kernel
theorem dX12_fromSheet_74 : decode cX12_fromSheet 74 = .ok (.ifCond .lt 15, 3) := by decide +kernel
theorem dX12_fromSheet_77 : decode cX12_fromSheet 77 = .ok (.iload_n 3, 1) := by decide +kernel
theorem dX12_fromSheet_78 : decode cX12_fromSheet 78 = .ok (.aload_n 0, 1) := by decide +kernel
theorem dX12_fromSheet_79 : decode cX12_fromSheet 79 = .ok (.getfield 37, 3) := by decide +kernel
theorem dX12_fromSheet_82 : decode cX12_fromSheet 82 = .ok (.iload_n 1, 1) := by decide +kernel
theorem dX12_fromSheet_83 : decode cX12_fromSheet 83 = .ok (.iaload, 1) := by decide +kernel
theorem dX12_fromSheet_84 : decode cX12_fromSheet 84 = .ok (.iconst 2, 1) := by decide +kernel
theorem dX12_fromSheet_85 : decode cX12_fromSheet 85 = .ok (.isub, 1) := by decide +kernel
theorem dX12_fromSheet_86 : decode cX12_fromSheet 86 = .ok (.if_icmp .le 10, 3) := by decide +kernel
theorem dX12_fromSheet_89 : decode cX12_fromSheet 89 = .ok (.aload_n 0, 1) := by decide +kernel
theorem dX12_fromSheet_90 : decode cX12_fromSheet 90 = .ok (.bipush 12, 2) := by decide +kernel
theorem dX12_fromSheet_92 : decode cX12_fromSheet 92 = .ok (.invokevirtual 89, 3) := by decide +kernel
theorem dX12_fromSheet_95 : decode cX12_fromSheet 95 = .ok (.ireturn, 1) := by decide +kernel
theorem dX12_fromSheet_96 : decode cX12_fromSheet 96 = .ok (.aload_n 0, 1) := by decide +kernel
theorem dX12_fromSheet_97 : decode cX12_fromSheet 97 = .ok (.getfield 40, 3) := by decide +kernel
theorem dX12_fromSheet_100 : decode cX12_fromSheet 100 = .ok (.bipush 20, 2) := by decide +kernel
theorem dX12_fromSheet_102 : decode cX12_fromSheet 102 = .ok (.iload_n 1, 1) := by decide +kernel
theorem dX12_fromSheet_103 : decode cX12_fromSheet 103 = .ok (.imul, 1) := by decide +kernel
theorem dX12_fromSheet_104 : decode cX12_fromSheet 104 = .ok (.iload_n 3, 1) := by decide +kernel
theorem dX12_fromSheet_105 : decode cX12_fromSheet 105 = .ok (.iadd, 1) := by decide +kernel
theorem dX12_fromSheet_106 : decode cX12_fromSheet 106 = .ok (.laload, 1) := by decide +kernel
theorem dX12_fromSheet_107 : decode cX12_fromSheet 107 = .ok (.lstore 4, 2) := by decide +kernel
theorem dX12_fromSheet_109 : decode cX12_fromSheet 109 = .ok (.aload_n 0, 1) := by decide +kernel
theorem dX12_fromSheet_110 : decode cX12_fromSheet 110 = .ok (.getfield 40, 3) := by decide +kernel
theorem dX12_fromSheet_113 : decode cX12_fromSheet 113 = .ok (.bipush 20, 2) := by decide +kernel
theorem dX12_fromSheet_115 : decode cX12_fromSheet 115 = .ok (.iload_n 1, 1) := by decide +kernel
theorem dX12_fromSheet_116 : decode cX12_fromSheet 116 = .ok (.imul, 1) := by decide +kernel
theorem dX12_fromSheet_117 : decode cX12_fromSheet 117 = .ok (.iload_n 3, 1) := by decide +kernel
theorem dX12_fromSheet_118 : decode cX12_fromSheet 118 = .ok (.iadd, 1) := by decide +kernel
theorem dX12_fromSheet_119 : decode cX12_fromSheet 119 = .ok (.iconst 1, 1) := by decide +kernel
theorem dX12_fromSheet_120 : decode cX12_fromSheet 120 = .ok (.iadd, 1) := by decide +kernel
theorem dX12_fromSheet_121 : decode cX12_fromSheet 121 = .ok (.laload, 1) := by decide +kernel
theorem dX12_fromSheet_122 : decode cX12_fromSheet 122 = .ok (.lstore 6, 2) := by decide +kernel
theorem dX12_fromSheet_124 : decode cX12_fromSheet 124 = .ok (.lload 4, 2) := by decide +kernel
theorem dX12_fromSheet_126 : decode cX12_fromSheet 126 = .ok (.lconst 1, 1) := by decide +kernel
theorem dX12_fromSheet_127 : decode cX12_fromSheet 127 = .ok (.lcmp, 1) := by decide +kernel
theorem dX12_fromSheet_128 : decode cX12_fromSheet 128 = .ok (.ifCond .lt 28, 3) := by decide +kernel
theorem dX12_fromSheet_131 : decode cX12_fromSheet 131 = .ok (.lload 4, 2) := by decide +kernel
theorem dX12_fromSheet_133 : decode cX12_fromSheet 133 = .ok (.ldc2_w 225, 3) := by decide +kernel
theorem dX12_fromSheet_136 : decode cX12_fromSheet 136 = .ok (.lcmp, 1) := by decide +kernel
theorem dX12_fromSheet_137 : decode cX12_fromSheet 137 = .ok (.ifCond .gt 19, 3) := by decide +kernel
theorem dX12_fromSheet_140 : decode cX12_fromSheet 140 = .ok (.lload 6, 2) := by decide +kernel
theorem dX12_fromSheet_142 : decode cX12_fromSheet 142 = .ok (.lconst 0, 1) := by decide +kernel
theorem dX12_fromSheet_143 : decode cX12_fromSheet 143 = .ok (.lcmp, 1) := by decide +kernel
theorem dX12_fromSheet_144 : decode cX12_fromSheet 144 = .ok (.ifCond .lt 12, 3) := by decide +kernel
theorem dX12_fromSheet_147 : decode cX12_fromSheet 147 = .ok (.lload 6, 2) := by decide +kernel
theorem dX12_fromSheet_149 : decode cX12_fromSheet 149 = .ok (.ldc2_w 225, 3) := by decide +kernel
theorem dX12_fromSheet_152 : decode cX12_fromSheet 152 = .ok (.lcmp, 1) := by decide +kernel
theorem dX12_fromSheet_153 : decode cX12_fromSheet 153 = .ok (.ifCond .le 9, 3) := by decide +kernel
theorem dX12_fromSheet_156 : decode cX12_fromSheet 156 = .ok (.aload_n 0, 1) := by decide +kernel
theorem dX12_fromSheet_157 : decode cX12_fromSheet 157 = .ok (.iconst 3, 1) := by decide +kernel
theorem dX12_fromSheet_158 : decode cX12_fromSheet 158 = .ok (.invokevirtual 89, 3) := by decide +kernel
theorem dX12_fromSheet_161 : decode cX12_fromSheet 161 = .ok (.ireturn, 1) := by decide +kernel
theorem dX12_fromSheet_162 : decode cX12_fromSheet 162 = .ok (.aload_n 0, 1) := by decide +kernel
theorem dX12_fromSheet_163 : decode cX12_fromSheet 163 = .ok (.lload 4, 2) := by decide +kernel
theorem dX12_fromSheet_165 : decode cX12_fromSheet 165 = .ok (.l2i, 1) := by decide +kernel
theorem dX12_fromSheet_166 : decode cX12_fromSheet 166 = .ok (.lload 6, 2) := by decide +kernel
theorem dX12_fromSheet_168 : decode cX12_fromSheet 168 = .ok (.l2i, 1) := by decide +kernel
theorem dX12_fromSheet_169 : decode cX12_fromSheet 169 = .ok (.invokevirtual 102, 3) := by decide +kernel
theorem dX12_fromSheet_172 : decode cX12_fromSheet 172 = .ok (.ireturn, 1) := by decide +kernel
theorem dX12_sum_0 : decode cX12_sum 0 = .ok (.iconst 0, 1) := by decide +kernel
theorem dX12_sum_1 : decode cX12_sum 1 = .ok (.istore_n 3, 1) := by decide +kernel
theorem dX12_sum_2 : decode cX12_sum 2 = .ok (.iconst 1, 1) := by decide +kernel
theorem dX12_sum_3 : decode cX12_sum 3 = .ok (.istore 4, 2) := by decide +kernel
theorem dX12_sum_5 : decode cX12_sum 5 = .ok (.iload 4, 2) := by decide +kernel
theorem dX12_sum_7 : decode cX12_sum 7 = .ok (.iload_n 2, 1) := by decide +kernel
theorem dX12_sum_8 : decode cX12_sum 8 = .ok (.if_icmp .gt 25, 3) := by decide +kernel
theorem dX12_sum_11 : decode cX12_sum 11 = .ok (.iload_n 3, 1) := by decide +kernel
theorem dX12_sum_12 : decode cX12_sum 12 = .ok (.aload_n 0, 1) := by decide +kernel
theorem dX12_sum_13 : decode cX12_sum 13 = .ok (.getfield 40, 3) := by decide +kernel
theorem dX12_sum_16 : decode cX12_sum 16 = .ok (.bipush 20, 2) := by decide +kernel
theorem dX12_sum_18 : decode cX12_sum 18 = .ok (.iload_n 1, 1) := by decide +kernel
theorem dX12_sum_19 : decode cX12_sum 19 = .ok (.imul, 1) := by decide +kernel
theorem dX12_sum_20 : decode cX12_sum 20 = .ok (.iload 4, 2) := by decide +kernel
theorem dX12_sum_22 : decode cX12_sum 22 = .ok (.iadd, 1) := by decide +kernel
theorem dX12_sum_23 : decode cX12_sum 23 = .ok (.laload, 1) := by decide +kernel
theorem dX12_sum_24 : decode cX12_sum 24 = .ok (.l2i, 1) := by decide +kernel
theorem dX12_sum_25 : decode cX12_sum 25 = .ok (.iadd, 1) := by decide +kernel
theorem dX12_sum_26 : decode cX12_sum 26 = .ok (.istore_n 3, 1) := by decide +kernel
theorem dX12_sum_27 : decode cX12_sum 27 = .ok (.iinc 4 1, 3) := by decide +kernel
theorem dX12_sum_30 : decode cX12_sum 30 = .ok (.goto (-25), 3) := by decide +kernel
theorem dX12_sum_33 : decode cX12_sum 33 = .ok (.iload_n 3, 1) := by decide +kernel
theorem dX12_sum_34 : decode cX12_sum 34 = .ok (.ireturn, 1) := by decide +kernel
theorem dX12_unitTaken_0 : decode cX12_unitTaken 0 = .ok (.iload_n 1, 1) := by decide +kernel
theorem dX12_unitTaken_1 : decode cX12_unitTaken 1 = .ok (.bipush 12, 2) := by decide +kernel
theorem dX12_unitTaken_3 : decode cX12_unitTaken 3 = .ok (.irem, 1) := by decide +kernel
theorem dX12_unitTaken_4 : decode cX12_unitTaken 4 = .ok (.bipush 12, 2) := by decide +kernel
theorem dX12_unitTaken_6 : decode cX12_unitTaken 6 = .ok (.iadd, 1) := by decide +kernel
theorem dX12_unitTaken_7 : decode cX12_unitTaken 7 = .ok (.bipush 12, 2) := by decide +kernel
theorem dX12_unitTaken_9 : decode cX12_unitTaken 9 = .ok (.irem, 1) := by decide +kernel
theorem dX12_unitTaken_10 : decode cX12_unitTaken 10 = .ok (.istore_n 2, 1) := by decide +kernel
theorem dX12_unitTaken_11 : decode cX12_unitTaken 11 = .ok (.aload_n 0, 1) := by decide +kernel
theorem dX12_unitTaken_12 : decode cX12_unitTaken 12 = .ok (.iload_n 2, 1) := by decide +kernel
theorem dX12_unitTaken_13 : decode cX12_unitTaken 13 = .ok (.invokevirtual 106, 3) := by decide +kernel
theorem dX12_unitTaken_16 : decode cX12_unitTaken 16 = .ok (.ifCond .ne 10, 3) := by decide +kernel
theorem dX12_unitTaken_19 : decode cX12_unitTaken 19 = .ok (.aload_n 0, 1) := by decide +kernel
theorem dX12_unitTaken_20 : decode cX12_unitTaken 20 = .ok (.bipush 10, 2) := by decide +kernel
theorem dX12_unitTaken_22 : decode cX12_unitTaken 22 = .ok (.invokevirtual 89, 3) := by decide +kernel
theorem dX12_unitTaken_25 : decode cX12_unitTaken 25 = .ok (.ireturn, 1) := by decide +kernel
theorem dX12_unitTaken_26 : decode cX12_unitTaken 26 = .ok (.aload_n 0, 1) := by decide +kernel
theorem dX12_unitTaken_27 : decode cX12_unitTaken 27 = .ok (.iload_n 2, 1) := by decide +kernel
theorem dX12_unitTaken_28 : decode cX12_unitTaken 28 = .ok (.invokevirtual 170, 3) := by decide +kernel
theorem dX12_unitTaken_31 : decode cX12_unitTaken 31 = .ok (.istore_n 3, 1) := by decide +kernel
theorem dX12_unitTaken_32 : decode cX12_unitTaken 32 = .ok (.iload_n 3, 1) := by decide +kernel
theorem dX12_unitTaken_33 : decode cX12_unitTaken 33 = .ok (.iconst 1, 1) := by decide +kernel
theorem dX12_unitTaken_34 : decode cX12_unitTaken 34 = .ok (.if_icmp .eq 8, 3) := by decide +kernel
theorem dX12_unitTaken_37 : decode cX12_unitTaken 37 = .ok (.iload_n 3, 1) := by decide +kernel
theorem dX12_unitTaken_38 : decode cX12_unitTaken 38 = .ok (.iconst 3, 1) := by decide +kernel
theorem dX12_unitTaken_39 : decode cX12_unitTaken 39 = .ok (.if_icmp .ne 16, 3) := by decide +kernel
theorem dX12_unitTaken_42 : decode cX12_unitTaken 42 = .ok (.aload_n 0, 1) := by decide +kernel
theorem dX12_unitTaken_43 : decode cX12_unitTaken 43 = .ok (.aload_n 0, 1) := by decide +kernel
theorem dX12_unitTaken_44 : decode cX12_unitTaken 44 = .ok (.getfield 7, 3) := by decide +kernel
theorem dX12_unitTaken_47 : decode cX12_unitTaken 47 = .ok (.iload_n 2, 1) := by decide +kernel
theorem dX12_unitTaken_48 : decode cX12_unitTaken 48 = .ok (.iaload, 1) := by decide +kernel
theorem dX12_unitTaken_49 : decode cX12_unitTaken 49 = .ok (.invokevirtual 96, 3) := by decide +kernel
theorem dX12_unitTaken_52 : decode cX12_unitTaken 52 = .ok (.goto 9, 3) := by decide +kernel
theorem dX12_unitTaken_55 : decode cX12_unitTaken 55 = .ok (.aload_n 0, 1) := by decide +kernel
theorem dX12_unitTaken_56 : decode cX12_unitTaken 56 = .ok (.bipush 11, 2) := by decide +kernel
theorem dX12_unitTaken_58 : decode cX12_unitTaken 58 = .ok (.invokevirtual 89, 3) := by decide +kernel
theorem dX12_unitTaken_61 : decode cX12_unitTaken 61 = .ok (.ireturn, 1) := by decide +kernel
theorem dX12_forge_0 : decode cX12_forge 0 = .ok (.iload_n 1, 1) := by decide +kernel
theorem dX12_forge_1 : decode cX12_forge 1 = .ok (.iconst 0, 1) := by decide +kernel
theorem dX12_forge_2 : decode cX12_forge 2 = .ok (.iconst 5, 1) := by decide +kernel
theorem dX12_forge_3 : decode cX12_forge 3 = .ok (.invokestatic 78, 3) := by decide +kernel
theorem dX12_forge_6 : decode cX12_forge 6 = .ok (.ifCond .eq 24, 3) := by decide +kernel
theorem dX12_forge_9 : decode cX12_forge 9 = .ok (.iload_n 2, 1) := by decide +kernel
theorem dX12_forge_10 : decode cX12_forge 10 = .ok (.iconst 0, 1) := by decide +kernel
theorem dX12_forge_11 : decode cX12_forge 11 = .ok (.bipush 6, 2) := by decide +kernel
theorem dX12_forge_13 : decode cX12_forge 13 = .ok (.invokestatic 78, 3) := by decide +kernel
theorem dX12_forge_16 : decode cX12_forge 16 = .ok (.ifCond .eq 14, 3) := by decide +kernel
theorem dX12_forge_19 : decode cX12_forge 19 = .ok (.iload_n 3, 1) := by decide +kernel
theorem dX12_forge_20 : decode cX12_forge 20 = .ok (.bipush (-100), 2) := by decide +kernel
theorem dX12_forge_22 : decode cX12_forge 22 = .ok (.bipush 100, 2) := by decide +kernel
theorem dX12_forge_24 : decode cX12_forge 24 = .ok (.invokestatic 78, 3) := by decide +kernel
theorem dX12_forge_27 : decode cX12_forge 27 = .ok (.ifCond .ne 9, 3) := by decide +kernel
theorem dX12_forge_30 : decode cX12_forge 30 = .ok (.aload_n 0, 1) := by decide +kernel
theorem dX12_forge_31 : decode cX12_forge 31 = .ok (.iconst 1, 1) := by decide +kernel
theorem dX12_forge_32 : decode cX12_forge 32 = .ok (.invokevirtual 89, 3) := by decide +kernel
theorem dX12_forge_35 : decode cX12_forge 35 = .ok (.ireturn, 1) := by decide +kernel
theorem dX12_forge_36 : decode cX12_forge 36 = .ok (.aload_n 0, 1) := by decide +kernel
theorem dX12_forge_37 : decode cX12_forge 37 = .ok (.getfield 34, 3) := by decide +kernel
theorem dX12_forge_40 : decode cX12_forge 40 = .ok (.iload_n 1, 1) := by decide +kernel
theorem dX12_forge_41 : decode cX12_forge 41 = .ok (.iaload, 1) := by decide +kernel
theorem dX12_forge_42 : decode cX12_forge 42 = .ok (.istore 4, 2) := by decide +kernel
theorem dX12_forge_44 : decode cX12_forge 44 = .ok (.iload_n 2, 1) := by decide +kernel
theorem dX12_forge_45 : decode cX12_forge 45 = .ok (.tableswitch 259 0 5 #[39, 86, 105, 176, 215, 238], 39) := by decide +kernel
theorem dX12_forge_84 : decode cX12_forge 84 = .ok (.iload 4, 2) := by decide +kernel
theorem dX12_forge_86 : decode cX12_forge 86 = .ok (.iconst (-1), 1) := by decide +kernel
theorem dX12_forge_87 : decode cX12_forge 87 = .ok (.if_icmp .ne 12, 3) := by decide +kernel
theorem dX12_forge_90 : decode cX12_forge 90 = .ok (.aload_n 0, 1) := by decide +kernel
theorem dX12_forge_91 : decode cX12_forge 91 = .ok (.bipush 10, 2) := by decide +kernel
theorem dX12_forge_93 : decode cX12_forge 93 = .ok (.invokevirtual 89, 3) := by decide +kernel
theorem dX12_forge_96 : decode cX12_forge 96 = .ok (.goto 34, 3) := by decide +kernel
theorem dX12_forge_99 : decode cX12_forge 99 = .ok (.iload 4, 2) := by decide +kernel
theorem dX12_forge_101 : decode cX12_forge 101 = .ok (.iload_n 3, 1) := by decide +kernel
theorem dX12_forge_102 : decode cX12_forge 102 = .ok (.iconst 3, 1) := by decide +kernel
theorem dX12_forge_103 : decode cX12_forge 103 = .ok (.irem, 1) := by decide +kernel
theorem dX12_forge_104 : decode cX12_forge 104 = .ok (.iconst 3, 1) := by decide +kernel
theorem dX12_forge_105 : decode cX12_forge 105 = .ok (.iadd, 1) := by decide +kernel
theorem dX12_forge_106 : decode cX12_forge 106 = .ok (.iconst 3, 1) := by decide +kernel
theorem dX12_forge_107 : decode cX12_forge 107 = .ok (.irem, 1) := by decide +kernel
theorem dX12_forge_108 : decode cX12_forge 108 = .ok (.if_icmp .eq 12, 3) := by decide +kernel
theorem dX12_forge_111 : decode cX12_forge 111 = .ok (.aload_n 0, 1) := by decide +kernel
theorem dX12_forge_112 : decode cX12_forge 112 = .ok (.bipush 11, 2) := by decide +kernel
theorem dX12_forge_114 : decode cX12_forge 114 = .ok (.invokevirtual 89, 3) := by decide +kernel
theorem dX12_forge_117 : decode cX12_forge 117 = .ok (.goto 13, 3) := by decide +kernel
theorem dX12_forge_120 : decode cX12_forge 120 = .ok (.aload_n 0, 1) := by decide +kernel
theorem dX12_forge_121 : decode cX12_forge 121 = .ok (.aload_n 0, 1) := by decide +kernel
theorem dX12_forge_122 : decode cX12_forge 122 = .ok (.getfield 37, 3) := by decide +kernel
theorem dX12_forge_125 : decode cX12_forge 125 = .ok (.iload_n 1, 1) := by decide +kernel
theorem dX12_forge_126 : decode cX12_forge 126 = .ok (.iaload, 1) := by decide +kernel
theorem dX12_forge_127 : decode cX12_forge 127 = .ok (.invokevirtual 96, 3) := by decide +kernel
theorem dX12_forge_130 : decode cX12_forge 130 = .ok (.ireturn, 1) := by decide +kernel
theorem dX12_forge_131 : decode cX12_forge 131 = .ok (.iload_n 3, 1) := by decide +kernel
theorem dX12_forge_132 : decode cX12_forge 132 = .ok (.ifCond .ge 12, 3) := by decide +kernel
theorem dX12_forge_135 : decode cX12_forge 135 = .ok (.aload_n 0, 1) := by decide +kernel
theorem dX12_forge_136 : decode cX12_forge 136 = .ok (.bipush 13, 2) := by decide +kernel
theorem dX12_forge_138 : decode cX12_forge 138 = .ok (.invokevirtual 89, 3) := by decide +kernel
theorem dX12_forge_141 : decode cX12_forge 141 = .ok (.goto 8, 3) := by decide +kernel
theorem dX12_forge_144 : decode cX12_forge 144 = .ok (.aload_n 0, 1) := by decide +kernel
theorem dX12_forge_145 : decode cX12_forge 145 = .ok (.iload_n 3, 1) := by decide +kernel
theorem dX12_forge_146 : decode cX12_forge 146 = .ok (.invokevirtual 96, 3) := by decide +kernel
theorem dX12_forge_149 : decode cX12_forge 149 = .ok (.ireturn, 1) := by decide +kernel
theorem dX12_forge_150 : decode cX12_forge 150 = .ok (.iload 4, 2) := by decide +kernel
theorem dX12_forge_152 : decode cX12_forge 152 = .ok (.iconst (-1), 1) := by decide +kernel
theorem dX12_forge_153 : decode cX12_forge 153 = .ok (.if_icmp .ne 12, 3) := by decide +kernel
theorem dX12_forge_156 : decode cX12_forge 156 = .ok (.aload_n 0, 1) := by decide +kernel
theorem dX12_forge_157 : decode cX12_forge 157 = .ok (.bipush 10, 2) := by decide +kernel
theorem dX12_forge_159 : decode cX12_forge 159 = .ok (.invokevirtual 89, 3) := by decide +kernel
theorem dX12_forge_162 : decode cX12_forge 162 = .ok (.goto 58, 3) := by decide +kernel
theorem dX12_forge_165 : decode cX12_forge 165 = .ok (.iload 4, 2) := by decide +kernel
theorem dX12_forge_167 : decode cX12_forge 167 = .ok (.iconst 1, 1) := by decide +kernel
theorem dX12_forge_168 : decode cX12_forge 168 = .ok (.if_icmp .eq 12, 3) := by decide +kernel
theorem dX12_forge_171 : decode cX12_forge 171 = .ok (.aload_n 0, 1) := by decide +kernel
theorem dX12_forge_172 : decode cX12_forge 172 = .ok (.bipush 11, 2) := by decide +kernel
theorem dX12_forge_174 : decode cX12_forge 174 = .ok (.invokevirtual 89, 3) := by decide +kernel
theorem dX12_forge_177 : decode cX12_forge 177 = .ok (.goto 43, 3) := by decide +kernel
theorem dX12_forge_180 : decode cX12_forge 180 = .ok (.iload_n 3, 1) := by decide +kernel
theorem dX12_forge_181 : decode cX12_forge 181 = .ok (.iconst 0, 1) := by decide +kernel
theorem dX12_forge_182 : decode cX12_forge 182 = .ok (.iconst 3, 1) := by decide +kernel
theorem dX12_forge_183 : decode cX12_forge 183 = .ok (.invokestatic 78, 3) := by decide +kernel
theorem dX12_forge_186 : decode cX12_forge 186 = .ok (.ifCond .eq 28, 3) := by decide +kernel
theorem dX12_forge_189 : decode cX12_forge 189 = .ok (.iconst 1, 1) := by decide +kernel
theorem dX12_forge_190 : decode cX12_forge 190 = .ok (.iload_n 3, 1) := by decide +kernel
theorem dX12_forge_191 : decode cX12_forge 191 = .ok (.iadd, 1) := by decide +kernel
theorem dX12_forge_192 : decode cX12_forge 192 = .ok (.aload_n 0, 1) := by decide +kernel
theorem dX12_forge_193 : decode cX12_forge 193 = .ok (.getfield 37, 3) := by decide +kernel
theorem dX12_forge_196 : decode cX12_forge 196 = .ok (.iload_n 1, 1) := by decide +kernel
theorem dX12_forge_197 : decode cX12_forge 197 = .ok (.iaload, 1) := by decide +kernel
theorem dX12_forge_198 : decode cX12_forge 198 = .ok (.if_icmp .gt 16, 3) := by decide +kernel
theorem dX12_forge_201 : decode cX12_forge 201 = .ok (.aload_n 0, 1) := by decide +kernel
theorem dX12_forge_202 : decode cX12_forge 202 = .ok (.aload_n 0, 1) := by decide +kernel
theorem dX12_forge_203 : decode cX12_forge 203 = .ok (.iload_n 1, 1) := by decide +kernel
theorem dX12_forge_204 : decode cX12_forge 204 = .ok (.iload_n 3, 1) := by decide +kernel
theorem dX12_forge_205 : decode cX12_forge 205 = .ok (.invokevirtual 227, 3) := by decide +kernel
theorem dX12_forge_208 : decode cX12_forge 208 = .ok (.invokevirtual 96, 3) := by decide +kernel
theorem dX12_forge_211 : decode cX12_forge 211 = .ok (.goto 9, 3) := by decide +kernel
theorem dX12_forge_214 : decode cX12_forge 214 = .ok (.aload_n 0, 1) := by decide +kernel
theorem dX12_forge_215 : decode cX12_forge 215 = .ok (.bipush 12, 2) := by decide +kernel
theorem dX12_forge_217 : decode cX12_forge 217 = .ok (.invokevirtual 89, 3) := by decide +kernel
theorem dX12_forge_220 : decode cX12_forge 220 = .ok (.ireturn, 1) := by decide +kernel
theorem dX12_forge_221 : decode cX12_forge 221 = .ok (.iload 4, 2) := by decide +kernel
theorem dX12_forge_223 : decode cX12_forge 223 = .ok (.iconst (-1), 1) := by decide +kernel
theorem dX12_forge_224 : decode cX12_forge 224 = .ok (.if_icmp .ne 11, 3) := by decide +kernel
theorem dX12_forge_227 : decode cX12_forge 227 = .ok (.aload_n 0, 1) := by decide +kernel
theorem dX12_forge_228 : decode cX12_forge 228 = .ok (.iconst 0, 1) := by decide +kernel
theorem dX12_forge_229 : decode cX12_forge 229 = .ok (.invokevirtual 96, 3) := by decide +kernel
theorem dX12_forge_232 : decode cX12_forge 232 = .ok (.goto 27, 3) := by decide +kernel
theorem dX12_forge_235 : decode cX12_forge 235 = .ok (.iload 4, 2) := by decide +kernel
theorem dX12_forge_237 : decode cX12_forge 237 = .ok (.ifCond .eq 12, 3) := by decide +kernel
theorem dX12_forge_240 : decode cX12_forge 240 = .ok (.aload_n 0, 1) := by decide +kernel
theorem dX12_forge_241 : decode cX12_forge 241 = .ok (.bipush 14, 2) := by decide +kernel
theorem dX12_forge_243 : decode cX12_forge 243 = .ok (.invokevirtual 89, 3) := by decide +kernel
theorem dX12_forge_246 : decode cX12_forge 246 = .ok (.goto 13, 3) := by decide +kernel
theorem dX12_forge_249 : decode cX12_forge 249 = .ok (.aload_n 0, 1) := by decide +kernel
theorem dX12_forge_250 : decode cX12_forge 250 = .ok (.aload_n 0, 1) := by decide +kernel
theorem dX12_forge_251 : decode cX12_forge 251 = .ok (.getfield 37, 3) := by decide +kernel
theorem dX12_forge_254 : decode cX12_forge 254 = .ok (.iload_n 1, 1) := by decide +kernel
theorem dX12_forge_255 : decode cX12_forge 255 = .ok (.iaload, 1) := by decide +kernel
theorem dX12_forge_256 : decode cX12_forge 256 = .ok (.invokevirtual 96, 3) := by decide +kernel
theorem dX12_forge_259 : decode cX12_forge 259 = .ok (.ireturn, 1) := by decide +kernel
theorem dX12_forge_260 : decode cX12_forge 260 = .ok (.iload_n 3, 1) := by decide +kernel
theorem dX12_forge_261 : decode cX12_forge 261 = .ok (.ifCond .ne 12, 3) := by decide +kernel
theorem dX12_forge_264 : decode cX12_forge 264 = .ok (.aload_n 0, 1) := by decide +kernel
theorem dX12_forge_265 : decode cX12_forge 265 = .ok (.bipush 15, 2) := by decide +kernel
theorem dX12_forge_267 : decode cX12_forge 267 = .ok (.invokevirtual 89, 3) := by decide +kernel
theorem dX12_forge_270 : decode cX12_forge 270 = .ok (.goto 12, 3) := by decide +kernel
theorem dX12_forge_273 : decode cX12_forge 273 = .ok (.aload_n 0, 1) := by decide +kernel
theorem dX12_forge_274 : decode cX12_forge 274 = .ok (.sipush 1000, 3) := by decide +kernel
theorem dX12_forge_277 : decode cX12_forge 277 = .ok (.iload_n 3, 1) := by decide +kernel
theorem dX12_forge_278 : decode cX12_forge 278 = .ok (.idiv, 1) := by decide +kernel
theorem dX12_forge_279 : decode cX12_forge 279 = .ok (.invokevirtual 96, 3) := by decide +kernel
theorem dX12_forge_282 : decode cX12_forge 282 = .ok (.ireturn, 1) := by decide +kernel
theorem dX12_forge_283 : decode cX12_forge 283 = .ok (.iload_n 3, 1) := by decide +kernel
theorem dX12_forge_284 : decode cX12_forge 284 = .ok (.iconst 1, 1) := by decide +kernel
theorem dX12_forge_285 : decode cX12_forge 285 = .ok (.iand, 1) := by decide +kernel
theorem dX12_forge_286 : decode cX12_forge 286 = .ok (.ifCond .ne 12, 3) := by decide +kernel
theorem dX12_forge_289 : decode cX12_forge 289 = .ok (.aload_n 0, 1) := by decide +kernel
theorem dX12_forge_290 : decode cX12_forge 290 = .ok (.bipush 10, 2) := by decide +kernel
theorem dX12_forge_292 : decode cX12_forge 292 = .ok (.invokevirtual 89, 3) := by decide +kernel
theorem dX12_forge_295 : decode cX12_forge 295 = .ok (.goto 8, 3) := by decide +kernel
theorem dX12_forge_298 : decode cX12_forge 298 = .ok (.aload_n 0, 1) := by decide +kernel
theorem dX12_forge_299 : decode cX12_forge 299 = .ok (.iconst 1, 1) := by decide +kernel
theorem dX12_forge_300 : decode cX12_forge 300 = .ok (.invokevirtual 96, 3) := by decide +kernel
theorem dX12_forge_303 : decode cX12_forge 303 = .ok (.ireturn, 1) := by decide +kernel
theorem dX12_forge_304 : decode cX12_forge 304 = .ok (.aload_n 0, 1) := by decide +kernel
theorem dX12_forge_305 : decode cX12_forge 305 = .ok (.iload_n 3, 1) := by decide +kernel
theorem dX12_forge_306 : decode cX12_forge 306 = .ok (.invokevirtual 230, 3) := by decide +kernel
theorem dX12_forge_309 : decode cX12_forge 309 = .ok (.ireturn, 1) := by decide +kernel
theorem dX12_status_0 : decode cX12_status 0 = .ok (.aload_n 0, 1) := by decide +kernel
theorem dX12_status_1 : decode cX12_status 1 = .ok (.getfield 71, 3) := by decide +kernel
theorem dX12_status_4 : decode cX12_status 4 = .ok (.ireturn, 1) := by decide +kernel
theorem dJ6_numberOfTrailingZeros_0f7a4_0 : decode cJ6_numberOfTrailingZeros_0f7a4 0 = .ok (.iload_n 0, 1) := by decide +kernel
theorem dJ6_numberOfTrailingZeros_0f7a4_1 : decode cJ6_numberOfTrailingZeros_0f7a4 1 = .ok (.iconst (-1), 1) := by decide +kernel
theorem dJ6_numberOfTrailingZeros_0f7a4_2 : decode cJ6_numberOfTrailingZeros_0f7a4 2 = .ok (.ixor, 1) := by decide +kernel
theorem dJ6_numberOfTrailingZeros_0f7a4_3 : decode cJ6_numberOfTrailingZeros_0f7a4 3 = .ok (.iload_n 0, 1) := by decide +kernel
theorem dJ6_numberOfTrailingZeros_0f7a4_4 : decode cJ6_numberOfTrailingZeros_0f7a4 4 = .ok (.iconst 1, 1) := by decide +kernel
theorem dJ6_numberOfTrailingZeros_0f7a4_5 : decode cJ6_numberOfTrailingZeros_0f7a4 5 = .ok (.isub, 1) := by decide +kernel
theorem dJ6_numberOfTrailingZeros_0f7a4_6 : decode cJ6_numberOfTrailingZeros_0f7a4 6 = .ok (.iand, 1) := by decide +kernel
theorem dJ6_numberOfTrailingZeros_0f7a4_7 : decode cJ6_numberOfTrailingZeros_0f7a4 7 = .ok (.istore_n 0, 1) := by decide +kernel
theorem dJ6_numberOfTrailingZeros_0f7a4_8 : decode cJ6_numberOfTrailingZeros_0f7a4 8 = .ok (.iload_n 0, 1) := by decide +kernel
theorem dJ6_numberOfTrailingZeros_0f7a4_9 : decode cJ6_numberOfTrailingZeros_0f7a4 9 = .ok (.ifCond .gt 8, 3) := by decide +kernel
theorem dJ6_numberOfTrailingZeros_0f7a4_12 : decode cJ6_numberOfTrailingZeros_0f7a4 12 = .ok (.iload_n 0, 1) := by decide +kernel
theorem dJ6_numberOfTrailingZeros_0f7a4_13 : decode cJ6_numberOfTrailingZeros_0f7a4 13 = .ok (.bipush 32, 2) := by decide +kernel
theorem dJ6_numberOfTrailingZeros_0f7a4_15 : decode cJ6_numberOfTrailingZeros_0f7a4 15 = .ok (.iand, 1) := by decide +kernel
theorem dJ6_numberOfTrailingZeros_0f7a4_16 : decode cJ6_numberOfTrailingZeros_0f7a4 16 = .ok (.ireturn, 1) := by decide +kernel
theorem dJ6_numberOfTrailingZeros_0f7a4_17 : decode cJ6_numberOfTrailingZeros_0f7a4 17 = .ok (.iconst 1, 1) := by decide +kernel
theorem dJ6_numberOfTrailingZeros_0f7a4_18 : decode cJ6_numberOfTrailingZeros_0f7a4 18 = .ok (.istore_n 1, 1) := by decide +kernel
theorem dJ6_numberOfTrailingZeros_0f7a4_19 : decode cJ6_numberOfTrailingZeros_0f7a4 19 = .ok (.iload_n 0, 1) := by decide +kernel
theorem dJ6_numberOfTrailingZeros_0f7a4_20 : decode cJ6_numberOfTrailingZeros_0f7a4 20 = .ok (.ldc_w 264, 3) := by decide +kernel
theorem dJ6_numberOfTrailingZeros_0f7a4_23 : decode cJ6_numberOfTrailingZeros_0f7a4 23 = .ok (.if_icmp .le 11, 3) := by decide +kernel
theorem dJ6_numberOfTrailingZeros_0f7a4_26 : decode cJ6_numberOfTrailingZeros_0f7a4 26 = .ok (.iinc 1 16, 3) := by decide +kernel
