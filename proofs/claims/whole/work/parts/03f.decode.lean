theorem dX8_wholeBound_206 : decode cX8_wholeBound 206 = .ok (.getfield 95, 3) := by decide +kernel
theorem dX8_wholeBound_209 : decode cX8_wholeBound 209 = .ok (.iload 5, 2) := by decide +kernel
theorem dX8_wholeBound_211 : decode cX8_wholeBound 211 = .ok (.iaload, 1) := by decide +kernel
theorem dX8_wholeBound_212 : decode cX8_wholeBound 212 = .ok (.iadd, 1) := by decide +kernel
theorem dX8_wholeBound_213 : decode cX8_wholeBound 213 = .ok (.aload_n 0, 1) := by decide +kernel
theorem dX8_wholeBound_214 : decode cX8_wholeBound 214 = .ok (.getfield 107, 3) := by decide +kernel
theorem dX8_wholeBound_217 : decode cX8_wholeBound 217 = .ok (.iload_n 2, 1) := by decide +kernel
theorem dX8_wholeBound_218 : decode cX8_wholeBound 218 = .ok (.iaload, 1) := by decide +kernel
theorem dX8_wholeBound_219 : decode cX8_wholeBound 219 = .ok (.if_icmp .le 16, 3) := by decide +kernel
theorem dX8_wholeBound_222 : decode cX8_wholeBound 222 = .ok (.iload 7, 2) := by decide +kernel
theorem dX8_wholeBound_224 : decode cX8_wholeBound 224 = .ok (.aload_n 0, 1) := by decide +kernel
theorem dX8_wholeBound_225 : decode cX8_wholeBound 225 = .ok (.getfield 95, 3) := by decide +kernel
theorem dX8_wholeBound_228 : decode cX8_wholeBound 228 = .ok (.iload 5, 2) := by decide +kernel
theorem dX8_wholeBound_230 : decode cX8_wholeBound 230 = .ok (.iaload, 1) := by decide +kernel
theorem dX8_wholeBound_231 : decode cX8_wholeBound 231 = .ok (.iadd, 1) := by decide +kernel
theorem dX8_wholeBound_232 : decode cX8_wholeBound 232 = .ok (.goto 9, 3) := by decide +kernel
theorem dX8_wholeBound_235 : decode cX8_wholeBound 235 = .ok (.aload_n 0, 1) := by decide +kernel
theorem dX8_wholeBound_236 : decode cX8_wholeBound 236 = .ok (.getfield 107, 3) := by decide +kernel
theorem dX8_wholeBound_239 : decode cX8_wholeBound 239 = .ok (.iload_n 2, 1) := by decide +kernel
theorem dX8_wholeBound_240 : decode cX8_wholeBound 240 = .ok (.iaload, 1) := by decide +kernel
theorem dX8_wholeBound_241 : decode cX8_wholeBound 241 = .ok (.istore 8, 2) := by decide +kernel
theorem dX8_wholeBound_243 : decode cX8_wholeBound 243 = .ok (.iload 8, 2) := by decide +kernel
theorem dX8_wholeBound_245 : decode cX8_wholeBound 245 = .ok (.iload_n 1, 1) := by decide +kernel
theorem dX8_wholeBound_246 : decode cX8_wholeBound 246 = .ok (.if_icmp .ge 36, 3) := by decide +kernel
theorem dX8_wholeBound_249 : decode cX8_wholeBound 249 = .ok (.iload_n 3, 1) := by decide +kernel
theorem dX8_wholeBound_250 : decode cX8_wholeBound 250 = .ok (.iconst 1, 1) := by decide +kernel
theorem dX8_wholeBound_251 : decode cX8_wholeBound 251 = .ok (.iload 4, 2) := by decide +kernel
theorem dX8_wholeBound_253 : decode cX8_wholeBound 253 = .ok (.ishl, 1) := by decide +kernel
theorem dX8_wholeBound_254 : decode cX8_wholeBound 254 = .ok (.ior, 1) := by decide +kernel
theorem dX8_wholeBound_255 : decode cX8_wholeBound 255 = .ok (.istore_n 3, 1) := by decide +kernel
theorem dX8_wholeBound_256 : decode cX8_wholeBound 256 = .ok (.iinc 2 1, 3) := by decide +kernel
theorem dX8_wholeBound_259 : decode cX8_wholeBound 259 = .ok (.aload_n 0, 1) := by decide +kernel
theorem dX8_wholeBound_260 : decode cX8_wholeBound 260 = .ok (.getfield 101, 3) := by decide +kernel
theorem dX8_wholeBound_263 : decode cX8_wholeBound 263 = .ok (.iload_n 2, 1) := by decide +kernel
theorem dX8_wholeBound_264 : decode cX8_wholeBound 264 = .ok (.iconst (-1), 1) := by decide +kernel
theorem dX8_wholeBound_265 : decode cX8_wholeBound 265 = .ok (.iastore, 1) := by decide +kernel
theorem dX8_wholeBound_266 : decode cX8_wholeBound 266 = .ok (.aload_n 0, 1) := by decide +kernel
theorem dX8_wholeBound_267 : decode cX8_wholeBound 267 = .ok (.getfield 104, 3) := by decide +kernel
theorem dX8_wholeBound_270 : decode cX8_wholeBound 270 = .ok (.iload_n 2, 1) := by decide +kernel
theorem dX8_wholeBound_271 : decode cX8_wholeBound 271 = .ok (.iload 7, 2) := by decide +kernel
theorem dX8_wholeBound_273 : decode cX8_wholeBound 273 = .ok (.iastore, 1) := by decide +kernel
theorem dX8_wholeBound_274 : decode cX8_wholeBound 274 = .ok (.aload_n 0, 1) := by decide +kernel
theorem dX8_wholeBound_275 : decode cX8_wholeBound 275 = .ok (.getfield 107, 3) := by decide +kernel
theorem dX8_wholeBound_278 : decode cX8_wholeBound 278 = .ok (.iload_n 2, 1) := by decide +kernel
theorem dX8_wholeBound_279 : decode cX8_wholeBound 279 = .ok (.iload 8, 2) := by decide +kernel
theorem dX8_wholeBound_281 : decode cX8_wholeBound 281 = .ok (.iastore, 1) := by decide +kernel
theorem dX8_wholeBound_282 : decode cX8_wholeBound 282 = .ok (.goto (-253), 3) := by decide +kernel
theorem dX8_wholeBound_285 : decode cX8_wholeBound 285 = .ok (.iload_n 1, 1) := by decide +kernel
theorem dX8_wholeBound_286 : decode cX8_wholeBound 286 = .ok (.ireturn, 1) := by decide +kernel
theorem dX8_bound_0 : decode cX8_bound 0 = .ok (.iload_n 1, 1) := by decide +kernel
theorem dX8_bound_1 : decode cX8_bound 1 = .ok (.i2l, 1) := by decide +kernel
theorem dX8_bound_2 : decode cX8_bound 2 = .ok (.lconst 0, 1) := by decide +kernel
theorem dX8_bound_3 : decode cX8_bound 3 = .ok (.aload_n 0, 1) := by decide +kernel
theorem dX8_bound_4 : decode cX8_bound 4 = .ok (.getfield 133, 3) := by decide +kernel
theorem dX8_bound_7 : decode cX8_bound 7 = .ok (.iconst 1, 1) := by decide +kernel
theorem dX8_bound_8 : decode cX8_bound 8 = .ok (.isub, 1) := by decide +kernel
theorem dX8_bound_9 : decode cX8_bound 9 = .ok (.i2l, 1) := by decide +kernel
theorem dX8_bound_10 : decode cX8_bound 10 = .ok (.invokestatic 124, 3) := by decide +kernel
theorem dX8_bound_13 : decode cX8_bound 13 = .ok (.ifCond .ne 6, 3) := by decide +kernel
theorem dX8_bound_16 : decode cX8_bound 16 = .ok (.ldc 146, 2) := by decide +kernel
theorem dX8_bound_18 : decode cX8_bound 18 = .ok (.ireturn, 1) := by decide +kernel
theorem dX8_bound_19 : decode cX8_bound 19 = .ok (.iload_n 2, 1) := by decide +kernel
theorem dX8_bound_20 : decode cX8_bound 20 = .ok (.i2l, 1) := by decide +kernel
theorem dX8_bound_21 : decode cX8_bound 21 = .ok (.lconst 0, 1) := by decide +kernel
theorem dX8_bound_22 : decode cX8_bound 22 = .ok (.lconst 1, 1) := by decide +kernel
theorem dX8_bound_23 : decode cX8_bound 23 = .ok (.invokestatic 124, 3) := by decide +kernel
theorem dX8_bound_26 : decode cX8_bound 26 = .ok (.ifCond .ne 6, 3) := by decide +kernel
theorem dX8_bound_29 : decode cX8_bound 29 = .ok (.ldc 132, 2) := by decide +kernel
theorem dX8_bound_31 : decode cX8_bound 31 = .ok (.ireturn, 1) := by decide +kernel
theorem dX8_bound_32 : decode cX8_bound 32 = .ok (.aload_n 0, 1) := by decide +kernel
theorem dX8_bound_33 : decode cX8_bound 33 = .ok (.iload_n 1, 1) := by decide +kernel
theorem dX8_bound_34 : decode cX8_bound 34 = .ok (.invokevirtual 290, 3) := by decide +kernel
theorem dX8_bound_37 : decode cX8_bound 37 = .ok (.aload_n 0, 1) := by decide +kernel
theorem dX8_bound_38 : decode cX8_bound 38 = .ok (.getfield 7, 3) := by decide +kernel
theorem dX8_bound_41 : decode cX8_bound 41 = .ok (.iload_n 1, 1) := by decide +kernel
theorem dX8_bound_42 : decode cX8_bound 42 = .ok (.iaload, 1) := by decide +kernel
theorem dX8_bound_43 : decode cX8_bound 43 = .ok (.ifCond .ne 17, 3) := by decide +kernel
theorem dX8_bound_46 : decode cX8_bound 46 = .ok (.iload_n 2, 1) := by decide +kernel
theorem dX8_bound_47 : decode cX8_bound 47 = .ok (.iconst 1, 1) := by decide +kernel
theorem dX8_bound_48 : decode cX8_bound 48 = .ok (.if_icmp .ne 15, 3) := by decide +kernel
theorem dX8_bound_51 : decode cX8_bound 51 = .ok (.aload_n 0, 1) := by decide +kernel
theorem dX8_bound_52 : decode cX8_bound 52 = .ok (.getfield 285, 3) := by decide +kernel
theorem dX8_bound_55 : decode cX8_bound 55 = .ok (.bipush 8, 2) := by decide +kernel
theorem dX8_bound_57 : decode cX8_bound 57 = .ok (.if_icmp .le 6, 3) := by decide +kernel
theorem dX8_bound_60 : decode cX8_bound 60 = .ok (.ldc 179, 2) := by decide +kernel
theorem dX8_bound_62 : decode cX8_bound 62 = .ok (.ireturn, 1) := by decide +kernel
theorem dX8_bound_63 : decode cX8_bound 63 = .ok (.aload_n 0, 1) := by decide +kernel
theorem dX8_bound_64 : decode cX8_bound 64 = .ok (.getfield 285, 3) := by decide +kernel
theorem dX8_bound_67 : decode cX8_bound 67 = .ok (.ifCond .ne 7, 3) := by decide +kernel
theorem dX8_bound_70 : decode cX8_bound 70 = .ok (.iconst 0, 1) := by decide +kernel
theorem dX8_bound_71 : decode cX8_bound 71 = .ok (.goto 18, 3) := by decide +kernel
theorem dX8_bound_74 : decode cX8_bound 74 = .ok (.iload_n 2, 1) := by decide +kernel
theorem dX8_bound_75 : decode cX8_bound 75 = .ok (.ifCond .ne 10, 3) := by decide +kernel
theorem dX8_bound_78 : decode cX8_bound 78 = .ok (.aload_n 0, 1) := by decide +kernel
theorem dX8_bound_79 : decode cX8_bound 79 = .ok (.invokevirtual 293, 3) := by decide +kernel
theorem dX8_bound_82 : decode cX8_bound 82 = .ok (.goto 7, 3) := by decide +kernel
theorem dX8_bound_85 : decode cX8_bound 85 = .ok (.aload_n 0, 1) := by decide +kernel
theorem dX8_bound_86 : decode cX8_bound 86 = .ok (.invokevirtual 296, 3) := by decide +kernel
theorem dX8_bound_89 : decode cX8_bound 89 = .ok (.ireturn, 1) := by decide +kernel
theorem dX8_pushCase_0 : decode cX8_pushCase 0 = .ok (.iconst 0, 1) := by decide +kernel
theorem dX8_pushCase_1 : decode cX8_pushCase 1 = .ok (.istore_n 1, 1) := by decide +kernel
theorem dX8_pushCase_2 : decode cX8_pushCase 2 = .ok (.iload_n 1, 1) := by decide +kernel
theorem dX8_pushCase_3 : decode cX8_pushCase 3 = .ok (.bipush 32, 2) := by decide +kernel
theorem dX8_pushCase_5 : decode cX8_pushCase 5 = .ok (.if_icmp .ge 29, 3) := by decide +kernel
theorem dX8_pushCase_8 : decode cX8_pushCase 8 = .ok (.aload_n 0, 1) := by decide +kernel
theorem dX8_pushCase_9 : decode cX8_pushCase 9 = .ok (.getfield 110, 3) := by decide +kernel
theorem dX8_pushCase_12 : decode cX8_pushCase 12 = .ok (.bipush 32, 2) := by decide +kernel
theorem dX8_pushCase_14 : decode cX8_pushCase 14 = .ok (.aload_n 0, 1) := by decide +kernel
theorem dX8_pushCase_15 : decode cX8_pushCase 15 = .ok (.getfield 299, 3) := by decide +kernel
theorem dX8_pushCase_18 : decode cX8_pushCase 18 = .ok (.imul, 1) := by decide +kernel
theorem dX8_pushCase_19 : decode cX8_pushCase 19 = .ok (.iload_n 1, 1) := by decide +kernel
theorem dX8_pushCase_20 : decode cX8_pushCase 20 = .ok (.iadd, 1) := by decide +kernel
theorem dX8_pushCase_21 : decode cX8_pushCase 21 = .ok (.aload_n 0, 1) := by decide +kernel
theorem dX8_pushCase_22 : decode cX8_pushCase 22 = .ok (.getfield 77, 3) := by decide +kernel
theorem dX8_pushCase_25 : decode cX8_pushCase 25 = .ok (.iload_n 1, 1) := by decide +kernel
theorem dX8_pushCase_26 : decode cX8_pushCase 26 = .ok (.iaload, 1) := by decide +kernel
theorem dX8_pushCase_27 : decode cX8_pushCase 27 = .ok (.iastore, 1) := by decide +kernel
theorem dX8_pushCase_28 : decode cX8_pushCase 28 = .ok (.iinc 1 1, 3) := by decide +kernel
theorem dX8_pushCase_31 : decode cX8_pushCase 31 = .ok (.goto (-29), 3) := by decide +kernel
theorem dX8_pushCase_34 : decode cX8_pushCase 34 = .ok (.aload_n 0, 1) := by decide +kernel
theorem dX8_pushCase_35 : decode cX8_pushCase 35 = .ok (.dup, 1) := by decide +kernel
theorem dX8_pushCase_36 : decode cX8_pushCase 36 = .ok (.getfield 299, 3) := by decide +kernel
theorem dX8_pushCase_39 : decode cX8_pushCase 39 = .ok (.iconst 1, 1) := by decide +kernel
theorem dX8_pushCase_40 : decode cX8_pushCase 40 = .ok (.iadd, 1) := by decide +kernel
theorem dX8_pushCase_41 : decode cX8_pushCase 41 = .ok (.putfield 299, 3) := by decide +kernel
theorem dX8_pushCase_44 : decode cX8_pushCase 44 = .ok (.return_, 1) := by decide +kernel
theorem dX8_popCase_0 : decode cX8_popCase 0 = .ok (.aload_n 0, 1) := by decide +kernel
theorem dX8_popCase_1 : decode cX8_popCase 1 = .ok (.dup, 1) := by decide +kernel
theorem dX8_popCase_2 : decode cX8_popCase 2 = .ok (.getfield 299, 3) := by decide +kernel
theorem dX8_popCase_5 : decode cX8_popCase 5 = .ok (.iconst 1, 1) := by decide +kernel
theorem dX8_popCase_6 : decode cX8_popCase 6 = .ok (.isub, 1) := by decide +kernel
theorem dX8_popCase_7 : decode cX8_popCase 7 = .ok (.putfield 299, 3) := by decide +kernel
theorem dX8_popCase_10 : decode cX8_popCase 10 = .ok (.iconst 0, 1) := by decide +kernel
theorem dX8_popCase_11 : decode cX8_popCase 11 = .ok (.istore_n 1, 1) := by decide +kernel
theorem dX8_popCase_12 : decode cX8_popCase 12 = .ok (.iload_n 1, 1) := by decide +kernel
theorem dX8_popCase_13 : decode cX8_popCase 13 = .ok (.bipush 32, 2) := by decide +kernel
theorem dX8_popCase_15 : decode cX8_popCase 15 = .ok (.if_icmp .ge 29, 3) := by decide +kernel
theorem dX8_popCase_18 : decode cX8_popCase 18 = .ok (.aload_n 0, 1) := by decide +kernel
theorem dX8_popCase_19 : decode cX8_popCase 19 = .ok (.getfield 77, 3) := by decide +kernel
theorem dX8_popCase_22 : decode cX8_popCase 22 = .ok (.iload_n 1, 1) := by decide +kernel
theorem dX8_popCase_23 : decode cX8_popCase 23 = .ok (.aload_n 0, 1) := by decide +kernel
theorem dX8_popCase_24 : decode cX8_popCase 24 = .ok (.getfield 110, 3) := by decide +kernel
theorem dX8_popCase_27 : decode cX8_popCase 27 = .ok (.bipush 32, 2) := by decide +kernel
theorem dX8_popCase_29 : decode cX8_popCase 29 = .ok (.aload_n 0, 1) := by decide +kernel
theorem dX8_popCase_30 : decode cX8_popCase 30 = .ok (.getfield 299, 3) := by decide +kernel
theorem dX8_popCase_33 : decode cX8_popCase 33 = .ok (.imul, 1) := by decide +kernel
theorem dX8_popCase_34 : decode cX8_popCase 34 = .ok (.iload_n 1, 1) := by decide +kernel
theorem dX8_popCase_35 : decode cX8_popCase 35 = .ok (.iadd, 1) := by decide +kernel
theorem dX8_popCase_36 : decode cX8_popCase 36 = .ok (.iaload, 1) := by decide +kernel
theorem dX8_popCase_37 : decode cX8_popCase 37 = .ok (.iastore, 1) := by decide +kernel
theorem dX8_popCase_38 : decode cX8_popCase 38 = .ok (.iinc 1 1, 3) := by decide +kernel
theorem dX8_popCase_41 : decode cX8_popCase 41 = .ok (.goto (-29), 3) := by decide +kernel
theorem dX8_popCase_44 : decode cX8_popCase 44 = .ok (.return_, 1) := by decide +kernel
theorem dX8_complete_0 : decode cX8_complete 0 = .ok (.iconst 0, 1) := by decide +kernel
theorem dX8_complete_1 : decode cX8_complete 1 = .ok (.istore_n 1, 1) := by decide +kernel
theorem dX8_complete_2 : decode cX8_complete 2 = .ok (.iload_n 1, 1) := by decide +kernel
theorem dX8_complete_3 : decode cX8_complete 3 = .ok (.sipush 256, 3) := by decide +kernel
theorem dX8_complete_6 : decode cX8_complete 6 = .ok (.if_icmp .ge 21, 3) := by decide +kernel
theorem dX8_complete_9 : decode cX8_complete 9 = .ok (.aload_n 0, 1) := by decide +kernel
theorem dX8_complete_10 : decode cX8_complete 10 = .ok (.getfield 113, 3) := by decide +kernel
theorem dX8_complete_13 : decode cX8_complete 13 = .ok (.iload_n 1, 1) := by decide +kernel
theorem dX8_complete_14 : decode cX8_complete 14 = .ok (.aload_n 0, 1) := by decide +kernel
theorem dX8_complete_15 : decode cX8_complete 15 = .ok (.getfield 37, 3) := by decide +kernel
theorem dX8_complete_18 : decode cX8_complete 18 = .ok (.iload_n 1, 1) := by decide +kernel
theorem dX8_complete_19 : decode cX8_complete 19 = .ok (.iaload, 1) := by decide +kernel
theorem dX8_complete_20 : decode cX8_complete 20 = .ok (.iastore, 1) := by decide +kernel
theorem dX8_complete_21 : decode cX8_complete 21 = .ok (.iinc 1 1, 3) := by decide +kernel
theorem dX8_complete_24 : decode cX8_complete 24 = .ok (.goto (-22), 3) := by decide +kernel
theorem dX8_complete_27 : decode cX8_complete 27 = .ok (.iconst 0, 1) := by decide +kernel
theorem dX8_complete_28 : decode cX8_complete 28 = .ok (.istore_n 1, 1) := by decide +kernel
theorem dX8_complete_29 : decode cX8_complete 29 = .ok (.iload_n 1, 1) := by decide +kernel
theorem dX8_complete_30 : decode cX8_complete 30 = .ok (.aload_n 0, 1) := by decide +kernel
theorem dX8_complete_31 : decode cX8_complete 31 = .ok (.getfield 133, 3) := by decide +kernel
theorem dX8_complete_34 : decode cX8_complete 34 = .ok (.if_icmp .ge 23, 3) := by decide +kernel
theorem dX8_complete_37 : decode cX8_complete 37 = .ok (.aload_n 0, 1) := by decide +kernel
theorem dX8_complete_38 : decode cX8_complete 38 = .ok (.getfield 7, 3) := by decide +kernel
theorem dX8_complete_41 : decode cX8_complete 41 = .ok (.iload_n 1, 1) := by decide +kernel
theorem dX8_complete_42 : decode cX8_complete 42 = .ok (.iaload, 1) := by decide +kernel
theorem dX8_complete_43 : decode cX8_complete 43 = .ok (.ifCond .ne 8, 3) := by decide +kernel
theorem dX8_complete_46 : decode cX8_complete 46 = .ok (.aload_n 0, 1) := by decide +kernel
theorem dX8_complete_47 : decode cX8_complete 47 = .ok (.iload_n 1, 1) := by decide +kernel
theorem dX8_complete_48 : decode cX8_complete 48 = .ok (.invokevirtual 302, 3) := by decide +kernel
theorem dX8_complete_51 : decode cX8_complete 51 = .ok (.iinc 1 1, 3) := by decide +kernel
theorem dX8_complete_54 : decode cX8_complete 54 = .ok (.goto (-25), 3) := by decide +kernel
theorem dX8_complete_57 : decode cX8_complete 57 = .ok (.aload_n 0, 1) := by decide +kernel
theorem dX8_complete_58 : decode cX8_complete 58 = .ok (.invokevirtual 192, 3) := by decide +kernel
theorem dX8_complete_61 : decode cX8_complete 61 = .ok (.ifCond .eq 33, 3) := by decide +kernel
theorem dX8_complete_64 : decode cX8_complete 64 = .ok (.aload_n 0, 1) := by decide +kernel
theorem dX8_complete_65 : decode cX8_complete 65 = .ok (.getfield 183, 3) := by decide +kernel
theorem dX8_complete_68 : decode cX8_complete 68 = .ok (.aload_n 0, 1) := by decide +kernel
theorem dX8_complete_69 : decode cX8_complete 69 = .ok (.getfield 305, 3) := by decide +kernel
theorem dX8_complete_72 : decode cX8_complete 72 = .ok (.if_icmp .ge 22, 3) := by decide +kernel
theorem dX8_complete_75 : decode cX8_complete 75 = .ok (.aload_n 0, 1) := by decide +kernel
theorem dX8_complete_76 : decode cX8_complete 76 = .ok (.aload_n 0, 1) := by decide +kernel
theorem dX8_complete_77 : decode cX8_complete 77 = .ok (.getfield 183, 3) := by decide +kernel
theorem dX8_complete_80 : decode cX8_complete 80 = .ok (.putfield 305, 3) := by decide +kernel
theorem dX8_complete_83 : decode cX8_complete 83 = .ok (.aload_n 0, 1) := by decide +kernel
theorem dX8_complete_84 : decode cX8_complete 84 = .ok (.dup, 1) := by decide +kernel
theorem dX8_complete_85 : decode cX8_complete 85 = .ok (.getfield 308, 3) := by decide +kernel
theorem dX8_complete_88 : decode cX8_complete 88 = .ok (.iconst 1, 1) := by decide +kernel
theorem dX8_complete_89 : decode cX8_complete 89 = .ok (.iadd, 1) := by decide +kernel
theorem dX8_complete_90 : decode cX8_complete 90 = .ok (.putfield 308, 3) := by decide +kernel
theorem dX8_complete_93 : decode cX8_complete 93 = .ok (.return_, 1) := by decide +kernel
theorem dX8_complete_94 : decode cX8_complete 94 = .ok (.iconst 0, 1) := by decide +kernel
theorem dX8_complete_95 : decode cX8_complete 95 = .ok (.istore_n 1, 1) := by decide +kernel
theorem dX8_complete_96 : decode cX8_complete 96 = .ok (.iload_n 1, 1) := by decide +kernel
theorem dX8_complete_97 : decode cX8_complete 97 = .ok (.sipush 256, 3) := by decide +kernel
theorem dX8_complete_100 : decode cX8_complete 100 = .ok (.if_icmp .ge 21, 3) := by decide +kernel
theorem dX8_complete_103 : decode cX8_complete 103 = .ok (.aload_n 0, 1) := by decide +kernel
theorem dX8_complete_104 : decode cX8_complete 104 = .ok (.getfield 37, 3) := by decide +kernel
theorem dX8_complete_107 : decode cX8_complete 107 = .ok (.iload_n 1, 1) := by decide +kernel
theorem dX8_complete_108 : decode cX8_complete 108 = .ok (.aload_n 0, 1) := by decide +kernel
theorem dX8_complete_109 : decode cX8_complete 109 = .ok (.getfield 113, 3) := by decide +kernel
theorem dX8_complete_112 : decode cX8_complete 112 = .ok (.iload_n 1, 1) := by decide +kernel
theorem dX8_complete_113 : decode cX8_complete 113 = .ok (.iaload, 1) := by decide +kernel
theorem dX8_complete_114 : decode cX8_complete 114 = .ok (.iastore, 1) := by decide +kernel
theorem dX8_complete_115 : decode cX8_complete 115 = .ok (.iinc 1 1, 3) := by decide +kernel
theorem dX8_complete_118 : decode cX8_complete 118 = .ok (.goto (-22), 3) := by decide +kernel
theorem dX8_complete_121 : decode cX8_complete 121 = .ok (.return_, 1) := by decide +kernel
theorem dX8_aheadOf_0 : decode cX8_aheadOf 0 = .ok (.iconst 0, 1) := by decide +kernel
theorem dX8_aheadOf_1 : decode cX8_aheadOf 1 = .ok (.istore_n 2, 1) := by decide +kernel
theorem dX8_aheadOf_2 : decode cX8_aheadOf 2 = .ok (.iconst 0, 1) := by decide +kernel
theorem dX8_aheadOf_3 : decode cX8_aheadOf 3 = .ok (.istore_n 3, 1) := by decide +kernel
theorem dX8_aheadOf_4 : decode cX8_aheadOf 4 = .ok (.iload_n 3, 1) := by decide +kernel
theorem dX8_aheadOf_5 : decode cX8_aheadOf 5 = .ok (.aload_n 0, 1) := by decide +kernel
theorem dX8_aheadOf_6 : decode cX8_aheadOf 6 = .ok (.getfield 143, 3) := by decide +kernel
theorem dX8_aheadOf_9 : decode cX8_aheadOf 9 = .ok (.if_icmp .ge 26, 3) := by decide +kernel
theorem dX8_aheadOf_12 : decode cX8_aheadOf 12 = .ok (.iload_n 2, 1) := by decide +kernel
theorem dX8_aheadOf_13 : decode cX8_aheadOf 13 = .ok (.aload_n 0, 1) := by decide +kernel
theorem dX8_aheadOf_14 : decode cX8_aheadOf 14 = .ok (.iload_n 3, 1) := by decide +kernel
theorem dX8_aheadOf_15 : decode cX8_aheadOf 15 = .ok (.iload_n 1, 1) := by decide +kernel
theorem dX8_aheadOf_16 : decode cX8_aheadOf 16 = .ok (.invokevirtual 245, 3) := by decide +kernel
theorem dX8_aheadOf_19 : decode cX8_aheadOf 19 = .ok (.ifCond .eq 7, 3) := by decide +kernel
theorem dX8_aheadOf_22 : decode cX8_aheadOf 22 = .ok (.iconst 1, 1) := by decide +kernel
theorem dX8_aheadOf_23 : decode cX8_aheadOf 23 = .ok (.goto 4, 3) := by decide +kernel
theorem dX8_aheadOf_26 : decode cX8_aheadOf 26 = .ok (.iconst 0, 1) := by decide +kernel
theorem dX8_aheadOf_27 : decode cX8_aheadOf 27 = .ok (.iadd, 1) := by decide +kernel
theorem dX8_aheadOf_28 : decode cX8_aheadOf 28 = .ok (.istore_n 2, 1) := by decide +kernel
theorem dX8_aheadOf_29 : decode cX8_aheadOf 29 = .ok (.iinc 3 1, 3) := by decide +kernel
theorem dX8_aheadOf_32 : decode cX8_aheadOf 32 = .ok (.goto (-28), 3) := by decide +kernel
theorem dX8_aheadOf_35 : decode cX8_aheadOf 35 = .ok (.iload_n 2, 1) := by decide +kernel
theorem dX8_aheadOf_36 : decode cX8_aheadOf 36 = .ok (.ireturn, 1) := by decide +kernel
theorem dX8_arrange_0 : decode cX8_arrange 0 = .ok (.iconst 0, 1) := by decide +kernel
theorem dX8_arrange_1 : decode cX8_arrange 1 = .ok (.istore_n 2, 1) := by decide +kernel
theorem dX8_arrange_2 : decode cX8_arrange 2 = .ok (.iconst 0, 1) := by decide +kernel
theorem dX8_arrange_3 : decode cX8_arrange 3 = .ok (.istore_n 3, 1) := by decide +kernel
theorem dX8_arrange_4 : decode cX8_arrange 4 = .ok (.iload_n 3, 1) := by decide +kernel
theorem dX8_arrange_5 : decode cX8_arrange 5 = .ok (.aload_n 0, 1) := by decide +kernel
theorem dX8_arrange_6 : decode cX8_arrange 6 = .ok (.getfield 143, 3) := by decide +kernel
theorem dX8_arrange_9 : decode cX8_arrange 9 = .ok (.if_icmp .ge 103, 3) := by decide +kernel
theorem dX8_arrange_12 : decode cX8_arrange 12 = .ok (.aload_n 0, 1) := by decide +kernel
theorem dX8_arrange_13 : decode cX8_arrange 13 = .ok (.iload_n 3, 1) := by decide +kernel
theorem dX8_arrange_14 : decode cX8_arrange 14 = .ok (.iload_n 1, 1) := by decide +kernel
theorem dX8_arrange_15 : decode cX8_arrange 15 = .ok (.invokevirtual 248, 3) := by decide +kernel
theorem dX8_arrange_18 : decode cX8_arrange 18 = .ok (.ifCond .ne 6, 3) := by decide +kernel
theorem dX8_arrange_21 : decode cX8_arrange 21 = .ok (.goto 85, 3) := by decide +kernel
theorem dX8_arrange_24 : decode cX8_arrange 24 = .ok (.iload_n 2, 1) := by decide +kernel
theorem dX8_arrange_25 : decode cX8_arrange 25 = .ok (.istore 4, 2) := by decide +kernel
theorem dX8_arrange_27 : decode cX8_arrange 27 = .ok (.iload 4, 2) := by decide +kernel
theorem dX8_arrange_29 : decode cX8_arrange 29 = .ok (.ifCond .le 61, 3) := by decide +kernel
theorem dX8_arrange_32 : decode cX8_arrange 32 = .ok (.aload_n 0, 1) := by decide +kernel
theorem dX8_arrange_33 : decode cX8_arrange 33 = .ok (.aload_n 0, 1) := by decide +kernel
theorem dX8_arrange_34 : decode cX8_arrange 34 = .ok (.getfield 37, 3) := by decide +kernel
theorem dX8_arrange_37 : decode cX8_arrange 37 = .ok (.bipush 32, 2) := by decide +kernel
theorem dX8_arrange_39 : decode cX8_arrange 39 = .ok (.iload_n 1, 1) := by decide +kernel
theorem dX8_arrange_40 : decode cX8_arrange 40 = .ok (.imul, 1) := by decide +kernel
theorem dX8_arrange_41 : decode cX8_arrange 41 = .ok (.iload 4, 2) := by decide +kernel
theorem dX8_arrange_43 : decode cX8_arrange 43 = .ok (.iadd, 1) := by decide +kernel
theorem dX8_arrange_44 : decode cX8_arrange 44 = .ok (.iconst 1, 1) := by decide +kernel
theorem dX8_arrange_45 : decode cX8_arrange 45 = .ok (.isub, 1) := by decide +kernel
theorem dX8_arrange_46 : decode cX8_arrange 46 = .ok (.iaload, 1) := by decide +kernel
theorem dX8_arrange_47 : decode cX8_arrange 47 = .ok (.invokevirtual 311, 3) := by decide +kernel
theorem dX8_arrange_50 : decode cX8_arrange 50 = .ok (.aload_n 0, 1) := by decide +kernel
theorem dX8_arrange_51 : decode cX8_arrange 51 = .ok (.iload_n 3, 1) := by decide +kernel
theorem dX8_arrange_52 : decode cX8_arrange 52 = .ok (.invokevirtual 311, 3) := by decide +kernel
theorem dX8_arrange_55 : decode cX8_arrange 55 = .ok (.if_icmp .le 35, 3) := by decide +kernel
theorem dX8_arrange_58 : decode cX8_arrange 58 = .ok (.aload_n 0, 1) := by decide +kernel
theorem dX8_arrange_59 : decode cX8_arrange 59 = .ok (.getfield 37, 3) := by decide +kernel
theorem dX8_arrange_62 : decode cX8_arrange 62 = .ok (.bipush 32, 2) := by decide +kernel
theorem dX8_arrange_64 : decode cX8_arrange 64 = .ok (.iload_n 1, 1) := by decide +kernel
theorem dX8_arrange_65 : decode cX8_arrange 65 = .ok (.imul, 1) := by decide +kernel
theorem dX8_arrange_66 : decode cX8_arrange 66 = .ok (.iload 4, 2) := by decide +kernel
theorem dX8_arrange_68 : decode cX8_arrange 68 = .ok (.iadd, 1) := by decide +kernel
theorem dX8_arrange_69 : decode cX8_arrange 69 = .ok (.aload_n 0, 1) := by decide +kernel
theorem dX8_arrange_70 : decode cX8_arrange 70 = .ok (.getfield 37, 3) := by decide +kernel
theorem dX8_arrange_73 : decode cX8_arrange 73 = .ok (.bipush 32, 2) := by decide +kernel
theorem dX8_arrange_75 : decode cX8_arrange 75 = .ok (.iload_n 1, 1) := by decide +kernel
theorem dX8_arrange_76 : decode cX8_arrange 76 = .ok (.imul, 1) := by decide +kernel
theorem dX8_arrange_77 : decode cX8_arrange 77 = .ok (.iload 4, 2) := by decide +kernel
theorem dX8_arrange_79 : decode cX8_arrange 79 = .ok (.iadd, 1) := by decide +kernel
theorem dX8_arrange_80 : decode cX8_arrange 80 = .ok (.iconst 1, 1) := by decide +kernel
theorem dX8_arrange_81 : decode cX8_arrange 81 = .ok (.isub, 1) := by decide +kernel
theorem dX8_arrange_82 : decode cX8_arrange 82 = .ok (.iaload, 1) := by decide +kernel
theorem dX8_arrange_83 : decode cX8_arrange 83 = .ok (.iastore, 1) := by decide +kernel
theorem dX8_arrange_84 : decode cX8_arrange 84 = .ok (.iinc 4 (-1), 3) := by decide +kernel
theorem dX8_arrange_87 : decode cX8_arrange 87 = .ok (.goto (-60), 3) := by decide +kernel
theorem dX8_arrange_90 : decode cX8_arrange 90 = .ok (.aload_n 0, 1) := by decide +kernel
theorem dX8_arrange_91 : decode cX8_arrange 91 = .ok (.getfield 37, 3) := by decide +kernel
theorem dX8_arrange_94 : decode cX8_arrange 94 = .ok (.bipush 32, 2) := by decide +kernel
theorem dX8_arrange_96 : decode cX8_arrange 96 = .ok (.iload_n 1, 1) := by decide +kernel
theorem dX8_arrange_97 : decode cX8_arrange 97 = .ok (.imul, 1) := by decide +kernel
theorem dX8_arrange_98 : decode cX8_arrange 98 = .ok (.iload 4, 2) := by decide +kernel
theorem dX8_arrange_100 : decode cX8_arrange 100 = .ok (.iadd, 1) := by decide +kernel
theorem dX8_arrange_101 : decode cX8_arrange 101 = .ok (.iload_n 3, 1) := by decide +kernel
theorem dX8_arrange_102 : decode cX8_arrange 102 = .ok (.iastore, 1) := by decide +kernel
theorem dX8_arrange_103 : decode cX8_arrange 103 = .ok (.iinc 2 1, 3) := by decide +kernel
theorem dX8_arrange_106 : decode cX8_arrange 106 = .ok (.iinc 3 1, 3) := by decide +kernel
theorem dX8_arrange_109 : decode cX8_arrange 109 = .ok (.goto (-105), 3) := by decide +kernel
theorem dX8_arrange_112 : decode cX8_arrange 112 = .ok (.return_, 1) := by decide +kernel
theorem dX8_parts_0 : decode cX8_parts 0 = .ok (.iconst 0, 1) := by decide +kernel
theorem dX8_parts_1 : decode cX8_parts 1 = .ok (.istore_n 1, 1) := by decide +kernel
theorem dX8_parts_2 : decode cX8_parts 2 = .ok (.iload_n 1, 1) := by decide +kernel
theorem dX8_parts_3 : decode cX8_parts 3 = .ok (.aload_n 0, 1) := by decide +kernel
theorem dX8_parts_4 : decode cX8_parts 4 = .ok (.getfield 143, 3) := by decide +kernel
theorem dX8_parts_7 : decode cX8_parts 7 = .ok (.if_icmp .ge 132, 3) := by decide +kernel
theorem dX8_parts_10 : decode cX8_parts 10 = .ok (.iload_n 1, 1) := by decide +kernel
theorem dX8_parts_11 : decode cX8_parts 11 = .ok (.iconst 1, 1) := by decide +kernel
theorem dX8_parts_12 : decode cX8_parts 12 = .ok (.iadd, 1) := by decide +kernel
theorem dX8_parts_13 : decode cX8_parts 13 = .ok (.istore_n 2, 1) := by decide +kernel
theorem dX8_parts_14 : decode cX8_parts 14 = .ok (.iload_n 2, 1) := by decide +kernel
theorem dX8_parts_15 : decode cX8_parts 15 = .ok (.aload_n 0, 1) := by decide +kernel
theorem dX8_parts_16 : decode cX8_parts 16 = .ok (.getfield 143, 3) := by decide +kernel
theorem dX8_parts_19 : decode cX8_parts 19 = .ok (.if_icmp .ge 114, 3) := by decide +kernel
theorem dX8_parts_22 : decode cX8_parts 22 = .ok (.aload_n 0, 1) := by decide +kernel
theorem dX8_parts_23 : decode cX8_parts 23 = .ok (.getfield 28, 3) := by decide +kernel
theorem dX8_parts_26 : decode cX8_parts 26 = .ok (.iload_n 1, 1) := by decide +kernel
theorem dX8_parts_27 : decode cX8_parts 27 = .ok (.iaload, 1) := by decide +kernel
theorem dX8_parts_28 : decode cX8_parts 28 = .ok (.aload_n 0, 1) := by decide +kernel
theorem dX8_parts_29 : decode cX8_parts 29 = .ok (.getfield 28, 3) := by decide +kernel
theorem dX8_parts_32 : decode cX8_parts 32 = .ok (.iload_n 2, 1) := by decide +kernel
theorem dX8_parts_33 : decode cX8_parts 33 = .ok (.iaload, 1) := by decide +kernel
theorem dX8_parts_34 : decode cX8_parts 34 = .ok (.if_icmp .ne 39, 3) := by decide +kernel
theorem dX8_parts_37 : decode cX8_parts 37 = .ok (.aload_n 0, 1) := by decide +kernel
theorem dX8_parts_38 : decode cX8_parts 38 = .ok (.getfield 7, 3) := by decide +kernel
theorem dX8_parts_41 : decode cX8_parts 41 = .ok (.aload_n 0, 1) := by decide +kernel
theorem dX8_parts_42 : decode cX8_parts 42 = .ok (.getfield 28, 3) := by decide +kernel
theorem dX8_parts_45 : decode cX8_parts 45 = .ok (.iload_n 1, 1) := by decide +kernel
theorem dX8_parts_46 : decode cX8_parts 46 = .ok (.iaload, 1) := by decide +kernel
theorem dX8_parts_47 : decode cX8_parts 47 = .ok (.iaload, 1) := by decide +kernel
theorem dX8_parts_48 : decode cX8_parts 48 = .ok (.ifCond .ne 25, 3) := by decide +kernel
theorem dX8_parts_51 : decode cX8_parts 51 = .ok (.aload_n 0, 1) := by decide +kernel
theorem dX8_parts_52 : decode cX8_parts 52 = .ok (.iload_n 1, 1) := by decide +kernel
theorem dX8_parts_53 : decode cX8_parts 53 = .ok (.iload_n 2, 1) := by decide +kernel
theorem dX8_parts_54 : decode cX8_parts 54 = .ok (.invokevirtual 245, 3) := by decide +kernel
theorem dX8_parts_57 : decode cX8_parts 57 = .ok (.ifCond .ne 16, 3) := by decide +kernel
theorem dX8_parts_60 : decode cX8_parts 60 = .ok (.aload_n 0, 1) := by decide +kernel
theorem dX8_parts_61 : decode cX8_parts 61 = .ok (.iload_n 2, 1) := by decide +kernel
theorem dX8_parts_62 : decode cX8_parts 62 = .ok (.iload_n 1, 1) := by decide +kernel
theorem dX8_parts_63 : decode cX8_parts 63 = .ok (.invokevirtual 245, 3) := by decide +kernel
theorem dX8_parts_66 : decode cX8_parts 66 = .ok (.ifCond .ne 7, 3) := by decide +kernel
theorem dX8_parts_69 : decode cX8_parts 69 = .ok (.iconst 1, 1) := by decide +kernel
theorem dX8_parts_70 : decode cX8_parts 70 = .ok (.goto 4, 3) := by decide +kernel
theorem dX8_parts_73 : decode cX8_parts 73 = .ok (.iconst 0, 1) := by decide +kernel
theorem dX8_parts_74 : decode cX8_parts 74 = .ok (.istore_n 3, 1) := by decide +kernel
theorem dX8_parts_75 : decode cX8_parts 75 = .ok (.iload_n 3, 1) := by decide +kernel
theorem dX8_parts_76 : decode cX8_parts 76 = .ok (.ifCond .eq 51, 3) := by decide +kernel
theorem dX8_parts_79 : decode cX8_parts 79 = .ok (.aload_n 0, 1) := by decide +kernel
theorem dX8_parts_80 : decode cX8_parts 80 = .ok (.getfield 77, 3) := by decide +kernel
theorem dX8_parts_83 : decode cX8_parts 83 = .ok (.iload_n 2, 1) := by decide +kernel
theorem dX8_parts_84 : decode cX8_parts 84 = .ok (.dup2, 1) := by decide +kernel
theorem dX8_parts_85 : decode cX8_parts 85 = .ok (.iaload, 1) := by decide +kernel
theorem dX8_parts_86 : decode cX8_parts 86 = .ok (.iconst 1, 1) := by decide +kernel
theorem dX8_parts_87 : decode cX8_parts 87 = .ok (.iload_n 1, 1) := by decide +kernel
theorem dX8_parts_88 : decode cX8_parts 88 = .ok (.ishl, 1) := by decide +kernel
theorem dX8_parts_89 : decode cX8_parts 89 = .ok (.ior, 1) := by decide +kernel
theorem dX8_parts_90 : decode cX8_parts 90 = .ok (.iastore, 1) := by decide +kernel
theorem dX8_parts_91 : decode cX8_parts 91 = .ok (.aload_n 0, 1) := by decide +kernel
theorem dX8_parts_92 : decode cX8_parts 92 = .ok (.invokevirtual 314, 3) := by decide +kernel
theorem dX8_parts_95 : decode cX8_parts 95 = .ok (.aload_n 0, 1) := by decide +kernel
theorem dX8_parts_96 : decode cX8_parts 96 = .ok (.getfield 77, 3) := by decide +kernel
theorem dX8_parts_99 : decode cX8_parts 99 = .ok (.iload_n 2, 1) := by decide +kernel
theorem dX8_parts_100 : decode cX8_parts 100 = .ok (.dup2, 1) := by decide +kernel
theorem dX8_parts_101 : decode cX8_parts 101 = .ok (.iaload, 1) := by decide +kernel
theorem dX8_parts_102 : decode cX8_parts 102 = .ok (.iconst 1, 1) := by decide +kernel
theorem dX8_parts_103 : decode cX8_parts 103 = .ok (.iload_n 1, 1) := by decide +kernel
theorem dX8_parts_104 : decode cX8_parts 104 = .ok (.ishl, 1) := by decide +kernel
theorem dX8_parts_105 : decode cX8_parts 105 = .ok (.iconst (-1), 1) := by decide +kernel
theorem dX8_parts_106 : decode cX8_parts 106 = .ok (.ixor, 1) := by decide +kernel
theorem dX8_parts_107 : decode cX8_parts 107 = .ok (.iand, 1) := by decide +kernel
theorem dX8_parts_108 : decode cX8_parts 108 = .ok (.iastore, 1) := by decide +kernel
theorem dX8_parts_109 : decode cX8_parts 109 = .ok (.aload_n 0, 1) := by decide +kernel
theorem dX8_parts_110 : decode cX8_parts 110 = .ok (.getfield 77, 3) := by decide +kernel
theorem dX8_parts_113 : decode cX8_parts 113 = .ok (.iload_n 1, 1) := by decide +kernel
theorem dX8_parts_114 : decode cX8_parts 114 = .ok (.dup2, 1) := by decide +kernel
theorem dX8_parts_115 : decode cX8_parts 115 = .ok (.iaload, 1) := by decide +kernel
theorem dX8_parts_116 : decode cX8_parts 116 = .ok (.iconst 1, 1) := by decide +kernel
theorem dX8_parts_117 : decode cX8_parts 117 = .ok (.iload_n 2, 1) := by decide +kernel
theorem dX8_parts_118 : decode cX8_parts 118 = .ok (.ishl, 1) := by decide +kernel
theorem dX8_parts_119 : decode cX8_parts 119 = .ok (.ior, 1) := by decide +kernel
theorem dX8_parts_120 : decode cX8_parts 120 = .ok (.iastore, 1) := by decide +kernel
theorem dX8_parts_121 : decode cX8_parts 121 = .ok (.aload_n 0, 1) := by decide +kernel
theorem dX8_parts_122 : decode cX8_parts 122 = .ok (.invokevirtual 314, 3) := by decide +kernel
theorem dX8_parts_125 : decode cX8_parts 125 = .ok (.iconst 1, 1) := by decide +kernel
theorem dX8_parts_126 : decode cX8_parts 126 = .ok (.ireturn, 1) := by decide +kernel
theorem dX8_parts_127 : decode cX8_parts 127 = .ok (.iinc 2 1, 3) := by decide +kernel
theorem dX8_parts_130 : decode cX8_parts 130 = .ok (.goto (-116), 3) := by decide +kernel
theorem dX8_parts_133 : decode cX8_parts 133 = .ok (.iinc 1 1, 3) := by decide +kernel
theorem dX8_parts_136 : decode cX8_parts 136 = .ok (.goto (-134), 3) := by decide +kernel
theorem dX8_parts_139 : decode cX8_parts 139 = .ok (.iconst 0, 1) := by decide +kernel
theorem dX8_parts_140 : decode cX8_parts 140 = .ok (.ireturn, 1) := by decide +kernel
theorem dX8_least_0 : decode cX8_least 0 = .ok (.iload_n 1, 1) := by decide +kernel
theorem dX8_least_1 : decode cX8_least 1 = .ok (.i2l, 1) := by decide +kernel
theorem dX8_least_2 : decode cX8_least 2 = .ok (.lconst 0, 1) := by decide +kernel
theorem dX8_least_3 : decode cX8_least 3 = .ok (.ldc2_w 128, 3) := by decide +kernel
theorem dX8_least_6 : decode cX8_least 6 = .ok (.invokestatic 124, 3) := by decide +kernel
theorem dX8_least_9 : decode cX8_least 9 = .ok (.ifCond .ne 6, 3) := by decide +kernel
theorem dX8_least_12 : decode cX8_least 12 = .ok (.ldc 132, 2) := by decide +kernel
theorem dX8_least_14 : decode cX8_least 14 = .ok (.ireturn, 1) := by decide +kernel
theorem dX8_least_15 : decode cX8_least 15 = .ok (.aload_n 0, 1) := by decide +kernel
theorem dX8_least_16 : decode cX8_least 16 = .ok (.invokevirtual 161, 3) := by decide +kernel
theorem dX8_least_19 : decode cX8_least 19 = .ok (.ifCond .eq 10, 3) := by decide +kernel
theorem dX8_least_22 : decode cX8_least 22 = .ok (.aload_n 0, 1) := by decide +kernel
theorem dX8_least_23 : decode cX8_least 23 = .ok (.getfield 143, 3) := by decide +kernel
theorem dX8_least_26 : decode cX8_least 26 = .ok (.ifCond .ne 6, 3) := by decide +kernel
theorem dX8_least_29 : decode cX8_least 29 = .ok (.ldc 179, 2) := by decide +kernel
theorem dX8_least_31 : decode cX8_least 31 = .ok (.ireturn, 1) := by decide +kernel
theorem dX8_least_32 : decode cX8_least 32 = .ok (.aload_n 0, 1) := by decide +kernel
theorem dX8_least_33 : decode cX8_least 33 = .ok (.aload_n 0, 1) := by decide +kernel
theorem dX8_least_34 : decode cX8_least 34 = .ok (.invokevirtual 192, 3) := by decide +kernel
theorem dX8_least_37 : decode cX8_least 37 = .ok (.ifCond .eq 10, 3) := by decide +kernel
theorem dX8_least_40 : decode cX8_least 40 = .ok (.aload_n 0, 1) := by decide +kernel
theorem dX8_least_41 : decode cX8_least 41 = .ok (.getfield 183, 3) := by decide +kernel
theorem dX8_least_44 : decode cX8_least 44 = .ok (.goto 9, 3) := by decide +kernel
theorem dX8_least_47 : decode cX8_least 47 = .ok (.aload_n 0, 1) := by decide +kernel
theorem dX8_least_48 : decode cX8_least 48 = .ok (.invokevirtual 165, 3) := by decide +kernel
theorem dX8_least_51 : decode cX8_least 51 = .ok (.iconst 1, 1) := by decide +kernel
theorem dX8_least_52 : decode cX8_least 52 = .ok (.iadd, 1) := by decide +kernel
theorem dX8_least_53 : decode cX8_least 53 = .ok (.putfield 305, 3) := by decide +kernel
theorem dX8_least_56 : decode cX8_least 56 = .ok (.aload_n 0, 1) := by decide +kernel
theorem dX8_least_57 : decode cX8_least 57 = .ok (.iconst 0, 1) := by decide +kernel
theorem dX8_least_58 : decode cX8_least 58 = .ok (.putfield 317, 3) := by decide +kernel
theorem dX8_least_61 : decode cX8_least 61 = .ok (.aload_n 0, 1) := by decide +kernel
theorem dX8_least_62 : decode cX8_least 62 = .ok (.iconst 0, 1) := by decide +kernel
theorem dX8_least_63 : decode cX8_least 63 = .ok (.putfield 308, 3) := by decide +kernel
theorem dX8_least_66 : decode cX8_least 66 = .ok (.aload_n 0, 1) := by decide +kernel
theorem dX8_least_67 : decode cX8_least 67 = .ok (.iconst 0, 1) := by decide +kernel
theorem dX8_least_68 : decode cX8_least 68 = .ok (.putfield 299, 3) := by decide +kernel
theorem dX8_least_71 : decode cX8_least 71 = .ok (.iconst 0, 1) := by decide +kernel
theorem dX8_least_72 : decode cX8_least 72 = .ok (.istore_n 2, 1) := by decide +kernel
theorem dX8_least_73 : decode cX8_least 73 = .ok (.iload_n 2, 1) := by decide +kernel
theorem dX8_least_74 : decode cX8_least 74 = .ok (.bipush 32, 2) := by decide +kernel
theorem dX8_least_76 : decode cX8_least 76 = .ok (.if_icmp .ge 16, 3) := by decide +kernel
theorem dX8_least_79 : decode cX8_least 79 = .ok (.aload_n 0, 1) := by decide +kernel
theorem dX8_least_80 : decode cX8_least 80 = .ok (.getfield 77, 3) := by decide +kernel
theorem dX8_least_83 : decode cX8_least 83 = .ok (.iload_n 2, 1) := by decide +kernel
theorem dX8_least_84 : decode cX8_least 84 = .ok (.iconst 0, 1) := by decide +kernel
theorem dX8_least_85 : decode cX8_least 85 = .ok (.iastore, 1) := by decide +kernel
theorem dX8_least_86 : decode cX8_least 86 = .ok (.iinc 2 1, 3) := by decide +kernel
theorem dX8_least_89 : decode cX8_least 89 = .ok (.goto (-16), 3) := by decide +kernel
theorem dX8_least_92 : decode cX8_least 92 = .ok (.aload_n 0, 1) := by decide +kernel
theorem dX8_least_93 : decode cX8_least 93 = .ok (.invokevirtual 314, 3) := by decide +kernel
theorem dX8_least_96 : decode cX8_least 96 = .ok (.aload_n 0, 1) := by decide +kernel
theorem dX8_least_97 : decode cX8_least 97 = .ok (.getfield 299, 3) := by decide +kernel
theorem dX8_least_100 : decode cX8_least 100 = .ok (.ifCond .le 54, 3) := by decide +kernel
theorem dX8_least_103 : decode cX8_least 103 = .ok (.aload_n 0, 1) := by decide +kernel
theorem dX8_least_104 : decode cX8_least 104 = .ok (.getfield 317, 3) := by decide +kernel
theorem dX8_least_107 : decode cX8_least 107 = .ok (.iload_n 1, 1) := by decide +kernel
theorem dX8_least_108 : decode cX8_least 108 = .ok (.if_icmp .ne 5, 3) := by decide +kernel
theorem dX8_least_111 : decode cX8_least 111 = .ok (.iconst 0, 1) := by decide +kernel
theorem dX8_least_112 : decode cX8_least 112 = .ok (.ireturn, 1) := by decide +kernel
theorem dX8_least_113 : decode cX8_least 113 = .ok (.aload_n 0, 1) := by decide +kernel
theorem dX8_least_114 : decode cX8_least 114 = .ok (.dup, 1) := by decide +kernel
theorem dX8_least_115 : decode cX8_least 115 = .ok (.getfield 317, 3) := by decide +kernel
theorem dX8_least_118 : decode cX8_least 118 = .ok (.iconst 1, 1) := by decide +kernel
theorem dX8_least_119 : decode cX8_least 119 = .ok (.iadd, 1) := by decide +kernel
theorem dX8_least_120 : decode cX8_least 120 = .ok (.putfield 317, 3) := by decide +kernel
theorem dX8_least_123 : decode cX8_least 123 = .ok (.aload_n 0, 1) := by decide +kernel
theorem dX8_least_124 : decode cX8_least 124 = .ok (.invokevirtual 320, 3) := by decide +kernel
theorem dX8_least_127 : decode cX8_least 127 = .ok (.aload_n 0, 1) := by decide +kernel
theorem dX8_least_128 : decode cX8_least 128 = .ok (.aload_n 0, 1) := by decide +kernel
theorem dX8_least_129 : decode cX8_least 129 = .ok (.getfield 305, 3) := by decide +kernel
theorem dX8_least_132 : decode cX8_least 132 = .ok (.iconst 1, 1) := by decide +kernel
theorem dX8_least_133 : decode cX8_least 133 = .ok (.isub, 1) := by decide +kernel
theorem dX8_least_134 : decode cX8_least 134 = .ok (.invokevirtual 276, 3) := by decide +kernel
theorem dX8_least_137 : decode cX8_least 137 = .ok (.ifCond .eq (-41), 3) := by decide +kernel
theorem dX8_least_140 : decode cX8_least 140 = .ok (.aload_n 0, 1) := by decide +kernel
theorem dX8_least_141 : decode cX8_least 141 = .ok (.invokevirtual 323, 3) := by decide +kernel
theorem dX8_least_144 : decode cX8_least 144 = .ok (.ifCond .ne (-48), 3) := by decide +kernel
theorem dX8_least_147 : decode cX8_least 147 = .ok (.aload_n 0, 1) := by decide +kernel
theorem dX8_least_148 : decode cX8_least 148 = .ok (.invokevirtual 326, 3) := by decide +kernel
theorem dX8_least_151 : decode cX8_least 151 = .ok (.goto (-55), 3) := by decide +kernel
theorem dX8_least_154 : decode cX8_least 154 = .ok (.iconst 1, 1) := by decide +kernel
theorem dX8_least_155 : decode cX8_least 155 = .ok (.ireturn, 1) := by decide +kernel
theorem dX8_found_0 : decode cX8_found 0 = .ok (.iload_n 1, 1) := by decide +kernel
theorem dX8_found_1 : decode cX8_found 1 = .ok (.ifCond .ne 10, 3) := by decide +kernel
theorem dX8_found_4 : decode cX8_found 4 = .ok (.aload_n 0, 1) := by decide +kernel
theorem dX8_found_5 : decode cX8_found 5 = .ok (.getfield 305, 3) := by decide +kernel
theorem dX8_found_8 : decode cX8_found 8 = .ok (.goto 29, 3) := by decide +kernel
theorem dX8_found_11 : decode cX8_found 11 = .ok (.iload_n 1, 1) := by decide +kernel
theorem dX8_found_12 : decode cX8_found 12 = .ok (.iconst 1, 1) := by decide +kernel
theorem dX8_found_13 : decode cX8_found 13 = .ok (.if_icmp .ne 10, 3) := by decide +kernel
theorem dX8_found_16 : decode cX8_found 16 = .ok (.aload_n 0, 1) := by decide +kernel
theorem dX8_found_17 : decode cX8_found 17 = .ok (.getfield 317, 3) := by decide +kernel
theorem dX8_found_20 : decode cX8_found 20 = .ok (.goto 17, 3) := by decide +kernel
theorem dX8_found_23 : decode cX8_found 23 = .ok (.iload_n 1, 1) := by decide +kernel
theorem dX8_found_24 : decode cX8_found 24 = .ok (.iconst 2, 1) := by decide +kernel
theorem dX8_found_25 : decode cX8_found 25 = .ok (.if_icmp .ne 10, 3) := by decide +kernel
theorem dX8_found_28 : decode cX8_found 28 = .ok (.aload_n 0, 1) := by decide +kernel
theorem dX8_found_29 : decode cX8_found 29 = .ok (.getfield 308, 3) := by decide +kernel
theorem dX8_found_32 : decode cX8_found 32 = .ok (.goto 5, 3) := by decide +kernel
theorem dX8_found_35 : decode cX8_found 35 = .ok (.ldc 132, 2) := by decide +kernel
theorem dX8_found_37 : decode cX8_found 37 = .ok (.ireturn, 1) := by decide +kernel
theorem dX8_fail_0 : decode cX8_fail 0 = .ok (.iload_n 1, 1) := by decide +kernel
theorem dX8_fail_1 : decode cX8_fail 1 = .ok (.i2l, 1) := by decide +kernel
theorem dX8_fail_2 : decode cX8_fail 2 = .ok (.lconst 0, 1) := by decide +kernel
theorem dX8_fail_3 : decode cX8_fail 3 = .ok (.aload_n 0, 1) := by decide +kernel
theorem dX8_fail_4 : decode cX8_fail 4 = .ok (.getfield 133, 3) := by decide +kernel
theorem dX8_fail_7 : decode cX8_fail 7 = .ok (.iconst 1, 1) := by decide +kernel
theorem dX8_fail_8 : decode cX8_fail 8 = .ok (.isub, 1) := by decide +kernel
theorem dX8_fail_9 : decode cX8_fail 9 = .ok (.i2l, 1) := by decide +kernel
theorem dX8_fail_10 : decode cX8_fail 10 = .ok (.invokestatic 124, 3) := by decide +kernel
theorem dX8_fail_13 : decode cX8_fail 13 = .ok (.ifCond .ne 6, 3) := by decide +kernel
theorem dX8_fail_16 : decode cX8_fail 16 = .ok (.ldc 146, 2) := by decide +kernel
theorem dX8_fail_18 : decode cX8_fail 18 = .ok (.ireturn, 1) := by decide +kernel
theorem dX8_fail_19 : decode cX8_fail 19 = .ok (.iload_n 2, 1) := by decide +kernel
theorem dX8_fail_20 : decode cX8_fail 20 = .ok (.i2l, 1) := by decide +kernel
theorem dX8_fail_21 : decode cX8_fail 21 = .ok (.lconst 0, 1) := by decide +kernel
theorem dX8_fail_22 : decode cX8_fail 22 = .ok (.ldc2_w 274, 3) := by decide +kernel
theorem dX8_fail_25 : decode cX8_fail 25 = .ok (.invokestatic 124, 3) := by decide +kernel
theorem dX8_fail_28 : decode cX8_fail 28 = .ok (.ifCond .eq 15, 3) := by decide +kernel
theorem dX8_fail_31 : decode cX8_fail 31 = .ok (.iload_n 3, 1) := by decide +kernel
theorem dX8_fail_32 : decode cX8_fail 32 = .ok (.i2l, 1) := by decide +kernel
theorem dX8_fail_33 : decode cX8_fail 33 = .ok (.lconst 0, 1) := by decide +kernel
theorem dX8_fail_34 : decode cX8_fail 34 = .ok (.ldc2_w 329, 3) := by decide +kernel
theorem dX8_fail_37 : decode cX8_fail 37 = .ok (.invokestatic 124, 3) := by decide +kernel
theorem dX8_fail_40 : decode cX8_fail 40 = .ok (.ifCond .ne 6, 3) := by decide +kernel
theorem dX8_fail_43 : decode cX8_fail 43 = .ok (.ldc 132, 2) := by decide +kernel
theorem dX8_fail_45 : decode cX8_fail 45 = .ok (.ireturn, 1) := by decide +kernel
theorem dX8_fail_46 : decode cX8_fail 46 = .ok (.aload_n 0, 1) := by decide +kernel
theorem dX8_fail_47 : decode cX8_fail 47 = .ok (.invokevirtual 192, 3) := by decide +kernel
theorem dX8_fail_50 : decode cX8_fail 50 = .ok (.ifCond .ne 6, 3) := by decide +kernel
theorem dX8_fail_53 : decode cX8_fail 53 = .ok (.ldc 179, 2) := by decide +kernel
theorem dX8_fail_55 : decode cX8_fail 55 = .ok (.ireturn, 1) := by decide +kernel
theorem dX8_fail_56 : decode cX8_fail 56 = .ok (.iconst 0, 1) := by decide +kernel
theorem dX8_fail_57 : decode cX8_fail 57 = .ok (.istore 4, 2) := by decide +kernel
theorem dX8_fail_59 : decode cX8_fail 59 = .ok (.iload 4, 2) := by decide +kernel
theorem dX8_fail_61 : decode cX8_fail 61 = .ok (.aload_n 0, 1) := by decide +kernel
theorem dX8_fail_62 : decode cX8_fail 62 = .ok (.getfield 143, 3) := by decide +kernel
theorem dX8_fail_65 : decode cX8_fail 65 = .ok (.if_icmp .ge 79, 3) := by decide +kernel
theorem dX8_fail_68 : decode cX8_fail 68 = .ok (.aload_n 0, 1) := by decide +kernel
theorem dX8_fail_69 : decode cX8_fail 69 = .ok (.getfield 55, 3) := by decide +kernel
theorem dX8_fail_72 : decode cX8_fail 72 = .ok (.iload 4, 2) := by decide +kernel
theorem dX8_fail_74 : decode cX8_fail 74 = .ok (.iaload, 1) := by decide +kernel
theorem dX8_fail_75 : decode cX8_fail 75 = .ok (.aload_n 0, 1) := by decide +kernel
theorem dX8_fail_76 : decode cX8_fail 76 = .ok (.getfield 31, 3) := by decide +kernel
theorem dX8_fail_79 : decode cX8_fail 79 = .ok (.iload 4, 2) := by decide +kernel
theorem dX8_fail_81 : decode cX8_fail 81 = .ok (.iaload, 1) := by decide +kernel
theorem dX8_fail_82 : decode cX8_fail 82 = .ok (.iadd, 1) := by decide +kernel
theorem dX8_fail_83 : decode cX8_fail 83 = .ok (.istore 5, 2) := by decide +kernel
theorem dX8_fail_85 : decode cX8_fail 85 = .ok (.aload_n 0, 1) := by decide +kernel
theorem dX8_fail_86 : decode cX8_fail 86 = .ok (.getfield 119, 3) := by decide +kernel
theorem dX8_fail_89 : decode cX8_fail 89 = .ok (.iload 4, 2) := by decide +kernel
theorem dX8_fail_91 : decode cX8_fail 91 = .ok (.iload 5, 2) := by decide +kernel
theorem dX8_fail_93 : decode cX8_fail 93 = .ok (.iload_n 2, 1) := by decide +kernel
theorem dX8_fail_94 : decode cX8_fail 94 = .ok (.if_icmp .le 24, 3) := by decide +kernel
theorem dX8_fail_97 : decode cX8_fail 97 = .ok (.aload_n 0, 1) := by decide +kernel
theorem dX8_fail_98 : decode cX8_fail 98 = .ok (.getfield 55, 3) := by decide +kernel
theorem dX8_fail_101 : decode cX8_fail 101 = .ok (.iload 4, 2) := by decide +kernel
theorem dX8_fail_103 : decode cX8_fail 103 = .ok (.iaload, 1) := by decide +kernel
theorem dX8_fail_104 : decode cX8_fail 104 = .ok (.iload_n 2, 1) := by decide +kernel
theorem dX8_fail_105 : decode cX8_fail 105 = .ok (.if_icmp .ge 17, 3) := by decide +kernel
theorem dX8_fail_108 : decode cX8_fail 108 = .ok (.aload_n 0, 1) := by decide +kernel
theorem dX8_fail_109 : decode cX8_fail 109 = .ok (.iload 4, 2) := by decide +kernel
theorem dX8_fail_111 : decode cX8_fail 111 = .ok (.iload_n 1, 1) := by decide +kernel
theorem dX8_fail_112 : decode cX8_fail 112 = .ok (.invokevirtual 248, 3) := by decide +kernel
theorem dX8_fail_115 : decode cX8_fail 115 = .ok (.ifCond .ne 7, 3) := by decide +kernel
theorem dX8_fail_118 : decode cX8_fail 118 = .ok (.iconst 1, 1) := by decide +kernel
theorem dX8_fail_119 : decode cX8_fail 119 = .ok (.goto 4, 3) := by decide +kernel
theorem dX8_fail_122 : decode cX8_fail 122 = .ok (.iconst 0, 1) := by decide +kernel
theorem dX8_fail_123 : decode cX8_fail 123 = .ok (.bastore, 1) := by decide +kernel
theorem dX8_fail_124 : decode cX8_fail 124 = .ok (.aload_n 0, 1) := by decide +kernel
theorem dX8_fail_125 : decode cX8_fail 125 = .ok (.getfield 58, 3) := by decide +kernel
theorem dX8_fail_128 : decode cX8_fail 128 = .ok (.iload 4, 2) := by decide +kernel
theorem dX8_fail_130 : decode cX8_fail 130 = .ok (.aload_n 0, 1) := by decide +kernel
theorem dX8_fail_131 : decode cX8_fail 131 = .ok (.getfield 119, 3) := by decide +kernel
theorem dX8_fail_134 : decode cX8_fail 134 = .ok (.iload 4, 2) := by decide +kernel
theorem dX8_fail_136 : decode cX8_fail 136 = .ok (.baload, 1) := by decide +kernel
theorem dX8_fail_137 : decode cX8_fail 137 = .ok (.bastore, 1) := by decide +kernel
theorem dX8_fail_138 : decode cX8_fail 138 = .ok (.iinc 4 1, 3) := by decide +kernel
theorem dX8_fail_141 : decode cX8_fail 141 = .ok (.goto (-82), 3) := by decide +kernel
theorem dX8_fail_144 : decode cX8_fail 144 = .ok (.iconst 1, 1) := by decide +kernel
theorem dX8_fail_145 : decode cX8_fail 145 = .ok (.istore 4, 2) := by decide +kernel
theorem dX8_fail_147 : decode cX8_fail 147 = .ok (.iload 4, 2) := by decide +kernel
theorem dX8_fail_149 : decode cX8_fail 149 = .ok (.ifCond .eq 168, 3) := by decide +kernel
theorem dX8_fail_152 : decode cX8_fail 152 = .ok (.iconst 0, 1) := by decide +kernel
theorem dX8_fail_153 : decode cX8_fail 153 = .ok (.istore 4, 2) := by decide +kernel
theorem dX8_fail_155 : decode cX8_fail 155 = .ok (.iconst 0, 1) := by decide +kernel
theorem dX8_fail_156 : decode cX8_fail 156 = .ok (.istore 5, 2) := by decide +kernel
theorem dX8_fail_158 : decode cX8_fail 158 = .ok (.iload 5, 2) := by decide +kernel
theorem dX8_fail_160 : decode cX8_fail 160 = .ok (.aload_n 0, 1) := by decide +kernel
theorem dX8_fail_161 : decode cX8_fail 161 = .ok (.getfield 143, 3) := by decide +kernel
theorem dX8_fail_164 : decode cX8_fail 164 = .ok (.if_icmp .ge 150, 3) := by decide +kernel
theorem dX8_fail_167 : decode cX8_fail 167 = .ok (.aload_n 0, 1) := by decide +kernel
theorem dX8_fail_168 : decode cX8_fail 168 = .ok (.getfield 58, 3) := by decide +kernel
theorem dX8_fail_171 : decode cX8_fail 171 = .ok (.iload 5, 2) := by decide +kernel
theorem dX8_fail_173 : decode cX8_fail 173 = .ok (.baload, 1) := by decide +kernel
theorem dX8_fail_174 : decode cX8_fail 174 = .ok (.ifCond .ne 134, 3) := by decide +kernel
theorem dX8_fail_177 : decode cX8_fail 177 = .ok (.aload_n 0, 1) := by decide +kernel
theorem dX8_fail_178 : decode cX8_fail 178 = .ok (.iload 5, 2) := by decide +kernel
theorem dX8_fail_180 : decode cX8_fail 180 = .ok (.invokevirtual 186, 3) := by decide +kernel
theorem dX8_fail_183 : decode cX8_fail 183 = .ok (.ifCond .eq 125, 3) := by decide +kernel
theorem dX8_fail_186 : decode cX8_fail 186 = .ok (.aload_n 0, 1) := by decide +kernel
theorem dX8_fail_187 : decode cX8_fail 187 = .ok (.iload 5, 2) := by decide +kernel
theorem dX8_fail_189 : decode cX8_fail 189 = .ok (.invokevirtual 180, 3) := by decide +kernel
theorem dX8_fail_192 : decode cX8_fail 192 = .ok (.istore 6, 2) := by decide +kernel
theorem dX8_fail_194 : decode cX8_fail 194 = .ok (.iload 6, 2) := by decide +kernel
theorem dX8_fail_196 : decode cX8_fail 196 = .ok (.ifCond .ge 7, 3) := by decide +kernel
theorem dX8_fail_199 : decode cX8_fail 199 = .ok (.iconst 0, 1) := by decide +kernel
theorem dX8_fail_200 : decode cX8_fail 200 = .ok (.goto 18, 3) := by decide +kernel
theorem dX8_fail_203 : decode cX8_fail 203 = .ok (.aload_n 0, 1) := by decide +kernel
theorem dX8_fail_204 : decode cX8_fail 204 = .ok (.getfield 55, 3) := by decide +kernel
theorem dX8_fail_207 : decode cX8_fail 207 = .ok (.iload 6, 2) := by decide +kernel
theorem dX8_fail_209 : decode cX8_fail 209 = .ok (.iaload, 1) := by decide +kernel
theorem dX8_fail_210 : decode cX8_fail 210 = .ok (.aload_n 0, 1) := by decide +kernel
theorem dX8_fail_211 : decode cX8_fail 211 = .ok (.getfield 31, 3) := by decide +kernel
theorem dX8_fail_214 : decode cX8_fail 214 = .ok (.iload 6, 2) := by decide +kernel
theorem dX8_fail_216 : decode cX8_fail 216 = .ok (.iaload, 1) := by decide +kernel
theorem dX8_fail_217 : decode cX8_fail 217 = .ok (.iadd, 1) := by decide +kernel
theorem dX8_fail_218 : decode cX8_fail 218 = .ok (.istore 7, 2) := by decide +kernel
theorem dX8_fail_220 : decode cX8_fail 220 = .ok (.aload_n 0, 1) := by decide +kernel
theorem dX8_fail_221 : decode cX8_fail 221 = .ok (.aload_n 0, 1) := by decide +kernel
theorem dX8_fail_222 : decode cX8_fail 222 = .ok (.getfield 28, 3) := by decide +kernel
theorem dX8_fail_225 : decode cX8_fail 225 = .ok (.iload 5, 2) := by decide +kernel
theorem dX8_fail_227 : decode cX8_fail 227 = .ok (.iaload, 1) := by decide +kernel
theorem dX8_fail_228 : decode cX8_fail 228 = .ok (.aload_n 0, 1) := by decide +kernel
theorem dX8_fail_229 : decode cX8_fail 229 = .ok (.iload 5, 2) := by decide +kernel
theorem dX8_fail_231 : decode cX8_fail 231 = .ok (.invokevirtual 157, 3) := by decide +kernel
theorem dX8_fail_234 : decode cX8_fail 234 = .ok (.iload 5, 2) := by decide +kernel
theorem dX8_fail_236 : decode cX8_fail 236 = .ok (.invokevirtual 189, 3) := by decide +kernel
theorem dX8_fail_239 : decode cX8_fail 239 = .ok (.istore 8, 2) := by decide +kernel
theorem dX8_fail_241 : decode cX8_fail 241 = .ok (.iload 7, 2) := by decide +kernel
theorem dX8_fail_243 : decode cX8_fail 243 = .ok (.iload 8, 2) := by decide +kernel
theorem dX8_fail_245 : decode cX8_fail 245 = .ok (.if_icmp .le 8, 3) := by decide +kernel
theorem dX8_fail_248 : decode cX8_fail 248 = .ok (.iload 7, 2) := by decide +kernel
theorem dX8_fail_250 : decode cX8_fail 250 = .ok (.goto 5, 3) := by decide +kernel
theorem dX8_fail_253 : decode cX8_fail 253 = .ok (.iload 8, 2) := by decide +kernel
theorem dX8_fail_255 : decode cX8_fail 255 = .ok (.istore 7, 2) := by decide +kernel
theorem dX8_fail_257 : decode cX8_fail 257 = .ok (.aload_n 0, 1) := by decide +kernel
theorem dX8_fail_258 : decode cX8_fail 258 = .ok (.iload 5, 2) := by decide +kernel
theorem dX8_fail_260 : decode cX8_fail 260 = .ok (.iload_n 1, 1) := by decide +kernel
theorem dX8_fail_261 : decode cX8_fail 261 = .ok (.invokevirtual 248, 3) := by decide +kernel
theorem dX8_fail_264 : decode cX8_fail 264 = .ok (.ifCond .eq 9, 3) := by decide +kernel
theorem dX8_fail_267 : decode cX8_fail 267 = .ok (.iload_n 2, 1) := by decide +kernel
theorem dX8_fail_268 : decode cX8_fail 268 = .ok (.iload_n 3, 1) := by decide +kernel
theorem dX8_fail_269 : decode cX8_fail 269 = .ok (.iadd, 1) := by decide +kernel
theorem dX8_fail_270 : decode cX8_fail 270 = .ok (.goto 4, 3) := by decide +kernel
theorem dX8_fail_273 : decode cX8_fail 273 = .ok (.iload_n 2, 1) := by decide +kernel
theorem dX8_fail_274 : decode cX8_fail 274 = .ok (.istore 9, 2) := by decide +kernel
theorem dX8_fail_276 : decode cX8_fail 276 = .ok (.aload_n 0, 1) := by decide +kernel
theorem dX8_fail_277 : decode cX8_fail 277 = .ok (.getfield 55, 3) := by decide +kernel
theorem dX8_fail_280 : decode cX8_fail 280 = .ok (.iload 5, 2) := by decide +kernel
theorem dX8_fail_282 : decode cX8_fail 282 = .ok (.iload 7, 2) := by decide +kernel
theorem dX8_fail_284 : decode cX8_fail 284 = .ok (.iload 9, 2) := by decide +kernel
theorem dX8_fail_286 : decode cX8_fail 286 = .ok (.if_icmp .le 8, 3) := by decide +kernel
theorem dX8_fail_289 : decode cX8_fail 289 = .ok (.iload 7, 2) := by decide +kernel
theorem dX8_fail_291 : decode cX8_fail 291 = .ok (.goto 5, 3) := by decide +kernel
theorem dX8_fail_294 : decode cX8_fail 294 = .ok (.iload 9, 2) := by decide +kernel
theorem dX8_fail_296 : decode cX8_fail 296 = .ok (.iastore, 1) := by decide +kernel
theorem dX8_fail_297 : decode cX8_fail 297 = .ok (.aload_n 0, 1) := by decide +kernel
theorem dX8_fail_298 : decode cX8_fail 298 = .ok (.getfield 58, 3) := by decide +kernel
theorem dX8_fail_301 : decode cX8_fail 301 = .ok (.iload 5, 2) := by decide +kernel
theorem dX8_fail_303 : decode cX8_fail 303 = .ok (.iconst 1, 1) := by decide +kernel
theorem dX8_fail_304 : decode cX8_fail 304 = .ok (.bastore, 1) := by decide +kernel
theorem dX8_fail_305 : decode cX8_fail 305 = .ok (.iconst 1, 1) := by decide +kernel
theorem dX8_fail_306 : decode cX8_fail 306 = .ok (.istore 4, 2) := by decide +kernel
theorem dX8_fail_308 : decode cX8_fail 308 = .ok (.iinc 5 1, 3) := by decide +kernel
theorem dX8_fail_311 : decode cX8_fail 311 = .ok (.goto (-153), 3) := by decide +kernel
theorem dX8_fail_314 : decode cX8_fail 314 = .ok (.goto (-167), 3) := by decide +kernel
theorem dX8_fail_317 : decode cX8_fail 317 = .ok (.iconst 0, 1) := by decide +kernel
theorem dX8_fail_318 : decode cX8_fail 318 = .ok (.istore 5, 2) := by decide +kernel
theorem dX8_fail_320 : decode cX8_fail 320 = .ok (.iconst 0, 1) := by decide +kernel
theorem dX8_fail_321 : decode cX8_fail 321 = .ok (.istore 6, 2) := by decide +kernel
theorem dX8_fail_323 : decode cX8_fail 323 = .ok (.iload 6, 2) := by decide +kernel
theorem dX8_fail_325 : decode cX8_fail 325 = .ok (.aload_n 0, 1) := by decide +kernel
theorem dX8_fail_326 : decode cX8_fail 326 = .ok (.getfield 143, 3) := by decide +kernel
theorem dX8_fail_329 : decode cX8_fail 329 = .ok (.if_icmp .ge 65, 3) := by decide +kernel
theorem dX8_fail_332 : decode cX8_fail 332 = .ok (.aload_n 0, 1) := by decide +kernel
theorem dX8_fail_333 : decode cX8_fail 333 = .ok (.getfield 116, 3) := by decide +kernel
theorem dX8_fail_336 : decode cX8_fail 336 = .ok (.iload 6, 2) := by decide +kernel
theorem dX8_fail_338 : decode cX8_fail 338 = .ok (.aload_n 0, 1) := by decide +kernel
theorem dX8_fail_339 : decode cX8_fail 339 = .ok (.getfield 55, 3) := by decide +kernel
theorem dX8_fail_342 : decode cX8_fail 342 = .ok (.iload 6, 2) := by decide +kernel
theorem dX8_fail_344 : decode cX8_fail 344 = .ok (.iaload, 1) := by decide +kernel
theorem dX8_fail_345 : decode cX8_fail 345 = .ok (.iastore, 1) := by decide +kernel
theorem dX8_fail_346 : decode cX8_fail 346 = .ok (.aload_n 0, 1) := by decide +kernel
theorem dX8_fail_347 : decode cX8_fail 347 = .ok (.getfield 55, 3) := by decide +kernel
theorem dX8_fail_350 : decode cX8_fail 350 = .ok (.iload 6, 2) := by decide +kernel
theorem dX8_fail_352 : decode cX8_fail 352 = .ok (.iaload, 1) := by decide +kernel
theorem dX8_fail_353 : decode cX8_fail 353 = .ok (.aload_n 0, 1) := by decide +kernel
theorem dX8_fail_354 : decode cX8_fail 354 = .ok (.getfield 31, 3) := by decide +kernel
theorem dX8_fail_357 : decode cX8_fail 357 = .ok (.iload 6, 2) := by decide +kernel
theorem dX8_fail_359 : decode cX8_fail 359 = .ok (.iaload, 1) := by decide +kernel
theorem dX8_fail_360 : decode cX8_fail 360 = .ok (.iadd, 1) := by decide +kernel
theorem dX8_fail_361 : decode cX8_fail 361 = .ok (.iload 5, 2) := by decide +kernel
theorem dX8_fail_363 : decode cX8_fail 363 = .ok (.if_icmp .le 21, 3) := by decide +kernel
theorem dX8_fail_366 : decode cX8_fail 366 = .ok (.aload_n 0, 1) := by decide +kernel
theorem dX8_fail_367 : decode cX8_fail 367 = .ok (.getfield 55, 3) := by decide +kernel
theorem dX8_fail_370 : decode cX8_fail 370 = .ok (.iload 6, 2) := by decide +kernel
theorem dX8_fail_372 : decode cX8_fail 372 = .ok (.iaload, 1) := by decide +kernel
theorem dX8_fail_373 : decode cX8_fail 373 = .ok (.aload_n 0, 1) := by decide +kernel
theorem dX8_fail_374 : decode cX8_fail 374 = .ok (.getfield 31, 3) := by decide +kernel
theorem dX8_fail_377 : decode cX8_fail 377 = .ok (.iload 6, 2) := by decide +kernel
theorem dX8_fail_379 : decode cX8_fail 379 = .ok (.iaload, 1) := by decide +kernel
theorem dX8_fail_380 : decode cX8_fail 380 = .ok (.iadd, 1) := by decide +kernel
theorem dX8_fail_381 : decode cX8_fail 381 = .ok (.goto 5, 3) := by decide +kernel
theorem dX8_fail_384 : decode cX8_fail 384 = .ok (.iload 5, 2) := by decide +kernel
theorem dX8_fail_386 : decode cX8_fail 386 = .ok (.istore 5, 2) := by decide +kernel
theorem dX8_fail_388 : decode cX8_fail 388 = .ok (.iinc 6 1, 3) := by decide +kernel
theorem dX8_fail_391 : decode cX8_fail 391 = .ok (.goto (-68), 3) := by decide +kernel
theorem dX8_fail_394 : decode cX8_fail 394 = .ok (.aload_n 0, 1) := by decide +kernel
theorem dX8_fail_395 : decode cX8_fail 395 = .ok (.iconst 1, 1) := by decide +kernel
theorem dX8_fail_396 : decode cX8_fail 396 = .ok (.putfield 331, 3) := by decide +kernel
theorem dX8_fail_399 : decode cX8_fail 399 = .ok (.aload_n 0, 1) := by decide +kernel
theorem dX8_fail_400 : decode cX8_fail 400 = .ok (.aload_n 0, 1) := by decide +kernel
theorem dX8_fail_401 : decode cX8_fail 401 = .ok (.getfield 143, 3) := by decide +kernel
theorem dX8_fail_404 : decode cX8_fail 404 = .ok (.putfield 334, 3) := by decide +kernel
theorem dX8_fail_407 : decode cX8_fail 407 = .ok (.iload 5, 2) := by decide +kernel
theorem dX8_fail_409 : decode cX8_fail 409 = .ok (.ireturn, 1) := by decide +kernel
theorem dX8_mended_0 : decode cX8_mended 0 = .ok (.aload_n 0, 1) := by decide +kernel
theorem dX8_mended_1 : decode cX8_mended 1 = .ok (.iload_n 1, 1) := by decide +kernel
theorem dX8_mended_2 : decode cX8_mended 2 = .ok (.invokevirtual 153, 3) := by decide +kernel
theorem dX8_mended_5 : decode cX8_mended 5 = .ok (.ifCond .ne 6, 3) := by decide +kernel
theorem dX8_mended_8 : decode cX8_mended 8 = .ok (.ldc 146, 2) := by decide +kernel
theorem dX8_mended_10 : decode cX8_mended 10 = .ok (.ireturn, 1) := by decide +kernel
theorem dX8_mended_11 : decode cX8_mended 11 = .ok (.iload_n 2, 1) := by decide +kernel
theorem dX8_mended_12 : decode cX8_mended 12 = .ok (.i2l, 1) := by decide +kernel
theorem dX8_mended_13 : decode cX8_mended 13 = .ok (.lconst 0, 1) := by decide +kernel
theorem dX8_mended_14 : decode cX8_mended 14 = .ok (.lconst 1, 1) := by decide +kernel
theorem dX8_mended_15 : decode cX8_mended 15 = .ok (.invokestatic 124, 3) := by decide +kernel
theorem dX8_mended_18 : decode cX8_mended 18 = .ok (.ifCond .ne 6, 3) := by decide +kernel
theorem dX8_mended_21 : decode cX8_mended 21 = .ok (.ldc 132, 2) := by decide +kernel
theorem dX8_mended_23 : decode cX8_mended 23 = .ok (.ireturn, 1) := by decide +kernel
theorem dX8_mended_24 : decode cX8_mended 24 = .ok (.aload_n 0, 1) := by decide +kernel
theorem dX8_mended_25 : decode cX8_mended 25 = .ok (.getfield 331, 3) := by decide +kernel
theorem dX8_mended_28 : decode cX8_mended 28 = .ok (.ifCond .eq 11, 3) := by decide +kernel
theorem dX8_mended_31 : decode cX8_mended 31 = .ok (.iload_n 1, 1) := by decide +kernel
theorem dX8_mended_32 : decode cX8_mended 32 = .ok (.aload_n 0, 1) := by decide +kernel
theorem dX8_mended_33 : decode cX8_mended 33 = .ok (.getfield 334, 3) := by decide +kernel
theorem dX8_mended_36 : decode cX8_mended 36 = .ok (.if_icmp .lt 5, 3) := by decide +kernel
theorem dX8_mended_39 : decode cX8_mended 39 = .ok (.iconst (-1), 1) := by decide +kernel
theorem dX8_mended_40 : decode cX8_mended 40 = .ok (.ireturn, 1) := by decide +kernel
theorem dX8_mended_41 : decode cX8_mended 41 = .ok (.iload_n 2, 1) := by decide +kernel
theorem dX8_mended_42 : decode cX8_mended 42 = .ok (.ifCond .ne 12, 3) := by decide +kernel
theorem dX8_mended_45 : decode cX8_mended 45 = .ok (.aload_n 0, 1) := by decide +kernel
theorem dX8_mended_46 : decode cX8_mended 46 = .ok (.getfield 116, 3) := by decide +kernel
theorem dX8_mended_49 : decode cX8_mended 49 = .ok (.iload_n 1, 1) := by decide +kernel
theorem dX8_mended_50 : decode cX8_mended 50 = .ok (.iaload, 1) := by decide +kernel
theorem dX8_mended_51 : decode cX8_mended 51 = .ok (.goto 17, 3) := by decide +kernel
theorem dX8_mended_54 : decode cX8_mended 54 = .ok (.aload_n 0, 1) := by decide +kernel
theorem dX8_mended_55 : decode cX8_mended 55 = .ok (.getfield 119, 3) := by decide +kernel
theorem dX8_mended_58 : decode cX8_mended 58 = .ok (.iload_n 1, 1) := by decide +kernel
theorem dX8_mended_59 : decode cX8_mended 59 = .ok (.baload, 1) := by decide +kernel
theorem dX8_mended_60 : decode cX8_mended 60 = .ok (.ifCond .eq 7, 3) := by decide +kernel
theorem dX8_mended_63 : decode cX8_mended 63 = .ok (.iconst 1, 1) := by decide +kernel
theorem dX8_mended_64 : decode cX8_mended 64 = .ok (.goto 4, 3) := by decide +kernel
theorem dX8_mended_67 : decode cX8_mended 67 = .ok (.iconst 0, 1) := by decide +kernel
theorem dX8_mended_68 : decode cX8_mended 68 = .ok (.ireturn, 1) := by decide +kernel
theorem dL_law_0 : decode cL_law 0 = .ok (.new 7, 3) := by decide +kernel
theorem dL_law_3 : decode cL_law 3 = .ok (.dup, 1) := by decide +kernel
theorem dL_law_4 : decode cL_law 4 = .ok (.invokespecial 9, 3) := by decide +kernel
theorem dL_law_7 : decode cL_law 7 = .ok (.astore_n 1, 1) := by decide +kernel
theorem dL_law_8 : decode cL_law 8 = .ok (.new 10, 3) := by decide +kernel
theorem dL_law_11 : decode cL_law 11 = .ok (.dup, 1) := by decide +kernel
theorem dL_law_12 : decode cL_law 12 = .ok (.invokespecial 12, 3) := by decide +kernel
theorem dL_law_15 : decode cL_law 15 = .ok (.astore_n 2, 1) := by decide +kernel
theorem dL_law_16 : decode cL_law 16 = .ok (.iconst 0, 1) := by decide +kernel
theorem dL_law_17 : decode cL_law 17 = .ok (.istore_n 3, 1) := by decide +kernel
theorem dL_law_18 : decode cL_law 18 = .ok (.iload_n 3, 1) := by decide +kernel
theorem dL_law_19 : decode cL_law 19 = .ok (.aload_n 0, 1) := by decide +kernel
theorem dL_law_20 : decode cL_law 20 = .ok (.arraylength, 1) := by decide +kernel
theorem dL_law_21 : decode cL_law 21 = .ok (.bipush 6, 2) := by decide +kernel
theorem dL_law_23 : decode cL_law 23 = .ok (.isub, 1) := by decide +kernel
theorem dL_law_24 : decode cL_law 24 = .ok (.if_icmp .gt 1006, 3) := by decide +kernel
theorem dL_law_27 : decode cL_law 27 = .ok (.aload_n 0, 1) := by decide +kernel
theorem dL_law_28 : decode cL_law 28 = .ok (.iload_n 3, 1) := by decide +kernel
theorem dL_law_29 : decode cL_law 29 = .ok (.iaload, 1) := by decide +kernel
theorem dL_law_30 : decode cL_law 30 = .ok (.bipush 31, 2) := by decide +kernel
theorem dL_law_32 : decode cL_law 32 = .ok (.iand, 1) := by decide +kernel
theorem dL_law_33 : decode cL_law 33 = .ok (.tableswitch 991 0 27 #[127, 160, 183, 226, 259, 282, 325, 348, 401, 434, 497, 530, 543, 576, 609, 622, 645, 678, 701, 724, 747, 770, 803, 836, 869, 892, 915, 958], 127) := by decide +kernel
theorem dL_law_160 : decode cL_law 160 = .ok (.aload_n 1, 1) := by decide +kernel
theorem dL_law_161 : decode cL_law 161 = .ok (.aload_n 0, 1) := by decide +kernel
theorem dL_law_162 : decode cL_law 162 = .ok (.iload_n 3, 1) := by decide +kernel
theorem dL_law_163 : decode cL_law 163 = .ok (.iconst 1, 1) := by decide +kernel
theorem dL_law_164 : decode cL_law 164 = .ok (.iadd, 1) := by decide +kernel
theorem dL_law_165 : decode cL_law 165 = .ok (.iaload, 1) := by decide +kernel
theorem dL_law_166 : decode cL_law 166 = .ok (.aload_n 0, 1) := by decide +kernel
theorem dL_law_167 : decode cL_law 167 = .ok (.iload_n 3, 1) := by decide +kernel
theorem dL_law_168 : decode cL_law 168 = .ok (.iconst 2, 1) := by decide +kernel
theorem dL_law_169 : decode cL_law 169 = .ok (.iadd, 1) := by decide +kernel
theorem dL_law_170 : decode cL_law 170 = .ok (.iaload, 1) := by decide +kernel
theorem dL_law_171 : decode cL_law 171 = .ok (.invokevirtual 13, 3) := by decide +kernel
theorem dL_law_174 : decode cL_law 174 = .ok (.aload_n 2, 1) := by decide +kernel
theorem dL_law_175 : decode cL_law 175 = .ok (.aload_n 0, 1) := by decide +kernel
theorem dL_law_176 : decode cL_law 176 = .ok (.iload_n 3, 1) := by decide +kernel
theorem dL_law_177 : decode cL_law 177 = .ok (.iconst 1, 1) := by decide +kernel
theorem dL_law_178 : decode cL_law 178 = .ok (.iadd, 1) := by decide +kernel
theorem dL_law_179 : decode cL_law 179 = .ok (.iaload, 1) := by decide +kernel
theorem dL_law_180 : decode cL_law 180 = .ok (.aload_n 0, 1) := by decide +kernel
theorem dL_law_181 : decode cL_law 181 = .ok (.iload_n 3, 1) := by decide +kernel
theorem dL_law_182 : decode cL_law 182 = .ok (.iconst 2, 1) := by decide +kernel
theorem dL_law_183 : decode cL_law 183 = .ok (.iadd, 1) := by decide +kernel
theorem dL_law_184 : decode cL_law 184 = .ok (.iaload, 1) := by decide +kernel
theorem dL_law_185 : decode cL_law 185 = .ok (.invokevirtual 17, 3) := by decide +kernel
theorem dL_law_188 : decode cL_law 188 = .ok (.if_icmp .eq 836, 3) := by decide +kernel
theorem dL_law_191 : decode cL_law 191 = .ok (.iconst 0, 1) := by decide +kernel
theorem dL_law_192 : decode cL_law 192 = .ok (.ireturn, 1) := by decide +kernel
theorem dL_law_193 : decode cL_law 193 = .ok (.aload_n 1, 1) := by decide +kernel
theorem dL_law_194 : decode cL_law 194 = .ok (.aload_n 0, 1) := by decide +kernel
theorem dL_law_195 : decode cL_law 195 = .ok (.iload_n 3, 1) := by decide +kernel
theorem dL_law_196 : decode cL_law 196 = .ok (.iconst 1, 1) := by decide +kernel
theorem dL_law_197 : decode cL_law 197 = .ok (.iadd, 1) := by decide +kernel
theorem dL_law_198 : decode cL_law 198 = .ok (.iaload, 1) := by decide +kernel
theorem dL_law_199 : decode cL_law 199 = .ok (.invokevirtual 18, 3) := by decide +kernel
theorem dL_law_202 : decode cL_law 202 = .ok (.aload_n 2, 1) := by decide +kernel
theorem dL_law_203 : decode cL_law 203 = .ok (.aload_n 0, 1) := by decide +kernel
theorem dL_law_204 : decode cL_law 204 = .ok (.iload_n 3, 1) := by decide +kernel
theorem dL_law_205 : decode cL_law 205 = .ok (.iconst 1, 1) := by decide +kernel
theorem dL_law_206 : decode cL_law 206 = .ok (.iadd, 1) := by decide +kernel
theorem dL_law_207 : decode cL_law 207 = .ok (.iaload, 1) := by decide +kernel
theorem dL_law_208 : decode cL_law 208 = .ok (.invokevirtual 22, 3) := by decide +kernel
theorem dL_law_211 : decode cL_law 211 = .ok (.if_icmp .eq 813, 3) := by decide +kernel
theorem dL_law_214 : decode cL_law 214 = .ok (.iconst 0, 1) := by decide +kernel
theorem dL_law_215 : decode cL_law 215 = .ok (.ireturn, 1) := by decide +kernel
theorem dL_law_216 : decode cL_law 216 = .ok (.aload_n 1, 1) := by decide +kernel
theorem dL_law_217 : decode cL_law 217 = .ok (.aload_n 0, 1) := by decide +kernel
theorem dL_law_218 : decode cL_law 218 = .ok (.iload_n 3, 1) := by decide +kernel
theorem dL_law_219 : decode cL_law 219 = .ok (.iconst 1, 1) := by decide +kernel
theorem dL_law_220 : decode cL_law 220 = .ok (.iadd, 1) := by decide +kernel
theorem dL_law_221 : decode cL_law 221 = .ok (.iaload, 1) := by decide +kernel
theorem dL_law_222 : decode cL_law 222 = .ok (.aload_n 0, 1) := by decide +kernel
theorem dL_law_223 : decode cL_law 223 = .ok (.iload_n 3, 1) := by decide +kernel
theorem dL_law_224 : decode cL_law 224 = .ok (.iconst 2, 1) := by decide +kernel
theorem dL_law_225 : decode cL_law 225 = .ok (.iadd, 1) := by decide +kernel
theorem dL_law_226 : decode cL_law 226 = .ok (.iaload, 1) := by decide +kernel
theorem dL_law_227 : decode cL_law 227 = .ok (.aload_n 0, 1) := by decide +kernel
theorem dL_law_228 : decode cL_law 228 = .ok (.iload_n 3, 1) := by decide +kernel
theorem dL_law_229 : decode cL_law 229 = .ok (.iconst 3, 1) := by decide +kernel
theorem dL_law_230 : decode cL_law 230 = .ok (.iadd, 1) := by decide +kernel
theorem dL_law_231 : decode cL_law 231 = .ok (.iaload, 1) := by decide +kernel
theorem dL_law_232 : decode cL_law 232 = .ok (.invokevirtual 23, 3) := by decide +kernel
theorem dL_law_235 : decode cL_law 235 = .ok (.aload_n 2, 1) := by decide +kernel
theorem dL_law_236 : decode cL_law 236 = .ok (.aload_n 0, 1) := by decide +kernel
theorem dL_law_237 : decode cL_law 237 = .ok (.iload_n 3, 1) := by decide +kernel
theorem dL_law_238 : decode cL_law 238 = .ok (.iconst 1, 1) := by decide +kernel
theorem dL_law_239 : decode cL_law 239 = .ok (.iadd, 1) := by decide +kernel
theorem dL_law_240 : decode cL_law 240 = .ok (.iaload, 1) := by decide +kernel
theorem dL_law_241 : decode cL_law 241 = .ok (.aload_n 0, 1) := by decide +kernel
theorem dL_law_242 : decode cL_law 242 = .ok (.iload_n 3, 1) := by decide +kernel
theorem dL_law_243 : decode cL_law 243 = .ok (.iconst 2, 1) := by decide +kernel
theorem dL_law_244 : decode cL_law 244 = .ok (.iadd, 1) := by decide +kernel
theorem dL_law_245 : decode cL_law 245 = .ok (.iaload, 1) := by decide +kernel
theorem dL_law_246 : decode cL_law 246 = .ok (.aload_n 0, 1) := by decide +kernel
theorem dL_law_247 : decode cL_law 247 = .ok (.iload_n 3, 1) := by decide +kernel
theorem dL_law_248 : decode cL_law 248 = .ok (.iconst 3, 1) := by decide +kernel
theorem dL_law_249 : decode cL_law 249 = .ok (.iadd, 1) := by decide +kernel
theorem dL_law_250 : decode cL_law 250 = .ok (.iaload, 1) := by decide +kernel
theorem dL_law_251 : decode cL_law 251 = .ok (.invokevirtual 27, 3) := by decide +kernel
theorem dL_law_254 : decode cL_law 254 = .ok (.if_icmp .eq 770, 3) := by decide +kernel
theorem dL_law_257 : decode cL_law 257 = .ok (.iconst 0, 1) := by decide +kernel
theorem dL_law_258 : decode cL_law 258 = .ok (.ireturn, 1) := by decide +kernel
theorem dL_law_259 : decode cL_law 259 = .ok (.aload_n 1, 1) := by decide +kernel
theorem dL_law_260 : decode cL_law 260 = .ok (.aload_n 0, 1) := by decide +kernel
theorem dL_law_261 : decode cL_law 261 = .ok (.iload_n 3, 1) := by decide +kernel
theorem dL_law_262 : decode cL_law 262 = .ok (.iconst 1, 1) := by decide +kernel
theorem dL_law_263 : decode cL_law 263 = .ok (.iadd, 1) := by decide +kernel
theorem dL_law_264 : decode cL_law 264 = .ok (.iaload, 1) := by decide +kernel
theorem dL_law_265 : decode cL_law 265 = .ok (.aload_n 0, 1) := by decide +kernel
theorem dL_law_266 : decode cL_law 266 = .ok (.iload_n 3, 1) := by decide +kernel
theorem dL_law_267 : decode cL_law 267 = .ok (.iconst 2, 1) := by decide +kernel
theorem dL_law_268 : decode cL_law 268 = .ok (.iadd, 1) := by decide +kernel
theorem dL_law_269 : decode cL_law 269 = .ok (.iaload, 1) := by decide +kernel
theorem dL_law_270 : decode cL_law 270 = .ok (.invokevirtual 28, 3) := by decide +kernel
theorem dL_law_273 : decode cL_law 273 = .ok (.aload_n 2, 1) := by decide +kernel
theorem dL_law_274 : decode cL_law 274 = .ok (.aload_n 0, 1) := by decide +kernel
theorem dL_law_275 : decode cL_law 275 = .ok (.iload_n 3, 1) := by decide +kernel
theorem dL_law_276 : decode cL_law 276 = .ok (.iconst 1, 1) := by decide +kernel
theorem dL_law_277 : decode cL_law 277 = .ok (.iadd, 1) := by decide +kernel
theorem dL_law_278 : decode cL_law 278 = .ok (.iaload, 1) := by decide +kernel
theorem dL_law_279 : decode cL_law 279 = .ok (.aload_n 0, 1) := by decide +kernel
theorem dL_law_280 : decode cL_law 280 = .ok (.iload_n 3, 1) := by decide +kernel
theorem dL_law_281 : decode cL_law 281 = .ok (.iconst 2, 1) := by decide +kernel
theorem dL_law_282 : decode cL_law 282 = .ok (.iadd, 1) := by decide +kernel
theorem dL_law_283 : decode cL_law 283 = .ok (.iaload, 1) := by decide +kernel
theorem dL_law_284 : decode cL_law 284 = .ok (.invokevirtual 31, 3) := by decide +kernel
theorem dL_law_287 : decode cL_law 287 = .ok (.if_icmp .eq 737, 3) := by decide +kernel
theorem dL_law_290 : decode cL_law 290 = .ok (.iconst 0, 1) := by decide +kernel
theorem dL_law_291 : decode cL_law 291 = .ok (.ireturn, 1) := by decide +kernel
theorem dL_law_292 : decode cL_law 292 = .ok (.aload_n 1, 1) := by decide +kernel
theorem dL_law_293 : decode cL_law 293 = .ok (.aload_n 0, 1) := by decide +kernel
theorem dL_law_294 : decode cL_law 294 = .ok (.iload_n 3, 1) := by decide +kernel
theorem dL_law_295 : decode cL_law 295 = .ok (.iconst 1, 1) := by decide +kernel
theorem dL_law_296 : decode cL_law 296 = .ok (.iadd, 1) := by decide +kernel
theorem dL_law_297 : decode cL_law 297 = .ok (.iaload, 1) := by decide +kernel
theorem dL_law_298 : decode cL_law 298 = .ok (.invokevirtual 32, 3) := by decide +kernel
theorem dL_law_301 : decode cL_law 301 = .ok (.aload_n 2, 1) := by decide +kernel
theorem dL_law_302 : decode cL_law 302 = .ok (.aload_n 0, 1) := by decide +kernel
theorem dL_law_303 : decode cL_law 303 = .ok (.iload_n 3, 1) := by decide +kernel
theorem dL_law_304 : decode cL_law 304 = .ok (.iconst 1, 1) := by decide +kernel
theorem dL_law_305 : decode cL_law 305 = .ok (.iadd, 1) := by decide +kernel
theorem dL_law_306 : decode cL_law 306 = .ok (.iaload, 1) := by decide +kernel
theorem dL_law_307 : decode cL_law 307 = .ok (.invokevirtual 35, 3) := by decide +kernel
theorem dL_law_310 : decode cL_law 310 = .ok (.if_icmp .eq 714, 3) := by decide +kernel
theorem dL_law_313 : decode cL_law 313 = .ok (.iconst 0, 1) := by decide +kernel
theorem dL_law_314 : decode cL_law 314 = .ok (.ireturn, 1) := by decide +kernel
theorem dL_law_315 : decode cL_law 315 = .ok (.aload_n 1, 1) := by decide +kernel
theorem dL_law_316 : decode cL_law 316 = .ok (.aload_n 0, 1) := by decide +kernel
theorem dL_law_317 : decode cL_law 317 = .ok (.iload_n 3, 1) := by decide +kernel
theorem dL_law_318 : decode cL_law 318 = .ok (.iconst 1, 1) := by decide +kernel
theorem dL_law_319 : decode cL_law 319 = .ok (.iadd, 1) := by decide +kernel
theorem dL_law_320 : decode cL_law 320 = .ok (.iaload, 1) := by decide +kernel
theorem dL_law_321 : decode cL_law 321 = .ok (.aload_n 0, 1) := by decide +kernel
theorem dL_law_322 : decode cL_law 322 = .ok (.iload_n 3, 1) := by decide +kernel
theorem dL_law_323 : decode cL_law 323 = .ok (.iconst 2, 1) := by decide +kernel
theorem dL_law_324 : decode cL_law 324 = .ok (.iadd, 1) := by decide +kernel
theorem dL_law_325 : decode cL_law 325 = .ok (.iaload, 1) := by decide +kernel
theorem dL_law_326 : decode cL_law 326 = .ok (.aload_n 0, 1) := by decide +kernel
theorem dL_law_327 : decode cL_law 327 = .ok (.iload_n 3, 1) := by decide +kernel
theorem dL_law_328 : decode cL_law 328 = .ok (.iconst 3, 1) := by decide +kernel
theorem dL_law_329 : decode cL_law 329 = .ok (.iadd, 1) := by decide +kernel
theorem dL_law_330 : decode cL_law 330 = .ok (.iaload, 1) := by decide +kernel
theorem dL_law_331 : decode cL_law 331 = .ok (.invokevirtual 36, 3) := by decide +kernel
theorem dL_law_334 : decode cL_law 334 = .ok (.aload_n 2, 1) := by decide +kernel
theorem dL_law_335 : decode cL_law 335 = .ok (.aload_n 0, 1) := by decide +kernel
theorem dL_law_336 : decode cL_law 336 = .ok (.iload_n 3, 1) := by decide +kernel
theorem dL_law_337 : decode cL_law 337 = .ok (.iconst 1, 1) := by decide +kernel
theorem dL_law_338 : decode cL_law 338 = .ok (.iadd, 1) := by decide +kernel
theorem dL_law_339 : decode cL_law 339 = .ok (.iaload, 1) := by decide +kernel
theorem dL_law_340 : decode cL_law 340 = .ok (.aload_n 0, 1) := by decide +kernel
theorem dL_law_341 : decode cL_law 341 = .ok (.iload_n 3, 1) := by decide +kernel
theorem dL_law_342 : decode cL_law 342 = .ok (.iconst 2, 1) := by decide +kernel
theorem dL_law_343 : decode cL_law 343 = .ok (.iadd, 1) := by decide +kernel
theorem dL_law_344 : decode cL_law 344 = .ok (.iaload, 1) := by decide +kernel
theorem dL_law_345 : decode cL_law 345 = .ok (.aload_n 0, 1) := by decide +kernel
theorem dL_law_346 : decode cL_law 346 = .ok (.iload_n 3, 1) := by decide +kernel
theorem dL_law_347 : decode cL_law 347 = .ok (.iconst 3, 1) := by decide +kernel
theorem dL_law_348 : decode cL_law 348 = .ok (.iadd, 1) := by decide +kernel
theorem dL_law_349 : decode cL_law 349 = .ok (.iaload, 1) := by decide +kernel
theorem dL_law_350 : decode cL_law 350 = .ok (.invokevirtual 39, 3) := by decide +kernel
theorem dL_law_353 : decode cL_law 353 = .ok (.if_icmp .eq 671, 3) := by decide +kernel
theorem dL_law_356 : decode cL_law 356 = .ok (.iconst 0, 1) := by decide +kernel
theorem dL_law_357 : decode cL_law 357 = .ok (.ireturn, 1) := by decide +kernel
theorem dL_law_358 : decode cL_law 358 = .ok (.aload_n 1, 1) := by decide +kernel
theorem dL_law_359 : decode cL_law 359 = .ok (.aload_n 0, 1) := by decide +kernel
theorem dL_law_360 : decode cL_law 360 = .ok (.iload_n 3, 1) := by decide +kernel
theorem dL_law_361 : decode cL_law 361 = .ok (.iconst 1, 1) := by decide +kernel
theorem dL_law_362 : decode cL_law 362 = .ok (.iadd, 1) := by decide +kernel
theorem dL_law_363 : decode cL_law 363 = .ok (.iaload, 1) := by decide +kernel
theorem dL_law_364 : decode cL_law 364 = .ok (.invokevirtual 40, 3) := by decide +kernel
theorem dL_law_367 : decode cL_law 367 = .ok (.aload_n 2, 1) := by decide +kernel
theorem dL_law_368 : decode cL_law 368 = .ok (.aload_n 0, 1) := by decide +kernel
theorem dL_law_369 : decode cL_law 369 = .ok (.iload_n 3, 1) := by decide +kernel
theorem dL_law_370 : decode cL_law 370 = .ok (.iconst 1, 1) := by decide +kernel
theorem dL_law_371 : decode cL_law 371 = .ok (.iadd, 1) := by decide +kernel
theorem dL_law_372 : decode cL_law 372 = .ok (.iaload, 1) := by decide +kernel
theorem dL_law_373 : decode cL_law 373 = .ok (.invokevirtual 43, 3) := by decide +kernel
theorem dL_law_376 : decode cL_law 376 = .ok (.if_icmp .eq 648, 3) := by decide +kernel
theorem dL_law_379 : decode cL_law 379 = .ok (.iconst 0, 1) := by decide +kernel
theorem dL_law_380 : decode cL_law 380 = .ok (.ireturn, 1) := by decide +kernel
theorem dL_law_381 : decode cL_law 381 = .ok (.aload_n 1, 1) := by decide +kernel
theorem dL_law_382 : decode cL_law 382 = .ok (.aload_n 0, 1) := by decide +kernel
theorem dL_law_383 : decode cL_law 383 = .ok (.iload_n 3, 1) := by decide +kernel
theorem dL_law_384 : decode cL_law 384 = .ok (.iconst 1, 1) := by decide +kernel
theorem dL_law_385 : decode cL_law 385 = .ok (.iadd, 1) := by decide +kernel
theorem dL_law_386 : decode cL_law 386 = .ok (.iaload, 1) := by decide +kernel
theorem dL_law_387 : decode cL_law 387 = .ok (.aload_n 0, 1) := by decide +kernel
theorem dL_law_388 : decode cL_law 388 = .ok (.iload_n 3, 1) := by decide +kernel
theorem dL_law_389 : decode cL_law 389 = .ok (.iconst 2, 1) := by decide +kernel
theorem dL_law_390 : decode cL_law 390 = .ok (.iadd, 1) := by decide +kernel
theorem dL_law_391 : decode cL_law 391 = .ok (.iaload, 1) := by decide +kernel
theorem dL_law_392 : decode cL_law 392 = .ok (.aload_n 0, 1) := by decide +kernel
theorem dL_law_393 : decode cL_law 393 = .ok (.iload_n 3, 1) := by decide +kernel
theorem dL_law_394 : decode cL_law 394 = .ok (.iconst 3, 1) := by decide +kernel
theorem dL_law_395 : decode cL_law 395 = .ok (.iadd, 1) := by decide +kernel
theorem dL_law_396 : decode cL_law 396 = .ok (.iaload, 1) := by decide +kernel
theorem dL_law_397 : decode cL_law 397 = .ok (.aload_n 0, 1) := by decide +kernel
theorem dL_law_398 : decode cL_law 398 = .ok (.iload_n 3, 1) := by decide +kernel
theorem dL_law_399 : decode cL_law 399 = .ok (.iconst 4, 1) := by decide +kernel
theorem dL_law_400 : decode cL_law 400 = .ok (.iadd, 1) := by decide +kernel
theorem dL_law_401 : decode cL_law 401 = .ok (.iaload, 1) := by decide +kernel
theorem dL_law_402 : decode cL_law 402 = .ok (.invokevirtual 44, 3) := by decide +kernel
theorem dL_law_405 : decode cL_law 405 = .ok (.aload_n 2, 1) := by decide +kernel
theorem dL_law_406 : decode cL_law 406 = .ok (.aload_n 0, 1) := by decide +kernel
theorem dL_law_407 : decode cL_law 407 = .ok (.iload_n 3, 1) := by decide +kernel
theorem dL_law_408 : decode cL_law 408 = .ok (.iconst 1, 1) := by decide +kernel
theorem dL_law_409 : decode cL_law 409 = .ok (.iadd, 1) := by decide +kernel
theorem dL_law_410 : decode cL_law 410 = .ok (.iaload, 1) := by decide +kernel
theorem dL_law_411 : decode cL_law 411 = .ok (.aload_n 0, 1) := by decide +kernel
theorem dL_law_412 : decode cL_law 412 = .ok (.iload_n 3, 1) := by decide +kernel
theorem dL_law_413 : decode cL_law 413 = .ok (.iconst 2, 1) := by decide +kernel
theorem dL_law_414 : decode cL_law 414 = .ok (.iadd, 1) := by decide +kernel
theorem dL_law_415 : decode cL_law 415 = .ok (.iaload, 1) := by decide +kernel
theorem dL_law_416 : decode cL_law 416 = .ok (.aload_n 0, 1) := by decide +kernel
theorem dL_law_417 : decode cL_law 417 = .ok (.iload_n 3, 1) := by decide +kernel
theorem dL_law_418 : decode cL_law 418 = .ok (.iconst 3, 1) := by decide +kernel
theorem dL_law_419 : decode cL_law 419 = .ok (.iadd, 1) := by decide +kernel
theorem dL_law_420 : decode cL_law 420 = .ok (.iaload, 1) := by decide +kernel
theorem dL_law_421 : decode cL_law 421 = .ok (.aload_n 0, 1) := by decide +kernel
theorem dL_law_422 : decode cL_law 422 = .ok (.iload_n 3, 1) := by decide +kernel
theorem dL_law_423 : decode cL_law 423 = .ok (.iconst 4, 1) := by decide +kernel
theorem dL_law_424 : decode cL_law 424 = .ok (.iadd, 1) := by decide +kernel
theorem dL_law_425 : decode cL_law 425 = .ok (.iaload, 1) := by decide +kernel
theorem dL_law_426 : decode cL_law 426 = .ok (.invokevirtual 48, 3) := by decide +kernel
theorem dL_law_429 : decode cL_law 429 = .ok (.if_icmp .eq 595, 3) := by decide +kernel
theorem dL_law_432 : decode cL_law 432 = .ok (.iconst 0, 1) := by decide +kernel
theorem dL_law_433 : decode cL_law 433 = .ok (.ireturn, 1) := by decide +kernel
theorem dL_law_434 : decode cL_law 434 = .ok (.aload_n 1, 1) := by decide +kernel
theorem dL_law_435 : decode cL_law 435 = .ok (.aload_n 0, 1) := by decide +kernel
theorem dL_law_436 : decode cL_law 436 = .ok (.iload_n 3, 1) := by decide +kernel
theorem dL_law_437 : decode cL_law 437 = .ok (.iconst 1, 1) := by decide +kernel
theorem dL_law_438 : decode cL_law 438 = .ok (.iadd, 1) := by decide +kernel
theorem dL_law_439 : decode cL_law 439 = .ok (.iaload, 1) := by decide +kernel
theorem dL_law_440 : decode cL_law 440 = .ok (.aload_n 0, 1) := by decide +kernel
theorem dL_law_441 : decode cL_law 441 = .ok (.iload_n 3, 1) := by decide +kernel
theorem dL_law_442 : decode cL_law 442 = .ok (.iconst 2, 1) := by decide +kernel
theorem dL_law_443 : decode cL_law 443 = .ok (.iadd, 1) := by decide +kernel
theorem dL_law_444 : decode cL_law 444 = .ok (.iaload, 1) := by decide +kernel
theorem dL_law_445 : decode cL_law 445 = .ok (.invokevirtual 49, 3) := by decide +kernel
theorem dL_law_448 : decode cL_law 448 = .ok (.aload_n 2, 1) := by decide +kernel
theorem dL_law_449 : decode cL_law 449 = .ok (.aload_n 0, 1) := by decide +kernel
theorem dL_law_450 : decode cL_law 450 = .ok (.iload_n 3, 1) := by decide +kernel
theorem dL_law_451 : decode cL_law 451 = .ok (.iconst 1, 1) := by decide +kernel
theorem dL_law_452 : decode cL_law 452 = .ok (.iadd, 1) := by decide +kernel
theorem dL_law_453 : decode cL_law 453 = .ok (.iaload, 1) := by decide +kernel
theorem dL_law_454 : decode cL_law 454 = .ok (.aload_n 0, 1) := by decide +kernel
theorem dL_law_455 : decode cL_law 455 = .ok (.iload_n 3, 1) := by decide +kernel
theorem dL_law_456 : decode cL_law 456 = .ok (.iconst 2, 1) := by decide +kernel
theorem dL_law_457 : decode cL_law 457 = .ok (.iadd, 1) := by decide +kernel
theorem dL_law_458 : decode cL_law 458 = .ok (.iaload, 1) := by decide +kernel
theorem dL_law_459 : decode cL_law 459 = .ok (.invokevirtual 52, 3) := by decide +kernel
theorem dL_law_462 : decode cL_law 462 = .ok (.if_icmp .eq 562, 3) := by decide +kernel
theorem dL_law_465 : decode cL_law 465 = .ok (.iconst 0, 1) := by decide +kernel
theorem dL_law_466 : decode cL_law 466 = .ok (.ireturn, 1) := by decide +kernel
theorem dL_law_467 : decode cL_law 467 = .ok (.aload_n 1, 1) := by decide +kernel
theorem dL_law_468 : decode cL_law 468 = .ok (.aload_n 0, 1) := by decide +kernel
theorem dL_law_469 : decode cL_law 469 = .ok (.iload_n 3, 1) := by decide +kernel
theorem dL_law_470 : decode cL_law 470 = .ok (.iconst 1, 1) := by decide +kernel
theorem dL_law_471 : decode cL_law 471 = .ok (.iadd, 1) := by decide +kernel
theorem dL_law_472 : decode cL_law 472 = .ok (.iaload, 1) := by decide +kernel
theorem dL_law_473 : decode cL_law 473 = .ok (.aload_n 0, 1) := by decide +kernel
theorem dL_law_474 : decode cL_law 474 = .ok (.iload_n 3, 1) := by decide +kernel
theorem dL_law_475 : decode cL_law 475 = .ok (.iconst 2, 1) := by decide +kernel
theorem dL_law_476 : decode cL_law 476 = .ok (.iadd, 1) := by decide +kernel
theorem dL_law_477 : decode cL_law 477 = .ok (.iaload, 1) := by decide +kernel
theorem dL_law_478 : decode cL_law 478 = .ok (.aload_n 0, 1) := by decide +kernel
theorem dL_law_479 : decode cL_law 479 = .ok (.iload_n 3, 1) := by decide +kernel
theorem dL_law_480 : decode cL_law 480 = .ok (.iconst 3, 1) := by decide +kernel
theorem dL_law_481 : decode cL_law 481 = .ok (.iadd, 1) := by decide +kernel
theorem dL_law_482 : decode cL_law 482 = .ok (.iaload, 1) := by decide +kernel
theorem dL_law_483 : decode cL_law 483 = .ok (.aload_n 0, 1) := by decide +kernel
theorem dL_law_484 : decode cL_law 484 = .ok (.iload_n 3, 1) := by decide +kernel
theorem dL_law_485 : decode cL_law 485 = .ok (.iconst 4, 1) := by decide +kernel
theorem dL_law_486 : decode cL_law 486 = .ok (.iadd, 1) := by decide +kernel
theorem dL_law_487 : decode cL_law 487 = .ok (.iaload, 1) := by decide +kernel
theorem dL_law_488 : decode cL_law 488 = .ok (.aload_n 0, 1) := by decide +kernel
theorem dL_law_489 : decode cL_law 489 = .ok (.iload_n 3, 1) := by decide +kernel
theorem dL_law_490 : decode cL_law 490 = .ok (.iconst 5, 1) := by decide +kernel
theorem dL_law_491 : decode cL_law 491 = .ok (.iadd, 1) := by decide +kernel
theorem dL_law_492 : decode cL_law 492 = .ok (.iaload, 1) := by decide +kernel
theorem dL_law_493 : decode cL_law 493 = .ok (.invokevirtual 53, 3) := by decide +kernel
theorem dL_law_496 : decode cL_law 496 = .ok (.aload_n 2, 1) := by decide +kernel
theorem dL_law_497 : decode cL_law 497 = .ok (.aload_n 0, 1) := by decide +kernel
theorem dL_law_498 : decode cL_law 498 = .ok (.iload_n 3, 1) := by decide +kernel
theorem dL_law_499 : decode cL_law 499 = .ok (.iconst 1, 1) := by decide +kernel
theorem dL_law_500 : decode cL_law 500 = .ok (.iadd, 1) := by decide +kernel
theorem dL_law_501 : decode cL_law 501 = .ok (.iaload, 1) := by decide +kernel
theorem dL_law_502 : decode cL_law 502 = .ok (.aload_n 0, 1) := by decide +kernel
theorem dL_law_503 : decode cL_law 503 = .ok (.iload_n 3, 1) := by decide +kernel
theorem dL_law_504 : decode cL_law 504 = .ok (.iconst 2, 1) := by decide +kernel
theorem dL_law_505 : decode cL_law 505 = .ok (.iadd, 1) := by decide +kernel
theorem dL_law_506 : decode cL_law 506 = .ok (.iaload, 1) := by decide +kernel
theorem dL_law_507 : decode cL_law 507 = .ok (.aload_n 0, 1) := by decide +kernel
theorem dL_law_508 : decode cL_law 508 = .ok (.iload_n 3, 1) := by decide +kernel
theorem dL_law_509 : decode cL_law 509 = .ok (.iconst 3, 1) := by decide +kernel
theorem dL_law_510 : decode cL_law 510 = .ok (.iadd, 1) := by decide +kernel
theorem dL_law_511 : decode cL_law 511 = .ok (.iaload, 1) := by decide +kernel
theorem dL_law_512 : decode cL_law 512 = .ok (.aload_n 0, 1) := by decide +kernel
theorem dL_law_513 : decode cL_law 513 = .ok (.iload_n 3, 1) := by decide +kernel
theorem dL_law_514 : decode cL_law 514 = .ok (.iconst 4, 1) := by decide +kernel
theorem dL_law_515 : decode cL_law 515 = .ok (.iadd, 1) := by decide +kernel
theorem dL_law_516 : decode cL_law 516 = .ok (.iaload, 1) := by decide +kernel
theorem dL_law_517 : decode cL_law 517 = .ok (.aload_n 0, 1) := by decide +kernel
theorem dL_law_518 : decode cL_law 518 = .ok (.iload_n 3, 1) := by decide +kernel
theorem dL_law_519 : decode cL_law 519 = .ok (.iconst 5, 1) := by decide +kernel
theorem dL_law_520 : decode cL_law 520 = .ok (.iadd, 1) := by decide +kernel
theorem dL_law_521 : decode cL_law 521 = .ok (.iaload, 1) := by decide +kernel
theorem dL_law_522 : decode cL_law 522 = .ok (.invokevirtual 57, 3) := by decide +kernel
theorem dL_law_525 : decode cL_law 525 = .ok (.if_icmp .eq 499, 3) := by decide +kernel
theorem dL_law_528 : decode cL_law 528 = .ok (.iconst 0, 1) := by decide +kernel
theorem dL_law_529 : decode cL_law 529 = .ok (.ireturn, 1) := by decide +kernel
theorem dL_law_530 : decode cL_law 530 = .ok (.aload_n 1, 1) := by decide +kernel
theorem dL_law_531 : decode cL_law 531 = .ok (.aload_n 0, 1) := by decide +kernel
theorem dL_law_532 : decode cL_law 532 = .ok (.iload_n 3, 1) := by decide +kernel
theorem dL_law_533 : decode cL_law 533 = .ok (.iconst 1, 1) := by decide +kernel
theorem dL_law_534 : decode cL_law 534 = .ok (.iadd, 1) := by decide +kernel
theorem dL_law_535 : decode cL_law 535 = .ok (.iaload, 1) := by decide +kernel
theorem dL_law_536 : decode cL_law 536 = .ok (.aload_n 0, 1) := by decide +kernel
theorem dL_law_537 : decode cL_law 537 = .ok (.iload_n 3, 1) := by decide +kernel
theorem dL_law_538 : decode cL_law 538 = .ok (.iconst 2, 1) := by decide +kernel
theorem dL_law_539 : decode cL_law 539 = .ok (.iadd, 1) := by decide +kernel
theorem dL_law_540 : decode cL_law 540 = .ok (.iaload, 1) := by decide +kernel
theorem dL_law_541 : decode cL_law 541 = .ok (.invokevirtual 58, 3) := by decide +kernel
theorem dL_law_544 : decode cL_law 544 = .ok (.aload_n 2, 1) := by decide +kernel
theorem dL_law_545 : decode cL_law 545 = .ok (.aload_n 0, 1) := by decide +kernel
theorem dL_law_546 : decode cL_law 546 = .ok (.iload_n 3, 1) := by decide +kernel
theorem dL_law_547 : decode cL_law 547 = .ok (.iconst 1, 1) := by decide +kernel
theorem dL_law_548 : decode cL_law 548 = .ok (.iadd, 1) := by decide +kernel
theorem dL_law_549 : decode cL_law 549 = .ok (.iaload, 1) := by decide +kernel
theorem dL_law_550 : decode cL_law 550 = .ok (.aload_n 0, 1) := by decide +kernel
theorem dL_law_551 : decode cL_law 551 = .ok (.iload_n 3, 1) := by decide +kernel
theorem dL_law_552 : decode cL_law 552 = .ok (.iconst 2, 1) := by decide +kernel
theorem dL_law_553 : decode cL_law 553 = .ok (.iadd, 1) := by decide +kernel
theorem dL_law_554 : decode cL_law 554 = .ok (.iaload, 1) := by decide +kernel
theorem dL_law_555 : decode cL_law 555 = .ok (.invokevirtual 61, 3) := by decide +kernel
theorem dL_law_558 : decode cL_law 558 = .ok (.if_icmp .eq 466, 3) := by decide +kernel
theorem dL_law_561 : decode cL_law 561 = .ok (.iconst 0, 1) := by decide +kernel
theorem dL_law_562 : decode cL_law 562 = .ok (.ireturn, 1) := by decide +kernel
theorem dL_law_563 : decode cL_law 563 = .ok (.aload_n 1, 1) := by decide +kernel
theorem dL_law_564 : decode cL_law 564 = .ok (.invokevirtual 62, 3) := by decide +kernel
theorem dL_law_567 : decode cL_law 567 = .ok (.aload_n 2, 1) := by decide +kernel
theorem dL_law_568 : decode cL_law 568 = .ok (.invokevirtual 66, 3) := by decide +kernel
theorem dL_law_571 : decode cL_law 571 = .ok (.if_icmp .eq 453, 3) := by decide +kernel
theorem dL_law_574 : decode cL_law 574 = .ok (.iconst 0, 1) := by decide +kernel
theorem dL_law_575 : decode cL_law 575 = .ok (.ireturn, 1) := by decide +kernel
theorem dL_law_576 : decode cL_law 576 = .ok (.aload_n 1, 1) := by decide +kernel
theorem dL_law_577 : decode cL_law 577 = .ok (.aload_n 0, 1) := by decide +kernel
theorem dL_law_578 : decode cL_law 578 = .ok (.iload_n 3, 1) := by decide +kernel
theorem dL_law_579 : decode cL_law 579 = .ok (.iconst 1, 1) := by decide +kernel
theorem dL_law_580 : decode cL_law 580 = .ok (.iadd, 1) := by decide +kernel
theorem dL_law_581 : decode cL_law 581 = .ok (.iaload, 1) := by decide +kernel
theorem dL_law_582 : decode cL_law 582 = .ok (.aload_n 0, 1) := by decide +kernel
theorem dL_law_583 : decode cL_law 583 = .ok (.iload_n 3, 1) := by decide +kernel
theorem dL_law_584 : decode cL_law 584 = .ok (.iconst 2, 1) := by decide +kernel
theorem dL_law_585 : decode cL_law 585 = .ok (.iadd, 1) := by decide +kernel
theorem dL_law_586 : decode cL_law 586 = .ok (.iaload, 1) := by decide +kernel
theorem dL_law_587 : decode cL_law 587 = .ok (.invokevirtual 67, 3) := by decide +kernel
theorem dL_law_590 : decode cL_law 590 = .ok (.aload_n 2, 1) := by decide +kernel
theorem dL_law_591 : decode cL_law 591 = .ok (.aload_n 0, 1) := by decide +kernel
theorem dL_law_592 : decode cL_law 592 = .ok (.iload_n 3, 1) := by decide +kernel
theorem dL_law_593 : decode cL_law 593 = .ok (.iconst 1, 1) := by decide +kernel
theorem dL_law_594 : decode cL_law 594 = .ok (.iadd, 1) := by decide +kernel
theorem dL_law_595 : decode cL_law 595 = .ok (.iaload, 1) := by decide +kernel
theorem dL_law_596 : decode cL_law 596 = .ok (.aload_n 0, 1) := by decide +kernel
theorem dL_law_597 : decode cL_law 597 = .ok (.iload_n 3, 1) := by decide +kernel
theorem dL_law_598 : decode cL_law 598 = .ok (.iconst 2, 1) := by decide +kernel
theorem dL_law_599 : decode cL_law 599 = .ok (.iadd, 1) := by decide +kernel
theorem dL_law_600 : decode cL_law 600 = .ok (.iaload, 1) := by decide +kernel
theorem dL_law_601 : decode cL_law 601 = .ok (.invokevirtual 70, 3) := by decide +kernel
theorem dL_law_604 : decode cL_law 604 = .ok (.if_icmp .eq 420, 3) := by decide +kernel
theorem dL_law_607 : decode cL_law 607 = .ok (.iconst 0, 1) := by decide +kernel
theorem dL_law_608 : decode cL_law 608 = .ok (.ireturn, 1) := by decide +kernel
theorem dL_law_609 : decode cL_law 609 = .ok (.aload_n 1, 1) := by decide +kernel
theorem dL_law_610 : decode cL_law 610 = .ok (.aload_n 0, 1) := by decide +kernel
theorem dL_law_611 : decode cL_law 611 = .ok (.iload_n 3, 1) := by decide +kernel
theorem dL_law_612 : decode cL_law 612 = .ok (.iconst 1, 1) := by decide +kernel
theorem dL_law_613 : decode cL_law 613 = .ok (.iadd, 1) := by decide +kernel
theorem dL_law_614 : decode cL_law 614 = .ok (.iaload, 1) := by decide +kernel
theorem dL_law_615 : decode cL_law 615 = .ok (.aload_n 0, 1) := by decide +kernel
theorem dL_law_616 : decode cL_law 616 = .ok (.iload_n 3, 1) := by decide +kernel
theorem dL_law_617 : decode cL_law 617 = .ok (.iconst 2, 1) := by decide +kernel
theorem dL_law_618 : decode cL_law 618 = .ok (.iadd, 1) := by decide +kernel
theorem dL_law_619 : decode cL_law 619 = .ok (.iaload, 1) := by decide +kernel
theorem dL_law_620 : decode cL_law 620 = .ok (.invokevirtual 71, 3) := by decide +kernel
theorem dL_law_623 : decode cL_law 623 = .ok (.aload_n 2, 1) := by decide +kernel
theorem dL_law_624 : decode cL_law 624 = .ok (.aload_n 0, 1) := by decide +kernel
theorem dL_law_625 : decode cL_law 625 = .ok (.iload_n 3, 1) := by decide +kernel
theorem dL_law_626 : decode cL_law 626 = .ok (.iconst 1, 1) := by decide +kernel
theorem dL_law_627 : decode cL_law 627 = .ok (.iadd, 1) := by decide +kernel
theorem dL_law_628 : decode cL_law 628 = .ok (.iaload, 1) := by decide +kernel
theorem dL_law_629 : decode cL_law 629 = .ok (.aload_n 0, 1) := by decide +kernel
theorem dL_law_630 : decode cL_law 630 = .ok (.iload_n 3, 1) := by decide +kernel
theorem dL_law_631 : decode cL_law 631 = .ok (.iconst 2, 1) := by decide +kernel
theorem dL_law_632 : decode cL_law 632 = .ok (.iadd, 1) := by decide +kernel
theorem dL_law_633 : decode cL_law 633 = .ok (.iaload, 1) := by decide +kernel
theorem dL_law_634 : decode cL_law 634 = .ok (.invokevirtual 74, 3) := by decide +kernel
theorem dL_law_637 : decode cL_law 637 = .ok (.if_icmp .eq 387, 3) := by decide +kernel
theorem dL_law_640 : decode cL_law 640 = .ok (.iconst 0, 1) := by decide +kernel
theorem dL_law_641 : decode cL_law 641 = .ok (.ireturn, 1) := by decide +kernel
theorem dL_law_642 : decode cL_law 642 = .ok (.aload_n 1, 1) := by decide +kernel
theorem dL_law_643 : decode cL_law 643 = .ok (.invokevirtual 75, 3) := by decide +kernel
theorem dL_law_646 : decode cL_law 646 = .ok (.aload_n 2, 1) := by decide +kernel
theorem dL_law_647 : decode cL_law 647 = .ok (.invokevirtual 78, 3) := by decide +kernel
theorem dL_law_650 : decode cL_law 650 = .ok (.if_icmp .eq 374, 3) := by decide +kernel
theorem dL_law_653 : decode cL_law 653 = .ok (.iconst 0, 1) := by decide +kernel
theorem dL_law_654 : decode cL_law 654 = .ok (.ireturn, 1) := by decide +kernel
theorem dL_law_655 : decode cL_law 655 = .ok (.aload_n 1, 1) := by decide +kernel
theorem dL_law_656 : decode cL_law 656 = .ok (.aload_n 0, 1) := by decide +kernel
theorem dL_law_657 : decode cL_law 657 = .ok (.iload_n 3, 1) := by decide +kernel
theorem dL_law_658 : decode cL_law 658 = .ok (.iconst 1, 1) := by decide +kernel
theorem dL_law_659 : decode cL_law 659 = .ok (.iadd, 1) := by decide +kernel
theorem dL_law_660 : decode cL_law 660 = .ok (.iaload, 1) := by decide +kernel
theorem dL_law_661 : decode cL_law 661 = .ok (.invokevirtual 79, 3) := by decide +kernel
theorem dL_law_664 : decode cL_law 664 = .ok (.aload_n 2, 1) := by decide +kernel
theorem dL_law_665 : decode cL_law 665 = .ok (.aload_n 0, 1) := by decide +kernel
theorem dL_law_666 : decode cL_law 666 = .ok (.iload_n 3, 1) := by decide +kernel
theorem dL_law_667 : decode cL_law 667 = .ok (.iconst 1, 1) := by decide +kernel
theorem dL_law_668 : decode cL_law 668 = .ok (.iadd, 1) := by decide +kernel
theorem dL_law_669 : decode cL_law 669 = .ok (.iaload, 1) := by decide +kernel
theorem dL_law_670 : decode cL_law 670 = .ok (.invokevirtual 82, 3) := by decide +kernel
theorem dL_law_673 : decode cL_law 673 = .ok (.if_icmp .eq 351, 3) := by decide +kernel
theorem dL_law_676 : decode cL_law 676 = .ok (.iconst 0, 1) := by decide +kernel
theorem dL_law_677 : decode cL_law 677 = .ok (.ireturn, 1) := by decide +kernel
theorem dL_law_678 : decode cL_law 678 = .ok (.aload_n 1, 1) := by decide +kernel
theorem dL_law_679 : decode cL_law 679 = .ok (.aload_n 0, 1) := by decide +kernel
theorem dL_law_680 : decode cL_law 680 = .ok (.iload_n 3, 1) := by decide +kernel
theorem dL_law_681 : decode cL_law 681 = .ok (.iconst 1, 1) := by decide +kernel
theorem dL_law_682 : decode cL_law 682 = .ok (.iadd, 1) := by decide +kernel
theorem dL_law_683 : decode cL_law 683 = .ok (.iaload, 1) := by decide +kernel
theorem dL_law_684 : decode cL_law 684 = .ok (.aload_n 0, 1) := by decide +kernel
theorem dL_law_685 : decode cL_law 685 = .ok (.iload_n 3, 1) := by decide +kernel
theorem dL_law_686 : decode cL_law 686 = .ok (.iconst 2, 1) := by decide +kernel
theorem dL_law_687 : decode cL_law 687 = .ok (.iadd, 1) := by decide +kernel
theorem dL_law_688 : decode cL_law 688 = .ok (.iaload, 1) := by decide +kernel
theorem dL_law_689 : decode cL_law 689 = .ok (.invokevirtual 83, 3) := by decide +kernel
theorem dL_law_692 : decode cL_law 692 = .ok (.aload_n 2, 1) := by decide +kernel
theorem dL_law_693 : decode cL_law 693 = .ok (.aload_n 0, 1) := by decide +kernel
theorem dL_law_694 : decode cL_law 694 = .ok (.iload_n 3, 1) := by decide +kernel
theorem dL_law_695 : decode cL_law 695 = .ok (.iconst 1, 1) := by decide +kernel
theorem dL_law_696 : decode cL_law 696 = .ok (.iadd, 1) := by decide +kernel
theorem dL_law_697 : decode cL_law 697 = .ok (.iaload, 1) := by decide +kernel
theorem dL_law_698 : decode cL_law 698 = .ok (.aload_n 0, 1) := by decide +kernel
theorem dL_law_699 : decode cL_law 699 = .ok (.iload_n 3, 1) := by decide +kernel
theorem dL_law_700 : decode cL_law 700 = .ok (.iconst 2, 1) := by decide +kernel
theorem dL_law_701 : decode cL_law 701 = .ok (.iadd, 1) := by decide +kernel
theorem dL_law_702 : decode cL_law 702 = .ok (.iaload, 1) := by decide +kernel
theorem dL_law_703 : decode cL_law 703 = .ok (.invokevirtual 86, 3) := by decide +kernel
theorem dL_law_706 : decode cL_law 706 = .ok (.if_icmp .eq 318, 3) := by decide +kernel
theorem dL_law_709 : decode cL_law 709 = .ok (.iconst 0, 1) := by decide +kernel
theorem dL_law_710 : decode cL_law 710 = .ok (.ireturn, 1) := by decide +kernel
theorem dL_law_711 : decode cL_law 711 = .ok (.aload_n 1, 1) := by decide +kernel
theorem dL_law_712 : decode cL_law 712 = .ok (.aload_n 0, 1) := by decide +kernel
theorem dL_law_713 : decode cL_law 713 = .ok (.iload_n 3, 1) := by decide +kernel
theorem dL_law_714 : decode cL_law 714 = .ok (.iconst 1, 1) := by decide +kernel
theorem dL_law_715 : decode cL_law 715 = .ok (.iadd, 1) := by decide +kernel
theorem dL_law_716 : decode cL_law 716 = .ok (.iaload, 1) := by decide +kernel
theorem dL_law_717 : decode cL_law 717 = .ok (.invokevirtual 87, 3) := by decide +kernel
theorem dL_law_720 : decode cL_law 720 = .ok (.aload_n 2, 1) := by decide +kernel
theorem dL_law_721 : decode cL_law 721 = .ok (.aload_n 0, 1) := by decide +kernel
theorem dL_law_722 : decode cL_law 722 = .ok (.iload_n 3, 1) := by decide +kernel
theorem dL_law_723 : decode cL_law 723 = .ok (.iconst 1, 1) := by decide +kernel
theorem dL_law_724 : decode cL_law 724 = .ok (.iadd, 1) := by decide +kernel
theorem dL_law_725 : decode cL_law 725 = .ok (.iaload, 1) := by decide +kernel
theorem dL_law_726 : decode cL_law 726 = .ok (.invokevirtual 90, 3) := by decide +kernel
theorem dL_law_729 : decode cL_law 729 = .ok (.if_icmp .eq 295, 3) := by decide +kernel
theorem dL_law_732 : decode cL_law 732 = .ok (.iconst 0, 1) := by decide +kernel
theorem dL_law_733 : decode cL_law 733 = .ok (.ireturn, 1) := by decide +kernel
theorem dL_law_734 : decode cL_law 734 = .ok (.aload_n 1, 1) := by decide +kernel
theorem dL_law_735 : decode cL_law 735 = .ok (.aload_n 0, 1) := by decide +kernel
theorem dL_law_736 : decode cL_law 736 = .ok (.iload_n 3, 1) := by decide +kernel
theorem dL_law_737 : decode cL_law 737 = .ok (.iconst 1, 1) := by decide +kernel
theorem dL_law_738 : decode cL_law 738 = .ok (.iadd, 1) := by decide +kernel
theorem dL_law_739 : decode cL_law 739 = .ok (.iaload, 1) := by decide +kernel
theorem dL_law_740 : decode cL_law 740 = .ok (.invokevirtual 91, 3) := by decide +kernel
theorem dL_law_743 : decode cL_law 743 = .ok (.aload_n 2, 1) := by decide +kernel
theorem dL_law_744 : decode cL_law 744 = .ok (.aload_n 0, 1) := by decide +kernel
theorem dL_law_745 : decode cL_law 745 = .ok (.iload_n 3, 1) := by decide +kernel
theorem dL_law_746 : decode cL_law 746 = .ok (.iconst 1, 1) := by decide +kernel
theorem dL_law_747 : decode cL_law 747 = .ok (.iadd, 1) := by decide +kernel
theorem dL_law_748 : decode cL_law 748 = .ok (.iaload, 1) := by decide +kernel
theorem dL_law_749 : decode cL_law 749 = .ok (.invokevirtual 94, 3) := by decide +kernel
theorem dL_law_752 : decode cL_law 752 = .ok (.if_icmp .eq 272, 3) := by decide +kernel
theorem dL_law_755 : decode cL_law 755 = .ok (.iconst 0, 1) := by decide +kernel
theorem dL_law_756 : decode cL_law 756 = .ok (.ireturn, 1) := by decide +kernel
theorem dL_law_757 : decode cL_law 757 = .ok (.aload_n 1, 1) := by decide +kernel
theorem dL_law_758 : decode cL_law 758 = .ok (.aload_n 0, 1) := by decide +kernel
theorem dL_law_759 : decode cL_law 759 = .ok (.iload_n 3, 1) := by decide +kernel
theorem dL_law_760 : decode cL_law 760 = .ok (.iconst 1, 1) := by decide +kernel
theorem dL_law_761 : decode cL_law 761 = .ok (.iadd, 1) := by decide +kernel
theorem dL_law_762 : decode cL_law 762 = .ok (.iaload, 1) := by decide +kernel
theorem dL_law_763 : decode cL_law 763 = .ok (.invokevirtual 95, 3) := by decide +kernel
theorem dL_law_766 : decode cL_law 766 = .ok (.aload_n 2, 1) := by decide +kernel
theorem dL_law_767 : decode cL_law 767 = .ok (.aload_n 0, 1) := by decide +kernel
theorem dL_law_768 : decode cL_law 768 = .ok (.iload_n 3, 1) := by decide +kernel
theorem dL_law_769 : decode cL_law 769 = .ok (.iconst 1, 1) := by decide +kernel
theorem dL_law_770 : decode cL_law 770 = .ok (.iadd, 1) := by decide +kernel
theorem dL_law_771 : decode cL_law 771 = .ok (.iaload, 1) := by decide +kernel
theorem dL_law_772 : decode cL_law 772 = .ok (.invokevirtual 98, 3) := by decide +kernel
theorem dL_law_775 : decode cL_law 775 = .ok (.if_icmp .eq 249, 3) := by decide +kernel
theorem dL_law_778 : decode cL_law 778 = .ok (.iconst 0, 1) := by decide +kernel
theorem dL_law_779 : decode cL_law 779 = .ok (.ireturn, 1) := by decide +kernel
theorem dL_law_780 : decode cL_law 780 = .ok (.aload_n 1, 1) := by decide +kernel
theorem dL_law_781 : decode cL_law 781 = .ok (.aload_n 0, 1) := by decide +kernel
theorem dL_law_782 : decode cL_law 782 = .ok (.iload_n 3, 1) := by decide +kernel
theorem dL_law_783 : decode cL_law 783 = .ok (.iconst 1, 1) := by decide +kernel
theorem dL_law_784 : decode cL_law 784 = .ok (.iadd, 1) := by decide +kernel
theorem dL_law_785 : decode cL_law 785 = .ok (.iaload, 1) := by decide +kernel
theorem dL_law_786 : decode cL_law 786 = .ok (.invokevirtual 99, 3) := by decide +kernel
theorem dL_law_789 : decode cL_law 789 = .ok (.aload_n 2, 1) := by decide +kernel
theorem dL_law_790 : decode cL_law 790 = .ok (.aload_n 0, 1) := by decide +kernel
theorem dL_law_791 : decode cL_law 791 = .ok (.iload_n 3, 1) := by decide +kernel
theorem dL_law_792 : decode cL_law 792 = .ok (.iconst 1, 1) := by decide +kernel
theorem dL_law_793 : decode cL_law 793 = .ok (.iadd, 1) := by decide +kernel
theorem dL_law_794 : decode cL_law 794 = .ok (.iaload, 1) := by decide +kernel
theorem dL_law_795 : decode cL_law 795 = .ok (.invokevirtual 102, 3) := by decide +kernel
theorem dL_law_798 : decode cL_law 798 = .ok (.if_icmp .eq 226, 3) := by decide +kernel
theorem dL_law_801 : decode cL_law 801 = .ok (.iconst 0, 1) := by decide +kernel
theorem dL_law_802 : decode cL_law 802 = .ok (.ireturn, 1) := by decide +kernel
theorem dL_law_803 : decode cL_law 803 = .ok (.aload_n 1, 1) := by decide +kernel
theorem dL_law_804 : decode cL_law 804 = .ok (.aload_n 0, 1) := by decide +kernel
theorem dL_law_805 : decode cL_law 805 = .ok (.iload_n 3, 1) := by decide +kernel
theorem dL_law_806 : decode cL_law 806 = .ok (.iconst 1, 1) := by decide +kernel
theorem dL_law_807 : decode cL_law 807 = .ok (.iadd, 1) := by decide +kernel
theorem dL_law_808 : decode cL_law 808 = .ok (.iaload, 1) := by decide +kernel
theorem dL_law_809 : decode cL_law 809 = .ok (.aload_n 0, 1) := by decide +kernel
theorem dL_law_810 : decode cL_law 810 = .ok (.iload_n 3, 1) := by decide +kernel
theorem dL_law_811 : decode cL_law 811 = .ok (.iconst 2, 1) := by decide +kernel
theorem dL_law_812 : decode cL_law 812 = .ok (.iadd, 1) := by decide +kernel
theorem dL_law_813 : decode cL_law 813 = .ok (.iaload, 1) := by decide +kernel
theorem dL_law_814 : decode cL_law 814 = .ok (.invokevirtual 103, 3) := by decide +kernel
theorem dL_law_817 : decode cL_law 817 = .ok (.aload_n 2, 1) := by decide +kernel
theorem dL_law_818 : decode cL_law 818 = .ok (.aload_n 0, 1) := by decide +kernel
theorem dL_law_819 : decode cL_law 819 = .ok (.iload_n 3, 1) := by decide +kernel
theorem dL_law_820 : decode cL_law 820 = .ok (.iconst 1, 1) := by decide +kernel
theorem dL_law_821 : decode cL_law 821 = .ok (.iadd, 1) := by decide +kernel
theorem dL_law_822 : decode cL_law 822 = .ok (.iaload, 1) := by decide +kernel
theorem dL_law_823 : decode cL_law 823 = .ok (.aload_n 0, 1) := by decide +kernel
theorem dL_law_824 : decode cL_law 824 = .ok (.iload_n 3, 1) := by decide +kernel
theorem dL_law_825 : decode cL_law 825 = .ok (.iconst 2, 1) := by decide +kernel
theorem dL_law_826 : decode cL_law 826 = .ok (.iadd, 1) := by decide +kernel
theorem dL_law_827 : decode cL_law 827 = .ok (.iaload, 1) := by decide +kernel
theorem dL_law_828 : decode cL_law 828 = .ok (.invokevirtual 106, 3) := by decide +kernel
theorem dL_law_831 : decode cL_law 831 = .ok (.if_icmp .eq 193, 3) := by decide +kernel
theorem dL_law_834 : decode cL_law 834 = .ok (.iconst 0, 1) := by decide +kernel
theorem dL_law_835 : decode cL_law 835 = .ok (.ireturn, 1) := by decide +kernel
theorem dL_law_836 : decode cL_law 836 = .ok (.aload_n 1, 1) := by decide +kernel
theorem dL_law_837 : decode cL_law 837 = .ok (.aload_n 0, 1) := by decide +kernel
theorem dL_law_838 : decode cL_law 838 = .ok (.iload_n 3, 1) := by decide +kernel
theorem dL_law_839 : decode cL_law 839 = .ok (.iconst 1, 1) := by decide +kernel
theorem dL_law_840 : decode cL_law 840 = .ok (.iadd, 1) := by decide +kernel
theorem dL_law_841 : decode cL_law 841 = .ok (.iaload, 1) := by decide +kernel
theorem dL_law_842 : decode cL_law 842 = .ok (.aload_n 0, 1) := by decide +kernel
theorem dL_law_843 : decode cL_law 843 = .ok (.iload_n 3, 1) := by decide +kernel
theorem dL_law_844 : decode cL_law 844 = .ok (.iconst 2, 1) := by decide +kernel
theorem dL_law_845 : decode cL_law 845 = .ok (.iadd, 1) := by decide +kernel
theorem dL_law_846 : decode cL_law 846 = .ok (.iaload, 1) := by decide +kernel
theorem dL_law_847 : decode cL_law 847 = .ok (.invokevirtual 107, 3) := by decide +kernel
theorem dL_law_850 : decode cL_law 850 = .ok (.aload_n 2, 1) := by decide +kernel
theorem dL_law_851 : decode cL_law 851 = .ok (.aload_n 0, 1) := by decide +kernel
theorem dL_law_852 : decode cL_law 852 = .ok (.iload_n 3, 1) := by decide +kernel
theorem dL_law_853 : decode cL_law 853 = .ok (.iconst 1, 1) := by decide +kernel
theorem dL_law_854 : decode cL_law 854 = .ok (.iadd, 1) := by decide +kernel
theorem dL_law_855 : decode cL_law 855 = .ok (.iaload, 1) := by decide +kernel
theorem dL_law_856 : decode cL_law 856 = .ok (.aload_n 0, 1) := by decide +kernel
theorem dL_law_857 : decode cL_law 857 = .ok (.iload_n 3, 1) := by decide +kernel
theorem dL_law_858 : decode cL_law 858 = .ok (.iconst 2, 1) := by decide +kernel
theorem dL_law_859 : decode cL_law 859 = .ok (.iadd, 1) := by decide +kernel
theorem dL_law_860 : decode cL_law 860 = .ok (.iaload, 1) := by decide +kernel
theorem dL_law_861 : decode cL_law 861 = .ok (.invokevirtual 110, 3) := by decide +kernel
theorem dL_law_864 : decode cL_law 864 = .ok (.if_icmp .eq 160, 3) := by decide +kernel
theorem dL_law_867 : decode cL_law 867 = .ok (.iconst 0, 1) := by decide +kernel
theorem dL_law_868 : decode cL_law 868 = .ok (.ireturn, 1) := by decide +kernel
theorem dL_law_869 : decode cL_law 869 = .ok (.aload_n 1, 1) := by decide +kernel
theorem dL_law_870 : decode cL_law 870 = .ok (.aload_n 0, 1) := by decide +kernel
theorem dL_law_871 : decode cL_law 871 = .ok (.iload_n 3, 1) := by decide +kernel
theorem dL_law_872 : decode cL_law 872 = .ok (.iconst 1, 1) := by decide +kernel
theorem dL_law_873 : decode cL_law 873 = .ok (.iadd, 1) := by decide +kernel
theorem dL_law_874 : decode cL_law 874 = .ok (.iaload, 1) := by decide +kernel
theorem dL_law_875 : decode cL_law 875 = .ok (.aload_n 0, 1) := by decide +kernel
theorem dL_law_876 : decode cL_law 876 = .ok (.iload_n 3, 1) := by decide +kernel
theorem dL_law_877 : decode cL_law 877 = .ok (.iconst 2, 1) := by decide +kernel
theorem dL_law_878 : decode cL_law 878 = .ok (.iadd, 1) := by decide +kernel
theorem dL_law_879 : decode cL_law 879 = .ok (.iaload, 1) := by decide +kernel
theorem dL_law_880 : decode cL_law 880 = .ok (.invokevirtual 111, 3) := by decide +kernel
theorem dL_law_883 : decode cL_law 883 = .ok (.aload_n 2, 1) := by decide +kernel
theorem dL_law_884 : decode cL_law 884 = .ok (.aload_n 0, 1) := by decide +kernel
theorem dL_law_885 : decode cL_law 885 = .ok (.iload_n 3, 1) := by decide +kernel
theorem dL_law_886 : decode cL_law 886 = .ok (.iconst 1, 1) := by decide +kernel
theorem dL_law_887 : decode cL_law 887 = .ok (.iadd, 1) := by decide +kernel
theorem dL_law_888 : decode cL_law 888 = .ok (.iaload, 1) := by decide +kernel
theorem dL_law_889 : decode cL_law 889 = .ok (.aload_n 0, 1) := by decide +kernel
theorem dL_law_890 : decode cL_law 890 = .ok (.iload_n 3, 1) := by decide +kernel
theorem dL_law_891 : decode cL_law 891 = .ok (.iconst 2, 1) := by decide +kernel
theorem dL_law_892 : decode cL_law 892 = .ok (.iadd, 1) := by decide +kernel
theorem dL_law_893 : decode cL_law 893 = .ok (.iaload, 1) := by decide +kernel
theorem dL_law_894 : decode cL_law 894 = .ok (.invokevirtual 114, 3) := by decide +kernel
theorem dL_law_897 : decode cL_law 897 = .ok (.if_icmp .eq 127, 3) := by decide +kernel
theorem dL_law_900 : decode cL_law 900 = .ok (.iconst 0, 1) := by decide +kernel
theorem dL_law_901 : decode cL_law 901 = .ok (.ireturn, 1) := by decide +kernel
theorem dL_law_902 : decode cL_law 902 = .ok (.aload_n 1, 1) := by decide +kernel
theorem dL_law_903 : decode cL_law 903 = .ok (.aload_n 0, 1) := by decide +kernel
theorem dL_law_904 : decode cL_law 904 = .ok (.iload_n 3, 1) := by decide +kernel
theorem dL_law_905 : decode cL_law 905 = .ok (.iconst 1, 1) := by decide +kernel
theorem dL_law_906 : decode cL_law 906 = .ok (.iadd, 1) := by decide +kernel
theorem dL_law_907 : decode cL_law 907 = .ok (.iaload, 1) := by decide +kernel
theorem dL_law_908 : decode cL_law 908 = .ok (.invokevirtual 115, 3) := by decide +kernel
theorem dL_law_911 : decode cL_law 911 = .ok (.aload_n 2, 1) := by decide +kernel
theorem dL_law_912 : decode cL_law 912 = .ok (.aload_n 0, 1) := by decide +kernel
theorem dL_law_913 : decode cL_law 913 = .ok (.iload_n 3, 1) := by decide +kernel
theorem dL_law_914 : decode cL_law 914 = .ok (.iconst 1, 1) := by decide +kernel
theorem dL_law_915 : decode cL_law 915 = .ok (.iadd, 1) := by decide +kernel
theorem dL_law_916 : decode cL_law 916 = .ok (.iaload, 1) := by decide +kernel
theorem dL_law_917 : decode cL_law 917 = .ok (.invokevirtual 118, 3) := by decide +kernel
theorem dL_law_920 : decode cL_law 920 = .ok (.if_icmp .eq 104, 3) := by decide +kernel
theorem dL_law_923 : decode cL_law 923 = .ok (.iconst 0, 1) := by decide +kernel
theorem dL_law_924 : decode cL_law 924 = .ok (.ireturn, 1) := by decide +kernel
theorem dL_law_925 : decode cL_law 925 = .ok (.aload_n 1, 1) := by decide +kernel
theorem dL_law_926 : decode cL_law 926 = .ok (.aload_n 0, 1) := by decide +kernel
theorem dL_law_927 : decode cL_law 927 = .ok (.iload_n 3, 1) := by decide +kernel
theorem dL_law_928 : decode cL_law 928 = .ok (.iconst 1, 1) := by decide +kernel
theorem dL_law_929 : decode cL_law 929 = .ok (.iadd, 1) := by decide +kernel
theorem dL_law_930 : decode cL_law 930 = .ok (.iaload, 1) := by decide +kernel
theorem dL_law_931 : decode cL_law 931 = .ok (.invokevirtual 119, 3) := by decide +kernel
theorem dL_law_934 : decode cL_law 934 = .ok (.aload_n 2, 1) := by decide +kernel
theorem dL_law_935 : decode cL_law 935 = .ok (.aload_n 0, 1) := by decide +kernel
theorem dL_law_936 : decode cL_law 936 = .ok (.iload_n 3, 1) := by decide +kernel
theorem dL_law_937 : decode cL_law 937 = .ok (.iconst 1, 1) := by decide +kernel
theorem dL_law_938 : decode cL_law 938 = .ok (.iadd, 1) := by decide +kernel
theorem dL_law_939 : decode cL_law 939 = .ok (.iaload, 1) := by decide +kernel
theorem dL_law_940 : decode cL_law 940 = .ok (.invokevirtual 122, 3) := by decide +kernel
theorem dL_law_943 : decode cL_law 943 = .ok (.if_icmp .eq 81, 3) := by decide +kernel
theorem dL_law_946 : decode cL_law 946 = .ok (.iconst 0, 1) := by decide +kernel
theorem dL_law_947 : decode cL_law 947 = .ok (.ireturn, 1) := by decide +kernel
theorem dL_law_948 : decode cL_law 948 = .ok (.aload_n 1, 1) := by decide +kernel
theorem dL_law_949 : decode cL_law 949 = .ok (.aload_n 0, 1) := by decide +kernel
theorem dL_law_950 : decode cL_law 950 = .ok (.iload_n 3, 1) := by decide +kernel
theorem dL_law_951 : decode cL_law 951 = .ok (.iconst 1, 1) := by decide +kernel
theorem dL_law_952 : decode cL_law 952 = .ok (.iadd, 1) := by decide +kernel
theorem dL_law_953 : decode cL_law 953 = .ok (.iaload, 1) := by decide +kernel
theorem dL_law_954 : decode cL_law 954 = .ok (.aload_n 0, 1) := by decide +kernel
theorem dL_law_955 : decode cL_law 955 = .ok (.iload_n 3, 1) := by decide +kernel
theorem dL_law_956 : decode cL_law 956 = .ok (.iconst 2, 1) := by decide +kernel
theorem dL_law_957 : decode cL_law 957 = .ok (.iadd, 1) := by decide +kernel
theorem dL_law_958 : decode cL_law 958 = .ok (.iaload, 1) := by decide +kernel
theorem dL_law_959 : decode cL_law 959 = .ok (.aload_n 0, 1) := by decide +kernel
theorem dL_law_960 : decode cL_law 960 = .ok (.iload_n 3, 1) := by decide +kernel
theorem dL_law_961 : decode cL_law 961 = .ok (.iconst 3, 1) := by decide +kernel
theorem dL_law_962 : decode cL_law 962 = .ok (.iadd, 1) := by decide +kernel
theorem dL_law_963 : decode cL_law 963 = .ok (.iaload, 1) := by decide +kernel
theorem dL_law_964 : decode cL_law 964 = .ok (.invokevirtual 123, 3) := by decide +kernel
theorem dL_law_967 : decode cL_law 967 = .ok (.aload_n 2, 1) := by decide +kernel
theorem dL_law_968 : decode cL_law 968 = .ok (.aload_n 0, 1) := by decide +kernel
theorem dL_law_969 : decode cL_law 969 = .ok (.iload_n 3, 1) := by decide +kernel
theorem dL_law_970 : decode cL_law 970 = .ok (.iconst 1, 1) := by decide +kernel
theorem dL_law_971 : decode cL_law 971 = .ok (.iadd, 1) := by decide +kernel
theorem dL_law_972 : decode cL_law 972 = .ok (.iaload, 1) := by decide +kernel
theorem dL_law_973 : decode cL_law 973 = .ok (.aload_n 0, 1) := by decide +kernel
theorem dL_law_974 : decode cL_law 974 = .ok (.iload_n 3, 1) := by decide +kernel
theorem dL_law_975 : decode cL_law 975 = .ok (.iconst 2, 1) := by decide +kernel
theorem dL_law_976 : decode cL_law 976 = .ok (.iadd, 1) := by decide +kernel
theorem dL_law_977 : decode cL_law 977 = .ok (.iaload, 1) := by decide +kernel
theorem dL_law_978 : decode cL_law 978 = .ok (.aload_n 0, 1) := by decide +kernel
theorem dL_law_979 : decode cL_law 979 = .ok (.iload_n 3, 1) := by decide +kernel
theorem dL_law_980 : decode cL_law 980 = .ok (.iconst 3, 1) := by decide +kernel
theorem dL_law_981 : decode cL_law 981 = .ok (.iadd, 1) := by decide +kernel
theorem dL_law_982 : decode cL_law 982 = .ok (.iaload, 1) := by decide +kernel
theorem dL_law_983 : decode cL_law 983 = .ok (.invokevirtual 126, 3) := by decide +kernel
theorem dL_law_986 : decode cL_law 986 = .ok (.if_icmp .eq 38, 3) := by decide +kernel
theorem dL_law_989 : decode cL_law 989 = .ok (.iconst 0, 1) := by decide +kernel
theorem dL_law_990 : decode cL_law 990 = .ok (.ireturn, 1) := by decide +kernel
theorem dL_law_991 : decode cL_law 991 = .ok (.aload_n 1, 1) := by decide +kernel
theorem dL_law_992 : decode cL_law 992 = .ok (.aload_n 0, 1) := by decide +kernel
theorem dL_law_993 : decode cL_law 993 = .ok (.iload_n 3, 1) := by decide +kernel
theorem dL_law_994 : decode cL_law 994 = .ok (.iconst 1, 1) := by decide +kernel
theorem dL_law_995 : decode cL_law 995 = .ok (.iadd, 1) := by decide +kernel
theorem dL_law_996 : decode cL_law 996 = .ok (.iaload, 1) := by decide +kernel
theorem dL_law_997 : decode cL_law 997 = .ok (.aload_n 0, 1) := by decide +kernel
theorem dL_law_998 : decode cL_law 998 = .ok (.iload_n 3, 1) := by decide +kernel
theorem dL_law_999 : decode cL_law 999 = .ok (.iconst 2, 1) := by decide +kernel
theorem dL_law_1000 : decode cL_law 1000 = .ok (.iadd, 1) := by decide +kernel
theorem dL_law_1001 : decode cL_law 1001 = .ok (.iaload, 1) := by decide +kernel
theorem dL_law_1002 : decode cL_law 1002 = .ok (.invokevirtual 127, 3) := by decide +kernel
theorem dL_law_1005 : decode cL_law 1005 = .ok (.aload_n 2, 1) := by decide +kernel
theorem dL_law_1006 : decode cL_law 1006 = .ok (.aload_n 0, 1) := by decide +kernel
theorem dL_law_1007 : decode cL_law 1007 = .ok (.iload_n 3, 1) := by decide +kernel
theorem dL_law_1008 : decode cL_law 1008 = .ok (.iconst 1, 1) := by decide +kernel
theorem dL_law_1009 : decode cL_law 1009 = .ok (.iadd, 1) := by decide +kernel
theorem dL_law_1010 : decode cL_law 1010 = .ok (.iaload, 1) := by decide +kernel
theorem dL_law_1011 : decode cL_law 1011 = .ok (.aload_n 0, 1) := by decide +kernel
theorem dL_law_1012 : decode cL_law 1012 = .ok (.iload_n 3, 1) := by decide +kernel
theorem dL_law_1013 : decode cL_law 1013 = .ok (.iconst 2, 1) := by decide +kernel
theorem dL_law_1014 : decode cL_law 1014 = .ok (.iadd, 1) := by decide +kernel
theorem dL_law_1015 : decode cL_law 1015 = .ok (.iaload, 1) := by decide +kernel
theorem dL_law_1016 : decode cL_law 1016 = .ok (.invokevirtual 130, 3) := by decide +kernel
theorem dL_law_1019 : decode cL_law 1019 = .ok (.if_icmp .eq 5, 3) := by decide +kernel
theorem dL_law_1022 : decode cL_law 1022 = .ok (.iconst 0, 1) := by decide +kernel
theorem dL_law_1023 : decode cL_law 1023 = .ok (.ireturn, 1) := by decide +kernel
theorem dL_law_1024 : decode cL_law 1024 = .ok (.iinc 3 6, 3) := by decide +kernel
theorem dL_law_1027 : decode cL_law 1027 = .ok (.goto (-1009), 3) := by decide +kernel
theorem dL_law_1030 : decode cL_law 1030 = .ok (.iconst 1, 1) := by decide +kernel
theorem dL_law_1031 : decode cL_law 1031 = .ok (.ireturn, 1) := by decide +kernel
theorem dJ6_bitCount_0f7a4_0 : decode cJ6_bitCount_0f7a4 0 = .ok (.iload_n 0, 1) := by decide +kernel
theorem dJ6_bitCount_0f7a4_1 : decode cJ6_bitCount_0f7a4 1 = .ok (.iload_n 0, 1) := by decide +kernel
theorem dJ6_bitCount_0f7a4_2 : decode cJ6_bitCount_0f7a4 2 = .ok (.iconst 1, 1) := by decide +kernel
theorem dJ6_bitCount_0f7a4_3 : decode cJ6_bitCount_0f7a4 3 = .ok (.iushr, 1) := by decide +kernel
theorem dJ6_bitCount_0f7a4_4 : decode cJ6_bitCount_0f7a4 4 = .ok (.ldc_w 265, 3) := by decide +kernel
theorem dJ6_bitCount_0f7a4_7 : decode cJ6_bitCount_0f7a4 7 = .ok (.iand, 1) := by decide +kernel
theorem dJ6_bitCount_0f7a4_8 : decode cJ6_bitCount_0f7a4 8 = .ok (.isub, 1) := by decide +kernel
theorem dJ6_bitCount_0f7a4_9 : decode cJ6_bitCount_0f7a4 9 = .ok (.istore_n 0, 1) := by decide +kernel
theorem dJ6_bitCount_0f7a4_10 : decode cJ6_bitCount_0f7a4 10 = .ok (.iload_n 0, 1) := by decide +kernel
theorem dJ6_bitCount_0f7a4_11 : decode cJ6_bitCount_0f7a4 11 = .ok (.ldc_w 266, 3) := by decide +kernel
theorem dJ6_bitCount_0f7a4_14 : decode cJ6_bitCount_0f7a4 14 = .ok (.iand, 1) := by decide +kernel
theorem dJ6_bitCount_0f7a4_15 : decode cJ6_bitCount_0f7a4 15 = .ok (.iload_n 0, 1) := by decide +kernel
theorem dJ6_bitCount_0f7a4_16 : decode cJ6_bitCount_0f7a4 16 = .ok (.iconst 2, 1) := by decide +kernel
theorem dJ6_bitCount_0f7a4_17 : decode cJ6_bitCount_0f7a4 17 = .ok (.iushr, 1) := by decide +kernel
theorem dJ6_bitCount_0f7a4_18 : decode cJ6_bitCount_0f7a4 18 = .ok (.ldc_w 266, 3) := by decide +kernel
theorem dJ6_bitCount_0f7a4_21 : decode cJ6_bitCount_0f7a4 21 = .ok (.iand, 1) := by decide +kernel
theorem dJ6_bitCount_0f7a4_22 : decode cJ6_bitCount_0f7a4 22 = .ok (.iadd, 1) := by decide +kernel
theorem dJ6_bitCount_0f7a4_23 : decode cJ6_bitCount_0f7a4 23 = .ok (.istore_n 0, 1) := by decide +kernel
theorem dJ6_bitCount_0f7a4_24 : decode cJ6_bitCount_0f7a4 24 = .ok (.iload_n 0, 1) := by decide +kernel
theorem dJ6_bitCount_0f7a4_25 : decode cJ6_bitCount_0f7a4 25 = .ok (.iload_n 0, 1) := by decide +kernel
theorem dJ6_bitCount_0f7a4_26 : decode cJ6_bitCount_0f7a4 26 = .ok (.iconst 4, 1) := by decide +kernel
