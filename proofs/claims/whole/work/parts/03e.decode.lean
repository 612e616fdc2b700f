theorem dX8_rule_184 : decode cX8_rule 184 = .ok (.istore 5, 2) := by decide +kernel
theorem dX8_rule_186 : decode cX8_rule 186 = .ok (.iinc 6 1, 3) := by decide +kernel
theorem dX8_rule_189 : decode cX8_rule 189 = .ok (.goto (-104), 3) := by decide +kernel
theorem dX8_rule_192 : decode cX8_rule 192 = .ok (.aload_n 0, 1) := by decide +kernel
theorem dX8_rule_193 : decode cX8_rule 193 = .ok (.getfield 28, 3) := by decide +kernel
theorem dX8_rule_196 : decode cX8_rule 196 = .ok (.iload_n 3, 1) := by decide +kernel
theorem dX8_rule_197 : decode cX8_rule 197 = .ok (.iaload, 1) := by decide +kernel
theorem dX8_rule_198 : decode cX8_rule 198 = .ok (.istore 6, 2) := by decide +kernel
theorem dX8_rule_200 : decode cX8_rule 200 = .ok (.aload_n 0, 1) := by decide +kernel
theorem dX8_rule_201 : decode cX8_rule 201 = .ok (.getfield 37, 3) := by decide +kernel
theorem dX8_rule_204 : decode cX8_rule 204 = .ok (.bipush 32, 2) := by decide +kernel
theorem dX8_rule_206 : decode cX8_rule 206 = .ok (.iload 6, 2) := by decide +kernel
theorem dX8_rule_208 : decode cX8_rule 208 = .ok (.imul, 1) := by decide +kernel
theorem dX8_rule_209 : decode cX8_rule 209 = .ok (.aload_n 0, 1) := by decide +kernel
theorem dX8_rule_210 : decode cX8_rule 210 = .ok (.getfield 40, 3) := by decide +kernel
theorem dX8_rule_213 : decode cX8_rule 213 = .ok (.iload 6, 2) := by decide +kernel
theorem dX8_rule_215 : decode cX8_rule 215 = .ok (.iaload, 1) := by decide +kernel
theorem dX8_rule_216 : decode cX8_rule 216 = .ok (.iadd, 1) := by decide +kernel
theorem dX8_rule_217 : decode cX8_rule 217 = .ok (.iload_n 3, 1) := by decide +kernel
theorem dX8_rule_218 : decode cX8_rule 218 = .ok (.iastore, 1) := by decide +kernel
theorem dX8_rule_219 : decode cX8_rule 219 = .ok (.aload_n 0, 1) := by decide +kernel
theorem dX8_rule_220 : decode cX8_rule 220 = .ok (.getfield 40, 3) := by decide +kernel
theorem dX8_rule_223 : decode cX8_rule 223 = .ok (.iload 6, 2) := by decide +kernel
theorem dX8_rule_225 : decode cX8_rule 225 = .ok (.dup2, 1) := by decide +kernel
theorem dX8_rule_226 : decode cX8_rule 226 = .ok (.iaload, 1) := by decide +kernel
theorem dX8_rule_227 : decode cX8_rule 227 = .ok (.iconst 1, 1) := by decide +kernel
theorem dX8_rule_228 : decode cX8_rule 228 = .ok (.iadd, 1) := by decide +kernel
theorem dX8_rule_229 : decode cX8_rule 229 = .ok (.iastore, 1) := by decide +kernel
theorem dX8_rule_230 : decode cX8_rule 230 = .ok (.aload_n 0, 1) := by decide +kernel
theorem dX8_rule_231 : decode cX8_rule 231 = .ok (.getfield 55, 3) := by decide +kernel
theorem dX8_rule_234 : decode cX8_rule 234 = .ok (.iload_n 3, 1) := by decide +kernel
theorem dX8_rule_235 : decode cX8_rule 235 = .ok (.iload 4, 2) := by decide +kernel
theorem dX8_rule_237 : decode cX8_rule 237 = .ok (.iastore, 1) := by decide +kernel
theorem dX8_rule_238 : decode cX8_rule 238 = .ok (.aload_n 0, 1) := by decide +kernel
theorem dX8_rule_239 : decode cX8_rule 239 = .ok (.getfield 58, 3) := by decide +kernel
theorem dX8_rule_242 : decode cX8_rule 242 = .ok (.iload_n 3, 1) := by decide +kernel
theorem dX8_rule_243 : decode cX8_rule 243 = .ok (.iconst 1, 1) := by decide +kernel
theorem dX8_rule_244 : decode cX8_rule 244 = .ok (.bastore, 1) := by decide +kernel
theorem dX8_rule_245 : decode cX8_rule 245 = .ok (.aload_n 0, 1) := by decide +kernel
theorem dX8_rule_246 : decode cX8_rule 246 = .ok (.iload 4, 2) := by decide +kernel
theorem dX8_rule_248 : decode cX8_rule 248 = .ok (.aload_n 0, 1) := by decide +kernel
theorem dX8_rule_249 : decode cX8_rule 249 = .ok (.getfield 31, 3) := by decide +kernel
theorem dX8_rule_252 : decode cX8_rule 252 = .ok (.iload_n 3, 1) := by decide +kernel
theorem dX8_rule_253 : decode cX8_rule 253 = .ok (.iaload, 1) := by decide +kernel
theorem dX8_rule_254 : decode cX8_rule 254 = .ok (.iadd, 1) := by decide +kernel
theorem dX8_rule_255 : decode cX8_rule 255 = .ok (.aload_n 0, 1) := by decide +kernel
theorem dX8_rule_256 : decode cX8_rule 256 = .ok (.getfield 183, 3) := by decide +kernel
theorem dX8_rule_259 : decode cX8_rule 259 = .ok (.if_icmp .le 15, 3) := by decide +kernel
theorem dX8_rule_262 : decode cX8_rule 262 = .ok (.iload 4, 2) := by decide +kernel
theorem dX8_rule_264 : decode cX8_rule 264 = .ok (.aload_n 0, 1) := by decide +kernel
theorem dX8_rule_265 : decode cX8_rule 265 = .ok (.getfield 31, 3) := by decide +kernel
theorem dX8_rule_268 : decode cX8_rule 268 = .ok (.iload_n 3, 1) := by decide +kernel
theorem dX8_rule_269 : decode cX8_rule 269 = .ok (.iaload, 1) := by decide +kernel
theorem dX8_rule_270 : decode cX8_rule 270 = .ok (.iadd, 1) := by decide +kernel
theorem dX8_rule_271 : decode cX8_rule 271 = .ok (.goto 7, 3) := by decide +kernel
theorem dX8_rule_274 : decode cX8_rule 274 = .ok (.aload_n 0, 1) := by decide +kernel
theorem dX8_rule_275 : decode cX8_rule 275 = .ok (.getfield 183, 3) := by decide +kernel
theorem dX8_rule_278 : decode cX8_rule 278 = .ok (.putfield 183, 3) := by decide +kernel
theorem dX8_rule_281 : decode cX8_rule 281 = .ok (.iinc 2 1, 3) := by decide +kernel
theorem dX8_rule_284 : decode cX8_rule 284 = .ok (.goto (-218), 3) := by decide +kernel
theorem dX8_rule_287 : decode cX8_rule 287 = .ok (.aload_n 0, 1) := by decide +kernel
theorem dX8_rule_288 : decode cX8_rule 288 = .ok (.getfield 183, 3) := by decide +kernel
theorem dX8_rule_291 : decode cX8_rule 291 = .ok (.ireturn, 1) := by decide +kernel
theorem dX8_first_0 : decode cX8_first 0 = .ok (.iconst 0, 1) := by decide +kernel
theorem dX8_first_1 : decode cX8_first 1 = .ok (.istore_n 2, 1) := by decide +kernel
theorem dX8_first_2 : decode cX8_first 2 = .ok (.iload_n 2, 1) := by decide +kernel
theorem dX8_first_3 : decode cX8_first 3 = .ok (.aload_n 0, 1) := by decide +kernel
theorem dX8_first_4 : decode cX8_first 4 = .ok (.getfield 19, 3) := by decide +kernel
theorem dX8_first_7 : decode cX8_first 7 = .ok (.iload_n 1, 1) := by decide +kernel
theorem dX8_first_8 : decode cX8_first 8 = .ok (.iaload, 1) := by decide +kernel
theorem dX8_first_9 : decode cX8_first 9 = .ok (.if_icmp .ge 40, 3) := by decide +kernel
theorem dX8_first_12 : decode cX8_first 12 = .ok (.aload_n 0, 1) := by decide +kernel
theorem dX8_first_13 : decode cX8_first 13 = .ok (.getfield 58, 3) := by decide +kernel
theorem dX8_first_16 : decode cX8_first 16 = .ok (.aload_n 0, 1) := by decide +kernel
theorem dX8_first_17 : decode cX8_first 17 = .ok (.getfield 22, 3) := by decide +kernel
theorem dX8_first_20 : decode cX8_first 20 = .ok (.bipush 8, 2) := by decide +kernel
theorem dX8_first_22 : decode cX8_first 22 = .ok (.iload_n 1, 1) := by decide +kernel
theorem dX8_first_23 : decode cX8_first 23 = .ok (.imul, 1) := by decide +kernel
theorem dX8_first_24 : decode cX8_first 24 = .ok (.iload_n 2, 1) := by decide +kernel
theorem dX8_first_25 : decode cX8_first 25 = .ok (.iadd, 1) := by decide +kernel
theorem dX8_first_26 : decode cX8_first 26 = .ok (.iaload, 1) := by decide +kernel
theorem dX8_first_27 : decode cX8_first 27 = .ok (.baload, 1) := by decide +kernel
theorem dX8_first_28 : decode cX8_first 28 = .ok (.ifCond .ne 15, 3) := by decide +kernel
theorem dX8_first_31 : decode cX8_first 31 = .ok (.aload_n 0, 1) := by decide +kernel
theorem dX8_first_32 : decode cX8_first 32 = .ok (.getfield 22, 3) := by decide +kernel
theorem dX8_first_35 : decode cX8_first 35 = .ok (.bipush 8, 2) := by decide +kernel
theorem dX8_first_37 : decode cX8_first 37 = .ok (.iload_n 1, 1) := by decide +kernel
theorem dX8_first_38 : decode cX8_first 38 = .ok (.imul, 1) := by decide +kernel
theorem dX8_first_39 : decode cX8_first 39 = .ok (.iload_n 2, 1) := by decide +kernel
theorem dX8_first_40 : decode cX8_first 40 = .ok (.iadd, 1) := by decide +kernel
theorem dX8_first_41 : decode cX8_first 41 = .ok (.iaload, 1) := by decide +kernel
theorem dX8_first_42 : decode cX8_first 42 = .ok (.ireturn, 1) := by decide +kernel
theorem dX8_first_43 : decode cX8_first 43 = .ok (.iinc 2 1, 3) := by decide +kernel
theorem dX8_first_46 : decode cX8_first 46 = .ok (.goto (-44), 3) := by decide +kernel
theorem dX8_first_49 : decode cX8_first 49 = .ok (.iconst (-1), 1) := by decide +kernel
theorem dX8_first_50 : decode cX8_first 50 = .ok (.ireturn, 1) := by decide +kernel
theorem dX8_early_0 : decode cX8_early 0 = .ok (.aload_n 0, 1) := by decide +kernel
theorem dX8_early_1 : decode cX8_early 1 = .ok (.iload_n 1, 1) := by decide +kernel
theorem dX8_early_2 : decode cX8_early 2 = .ok (.invokevirtual 180, 3) := by decide +kernel
theorem dX8_early_5 : decode cX8_early 5 = .ok (.istore_n 2, 1) := by decide +kernel
theorem dX8_early_6 : decode cX8_early 6 = .ok (.iload_n 2, 1) := by decide +kernel
theorem dX8_early_7 : decode cX8_early 7 = .ok (.ifCond .ge 7, 3) := by decide +kernel
theorem dX8_early_10 : decode cX8_early 10 = .ok (.iconst 0, 1) := by decide +kernel
theorem dX8_early_11 : decode cX8_early 11 = .ok (.goto 16, 3) := by decide +kernel
theorem dX8_early_14 : decode cX8_early 14 = .ok (.aload_n 0, 1) := by decide +kernel
theorem dX8_early_15 : decode cX8_early 15 = .ok (.getfield 55, 3) := by decide +kernel
theorem dX8_early_18 : decode cX8_early 18 = .ok (.iload_n 2, 1) := by decide +kernel
theorem dX8_early_19 : decode cX8_early 19 = .ok (.iaload, 1) := by decide +kernel
theorem dX8_early_20 : decode cX8_early 20 = .ok (.aload_n 0, 1) := by decide +kernel
theorem dX8_early_21 : decode cX8_early 21 = .ok (.getfield 31, 3) := by decide +kernel
theorem dX8_early_24 : decode cX8_early 24 = .ok (.iload_n 2, 1) := by decide +kernel
theorem dX8_early_25 : decode cX8_early 25 = .ok (.iaload, 1) := by decide +kernel
theorem dX8_early_26 : decode cX8_early 26 = .ok (.iadd, 1) := by decide +kernel
theorem dX8_early_27 : decode cX8_early 27 = .ok (.istore_n 3, 1) := by decide +kernel
theorem dX8_early_28 : decode cX8_early 28 = .ok (.aload_n 0, 1) := by decide +kernel
theorem dX8_early_29 : decode cX8_early 29 = .ok (.aload_n 0, 1) := by decide +kernel
theorem dX8_early_30 : decode cX8_early 30 = .ok (.getfield 28, 3) := by decide +kernel
theorem dX8_early_33 : decode cX8_early 33 = .ok (.iload_n 1, 1) := by decide +kernel
theorem dX8_early_34 : decode cX8_early 34 = .ok (.iaload, 1) := by decide +kernel
theorem dX8_early_35 : decode cX8_early 35 = .ok (.aload_n 0, 1) := by decide +kernel
theorem dX8_early_36 : decode cX8_early 36 = .ok (.getfield 40, 3) := by decide +kernel
theorem dX8_early_39 : decode cX8_early 39 = .ok (.aload_n 0, 1) := by decide +kernel
theorem dX8_early_40 : decode cX8_early 40 = .ok (.getfield 28, 3) := by decide +kernel
theorem dX8_early_43 : decode cX8_early 43 = .ok (.iload_n 1, 1) := by decide +kernel
theorem dX8_early_44 : decode cX8_early 44 = .ok (.iaload, 1) := by decide +kernel
theorem dX8_early_45 : decode cX8_early 45 = .ok (.iaload, 1) := by decide +kernel
theorem dX8_early_46 : decode cX8_early 46 = .ok (.iload_n 1, 1) := by decide +kernel
theorem dX8_early_47 : decode cX8_early 47 = .ok (.invokevirtual 189, 3) := by decide +kernel
theorem dX8_early_50 : decode cX8_early 50 = .ok (.istore 4, 2) := by decide +kernel
theorem dX8_early_52 : decode cX8_early 52 = .ok (.iload_n 3, 1) := by decide +kernel
theorem dX8_early_53 : decode cX8_early 53 = .ok (.iload 4, 2) := by decide +kernel
theorem dX8_early_55 : decode cX8_early 55 = .ok (.if_icmp .le 7, 3) := by decide +kernel
theorem dX8_early_58 : decode cX8_early 58 = .ok (.iload_n 3, 1) := by decide +kernel
theorem dX8_early_59 : decode cX8_early 59 = .ok (.goto 5, 3) := by decide +kernel
theorem dX8_early_62 : decode cX8_early 62 = .ok (.iload 4, 2) := by decide +kernel
theorem dX8_early_64 : decode cX8_early 64 = .ok (.ireturn, 1) := by decide +kernel
theorem dX8_rest_0 : decode cX8_rest 0 = .ok (.iconst 0, 1) := by decide +kernel
theorem dX8_rest_1 : decode cX8_rest 1 = .ok (.istore_n 2, 1) := by decide +kernel
theorem dX8_rest_2 : decode cX8_rest 2 = .ok (.aload_n 0, 1) := by decide +kernel
theorem dX8_rest_3 : decode cX8_rest 3 = .ok (.getfield 34, 3) := by decide +kernel
theorem dX8_rest_6 : decode cX8_rest 6 = .ok (.iload_n 1, 1) := by decide +kernel
theorem dX8_rest_7 : decode cX8_rest 7 = .ok (.iaload, 1) := by decide +kernel
theorem dX8_rest_8 : decode cX8_rest 8 = .ok (.istore_n 3, 1) := by decide +kernel
theorem dX8_rest_9 : decode cX8_rest 9 = .ok (.iload_n 3, 1) := by decide +kernel
theorem dX8_rest_10 : decode cX8_rest 10 = .ok (.aload_n 0, 1) := by decide +kernel
theorem dX8_rest_11 : decode cX8_rest 11 = .ok (.getfield 19, 3) := by decide +kernel
theorem dX8_rest_14 : decode cX8_rest 14 = .ok (.aload_n 0, 1) := by decide +kernel
theorem dX8_rest_15 : decode cX8_rest 15 = .ok (.getfield 25, 3) := by decide +kernel
theorem dX8_rest_18 : decode cX8_rest 18 = .ok (.iload_n 1, 1) := by decide +kernel
theorem dX8_rest_19 : decode cX8_rest 19 = .ok (.iaload, 1) := by decide +kernel
theorem dX8_rest_20 : decode cX8_rest 20 = .ok (.iaload, 1) := by decide +kernel
theorem dX8_rest_21 : decode cX8_rest 21 = .ok (.if_icmp .ge 33, 3) := by decide +kernel
theorem dX8_rest_24 : decode cX8_rest 24 = .ok (.iload_n 2, 1) := by decide +kernel
theorem dX8_rest_25 : decode cX8_rest 25 = .ok (.aload_n 0, 1) := by decide +kernel
theorem dX8_rest_26 : decode cX8_rest 26 = .ok (.getfield 31, 3) := by decide +kernel
theorem dX8_rest_29 : decode cX8_rest 29 = .ok (.aload_n 0, 1) := by decide +kernel
theorem dX8_rest_30 : decode cX8_rest 30 = .ok (.getfield 22, 3) := by decide +kernel
theorem dX8_rest_33 : decode cX8_rest 33 = .ok (.bipush 8, 2) := by decide +kernel
theorem dX8_rest_35 : decode cX8_rest 35 = .ok (.aload_n 0, 1) := by decide +kernel
theorem dX8_rest_36 : decode cX8_rest 36 = .ok (.getfield 25, 3) := by decide +kernel
theorem dX8_rest_39 : decode cX8_rest 39 = .ok (.iload_n 1, 1) := by decide +kernel
theorem dX8_rest_40 : decode cX8_rest 40 = .ok (.iaload, 1) := by decide +kernel
theorem dX8_rest_41 : decode cX8_rest 41 = .ok (.imul, 1) := by decide +kernel
theorem dX8_rest_42 : decode cX8_rest 42 = .ok (.iload_n 3, 1) := by decide +kernel
theorem dX8_rest_43 : decode cX8_rest 43 = .ok (.iadd, 1) := by decide +kernel
theorem dX8_rest_44 : decode cX8_rest 44 = .ok (.iaload, 1) := by decide +kernel
theorem dX8_rest_45 : decode cX8_rest 45 = .ok (.iaload, 1) := by decide +kernel
theorem dX8_rest_46 : decode cX8_rest 46 = .ok (.iadd, 1) := by decide +kernel
theorem dX8_rest_47 : decode cX8_rest 47 = .ok (.istore_n 2, 1) := by decide +kernel
theorem dX8_rest_48 : decode cX8_rest 48 = .ok (.iinc 3 1, 3) := by decide +kernel
theorem dX8_rest_51 : decode cX8_rest 51 = .ok (.goto (-42), 3) := by decide +kernel
theorem dX8_rest_54 : decode cX8_rest 54 = .ok (.iload_n 2, 1) := by decide +kernel
theorem dX8_rest_55 : decode cX8_rest 55 = .ok (.ireturn, 1) := by decide +kernel
theorem dX8_better_0 : decode cX8_better 0 = .ok (.iload_n 1, 1) := by decide +kernel
theorem dX8_better_1 : decode cX8_better 1 = .ok (.i2l, 1) := by decide +kernel
theorem dX8_better_2 : decode cX8_better 2 = .ok (.lconst 0, 1) := by decide +kernel
theorem dX8_better_3 : decode cX8_better 3 = .ok (.ldc2_w 227, 3) := by decide +kernel
theorem dX8_better_6 : decode cX8_better 6 = .ok (.invokestatic 124, 3) := by decide +kernel
theorem dX8_better_9 : decode cX8_better 9 = .ok (.ifCond .ne 6, 3) := by decide +kernel
theorem dX8_better_12 : decode cX8_better 12 = .ok (.ldc 132, 2) := by decide +kernel
theorem dX8_better_14 : decode cX8_better 14 = .ok (.ireturn, 1) := by decide +kernel
theorem dX8_better_15 : decode cX8_better 15 = .ok (.aload_n 0, 1) := by decide +kernel
theorem dX8_better_16 : decode cX8_better 16 = .ok (.invokevirtual 208, 3) := by decide +kernel
theorem dX8_better_19 : decode cX8_better 19 = .ok (.ifCond .ne 6, 3) := by decide +kernel
theorem dX8_better_22 : decode cX8_better 22 = .ok (.ldc 179, 2) := by decide +kernel
theorem dX8_better_24 : decode cX8_better 24 = .ok (.ireturn, 1) := by decide +kernel
theorem dX8_better_25 : decode cX8_better 25 = .ok (.iconst 0, 1) := by decide +kernel
theorem dX8_better_26 : decode cX8_better 26 = .ok (.istore_n 2, 1) := by decide +kernel
theorem dX8_better_27 : decode cX8_better 27 = .ok (.iload_n 2, 1) := by decide +kernel
theorem dX8_better_28 : decode cX8_better 28 = .ok (.iload_n 1, 1) := by decide +kernel
theorem dX8_better_29 : decode cX8_better 29 = .ok (.if_icmp .ge 16, 3) := by decide +kernel
theorem dX8_better_32 : decode cX8_better 32 = .ok (.aload_n 0, 1) := by decide +kernel
theorem dX8_better_33 : decode cX8_better 33 = .ok (.invokevirtual 229, 3) := by decide +kernel
theorem dX8_better_36 : decode cX8_better 36 = .ok (.ifCond .eq 9, 3) := by decide +kernel
theorem dX8_better_39 : decode cX8_better 39 = .ok (.iinc 2 1, 3) := by decide +kernel
theorem dX8_better_42 : decode cX8_better 42 = .ok (.goto (-15), 3) := by decide +kernel
theorem dX8_better_45 : decode cX8_better 45 = .ok (.iload_n 2, 1) := by decide +kernel
theorem dX8_better_46 : decode cX8_better 46 = .ok (.ireturn, 1) := by decide +kernel
theorem dX8_swapBest_0 : decode cX8_swapBest 0 = .ok (.aload_n 0, 1) := by decide +kernel
theorem dX8_swapBest_1 : decode cX8_swapBest 1 = .ok (.invokevirtual 208, 3) := by decide +kernel
theorem dX8_swapBest_4 : decode cX8_swapBest 4 = .ok (.istore_n 1, 1) := by decide +kernel
theorem dX8_swapBest_5 : decode cX8_swapBest 5 = .ok (.aload_n 0, 1) := by decide +kernel
theorem dX8_swapBest_6 : decode cX8_swapBest 6 = .ok (.getfield 183, 3) := by decide +kernel
theorem dX8_swapBest_9 : decode cX8_swapBest 9 = .ok (.istore_n 2, 1) := by decide +kernel
theorem dX8_swapBest_10 : decode cX8_swapBest 10 = .ok (.iconst 0, 1) := by decide +kernel
theorem dX8_swapBest_11 : decode cX8_swapBest 11 = .ok (.istore_n 3, 1) := by decide +kernel
theorem dX8_swapBest_12 : decode cX8_swapBest 12 = .ok (.iload_n 3, 1) := by decide +kernel
theorem dX8_swapBest_13 : decode cX8_swapBest 13 = .ok (.sipush 256, 3) := by decide +kernel
theorem dX8_swapBest_16 : decode cX8_swapBest 16 = .ok (.if_icmp .ge 133, 3) := by decide +kernel
theorem dX8_swapBest_19 : decode cX8_swapBest 19 = .ok (.iload_n 3, 1) := by decide +kernel
theorem dX8_swapBest_20 : decode cX8_swapBest 20 = .ok (.bipush 32, 2) := by decide +kernel
theorem dX8_swapBest_22 : decode cX8_swapBest 22 = .ok (.idiv, 1) := by decide +kernel
theorem dX8_swapBest_23 : decode cX8_swapBest 23 = .ok (.istore 4, 2) := by decide +kernel
theorem dX8_swapBest_25 : decode cX8_swapBest 25 = .ok (.iload_n 3, 1) := by decide +kernel
theorem dX8_swapBest_26 : decode cX8_swapBest 26 = .ok (.bipush 32, 2) := by decide +kernel
theorem dX8_swapBest_28 : decode cX8_swapBest 28 = .ok (.irem, 1) := by decide +kernel
theorem dX8_swapBest_29 : decode cX8_swapBest 29 = .ok (.istore 5, 2) := by decide +kernel
theorem dX8_swapBest_31 : decode cX8_swapBest 31 = .ok (.aload_n 0, 1) := by decide +kernel
theorem dX8_swapBest_32 : decode cX8_swapBest 32 = .ok (.getfield 68, 3) := by decide +kernel
theorem dX8_swapBest_35 : decode cX8_swapBest 35 = .ok (.iload_n 3, 1) := by decide +kernel
theorem dX8_swapBest_36 : decode cX8_swapBest 36 = .ok (.iconst 0, 1) := by decide +kernel
theorem dX8_swapBest_37 : decode cX8_swapBest 37 = .ok (.bastore, 1) := by decide +kernel
theorem dX8_swapBest_38 : decode cX8_swapBest 38 = .ok (.iload 4, 2) := by decide +kernel
theorem dX8_swapBest_40 : decode cX8_swapBest 40 = .ok (.aload_n 0, 1) := by decide +kernel
theorem dX8_swapBest_41 : decode cX8_swapBest 41 = .ok (.getfield 133, 3) := by decide +kernel
theorem dX8_swapBest_44 : decode cX8_swapBest 44 = .ok (.if_icmp .ge 99, 3) := by decide +kernel
theorem dX8_swapBest_47 : decode cX8_swapBest 47 = .ok (.aload_n 0, 1) := by decide +kernel
theorem dX8_swapBest_48 : decode cX8_swapBest 48 = .ok (.getfield 7, 3) := by decide +kernel
theorem dX8_swapBest_51 : decode cX8_swapBest 51 = .ok (.iload 4, 2) := by decide +kernel
theorem dX8_swapBest_53 : decode cX8_swapBest 53 = .ok (.iaload, 1) := by decide +kernel
theorem dX8_swapBest_54 : decode cX8_swapBest 54 = .ok (.ifCond .ne 89, 3) := by decide +kernel
theorem dX8_swapBest_57 : decode cX8_swapBest 57 = .ok (.iload 5, 2) := by decide +kernel
theorem dX8_swapBest_59 : decode cX8_swapBest 59 = .ok (.iconst 1, 1) := by decide +kernel
theorem dX8_swapBest_60 : decode cX8_swapBest 60 = .ok (.iadd, 1) := by decide +kernel
theorem dX8_swapBest_61 : decode cX8_swapBest 61 = .ok (.aload_n 0, 1) := by decide +kernel
theorem dX8_swapBest_62 : decode cX8_swapBest 62 = .ok (.getfield 40, 3) := by decide +kernel
theorem dX8_swapBest_65 : decode cX8_swapBest 65 = .ok (.iload 4, 2) := by decide +kernel
theorem dX8_swapBest_67 : decode cX8_swapBest 67 = .ok (.iaload, 1) := by decide +kernel
theorem dX8_swapBest_68 : decode cX8_swapBest 68 = .ok (.if_icmp .ge 75, 3) := by decide +kernel
theorem dX8_swapBest_71 : decode cX8_swapBest 71 = .ok (.aload_n 0, 1) := by decide +kernel
theorem dX8_swapBest_72 : decode cX8_swapBest 72 = .ok (.getfield 37, 3) := by decide +kernel
theorem dX8_swapBest_75 : decode cX8_swapBest 75 = .ok (.iload_n 3, 1) := by decide +kernel
theorem dX8_swapBest_76 : decode cX8_swapBest 76 = .ok (.iaload, 1) := by decide +kernel
theorem dX8_swapBest_77 : decode cX8_swapBest 77 = .ok (.istore 6, 2) := by decide +kernel
theorem dX8_swapBest_79 : decode cX8_swapBest 79 = .ok (.aload_n 0, 1) := by decide +kernel
theorem dX8_swapBest_80 : decode cX8_swapBest 80 = .ok (.getfield 37, 3) := by decide +kernel
theorem dX8_swapBest_83 : decode cX8_swapBest 83 = .ok (.iload_n 3, 1) := by decide +kernel
theorem dX8_swapBest_84 : decode cX8_swapBest 84 = .ok (.iconst 1, 1) := by decide +kernel
theorem dX8_swapBest_85 : decode cX8_swapBest 85 = .ok (.iadd, 1) := by decide +kernel
theorem dX8_swapBest_86 : decode cX8_swapBest 86 = .ok (.iaload, 1) := by decide +kernel
theorem dX8_swapBest_87 : decode cX8_swapBest 87 = .ok (.istore 7, 2) := by decide +kernel
theorem dX8_swapBest_89 : decode cX8_swapBest 89 = .ok (.aload_n 0, 1) := by decide +kernel
theorem dX8_swapBest_90 : decode cX8_swapBest 90 = .ok (.getfield 68, 3) := by decide +kernel
theorem dX8_swapBest_93 : decode cX8_swapBest 93 = .ok (.iload_n 3, 1) := by decide +kernel
theorem dX8_swapBest_94 : decode cX8_swapBest 94 = .ok (.aload_n 0, 1) := by decide +kernel
theorem dX8_swapBest_95 : decode cX8_swapBest 95 = .ok (.iload 6, 2) := by decide +kernel
theorem dX8_swapBest_97 : decode cX8_swapBest 97 = .ok (.invokevirtual 211, 3) := by decide +kernel
theorem dX8_swapBest_100 : decode cX8_swapBest 100 = .ok (.ifCond .ne 41, 3) := by decide +kernel
theorem dX8_swapBest_103 : decode cX8_swapBest 103 = .ok (.aload_n 0, 1) := by decide +kernel
theorem dX8_swapBest_104 : decode cX8_swapBest 104 = .ok (.iload 7, 2) := by decide +kernel
theorem dX8_swapBest_106 : decode cX8_swapBest 106 = .ok (.invokevirtual 211, 3) := by decide +kernel
theorem dX8_swapBest_109 : decode cX8_swapBest 109 = .ok (.ifCond .ne 32, 3) := by decide +kernel
theorem dX8_swapBest_112 : decode cX8_swapBest 112 = .ok (.aload_n 0, 1) := by decide +kernel
theorem dX8_swapBest_113 : decode cX8_swapBest 113 = .ok (.getfield 55, 3) := by decide +kernel
theorem dX8_swapBest_116 : decode cX8_swapBest 116 = .ok (.iload 7, 2) := by decide +kernel
theorem dX8_swapBest_118 : decode cX8_swapBest 118 = .ok (.iaload, 1) := by decide +kernel
theorem dX8_swapBest_119 : decode cX8_swapBest 119 = .ok (.aload_n 0, 1) := by decide +kernel
theorem dX8_swapBest_120 : decode cX8_swapBest 120 = .ok (.getfield 55, 3) := by decide +kernel
theorem dX8_swapBest_123 : decode cX8_swapBest 123 = .ok (.iload 6, 2) := by decide +kernel
theorem dX8_swapBest_125 : decode cX8_swapBest 125 = .ok (.iaload, 1) := by decide +kernel
theorem dX8_swapBest_126 : decode cX8_swapBest 126 = .ok (.aload_n 0, 1) := by decide +kernel
theorem dX8_swapBest_127 : decode cX8_swapBest 127 = .ok (.getfield 31, 3) := by decide +kernel
theorem dX8_swapBest_130 : decode cX8_swapBest 130 = .ok (.iload 6, 2) := by decide +kernel
theorem dX8_swapBest_132 : decode cX8_swapBest 132 = .ok (.iaload, 1) := by decide +kernel
theorem dX8_swapBest_133 : decode cX8_swapBest 133 = .ok (.iadd, 1) := by decide +kernel
theorem dX8_swapBest_134 : decode cX8_swapBest 134 = .ok (.if_icmp .ne 7, 3) := by decide +kernel
theorem dX8_swapBest_137 : decode cX8_swapBest 137 = .ok (.iconst 1, 1) := by decide +kernel
theorem dX8_swapBest_138 : decode cX8_swapBest 138 = .ok (.goto 4, 3) := by decide +kernel
theorem dX8_swapBest_141 : decode cX8_swapBest 141 = .ok (.iconst 0, 1) := by decide +kernel
theorem dX8_swapBest_142 : decode cX8_swapBest 142 = .ok (.bastore, 1) := by decide +kernel
theorem dX8_swapBest_143 : decode cX8_swapBest 143 = .ok (.iinc 3 1, 3) := by decide +kernel
theorem dX8_swapBest_146 : decode cX8_swapBest 146 = .ok (.goto (-134), 3) := by decide +kernel
theorem dX8_swapBest_149 : decode cX8_swapBest 149 = .ok (.iconst (-1), 1) := by decide +kernel
theorem dX8_swapBest_150 : decode cX8_swapBest 150 = .ok (.istore_n 3, 1) := by decide +kernel
theorem dX8_swapBest_151 : decode cX8_swapBest 151 = .ok (.iload_n 2, 1) := by decide +kernel
theorem dX8_swapBest_152 : decode cX8_swapBest 152 = .ok (.istore 4, 2) := by decide +kernel
theorem dX8_swapBest_154 : decode cX8_swapBest 154 = .ok (.iconst 0, 1) := by decide +kernel
theorem dX8_swapBest_155 : decode cX8_swapBest 155 = .ok (.istore 5, 2) := by decide +kernel
theorem dX8_swapBest_157 : decode cX8_swapBest 157 = .ok (.iload 5, 2) := by decide +kernel
theorem dX8_swapBest_159 : decode cX8_swapBest 159 = .ok (.sipush 256, 3) := by decide +kernel
theorem dX8_swapBest_162 : decode cX8_swapBest 162 = .ok (.if_icmp .ge 72, 3) := by decide +kernel
theorem dX8_swapBest_165 : decode cX8_swapBest 165 = .ok (.aload_n 0, 1) := by decide +kernel
theorem dX8_swapBest_166 : decode cX8_swapBest 166 = .ok (.getfield 68, 3) := by decide +kernel
theorem dX8_swapBest_169 : decode cX8_swapBest 169 = .ok (.iload 5, 2) := by decide +kernel
theorem dX8_swapBest_171 : decode cX8_swapBest 171 = .ok (.baload, 1) := by decide +kernel
theorem dX8_swapBest_172 : decode cX8_swapBest 172 = .ok (.ifCond .eq 56, 3) := by decide +kernel
theorem dX8_swapBest_175 : decode cX8_swapBest 175 = .ok (.aload_n 0, 1) := by decide +kernel
theorem dX8_swapBest_176 : decode cX8_swapBest 176 = .ok (.iload 5, 2) := by decide +kernel
theorem dX8_swapBest_178 : decode cX8_swapBest 178 = .ok (.bipush 32, 2) := by decide +kernel
theorem dX8_swapBest_180 : decode cX8_swapBest 180 = .ok (.idiv, 1) := by decide +kernel
theorem dX8_swapBest_181 : decode cX8_swapBest 181 = .ok (.iload 5, 2) := by decide +kernel
theorem dX8_swapBest_183 : decode cX8_swapBest 183 = .ok (.bipush 32, 2) := by decide +kernel
theorem dX8_swapBest_185 : decode cX8_swapBest 185 = .ok (.irem, 1) := by decide +kernel
theorem dX8_swapBest_186 : decode cX8_swapBest 186 = .ok (.invokevirtual 195, 3) := by decide +kernel
theorem dX8_swapBest_189 : decode cX8_swapBest 189 = .ok (.aload_n 0, 1) := by decide +kernel
theorem dX8_swapBest_190 : decode cX8_swapBest 190 = .ok (.invokevirtual 192, 3) := by decide +kernel
theorem dX8_swapBest_193 : decode cX8_swapBest 193 = .ok (.ifCond .eq 21, 3) := by decide +kernel
theorem dX8_swapBest_196 : decode cX8_swapBest 196 = .ok (.aload_n 0, 1) := by decide +kernel
theorem dX8_swapBest_197 : decode cX8_swapBest 197 = .ok (.getfield 183, 3) := by decide +kernel
theorem dX8_swapBest_200 : decode cX8_swapBest 200 = .ok (.iload 4, 2) := by decide +kernel
theorem dX8_swapBest_202 : decode cX8_swapBest 202 = .ok (.if_icmp .ge 12, 3) := by decide +kernel
theorem dX8_swapBest_205 : decode cX8_swapBest 205 = .ok (.aload_n 0, 1) := by decide +kernel
theorem dX8_swapBest_206 : decode cX8_swapBest 206 = .ok (.getfield 183, 3) := by decide +kernel
theorem dX8_swapBest_209 : decode cX8_swapBest 209 = .ok (.istore 4, 2) := by decide +kernel
theorem dX8_swapBest_211 : decode cX8_swapBest 211 = .ok (.iload 5, 2) := by decide +kernel
theorem dX8_swapBest_213 : decode cX8_swapBest 213 = .ok (.istore_n 3, 1) := by decide +kernel
theorem dX8_swapBest_214 : decode cX8_swapBest 214 = .ok (.aload_n 0, 1) := by decide +kernel
theorem dX8_swapBest_215 : decode cX8_swapBest 215 = .ok (.iload 5, 2) := by decide +kernel
theorem dX8_swapBest_217 : decode cX8_swapBest 217 = .ok (.bipush 32, 2) := by decide +kernel
theorem dX8_swapBest_219 : decode cX8_swapBest 219 = .ok (.idiv, 1) := by decide +kernel
theorem dX8_swapBest_220 : decode cX8_swapBest 220 = .ok (.iload 5, 2) := by decide +kernel
theorem dX8_swapBest_222 : decode cX8_swapBest 222 = .ok (.bipush 32, 2) := by decide +kernel
theorem dX8_swapBest_224 : decode cX8_swapBest 224 = .ok (.irem, 1) := by decide +kernel
theorem dX8_swapBest_225 : decode cX8_swapBest 225 = .ok (.invokevirtual 195, 3) := by decide +kernel
theorem dX8_swapBest_228 : decode cX8_swapBest 228 = .ok (.iinc 5 1, 3) := by decide +kernel
theorem dX8_swapBest_231 : decode cX8_swapBest 231 = .ok (.goto (-74), 3) := by decide +kernel
theorem dX8_swapBest_234 : decode cX8_swapBest 234 = .ok (.iload_n 3, 1) := by decide +kernel
theorem dX8_swapBest_235 : decode cX8_swapBest 235 = .ok (.ifCond .ge 5, 3) := by decide +kernel
theorem dX8_swapBest_238 : decode cX8_swapBest 238 = .ok (.iconst 0, 1) := by decide +kernel
theorem dX8_swapBest_239 : decode cX8_swapBest 239 = .ok (.ireturn, 1) := by decide +kernel
theorem dX8_swapBest_240 : decode cX8_swapBest 240 = .ok (.aload_n 0, 1) := by decide +kernel
theorem dX8_swapBest_241 : decode cX8_swapBest 241 = .ok (.iload_n 3, 1) := by decide +kernel
theorem dX8_swapBest_242 : decode cX8_swapBest 242 = .ok (.bipush 32, 2) := by decide +kernel
theorem dX8_swapBest_244 : decode cX8_swapBest 244 = .ok (.idiv, 1) := by decide +kernel
theorem dX8_swapBest_245 : decode cX8_swapBest 245 = .ok (.iload_n 3, 1) := by decide +kernel
theorem dX8_swapBest_246 : decode cX8_swapBest 246 = .ok (.bipush 32, 2) := by decide +kernel
theorem dX8_swapBest_248 : decode cX8_swapBest 248 = .ok (.irem, 1) := by decide +kernel
theorem dX8_swapBest_249 : decode cX8_swapBest 249 = .ok (.invokevirtual 195, 3) := by decide +kernel
theorem dX8_swapBest_252 : decode cX8_swapBest 252 = .ok (.iconst 1, 1) := by decide +kernel
theorem dX8_swapBest_253 : decode cX8_swapBest 253 = .ok (.ireturn, 1) := by decide +kernel
theorem dX8_isAhead_0 : decode cX8_isAhead 0 = .ok (.aload_n 0, 1) := by decide +kernel
theorem dX8_isAhead_1 : decode cX8_isAhead 1 = .ok (.getfield 77, 3) := by decide +kernel
theorem dX8_isAhead_4 : decode cX8_isAhead 4 = .ok (.iload_n 1, 1) := by decide +kernel
theorem dX8_isAhead_5 : decode cX8_isAhead 5 = .ok (.iaload, 1) := by decide +kernel
theorem dX8_isAhead_6 : decode cX8_isAhead 6 = .ok (.iload_n 2, 1) := by decide +kernel
theorem dX8_isAhead_7 : decode cX8_isAhead 7 = .ok (.iushr, 1) := by decide +kernel
theorem dX8_isAhead_8 : decode cX8_isAhead 8 = .ok (.iconst 1, 1) := by decide +kernel
theorem dX8_isAhead_9 : decode cX8_isAhead 9 = .ok (.iand, 1) := by decide +kernel
theorem dX8_isAhead_10 : decode cX8_isAhead 10 = .ok (.iconst 1, 1) := by decide +kernel
theorem dX8_isAhead_11 : decode cX8_isAhead 11 = .ok (.if_icmp .ne 7, 3) := by decide +kernel
theorem dX8_isAhead_14 : decode cX8_isAhead 14 = .ok (.iconst 1, 1) := by decide +kernel
theorem dX8_isAhead_15 : decode cX8_isAhead 15 = .ok (.goto 4, 3) := by decide +kernel
theorem dX8_isAhead_18 : decode cX8_isAhead 18 = .ok (.iconst 0, 1) := by decide +kernel
theorem dX8_isAhead_19 : decode cX8_isAhead 19 = .ok (.ireturn, 1) := by decide +kernel
theorem dX8_tell_0 : decode cX8_tell 0 = .ok (.aload_n 0, 1) := by decide +kernel
theorem dX8_tell_1 : decode cX8_tell 1 = .ok (.getfield 77, 3) := by decide +kernel
theorem dX8_tell_4 : decode cX8_tell 4 = .ok (.iload_n 1, 1) := by decide +kernel
theorem dX8_tell_5 : decode cX8_tell 5 = .ok (.dup2, 1) := by decide +kernel
theorem dX8_tell_6 : decode cX8_tell 6 = .ok (.iaload, 1) := by decide +kernel
theorem dX8_tell_7 : decode cX8_tell 7 = .ok (.iconst 1, 1) := by decide +kernel
theorem dX8_tell_8 : decode cX8_tell 8 = .ok (.iload_n 2, 1) := by decide +kernel
theorem dX8_tell_9 : decode cX8_tell 9 = .ok (.ishl, 1) := by decide +kernel
theorem dX8_tell_10 : decode cX8_tell 10 = .ok (.ior, 1) := by decide +kernel
theorem dX8_tell_11 : decode cX8_tell 11 = .ok (.iastore, 1) := by decide +kernel
theorem dX8_tell_12 : decode cX8_tell 12 = .ok (.aload_n 0, 1) := by decide +kernel
theorem dX8_tell_13 : decode cX8_tell 13 = .ok (.iconst 1, 1) := by decide +kernel
theorem dX8_tell_14 : decode cX8_tell 14 = .ok (.putfield 232, 3) := by decide +kernel
theorem dX8_tell_17 : decode cX8_tell 17 = .ok (.return_, 1) := by decide +kernel
theorem dX8_head_0 : decode cX8_head 0 = .ok (.aload_n 0, 1) := by decide +kernel
theorem dX8_head_1 : decode cX8_head 1 = .ok (.getfield 71, 3) := by decide +kernel
theorem dX8_head_4 : decode cX8_head 4 = .ok (.iload_n 1, 1) := by decide +kernel
theorem dX8_head_5 : decode cX8_head 5 = .ok (.iaload, 1) := by decide +kernel
theorem dX8_head_6 : decode cX8_head 6 = .ok (.iload_n 2, 1) := by decide +kernel
theorem dX8_head_7 : decode cX8_head 7 = .ok (.if_icmp .ge 15, 3) := by decide +kernel
theorem dX8_head_10 : decode cX8_head 10 = .ok (.aload_n 0, 1) := by decide +kernel
theorem dX8_head_11 : decode cX8_head 11 = .ok (.getfield 71, 3) := by decide +kernel
theorem dX8_head_14 : decode cX8_head 14 = .ok (.iload_n 1, 1) := by decide +kernel
theorem dX8_head_15 : decode cX8_head 15 = .ok (.iload_n 2, 1) := by decide +kernel
theorem dX8_head_16 : decode cX8_head 16 = .ok (.iastore, 1) := by decide +kernel
theorem dX8_head_17 : decode cX8_head 17 = .ok (.aload_n 0, 1) := by decide +kernel
theorem dX8_head_18 : decode cX8_head 18 = .ok (.iconst 1, 1) := by decide +kernel
theorem dX8_head_19 : decode cX8_head 19 = .ok (.putfield 232, 3) := by decide +kernel
theorem dX8_head_22 : decode cX8_head 22 = .ok (.return_, 1) := by decide +kernel
theorem dX8_dead_0 : decode cX8_dead 0 = .ok (.aload_n 0, 1) := by decide +kernel
theorem dX8_dead_1 : decode cX8_dead 1 = .ok (.getfield 74, 3) := by decide +kernel
theorem dX8_dead_4 : decode cX8_dead 4 = .ok (.iload_n 1, 1) := by decide +kernel
theorem dX8_dead_5 : decode cX8_dead 5 = .ok (.iaload, 1) := by decide +kernel
theorem dX8_dead_6 : decode cX8_dead 6 = .ok (.iload_n 2, 1) := by decide +kernel
theorem dX8_dead_7 : decode cX8_dead 7 = .ok (.if_icmp .le 15, 3) := by decide +kernel
theorem dX8_dead_10 : decode cX8_dead 10 = .ok (.aload_n 0, 1) := by decide +kernel
theorem dX8_dead_11 : decode cX8_dead 11 = .ok (.getfield 74, 3) := by decide +kernel
theorem dX8_dead_14 : decode cX8_dead 14 = .ok (.iload_n 1, 1) := by decide +kernel
theorem dX8_dead_15 : decode cX8_dead 15 = .ok (.iload_n 2, 1) := by decide +kernel
theorem dX8_dead_16 : decode cX8_dead 16 = .ok (.iastore, 1) := by decide +kernel
theorem dX8_dead_17 : decode cX8_dead 17 = .ok (.aload_n 0, 1) := by decide +kernel
theorem dX8_dead_18 : decode cX8_dead 18 = .ok (.iconst 1, 1) := by decide +kernel
theorem dX8_dead_19 : decode cX8_dead 19 = .ok (.putfield 232, 3) := by decide +kernel
theorem dX8_dead_22 : decode cX8_dead 22 = .ok (.return_, 1) := by decide +kernel
theorem dX8_ask_0 : decode cX8_ask 0 = .ok (.iconst 0, 1) := by decide +kernel
theorem dX8_ask_1 : decode cX8_ask 1 = .ok (.istore_n 1, 1) := by decide +kernel
theorem dX8_ask_2 : decode cX8_ask 2 = .ok (.iload_n 1, 1) := by decide +kernel
theorem dX8_ask_3 : decode cX8_ask 3 = .ok (.aload_n 0, 1) := by decide +kernel
theorem dX8_ask_4 : decode cX8_ask 4 = .ok (.getfield 143, 3) := by decide +kernel
theorem dX8_ask_7 : decode cX8_ask 7 = .ok (.if_icmp .ge 47, 3) := by decide +kernel
theorem dX8_ask_10 : decode cX8_ask 10 = .ok (.aload_n 0, 1) := by decide +kernel
theorem dX8_ask_11 : decode cX8_ask 11 = .ok (.aload_n 0, 1) := by decide +kernel
theorem dX8_ask_12 : decode cX8_ask 12 = .ok (.getfield 236, 3) := by decide +kernel
theorem dX8_ask_15 : decode cX8_ask 15 = .ok (.ifCond .ne 25, 3) := by decide +kernel
theorem dX8_ask_18 : decode cX8_ask 18 = .ok (.aload_n 0, 1) := by decide +kernel
theorem dX8_ask_19 : decode cX8_ask 19 = .ok (.getfield 74, 3) := by decide +kernel
theorem dX8_ask_22 : decode cX8_ask 22 = .ok (.iload_n 1, 1) := by decide +kernel
theorem dX8_ask_23 : decode cX8_ask 23 = .ok (.iaload, 1) := by decide +kernel
theorem dX8_ask_24 : decode cX8_ask 24 = .ok (.aload_n 0, 1) := by decide +kernel
theorem dX8_ask_25 : decode cX8_ask 25 = .ok (.getfield 71, 3) := by decide +kernel
theorem dX8_ask_28 : decode cX8_ask 28 = .ok (.iload_n 1, 1) := by decide +kernel
theorem dX8_ask_29 : decode cX8_ask 29 = .ok (.iaload, 1) := by decide +kernel
theorem dX8_ask_30 : decode cX8_ask 30 = .ok (.isub, 1) := by decide +kernel
theorem dX8_ask_31 : decode cX8_ask 31 = .ok (.aload_n 0, 1) := by decide +kernel
theorem dX8_ask_32 : decode cX8_ask 32 = .ok (.getfield 31, 3) := by decide +kernel
theorem dX8_ask_35 : decode cX8_ask 35 = .ok (.iload_n 1, 1) := by decide +kernel
theorem dX8_ask_36 : decode cX8_ask 36 = .ok (.iaload, 1) := by decide +kernel
theorem dX8_ask_37 : decode cX8_ask 37 = .ok (.if_icmp .ge 7, 3) := by decide +kernel
theorem dX8_ask_40 : decode cX8_ask 40 = .ok (.iconst 1, 1) := by decide +kernel
theorem dX8_ask_41 : decode cX8_ask 41 = .ok (.goto 4, 3) := by decide +kernel
theorem dX8_ask_44 : decode cX8_ask 44 = .ok (.iconst 0, 1) := by decide +kernel
theorem dX8_ask_45 : decode cX8_ask 45 = .ok (.putfield 236, 3) := by decide +kernel
theorem dX8_ask_48 : decode cX8_ask 48 = .ok (.iinc 1 1, 3) := by decide +kernel
theorem dX8_ask_51 : decode cX8_ask 51 = .ok (.goto (-49), 3) := by decide +kernel
theorem dX8_ask_54 : decode cX8_ask 54 = .ok (.return_, 1) := by decide +kernel
theorem dX8_byPieces_0 : decode cX8_byPieces 0 = .ok (.iconst 0, 1) := by decide +kernel
theorem dX8_byPieces_1 : decode cX8_byPieces 1 = .ok (.istore_n 1, 1) := by decide +kernel
theorem dX8_byPieces_2 : decode cX8_byPieces 2 = .ok (.iload_n 1, 1) := by decide +kernel
theorem dX8_byPieces_3 : decode cX8_byPieces 3 = .ok (.aload_n 0, 1) := by decide +kernel
theorem dX8_byPieces_4 : decode cX8_byPieces 4 = .ok (.getfield 140, 3) := by decide +kernel
theorem dX8_byPieces_7 : decode cX8_byPieces 7 = .ok (.if_icmp .ge 130, 3) := by decide +kernel
theorem dX8_byPieces_10 : decode cX8_byPieces 10 = .ok (.iconst 1, 1) := by decide +kernel
theorem dX8_byPieces_11 : decode cX8_byPieces 11 = .ok (.istore_n 2, 1) := by decide +kernel
theorem dX8_byPieces_12 : decode cX8_byPieces 12 = .ok (.iload_n 2, 1) := by decide +kernel
theorem dX8_byPieces_13 : decode cX8_byPieces 13 = .ok (.aload_n 0, 1) := by decide +kernel
theorem dX8_byPieces_14 : decode cX8_byPieces 14 = .ok (.getfield 19, 3) := by decide +kernel
theorem dX8_byPieces_17 : decode cX8_byPieces 17 = .ok (.iload_n 1, 1) := by decide +kernel
theorem dX8_byPieces_18 : decode cX8_byPieces 18 = .ok (.iaload, 1) := by decide +kernel
theorem dX8_byPieces_19 : decode cX8_byPieces 19 = .ok (.if_icmp .ge 51, 3) := by decide +kernel
theorem dX8_byPieces_22 : decode cX8_byPieces 22 = .ok (.aload_n 0, 1) := by decide +kernel
theorem dX8_byPieces_23 : decode cX8_byPieces 23 = .ok (.getfield 22, 3) := by decide +kernel
theorem dX8_byPieces_26 : decode cX8_byPieces 26 = .ok (.bipush 8, 2) := by decide +kernel
theorem dX8_byPieces_28 : decode cX8_byPieces 28 = .ok (.iload_n 1, 1) := by decide +kernel
theorem dX8_byPieces_29 : decode cX8_byPieces 29 = .ok (.imul, 1) := by decide +kernel
theorem dX8_byPieces_30 : decode cX8_byPieces 30 = .ok (.iload_n 2, 1) := by decide +kernel
theorem dX8_byPieces_31 : decode cX8_byPieces 31 = .ok (.iadd, 1) := by decide +kernel
theorem dX8_byPieces_32 : decode cX8_byPieces 32 = .ok (.iconst 1, 1) := by decide +kernel
theorem dX8_byPieces_33 : decode cX8_byPieces 33 = .ok (.isub, 1) := by decide +kernel
theorem dX8_byPieces_34 : decode cX8_byPieces 34 = .ok (.iaload, 1) := by decide +kernel
theorem dX8_byPieces_35 : decode cX8_byPieces 35 = .ok (.istore_n 3, 1) := by decide +kernel
theorem dX8_byPieces_36 : decode cX8_byPieces 36 = .ok (.aload_n 0, 1) := by decide +kernel
theorem dX8_byPieces_37 : decode cX8_byPieces 37 = .ok (.aload_n 0, 1) := by decide +kernel
theorem dX8_byPieces_38 : decode cX8_byPieces 38 = .ok (.getfield 22, 3) := by decide +kernel
theorem dX8_byPieces_41 : decode cX8_byPieces 41 = .ok (.bipush 8, 2) := by decide +kernel
theorem dX8_byPieces_43 : decode cX8_byPieces 43 = .ok (.iload_n 1, 1) := by decide +kernel
theorem dX8_byPieces_44 : decode cX8_byPieces 44 = .ok (.imul, 1) := by decide +kernel
theorem dX8_byPieces_45 : decode cX8_byPieces 45 = .ok (.iload_n 2, 1) := by decide +kernel
theorem dX8_byPieces_46 : decode cX8_byPieces 46 = .ok (.iadd, 1) := by decide +kernel
theorem dX8_byPieces_47 : decode cX8_byPieces 47 = .ok (.iaload, 1) := by decide +kernel
theorem dX8_byPieces_48 : decode cX8_byPieces 48 = .ok (.aload_n 0, 1) := by decide +kernel
theorem dX8_byPieces_49 : decode cX8_byPieces 49 = .ok (.getfield 71, 3) := by decide +kernel
theorem dX8_byPieces_52 : decode cX8_byPieces 52 = .ok (.iload_n 3, 1) := by decide +kernel
theorem dX8_byPieces_53 : decode cX8_byPieces 53 = .ok (.iaload, 1) := by decide +kernel
theorem dX8_byPieces_54 : decode cX8_byPieces 54 = .ok (.aload_n 0, 1) := by decide +kernel
theorem dX8_byPieces_55 : decode cX8_byPieces 55 = .ok (.getfield 31, 3) := by decide +kernel
theorem dX8_byPieces_58 : decode cX8_byPieces 58 = .ok (.iload_n 3, 1) := by decide +kernel
theorem dX8_byPieces_59 : decode cX8_byPieces 59 = .ok (.iaload, 1) := by decide +kernel
theorem dX8_byPieces_60 : decode cX8_byPieces 60 = .ok (.iadd, 1) := by decide +kernel
theorem dX8_byPieces_61 : decode cX8_byPieces 61 = .ok (.invokevirtual 239, 3) := by decide +kernel
theorem dX8_byPieces_64 : decode cX8_byPieces 64 = .ok (.iinc 2 1, 3) := by decide +kernel
theorem dX8_byPieces_67 : decode cX8_byPieces 67 = .ok (.goto (-55), 3) := by decide +kernel
theorem dX8_byPieces_70 : decode cX8_byPieces 70 = .ok (.aload_n 0, 1) := by decide +kernel
theorem dX8_byPieces_71 : decode cX8_byPieces 71 = .ok (.getfield 19, 3) := by decide +kernel
theorem dX8_byPieces_74 : decode cX8_byPieces 74 = .ok (.iload_n 1, 1) := by decide +kernel
theorem dX8_byPieces_75 : decode cX8_byPieces 75 = .ok (.iaload, 1) := by decide +kernel
theorem dX8_byPieces_76 : decode cX8_byPieces 76 = .ok (.iconst 2, 1) := by decide +kernel
theorem dX8_byPieces_77 : decode cX8_byPieces 77 = .ok (.isub, 1) := by decide +kernel
theorem dX8_byPieces_78 : decode cX8_byPieces 78 = .ok (.istore_n 2, 1) := by decide +kernel
theorem dX8_byPieces_79 : decode cX8_byPieces 79 = .ok (.iload_n 2, 1) := by decide +kernel
theorem dX8_byPieces_80 : decode cX8_byPieces 80 = .ok (.ifCond .lt 51, 3) := by decide +kernel
theorem dX8_byPieces_83 : decode cX8_byPieces 83 = .ok (.aload_n 0, 1) := by decide +kernel
theorem dX8_byPieces_84 : decode cX8_byPieces 84 = .ok (.getfield 22, 3) := by decide +kernel
theorem dX8_byPieces_87 : decode cX8_byPieces 87 = .ok (.bipush 8, 2) := by decide +kernel
theorem dX8_byPieces_89 : decode cX8_byPieces 89 = .ok (.iload_n 1, 1) := by decide +kernel
theorem dX8_byPieces_90 : decode cX8_byPieces 90 = .ok (.imul, 1) := by decide +kernel
theorem dX8_byPieces_91 : decode cX8_byPieces 91 = .ok (.iload_n 2, 1) := by decide +kernel
theorem dX8_byPieces_92 : decode cX8_byPieces 92 = .ok (.iadd, 1) := by decide +kernel
theorem dX8_byPieces_93 : decode cX8_byPieces 93 = .ok (.iconst 1, 1) := by decide +kernel
theorem dX8_byPieces_94 : decode cX8_byPieces 94 = .ok (.iadd, 1) := by decide +kernel
theorem dX8_byPieces_95 : decode cX8_byPieces 95 = .ok (.iaload, 1) := by decide +kernel
theorem dX8_byPieces_96 : decode cX8_byPieces 96 = .ok (.istore_n 3, 1) := by decide +kernel
theorem dX8_byPieces_97 : decode cX8_byPieces 97 = .ok (.aload_n 0, 1) := by decide +kernel
theorem dX8_byPieces_98 : decode cX8_byPieces 98 = .ok (.aload_n 0, 1) := by decide +kernel
theorem dX8_byPieces_99 : decode cX8_byPieces 99 = .ok (.getfield 22, 3) := by decide +kernel
theorem dX8_byPieces_102 : decode cX8_byPieces 102 = .ok (.bipush 8, 2) := by decide +kernel
theorem dX8_byPieces_104 : decode cX8_byPieces 104 = .ok (.iload_n 1, 1) := by decide +kernel
theorem dX8_byPieces_105 : decode cX8_byPieces 105 = .ok (.imul, 1) := by decide +kernel
theorem dX8_byPieces_106 : decode cX8_byPieces 106 = .ok (.iload_n 2, 1) := by decide +kernel
theorem dX8_byPieces_107 : decode cX8_byPieces 107 = .ok (.iadd, 1) := by decide +kernel
theorem dX8_byPieces_108 : decode cX8_byPieces 108 = .ok (.iaload, 1) := by decide +kernel
theorem dX8_byPieces_109 : decode cX8_byPieces 109 = .ok (.aload_n 0, 1) := by decide +kernel
theorem dX8_byPieces_110 : decode cX8_byPieces 110 = .ok (.getfield 74, 3) := by decide +kernel
theorem dX8_byPieces_113 : decode cX8_byPieces 113 = .ok (.iload_n 3, 1) := by decide +kernel
theorem dX8_byPieces_114 : decode cX8_byPieces 114 = .ok (.iaload, 1) := by decide +kernel
theorem dX8_byPieces_115 : decode cX8_byPieces 115 = .ok (.aload_n 0, 1) := by decide +kernel
theorem dX8_byPieces_116 : decode cX8_byPieces 116 = .ok (.getfield 31, 3) := by decide +kernel
theorem dX8_byPieces_119 : decode cX8_byPieces 119 = .ok (.iload_n 3, 1) := by decide +kernel
theorem dX8_byPieces_120 : decode cX8_byPieces 120 = .ok (.iaload, 1) := by decide +kernel
theorem dX8_byPieces_121 : decode cX8_byPieces 121 = .ok (.isub, 1) := by decide +kernel
theorem dX8_byPieces_122 : decode cX8_byPieces 122 = .ok (.invokevirtual 242, 3) := by decide +kernel
theorem dX8_byPieces_125 : decode cX8_byPieces 125 = .ok (.iinc 2 (-1), 3) := by decide +kernel
theorem dX8_byPieces_128 : decode cX8_byPieces 128 = .ok (.goto (-49), 3) := by decide +kernel
theorem dX8_byPieces_131 : decode cX8_byPieces 131 = .ok (.iinc 1 1, 3) := by decide +kernel
theorem dX8_byPieces_134 : decode cX8_byPieces 134 = .ok (.goto (-132), 3) := by decide +kernel
theorem dX8_byPieces_137 : decode cX8_byPieces 137 = .ok (.return_, 1) := by decide +kernel
theorem dX8_byAhead_0 : decode cX8_byAhead 0 = .ok (.iconst 0, 1) := by decide +kernel
theorem dX8_byAhead_1 : decode cX8_byAhead 1 = .ok (.istore_n 1, 1) := by decide +kernel
theorem dX8_byAhead_2 : decode cX8_byAhead 2 = .ok (.iload_n 1, 1) := by decide +kernel
theorem dX8_byAhead_3 : decode cX8_byAhead 3 = .ok (.aload_n 0, 1) := by decide +kernel
theorem dX8_byAhead_4 : decode cX8_byAhead 4 = .ok (.getfield 143, 3) := by decide +kernel
theorem dX8_byAhead_7 : decode cX8_byAhead 7 = .ok (.if_icmp .ge 70, 3) := by decide +kernel
theorem dX8_byAhead_10 : decode cX8_byAhead 10 = .ok (.iconst 0, 1) := by decide +kernel
theorem dX8_byAhead_11 : decode cX8_byAhead 11 = .ok (.istore_n 2, 1) := by decide +kernel
theorem dX8_byAhead_12 : decode cX8_byAhead 12 = .ok (.iload_n 2, 1) := by decide +kernel
theorem dX8_byAhead_13 : decode cX8_byAhead 13 = .ok (.aload_n 0, 1) := by decide +kernel
theorem dX8_byAhead_14 : decode cX8_byAhead 14 = .ok (.getfield 143, 3) := by decide +kernel
theorem dX8_byAhead_17 : decode cX8_byAhead 17 = .ok (.if_icmp .ge 54, 3) := by decide +kernel
theorem dX8_byAhead_20 : decode cX8_byAhead 20 = .ok (.aload_n 0, 1) := by decide +kernel
theorem dX8_byAhead_21 : decode cX8_byAhead 21 = .ok (.iload_n 1, 1) := by decide +kernel
theorem dX8_byAhead_22 : decode cX8_byAhead 22 = .ok (.iload_n 2, 1) := by decide +kernel
theorem dX8_byAhead_23 : decode cX8_byAhead 23 = .ok (.invokevirtual 245, 3) := by decide +kernel
theorem dX8_byAhead_26 : decode cX8_byAhead 26 = .ok (.ifCond .eq 39, 3) := by decide +kernel
theorem dX8_byAhead_29 : decode cX8_byAhead 29 = .ok (.aload_n 0, 1) := by decide +kernel
theorem dX8_byAhead_30 : decode cX8_byAhead 30 = .ok (.iload_n 2, 1) := by decide +kernel
theorem dX8_byAhead_31 : decode cX8_byAhead 31 = .ok (.aload_n 0, 1) := by decide +kernel
theorem dX8_byAhead_32 : decode cX8_byAhead 32 = .ok (.getfield 71, 3) := by decide +kernel
theorem dX8_byAhead_35 : decode cX8_byAhead 35 = .ok (.iload_n 1, 1) := by decide +kernel
theorem dX8_byAhead_36 : decode cX8_byAhead 36 = .ok (.iaload, 1) := by decide +kernel
theorem dX8_byAhead_37 : decode cX8_byAhead 37 = .ok (.aload_n 0, 1) := by decide +kernel
theorem dX8_byAhead_38 : decode cX8_byAhead 38 = .ok (.getfield 31, 3) := by decide +kernel
theorem dX8_byAhead_41 : decode cX8_byAhead 41 = .ok (.iload_n 1, 1) := by decide +kernel
theorem dX8_byAhead_42 : decode cX8_byAhead 42 = .ok (.iaload, 1) := by decide +kernel
theorem dX8_byAhead_43 : decode cX8_byAhead 43 = .ok (.iadd, 1) := by decide +kernel
theorem dX8_byAhead_44 : decode cX8_byAhead 44 = .ok (.invokevirtual 239, 3) := by decide +kernel
theorem dX8_byAhead_47 : decode cX8_byAhead 47 = .ok (.aload_n 0, 1) := by decide +kernel
theorem dX8_byAhead_48 : decode cX8_byAhead 48 = .ok (.iload_n 1, 1) := by decide +kernel
theorem dX8_byAhead_49 : decode cX8_byAhead 49 = .ok (.aload_n 0, 1) := by decide +kernel
theorem dX8_byAhead_50 : decode cX8_byAhead 50 = .ok (.getfield 74, 3) := by decide +kernel
theorem dX8_byAhead_53 : decode cX8_byAhead 53 = .ok (.iload_n 2, 1) := by decide +kernel
theorem dX8_byAhead_54 : decode cX8_byAhead 54 = .ok (.iaload, 1) := by decide +kernel
theorem dX8_byAhead_55 : decode cX8_byAhead 55 = .ok (.aload_n 0, 1) := by decide +kernel
theorem dX8_byAhead_56 : decode cX8_byAhead 56 = .ok (.getfield 31, 3) := by decide +kernel
theorem dX8_byAhead_59 : decode cX8_byAhead 59 = .ok (.iload_n 2, 1) := by decide +kernel
theorem dX8_byAhead_60 : decode cX8_byAhead 60 = .ok (.iaload, 1) := by decide +kernel
theorem dX8_byAhead_61 : decode cX8_byAhead 61 = .ok (.isub, 1) := by decide +kernel
theorem dX8_byAhead_62 : decode cX8_byAhead 62 = .ok (.invokevirtual 242, 3) := by decide +kernel
theorem dX8_byAhead_65 : decode cX8_byAhead 65 = .ok (.iinc 2 1, 3) := by decide +kernel
theorem dX8_byAhead_68 : decode cX8_byAhead 68 = .ok (.goto (-56), 3) := by decide +kernel
theorem dX8_byAhead_71 : decode cX8_byAhead 71 = .ok (.iinc 1 1, 3) := by decide +kernel
theorem dX8_byAhead_74 : decode cX8_byAhead 74 = .ok (.goto (-72), 3) := by decide +kernel
theorem dX8_byAhead_77 : decode cX8_byAhead 77 = .ok (.return_, 1) := by decide +kernel
theorem dX8_isOn_0 : decode cX8_isOn 0 = .ok (.aload_n 0, 1) := by decide +kernel
theorem dX8_isOn_1 : decode cX8_isOn 1 = .ok (.getfield 28, 3) := by decide +kernel
theorem dX8_isOn_4 : decode cX8_isOn 4 = .ok (.iload_n 1, 1) := by decide +kernel
theorem dX8_isOn_5 : decode cX8_isOn 5 = .ok (.iaload, 1) := by decide +kernel
theorem dX8_isOn_6 : decode cX8_isOn 6 = .ok (.iload_n 2, 1) := by decide +kernel
theorem dX8_isOn_7 : decode cX8_isOn 7 = .ok (.if_icmp .ne 7, 3) := by decide +kernel
theorem dX8_isOn_10 : decode cX8_isOn 10 = .ok (.iconst 1, 1) := by decide +kernel
theorem dX8_isOn_11 : decode cX8_isOn 11 = .ok (.goto 4, 3) := by decide +kernel
theorem dX8_isOn_14 : decode cX8_isOn 14 = .ok (.iconst 0, 1) := by decide +kernel
theorem dX8_isOn_15 : decode cX8_isOn 15 = .ok (.ireturn, 1) := by decide +kernel
theorem dX8_byPairs_0 : decode cX8_byPairs 0 = .ok (.iconst 0, 1) := by decide +kernel
theorem dX8_byPairs_1 : decode cX8_byPairs 1 = .ok (.istore_n 2, 1) := by decide +kernel
theorem dX8_byPairs_2 : decode cX8_byPairs 2 = .ok (.iload_n 2, 1) := by decide +kernel
theorem dX8_byPairs_3 : decode cX8_byPairs 3 = .ok (.aload_n 0, 1) := by decide +kernel
theorem dX8_byPairs_4 : decode cX8_byPairs 4 = .ok (.getfield 143, 3) := by decide +kernel
theorem dX8_byPairs_7 : decode cX8_byPairs 7 = .ok (.if_icmp .ge 195, 3) := by decide +kernel
theorem dX8_byPairs_10 : decode cX8_byPairs 10 = .ok (.aload_n 0, 1) := by decide +kernel
theorem dX8_byPairs_11 : decode cX8_byPairs 11 = .ok (.getfield 236, 3) := by decide +kernel
theorem dX8_byPairs_14 : decode cX8_byPairs 14 = .ok (.ifCond .ne 188, 3) := by decide +kernel
theorem dX8_byPairs_17 : decode cX8_byPairs 17 = .ok (.iload_n 2, 1) := by decide +kernel
theorem dX8_byPairs_18 : decode cX8_byPairs 18 = .ok (.iconst 1, 1) := by decide +kernel
theorem dX8_byPairs_19 : decode cX8_byPairs 19 = .ok (.iadd, 1) := by decide +kernel
theorem dX8_byPairs_20 : decode cX8_byPairs 20 = .ok (.istore_n 3, 1) := by decide +kernel
theorem dX8_byPairs_21 : decode cX8_byPairs 21 = .ok (.iload_n 3, 1) := by decide +kernel
theorem dX8_byPairs_22 : decode cX8_byPairs 22 = .ok (.aload_n 0, 1) := by decide +kernel
theorem dX8_byPairs_23 : decode cX8_byPairs 23 = .ok (.getfield 143, 3) := by decide +kernel
theorem dX8_byPairs_26 : decode cX8_byPairs 26 = .ok (.if_icmp .ge 170, 3) := by decide +kernel
theorem dX8_byPairs_29 : decode cX8_byPairs 29 = .ok (.aload_n 0, 1) := by decide +kernel
theorem dX8_byPairs_30 : decode cX8_byPairs 30 = .ok (.getfield 236, 3) := by decide +kernel
theorem dX8_byPairs_33 : decode cX8_byPairs 33 = .ok (.ifCond .ne 163, 3) := by decide +kernel
theorem dX8_byPairs_36 : decode cX8_byPairs 36 = .ok (.aload_n 0, 1) := by decide +kernel
theorem dX8_byPairs_37 : decode cX8_byPairs 37 = .ok (.iload_n 2, 1) := by decide +kernel
theorem dX8_byPairs_38 : decode cX8_byPairs 38 = .ok (.iload_n 1, 1) := by decide +kernel
theorem dX8_byPairs_39 : decode cX8_byPairs 39 = .ok (.invokevirtual 248, 3) := by decide +kernel
theorem dX8_byPairs_42 : decode cX8_byPairs 42 = .ok (.ifCond .eq 148, 3) := by decide +kernel
theorem dX8_byPairs_45 : decode cX8_byPairs 45 = .ok (.aload_n 0, 1) := by decide +kernel
theorem dX8_byPairs_46 : decode cX8_byPairs 46 = .ok (.iload_n 3, 1) := by decide +kernel
theorem dX8_byPairs_47 : decode cX8_byPairs 47 = .ok (.iload_n 1, 1) := by decide +kernel
theorem dX8_byPairs_48 : decode cX8_byPairs 48 = .ok (.invokevirtual 248, 3) := by decide +kernel
theorem dX8_byPairs_51 : decode cX8_byPairs 51 = .ok (.ifCond .eq 139, 3) := by decide +kernel
theorem dX8_byPairs_54 : decode cX8_byPairs 54 = .ok (.aload_n 0, 1) := by decide +kernel
theorem dX8_byPairs_55 : decode cX8_byPairs 55 = .ok (.iload_n 2, 1) := by decide +kernel
theorem dX8_byPairs_56 : decode cX8_byPairs 56 = .ok (.iload_n 3, 1) := by decide +kernel
theorem dX8_byPairs_57 : decode cX8_byPairs 57 = .ok (.invokevirtual 245, 3) := by decide +kernel
theorem dX8_byPairs_60 : decode cX8_byPairs 60 = .ok (.ifCond .ne 130, 3) := by decide +kernel
theorem dX8_byPairs_63 : decode cX8_byPairs 63 = .ok (.aload_n 0, 1) := by decide +kernel
theorem dX8_byPairs_64 : decode cX8_byPairs 64 = .ok (.iload_n 3, 1) := by decide +kernel
theorem dX8_byPairs_65 : decode cX8_byPairs 65 = .ok (.iload_n 2, 1) := by decide +kernel
theorem dX8_byPairs_66 : decode cX8_byPairs 66 = .ok (.invokevirtual 245, 3) := by decide +kernel
theorem dX8_byPairs_69 : decode cX8_byPairs 69 = .ok (.ifCond .eq 6, 3) := by decide +kernel
theorem dX8_byPairs_72 : decode cX8_byPairs 72 = .ok (.goto 118, 3) := by decide +kernel
theorem dX8_byPairs_75 : decode cX8_byPairs 75 = .ok (.aload_n 0, 1) := by decide +kernel
theorem dX8_byPairs_76 : decode cX8_byPairs 76 = .ok (.getfield 71, 3) := by decide +kernel
theorem dX8_byPairs_79 : decode cX8_byPairs 79 = .ok (.iload_n 2, 1) := by decide +kernel
theorem dX8_byPairs_80 : decode cX8_byPairs 80 = .ok (.iaload, 1) := by decide +kernel
theorem dX8_byPairs_81 : decode cX8_byPairs 81 = .ok (.aload_n 0, 1) := by decide +kernel
theorem dX8_byPairs_82 : decode cX8_byPairs 82 = .ok (.getfield 31, 3) := by decide +kernel
theorem dX8_byPairs_85 : decode cX8_byPairs 85 = .ok (.iload_n 2, 1) := by decide +kernel
theorem dX8_byPairs_86 : decode cX8_byPairs 86 = .ok (.iaload, 1) := by decide +kernel
theorem dX8_byPairs_87 : decode cX8_byPairs 87 = .ok (.iadd, 1) := by decide +kernel
theorem dX8_byPairs_88 : decode cX8_byPairs 88 = .ok (.aload_n 0, 1) := by decide +kernel
theorem dX8_byPairs_89 : decode cX8_byPairs 89 = .ok (.getfield 31, 3) := by decide +kernel
theorem dX8_byPairs_92 : decode cX8_byPairs 92 = .ok (.iload_n 3, 1) := by decide +kernel
theorem dX8_byPairs_93 : decode cX8_byPairs 93 = .ok (.iaload, 1) := by decide +kernel
theorem dX8_byPairs_94 : decode cX8_byPairs 94 = .ok (.iadd, 1) := by decide +kernel
theorem dX8_byPairs_95 : decode cX8_byPairs 95 = .ok (.aload_n 0, 1) := by decide +kernel
theorem dX8_byPairs_96 : decode cX8_byPairs 96 = .ok (.getfield 74, 3) := by decide +kernel
theorem dX8_byPairs_99 : decode cX8_byPairs 99 = .ok (.iload_n 3, 1) := by decide +kernel
theorem dX8_byPairs_100 : decode cX8_byPairs 100 = .ok (.iaload, 1) := by decide +kernel
theorem dX8_byPairs_101 : decode cX8_byPairs 101 = .ok (.if_icmp .le 7, 3) := by decide +kernel
theorem dX8_byPairs_104 : decode cX8_byPairs 104 = .ok (.iconst 1, 1) := by decide +kernel
theorem dX8_byPairs_105 : decode cX8_byPairs 105 = .ok (.goto 4, 3) := by decide +kernel
theorem dX8_byPairs_108 : decode cX8_byPairs 108 = .ok (.iconst 0, 1) := by decide +kernel
theorem dX8_byPairs_109 : decode cX8_byPairs 109 = .ok (.istore 4, 2) := by decide +kernel
theorem dX8_byPairs_111 : decode cX8_byPairs 111 = .ok (.aload_n 0, 1) := by decide +kernel
theorem dX8_byPairs_112 : decode cX8_byPairs 112 = .ok (.getfield 71, 3) := by decide +kernel
theorem dX8_byPairs_115 : decode cX8_byPairs 115 = .ok (.iload_n 3, 1) := by decide +kernel
theorem dX8_byPairs_116 : decode cX8_byPairs 116 = .ok (.iaload, 1) := by decide +kernel
theorem dX8_byPairs_117 : decode cX8_byPairs 117 = .ok (.aload_n 0, 1) := by decide +kernel
theorem dX8_byPairs_118 : decode cX8_byPairs 118 = .ok (.getfield 31, 3) := by decide +kernel
theorem dX8_byPairs_121 : decode cX8_byPairs 121 = .ok (.iload_n 3, 1) := by decide +kernel
theorem dX8_byPairs_122 : decode cX8_byPairs 122 = .ok (.iaload, 1) := by decide +kernel
theorem dX8_byPairs_123 : decode cX8_byPairs 123 = .ok (.iadd, 1) := by decide +kernel
theorem dX8_byPairs_124 : decode cX8_byPairs 124 = .ok (.aload_n 0, 1) := by decide +kernel
theorem dX8_byPairs_125 : decode cX8_byPairs 125 = .ok (.getfield 31, 3) := by decide +kernel
theorem dX8_byPairs_128 : decode cX8_byPairs 128 = .ok (.iload_n 2, 1) := by decide +kernel
theorem dX8_byPairs_129 : decode cX8_byPairs 129 = .ok (.iaload, 1) := by decide +kernel
theorem dX8_byPairs_130 : decode cX8_byPairs 130 = .ok (.iadd, 1) := by decide +kernel
theorem dX8_byPairs_131 : decode cX8_byPairs 131 = .ok (.aload_n 0, 1) := by decide +kernel
theorem dX8_byPairs_132 : decode cX8_byPairs 132 = .ok (.getfield 74, 3) := by decide +kernel
theorem dX8_byPairs_135 : decode cX8_byPairs 135 = .ok (.iload_n 2, 1) := by decide +kernel
theorem dX8_byPairs_136 : decode cX8_byPairs 136 = .ok (.iaload, 1) := by decide +kernel
theorem dX8_byPairs_137 : decode cX8_byPairs 137 = .ok (.if_icmp .le 7, 3) := by decide +kernel
theorem dX8_byPairs_140 : decode cX8_byPairs 140 = .ok (.iconst 1, 1) := by decide +kernel
theorem dX8_byPairs_141 : decode cX8_byPairs 141 = .ok (.goto 4, 3) := by decide +kernel
theorem dX8_byPairs_144 : decode cX8_byPairs 144 = .ok (.iconst 0, 1) := by decide +kernel
theorem dX8_byPairs_145 : decode cX8_byPairs 145 = .ok (.istore 5, 2) := by decide +kernel
theorem dX8_byPairs_147 : decode cX8_byPairs 147 = .ok (.iload 4, 2) := by decide +kernel
theorem dX8_byPairs_149 : decode cX8_byPairs 149 = .ok (.ifCond .eq 16, 3) := by decide +kernel
theorem dX8_byPairs_152 : decode cX8_byPairs 152 = .ok (.iload 5, 2) := by decide +kernel
theorem dX8_byPairs_154 : decode cX8_byPairs 154 = .ok (.ifCond .eq 11, 3) := by decide +kernel
theorem dX8_byPairs_157 : decode cX8_byPairs 157 = .ok (.aload_n 0, 1) := by decide +kernel
theorem dX8_byPairs_158 : decode cX8_byPairs 158 = .ok (.iconst 1, 1) := by decide +kernel
theorem dX8_byPairs_159 : decode cX8_byPairs 159 = .ok (.putfield 236, 3) := by decide +kernel
theorem dX8_byPairs_162 : decode cX8_byPairs 162 = .ok (.goto 28, 3) := by decide +kernel
theorem dX8_byPairs_165 : decode cX8_byPairs 165 = .ok (.iload 4, 2) := by decide +kernel
theorem dX8_byPairs_167 : decode cX8_byPairs 167 = .ok (.ifCond .eq 12, 3) := by decide +kernel
theorem dX8_byPairs_170 : decode cX8_byPairs 170 = .ok (.aload_n 0, 1) := by decide +kernel
theorem dX8_byPairs_171 : decode cX8_byPairs 171 = .ok (.iload_n 3, 1) := by decide +kernel
theorem dX8_byPairs_172 : decode cX8_byPairs 172 = .ok (.iload_n 2, 1) := by decide +kernel
theorem dX8_byPairs_173 : decode cX8_byPairs 173 = .ok (.invokevirtual 251, 3) := by decide +kernel
theorem dX8_byPairs_176 : decode cX8_byPairs 176 = .ok (.goto 14, 3) := by decide +kernel
theorem dX8_byPairs_179 : decode cX8_byPairs 179 = .ok (.iload 5, 2) := by decide +kernel
theorem dX8_byPairs_181 : decode cX8_byPairs 181 = .ok (.ifCond .eq 9, 3) := by decide +kernel
theorem dX8_byPairs_184 : decode cX8_byPairs 184 = .ok (.aload_n 0, 1) := by decide +kernel
theorem dX8_byPairs_185 : decode cX8_byPairs 185 = .ok (.iload_n 2, 1) := by decide +kernel
theorem dX8_byPairs_186 : decode cX8_byPairs 186 = .ok (.iload_n 3, 1) := by decide +kernel
theorem dX8_byPairs_187 : decode cX8_byPairs 187 = .ok (.invokevirtual 251, 3) := by decide +kernel
theorem dX8_byPairs_190 : decode cX8_byPairs 190 = .ok (.iinc 3 1, 3) := by decide +kernel
theorem dX8_byPairs_193 : decode cX8_byPairs 193 = .ok (.goto (-172), 3) := by decide +kernel
theorem dX8_byPairs_196 : decode cX8_byPairs 196 = .ok (.iinc 2 1, 3) := by decide +kernel
theorem dX8_byPairs_199 : decode cX8_byPairs 199 = .ok (.goto (-197), 3) := by decide +kernel
theorem dX8_byPairs_202 : decode cX8_byPairs 202 = .ok (.return_, 1) := by decide +kernel
theorem dX8_bySets_0 : decode cX8_bySets 0 = .ok (.iconst 0, 1) := by decide +kernel
theorem dX8_bySets_1 : decode cX8_bySets 1 = .ok (.istore_n 2, 1) := by decide +kernel
theorem dX8_bySets_2 : decode cX8_bySets 2 = .ok (.iload_n 2, 1) := by decide +kernel
theorem dX8_bySets_3 : decode cX8_bySets 3 = .ok (.aload_n 0, 1) := by decide +kernel
theorem dX8_bySets_4 : decode cX8_bySets 4 = .ok (.getfield 143, 3) := by decide +kernel
theorem dX8_bySets_7 : decode cX8_bySets 7 = .ok (.if_icmp .ge 64, 3) := by decide +kernel
theorem dX8_bySets_10 : decode cX8_bySets 10 = .ok (.aload_n 0, 1) := by decide +kernel
theorem dX8_bySets_11 : decode cX8_bySets 11 = .ok (.getfield 236, 3) := by decide +kernel
theorem dX8_bySets_14 : decode cX8_bySets 14 = .ok (.ifCond .ne 57, 3) := by decide +kernel
theorem dX8_bySets_17 : decode cX8_bySets 17 = .ok (.iconst 0, 1) := by decide +kernel
theorem dX8_bySets_18 : decode cX8_bySets 18 = .ok (.istore_n 3, 1) := by decide +kernel
theorem dX8_bySets_19 : decode cX8_bySets 19 = .ok (.iload_n 3, 1) := by decide +kernel
theorem dX8_bySets_20 : decode cX8_bySets 20 = .ok (.aload_n 0, 1) := by decide +kernel
theorem dX8_bySets_21 : decode cX8_bySets 21 = .ok (.getfield 143, 3) := by decide +kernel
theorem dX8_bySets_24 : decode cX8_bySets 24 = .ok (.if_icmp .ge 41, 3) := by decide +kernel
theorem dX8_bySets_27 : decode cX8_bySets 27 = .ok (.aload_n 0, 1) := by decide +kernel
theorem dX8_bySets_28 : decode cX8_bySets 28 = .ok (.getfield 236, 3) := by decide +kernel
theorem dX8_bySets_31 : decode cX8_bySets 31 = .ok (.ifCond .ne 34, 3) := by decide +kernel
theorem dX8_bySets_34 : decode cX8_bySets 34 = .ok (.aload_n 0, 1) := by decide +kernel
theorem dX8_bySets_35 : decode cX8_bySets 35 = .ok (.iload_n 2, 1) := by decide +kernel
theorem dX8_bySets_36 : decode cX8_bySets 36 = .ok (.iload_n 1, 1) := by decide +kernel
theorem dX8_bySets_37 : decode cX8_bySets 37 = .ok (.invokevirtual 248, 3) := by decide +kernel
theorem dX8_bySets_40 : decode cX8_bySets 40 = .ok (.ifCond .eq 19, 3) := by decide +kernel
theorem dX8_bySets_43 : decode cX8_bySets 43 = .ok (.aload_n 0, 1) := by decide +kernel
theorem dX8_bySets_44 : decode cX8_bySets 44 = .ok (.iload_n 3, 1) := by decide +kernel
theorem dX8_bySets_45 : decode cX8_bySets 45 = .ok (.iload_n 1, 1) := by decide +kernel
theorem dX8_bySets_46 : decode cX8_bySets 46 = .ok (.invokevirtual 248, 3) := by decide +kernel
theorem dX8_bySets_49 : decode cX8_bySets 49 = .ok (.ifCond .eq 10, 3) := by decide +kernel
theorem dX8_bySets_52 : decode cX8_bySets 52 = .ok (.aload_n 0, 1) := by decide +kernel
theorem dX8_bySets_53 : decode cX8_bySets 53 = .ok (.iload_n 1, 1) := by decide +kernel
theorem dX8_bySets_54 : decode cX8_bySets 54 = .ok (.iload_n 2, 1) := by decide +kernel
theorem dX8_bySets_55 : decode cX8_bySets 55 = .ok (.iload_n 3, 1) := by decide +kernel
theorem dX8_bySets_56 : decode cX8_bySets 56 = .ok (.invokevirtual 254, 3) := by decide +kernel
theorem dX8_bySets_59 : decode cX8_bySets 59 = .ok (.iinc 3 1, 3) := by decide +kernel
theorem dX8_bySets_62 : decode cX8_bySets 62 = .ok (.goto (-43), 3) := by decide +kernel
theorem dX8_bySets_65 : decode cX8_bySets 65 = .ok (.iinc 2 1, 3) := by decide +kernel
theorem dX8_bySets_68 : decode cX8_bySets 68 = .ok (.goto (-66), 3) := by decide +kernel
theorem dX8_bySets_71 : decode cX8_bySets 71 = .ok (.return_, 1) := by decide +kernel
theorem dX8_bySet_0 : decode cX8_bySet 0 = .ok (.iconst 0, 1) := by decide +kernel
theorem dX8_bySet_1 : decode cX8_bySet 1 = .ok (.istore 4, 2) := by decide +kernel
theorem dX8_bySet_3 : decode cX8_bySet 3 = .ok (.iconst 0, 1) := by decide +kernel
theorem dX8_bySet_4 : decode cX8_bySet 4 = .ok (.istore 5, 2) := by decide +kernel
theorem dX8_bySet_6 : decode cX8_bySet 6 = .ok (.aload_n 0, 1) := by decide +kernel
theorem dX8_bySet_7 : decode cX8_bySet 7 = .ok (.getfield 71, 3) := by decide +kernel
theorem dX8_bySet_10 : decode cX8_bySet 10 = .ok (.iload_n 2, 1) := by decide +kernel
theorem dX8_bySet_11 : decode cX8_bySet 11 = .ok (.iaload, 1) := by decide +kernel
theorem dX8_bySet_12 : decode cX8_bySet 12 = .ok (.istore 6, 2) := by decide +kernel
theorem dX8_bySet_14 : decode cX8_bySet 14 = .ok (.aload_n 0, 1) := by decide +kernel
theorem dX8_bySet_15 : decode cX8_bySet 15 = .ok (.getfield 74, 3) := by decide +kernel
theorem dX8_bySet_18 : decode cX8_bySet 18 = .ok (.iload_n 3, 1) := by decide +kernel
theorem dX8_bySet_19 : decode cX8_bySet 19 = .ok (.iaload, 1) := by decide +kernel
theorem dX8_bySet_20 : decode cX8_bySet 20 = .ok (.istore 7, 2) := by decide +kernel
theorem dX8_bySet_22 : decode cX8_bySet 22 = .ok (.iconst 0, 1) := by decide +kernel
theorem dX8_bySet_23 : decode cX8_bySet 23 = .ok (.istore 8, 2) := by decide +kernel
theorem dX8_bySet_25 : decode cX8_bySet 25 = .ok (.iload 8, 2) := by decide +kernel
theorem dX8_bySet_27 : decode cX8_bySet 27 = .ok (.aload_n 0, 1) := by decide +kernel
theorem dX8_bySet_28 : decode cX8_bySet 28 = .ok (.getfield 143, 3) := by decide +kernel
theorem dX8_bySet_31 : decode cX8_bySet 31 = .ok (.if_icmp .ge 64, 3) := by decide +kernel
theorem dX8_bySet_34 : decode cX8_bySet 34 = .ok (.aload_n 0, 1) := by decide +kernel
theorem dX8_bySet_35 : decode cX8_bySet 35 = .ok (.iload 8, 2) := by decide +kernel
theorem dX8_bySet_37 : decode cX8_bySet 37 = .ok (.iload_n 1, 1) := by decide +kernel
theorem dX8_bySet_38 : decode cX8_bySet 38 = .ok (.invokevirtual 248, 3) := by decide +kernel
theorem dX8_bySet_41 : decode cX8_bySet 41 = .ok (.ifCond .eq 48, 3) := by decide +kernel
theorem dX8_bySet_44 : decode cX8_bySet 44 = .ok (.aload_n 0, 1) := by decide +kernel
theorem dX8_bySet_45 : decode cX8_bySet 45 = .ok (.getfield 71, 3) := by decide +kernel
theorem dX8_bySet_48 : decode cX8_bySet 48 = .ok (.iload 8, 2) := by decide +kernel
theorem dX8_bySet_50 : decode cX8_bySet 50 = .ok (.iaload, 1) := by decide +kernel
theorem dX8_bySet_51 : decode cX8_bySet 51 = .ok (.iload 6, 2) := by decide +kernel
theorem dX8_bySet_53 : decode cX8_bySet 53 = .ok (.if_icmp .lt 36, 3) := by decide +kernel
theorem dX8_bySet_56 : decode cX8_bySet 56 = .ok (.aload_n 0, 1) := by decide +kernel
theorem dX8_bySet_57 : decode cX8_bySet 57 = .ok (.getfield 74, 3) := by decide +kernel
theorem dX8_bySet_60 : decode cX8_bySet 60 = .ok (.iload 8, 2) := by decide +kernel
theorem dX8_bySet_62 : decode cX8_bySet 62 = .ok (.iaload, 1) := by decide +kernel
theorem dX8_bySet_63 : decode cX8_bySet 63 = .ok (.iload 7, 2) := by decide +kernel
theorem dX8_bySet_65 : decode cX8_bySet 65 = .ok (.if_icmp .gt 24, 3) := by decide +kernel
theorem dX8_bySet_68 : decode cX8_bySet 68 = .ok (.iload 4, 2) := by decide +kernel
theorem dX8_bySet_70 : decode cX8_bySet 70 = .ok (.iconst 1, 1) := by decide +kernel
theorem dX8_bySet_71 : decode cX8_bySet 71 = .ok (.iload 8, 2) := by decide +kernel
theorem dX8_bySet_73 : decode cX8_bySet 73 = .ok (.ishl, 1) := by decide +kernel
theorem dX8_bySet_74 : decode cX8_bySet 74 = .ok (.ior, 1) := by decide +kernel
theorem dX8_bySet_75 : decode cX8_bySet 75 = .ok (.istore 4, 2) := by decide +kernel
theorem dX8_bySet_77 : decode cX8_bySet 77 = .ok (.iload 5, 2) := by decide +kernel
theorem dX8_bySet_79 : decode cX8_bySet 79 = .ok (.aload_n 0, 1) := by decide +kernel
theorem dX8_bySet_80 : decode cX8_bySet 80 = .ok (.getfield 31, 3) := by decide +kernel
theorem dX8_bySet_83 : decode cX8_bySet 83 = .ok (.iload 8, 2) := by decide +kernel
theorem dX8_bySet_85 : decode cX8_bySet 85 = .ok (.iaload, 1) := by decide +kernel
theorem dX8_bySet_86 : decode cX8_bySet 86 = .ok (.iadd, 1) := by decide +kernel
theorem dX8_bySet_87 : decode cX8_bySet 87 = .ok (.istore 5, 2) := by decide +kernel
theorem dX8_bySet_89 : decode cX8_bySet 89 = .ok (.iinc 8 1, 3) := by decide +kernel
theorem dX8_bySet_92 : decode cX8_bySet 92 = .ok (.goto (-67), 3) := by decide +kernel
theorem dX8_bySet_95 : decode cX8_bySet 95 = .ok (.iload 4, 2) := by decide +kernel
theorem dX8_bySet_97 : decode cX8_bySet 97 = .ok (.ifCond .ne 4, 3) := by decide +kernel
theorem dX8_bySet_100 : decode cX8_bySet 100 = .ok (.return_, 1) := by decide +kernel
theorem dX8_bySet_101 : decode cX8_bySet 101 = .ok (.iload 5, 2) := by decide +kernel
theorem dX8_bySet_103 : decode cX8_bySet 103 = .ok (.iload 7, 2) := by decide +kernel
theorem dX8_bySet_105 : decode cX8_bySet 105 = .ok (.iload 6, 2) := by decide +kernel
theorem dX8_bySet_107 : decode cX8_bySet 107 = .ok (.isub, 1) := by decide +kernel
theorem dX8_bySet_108 : decode cX8_bySet 108 = .ok (.if_icmp .le 9, 3) := by decide +kernel
theorem dX8_bySet_111 : decode cX8_bySet 111 = .ok (.aload_n 0, 1) := by decide +kernel
theorem dX8_bySet_112 : decode cX8_bySet 112 = .ok (.iconst 1, 1) := by decide +kernel
theorem dX8_bySet_113 : decode cX8_bySet 113 = .ok (.putfield 236, 3) := by decide +kernel
theorem dX8_bySet_116 : decode cX8_bySet 116 = .ok (.return_, 1) := by decide +kernel
theorem dX8_bySet_117 : decode cX8_bySet 117 = .ok (.iconst 0, 1) := by decide +kernel
theorem dX8_bySet_118 : decode cX8_bySet 118 = .ok (.istore 8, 2) := by decide +kernel
theorem dX8_bySet_120 : decode cX8_bySet 120 = .ok (.iload 8, 2) := by decide +kernel
theorem dX8_bySet_122 : decode cX8_bySet 122 = .ok (.aload_n 0, 1) := by decide +kernel
theorem dX8_bySet_123 : decode cX8_bySet 123 = .ok (.getfield 143, 3) := by decide +kernel
theorem dX8_bySet_126 : decode cX8_bySet 126 = .ok (.if_icmp .ge 143, 3) := by decide +kernel
theorem dX8_bySet_129 : decode cX8_bySet 129 = .ok (.aload_n 0, 1) := by decide +kernel
theorem dX8_bySet_130 : decode cX8_bySet 130 = .ok (.iload 8, 2) := by decide +kernel
theorem dX8_bySet_132 : decode cX8_bySet 132 = .ok (.iload_n 1, 1) := by decide +kernel
theorem dX8_bySet_133 : decode cX8_bySet 133 = .ok (.invokevirtual 248, 3) := by decide +kernel
theorem dX8_bySet_136 : decode cX8_bySet 136 = .ok (.ifCond .eq 127, 3) := by decide +kernel
theorem dX8_bySet_139 : decode cX8_bySet 139 = .ok (.iload 4, 2) := by decide +kernel
theorem dX8_bySet_141 : decode cX8_bySet 141 = .ok (.iload 8, 2) := by decide +kernel
theorem dX8_bySet_143 : decode cX8_bySet 143 = .ok (.iushr, 1) := by decide +kernel
theorem dX8_bySet_144 : decode cX8_bySet 144 = .ok (.iconst 1, 1) := by decide +kernel
theorem dX8_bySet_145 : decode cX8_bySet 145 = .ok (.iand, 1) := by decide +kernel
theorem dX8_bySet_146 : decode cX8_bySet 146 = .ok (.iconst 1, 1) := by decide +kernel
theorem dX8_bySet_147 : decode cX8_bySet 147 = .ok (.if_icmp .ne 6, 3) := by decide +kernel
theorem dX8_bySet_150 : decode cX8_bySet 150 = .ok (.goto 113, 3) := by decide +kernel
theorem dX8_bySet_153 : decode cX8_bySet 153 = .ok (.aload_n 0, 1) := by decide +kernel
theorem dX8_bySet_154 : decode cX8_bySet 154 = .ok (.getfield 71, 3) := by decide +kernel
theorem dX8_bySet_157 : decode cX8_bySet 157 = .ok (.iload 8, 2) := by decide +kernel
theorem dX8_bySet_159 : decode cX8_bySet 159 = .ok (.iaload, 1) := by decide +kernel
theorem dX8_bySet_160 : decode cX8_bySet 160 = .ok (.iload 6, 2) := by decide +kernel
theorem dX8_bySet_162 : decode cX8_bySet 162 = .ok (.if_icmp .ge 13, 3) := by decide +kernel
theorem dX8_bySet_165 : decode cX8_bySet 165 = .ok (.aload_n 0, 1) := by decide +kernel
theorem dX8_bySet_166 : decode cX8_bySet 166 = .ok (.getfield 71, 3) := by decide +kernel
theorem dX8_bySet_169 : decode cX8_bySet 169 = .ok (.iload 8, 2) := by decide +kernel
theorem dX8_bySet_171 : decode cX8_bySet 171 = .ok (.iaload, 1) := by decide +kernel
theorem dX8_bySet_172 : decode cX8_bySet 172 = .ok (.goto 5, 3) := by decide +kernel
theorem dX8_bySet_175 : decode cX8_bySet 175 = .ok (.iload 6, 2) := by decide +kernel
theorem dX8_bySet_177 : decode cX8_bySet 177 = .ok (.istore 9, 2) := by decide +kernel
theorem dX8_bySet_179 : decode cX8_bySet 179 = .ok (.iload 9, 2) := by decide +kernel
theorem dX8_bySet_181 : decode cX8_bySet 181 = .ok (.iload 5, 2) := by decide +kernel
theorem dX8_bySet_183 : decode cX8_bySet 183 = .ok (.iadd, 1) := by decide +kernel
theorem dX8_bySet_184 : decode cX8_bySet 184 = .ok (.aload_n 0, 1) := by decide +kernel
theorem dX8_bySet_185 : decode cX8_bySet 185 = .ok (.getfield 31, 3) := by decide +kernel
theorem dX8_bySet_188 : decode cX8_bySet 188 = .ok (.iload 8, 2) := by decide +kernel
theorem dX8_bySet_190 : decode cX8_bySet 190 = .ok (.iaload, 1) := by decide +kernel
theorem dX8_bySet_191 : decode cX8_bySet 191 = .ok (.iadd, 1) := by decide +kernel
theorem dX8_bySet_192 : decode cX8_bySet 192 = .ok (.iload 7, 2) := by decide +kernel
theorem dX8_bySet_194 : decode cX8_bySet 194 = .ok (.if_icmp .le 14, 3) := by decide +kernel
theorem dX8_bySet_197 : decode cX8_bySet 197 = .ok (.aload_n 0, 1) := by decide +kernel
theorem dX8_bySet_198 : decode cX8_bySet 198 = .ok (.iload 8, 2) := by decide +kernel
theorem dX8_bySet_200 : decode cX8_bySet 200 = .ok (.iload 6, 2) := by decide +kernel
theorem dX8_bySet_202 : decode cX8_bySet 202 = .ok (.iload 5, 2) := by decide +kernel
theorem dX8_bySet_204 : decode cX8_bySet 204 = .ok (.iadd, 1) := by decide +kernel
theorem dX8_bySet_205 : decode cX8_bySet 205 = .ok (.invokevirtual 239, 3) := by decide +kernel
theorem dX8_bySet_208 : decode cX8_bySet 208 = .ok (.iload 7, 2) := by decide +kernel
theorem dX8_bySet_210 : decode cX8_bySet 210 = .ok (.aload_n 0, 1) := by decide +kernel
theorem dX8_bySet_211 : decode cX8_bySet 211 = .ok (.getfield 74, 3) := by decide +kernel
theorem dX8_bySet_214 : decode cX8_bySet 214 = .ok (.iload 8, 2) := by decide +kernel
theorem dX8_bySet_216 : decode cX8_bySet 216 = .ok (.iaload, 1) := by decide +kernel
theorem dX8_bySet_217 : decode cX8_bySet 217 = .ok (.if_icmp .le 8, 3) := by decide +kernel
theorem dX8_bySet_220 : decode cX8_bySet 220 = .ok (.iload 7, 2) := by decide +kernel
theorem dX8_bySet_222 : decode cX8_bySet 222 = .ok (.goto 10, 3) := by decide +kernel
theorem dX8_bySet_225 : decode cX8_bySet 225 = .ok (.aload_n 0, 1) := by decide +kernel
theorem dX8_bySet_226 : decode cX8_bySet 226 = .ok (.getfield 74, 3) := by decide +kernel
theorem dX8_bySet_229 : decode cX8_bySet 229 = .ok (.iload 8, 2) := by decide +kernel
theorem dX8_bySet_231 : decode cX8_bySet 231 = .ok (.iaload, 1) := by decide +kernel
theorem dX8_bySet_232 : decode cX8_bySet 232 = .ok (.istore 10, 2) := by decide +kernel
theorem dX8_bySet_234 : decode cX8_bySet 234 = .ok (.iload 6, 2) := by decide +kernel
theorem dX8_bySet_236 : decode cX8_bySet 236 = .ok (.iload 5, 2) := by decide +kernel
theorem dX8_bySet_238 : decode cX8_bySet 238 = .ok (.iadd, 1) := by decide +kernel
theorem dX8_bySet_239 : decode cX8_bySet 239 = .ok (.aload_n 0, 1) := by decide +kernel
theorem dX8_bySet_240 : decode cX8_bySet 240 = .ok (.getfield 31, 3) := by decide +kernel
theorem dX8_bySet_243 : decode cX8_bySet 243 = .ok (.iload 8, 2) := by decide +kernel
theorem dX8_bySet_245 : decode cX8_bySet 245 = .ok (.iaload, 1) := by decide +kernel
theorem dX8_bySet_246 : decode cX8_bySet 246 = .ok (.iadd, 1) := by decide +kernel
theorem dX8_bySet_247 : decode cX8_bySet 247 = .ok (.iload 10, 2) := by decide +kernel
theorem dX8_bySet_249 : decode cX8_bySet 249 = .ok (.if_icmp .le 14, 3) := by decide +kernel
theorem dX8_bySet_252 : decode cX8_bySet 252 = .ok (.aload_n 0, 1) := by decide +kernel
theorem dX8_bySet_253 : decode cX8_bySet 253 = .ok (.iload 8, 2) := by decide +kernel
theorem dX8_bySet_255 : decode cX8_bySet 255 = .ok (.iload 7, 2) := by decide +kernel
theorem dX8_bySet_257 : decode cX8_bySet 257 = .ok (.iload 5, 2) := by decide +kernel
theorem dX8_bySet_259 : decode cX8_bySet 259 = .ok (.isub, 1) := by decide +kernel
theorem dX8_bySet_260 : decode cX8_bySet 260 = .ok (.invokevirtual 242, 3) := by decide +kernel
theorem dX8_bySet_263 : decode cX8_bySet 263 = .ok (.iinc 8 1, 3) := by decide +kernel
theorem dX8_bySet_266 : decode cX8_bySet 266 = .ok (.goto (-146), 3) := by decide +kernel
theorem dX8_bySet_269 : decode cX8_bySet 269 = .ok (.return_, 1) := by decide +kernel
theorem dX8_asks_0 : decode cX8_asks 0 = .ok (.iconst 0, 1) := by decide +kernel
theorem dX8_asks_1 : decode cX8_asks 1 = .ok (.istore_n 2, 1) := by decide +kernel
theorem dX8_asks_2 : decode cX8_asks 2 = .ok (.iload_n 2, 1) := by decide +kernel
theorem dX8_asks_3 : decode cX8_asks 3 = .ok (.aload_n 0, 1) := by decide +kernel
theorem dX8_asks_4 : decode cX8_asks 4 = .ok (.getfield 143, 3) := by decide +kernel
theorem dX8_asks_7 : decode cX8_asks 7 = .ok (.if_icmp .ge 23, 3) := by decide +kernel
theorem dX8_asks_10 : decode cX8_asks 10 = .ok (.aload_n 0, 1) := by decide +kernel
theorem dX8_asks_11 : decode cX8_asks 11 = .ok (.getfield 71, 3) := by decide +kernel
theorem dX8_asks_14 : decode cX8_asks 14 = .ok (.iload_n 2, 1) := by decide +kernel
theorem dX8_asks_15 : decode cX8_asks 15 = .ok (.iconst 0, 1) := by decide +kernel
theorem dX8_asks_16 : decode cX8_asks 16 = .ok (.iastore, 1) := by decide +kernel
theorem dX8_asks_17 : decode cX8_asks 17 = .ok (.aload_n 0, 1) := by decide +kernel
theorem dX8_asks_18 : decode cX8_asks 18 = .ok (.getfield 74, 3) := by decide +kernel
theorem dX8_asks_21 : decode cX8_asks 21 = .ok (.iload_n 2, 1) := by decide +kernel
theorem dX8_asks_22 : decode cX8_asks 22 = .ok (.iload_n 1, 1) := by decide +kernel
theorem dX8_asks_23 : decode cX8_asks 23 = .ok (.iastore, 1) := by decide +kernel
theorem dX8_asks_24 : decode cX8_asks 24 = .ok (.iinc 2 1, 3) := by decide +kernel
theorem dX8_asks_27 : decode cX8_asks 27 = .ok (.goto (-25), 3) := by decide +kernel
theorem dX8_asks_30 : decode cX8_asks 30 = .ok (.aload_n 0, 1) := by decide +kernel
theorem dX8_asks_31 : decode cX8_asks 31 = .ok (.iconst 0, 1) := by decide +kernel
theorem dX8_asks_32 : decode cX8_asks 32 = .ok (.putfield 236, 3) := by decide +kernel
theorem dX8_asks_35 : decode cX8_asks 35 = .ok (.aload_n 0, 1) := by decide +kernel
theorem dX8_asks_36 : decode cX8_asks 36 = .ok (.iconst 1, 1) := by decide +kernel
theorem dX8_asks_37 : decode cX8_asks 37 = .ok (.putfield 232, 3) := by decide +kernel
theorem dX8_asks_40 : decode cX8_asks 40 = .ok (.iconst 0, 1) := by decide +kernel
theorem dX8_asks_41 : decode cX8_asks 41 = .ok (.istore_n 2, 1) := by decide +kernel
theorem dX8_asks_42 : decode cX8_asks 42 = .ok (.iload_n 2, 1) := by decide +kernel
theorem dX8_asks_43 : decode cX8_asks 43 = .ok (.bipush 20, 2) := by decide +kernel
theorem dX8_asks_45 : decode cX8_asks 45 = .ok (.if_icmp .ge 140, 3) := by decide +kernel
theorem dX8_asks_48 : decode cX8_asks 48 = .ok (.aload_n 0, 1) := by decide +kernel
theorem dX8_asks_49 : decode cX8_asks 49 = .ok (.getfield 232, 3) := by decide +kernel
theorem dX8_asks_52 : decode cX8_asks 52 = .ok (.ifCond .eq 133, 3) := by decide +kernel
theorem dX8_asks_55 : decode cX8_asks 55 = .ok (.aload_n 0, 1) := by decide +kernel
theorem dX8_asks_56 : decode cX8_asks 56 = .ok (.getfield 236, 3) := by decide +kernel
theorem dX8_asks_59 : decode cX8_asks 59 = .ok (.ifCond .ne 126, 3) := by decide +kernel
theorem dX8_asks_62 : decode cX8_asks 62 = .ok (.aload_n 0, 1) := by decide +kernel
theorem dX8_asks_63 : decode cX8_asks 63 = .ok (.iconst 0, 1) := by decide +kernel
theorem dX8_asks_64 : decode cX8_asks 64 = .ok (.putfield 232, 3) := by decide +kernel
theorem dX8_asks_67 : decode cX8_asks 67 = .ok (.aload_n 0, 1) := by decide +kernel
theorem dX8_asks_68 : decode cX8_asks 68 = .ok (.invokevirtual 258, 3) := by decide +kernel
theorem dX8_asks_71 : decode cX8_asks 71 = .ok (.aload_n 0, 1) := by decide +kernel
theorem dX8_asks_72 : decode cX8_asks 72 = .ok (.invokevirtual 261, 3) := by decide +kernel
theorem dX8_asks_75 : decode cX8_asks 75 = .ok (.aload_n 0, 1) := by decide +kernel
theorem dX8_asks_76 : decode cX8_asks 76 = .ok (.getfield 236, 3) := by decide +kernel
theorem dX8_asks_79 : decode cX8_asks 79 = .ok (.ifCond .ne 11, 3) := by decide +kernel
theorem dX8_asks_82 : decode cX8_asks 82 = .ok (.aload_n 0, 1) := by decide +kernel
theorem dX8_asks_83 : decode cX8_asks 83 = .ok (.invokevirtual 264, 3) := by decide +kernel
theorem dX8_asks_86 : decode cX8_asks 86 = .ok (.aload_n 0, 1) := by decide +kernel
theorem dX8_asks_87 : decode cX8_asks 87 = .ok (.invokevirtual 261, 3) := by decide +kernel
theorem dX8_asks_90 : decode cX8_asks 90 = .ok (.iconst 0, 1) := by decide +kernel
theorem dX8_asks_91 : decode cX8_asks 91 = .ok (.istore_n 3, 1) := by decide +kernel
theorem dX8_asks_92 : decode cX8_asks 92 = .ok (.iload_n 3, 1) := by decide +kernel
theorem dX8_asks_93 : decode cX8_asks 93 = .ok (.aload_n 0, 1) := by decide +kernel
theorem dX8_asks_94 : decode cX8_asks 94 = .ok (.getfield 133, 3) := by decide +kernel
theorem dX8_asks_97 : decode cX8_asks 97 = .ok (.if_icmp .ge 30, 3) := by decide +kernel
theorem dX8_asks_100 : decode cX8_asks 100 = .ok (.aload_n 0, 1) := by decide +kernel
theorem dX8_asks_101 : decode cX8_asks 101 = .ok (.getfield 236, 3) := by decide +kernel
theorem dX8_asks_104 : decode cX8_asks 104 = .ok (.ifCond .ne 23, 3) := by decide +kernel
theorem dX8_asks_107 : decode cX8_asks 107 = .ok (.aload_n 0, 1) := by decide +kernel
theorem dX8_asks_108 : decode cX8_asks 108 = .ok (.getfield 7, 3) := by decide +kernel
theorem dX8_asks_111 : decode cX8_asks 111 = .ok (.iload_n 3, 1) := by decide +kernel
theorem dX8_asks_112 : decode cX8_asks 112 = .ok (.iaload, 1) := by decide +kernel
theorem dX8_asks_113 : decode cX8_asks 113 = .ok (.ifCond .ne 8, 3) := by decide +kernel
theorem dX8_asks_116 : decode cX8_asks 116 = .ok (.aload_n 0, 1) := by decide +kernel
theorem dX8_asks_117 : decode cX8_asks 117 = .ok (.iload_n 3, 1) := by decide +kernel
theorem dX8_asks_118 : decode cX8_asks 118 = .ok (.invokevirtual 267, 3) := by decide +kernel
theorem dX8_asks_121 : decode cX8_asks 121 = .ok (.iinc 3 1, 3) := by decide +kernel
theorem dX8_asks_124 : decode cX8_asks 124 = .ok (.goto (-32), 3) := by decide +kernel
theorem dX8_asks_127 : decode cX8_asks 127 = .ok (.aload_n 0, 1) := by decide +kernel
theorem dX8_asks_128 : decode cX8_asks 128 = .ok (.getfield 236, 3) := by decide +kernel
theorem dX8_asks_131 : decode cX8_asks 131 = .ok (.ifCond .ne 7, 3) := by decide +kernel
theorem dX8_asks_134 : decode cX8_asks 134 = .ok (.aload_n 0, 1) := by decide +kernel
theorem dX8_asks_135 : decode cX8_asks 135 = .ok (.invokevirtual 261, 3) := by decide +kernel
theorem dX8_asks_138 : decode cX8_asks 138 = .ok (.iconst 0, 1) := by decide +kernel
theorem dX8_asks_139 : decode cX8_asks 139 = .ok (.istore_n 3, 1) := by decide +kernel
theorem dX8_asks_140 : decode cX8_asks 140 = .ok (.iload_n 3, 1) := by decide +kernel
theorem dX8_asks_141 : decode cX8_asks 141 = .ok (.aload_n 0, 1) := by decide +kernel
theorem dX8_asks_142 : decode cX8_asks 142 = .ok (.getfield 133, 3) := by decide +kernel
theorem dX8_asks_145 : decode cX8_asks 145 = .ok (.if_icmp .ge 30, 3) := by decide +kernel
theorem dX8_asks_148 : decode cX8_asks 148 = .ok (.aload_n 0, 1) := by decide +kernel
theorem dX8_asks_149 : decode cX8_asks 149 = .ok (.getfield 236, 3) := by decide +kernel
theorem dX8_asks_152 : decode cX8_asks 152 = .ok (.ifCond .ne 23, 3) := by decide +kernel
theorem dX8_asks_155 : decode cX8_asks 155 = .ok (.aload_n 0, 1) := by decide +kernel
theorem dX8_asks_156 : decode cX8_asks 156 = .ok (.getfield 7, 3) := by decide +kernel
theorem dX8_asks_159 : decode cX8_asks 159 = .ok (.iload_n 3, 1) := by decide +kernel
theorem dX8_asks_160 : decode cX8_asks 160 = .ok (.iaload, 1) := by decide +kernel
theorem dX8_asks_161 : decode cX8_asks 161 = .ok (.ifCond .ne 8, 3) := by decide +kernel
theorem dX8_asks_164 : decode cX8_asks 164 = .ok (.aload_n 0, 1) := by decide +kernel
theorem dX8_asks_165 : decode cX8_asks 165 = .ok (.iload_n 3, 1) := by decide +kernel
theorem dX8_asks_166 : decode cX8_asks 166 = .ok (.invokevirtual 271, 3) := by decide +kernel
theorem dX8_asks_169 : decode cX8_asks 169 = .ok (.iinc 3 1, 3) := by decide +kernel
theorem dX8_asks_172 : decode cX8_asks 172 = .ok (.goto (-32), 3) := by decide +kernel
theorem dX8_asks_175 : decode cX8_asks 175 = .ok (.aload_n 0, 1) := by decide +kernel
theorem dX8_asks_176 : decode cX8_asks 176 = .ok (.invokevirtual 261, 3) := by decide +kernel
theorem dX8_asks_179 : decode cX8_asks 179 = .ok (.iinc 2 1, 3) := by decide +kernel
theorem dX8_asks_182 : decode cX8_asks 182 = .ok (.goto (-140), 3) := by decide +kernel
theorem dX8_asks_185 : decode cX8_asks 185 = .ok (.aload_n 0, 1) := by decide +kernel
theorem dX8_asks_186 : decode cX8_asks 186 = .ok (.getfield 236, 3) := by decide +kernel
theorem dX8_asks_189 : decode cX8_asks 189 = .ok (.ifCond .ne 7, 3) := by decide +kernel
theorem dX8_asks_192 : decode cX8_asks 192 = .ok (.iconst 1, 1) := by decide +kernel
theorem dX8_asks_193 : decode cX8_asks 193 = .ok (.goto 4, 3) := by decide +kernel
theorem dX8_asks_196 : decode cX8_asks 196 = .ok (.iconst 0, 1) := by decide +kernel
theorem dX8_asks_197 : decode cX8_asks 197 = .ok (.ireturn, 1) := by decide +kernel
theorem dX8_windows_0 : decode cX8_windows 0 = .ok (.iload_n 1, 1) := by decide +kernel
theorem dX8_windows_1 : decode cX8_windows 1 = .ok (.i2l, 1) := by decide +kernel
theorem dX8_windows_2 : decode cX8_windows 2 = .ok (.lconst 0, 1) := by decide +kernel
theorem dX8_windows_3 : decode cX8_windows 3 = .ok (.ldc2_w 274, 3) := by decide +kernel
theorem dX8_windows_6 : decode cX8_windows 6 = .ok (.invokestatic 124, 3) := by decide +kernel
theorem dX8_windows_9 : decode cX8_windows 9 = .ok (.ifCond .ne 6, 3) := by decide +kernel
theorem dX8_windows_12 : decode cX8_windows 12 = .ok (.ldc 132, 2) := by decide +kernel
theorem dX8_windows_14 : decode cX8_windows 14 = .ok (.ireturn, 1) := by decide +kernel
theorem dX8_windows_15 : decode cX8_windows 15 = .ok (.aload_n 0, 1) := by decide +kernel
theorem dX8_windows_16 : decode cX8_windows 16 = .ok (.invokevirtual 161, 3) := by decide +kernel
theorem dX8_windows_19 : decode cX8_windows 19 = .ok (.ifCond .ne 6, 3) := by decide +kernel
theorem dX8_windows_22 : decode cX8_windows 22 = .ok (.ldc 179, 2) := by decide +kernel
theorem dX8_windows_24 : decode cX8_windows 24 = .ok (.ireturn, 1) := by decide +kernel
theorem dX8_windows_25 : decode cX8_windows 25 = .ok (.iconst 0, 1) := by decide +kernel
theorem dX8_windows_26 : decode cX8_windows 26 = .ok (.istore_n 2, 1) := by decide +kernel
theorem dX8_windows_27 : decode cX8_windows 27 = .ok (.iload_n 2, 1) := by decide +kernel
theorem dX8_windows_28 : decode cX8_windows 28 = .ok (.bipush 32, 2) := by decide +kernel
theorem dX8_windows_30 : decode cX8_windows 30 = .ok (.if_icmp .ge 16, 3) := by decide +kernel
theorem dX8_windows_33 : decode cX8_windows 33 = .ok (.aload_n 0, 1) := by decide +kernel
theorem dX8_windows_34 : decode cX8_windows 34 = .ok (.getfield 77, 3) := by decide +kernel
theorem dX8_windows_37 : decode cX8_windows 37 = .ok (.iload_n 2, 1) := by decide +kernel
theorem dX8_windows_38 : decode cX8_windows 38 = .ok (.iconst 0, 1) := by decide +kernel
theorem dX8_windows_39 : decode cX8_windows 39 = .ok (.iastore, 1) := by decide +kernel
theorem dX8_windows_40 : decode cX8_windows 40 = .ok (.iinc 2 1, 3) := by decide +kernel
theorem dX8_windows_43 : decode cX8_windows 43 = .ok (.goto (-16), 3) := by decide +kernel
theorem dX8_windows_46 : decode cX8_windows 46 = .ok (.aload_n 0, 1) := by decide +kernel
theorem dX8_windows_47 : decode cX8_windows 47 = .ok (.iload_n 1, 1) := by decide +kernel
theorem dX8_windows_48 : decode cX8_windows 48 = .ok (.invokevirtual 276, 3) := by decide +kernel
theorem dX8_windows_51 : decode cX8_windows 51 = .ok (.istore_n 2, 1) := by decide +kernel
theorem dX8_windows_52 : decode cX8_windows 52 = .ok (.aload_n 0, 1) := by decide +kernel
theorem dX8_windows_53 : decode cX8_windows 53 = .ok (.iconst 1, 1) := by decide +kernel
theorem dX8_windows_54 : decode cX8_windows 54 = .ok (.putfield 279, 3) := by decide +kernel
theorem dX8_windows_57 : decode cX8_windows 57 = .ok (.aload_n 0, 1) := by decide +kernel
theorem dX8_windows_58 : decode cX8_windows 58 = .ok (.aload_n 0, 1) := by decide +kernel
theorem dX8_windows_59 : decode cX8_windows 59 = .ok (.getfield 143, 3) := by decide +kernel
theorem dX8_windows_62 : decode cX8_windows 62 = .ok (.putfield 282, 3) := by decide +kernel
theorem dX8_windows_65 : decode cX8_windows 65 = .ok (.iconst 0, 1) := by decide +kernel
theorem dX8_windows_66 : decode cX8_windows 66 = .ok (.istore_n 3, 1) := by decide +kernel
theorem dX8_windows_67 : decode cX8_windows 67 = .ok (.iload_n 3, 1) := by decide +kernel
theorem dX8_windows_68 : decode cX8_windows 68 = .ok (.bipush 32, 2) := by decide +kernel
theorem dX8_windows_70 : decode cX8_windows 70 = .ok (.if_icmp .ge 45, 3) := by decide +kernel
theorem dX8_windows_73 : decode cX8_windows 73 = .ok (.aload_n 0, 1) := by decide +kernel
theorem dX8_windows_74 : decode cX8_windows 74 = .ok (.getfield 80, 3) := by decide +kernel
theorem dX8_windows_77 : decode cX8_windows 77 = .ok (.iload_n 3, 1) := by decide +kernel
theorem dX8_windows_78 : decode cX8_windows 78 = .ok (.aload_n 0, 1) := by decide +kernel
theorem dX8_windows_79 : decode cX8_windows 79 = .ok (.getfield 71, 3) := by decide +kernel
theorem dX8_windows_82 : decode cX8_windows 82 = .ok (.iload_n 3, 1) := by decide +kernel
theorem dX8_windows_83 : decode cX8_windows 83 = .ok (.iaload, 1) := by decide +kernel
theorem dX8_windows_84 : decode cX8_windows 84 = .ok (.iastore, 1) := by decide +kernel
theorem dX8_windows_85 : decode cX8_windows 85 = .ok (.aload_n 0, 1) := by decide +kernel
theorem dX8_windows_86 : decode cX8_windows 86 = .ok (.getfield 83, 3) := by decide +kernel
theorem dX8_windows_89 : decode cX8_windows 89 = .ok (.iload_n 3, 1) := by decide +kernel
theorem dX8_windows_90 : decode cX8_windows 90 = .ok (.aload_n 0, 1) := by decide +kernel
theorem dX8_windows_91 : decode cX8_windows 91 = .ok (.getfield 74, 3) := by decide +kernel
theorem dX8_windows_94 : decode cX8_windows 94 = .ok (.iload_n 3, 1) := by decide +kernel
theorem dX8_windows_95 : decode cX8_windows 95 = .ok (.iaload, 1) := by decide +kernel
theorem dX8_windows_96 : decode cX8_windows 96 = .ok (.iastore, 1) := by decide +kernel
theorem dX8_windows_97 : decode cX8_windows 97 = .ok (.aload_n 0, 1) := by decide +kernel
theorem dX8_windows_98 : decode cX8_windows 98 = .ok (.getfield 86, 3) := by decide +kernel
theorem dX8_windows_101 : decode cX8_windows 101 = .ok (.iload_n 3, 1) := by decide +kernel
theorem dX8_windows_102 : decode cX8_windows 102 = .ok (.aload_n 0, 1) := by decide +kernel
theorem dX8_windows_103 : decode cX8_windows 103 = .ok (.getfield 77, 3) := by decide +kernel
theorem dX8_windows_106 : decode cX8_windows 106 = .ok (.iload_n 3, 1) := by decide +kernel
theorem dX8_windows_107 : decode cX8_windows 107 = .ok (.iaload, 1) := by decide +kernel
theorem dX8_windows_108 : decode cX8_windows 108 = .ok (.iastore, 1) := by decide +kernel
theorem dX8_windows_109 : decode cX8_windows 109 = .ok (.iinc 3 1, 3) := by decide +kernel
theorem dX8_windows_112 : decode cX8_windows 112 = .ok (.goto (-45), 3) := by decide +kernel
theorem dX8_windows_115 : decode cX8_windows 115 = .ok (.iload_n 2, 1) := by decide +kernel
theorem dX8_windows_116 : decode cX8_windows 116 = .ok (.ifCond .eq 7, 3) := by decide +kernel
theorem dX8_windows_119 : decode cX8_windows 119 = .ok (.iconst 1, 1) := by decide +kernel
theorem dX8_windows_120 : decode cX8_windows 120 = .ok (.goto 4, 3) := by decide +kernel
theorem dX8_windows_123 : decode cX8_windows 123 = .ok (.iconst 0, 1) := by decide +kernel
theorem dX8_windows_124 : decode cX8_windows 124 = .ok (.ireturn, 1) := by decide +kernel
theorem dX8_window_0 : decode cX8_window 0 = .ok (.aload_n 0, 1) := by decide +kernel
theorem dX8_window_1 : decode cX8_window 1 = .ok (.iload_n 1, 1) := by decide +kernel
theorem dX8_window_2 : decode cX8_window 2 = .ok (.invokevirtual 153, 3) := by decide +kernel
theorem dX8_window_5 : decode cX8_window 5 = .ok (.ifCond .ne 6, 3) := by decide +kernel
theorem dX8_window_8 : decode cX8_window 8 = .ok (.ldc 146, 2) := by decide +kernel
theorem dX8_window_10 : decode cX8_window 10 = .ok (.ireturn, 1) := by decide +kernel
theorem dX8_window_11 : decode cX8_window 11 = .ok (.iload_n 2, 1) := by decide +kernel
theorem dX8_window_12 : decode cX8_window 12 = .ok (.i2l, 1) := by decide +kernel
theorem dX8_window_13 : decode cX8_window 13 = .ok (.lconst 0, 1) := by decide +kernel
theorem dX8_window_14 : decode cX8_window 14 = .ok (.ldc2_w 174, 3) := by decide +kernel
theorem dX8_window_17 : decode cX8_window 17 = .ok (.invokestatic 124, 3) := by decide +kernel
theorem dX8_window_20 : decode cX8_window 20 = .ok (.ifCond .ne 6, 3) := by decide +kernel
theorem dX8_window_23 : decode cX8_window 23 = .ok (.ldc 132, 2) := by decide +kernel
theorem dX8_window_25 : decode cX8_window 25 = .ok (.ireturn, 1) := by decide +kernel
theorem dX8_window_26 : decode cX8_window 26 = .ok (.aload_n 0, 1) := by decide +kernel
theorem dX8_window_27 : decode cX8_window 27 = .ok (.getfield 279, 3) := by decide +kernel
theorem dX8_window_30 : decode cX8_window 30 = .ok (.ifCond .eq 11, 3) := by decide +kernel
theorem dX8_window_33 : decode cX8_window 33 = .ok (.iload_n 1, 1) := by decide +kernel
theorem dX8_window_34 : decode cX8_window 34 = .ok (.aload_n 0, 1) := by decide +kernel
theorem dX8_window_35 : decode cX8_window 35 = .ok (.getfield 282, 3) := by decide +kernel
theorem dX8_window_38 : decode cX8_window 38 = .ok (.if_icmp .lt 5, 3) := by decide +kernel
theorem dX8_window_41 : decode cX8_window 41 = .ok (.iconst (-1), 1) := by decide +kernel
theorem dX8_window_42 : decode cX8_window 42 = .ok (.ireturn, 1) := by decide +kernel
theorem dX8_window_43 : decode cX8_window 43 = .ok (.iconst 0, 1) := by decide +kernel
theorem dX8_window_44 : decode cX8_window 44 = .ok (.istore_n 3, 1) := by decide +kernel
theorem dX8_window_45 : decode cX8_window 45 = .ok (.iconst 0, 1) := by decide +kernel
theorem dX8_window_46 : decode cX8_window 46 = .ok (.istore 4, 2) := by decide +kernel
theorem dX8_window_48 : decode cX8_window 48 = .ok (.iload 4, 2) := by decide +kernel
theorem dX8_window_50 : decode cX8_window 50 = .ok (.aload_n 0, 1) := by decide +kernel
theorem dX8_window_51 : decode cX8_window 51 = .ok (.getfield 282, 3) := by decide +kernel
theorem dX8_window_54 : decode cX8_window 54 = .ok (.if_icmp .ge 23, 3) := by decide +kernel
theorem dX8_window_57 : decode cX8_window 57 = .ok (.iload_n 3, 1) := by decide +kernel
theorem dX8_window_58 : decode cX8_window 58 = .ok (.aload_n 0, 1) := by decide +kernel
theorem dX8_window_59 : decode cX8_window 59 = .ok (.getfield 86, 3) := by decide +kernel
theorem dX8_window_62 : decode cX8_window 62 = .ok (.iload_n 1, 1) := by decide +kernel
theorem dX8_window_63 : decode cX8_window 63 = .ok (.iaload, 1) := by decide +kernel
theorem dX8_window_64 : decode cX8_window 64 = .ok (.iload 4, 2) := by decide +kernel
theorem dX8_window_66 : decode cX8_window 66 = .ok (.iushr, 1) := by decide +kernel
theorem dX8_window_67 : decode cX8_window 67 = .ok (.iconst 1, 1) := by decide +kernel
theorem dX8_window_68 : decode cX8_window 68 = .ok (.iand, 1) := by decide +kernel
theorem dX8_window_69 : decode cX8_window 69 = .ok (.iadd, 1) := by decide +kernel
theorem dX8_window_70 : decode cX8_window 70 = .ok (.istore_n 3, 1) := by decide +kernel
theorem dX8_window_71 : decode cX8_window 71 = .ok (.iinc 4 1, 3) := by decide +kernel
theorem dX8_window_74 : decode cX8_window 74 = .ok (.goto (-26), 3) := by decide +kernel
theorem dX8_window_77 : decode cX8_window 77 = .ok (.iload_n 2, 1) := by decide +kernel
theorem dX8_window_78 : decode cX8_window 78 = .ok (.ifCond .ne 12, 3) := by decide +kernel
theorem dX8_window_81 : decode cX8_window 81 = .ok (.aload_n 0, 1) := by decide +kernel
theorem dX8_window_82 : decode cX8_window 82 = .ok (.getfield 80, 3) := by decide +kernel
theorem dX8_window_85 : decode cX8_window 85 = .ok (.iload_n 1, 1) := by decide +kernel
theorem dX8_window_86 : decode cX8_window 86 = .ok (.iaload, 1) := by decide +kernel
theorem dX8_window_87 : decode cX8_window 87 = .ok (.goto 18, 3) := by decide +kernel
theorem dX8_window_90 : decode cX8_window 90 = .ok (.iload_n 2, 1) := by decide +kernel
theorem dX8_window_91 : decode cX8_window 91 = .ok (.iconst 1, 1) := by decide +kernel
theorem dX8_window_92 : decode cX8_window 92 = .ok (.if_icmp .ne 12, 3) := by decide +kernel
theorem dX8_window_95 : decode cX8_window 95 = .ok (.aload_n 0, 1) := by decide +kernel
theorem dX8_window_96 : decode cX8_window 96 = .ok (.getfield 83, 3) := by decide +kernel
theorem dX8_window_99 : decode cX8_window 99 = .ok (.iload_n 1, 1) := by decide +kernel
theorem dX8_window_100 : decode cX8_window 100 = .ok (.iaload, 1) := by decide +kernel
theorem dX8_window_101 : decode cX8_window 101 = .ok (.goto 4, 3) := by decide +kernel
theorem dX8_window_104 : decode cX8_window 104 = .ok (.iload_n 3, 1) := by decide +kernel
theorem dX8_window_105 : decode cX8_window 105 = .ok (.ireturn, 1) := by decide +kernel
theorem dX8_must_0 : decode cX8_must 0 = .ok (.aload_n 0, 1) := by decide +kernel
theorem dX8_must_1 : decode cX8_must 1 = .ok (.iload_n 1, 1) := by decide +kernel
theorem dX8_must_2 : decode cX8_must 2 = .ok (.invokevirtual 153, 3) := by decide +kernel
theorem dX8_must_5 : decode cX8_must 5 = .ok (.ifCond .eq 11, 3) := by decide +kernel
theorem dX8_must_8 : decode cX8_must 8 = .ok (.aload_n 0, 1) := by decide +kernel
theorem dX8_must_9 : decode cX8_must 9 = .ok (.iload_n 2, 1) := by decide +kernel
theorem dX8_must_10 : decode cX8_must 10 = .ok (.invokevirtual 153, 3) := by decide +kernel
theorem dX8_must_13 : decode cX8_must 13 = .ok (.ifCond .ne 6, 3) := by decide +kernel
theorem dX8_must_16 : decode cX8_must 16 = .ok (.ldc 146, 2) := by decide +kernel
theorem dX8_must_18 : decode cX8_must 18 = .ok (.ireturn, 1) := by decide +kernel
theorem dX8_must_19 : decode cX8_must 19 = .ok (.aload_n 0, 1) := by decide +kernel
theorem dX8_must_20 : decode cX8_must 20 = .ok (.getfield 279, 3) := by decide +kernel
theorem dX8_must_23 : decode cX8_must 23 = .ok (.ifCond .eq 23, 3) := by decide +kernel
theorem dX8_must_26 : decode cX8_must 26 = .ok (.iload_n 1, 1) := by decide +kernel
theorem dX8_must_27 : decode cX8_must 27 = .ok (.aload_n 0, 1) := by decide +kernel
theorem dX8_must_28 : decode cX8_must 28 = .ok (.getfield 282, 3) := by decide +kernel
theorem dX8_must_31 : decode cX8_must 31 = .ok (.if_icmp .ge 15, 3) := by decide +kernel
theorem dX8_must_34 : decode cX8_must 34 = .ok (.iload_n 2, 1) := by decide +kernel
theorem dX8_must_35 : decode cX8_must 35 = .ok (.aload_n 0, 1) := by decide +kernel
theorem dX8_must_36 : decode cX8_must 36 = .ok (.getfield 282, 3) := by decide +kernel
theorem dX8_must_39 : decode cX8_must 39 = .ok (.if_icmp .ge 7, 3) := by decide +kernel
theorem dX8_must_42 : decode cX8_must 42 = .ok (.iconst 1, 1) := by decide +kernel
theorem dX8_must_43 : decode cX8_must 43 = .ok (.goto 4, 3) := by decide +kernel
theorem dX8_must_46 : decode cX8_must 46 = .ok (.iconst 0, 1) := by decide +kernel
theorem dX8_must_47 : decode cX8_must 47 = .ok (.istore_n 3, 1) := by decide +kernel
theorem dX8_must_48 : decode cX8_must 48 = .ok (.iload_n 3, 1) := by decide +kernel
theorem dX8_must_49 : decode cX8_must 49 = .ok (.ifCond .ne 7, 3) := by decide +kernel
theorem dX8_must_52 : decode cX8_must 52 = .ok (.iconst 0, 1) := by decide +kernel
theorem dX8_must_53 : decode cX8_must 53 = .ok (.goto 40, 3) := by decide +kernel
theorem dX8_must_56 : decode cX8_must 56 = .ok (.aload_n 0, 1) := by decide +kernel
theorem dX8_must_57 : decode cX8_must 57 = .ok (.getfield 86, 3) := by decide +kernel
theorem dX8_must_60 : decode cX8_must 60 = .ok (.iload_n 1, 1) := by decide +kernel
theorem dX8_must_61 : decode cX8_must 61 = .ok (.iaload, 1) := by decide +kernel
theorem dX8_must_62 : decode cX8_must 62 = .ok (.iload_n 2, 1) := by decide +kernel
theorem dX8_must_63 : decode cX8_must 63 = .ok (.iushr, 1) := by decide +kernel
theorem dX8_must_64 : decode cX8_must 64 = .ok (.iconst 1, 1) := by decide +kernel
theorem dX8_must_65 : decode cX8_must 65 = .ok (.iand, 1) := by decide +kernel
theorem dX8_must_66 : decode cX8_must 66 = .ok (.iconst 1, 1) := by decide +kernel
theorem dX8_must_67 : decode cX8_must 67 = .ok (.if_icmp .ne 7, 3) := by decide +kernel
theorem dX8_must_70 : decode cX8_must 70 = .ok (.iconst 1, 1) := by decide +kernel
theorem dX8_must_71 : decode cX8_must 71 = .ok (.goto 22, 3) := by decide +kernel
theorem dX8_must_74 : decode cX8_must 74 = .ok (.aload_n 0, 1) := by decide +kernel
theorem dX8_must_75 : decode cX8_must 75 = .ok (.getfield 86, 3) := by decide +kernel
theorem dX8_must_78 : decode cX8_must 78 = .ok (.iload_n 2, 1) := by decide +kernel
theorem dX8_must_79 : decode cX8_must 79 = .ok (.iaload, 1) := by decide +kernel
theorem dX8_must_80 : decode cX8_must 80 = .ok (.iload_n 1, 1) := by decide +kernel
theorem dX8_must_81 : decode cX8_must 81 = .ok (.iushr, 1) := by decide +kernel
theorem dX8_must_82 : decode cX8_must 82 = .ok (.iconst 1, 1) := by decide +kernel
theorem dX8_must_83 : decode cX8_must 83 = .ok (.iand, 1) := by decide +kernel
theorem dX8_must_84 : decode cX8_must 84 = .ok (.iconst 1, 1) := by decide +kernel
theorem dX8_must_85 : decode cX8_must 85 = .ok (.if_icmp .ne 7, 3) := by decide +kernel
theorem dX8_must_88 : decode cX8_must 88 = .ok (.iconst 2, 1) := by decide +kernel
theorem dX8_must_89 : decode cX8_must 89 = .ok (.goto 4, 3) := by decide +kernel
theorem dX8_must_92 : decode cX8_must 92 = .ok (.iconst 0, 1) := by decide +kernel
theorem dX8_must_93 : decode cX8_must 93 = .ok (.ireturn, 1) := by decide +kernel
theorem dX8_gather_0 : decode cX8_gather 0 = .ok (.aload_n 0, 1) := by decide +kernel
theorem dX8_gather_1 : decode cX8_gather 1 = .ok (.iconst 0, 1) := by decide +kernel
theorem dX8_gather_2 : decode cX8_gather 2 = .ok (.putfield 285, 3) := by decide +kernel
theorem dX8_gather_5 : decode cX8_gather 5 = .ok (.iconst 0, 1) := by decide +kernel
theorem dX8_gather_6 : decode cX8_gather 6 = .ok (.istore_n 2, 1) := by decide +kernel
theorem dX8_gather_7 : decode cX8_gather 7 = .ok (.iload_n 2, 1) := by decide +kernel
theorem dX8_gather_8 : decode cX8_gather 8 = .ok (.aload_n 0, 1) := by decide +kernel
theorem dX8_gather_9 : decode cX8_gather 9 = .ok (.getfield 143, 3) := by decide +kernel
theorem dX8_gather_12 : decode cX8_gather 12 = .ok (.if_icmp .ge 123, 3) := by decide +kernel
theorem dX8_gather_15 : decode cX8_gather 15 = .ok (.aload_n 0, 1) := by decide +kernel
theorem dX8_gather_16 : decode cX8_gather 16 = .ok (.getfield 92, 3) := by decide +kernel
theorem dX8_gather_19 : decode cX8_gather 19 = .ok (.iload_n 2, 1) := by decide +kernel
theorem dX8_gather_20 : decode cX8_gather 20 = .ok (.iconst 0, 1) := by decide +kernel
theorem dX8_gather_21 : decode cX8_gather 21 = .ok (.iastore, 1) := by decide +kernel
theorem dX8_gather_22 : decode cX8_gather 22 = .ok (.iconst 0, 1) := by decide +kernel
theorem dX8_gather_23 : decode cX8_gather 23 = .ok (.istore_n 3, 1) := by decide +kernel
theorem dX8_gather_24 : decode cX8_gather 24 = .ok (.iload_n 3, 1) := by decide +kernel
theorem dX8_gather_25 : decode cX8_gather 25 = .ok (.aload_n 0, 1) := by decide +kernel
theorem dX8_gather_26 : decode cX8_gather 26 = .ok (.getfield 34, 3) := by decide +kernel
theorem dX8_gather_29 : decode cX8_gather 29 = .ok (.iload_n 2, 1) := by decide +kernel
theorem dX8_gather_30 : decode cX8_gather 30 = .ok (.iaload, 1) := by decide +kernel
theorem dX8_gather_31 : decode cX8_gather 31 = .ok (.if_icmp .ge 39, 3) := by decide +kernel
theorem dX8_gather_34 : decode cX8_gather 34 = .ok (.aload_n 0, 1) := by decide +kernel
theorem dX8_gather_35 : decode cX8_gather 35 = .ok (.getfield 92, 3) := by decide +kernel
theorem dX8_gather_38 : decode cX8_gather 38 = .ok (.iload_n 2, 1) := by decide +kernel
theorem dX8_gather_39 : decode cX8_gather 39 = .ok (.dup2, 1) := by decide +kernel
theorem dX8_gather_40 : decode cX8_gather 40 = .ok (.iaload, 1) := by decide +kernel
theorem dX8_gather_41 : decode cX8_gather 41 = .ok (.aload_n 0, 1) := by decide +kernel
theorem dX8_gather_42 : decode cX8_gather 42 = .ok (.getfield 31, 3) := by decide +kernel
theorem dX8_gather_45 : decode cX8_gather 45 = .ok (.aload_n 0, 1) := by decide +kernel
theorem dX8_gather_46 : decode cX8_gather 46 = .ok (.getfield 22, 3) := by decide +kernel
theorem dX8_gather_49 : decode cX8_gather 49 = .ok (.bipush 8, 2) := by decide +kernel
theorem dX8_gather_51 : decode cX8_gather 51 = .ok (.aload_n 0, 1) := by decide +kernel
theorem dX8_gather_52 : decode cX8_gather 52 = .ok (.getfield 25, 3) := by decide +kernel
theorem dX8_gather_55 : decode cX8_gather 55 = .ok (.iload_n 2, 1) := by decide +kernel
theorem dX8_gather_56 : decode cX8_gather 56 = .ok (.iaload, 1) := by decide +kernel
theorem dX8_gather_57 : decode cX8_gather 57 = .ok (.imul, 1) := by decide +kernel
theorem dX8_gather_58 : decode cX8_gather 58 = .ok (.iload_n 3, 1) := by decide +kernel
theorem dX8_gather_59 : decode cX8_gather 59 = .ok (.iadd, 1) := by decide +kernel
theorem dX8_gather_60 : decode cX8_gather 60 = .ok (.iaload, 1) := by decide +kernel
theorem dX8_gather_61 : decode cX8_gather 61 = .ok (.iaload, 1) := by decide +kernel
theorem dX8_gather_62 : decode cX8_gather 62 = .ok (.iadd, 1) := by decide +kernel
theorem dX8_gather_63 : decode cX8_gather 63 = .ok (.iastore, 1) := by decide +kernel
theorem dX8_gather_64 : decode cX8_gather 64 = .ok (.iinc 3 1, 3) := by decide +kernel
theorem dX8_gather_67 : decode cX8_gather 67 = .ok (.goto (-43), 3) := by decide +kernel
theorem dX8_gather_70 : decode cX8_gather 70 = .ok (.aload_n 0, 1) := by decide +kernel
theorem dX8_gather_71 : decode cX8_gather 71 = .ok (.getfield 95, 3) := by decide +kernel
theorem dX8_gather_74 : decode cX8_gather 74 = .ok (.iload_n 2, 1) := by decide +kernel
theorem dX8_gather_75 : decode cX8_gather 75 = .ok (.aload_n 0, 1) := by decide +kernel
theorem dX8_gather_76 : decode cX8_gather 76 = .ok (.iload_n 2, 1) := by decide +kernel
theorem dX8_gather_77 : decode cX8_gather 77 = .ok (.invokevirtual 224, 3) := by decide +kernel
theorem dX8_gather_80 : decode cX8_gather 80 = .ok (.aload_n 0, 1) := by decide +kernel
theorem dX8_gather_81 : decode cX8_gather 81 = .ok (.getfield 31, 3) := by decide +kernel
theorem dX8_gather_84 : decode cX8_gather 84 = .ok (.iload_n 2, 1) := by decide +kernel
theorem dX8_gather_85 : decode cX8_gather 85 = .ok (.iaload, 1) := by decide +kernel
theorem dX8_gather_86 : decode cX8_gather 86 = .ok (.isub, 1) := by decide +kernel
theorem dX8_gather_87 : decode cX8_gather 87 = .ok (.iastore, 1) := by decide +kernel
theorem dX8_gather_88 : decode cX8_gather 88 = .ok (.aload_n 0, 1) := by decide +kernel
theorem dX8_gather_89 : decode cX8_gather 89 = .ok (.getfield 98, 3) := by decide +kernel
theorem dX8_gather_92 : decode cX8_gather 92 = .ok (.iload_n 2, 1) := by decide +kernel
theorem dX8_gather_93 : decode cX8_gather 93 = .ok (.aload_n 0, 1) := by decide +kernel
theorem dX8_gather_94 : decode cX8_gather 94 = .ok (.getfield 31, 3) := by decide +kernel
theorem dX8_gather_97 : decode cX8_gather 97 = .ok (.iload_n 2, 1) := by decide +kernel
theorem dX8_gather_98 : decode cX8_gather 98 = .ok (.iaload, 1) := by decide +kernel
theorem dX8_gather_99 : decode cX8_gather 99 = .ok (.iastore, 1) := by decide +kernel
theorem dX8_gather_100 : decode cX8_gather 100 = .ok (.aload_n 0, 1) := by decide +kernel
theorem dX8_gather_101 : decode cX8_gather 101 = .ok (.iload_n 2, 1) := by decide +kernel
theorem dX8_gather_102 : decode cX8_gather 102 = .ok (.iload_n 1, 1) := by decide +kernel
theorem dX8_gather_103 : decode cX8_gather 103 = .ok (.invokevirtual 248, 3) := by decide +kernel
theorem dX8_gather_106 : decode cX8_gather 106 = .ok (.ifCond .eq 23, 3) := by decide +kernel
theorem dX8_gather_109 : decode cX8_gather 109 = .ok (.aload_n 0, 1) := by decide +kernel
theorem dX8_gather_110 : decode cX8_gather 110 = .ok (.getfield 89, 3) := by decide +kernel
theorem dX8_gather_113 : decode cX8_gather 113 = .ok (.aload_n 0, 1) := by decide +kernel
theorem dX8_gather_114 : decode cX8_gather 114 = .ok (.getfield 285, 3) := by decide +kernel
theorem dX8_gather_117 : decode cX8_gather 117 = .ok (.iload_n 2, 1) := by decide +kernel
theorem dX8_gather_118 : decode cX8_gather 118 = .ok (.iastore, 1) := by decide +kernel
theorem dX8_gather_119 : decode cX8_gather 119 = .ok (.aload_n 0, 1) := by decide +kernel
theorem dX8_gather_120 : decode cX8_gather 120 = .ok (.dup, 1) := by decide +kernel
theorem dX8_gather_121 : decode cX8_gather 121 = .ok (.getfield 285, 3) := by decide +kernel
theorem dX8_gather_124 : decode cX8_gather 124 = .ok (.iconst 1, 1) := by decide +kernel
theorem dX8_gather_125 : decode cX8_gather 125 = .ok (.iadd, 1) := by decide +kernel
theorem dX8_gather_126 : decode cX8_gather 126 = .ok (.putfield 285, 3) := by decide +kernel
theorem dX8_gather_129 : decode cX8_gather 129 = .ok (.iinc 2 1, 3) := by decide +kernel
theorem dX8_gather_132 : decode cX8_gather 132 = .ok (.goto (-125), 3) := by decide +kernel
theorem dX8_gather_135 : decode cX8_gather 135 = .ok (.return_, 1) := by decide +kernel
theorem dX8_cutBound_0 : decode cX8_cutBound 0 = .ok (.iconst 0, 1) := by decide +kernel
theorem dX8_cutBound_1 : decode cX8_cutBound 1 = .ok (.istore_n 1, 1) := by decide +kernel
theorem dX8_cutBound_2 : decode cX8_cutBound 2 = .ok (.iconst 0, 1) := by decide +kernel
theorem dX8_cutBound_3 : decode cX8_cutBound 3 = .ok (.istore_n 2, 1) := by decide +kernel
theorem dX8_cutBound_4 : decode cX8_cutBound 4 = .ok (.aload_n 0, 1) := by decide +kernel
theorem dX8_cutBound_5 : decode cX8_cutBound 5 = .ok (.getfield 285, 3) := by decide +kernel
theorem dX8_cutBound_8 : decode cX8_cutBound 8 = .ok (.istore_n 3, 1) := by decide +kernel
theorem dX8_cutBound_9 : decode cX8_cutBound 9 = .ok (.iload_n 3, 1) := by decide +kernel
theorem dX8_cutBound_10 : decode cX8_cutBound 10 = .ok (.ifCond .le 230, 3) := by decide +kernel
theorem dX8_cutBound_13 : decode cX8_cutBound 13 = .ok (.iconst (-1), 1) := by decide +kernel
theorem dX8_cutBound_14 : decode cX8_cutBound 14 = .ok (.istore 4, 2) := by decide +kernel
theorem dX8_cutBound_16 : decode cX8_cutBound 16 = .ok (.ldc_w 288, 3) := by decide +kernel
theorem dX8_cutBound_19 : decode cX8_cutBound 19 = .ok (.istore 5, 2) := by decide +kernel
theorem dX8_cutBound_21 : decode cX8_cutBound 21 = .ok (.iconst 0, 1) := by decide +kernel
theorem dX8_cutBound_22 : decode cX8_cutBound 22 = .ok (.istore 6, 2) := by decide +kernel
theorem dX8_cutBound_24 : decode cX8_cutBound 24 = .ok (.iload 6, 2) := by decide +kernel
theorem dX8_cutBound_26 : decode cX8_cutBound 26 = .ok (.aload_n 0, 1) := by decide +kernel
theorem dX8_cutBound_27 : decode cX8_cutBound 27 = .ok (.getfield 285, 3) := by decide +kernel
theorem dX8_cutBound_30 : decode cX8_cutBound 30 = .ok (.if_icmp .ge 109, 3) := by decide +kernel
theorem dX8_cutBound_33 : decode cX8_cutBound 33 = .ok (.aload_n 0, 1) := by decide +kernel
theorem dX8_cutBound_34 : decode cX8_cutBound 34 = .ok (.getfield 89, 3) := by decide +kernel
theorem dX8_cutBound_37 : decode cX8_cutBound 37 = .ok (.iload 6, 2) := by decide +kernel
theorem dX8_cutBound_39 : decode cX8_cutBound 39 = .ok (.iaload, 1) := by decide +kernel
theorem dX8_cutBound_40 : decode cX8_cutBound 40 = .ok (.istore 7, 2) := by decide +kernel
theorem dX8_cutBound_42 : decode cX8_cutBound 42 = .ok (.aload_n 0, 1) := by decide +kernel
theorem dX8_cutBound_43 : decode cX8_cutBound 43 = .ok (.getfield 98, 3) := by decide +kernel
theorem dX8_cutBound_46 : decode cX8_cutBound 46 = .ok (.iload 7, 2) := by decide +kernel
theorem dX8_cutBound_48 : decode cX8_cutBound 48 = .ok (.iaload, 1) := by decide +kernel
theorem dX8_cutBound_49 : decode cX8_cutBound 49 = .ok (.ifCond .le 48, 3) := by decide +kernel
theorem dX8_cutBound_52 : decode cX8_cutBound 52 = .ok (.aload_n 0, 1) := by decide +kernel
theorem dX8_cutBound_53 : decode cX8_cutBound 53 = .ok (.getfield 92, 3) := by decide +kernel
theorem dX8_cutBound_56 : decode cX8_cutBound 56 = .ok (.iload 7, 2) := by decide +kernel
theorem dX8_cutBound_58 : decode cX8_cutBound 58 = .ok (.iaload, 1) := by decide +kernel
theorem dX8_cutBound_59 : decode cX8_cutBound 59 = .ok (.iload_n 1, 1) := by decide +kernel
theorem dX8_cutBound_60 : decode cX8_cutBound 60 = .ok (.if_icmp .gt 37, 3) := by decide +kernel
theorem dX8_cutBound_63 : decode cX8_cutBound 63 = .ok (.iload 4, 2) := by decide +kernel
theorem dX8_cutBound_65 : decode cX8_cutBound 65 = .ok (.ifCond .lt 20, 3) := by decide +kernel
theorem dX8_cutBound_68 : decode cX8_cutBound 68 = .ok (.aload_n 0, 1) := by decide +kernel
theorem dX8_cutBound_69 : decode cX8_cutBound 69 = .ok (.getfield 95, 3) := by decide +kernel
theorem dX8_cutBound_72 : decode cX8_cutBound 72 = .ok (.iload 7, 2) := by decide +kernel
theorem dX8_cutBound_74 : decode cX8_cutBound 74 = .ok (.iaload, 1) := by decide +kernel
theorem dX8_cutBound_75 : decode cX8_cutBound 75 = .ok (.aload_n 0, 1) := by decide +kernel
theorem dX8_cutBound_76 : decode cX8_cutBound 76 = .ok (.getfield 95, 3) := by decide +kernel
theorem dX8_cutBound_79 : decode cX8_cutBound 79 = .ok (.iload 4, 2) := by decide +kernel
theorem dX8_cutBound_81 : decode cX8_cutBound 81 = .ok (.iaload, 1) := by decide +kernel
theorem dX8_cutBound_82 : decode cX8_cutBound 82 = .ok (.if_icmp .le 8, 3) := by decide +kernel
theorem dX8_cutBound_85 : decode cX8_cutBound 85 = .ok (.iload 7, 2) := by decide +kernel
theorem dX8_cutBound_87 : decode cX8_cutBound 87 = .ok (.goto 5, 3) := by decide +kernel
theorem dX8_cutBound_90 : decode cX8_cutBound 90 = .ok (.iload 4, 2) := by decide +kernel
theorem dX8_cutBound_92 : decode cX8_cutBound 92 = .ok (.istore 4, 2) := by decide +kernel
theorem dX8_cutBound_94 : decode cX8_cutBound 94 = .ok (.goto 39, 3) := by decide +kernel
theorem dX8_cutBound_97 : decode cX8_cutBound 97 = .ok (.aload_n 0, 1) := by decide +kernel
theorem dX8_cutBound_98 : decode cX8_cutBound 98 = .ok (.getfield 98, 3) := by decide +kernel
theorem dX8_cutBound_101 : decode cX8_cutBound 101 = .ok (.iload 7, 2) := by decide +kernel
theorem dX8_cutBound_103 : decode cX8_cutBound 103 = .ok (.iaload, 1) := by decide +kernel
theorem dX8_cutBound_104 : decode cX8_cutBound 104 = .ok (.ifCond .le 29, 3) := by decide +kernel
theorem dX8_cutBound_107 : decode cX8_cutBound 107 = .ok (.aload_n 0, 1) := by decide +kernel
theorem dX8_cutBound_108 : decode cX8_cutBound 108 = .ok (.getfield 92, 3) := by decide +kernel
theorem dX8_cutBound_111 : decode cX8_cutBound 111 = .ok (.iload 7, 2) := by decide +kernel
theorem dX8_cutBound_113 : decode cX8_cutBound 113 = .ok (.iaload, 1) := by decide +kernel
theorem dX8_cutBound_114 : decode cX8_cutBound 114 = .ok (.iload 5, 2) := by decide +kernel
theorem dX8_cutBound_116 : decode cX8_cutBound 116 = .ok (.if_icmp .ge 13, 3) := by decide +kernel
theorem dX8_cutBound_119 : decode cX8_cutBound 119 = .ok (.aload_n 0, 1) := by decide +kernel
theorem dX8_cutBound_120 : decode cX8_cutBound 120 = .ok (.getfield 92, 3) := by decide +kernel
theorem dX8_cutBound_123 : decode cX8_cutBound 123 = .ok (.iload 7, 2) := by decide +kernel
theorem dX8_cutBound_125 : decode cX8_cutBound 125 = .ok (.iaload, 1) := by decide +kernel
theorem dX8_cutBound_126 : decode cX8_cutBound 126 = .ok (.goto 5, 3) := by decide +kernel
theorem dX8_cutBound_129 : decode cX8_cutBound 129 = .ok (.iload 5, 2) := by decide +kernel
theorem dX8_cutBound_131 : decode cX8_cutBound 131 = .ok (.istore 5, 2) := by decide +kernel
theorem dX8_cutBound_133 : decode cX8_cutBound 133 = .ok (.iinc 6 1, 3) := by decide +kernel
theorem dX8_cutBound_136 : decode cX8_cutBound 136 = .ok (.goto (-112), 3) := by decide +kernel
theorem dX8_cutBound_139 : decode cX8_cutBound 139 = .ok (.iload 4, 2) := by decide +kernel
theorem dX8_cutBound_141 : decode cX8_cutBound 141 = .ok (.ifCond .ge 9, 3) := by decide +kernel
theorem dX8_cutBound_144 : decode cX8_cutBound 144 = .ok (.iload 5, 2) := by decide +kernel
theorem dX8_cutBound_146 : decode cX8_cutBound 146 = .ok (.istore_n 1, 1) := by decide +kernel
theorem dX8_cutBound_147 : decode cX8_cutBound 147 = .ok (.goto (-138), 3) := by decide +kernel
theorem dX8_cutBound_150 : decode cX8_cutBound 150 = .ok (.iload_n 1, 1) := by decide +kernel
theorem dX8_cutBound_151 : decode cX8_cutBound 151 = .ok (.aload_n 0, 1) := by decide +kernel
theorem dX8_cutBound_152 : decode cX8_cutBound 152 = .ok (.getfield 98, 3) := by decide +kernel
theorem dX8_cutBound_155 : decode cX8_cutBound 155 = .ok (.iload 4, 2) := by decide +kernel
theorem dX8_cutBound_157 : decode cX8_cutBound 157 = .ok (.iaload, 1) := by decide +kernel
theorem dX8_cutBound_158 : decode cX8_cutBound 158 = .ok (.iadd, 1) := by decide +kernel
theorem dX8_cutBound_159 : decode cX8_cutBound 159 = .ok (.iload 5, 2) := by decide +kernel
theorem dX8_cutBound_161 : decode cX8_cutBound 161 = .ok (.if_icmp .ge 15, 3) := by decide +kernel
theorem dX8_cutBound_164 : decode cX8_cutBound 164 = .ok (.iload_n 1, 1) := by decide +kernel
theorem dX8_cutBound_165 : decode cX8_cutBound 165 = .ok (.aload_n 0, 1) := by decide +kernel
theorem dX8_cutBound_166 : decode cX8_cutBound 166 = .ok (.getfield 98, 3) := by decide +kernel
theorem dX8_cutBound_169 : decode cX8_cutBound 169 = .ok (.iload 4, 2) := by decide +kernel
theorem dX8_cutBound_171 : decode cX8_cutBound 171 = .ok (.iaload, 1) := by decide +kernel
theorem dX8_cutBound_172 : decode cX8_cutBound 172 = .ok (.iadd, 1) := by decide +kernel
theorem dX8_cutBound_173 : decode cX8_cutBound 173 = .ok (.goto 5, 3) := by decide +kernel
theorem dX8_cutBound_176 : decode cX8_cutBound 176 = .ok (.iload 5, 2) := by decide +kernel
theorem dX8_cutBound_178 : decode cX8_cutBound 178 = .ok (.istore 6, 2) := by decide +kernel
theorem dX8_cutBound_180 : decode cX8_cutBound 180 = .ok (.aload_n 0, 1) := by decide +kernel
theorem dX8_cutBound_181 : decode cX8_cutBound 181 = .ok (.getfield 98, 3) := by decide +kernel
theorem dX8_cutBound_184 : decode cX8_cutBound 184 = .ok (.iload 4, 2) := by decide +kernel
theorem dX8_cutBound_186 : decode cX8_cutBound 186 = .ok (.dup2, 1) := by decide +kernel
theorem dX8_cutBound_187 : decode cX8_cutBound 187 = .ok (.iaload, 1) := by decide +kernel
theorem dX8_cutBound_188 : decode cX8_cutBound 188 = .ok (.iload 6, 2) := by decide +kernel
theorem dX8_cutBound_190 : decode cX8_cutBound 190 = .ok (.iload_n 1, 1) := by decide +kernel
theorem dX8_cutBound_191 : decode cX8_cutBound 191 = .ok (.isub, 1) := by decide +kernel
theorem dX8_cutBound_192 : decode cX8_cutBound 192 = .ok (.isub, 1) := by decide +kernel
theorem dX8_cutBound_193 : decode cX8_cutBound 193 = .ok (.iastore, 1) := by decide +kernel
theorem dX8_cutBound_194 : decode cX8_cutBound 194 = .ok (.iload 6, 2) := by decide +kernel
theorem dX8_cutBound_196 : decode cX8_cutBound 196 = .ok (.istore_n 1, 1) := by decide +kernel
theorem dX8_cutBound_197 : decode cX8_cutBound 197 = .ok (.aload_n 0, 1) := by decide +kernel
theorem dX8_cutBound_198 : decode cX8_cutBound 198 = .ok (.getfield 98, 3) := by decide +kernel
theorem dX8_cutBound_201 : decode cX8_cutBound 201 = .ok (.iload 4, 2) := by decide +kernel
theorem dX8_cutBound_203 : decode cX8_cutBound 203 = .ok (.iaload, 1) := by decide +kernel
theorem dX8_cutBound_204 : decode cX8_cutBound 204 = .ok (.ifCond .ne 33, 3) := by decide +kernel
theorem dX8_cutBound_207 : decode cX8_cutBound 207 = .ok (.iinc 3 (-1), 3) := by decide +kernel
theorem dX8_cutBound_210 : decode cX8_cutBound 210 = .ok (.iload_n 1, 1) := by decide +kernel
theorem dX8_cutBound_211 : decode cX8_cutBound 211 = .ok (.aload_n 0, 1) := by decide +kernel
theorem dX8_cutBound_212 : decode cX8_cutBound 212 = .ok (.getfield 95, 3) := by decide +kernel
theorem dX8_cutBound_215 : decode cX8_cutBound 215 = .ok (.iload 4, 2) := by decide +kernel
theorem dX8_cutBound_217 : decode cX8_cutBound 217 = .ok (.iaload, 1) := by decide +kernel
theorem dX8_cutBound_218 : decode cX8_cutBound 218 = .ok (.iadd, 1) := by decide +kernel
theorem dX8_cutBound_219 : decode cX8_cutBound 219 = .ok (.iload_n 2, 1) := by decide +kernel
theorem dX8_cutBound_220 : decode cX8_cutBound 220 = .ok (.if_icmp .le 15, 3) := by decide +kernel
theorem dX8_cutBound_223 : decode cX8_cutBound 223 = .ok (.iload_n 1, 1) := by decide +kernel
theorem dX8_cutBound_224 : decode cX8_cutBound 224 = .ok (.aload_n 0, 1) := by decide +kernel
theorem dX8_cutBound_225 : decode cX8_cutBound 225 = .ok (.getfield 95, 3) := by decide +kernel
theorem dX8_cutBound_228 : decode cX8_cutBound 228 = .ok (.iload 4, 2) := by decide +kernel
theorem dX8_cutBound_230 : decode cX8_cutBound 230 = .ok (.iaload, 1) := by decide +kernel
theorem dX8_cutBound_231 : decode cX8_cutBound 231 = .ok (.iadd, 1) := by decide +kernel
theorem dX8_cutBound_232 : decode cX8_cutBound 232 = .ok (.goto 4, 3) := by decide +kernel
theorem dX8_cutBound_235 : decode cX8_cutBound 235 = .ok (.iload_n 2, 1) := by decide +kernel
theorem dX8_cutBound_236 : decode cX8_cutBound 236 = .ok (.istore_n 2, 1) := by decide +kernel
theorem dX8_cutBound_237 : decode cX8_cutBound 237 = .ok (.goto (-228), 3) := by decide +kernel
theorem dX8_cutBound_240 : decode cX8_cutBound 240 = .ok (.iload_n 2, 1) := by decide +kernel
theorem dX8_cutBound_241 : decode cX8_cutBound 241 = .ok (.ireturn, 1) := by decide +kernel
theorem dX8_wholeBound_0 : decode cX8_wholeBound 0 = .ok (.ldc_w 289, 3) := by decide +kernel
theorem dX8_wholeBound_3 : decode cX8_wholeBound 3 = .ok (.istore_n 1, 1) := by decide +kernel
theorem dX8_wholeBound_4 : decode cX8_wholeBound 4 = .ok (.iconst 0, 1) := by decide +kernel
theorem dX8_wholeBound_5 : decode cX8_wholeBound 5 = .ok (.istore_n 2, 1) := by decide +kernel
theorem dX8_wholeBound_6 : decode cX8_wholeBound 6 = .ok (.iconst 0, 1) := by decide +kernel
theorem dX8_wholeBound_7 : decode cX8_wholeBound 7 = .ok (.istore_n 3, 1) := by decide +kernel
theorem dX8_wholeBound_8 : decode cX8_wholeBound 8 = .ok (.aload_n 0, 1) := by decide +kernel
theorem dX8_wholeBound_9 : decode cX8_wholeBound 9 = .ok (.getfield 101, 3) := by decide +kernel
theorem dX8_wholeBound_12 : decode cX8_wholeBound 12 = .ok (.iconst 0, 1) := by decide +kernel
theorem dX8_wholeBound_13 : decode cX8_wholeBound 13 = .ok (.iconst (-1), 1) := by decide +kernel
theorem dX8_wholeBound_14 : decode cX8_wholeBound 14 = .ok (.iastore, 1) := by decide +kernel
theorem dX8_wholeBound_15 : decode cX8_wholeBound 15 = .ok (.aload_n 0, 1) := by decide +kernel
theorem dX8_wholeBound_16 : decode cX8_wholeBound 16 = .ok (.getfield 104, 3) := by decide +kernel
theorem dX8_wholeBound_19 : decode cX8_wholeBound 19 = .ok (.iconst 0, 1) := by decide +kernel
theorem dX8_wholeBound_20 : decode cX8_wholeBound 20 = .ok (.iconst 0, 1) := by decide +kernel
theorem dX8_wholeBound_21 : decode cX8_wholeBound 21 = .ok (.iastore, 1) := by decide +kernel
theorem dX8_wholeBound_22 : decode cX8_wholeBound 22 = .ok (.aload_n 0, 1) := by decide +kernel
theorem dX8_wholeBound_23 : decode cX8_wholeBound 23 = .ok (.getfield 107, 3) := by decide +kernel
theorem dX8_wholeBound_26 : decode cX8_wholeBound 26 = .ok (.iconst 0, 1) := by decide +kernel
theorem dX8_wholeBound_27 : decode cX8_wholeBound 27 = .ok (.iconst 0, 1) := by decide +kernel
theorem dX8_wholeBound_28 : decode cX8_wholeBound 28 = .ok (.iastore, 1) := by decide +kernel
theorem dX8_wholeBound_29 : decode cX8_wholeBound 29 = .ok (.iload_n 2, 1) := by decide +kernel
theorem dX8_wholeBound_30 : decode cX8_wholeBound 30 = .ok (.ifCond .lt 255, 3) := by decide +kernel
theorem dX8_wholeBound_33 : decode cX8_wholeBound 33 = .ok (.iload_n 2, 1) := by decide +kernel
theorem dX8_wholeBound_34 : decode cX8_wholeBound 34 = .ok (.aload_n 0, 1) := by decide +kernel
theorem dX8_wholeBound_35 : decode cX8_wholeBound 35 = .ok (.getfield 285, 3) := by decide +kernel
theorem dX8_wholeBound_38 : decode cX8_wholeBound 38 = .ok (.if_icmp .ne 30, 3) := by decide +kernel
theorem dX8_wholeBound_41 : decode cX8_wholeBound 41 = .ok (.aload_n 0, 1) := by decide +kernel
theorem dX8_wholeBound_42 : decode cX8_wholeBound 42 = .ok (.getfield 107, 3) := by decide +kernel
theorem dX8_wholeBound_45 : decode cX8_wholeBound 45 = .ok (.iload_n 2, 1) := by decide +kernel
theorem dX8_wholeBound_46 : decode cX8_wholeBound 46 = .ok (.iaload, 1) := by decide +kernel
theorem dX8_wholeBound_47 : decode cX8_wholeBound 47 = .ok (.iload_n 1, 1) := by decide +kernel
theorem dX8_wholeBound_48 : decode cX8_wholeBound 48 = .ok (.if_icmp .ge 12, 3) := by decide +kernel
theorem dX8_wholeBound_51 : decode cX8_wholeBound 51 = .ok (.aload_n 0, 1) := by decide +kernel
theorem dX8_wholeBound_52 : decode cX8_wholeBound 52 = .ok (.getfield 107, 3) := by decide +kernel
theorem dX8_wholeBound_55 : decode cX8_wholeBound 55 = .ok (.iload_n 2, 1) := by decide +kernel
theorem dX8_wholeBound_56 : decode cX8_wholeBound 56 = .ok (.iaload, 1) := by decide +kernel
theorem dX8_wholeBound_57 : decode cX8_wholeBound 57 = .ok (.goto 4, 3) := by decide +kernel
theorem dX8_wholeBound_60 : decode cX8_wholeBound 60 = .ok (.iload_n 1, 1) := by decide +kernel
theorem dX8_wholeBound_61 : decode cX8_wholeBound 61 = .ok (.istore_n 1, 1) := by decide +kernel
theorem dX8_wholeBound_62 : decode cX8_wholeBound 62 = .ok (.iinc 2 (-1), 3) := by decide +kernel
theorem dX8_wholeBound_65 : decode cX8_wholeBound 65 = .ok (.goto (-36), 3) := by decide +kernel
theorem dX8_wholeBound_68 : decode cX8_wholeBound 68 = .ok (.aload_n 0, 1) := by decide +kernel
theorem dX8_wholeBound_69 : decode cX8_wholeBound 69 = .ok (.getfield 101, 3) := by decide +kernel
theorem dX8_wholeBound_72 : decode cX8_wholeBound 72 = .ok (.iload_n 2, 1) := by decide +kernel
theorem dX8_wholeBound_73 : decode cX8_wholeBound 73 = .ok (.iaload, 1) := by decide +kernel
theorem dX8_wholeBound_74 : decode cX8_wholeBound 74 = .ok (.ifCond .lt 16, 3) := by decide +kernel
theorem dX8_wholeBound_77 : decode cX8_wholeBound 77 = .ok (.iload_n 3, 1) := by decide +kernel
theorem dX8_wholeBound_78 : decode cX8_wholeBound 78 = .ok (.iconst 1, 1) := by decide +kernel
theorem dX8_wholeBound_79 : decode cX8_wholeBound 79 = .ok (.aload_n 0, 1) := by decide +kernel
theorem dX8_wholeBound_80 : decode cX8_wholeBound 80 = .ok (.getfield 101, 3) := by decide +kernel
theorem dX8_wholeBound_83 : decode cX8_wholeBound 83 = .ok (.iload_n 2, 1) := by decide +kernel
theorem dX8_wholeBound_84 : decode cX8_wholeBound 84 = .ok (.iaload, 1) := by decide +kernel
theorem dX8_wholeBound_85 : decode cX8_wholeBound 85 = .ok (.ishl, 1) := by decide +kernel
theorem dX8_wholeBound_86 : decode cX8_wholeBound 86 = .ok (.iconst (-1), 1) := by decide +kernel
theorem dX8_wholeBound_87 : decode cX8_wholeBound 87 = .ok (.ixor, 1) := by decide +kernel
theorem dX8_wholeBound_88 : decode cX8_wholeBound 88 = .ok (.iand, 1) := by decide +kernel
theorem dX8_wholeBound_89 : decode cX8_wholeBound 89 = .ok (.istore_n 3, 1) := by decide +kernel
theorem dX8_wholeBound_90 : decode cX8_wholeBound 90 = .ok (.aload_n 0, 1) := by decide +kernel
theorem dX8_wholeBound_91 : decode cX8_wholeBound 91 = .ok (.getfield 101, 3) := by decide +kernel
theorem dX8_wholeBound_94 : decode cX8_wholeBound 94 = .ok (.iload_n 2, 1) := by decide +kernel
theorem dX8_wholeBound_95 : decode cX8_wholeBound 95 = .ok (.iaload, 1) := by decide +kernel
theorem dX8_wholeBound_96 : decode cX8_wholeBound 96 = .ok (.iconst 1, 1) := by decide +kernel
theorem dX8_wholeBound_97 : decode cX8_wholeBound 97 = .ok (.iadd, 1) := by decide +kernel
theorem dX8_wholeBound_98 : decode cX8_wholeBound 98 = .ok (.istore 4, 2) := by decide +kernel
theorem dX8_wholeBound_100 : decode cX8_wholeBound 100 = .ok (.iload 4, 2) := by decide +kernel
theorem dX8_wholeBound_102 : decode cX8_wholeBound 102 = .ok (.aload_n 0, 1) := by decide +kernel
theorem dX8_wholeBound_103 : decode cX8_wholeBound 103 = .ok (.getfield 285, 3) := by decide +kernel
theorem dX8_wholeBound_106 : decode cX8_wholeBound 106 = .ok (.if_icmp .ge 19, 3) := by decide +kernel
theorem dX8_wholeBound_109 : decode cX8_wholeBound 109 = .ok (.iload_n 3, 1) := by decide +kernel
theorem dX8_wholeBound_110 : decode cX8_wholeBound 110 = .ok (.iload 4, 2) := by decide +kernel
theorem dX8_wholeBound_112 : decode cX8_wholeBound 112 = .ok (.iushr, 1) := by decide +kernel
theorem dX8_wholeBound_113 : decode cX8_wholeBound 113 = .ok (.iconst 1, 1) := by decide +kernel
theorem dX8_wholeBound_114 : decode cX8_wholeBound 114 = .ok (.iand, 1) := by decide +kernel
theorem dX8_wholeBound_115 : decode cX8_wholeBound 115 = .ok (.iconst 1, 1) := by decide +kernel
theorem dX8_wholeBound_116 : decode cX8_wholeBound 116 = .ok (.if_icmp .ne 9, 3) := by decide +kernel
theorem dX8_wholeBound_119 : decode cX8_wholeBound 119 = .ok (.iinc 4 1, 3) := by decide +kernel
theorem dX8_wholeBound_122 : decode cX8_wholeBound 122 = .ok (.goto (-22), 3) := by decide +kernel
theorem dX8_wholeBound_125 : decode cX8_wholeBound 125 = .ok (.iload 4, 2) := by decide +kernel
theorem dX8_wholeBound_127 : decode cX8_wholeBound 127 = .ok (.aload_n 0, 1) := by decide +kernel
theorem dX8_wholeBound_128 : decode cX8_wholeBound 128 = .ok (.getfield 285, 3) := by decide +kernel
theorem dX8_wholeBound_131 : decode cX8_wholeBound 131 = .ok (.if_icmp .lt 9, 3) := by decide +kernel
theorem dX8_wholeBound_134 : decode cX8_wholeBound 134 = .ok (.iinc 2 (-1), 3) := by decide +kernel
theorem dX8_wholeBound_137 : decode cX8_wholeBound 137 = .ok (.goto (-108), 3) := by decide +kernel
theorem dX8_wholeBound_140 : decode cX8_wholeBound 140 = .ok (.aload_n 0, 1) := by decide +kernel
theorem dX8_wholeBound_141 : decode cX8_wholeBound 141 = .ok (.getfield 101, 3) := by decide +kernel
theorem dX8_wholeBound_144 : decode cX8_wholeBound 144 = .ok (.iload_n 2, 1) := by decide +kernel
theorem dX8_wholeBound_145 : decode cX8_wholeBound 145 = .ok (.iload 4, 2) := by decide +kernel
theorem dX8_wholeBound_147 : decode cX8_wholeBound 147 = .ok (.iastore, 1) := by decide +kernel
theorem dX8_wholeBound_148 : decode cX8_wholeBound 148 = .ok (.aload_n 0, 1) := by decide +kernel
theorem dX8_wholeBound_149 : decode cX8_wholeBound 149 = .ok (.getfield 89, 3) := by decide +kernel
theorem dX8_wholeBound_152 : decode cX8_wholeBound 152 = .ok (.iload 4, 2) := by decide +kernel
theorem dX8_wholeBound_154 : decode cX8_wholeBound 154 = .ok (.iaload, 1) := by decide +kernel
theorem dX8_wholeBound_155 : decode cX8_wholeBound 155 = .ok (.istore 5, 2) := by decide +kernel
theorem dX8_wholeBound_157 : decode cX8_wholeBound 157 = .ok (.aload_n 0, 1) := by decide +kernel
theorem dX8_wholeBound_158 : decode cX8_wholeBound 158 = .ok (.getfield 104, 3) := by decide +kernel
theorem dX8_wholeBound_161 : decode cX8_wholeBound 161 = .ok (.iload_n 2, 1) := by decide +kernel
theorem dX8_wholeBound_162 : decode cX8_wholeBound 162 = .ok (.iaload, 1) := by decide +kernel
theorem dX8_wholeBound_163 : decode cX8_wholeBound 163 = .ok (.aload_n 0, 1) := by decide +kernel
theorem dX8_wholeBound_164 : decode cX8_wholeBound 164 = .ok (.getfield 92, 3) := by decide +kernel
theorem dX8_wholeBound_167 : decode cX8_wholeBound 167 = .ok (.iload 5, 2) := by decide +kernel
theorem dX8_wholeBound_169 : decode cX8_wholeBound 169 = .ok (.iaload, 1) := by decide +kernel
theorem dX8_wholeBound_170 : decode cX8_wholeBound 170 = .ok (.if_icmp .le 12, 3) := by decide +kernel
theorem dX8_wholeBound_173 : decode cX8_wholeBound 173 = .ok (.aload_n 0, 1) := by decide +kernel
theorem dX8_wholeBound_174 : decode cX8_wholeBound 174 = .ok (.getfield 104, 3) := by decide +kernel
theorem dX8_wholeBound_177 : decode cX8_wholeBound 177 = .ok (.iload_n 2, 1) := by decide +kernel
theorem dX8_wholeBound_178 : decode cX8_wholeBound 178 = .ok (.iaload, 1) := by decide +kernel
theorem dX8_wholeBound_179 : decode cX8_wholeBound 179 = .ok (.goto 10, 3) := by decide +kernel
theorem dX8_wholeBound_182 : decode cX8_wholeBound 182 = .ok (.aload_n 0, 1) := by decide +kernel
theorem dX8_wholeBound_183 : decode cX8_wholeBound 183 = .ok (.getfield 92, 3) := by decide +kernel
theorem dX8_wholeBound_186 : decode cX8_wholeBound 186 = .ok (.iload 5, 2) := by decide +kernel
theorem dX8_wholeBound_188 : decode cX8_wholeBound 188 = .ok (.iaload, 1) := by decide +kernel
theorem dX8_wholeBound_189 : decode cX8_wholeBound 189 = .ok (.istore 6, 2) := by decide +kernel
theorem dX8_wholeBound_191 : decode cX8_wholeBound 191 = .ok (.iload 6, 2) := by decide +kernel
theorem dX8_wholeBound_193 : decode cX8_wholeBound 193 = .ok (.aload_n 0, 1) := by decide +kernel
theorem dX8_wholeBound_194 : decode cX8_wholeBound 194 = .ok (.getfield 31, 3) := by decide +kernel
theorem dX8_wholeBound_197 : decode cX8_wholeBound 197 = .ok (.iload 5, 2) := by decide +kernel
theorem dX8_wholeBound_199 : decode cX8_wholeBound 199 = .ok (.iaload, 1) := by decide +kernel
theorem dX8_wholeBound_200 : decode cX8_wholeBound 200 = .ok (.iadd, 1) := by decide +kernel
theorem dX8_wholeBound_201 : decode cX8_wholeBound 201 = .ok (.istore 7, 2) := by decide +kernel
theorem dX8_wholeBound_203 : decode cX8_wholeBound 203 = .ok (.iload 7, 2) := by decide +kernel
theorem dX8_wholeBound_205 : decode cX8_wholeBound 205 = .ok (.aload_n 0, 1) := by decide +kernel
