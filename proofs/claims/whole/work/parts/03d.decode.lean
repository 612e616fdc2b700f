theorem dX8_sumOfSpans_2 : decode cX8_sumOfSpans 2 = .ok (.iconst 0, 1) := by decide +kernel
theorem dX8_sumOfSpans_3 : decode cX8_sumOfSpans 3 = .ok (.istore_n 2, 1) := by decide +kernel
theorem dX8_sumOfSpans_4 : decode cX8_sumOfSpans 4 = .ok (.iload_n 2, 1) := by decide +kernel
theorem dX8_sumOfSpans_5 : decode cX8_sumOfSpans 5 = .ok (.aload_n 0, 1) := by decide +kernel
theorem dX8_sumOfSpans_6 : decode cX8_sumOfSpans 6 = .ok (.getfield 143, 3) := by decide +kernel
theorem dX8_sumOfSpans_9 : decode cX8_sumOfSpans 9 = .ok (.if_icmp .ge 18, 3) := by decide +kernel
theorem dX8_sumOfSpans_12 : decode cX8_sumOfSpans 12 = .ok (.iload_n 1, 1) := by decide +kernel
theorem dX8_sumOfSpans_13 : decode cX8_sumOfSpans 13 = .ok (.aload_n 0, 1) := by decide +kernel
theorem dX8_sumOfSpans_14 : decode cX8_sumOfSpans 14 = .ok (.getfield 31, 3) := by decide +kernel
theorem dX8_sumOfSpans_17 : decode cX8_sumOfSpans 17 = .ok (.iload_n 2, 1) := by decide +kernel
theorem dX8_sumOfSpans_18 : decode cX8_sumOfSpans 18 = .ok (.iaload, 1) := by decide +kernel
theorem dX8_sumOfSpans_19 : decode cX8_sumOfSpans 19 = .ok (.iadd, 1) := by decide +kernel
theorem dX8_sumOfSpans_20 : decode cX8_sumOfSpans 20 = .ok (.istore_n 1, 1) := by decide +kernel
theorem dX8_sumOfSpans_21 : decode cX8_sumOfSpans 21 = .ok (.iinc 2 1, 3) := by decide +kernel
theorem dX8_sumOfSpans_24 : decode cX8_sumOfSpans 24 = .ok (.goto (-20), 3) := by decide +kernel
theorem dX8_sumOfSpans_27 : decode cX8_sumOfSpans 27 = .ok (.iload_n 1, 1) := by decide +kernel
theorem dX8_sumOfSpans_28 : decode cX8_sumOfSpans 28 = .ok (.ireturn, 1) := by decide +kernel
theorem dX8_count_0 : decode cX8_count 0 = .ok (.iload_n 1, 1) := by decide +kernel
theorem dX8_count_1 : decode cX8_count 1 = .ok (.ifCond .ne 10, 3) := by decide +kernel
theorem dX8_count_4 : decode cX8_count 4 = .ok (.aload_n 0, 1) := by decide +kernel
theorem dX8_count_5 : decode cX8_count 5 = .ok (.getfield 133, 3) := by decide +kernel
theorem dX8_count_8 : decode cX8_count 8 = .ok (.goto 61, 3) := by decide +kernel
theorem dX8_count_11 : decode cX8_count 11 = .ok (.iload_n 1, 1) := by decide +kernel
theorem dX8_count_12 : decode cX8_count 12 = .ok (.iconst 1, 1) := by decide +kernel
theorem dX8_count_13 : decode cX8_count 13 = .ok (.if_icmp .ne 10, 3) := by decide +kernel
theorem dX8_count_16 : decode cX8_count 16 = .ok (.aload_n 0, 1) := by decide +kernel
theorem dX8_count_17 : decode cX8_count 17 = .ok (.getfield 140, 3) := by decide +kernel
theorem dX8_count_20 : decode cX8_count 20 = .ok (.goto 49, 3) := by decide +kernel
theorem dX8_count_23 : decode cX8_count 23 = .ok (.iload_n 1, 1) := by decide +kernel
theorem dX8_count_24 : decode cX8_count 24 = .ok (.iconst 2, 1) := by decide +kernel
theorem dX8_count_25 : decode cX8_count 25 = .ok (.if_icmp .ne 10, 3) := by decide +kernel
theorem dX8_count_28 : decode cX8_count 28 = .ok (.aload_n 0, 1) := by decide +kernel
theorem dX8_count_29 : decode cX8_count 29 = .ok (.getfield 143, 3) := by decide +kernel
theorem dX8_count_32 : decode cX8_count 32 = .ok (.goto 37, 3) := by decide +kernel
theorem dX8_count_35 : decode cX8_count 35 = .ok (.iload_n 1, 1) := by decide +kernel
theorem dX8_count_36 : decode cX8_count 36 = .ok (.iconst 3, 1) := by decide +kernel
theorem dX8_count_37 : decode cX8_count 37 = .ok (.if_icmp .ne 18, 3) := by decide +kernel
theorem dX8_count_40 : decode cX8_count 40 = .ok (.aload_n 0, 1) := by decide +kernel
theorem dX8_count_41 : decode cX8_count 41 = .ok (.invokevirtual 161, 3) := by decide +kernel
theorem dX8_count_44 : decode cX8_count 44 = .ok (.ifCond .eq 7, 3) := by decide +kernel
theorem dX8_count_47 : decode cX8_count 47 = .ok (.iconst 1, 1) := by decide +kernel
theorem dX8_count_48 : decode cX8_count 48 = .ok (.goto 21, 3) := by decide +kernel
theorem dX8_count_51 : decode cX8_count 51 = .ok (.iconst 0, 1) := by decide +kernel
theorem dX8_count_52 : decode cX8_count 52 = .ok (.goto 17, 3) := by decide +kernel
theorem dX8_count_55 : decode cX8_count 55 = .ok (.iload_n 1, 1) := by decide +kernel
theorem dX8_count_56 : decode cX8_count 56 = .ok (.iconst 4, 1) := by decide +kernel
theorem dX8_count_57 : decode cX8_count 57 = .ok (.if_icmp .ne 10, 3) := by decide +kernel
theorem dX8_count_60 : decode cX8_count 60 = .ok (.aload_n 0, 1) := by decide +kernel
theorem dX8_count_61 : decode cX8_count 61 = .ok (.invokevirtual 165, 3) := by decide +kernel
theorem dX8_count_64 : decode cX8_count 64 = .ok (.goto 5, 3) := by decide +kernel
theorem dX8_count_67 : decode cX8_count 67 = .ok (.ldc 132, 2) := by decide +kernel
theorem dX8_count_69 : decode cX8_count 69 = .ok (.ireturn, 1) := by decide +kernel
theorem dX8_isSheet_0 : decode cX8_isSheet 0 = .ok (.iload_n 0, 1) := by decide +kernel
theorem dX8_isSheet_1 : decode cX8_isSheet 1 = .ok (.i2l, 1) := by decide +kernel
theorem dX8_isSheet_2 : decode cX8_isSheet 2 = .ok (.lconst 0, 1) := by decide +kernel
theorem dX8_isSheet_3 : decode cX8_isSheet 3 = .ok (.ldc2_w 169, 3) := by decide +kernel
theorem dX8_isSheet_6 : decode cX8_isSheet 6 = .ok (.invokestatic 124, 3) := by decide +kernel
theorem dX8_isSheet_9 : decode cX8_isSheet 9 = .ok (.ireturn, 1) := by decide +kernel
theorem dX8_sheet_0 : decode cX8_sheet 0 = .ok (.iload_n 1, 1) := by decide +kernel
theorem dX8_sheet_1 : decode cX8_sheet 1 = .ok (.invokestatic 171, 3) := by decide +kernel
theorem dX8_sheet_4 : decode cX8_sheet 4 = .ok (.ifCond .ne 6, 3) := by decide +kernel
theorem dX8_sheet_7 : decode cX8_sheet 7 = .ok (.ldc 146, 2) := by decide +kernel
theorem dX8_sheet_9 : decode cX8_sheet 9 = .ok (.ireturn, 1) := by decide +kernel
theorem dX8_sheet_10 : decode cX8_sheet 10 = .ok (.iload_n 2, 1) := by decide +kernel
theorem dX8_sheet_11 : decode cX8_sheet 11 = .ok (.i2l, 1) := by decide +kernel
theorem dX8_sheet_12 : decode cX8_sheet 12 = .ok (.lconst 0, 1) := by decide +kernel
theorem dX8_sheet_13 : decode cX8_sheet 13 = .ok (.ldc2_w 174, 3) := by decide +kernel
theorem dX8_sheet_16 : decode cX8_sheet 16 = .ok (.invokestatic 124, 3) := by decide +kernel
theorem dX8_sheet_19 : decode cX8_sheet 19 = .ok (.ifCond .eq 9, 3) := by decide +kernel
theorem dX8_sheet_22 : decode cX8_sheet 22 = .ok (.iload_n 3, 1) := by decide +kernel
theorem dX8_sheet_23 : decode cX8_sheet 23 = .ok (.bipush 40, 2) := by decide +kernel
theorem dX8_sheet_25 : decode cX8_sheet 25 = .ok (.if_icmp .le 6, 3) := by decide +kernel
theorem dX8_sheet_28 : decode cX8_sheet 28 = .ok (.ldc 132, 2) := by decide +kernel
theorem dX8_sheet_30 : decode cX8_sheet 30 = .ok (.ireturn, 1) := by decide +kernel
theorem dX8_sheet_31 : decode cX8_sheet 31 = .ok (.aload_n 0, 1) := by decide +kernel
theorem dX8_sheet_32 : decode cX8_sheet 32 = .ok (.iload_n 3, 1) := by decide +kernel
theorem dX8_sheet_33 : decode cX8_sheet 33 = .ok (.ifCond .ge 7, 3) := by decide +kernel
theorem dX8_sheet_36 : decode cX8_sheet 36 = .ok (.iconst 4, 1) := by decide +kernel
theorem dX8_sheet_37 : decode cX8_sheet 37 = .ok (.goto 4, 3) := by decide +kernel
theorem dX8_sheet_40 : decode cX8_sheet 40 = .ok (.iconst 0, 1) := by decide +kernel
theorem dX8_sheet_41 : decode cX8_sheet 41 = .ok (.putfield 176, 3) := by decide +kernel
theorem dX8_sheet_44 : decode cX8_sheet 44 = .ok (.aload_n 0, 1) := by decide +kernel
theorem dX8_sheet_45 : decode cX8_sheet 45 = .ok (.getfield 176, 3) := by decide +kernel
theorem dX8_sheet_48 : decode cX8_sheet 48 = .ok (.ifCond .le 5, 3) := by decide +kernel
theorem dX8_sheet_51 : decode cX8_sheet 51 = .ok (.iconst 0, 1) := by decide +kernel
theorem dX8_sheet_52 : decode cX8_sheet 52 = .ok (.ireturn, 1) := by decide +kernel
theorem dX8_sheet_53 : decode cX8_sheet 53 = .ok (.aload_n 0, 1) := by decide +kernel
theorem dX8_sheet_54 : decode cX8_sheet 54 = .ok (.getfield 46, 3) := by decide +kernel
theorem dX8_sheet_57 : decode cX8_sheet 57 = .ok (.iload_n 1, 1) := by decide +kernel
theorem dX8_sheet_58 : decode cX8_sheet 58 = .ok (.iload_n 2, 1) := by decide +kernel
theorem dX8_sheet_59 : decode cX8_sheet 59 = .ok (.iastore, 1) := by decide +kernel
theorem dX8_sheet_60 : decode cX8_sheet 60 = .ok (.aload_n 0, 1) := by decide +kernel
theorem dX8_sheet_61 : decode cX8_sheet 61 = .ok (.getfield 43, 3) := by decide +kernel
theorem dX8_sheet_64 : decode cX8_sheet 64 = .ok (.iload_n 1, 1) := by decide +kernel
theorem dX8_sheet_65 : decode cX8_sheet 65 = .ok (.iload_n 3, 1) := by decide +kernel
theorem dX8_sheet_66 : decode cX8_sheet 66 = .ok (.iastore, 1) := by decide +kernel
theorem dX8_sheet_67 : decode cX8_sheet 67 = .ok (.iconst 0, 1) := by decide +kernel
theorem dX8_sheet_68 : decode cX8_sheet 68 = .ok (.istore 4, 2) := by decide +kernel
theorem dX8_sheet_70 : decode cX8_sheet 70 = .ok (.iload 4, 2) := by decide +kernel
theorem dX8_sheet_72 : decode cX8_sheet 72 = .ok (.iload_n 3, 1) := by decide +kernel
theorem dX8_sheet_73 : decode cX8_sheet 73 = .ok (.if_icmp .ge 22, 3) := by decide +kernel
theorem dX8_sheet_76 : decode cX8_sheet 76 = .ok (.aload_n 0, 1) := by decide +kernel
theorem dX8_sheet_77 : decode cX8_sheet 77 = .ok (.getfield 49, 3) := by decide +kernel
theorem dX8_sheet_80 : decode cX8_sheet 80 = .ok (.bipush 40, 2) := by decide +kernel
theorem dX8_sheet_82 : decode cX8_sheet 82 = .ok (.iload_n 1, 1) := by decide +kernel
theorem dX8_sheet_83 : decode cX8_sheet 83 = .ok (.imul, 1) := by decide +kernel
theorem dX8_sheet_84 : decode cX8_sheet 84 = .ok (.iload 4, 2) := by decide +kernel
theorem dX8_sheet_86 : decode cX8_sheet 86 = .ok (.iadd, 1) := by decide +kernel
theorem dX8_sheet_87 : decode cX8_sheet 87 = .ok (.iconst 0, 1) := by decide +kernel
theorem dX8_sheet_88 : decode cX8_sheet 88 = .ok (.iastore, 1) := by decide +kernel
theorem dX8_sheet_89 : decode cX8_sheet 89 = .ok (.iinc 4 1, 3) := by decide +kernel
theorem dX8_sheet_92 : decode cX8_sheet 92 = .ok (.goto (-22), 3) := by decide +kernel
theorem dX8_sheet_95 : decode cX8_sheet 95 = .ok (.iload_n 3, 1) := by decide +kernel
theorem dX8_sheet_96 : decode cX8_sheet 96 = .ok (.ireturn, 1) := by decide +kernel
theorem dX8_tear_0 : decode cX8_tear 0 = .ok (.iload_n 1, 1) := by decide +kernel
theorem dX8_tear_1 : decode cX8_tear 1 = .ok (.invokestatic 171, 3) := by decide +kernel
theorem dX8_tear_4 : decode cX8_tear 4 = .ok (.ifCond .ne 6, 3) := by decide +kernel
theorem dX8_tear_7 : decode cX8_tear 7 = .ok (.ldc 146, 2) := by decide +kernel
theorem dX8_tear_9 : decode cX8_tear 9 = .ok (.ireturn, 1) := by decide +kernel
theorem dX8_tear_10 : decode cX8_tear 10 = .ok (.aload_n 0, 1) := by decide +kernel
theorem dX8_tear_11 : decode cX8_tear 11 = .ok (.getfield 43, 3) := by decide +kernel
theorem dX8_tear_14 : decode cX8_tear 14 = .ok (.iload_n 1, 1) := by decide +kernel
theorem dX8_tear_15 : decode cX8_tear 15 = .ok (.iaload, 1) := by decide +kernel
theorem dX8_tear_16 : decode cX8_tear 16 = .ok (.ifCond .ge 7, 3) := by decide +kernel
theorem dX8_tear_19 : decode cX8_tear 19 = .ok (.iconst 0, 1) := by decide +kernel
theorem dX8_tear_20 : decode cX8_tear 20 = .ok (.goto 4, 3) := by decide +kernel
theorem dX8_tear_23 : decode cX8_tear 23 = .ok (.iconst 1, 1) := by decide +kernel
theorem dX8_tear_24 : decode cX8_tear 24 = .ok (.istore_n 2, 1) := by decide +kernel
theorem dX8_tear_25 : decode cX8_tear 25 = .ok (.aload_n 0, 1) := by decide +kernel
theorem dX8_tear_26 : decode cX8_tear 26 = .ok (.getfield 43, 3) := by decide +kernel
theorem dX8_tear_29 : decode cX8_tear 29 = .ok (.iload_n 1, 1) := by decide +kernel
theorem dX8_tear_30 : decode cX8_tear 30 = .ok (.iconst (-1), 1) := by decide +kernel
theorem dX8_tear_31 : decode cX8_tear 31 = .ok (.iastore, 1) := by decide +kernel
theorem dX8_tear_32 : decode cX8_tear 32 = .ok (.iload_n 2, 1) := by decide +kernel
theorem dX8_tear_33 : decode cX8_tear 33 = .ok (.ireturn, 1) := by decide +kernel
theorem dX8_put_0 : decode cX8_put 0 = .ok (.iload_n 1, 1) := by decide +kernel
theorem dX8_put_1 : decode cX8_put 1 = .ok (.invokestatic 171, 3) := by decide +kernel
theorem dX8_put_4 : decode cX8_put 4 = .ok (.ifCond .ne 6, 3) := by decide +kernel
theorem dX8_put_7 : decode cX8_put 7 = .ok (.ldc 146, 2) := by decide +kernel
theorem dX8_put_9 : decode cX8_put 9 = .ok (.ireturn, 1) := by decide +kernel
theorem dX8_put_10 : decode cX8_put 10 = .ok (.iload_n 2, 1) := by decide +kernel
theorem dX8_put_11 : decode cX8_put 11 = .ok (.i2l, 1) := by decide +kernel
theorem dX8_put_12 : decode cX8_put 12 = .ok (.lconst 0, 1) := by decide +kernel
theorem dX8_put_13 : decode cX8_put 13 = .ok (.ldc2_w 174, 3) := by decide +kernel
theorem dX8_put_16 : decode cX8_put 16 = .ok (.invokestatic 124, 3) := by decide +kernel
theorem dX8_put_19 : decode cX8_put 19 = .ok (.ifCond .ne 6, 3) := by decide +kernel
theorem dX8_put_22 : decode cX8_put 22 = .ok (.ldc 132, 2) := by decide +kernel
theorem dX8_put_24 : decode cX8_put 24 = .ok (.ireturn, 1) := by decide +kernel
theorem dX8_put_25 : decode cX8_put 25 = .ok (.aload_n 0, 1) := by decide +kernel
theorem dX8_put_26 : decode cX8_put 26 = .ok (.aload_n 0, 1) := by decide +kernel
theorem dX8_put_27 : decode cX8_put 27 = .ok (.getfield 43, 3) := by decide +kernel
theorem dX8_put_30 : decode cX8_put 30 = .ok (.iload_n 1, 1) := by decide +kernel
theorem dX8_put_31 : decode cX8_put 31 = .ok (.iaload, 1) := by decide +kernel
theorem dX8_put_32 : decode cX8_put 32 = .ok (.ifCond .ge 7, 3) := by decide +kernel
theorem dX8_put_35 : decode cX8_put 35 = .ok (.iconst 1, 1) := by decide +kernel
theorem dX8_put_36 : decode cX8_put 36 = .ok (.goto 40, 3) := by decide +kernel
theorem dX8_put_39 : decode cX8_put 39 = .ok (.aload_n 0, 1) := by decide +kernel
theorem dX8_put_40 : decode cX8_put 40 = .ok (.getfield 46, 3) := by decide +kernel
theorem dX8_put_43 : decode cX8_put 43 = .ok (.iload_n 1, 1) := by decide +kernel
theorem dX8_put_44 : decode cX8_put 44 = .ok (.iaload, 1) := by decide +kernel
theorem dX8_put_45 : decode cX8_put 45 = .ok (.iload_n 2, 1) := by decide +kernel
theorem dX8_put_46 : decode cX8_put 46 = .ok (.if_icmp .eq 7, 3) := by decide +kernel
theorem dX8_put_49 : decode cX8_put 49 = .ok (.iconst 2, 1) := by decide +kernel
theorem dX8_put_50 : decode cX8_put 50 = .ok (.goto 26, 3) := by decide +kernel
theorem dX8_put_53 : decode cX8_put 53 = .ok (.iload_n 3, 1) := by decide +kernel
theorem dX8_put_54 : decode cX8_put 54 = .ok (.i2l, 1) := by decide +kernel
theorem dX8_put_55 : decode cX8_put 55 = .ok (.lconst 0, 1) := by decide +kernel
theorem dX8_put_56 : decode cX8_put 56 = .ok (.aload_n 0, 1) := by decide +kernel
theorem dX8_put_57 : decode cX8_put 57 = .ok (.getfield 43, 3) := by decide +kernel
theorem dX8_put_60 : decode cX8_put 60 = .ok (.iload_n 1, 1) := by decide +kernel
theorem dX8_put_61 : decode cX8_put 61 = .ok (.iaload, 1) := by decide +kernel
theorem dX8_put_62 : decode cX8_put 62 = .ok (.iconst 1, 1) := by decide +kernel
theorem dX8_put_63 : decode cX8_put 63 = .ok (.isub, 1) := by decide +kernel
theorem dX8_put_64 : decode cX8_put 64 = .ok (.i2l, 1) := by decide +kernel
theorem dX8_put_65 : decode cX8_put 65 = .ok (.invokestatic 124, 3) := by decide +kernel
theorem dX8_put_68 : decode cX8_put 68 = .ok (.ifCond .ne 7, 3) := by decide +kernel
theorem dX8_put_71 : decode cX8_put 71 = .ok (.iconst 3, 1) := by decide +kernel
theorem dX8_put_72 : decode cX8_put 72 = .ok (.goto 4, 3) := by decide +kernel
theorem dX8_put_75 : decode cX8_put 75 = .ok (.iconst 0, 1) := by decide +kernel
theorem dX8_put_76 : decode cX8_put 76 = .ok (.putfield 176, 3) := by decide +kernel
theorem dX8_put_79 : decode cX8_put 79 = .ok (.aload_n 0, 1) := by decide +kernel
theorem dX8_put_80 : decode cX8_put 80 = .ok (.getfield 176, 3) := by decide +kernel
theorem dX8_put_83 : decode cX8_put 83 = .ok (.ifCond .le 5, 3) := by decide +kernel
theorem dX8_put_86 : decode cX8_put 86 = .ok (.iconst 0, 1) := by decide +kernel
theorem dX8_put_87 : decode cX8_put 87 = .ok (.ireturn, 1) := by decide +kernel
theorem dX8_put_88 : decode cX8_put 88 = .ok (.aload_n 0, 1) := by decide +kernel
theorem dX8_put_89 : decode cX8_put 89 = .ok (.getfield 49, 3) := by decide +kernel
theorem dX8_put_92 : decode cX8_put 92 = .ok (.bipush 40, 2) := by decide +kernel
theorem dX8_put_94 : decode cX8_put 94 = .ok (.iload_n 1, 1) := by decide +kernel
theorem dX8_put_95 : decode cX8_put 95 = .ok (.imul, 1) := by decide +kernel
theorem dX8_put_96 : decode cX8_put 96 = .ok (.iload_n 3, 1) := by decide +kernel
theorem dX8_put_97 : decode cX8_put 97 = .ok (.iadd, 1) := by decide +kernel
theorem dX8_put_98 : decode cX8_put 98 = .ok (.iload_n 2, 1) := by decide +kernel
theorem dX8_put_99 : decode cX8_put 99 = .ok (.ifCond .ne 9, 3) := by decide +kernel
theorem dX8_put_102 : decode cX8_put 102 = .ok (.iload 4, 2) := by decide +kernel
theorem dX8_put_104 : decode cX8_put 104 = .ok (.i2b, 1) := by decide +kernel
theorem dX8_put_105 : decode cX8_put 105 = .ok (.goto 16, 3) := by decide +kernel
theorem dX8_put_108 : decode cX8_put 108 = .ok (.iload_n 2, 1) := by decide +kernel
theorem dX8_put_109 : decode cX8_put 109 = .ok (.iconst 1, 1) := by decide +kernel
theorem dX8_put_110 : decode cX8_put 110 = .ok (.if_icmp .ne 9, 3) := by decide +kernel
theorem dX8_put_113 : decode cX8_put 113 = .ok (.iload 4, 2) := by decide +kernel
theorem dX8_put_115 : decode cX8_put 115 = .ok (.i2s, 1) := by decide +kernel
theorem dX8_put_116 : decode cX8_put 116 = .ok (.goto 5, 3) := by decide +kernel
theorem dX8_put_119 : decode cX8_put 119 = .ok (.iload 4, 2) := by decide +kernel
theorem dX8_put_121 : decode cX8_put 121 = .ok (.iastore, 1) := by decide +kernel
theorem dX8_put_122 : decode cX8_put 122 = .ok (.aload_n 0, 1) := by decide +kernel
theorem dX8_put_123 : decode cX8_put 123 = .ok (.getfield 49, 3) := by decide +kernel
theorem dX8_put_126 : decode cX8_put 126 = .ok (.bipush 40, 2) := by decide +kernel
theorem dX8_put_128 : decode cX8_put 128 = .ok (.iload_n 1, 1) := by decide +kernel
theorem dX8_put_129 : decode cX8_put 129 = .ok (.imul, 1) := by decide +kernel
theorem dX8_put_130 : decode cX8_put 130 = .ok (.iload_n 3, 1) := by decide +kernel
theorem dX8_put_131 : decode cX8_put 131 = .ok (.iadd, 1) := by decide +kernel
theorem dX8_put_132 : decode cX8_put 132 = .ok (.iaload, 1) := by decide +kernel
theorem dX8_put_133 : decode cX8_put 133 = .ok (.ireturn, 1) := by decide +kernel
theorem dX8_at_0 : decode cX8_at 0 = .ok (.iload_n 1, 1) := by decide +kernel
theorem dX8_at_1 : decode cX8_at 1 = .ok (.invokestatic 171, 3) := by decide +kernel
theorem dX8_at_4 : decode cX8_at 4 = .ok (.ifCond .ne 6, 3) := by decide +kernel
theorem dX8_at_7 : decode cX8_at 7 = .ok (.ldc 146, 2) := by decide +kernel
theorem dX8_at_9 : decode cX8_at 9 = .ok (.ireturn, 1) := by decide +kernel
theorem dX8_at_10 : decode cX8_at 10 = .ok (.aload_n 0, 1) := by decide +kernel
theorem dX8_at_11 : decode cX8_at 11 = .ok (.aload_n 0, 1) := by decide +kernel
theorem dX8_at_12 : decode cX8_at 12 = .ok (.getfield 43, 3) := by decide +kernel
theorem dX8_at_15 : decode cX8_at 15 = .ok (.iload_n 1, 1) := by decide +kernel
theorem dX8_at_16 : decode cX8_at 16 = .ok (.iaload, 1) := by decide +kernel
theorem dX8_at_17 : decode cX8_at 17 = .ok (.ifCond .ge 7, 3) := by decide +kernel
theorem dX8_at_20 : decode cX8_at 20 = .ok (.iconst 1, 1) := by decide +kernel
theorem dX8_at_21 : decode cX8_at 21 = .ok (.goto 26, 3) := by decide +kernel
theorem dX8_at_24 : decode cX8_at 24 = .ok (.iload_n 2, 1) := by decide +kernel
theorem dX8_at_25 : decode cX8_at 25 = .ok (.i2l, 1) := by decide +kernel
theorem dX8_at_26 : decode cX8_at 26 = .ok (.lconst 0, 1) := by decide +kernel
theorem dX8_at_27 : decode cX8_at 27 = .ok (.aload_n 0, 1) := by decide +kernel
theorem dX8_at_28 : decode cX8_at 28 = .ok (.getfield 43, 3) := by decide +kernel
theorem dX8_at_31 : decode cX8_at 31 = .ok (.iload_n 1, 1) := by decide +kernel
theorem dX8_at_32 : decode cX8_at 32 = .ok (.iaload, 1) := by decide +kernel
theorem dX8_at_33 : decode cX8_at 33 = .ok (.iconst 1, 1) := by decide +kernel
theorem dX8_at_34 : decode cX8_at 34 = .ok (.isub, 1) := by decide +kernel
theorem dX8_at_35 : decode cX8_at 35 = .ok (.i2l, 1) := by decide +kernel
theorem dX8_at_36 : decode cX8_at 36 = .ok (.invokestatic 124, 3) := by decide +kernel
theorem dX8_at_39 : decode cX8_at 39 = .ok (.ifCond .ne 7, 3) := by decide +kernel
theorem dX8_at_42 : decode cX8_at 42 = .ok (.iconst 3, 1) := by decide +kernel
theorem dX8_at_43 : decode cX8_at 43 = .ok (.goto 4, 3) := by decide +kernel
theorem dX8_at_46 : decode cX8_at 46 = .ok (.iconst 0, 1) := by decide +kernel
theorem dX8_at_47 : decode cX8_at 47 = .ok (.putfield 176, 3) := by decide +kernel
theorem dX8_at_50 : decode cX8_at 50 = .ok (.aload_n 0, 1) := by decide +kernel
theorem dX8_at_51 : decode cX8_at 51 = .ok (.getfield 176, 3) := by decide +kernel
theorem dX8_at_54 : decode cX8_at 54 = .ok (.ifCond .le 7, 3) := by decide +kernel
theorem dX8_at_57 : decode cX8_at 57 = .ok (.iconst 0, 1) := by decide +kernel
theorem dX8_at_58 : decode cX8_at 58 = .ok (.goto 14, 3) := by decide +kernel
theorem dX8_at_61 : decode cX8_at 61 = .ok (.aload_n 0, 1) := by decide +kernel
theorem dX8_at_62 : decode cX8_at 62 = .ok (.getfield 49, 3) := by decide +kernel
theorem dX8_at_65 : decode cX8_at 65 = .ok (.bipush 40, 2) := by decide +kernel
theorem dX8_at_67 : decode cX8_at 67 = .ok (.iload_n 1, 1) := by decide +kernel
theorem dX8_at_68 : decode cX8_at 68 = .ok (.imul, 1) := by decide +kernel
theorem dX8_at_69 : decode cX8_at 69 = .ok (.iload_n 2, 1) := by decide +kernel
theorem dX8_at_70 : decode cX8_at 70 = .ok (.iadd, 1) := by decide +kernel
theorem dX8_at_71 : decode cX8_at 71 = .ok (.iaload, 1) := by decide +kernel
theorem dX8_at_72 : decode cX8_at 72 = .ok (.ireturn, 1) := by decide +kernel
theorem dX8_copy_0 : decode cX8_copy 0 = .ok (.iload_n 1, 1) := by decide +kernel
theorem dX8_copy_1 : decode cX8_copy 1 = .ok (.invokestatic 171, 3) := by decide +kernel
theorem dX8_copy_4 : decode cX8_copy 4 = .ok (.ifCond .eq 10, 3) := by decide +kernel
theorem dX8_copy_7 : decode cX8_copy 7 = .ok (.iload_n 3, 1) := by decide +kernel
theorem dX8_copy_8 : decode cX8_copy 8 = .ok (.invokestatic 171, 3) := by decide +kernel
theorem dX8_copy_11 : decode cX8_copy 11 = .ok (.ifCond .ne 6, 3) := by decide +kernel
theorem dX8_copy_14 : decode cX8_copy 14 = .ok (.ldc 146, 2) := by decide +kernel
theorem dX8_copy_16 : decode cX8_copy 16 = .ok (.ireturn, 1) := by decide +kernel
theorem dX8_copy_17 : decode cX8_copy 17 = .ok (.iload_n 2, 1) := by decide +kernel
theorem dX8_copy_18 : decode cX8_copy 18 = .ok (.ifCond .lt 52, 3) := by decide +kernel
theorem dX8_copy_21 : decode cX8_copy 21 = .ok (.iload 4, 2) := by decide +kernel
theorem dX8_copy_23 : decode cX8_copy 23 = .ok (.ifCond .lt 47, 3) := by decide +kernel
theorem dX8_copy_26 : decode cX8_copy 26 = .ok (.iload 5, 2) := by decide +kernel
theorem dX8_copy_28 : decode cX8_copy 28 = .ok (.ifCond .lt 42, 3) := by decide +kernel
theorem dX8_copy_31 : decode cX8_copy 31 = .ok (.iload_n 2, 1) := by decide +kernel
theorem dX8_copy_32 : decode cX8_copy 32 = .ok (.i2l, 1) := by decide +kernel
theorem dX8_copy_33 : decode cX8_copy 33 = .ok (.iload 5, 2) := by decide +kernel
theorem dX8_copy_35 : decode cX8_copy 35 = .ok (.i2l, 1) := by decide +kernel
theorem dX8_copy_36 : decode cX8_copy 36 = .ok (.ladd, 1) := by decide +kernel
theorem dX8_copy_37 : decode cX8_copy 37 = .ok (.aload_n 0, 1) := by decide +kernel
theorem dX8_copy_38 : decode cX8_copy 38 = .ok (.getfield 43, 3) := by decide +kernel
theorem dX8_copy_41 : decode cX8_copy 41 = .ok (.iload_n 1, 1) := by decide +kernel
theorem dX8_copy_42 : decode cX8_copy 42 = .ok (.iaload, 1) := by decide +kernel
theorem dX8_copy_43 : decode cX8_copy 43 = .ok (.i2l, 1) := by decide +kernel
theorem dX8_copy_44 : decode cX8_copy 44 = .ok (.lcmp, 1) := by decide +kernel
theorem dX8_copy_45 : decode cX8_copy 45 = .ok (.ifCond .gt 25, 3) := by decide +kernel
theorem dX8_copy_48 : decode cX8_copy 48 = .ok (.iload 4, 2) := by decide +kernel
theorem dX8_copy_50 : decode cX8_copy 50 = .ok (.i2l, 1) := by decide +kernel
theorem dX8_copy_51 : decode cX8_copy 51 = .ok (.iload 5, 2) := by decide +kernel
theorem dX8_copy_53 : decode cX8_copy 53 = .ok (.i2l, 1) := by decide +kernel
theorem dX8_copy_54 : decode cX8_copy 54 = .ok (.ladd, 1) := by decide +kernel
theorem dX8_copy_55 : decode cX8_copy 55 = .ok (.aload_n 0, 1) := by decide +kernel
theorem dX8_copy_56 : decode cX8_copy 56 = .ok (.getfield 43, 3) := by decide +kernel
theorem dX8_copy_59 : decode cX8_copy 59 = .ok (.iload_n 3, 1) := by decide +kernel
theorem dX8_copy_60 : decode cX8_copy 60 = .ok (.iaload, 1) := by decide +kernel
theorem dX8_copy_61 : decode cX8_copy 61 = .ok (.i2l, 1) := by decide +kernel
theorem dX8_copy_62 : decode cX8_copy 62 = .ok (.lcmp, 1) := by decide +kernel
theorem dX8_copy_63 : decode cX8_copy 63 = .ok (.ifCond .gt 7, 3) := by decide +kernel
theorem dX8_copy_66 : decode cX8_copy 66 = .ok (.iconst 1, 1) := by decide +kernel
theorem dX8_copy_67 : decode cX8_copy 67 = .ok (.goto 4, 3) := by decide +kernel
theorem dX8_copy_70 : decode cX8_copy 70 = .ok (.iconst 0, 1) := by decide +kernel
theorem dX8_copy_71 : decode cX8_copy 71 = .ok (.istore 6, 2) := by decide +kernel
theorem dX8_copy_73 : decode cX8_copy 73 = .ok (.aload_n 0, 1) := by decide +kernel
theorem dX8_copy_74 : decode cX8_copy 74 = .ok (.aload_n 0, 1) := by decide +kernel
theorem dX8_copy_75 : decode cX8_copy 75 = .ok (.getfield 43, 3) := by decide +kernel
theorem dX8_copy_78 : decode cX8_copy 78 = .ok (.iload_n 1, 1) := by decide +kernel
theorem dX8_copy_79 : decode cX8_copy 79 = .ok (.iaload, 1) := by decide +kernel
theorem dX8_copy_80 : decode cX8_copy 80 = .ok (.ifCond .lt 12, 3) := by decide +kernel
theorem dX8_copy_83 : decode cX8_copy 83 = .ok (.aload_n 0, 1) := by decide +kernel
theorem dX8_copy_84 : decode cX8_copy 84 = .ok (.getfield 43, 3) := by decide +kernel
theorem dX8_copy_87 : decode cX8_copy 87 = .ok (.iload_n 3, 1) := by decide +kernel
theorem dX8_copy_88 : decode cX8_copy 88 = .ok (.iaload, 1) := by decide +kernel
theorem dX8_copy_89 : decode cX8_copy 89 = .ok (.ifCond .ge 7, 3) := by decide +kernel
theorem dX8_copy_92 : decode cX8_copy 92 = .ok (.iconst 1, 1) := by decide +kernel
theorem dX8_copy_93 : decode cX8_copy 93 = .ok (.goto 32, 3) := by decide +kernel
theorem dX8_copy_96 : decode cX8_copy 96 = .ok (.aload_n 0, 1) := by decide +kernel
theorem dX8_copy_97 : decode cX8_copy 97 = .ok (.getfield 46, 3) := by decide +kernel
theorem dX8_copy_100 : decode cX8_copy 100 = .ok (.iload_n 1, 1) := by decide +kernel
theorem dX8_copy_101 : decode cX8_copy 101 = .ok (.iaload, 1) := by decide +kernel
theorem dX8_copy_102 : decode cX8_copy 102 = .ok (.aload_n 0, 1) := by decide +kernel
theorem dX8_copy_103 : decode cX8_copy 103 = .ok (.getfield 46, 3) := by decide +kernel
theorem dX8_copy_106 : decode cX8_copy 106 = .ok (.iload_n 3, 1) := by decide +kernel
theorem dX8_copy_107 : decode cX8_copy 107 = .ok (.iaload, 1) := by decide +kernel
theorem dX8_copy_108 : decode cX8_copy 108 = .ok (.if_icmp .eq 7, 3) := by decide +kernel
theorem dX8_copy_111 : decode cX8_copy 111 = .ok (.iconst 2, 1) := by decide +kernel
theorem dX8_copy_112 : decode cX8_copy 112 = .ok (.goto 13, 3) := by decide +kernel
theorem dX8_copy_115 : decode cX8_copy 115 = .ok (.iload 6, 2) := by decide +kernel
theorem dX8_copy_117 : decode cX8_copy 117 = .ok (.ifCond .ne 7, 3) := by decide +kernel
theorem dX8_copy_120 : decode cX8_copy 120 = .ok (.iconst 3, 1) := by decide +kernel
theorem dX8_copy_121 : decode cX8_copy 121 = .ok (.goto 4, 3) := by decide +kernel
theorem dX8_copy_124 : decode cX8_copy 124 = .ok (.iconst 0, 1) := by decide +kernel
theorem dX8_copy_125 : decode cX8_copy 125 = .ok (.putfield 176, 3) := by decide +kernel
theorem dX8_copy_128 : decode cX8_copy 128 = .ok (.aload_n 0, 1) := by decide +kernel
theorem dX8_copy_129 : decode cX8_copy 129 = .ok (.getfield 176, 3) := by decide +kernel
theorem dX8_copy_132 : decode cX8_copy 132 = .ok (.ifCond .le 5, 3) := by decide +kernel
theorem dX8_copy_135 : decode cX8_copy 135 = .ok (.iconst 0, 1) := by decide +kernel
theorem dX8_copy_136 : decode cX8_copy 136 = .ok (.ireturn, 1) := by decide +kernel
theorem dX8_copy_137 : decode cX8_copy 137 = .ok (.iconst 0, 1) := by decide +kernel
theorem dX8_copy_138 : decode cX8_copy 138 = .ok (.istore 7, 2) := by decide +kernel
theorem dX8_copy_140 : decode cX8_copy 140 = .ok (.iload 7, 2) := by decide +kernel
theorem dX8_copy_142 : decode cX8_copy 142 = .ok (.iload 5, 2) := by decide +kernel
theorem dX8_copy_144 : decode cX8_copy 144 = .ok (.if_icmp .ge 30, 3) := by decide +kernel
theorem dX8_copy_147 : decode cX8_copy 147 = .ok (.aload_n 0, 1) := by decide +kernel
theorem dX8_copy_148 : decode cX8_copy 148 = .ok (.getfield 52, 3) := by decide +kernel
theorem dX8_copy_151 : decode cX8_copy 151 = .ok (.iload 7, 2) := by decide +kernel
theorem dX8_copy_153 : decode cX8_copy 153 = .ok (.aload_n 0, 1) := by decide +kernel
theorem dX8_copy_154 : decode cX8_copy 154 = .ok (.getfield 49, 3) := by decide +kernel
theorem dX8_copy_157 : decode cX8_copy 157 = .ok (.bipush 40, 2) := by decide +kernel
theorem dX8_copy_159 : decode cX8_copy 159 = .ok (.iload_n 1, 1) := by decide +kernel
theorem dX8_copy_160 : decode cX8_copy 160 = .ok (.imul, 1) := by decide +kernel
theorem dX8_copy_161 : decode cX8_copy 161 = .ok (.iload_n 2, 1) := by decide +kernel
theorem dX8_copy_162 : decode cX8_copy 162 = .ok (.iadd, 1) := by decide +kernel
theorem dX8_copy_163 : decode cX8_copy 163 = .ok (.iload 7, 2) := by decide +kernel
theorem dX8_copy_165 : decode cX8_copy 165 = .ok (.iadd, 1) := by decide +kernel
theorem dX8_copy_166 : decode cX8_copy 166 = .ok (.iaload, 1) := by decide +kernel
theorem dX8_copy_167 : decode cX8_copy 167 = .ok (.iastore, 1) := by decide +kernel
theorem dX8_copy_168 : decode cX8_copy 168 = .ok (.iinc 7 1, 3) := by decide +kernel
theorem dX8_copy_171 : decode cX8_copy 171 = .ok (.goto (-31), 3) := by decide +kernel
theorem dX8_copy_174 : decode cX8_copy 174 = .ok (.iconst 0, 1) := by decide +kernel
theorem dX8_copy_175 : decode cX8_copy 175 = .ok (.istore 7, 2) := by decide +kernel
theorem dX8_copy_177 : decode cX8_copy 177 = .ok (.iload 7, 2) := by decide +kernel
theorem dX8_copy_179 : decode cX8_copy 179 = .ok (.iload 5, 2) := by decide +kernel
theorem dX8_copy_181 : decode cX8_copy 181 = .ok (.if_icmp .ge 31, 3) := by decide +kernel
theorem dX8_copy_184 : decode cX8_copy 184 = .ok (.aload_n 0, 1) := by decide +kernel
theorem dX8_copy_185 : decode cX8_copy 185 = .ok (.getfield 49, 3) := by decide +kernel
theorem dX8_copy_188 : decode cX8_copy 188 = .ok (.bipush 40, 2) := by decide +kernel
theorem dX8_copy_190 : decode cX8_copy 190 = .ok (.iload_n 3, 1) := by decide +kernel
theorem dX8_copy_191 : decode cX8_copy 191 = .ok (.imul, 1) := by decide +kernel
theorem dX8_copy_192 : decode cX8_copy 192 = .ok (.iload 4, 2) := by decide +kernel
theorem dX8_copy_194 : decode cX8_copy 194 = .ok (.iadd, 1) := by decide +kernel
theorem dX8_copy_195 : decode cX8_copy 195 = .ok (.iload 7, 2) := by decide +kernel
theorem dX8_copy_197 : decode cX8_copy 197 = .ok (.iadd, 1) := by decide +kernel
theorem dX8_copy_198 : decode cX8_copy 198 = .ok (.aload_n 0, 1) := by decide +kernel
theorem dX8_copy_199 : decode cX8_copy 199 = .ok (.getfield 52, 3) := by decide +kernel
theorem dX8_copy_202 : decode cX8_copy 202 = .ok (.iload 7, 2) := by decide +kernel
theorem dX8_copy_204 : decode cX8_copy 204 = .ok (.iaload, 1) := by decide +kernel
theorem dX8_copy_205 : decode cX8_copy 205 = .ok (.iastore, 1) := by decide +kernel
theorem dX8_copy_206 : decode cX8_copy 206 = .ok (.iinc 7 1, 3) := by decide +kernel
theorem dX8_copy_209 : decode cX8_copy 209 = .ok (.goto (-32), 3) := by decide +kernel
theorem dX8_copy_212 : decode cX8_copy 212 = .ok (.iconst 1, 1) := by decide +kernel
theorem dX8_copy_213 : decode cX8_copy 213 = .ok (.ireturn, 1) := by decide +kernel
theorem dX8_read_0 : decode cX8_read 0 = .ok (.iload_n 1, 1) := by decide +kernel
theorem dX8_read_1 : decode cX8_read 1 = .ok (.invokestatic 171, 3) := by decide +kernel
theorem dX8_read_4 : decode cX8_read 4 = .ok (.ifCond .ne 6, 3) := by decide +kernel
theorem dX8_read_7 : decode cX8_read 7 = .ok (.ldc 146, 2) := by decide +kernel
theorem dX8_read_9 : decode cX8_read 9 = .ok (.ireturn, 1) := by decide +kernel
theorem dX8_read_10 : decode cX8_read 10 = .ok (.iload_n 2, 1) := by decide +kernel
theorem dX8_read_11 : decode cX8_read 11 = .ok (.i2l, 1) := by decide +kernel
theorem dX8_read_12 : decode cX8_read 12 = .ok (.lconst 0, 1) := by decide +kernel
theorem dX8_read_13 : decode cX8_read 13 = .ok (.ldc2_w 138, 3) := by decide +kernel
theorem dX8_read_16 : decode cX8_read 16 = .ok (.invokestatic 124, 3) := by decide +kernel
theorem dX8_read_19 : decode cX8_read 19 = .ok (.ifCond .ne 6, 3) := by decide +kernel
theorem dX8_read_22 : decode cX8_read 22 = .ok (.ldc 132, 2) := by decide +kernel
theorem dX8_read_24 : decode cX8_read 24 = .ok (.ireturn, 1) := by decide +kernel
theorem dX8_read_25 : decode cX8_read 25 = .ok (.aload_n 0, 1) := by decide +kernel
theorem dX8_read_26 : decode cX8_read 26 = .ok (.getfield 43, 3) := by decide +kernel
theorem dX8_read_29 : decode cX8_read 29 = .ok (.iload_n 1, 1) := by decide +kernel
theorem dX8_read_30 : decode cX8_read 30 = .ok (.iaload, 1) := by decide +kernel
theorem dX8_read_31 : decode cX8_read 31 = .ok (.ifCond .ge 7, 3) := by decide +kernel
theorem dX8_read_34 : decode cX8_read 34 = .ok (.iconst 1, 1) := by decide +kernel
theorem dX8_read_35 : decode cX8_read 35 = .ok (.goto 19, 3) := by decide +kernel
theorem dX8_read_38 : decode cX8_read 38 = .ok (.aload_n 0, 1) := by decide +kernel
theorem dX8_read_39 : decode cX8_read 39 = .ok (.getfield 43, 3) := by decide +kernel
theorem dX8_read_42 : decode cX8_read 42 = .ok (.iload_n 1, 1) := by decide +kernel
theorem dX8_read_43 : decode cX8_read 43 = .ok (.iaload, 1) := by decide +kernel
theorem dX8_read_44 : decode cX8_read 44 = .ok (.iconst 2, 1) := by decide +kernel
theorem dX8_read_45 : decode cX8_read 45 = .ok (.irem, 1) := by decide +kernel
theorem dX8_read_46 : decode cX8_read 46 = .ok (.ifCond .eq 7, 3) := by decide +kernel
theorem dX8_read_49 : decode cX8_read 49 = .ok (.iconst 3, 1) := by decide +kernel
theorem dX8_read_50 : decode cX8_read 50 = .ok (.goto 4, 3) := by decide +kernel
theorem dX8_read_53 : decode cX8_read 53 = .ok (.iconst 0, 1) := by decide +kernel
theorem dX8_read_54 : decode cX8_read 54 = .ok (.istore_n 3, 1) := by decide +kernel
theorem dX8_read_55 : decode cX8_read 55 = .ok (.iload_n 3, 1) := by decide +kernel
theorem dX8_read_56 : decode cX8_read 56 = .ok (.ifCond .le 10, 3) := by decide +kernel
theorem dX8_read_59 : decode cX8_read 59 = .ok (.aload_n 0, 1) := by decide +kernel
theorem dX8_read_60 : decode cX8_read 60 = .ok (.iload_n 3, 1) := by decide +kernel
theorem dX8_read_61 : decode cX8_read 61 = .ok (.putfield 176, 3) := by decide +kernel
theorem dX8_read_64 : decode cX8_read 64 = .ok (.iconst 0, 1) := by decide +kernel
theorem dX8_read_65 : decode cX8_read 65 = .ok (.ireturn, 1) := by decide +kernel
theorem dX8_read_66 : decode cX8_read 66 = .ok (.aload_n 0, 1) := by decide +kernel
theorem dX8_read_67 : decode cX8_read 67 = .ok (.getfield 43, 3) := by decide +kernel
theorem dX8_read_70 : decode cX8_read 70 = .ok (.iload_n 1, 1) := by decide +kernel
theorem dX8_read_71 : decode cX8_read 71 = .ok (.iaload, 1) := by decide +kernel
theorem dX8_read_72 : decode cX8_read 72 = .ok (.iconst 2, 1) := by decide +kernel
theorem dX8_read_73 : decode cX8_read 73 = .ok (.idiv, 1) := by decide +kernel
theorem dX8_read_74 : decode cX8_read 74 = .ok (.istore 4, 2) := by decide +kernel
theorem dX8_read_76 : decode cX8_read 76 = .ok (.iconst 1, 1) := by decide +kernel
theorem dX8_read_77 : decode cX8_read 77 = .ok (.istore 5, 2) := by decide +kernel
theorem dX8_read_79 : decode cX8_read 79 = .ok (.iconst 0, 1) := by decide +kernel
theorem dX8_read_80 : decode cX8_read 80 = .ok (.istore 6, 2) := by decide +kernel
theorem dX8_read_82 : decode cX8_read 82 = .ok (.iload 6, 2) := by decide +kernel
theorem dX8_read_84 : decode cX8_read 84 = .ok (.iload 4, 2) := by decide +kernel
theorem dX8_read_86 : decode cX8_read 86 = .ok (.if_icmp .ge 77, 3) := by decide +kernel
theorem dX8_read_89 : decode cX8_read 89 = .ok (.iload 5, 2) := by decide +kernel
theorem dX8_read_91 : decode cX8_read 91 = .ok (.ifCond .eq 63, 3) := by decide +kernel
theorem dX8_read_94 : decode cX8_read 94 = .ok (.aload_n 0, 1) := by decide +kernel
theorem dX8_read_95 : decode cX8_read 95 = .ok (.getfield 49, 3) := by decide +kernel
theorem dX8_read_98 : decode cX8_read 98 = .ok (.bipush 40, 2) := by decide +kernel
theorem dX8_read_100 : decode cX8_read 100 = .ok (.iload_n 1, 1) := by decide +kernel
theorem dX8_read_101 : decode cX8_read 101 = .ok (.imul, 1) := by decide +kernel
theorem dX8_read_102 : decode cX8_read 102 = .ok (.iconst 2, 1) := by decide +kernel
theorem dX8_read_103 : decode cX8_read 103 = .ok (.iload 6, 2) := by decide +kernel
theorem dX8_read_105 : decode cX8_read 105 = .ok (.imul, 1) := by decide +kernel
theorem dX8_read_106 : decode cX8_read 106 = .ok (.iadd, 1) := by decide +kernel
theorem dX8_read_107 : decode cX8_read 107 = .ok (.iaload, 1) := by decide +kernel
theorem dX8_read_108 : decode cX8_read 108 = .ok (.i2l, 1) := by decide +kernel
theorem dX8_read_109 : decode cX8_read 109 = .ok (.lconst 0, 1) := by decide +kernel
theorem dX8_read_110 : decode cX8_read 110 = .ok (.aload_n 0, 1) := by decide +kernel
theorem dX8_read_111 : decode cX8_read 111 = .ok (.getfield 133, 3) := by decide +kernel
theorem dX8_read_114 : decode cX8_read 114 = .ok (.iconst 1, 1) := by decide +kernel
theorem dX8_read_115 : decode cX8_read 115 = .ok (.isub, 1) := by decide +kernel
theorem dX8_read_116 : decode cX8_read 116 = .ok (.i2l, 1) := by decide +kernel
theorem dX8_read_117 : decode cX8_read 117 = .ok (.invokestatic 124, 3) := by decide +kernel
theorem dX8_read_120 : decode cX8_read 120 = .ok (.ifCond .eq 34, 3) := by decide +kernel
theorem dX8_read_123 : decode cX8_read 123 = .ok (.aload_n 0, 1) := by decide +kernel
theorem dX8_read_124 : decode cX8_read 124 = .ok (.getfield 49, 3) := by decide +kernel
theorem dX8_read_127 : decode cX8_read 127 = .ok (.bipush 40, 2) := by decide +kernel
theorem dX8_read_129 : decode cX8_read 129 = .ok (.iload_n 1, 1) := by decide +kernel
theorem dX8_read_130 : decode cX8_read 130 = .ok (.imul, 1) := by decide +kernel
theorem dX8_read_131 : decode cX8_read 131 = .ok (.iconst 2, 1) := by decide +kernel
theorem dX8_read_132 : decode cX8_read 132 = .ok (.iload 6, 2) := by decide +kernel
theorem dX8_read_134 : decode cX8_read 134 = .ok (.imul, 1) := by decide +kernel
theorem dX8_read_135 : decode cX8_read 135 = .ok (.iadd, 1) := by decide +kernel
theorem dX8_read_136 : decode cX8_read 136 = .ok (.iconst 1, 1) := by decide +kernel
theorem dX8_read_137 : decode cX8_read 137 = .ok (.iadd, 1) := by decide +kernel
theorem dX8_read_138 : decode cX8_read 138 = .ok (.iaload, 1) := by decide +kernel
theorem dX8_read_139 : decode cX8_read 139 = .ok (.i2l, 1) := by decide +kernel
theorem dX8_read_140 : decode cX8_read 140 = .ok (.lconst 1, 1) := by decide +kernel
theorem dX8_read_141 : decode cX8_read 141 = .ok (.ldc2_w 147, 3) := by decide +kernel
theorem dX8_read_144 : decode cX8_read 144 = .ok (.invokestatic 124, 3) := by decide +kernel
theorem dX8_read_147 : decode cX8_read 147 = .ok (.ifCond .eq 7, 3) := by decide +kernel
theorem dX8_read_150 : decode cX8_read 150 = .ok (.iconst 1, 1) := by decide +kernel
theorem dX8_read_151 : decode cX8_read 151 = .ok (.goto 4, 3) := by decide +kernel
theorem dX8_read_154 : decode cX8_read 154 = .ok (.iconst 0, 1) := by decide +kernel
theorem dX8_read_155 : decode cX8_read 155 = .ok (.istore 5, 2) := by decide +kernel
theorem dX8_read_157 : decode cX8_read 157 = .ok (.iinc 6 1, 3) := by decide +kernel
theorem dX8_read_160 : decode cX8_read 160 = .ok (.goto (-78), 3) := by decide +kernel
theorem dX8_read_163 : decode cX8_read 163 = .ok (.iload 5, 2) := by decide +kernel
theorem dX8_read_165 : decode cX8_read 165 = .ok (.ifCond .ne 6, 3) := by decide +kernel
theorem dX8_read_168 : decode cX8_read 168 = .ok (.ldc 179, 2) := by decide +kernel
theorem dX8_read_170 : decode cX8_read 170 = .ok (.ireturn, 1) := by decide +kernel
theorem dX8_read_171 : decode cX8_read 171 = .ok (.aload_n 0, 1) := by decide +kernel
theorem dX8_read_172 : decode cX8_read 172 = .ok (.getfield 140, 3) := by decide +kernel
theorem dX8_read_175 : decode cX8_read 175 = .ok (.bipush 12, 2) := by decide +kernel
theorem dX8_read_177 : decode cX8_read 177 = .ok (.if_icmp .eq 22, 3) := by decide +kernel
theorem dX8_read_180 : decode cX8_read 180 = .ok (.iload 4, 2) := by decide +kernel
theorem dX8_read_182 : decode cX8_read 182 = .ok (.bipush 8, 2) := by decide +kernel
theorem dX8_read_184 : decode cX8_read 184 = .ok (.if_icmp .gt 15, 3) := by decide +kernel
theorem dX8_read_187 : decode cX8_read 187 = .ok (.aload_n 0, 1) := by decide +kernel
theorem dX8_read_188 : decode cX8_read 188 = .ok (.getfield 143, 3) := by decide +kernel
theorem dX8_read_191 : decode cX8_read 191 = .ok (.iload 4, 2) := by decide +kernel
theorem dX8_read_193 : decode cX8_read 193 = .ok (.iadd, 1) := by decide +kernel
theorem dX8_read_194 : decode cX8_read 194 = .ok (.bipush 32, 2) := by decide +kernel
theorem dX8_read_196 : decode cX8_read 196 = .ok (.if_icmp .le 6, 3) := by decide +kernel
theorem dX8_read_199 : decode cX8_read 199 = .ok (.ldc 137, 2) := by decide +kernel
theorem dX8_read_201 : decode cX8_read 201 = .ok (.ireturn, 1) := by decide +kernel
theorem dX8_read_202 : decode cX8_read 202 = .ok (.aload_n 0, 1) := by decide +kernel
theorem dX8_read_203 : decode cX8_read 203 = .ok (.iconst 0, 1) := by decide +kernel
theorem dX8_read_204 : decode cX8_read 204 = .ok (.putfield 176, 3) := by decide +kernel
theorem dX8_read_207 : decode cX8_read 207 = .ok (.aload_n 0, 1) := by decide +kernel
theorem dX8_read_208 : decode cX8_read 208 = .ok (.getfield 16, 3) := by decide +kernel
theorem dX8_read_211 : decode cX8_read 211 = .ok (.aload_n 0, 1) := by decide +kernel
theorem dX8_read_212 : decode cX8_read 212 = .ok (.getfield 140, 3) := by decide +kernel
theorem dX8_read_215 : decode cX8_read 215 = .ok (.iload_n 2, 1) := by decide +kernel
theorem dX8_read_216 : decode cX8_read 216 = .ok (.iastore, 1) := by decide +kernel
theorem dX8_read_217 : decode cX8_read 217 = .ok (.aload_n 0, 1) := by decide +kernel
theorem dX8_read_218 : decode cX8_read 218 = .ok (.getfield 19, 3) := by decide +kernel
theorem dX8_read_221 : decode cX8_read 221 = .ok (.aload_n 0, 1) := by decide +kernel
theorem dX8_read_222 : decode cX8_read 222 = .ok (.getfield 140, 3) := by decide +kernel
theorem dX8_read_225 : decode cX8_read 225 = .ok (.iconst 0, 1) := by decide +kernel
theorem dX8_read_226 : decode cX8_read 226 = .ok (.iastore, 1) := by decide +kernel
theorem dX8_read_227 : decode cX8_read 227 = .ok (.aload_n 0, 1) := by decide +kernel
theorem dX8_read_228 : decode cX8_read 228 = .ok (.dup, 1) := by decide +kernel
theorem dX8_read_229 : decode cX8_read 229 = .ok (.getfield 140, 3) := by decide +kernel
theorem dX8_read_232 : decode cX8_read 232 = .ok (.iconst 1, 1) := by decide +kernel
theorem dX8_read_233 : decode cX8_read 233 = .ok (.iadd, 1) := by decide +kernel
theorem dX8_read_234 : decode cX8_read 234 = .ok (.putfield 140, 3) := by decide +kernel
theorem dX8_read_237 : decode cX8_read 237 = .ok (.iconst 0, 1) := by decide +kernel
theorem dX8_read_238 : decode cX8_read 238 = .ok (.istore 6, 2) := by decide +kernel
theorem dX8_read_240 : decode cX8_read 240 = .ok (.iload 6, 2) := by decide +kernel
theorem dX8_read_242 : decode cX8_read 242 = .ok (.iload 4, 2) := by decide +kernel
theorem dX8_read_244 : decode cX8_read 244 = .ok (.if_icmp .ge 51, 3) := by decide +kernel
theorem dX8_read_247 : decode cX8_read 247 = .ok (.aload_n 0, 1) := by decide +kernel
theorem dX8_read_248 : decode cX8_read 248 = .ok (.aload_n 0, 1) := by decide +kernel
theorem dX8_read_249 : decode cX8_read 249 = .ok (.getfield 140, 3) := by decide +kernel
theorem dX8_read_252 : decode cX8_read 252 = .ok (.iconst 1, 1) := by decide +kernel
theorem dX8_read_253 : decode cX8_read 253 = .ok (.isub, 1) := by decide +kernel
theorem dX8_read_254 : decode cX8_read 254 = .ok (.aload_n 0, 1) := by decide +kernel
theorem dX8_read_255 : decode cX8_read 255 = .ok (.getfield 49, 3) := by decide +kernel
theorem dX8_read_258 : decode cX8_read 258 = .ok (.bipush 40, 2) := by decide +kernel
theorem dX8_read_260 : decode cX8_read 260 = .ok (.iload_n 1, 1) := by decide +kernel
theorem dX8_read_261 : decode cX8_read 261 = .ok (.imul, 1) := by decide +kernel
theorem dX8_read_262 : decode cX8_read 262 = .ok (.iconst 2, 1) := by decide +kernel
theorem dX8_read_263 : decode cX8_read 263 = .ok (.iload 6, 2) := by decide +kernel
theorem dX8_read_265 : decode cX8_read 265 = .ok (.imul, 1) := by decide +kernel
theorem dX8_read_266 : decode cX8_read 266 = .ok (.iadd, 1) := by decide +kernel
theorem dX8_read_267 : decode cX8_read 267 = .ok (.iaload, 1) := by decide +kernel
theorem dX8_read_268 : decode cX8_read 268 = .ok (.aload_n 0, 1) := by decide +kernel
theorem dX8_read_269 : decode cX8_read 269 = .ok (.getfield 49, 3) := by decide +kernel
theorem dX8_read_272 : decode cX8_read 272 = .ok (.bipush 40, 2) := by decide +kernel
theorem dX8_read_274 : decode cX8_read 274 = .ok (.iload_n 1, 1) := by decide +kernel
theorem dX8_read_275 : decode cX8_read 275 = .ok (.imul, 1) := by decide +kernel
theorem dX8_read_276 : decode cX8_read 276 = .ok (.iconst 2, 1) := by decide +kernel
theorem dX8_read_277 : decode cX8_read 277 = .ok (.iload 6, 2) := by decide +kernel
theorem dX8_read_279 : decode cX8_read 279 = .ok (.imul, 1) := by decide +kernel
theorem dX8_read_280 : decode cX8_read 280 = .ok (.iadd, 1) := by decide +kernel
theorem dX8_read_281 : decode cX8_read 281 = .ok (.iconst 1, 1) := by decide +kernel
theorem dX8_read_282 : decode cX8_read 282 = .ok (.iadd, 1) := by decide +kernel
theorem dX8_read_283 : decode cX8_read 283 = .ok (.iaload, 1) := by decide +kernel
theorem dX8_read_284 : decode cX8_read 284 = .ok (.invokevirtual 149, 3) := by decide +kernel
theorem dX8_read_287 : decode cX8_read 287 = .ok (.istore 7, 2) := by decide +kernel
theorem dX8_read_289 : decode cX8_read 289 = .ok (.iinc 6 1, 3) := by decide +kernel
theorem dX8_read_292 : decode cX8_read 292 = .ok (.goto (-52), 3) := by decide +kernel
theorem dX8_read_295 : decode cX8_read 295 = .ok (.aload_n 0, 1) := by decide +kernel
theorem dX8_read_296 : decode cX8_read 296 = .ok (.getfield 140, 3) := by decide +kernel
theorem dX8_read_299 : decode cX8_read 299 = .ok (.iconst 1, 1) := by decide +kernel
theorem dX8_read_300 : decode cX8_read 300 = .ok (.isub, 1) := by decide +kernel
theorem dX8_read_301 : decode cX8_read 301 = .ok (.ireturn, 1) := by decide +kernel
theorem dX8_code_0 : decode cX8_code 0 = .ok (.aload_n 0, 1) := by decide +kernel
theorem dX8_code_1 : decode cX8_code 1 = .ok (.getfield 176, 3) := by decide +kernel
theorem dX8_code_4 : decode cX8_code 4 = .ok (.ireturn, 1) := by decide +kernel
theorem dX8_ahead_0 : decode cX8_ahead 0 = .ok (.aload_n 0, 1) := by decide +kernel
theorem dX8_ahead_1 : decode cX8_ahead 1 = .ok (.getfield 34, 3) := by decide +kernel
theorem dX8_ahead_4 : decode cX8_ahead 4 = .ok (.iload_n 1, 1) := by decide +kernel
theorem dX8_ahead_5 : decode cX8_ahead 5 = .ok (.iaload, 1) := by decide +kernel
theorem dX8_ahead_6 : decode cX8_ahead 6 = .ok (.ifCond .ne 7, 3) := by decide +kernel
theorem dX8_ahead_9 : decode cX8_ahead 9 = .ok (.iconst (-1), 1) := by decide +kernel
theorem dX8_ahead_10 : decode cX8_ahead 10 = .ok (.goto 26, 3) := by decide +kernel
theorem dX8_ahead_13 : decode cX8_ahead 13 = .ok (.aload_n 0, 1) := by decide +kernel
theorem dX8_ahead_14 : decode cX8_ahead 14 = .ok (.getfield 22, 3) := by decide +kernel
theorem dX8_ahead_17 : decode cX8_ahead 17 = .ok (.bipush 8, 2) := by decide +kernel
theorem dX8_ahead_19 : decode cX8_ahead 19 = .ok (.aload_n 0, 1) := by decide +kernel
theorem dX8_ahead_20 : decode cX8_ahead 20 = .ok (.getfield 25, 3) := by decide +kernel
theorem dX8_ahead_23 : decode cX8_ahead 23 = .ok (.iload_n 1, 1) := by decide +kernel
theorem dX8_ahead_24 : decode cX8_ahead 24 = .ok (.iaload, 1) := by decide +kernel
theorem dX8_ahead_25 : decode cX8_ahead 25 = .ok (.imul, 1) := by decide +kernel
theorem dX8_ahead_26 : decode cX8_ahead 26 = .ok (.aload_n 0, 1) := by decide +kernel
theorem dX8_ahead_27 : decode cX8_ahead 27 = .ok (.getfield 34, 3) := by decide +kernel
theorem dX8_ahead_30 : decode cX8_ahead 30 = .ok (.iload_n 1, 1) := by decide +kernel
theorem dX8_ahead_31 : decode cX8_ahead 31 = .ok (.iaload, 1) := by decide +kernel
theorem dX8_ahead_32 : decode cX8_ahead 32 = .ok (.iadd, 1) := by decide +kernel
theorem dX8_ahead_33 : decode cX8_ahead 33 = .ok (.iconst 1, 1) := by decide +kernel
theorem dX8_ahead_34 : decode cX8_ahead 34 = .ok (.isub, 1) := by decide +kernel
theorem dX8_ahead_35 : decode cX8_ahead 35 = .ok (.iaload, 1) := by decide +kernel
theorem dX8_ahead_36 : decode cX8_ahead 36 = .ok (.ireturn, 1) := by decide +kernel
theorem dX8_behind_0 : decode cX8_behind 0 = .ok (.aload_n 0, 1) := by decide +kernel
theorem dX8_behind_1 : decode cX8_behind 1 = .ok (.getfield 34, 3) := by decide +kernel
theorem dX8_behind_4 : decode cX8_behind 4 = .ok (.iload_n 1, 1) := by decide +kernel
theorem dX8_behind_5 : decode cX8_behind 5 = .ok (.iaload, 1) := by decide +kernel
theorem dX8_behind_6 : decode cX8_behind 6 = .ok (.iconst 1, 1) := by decide +kernel
theorem dX8_behind_7 : decode cX8_behind 7 = .ok (.iadd, 1) := by decide +kernel
theorem dX8_behind_8 : decode cX8_behind 8 = .ok (.aload_n 0, 1) := by decide +kernel
theorem dX8_behind_9 : decode cX8_behind 9 = .ok (.getfield 19, 3) := by decide +kernel
theorem dX8_behind_12 : decode cX8_behind 12 = .ok (.aload_n 0, 1) := by decide +kernel
theorem dX8_behind_13 : decode cX8_behind 13 = .ok (.getfield 25, 3) := by decide +kernel
theorem dX8_behind_16 : decode cX8_behind 16 = .ok (.iload_n 1, 1) := by decide +kernel
theorem dX8_behind_17 : decode cX8_behind 17 = .ok (.iaload, 1) := by decide +kernel
theorem dX8_behind_18 : decode cX8_behind 18 = .ok (.iaload, 1) := by decide +kernel
theorem dX8_behind_19 : decode cX8_behind 19 = .ok (.if_icmp .ne 7, 3) := by decide +kernel
theorem dX8_behind_22 : decode cX8_behind 22 = .ok (.iconst (-1), 1) := by decide +kernel
theorem dX8_behind_23 : decode cX8_behind 23 = .ok (.goto 26, 3) := by decide +kernel
theorem dX8_behind_26 : decode cX8_behind 26 = .ok (.aload_n 0, 1) := by decide +kernel
theorem dX8_behind_27 : decode cX8_behind 27 = .ok (.getfield 22, 3) := by decide +kernel
theorem dX8_behind_30 : decode cX8_behind 30 = .ok (.bipush 8, 2) := by decide +kernel
theorem dX8_behind_32 : decode cX8_behind 32 = .ok (.aload_n 0, 1) := by decide +kernel
theorem dX8_behind_33 : decode cX8_behind 33 = .ok (.getfield 25, 3) := by decide +kernel
theorem dX8_behind_36 : decode cX8_behind 36 = .ok (.iload_n 1, 1) := by decide +kernel
theorem dX8_behind_37 : decode cX8_behind 37 = .ok (.iaload, 1) := by decide +kernel
theorem dX8_behind_38 : decode cX8_behind 38 = .ok (.imul, 1) := by decide +kernel
theorem dX8_behind_39 : decode cX8_behind 39 = .ok (.aload_n 0, 1) := by decide +kernel
theorem dX8_behind_40 : decode cX8_behind 40 = .ok (.getfield 34, 3) := by decide +kernel
theorem dX8_behind_43 : decode cX8_behind 43 = .ok (.iload_n 1, 1) := by decide +kernel
theorem dX8_behind_44 : decode cX8_behind 44 = .ok (.iaload, 1) := by decide +kernel
theorem dX8_behind_45 : decode cX8_behind 45 = .ok (.iadd, 1) := by decide +kernel
theorem dX8_behind_46 : decode cX8_behind 46 = .ok (.iconst 1, 1) := by decide +kernel
theorem dX8_behind_47 : decode cX8_behind 47 = .ok (.iadd, 1) := by decide +kernel
theorem dX8_behind_48 : decode cX8_behind 48 = .ok (.iaload, 1) := by decide +kernel
theorem dX8_behind_49 : decode cX8_behind 49 = .ok (.ireturn, 1) := by decide +kernel
theorem dX8_fromOrder_0 : decode cX8_fromOrder 0 = .ok (.aload_n 0, 1) := by decide +kernel
theorem dX8_fromOrder_1 : decode cX8_fromOrder 1 = .ok (.getfield 7, 3) := by decide +kernel
theorem dX8_fromOrder_4 : decode cX8_fromOrder 4 = .ok (.iload_n 1, 1) := by decide +kernel
theorem dX8_fromOrder_5 : decode cX8_fromOrder 5 = .ok (.iaload, 1) := by decide +kernel
theorem dX8_fromOrder_6 : decode cX8_fromOrder 6 = .ok (.iconst 1, 1) := by decide +kernel
theorem dX8_fromOrder_7 : decode cX8_fromOrder 7 = .ok (.if_icmp .eq 7, 3) := by decide +kernel
theorem dX8_fromOrder_10 : decode cX8_fromOrder 10 = .ok (.iload_n 2, 1) := by decide +kernel
theorem dX8_fromOrder_11 : decode cX8_fromOrder 11 = .ok (.ifCond .ne 5, 3) := by decide +kernel
theorem dX8_fromOrder_14 : decode cX8_fromOrder 14 = .ok (.iconst 0, 1) := by decide +kernel
theorem dX8_fromOrder_15 : decode cX8_fromOrder 15 = .ok (.ireturn, 1) := by decide +kernel
theorem dX8_fromOrder_16 : decode cX8_fromOrder 16 = .ok (.aload_n 0, 1) := by decide +kernel
theorem dX8_fromOrder_17 : decode cX8_fromOrder 17 = .ok (.getfield 37, 3) := by decide +kernel
theorem dX8_fromOrder_20 : decode cX8_fromOrder 20 = .ok (.bipush 32, 2) := by decide +kernel
theorem dX8_fromOrder_22 : decode cX8_fromOrder 22 = .ok (.iload_n 1, 1) := by decide +kernel
theorem dX8_fromOrder_23 : decode cX8_fromOrder 23 = .ok (.imul, 1) := by decide +kernel
theorem dX8_fromOrder_24 : decode cX8_fromOrder 24 = .ok (.iload_n 2, 1) := by decide +kernel
theorem dX8_fromOrder_25 : decode cX8_fromOrder 25 = .ok (.iadd, 1) := by decide +kernel
theorem dX8_fromOrder_26 : decode cX8_fromOrder 26 = .ok (.iconst 1, 1) := by decide +kernel
theorem dX8_fromOrder_27 : decode cX8_fromOrder 27 = .ok (.isub, 1) := by decide +kernel
theorem dX8_fromOrder_28 : decode cX8_fromOrder 28 = .ok (.iaload, 1) := by decide +kernel
theorem dX8_fromOrder_29 : decode cX8_fromOrder 29 = .ok (.istore 4, 2) := by decide +kernel
theorem dX8_fromOrder_31 : decode cX8_fromOrder 31 = .ok (.aload_n 0, 1) := by decide +kernel
theorem dX8_fromOrder_32 : decode cX8_fromOrder 32 = .ok (.getfield 7, 3) := by decide +kernel
theorem dX8_fromOrder_35 : decode cX8_fromOrder 35 = .ok (.iload_n 1, 1) := by decide +kernel
theorem dX8_fromOrder_36 : decode cX8_fromOrder 36 = .ok (.iaload, 1) := by decide +kernel
theorem dX8_fromOrder_37 : decode cX8_fromOrder 37 = .ok (.iconst 3, 1) := by decide +kernel
theorem dX8_fromOrder_38 : decode cX8_fromOrder 38 = .ok (.if_icmp .eq 70, 3) := by decide +kernel
theorem dX8_fromOrder_41 : decode cX8_fromOrder 41 = .ok (.aload_n 0, 1) := by decide +kernel
theorem dX8_fromOrder_42 : decode cX8_fromOrder 42 = .ok (.getfield 7, 3) := by decide +kernel
theorem dX8_fromOrder_45 : decode cX8_fromOrder 45 = .ok (.iload_n 1, 1) := by decide +kernel
theorem dX8_fromOrder_46 : decode cX8_fromOrder 46 = .ok (.iaload, 1) := by decide +kernel
theorem dX8_fromOrder_47 : decode cX8_fromOrder 47 = .ok (.iconst 2, 1) := by decide +kernel
theorem dX8_fromOrder_48 : decode cX8_fromOrder 48 = .ok (.if_icmp .ne 38, 3) := by decide +kernel
theorem dX8_fromOrder_51 : decode cX8_fromOrder 51 = .ok (.aload_n 0, 1) := by decide +kernel
theorem dX8_fromOrder_52 : decode cX8_fromOrder 52 = .ok (.getfield 16, 3) := by decide +kernel
theorem dX8_fromOrder_55 : decode cX8_fromOrder 55 = .ok (.aload_n 0, 1) := by decide +kernel
theorem dX8_fromOrder_56 : decode cX8_fromOrder 56 = .ok (.getfield 25, 3) := by decide +kernel
theorem dX8_fromOrder_59 : decode cX8_fromOrder 59 = .ok (.iload 4, 2) := by decide +kernel
theorem dX8_fromOrder_61 : decode cX8_fromOrder 61 = .ok (.iaload, 1) := by decide +kernel
theorem dX8_fromOrder_62 : decode cX8_fromOrder 62 = .ok (.iaload, 1) := by decide +kernel
theorem dX8_fromOrder_63 : decode cX8_fromOrder 63 = .ok (.aload_n 0, 1) := by decide +kernel
theorem dX8_fromOrder_64 : decode cX8_fromOrder 64 = .ok (.getfield 16, 3) := by decide +kernel
theorem dX8_fromOrder_67 : decode cX8_fromOrder 67 = .ok (.aload_n 0, 1) := by decide +kernel
theorem dX8_fromOrder_68 : decode cX8_fromOrder 68 = .ok (.getfield 25, 3) := by decide +kernel
theorem dX8_fromOrder_71 : decode cX8_fromOrder 71 = .ok (.iload_n 3, 1) := by decide +kernel
theorem dX8_fromOrder_72 : decode cX8_fromOrder 72 = .ok (.iaload, 1) := by decide +kernel
theorem dX8_fromOrder_73 : decode cX8_fromOrder 73 = .ok (.iaload, 1) := by decide +kernel
theorem dX8_fromOrder_74 : decode cX8_fromOrder 74 = .ok (.if_icmp .eq 12, 3) := by decide +kernel
theorem dX8_fromOrder_77 : decode cX8_fromOrder 77 = .ok (.aload_n 0, 1) := by decide +kernel
theorem dX8_fromOrder_78 : decode cX8_fromOrder 78 = .ok (.getfield 13, 3) := by decide +kernel
theorem dX8_fromOrder_81 : decode cX8_fromOrder 81 = .ok (.iload_n 1, 1) := by decide +kernel
theorem dX8_fromOrder_82 : decode cX8_fromOrder 82 = .ok (.iaload, 1) := by decide +kernel
theorem dX8_fromOrder_83 : decode cX8_fromOrder 83 = .ok (.goto 4, 3) := by decide +kernel
theorem dX8_fromOrder_86 : decode cX8_fromOrder 86 = .ok (.iconst 0, 1) := by decide +kernel
theorem dX8_fromOrder_87 : decode cX8_fromOrder 87 = .ok (.istore 5, 2) := by decide +kernel
theorem dX8_fromOrder_89 : decode cX8_fromOrder 89 = .ok (.aload_n 0, 1) := by decide +kernel
theorem dX8_fromOrder_90 : decode cX8_fromOrder 90 = .ok (.getfield 55, 3) := by decide +kernel
theorem dX8_fromOrder_93 : decode cX8_fromOrder 93 = .ok (.iload 4, 2) := by decide +kernel
theorem dX8_fromOrder_95 : decode cX8_fromOrder 95 = .ok (.iaload, 1) := by decide +kernel
theorem dX8_fromOrder_96 : decode cX8_fromOrder 96 = .ok (.aload_n 0, 1) := by decide +kernel
theorem dX8_fromOrder_97 : decode cX8_fromOrder 97 = .ok (.getfield 31, 3) := by decide +kernel
theorem dX8_fromOrder_100 : decode cX8_fromOrder 100 = .ok (.iload 4, 2) := by decide +kernel
theorem dX8_fromOrder_102 : decode cX8_fromOrder 102 = .ok (.iaload, 1) := by decide +kernel
theorem dX8_fromOrder_103 : decode cX8_fromOrder 103 = .ok (.iadd, 1) := by decide +kernel
theorem dX8_fromOrder_104 : decode cX8_fromOrder 104 = .ok (.iload 5, 2) := by decide +kernel
theorem dX8_fromOrder_106 : decode cX8_fromOrder 106 = .ok (.iadd, 1) := by decide +kernel
theorem dX8_fromOrder_107 : decode cX8_fromOrder 107 = .ok (.ireturn, 1) := by decide +kernel
theorem dX8_fromOrder_108 : decode cX8_fromOrder 108 = .ok (.aload_n 0, 1) := by decide +kernel
theorem dX8_fromOrder_109 : decode cX8_fromOrder 109 = .ok (.getfield 55, 3) := by decide +kernel
theorem dX8_fromOrder_112 : decode cX8_fromOrder 112 = .ok (.iload 4, 2) := by decide +kernel
theorem dX8_fromOrder_114 : decode cX8_fromOrder 114 = .ok (.iaload, 1) := by decide +kernel
theorem dX8_fromOrder_115 : decode cX8_fromOrder 115 = .ok (.istore 5, 2) := by decide +kernel
theorem dX8_fromOrder_117 : decode cX8_fromOrder 117 = .ok (.aload_n 0, 1) := by decide +kernel
theorem dX8_fromOrder_118 : decode cX8_fromOrder 118 = .ok (.getfield 13, 3) := by decide +kernel
theorem dX8_fromOrder_121 : decode cX8_fromOrder 121 = .ok (.iload_n 1, 1) := by decide +kernel
theorem dX8_fromOrder_122 : decode cX8_fromOrder 122 = .ok (.iaload, 1) := by decide +kernel
theorem dX8_fromOrder_123 : decode cX8_fromOrder 123 = .ok (.istore 6, 2) := by decide +kernel
theorem dX8_fromOrder_125 : decode cX8_fromOrder 125 = .ok (.iload_n 2, 1) := by decide +kernel
theorem dX8_fromOrder_126 : decode cX8_fromOrder 126 = .ok (.iload 6, 2) := by decide +kernel
theorem dX8_fromOrder_128 : decode cX8_fromOrder 128 = .ok (.if_icmp .lt 133, 3) := by decide +kernel
theorem dX8_fromOrder_131 : decode cX8_fromOrder 131 = .ok (.iconst 0, 1) := by decide +kernel
theorem dX8_fromOrder_132 : decode cX8_fromOrder 132 = .ok (.istore 7, 2) := by decide +kernel
theorem dX8_fromOrder_134 : decode cX8_fromOrder 134 = .ok (.iload 7, 2) := by decide +kernel
theorem dX8_fromOrder_136 : decode cX8_fromOrder 136 = .ok (.iload_n 2, 1) := by decide +kernel
theorem dX8_fromOrder_137 : decode cX8_fromOrder 137 = .ok (.if_icmp .ge 94, 3) := by decide +kernel
theorem dX8_fromOrder_140 : decode cX8_fromOrder 140 = .ok (.aload_n 0, 1) := by decide +kernel
theorem dX8_fromOrder_141 : decode cX8_fromOrder 141 = .ok (.getfield 37, 3) := by decide +kernel
theorem dX8_fromOrder_144 : decode cX8_fromOrder 144 = .ok (.bipush 32, 2) := by decide +kernel
theorem dX8_fromOrder_146 : decode cX8_fromOrder 146 = .ok (.iload_n 1, 1) := by decide +kernel
theorem dX8_fromOrder_147 : decode cX8_fromOrder 147 = .ok (.imul, 1) := by decide +kernel
theorem dX8_fromOrder_148 : decode cX8_fromOrder 148 = .ok (.iload 7, 2) := by decide +kernel
theorem dX8_fromOrder_150 : decode cX8_fromOrder 150 = .ok (.iadd, 1) := by decide +kernel
theorem dX8_fromOrder_151 : decode cX8_fromOrder 151 = .ok (.iaload, 1) := by decide +kernel
theorem dX8_fromOrder_152 : decode cX8_fromOrder 152 = .ok (.istore 8, 2) := by decide +kernel
theorem dX8_fromOrder_154 : decode cX8_fromOrder 154 = .ok (.aload_n 0, 1) := by decide +kernel
theorem dX8_fromOrder_155 : decode cX8_fromOrder 155 = .ok (.getfield 55, 3) := by decide +kernel
theorem dX8_fromOrder_158 : decode cX8_fromOrder 158 = .ok (.iload 8, 2) := by decide +kernel
theorem dX8_fromOrder_160 : decode cX8_fromOrder 160 = .ok (.iaload, 1) := by decide +kernel
theorem dX8_fromOrder_161 : decode cX8_fromOrder 161 = .ok (.aload_n 0, 1) := by decide +kernel
theorem dX8_fromOrder_162 : decode cX8_fromOrder 162 = .ok (.getfield 31, 3) := by decide +kernel
theorem dX8_fromOrder_165 : decode cX8_fromOrder 165 = .ok (.iload 8, 2) := by decide +kernel
theorem dX8_fromOrder_167 : decode cX8_fromOrder 167 = .ok (.iaload, 1) := by decide +kernel
theorem dX8_fromOrder_168 : decode cX8_fromOrder 168 = .ok (.iadd, 1) := by decide +kernel
theorem dX8_fromOrder_169 : decode cX8_fromOrder 169 = .ok (.istore 9, 2) := by decide +kernel
theorem dX8_fromOrder_171 : decode cX8_fromOrder 171 = .ok (.iload 7, 2) := by decide +kernel
theorem dX8_fromOrder_173 : decode cX8_fromOrder 173 = .ok (.istore 10, 2) := by decide +kernel
theorem dX8_fromOrder_175 : decode cX8_fromOrder 175 = .ok (.iload 10, 2) := by decide +kernel
theorem dX8_fromOrder_177 : decode cX8_fromOrder 177 = .ok (.ifCond .le 39, 3) := by decide +kernel
theorem dX8_fromOrder_180 : decode cX8_fromOrder 180 = .ok (.aload_n 0, 1) := by decide +kernel
theorem dX8_fromOrder_181 : decode cX8_fromOrder 181 = .ok (.getfield 62, 3) := by decide +kernel
theorem dX8_fromOrder_184 : decode cX8_fromOrder 184 = .ok (.iload 10, 2) := by decide +kernel
theorem dX8_fromOrder_186 : decode cX8_fromOrder 186 = .ok (.iconst 1, 1) := by decide +kernel
theorem dX8_fromOrder_187 : decode cX8_fromOrder 187 = .ok (.isub, 1) := by decide +kernel
theorem dX8_fromOrder_188 : decode cX8_fromOrder 188 = .ok (.iaload, 1) := by decide +kernel
theorem dX8_fromOrder_189 : decode cX8_fromOrder 189 = .ok (.iload 9, 2) := by decide +kernel
theorem dX8_fromOrder_191 : decode cX8_fromOrder 191 = .ok (.if_icmp .ge 25, 3) := by decide +kernel
theorem dX8_fromOrder_194 : decode cX8_fromOrder 194 = .ok (.aload_n 0, 1) := by decide +kernel
theorem dX8_fromOrder_195 : decode cX8_fromOrder 195 = .ok (.getfield 62, 3) := by decide +kernel
theorem dX8_fromOrder_198 : decode cX8_fromOrder 198 = .ok (.iload 10, 2) := by decide +kernel
theorem dX8_fromOrder_200 : decode cX8_fromOrder 200 = .ok (.aload_n 0, 1) := by decide +kernel
theorem dX8_fromOrder_201 : decode cX8_fromOrder 201 = .ok (.getfield 62, 3) := by decide +kernel
theorem dX8_fromOrder_204 : decode cX8_fromOrder 204 = .ok (.iload 10, 2) := by decide +kernel
theorem dX8_fromOrder_206 : decode cX8_fromOrder 206 = .ok (.iconst 1, 1) := by decide +kernel
theorem dX8_fromOrder_207 : decode cX8_fromOrder 207 = .ok (.isub, 1) := by decide +kernel
theorem dX8_fromOrder_208 : decode cX8_fromOrder 208 = .ok (.iaload, 1) := by decide +kernel
theorem dX8_fromOrder_209 : decode cX8_fromOrder 209 = .ok (.iastore, 1) := by decide +kernel
theorem dX8_fromOrder_210 : decode cX8_fromOrder 210 = .ok (.iinc 10 (-1), 3) := by decide +kernel
theorem dX8_fromOrder_213 : decode cX8_fromOrder 213 = .ok (.goto (-38), 3) := by decide +kernel
theorem dX8_fromOrder_216 : decode cX8_fromOrder 216 = .ok (.aload_n 0, 1) := by decide +kernel
theorem dX8_fromOrder_217 : decode cX8_fromOrder 217 = .ok (.getfield 62, 3) := by decide +kernel
theorem dX8_fromOrder_220 : decode cX8_fromOrder 220 = .ok (.iload 10, 2) := by decide +kernel
theorem dX8_fromOrder_222 : decode cX8_fromOrder 222 = .ok (.iload 9, 2) := by decide +kernel
theorem dX8_fromOrder_224 : decode cX8_fromOrder 224 = .ok (.iastore, 1) := by decide +kernel
theorem dX8_fromOrder_225 : decode cX8_fromOrder 225 = .ok (.iinc 7 1, 3) := by decide +kernel
theorem dX8_fromOrder_228 : decode cX8_fromOrder 228 = .ok (.goto (-94), 3) := by decide +kernel
theorem dX8_fromOrder_231 : decode cX8_fromOrder 231 = .ok (.aload_n 0, 1) := by decide +kernel
theorem dX8_fromOrder_232 : decode cX8_fromOrder 232 = .ok (.getfield 62, 3) := by decide +kernel
theorem dX8_fromOrder_235 : decode cX8_fromOrder 235 = .ok (.iload 6, 2) := by decide +kernel
theorem dX8_fromOrder_237 : decode cX8_fromOrder 237 = .ok (.iconst 1, 1) := by decide +kernel
theorem dX8_fromOrder_238 : decode cX8_fromOrder 238 = .ok (.isub, 1) := by decide +kernel
theorem dX8_fromOrder_239 : decode cX8_fromOrder 239 = .ok (.iaload, 1) := by decide +kernel
theorem dX8_fromOrder_240 : decode cX8_fromOrder 240 = .ok (.iload 5, 2) := by decide +kernel
theorem dX8_fromOrder_242 : decode cX8_fromOrder 242 = .ok (.if_icmp .le 15, 3) := by decide +kernel
theorem dX8_fromOrder_245 : decode cX8_fromOrder 245 = .ok (.aload_n 0, 1) := by decide +kernel
theorem dX8_fromOrder_246 : decode cX8_fromOrder 246 = .ok (.getfield 62, 3) := by decide +kernel
theorem dX8_fromOrder_249 : decode cX8_fromOrder 249 = .ok (.iload 6, 2) := by decide +kernel
theorem dX8_fromOrder_251 : decode cX8_fromOrder 251 = .ok (.iconst 1, 1) := by decide +kernel
theorem dX8_fromOrder_252 : decode cX8_fromOrder 252 = .ok (.isub, 1) := by decide +kernel
theorem dX8_fromOrder_253 : decode cX8_fromOrder 253 = .ok (.iaload, 1) := by decide +kernel
theorem dX8_fromOrder_254 : decode cX8_fromOrder 254 = .ok (.goto 5, 3) := by decide +kernel
theorem dX8_fromOrder_257 : decode cX8_fromOrder 257 = .ok (.iload 5, 2) := by decide +kernel
theorem dX8_fromOrder_259 : decode cX8_fromOrder 259 = .ok (.istore 5, 2) := by decide +kernel
theorem dX8_fromOrder_261 : decode cX8_fromOrder 261 = .ok (.iload 5, 2) := by decide +kernel
theorem dX8_fromOrder_263 : decode cX8_fromOrder 263 = .ok (.ireturn, 1) := by decide +kernel
theorem dX8_isReady_0 : decode cX8_isReady 0 = .ok (.aload_n 0, 1) := by decide +kernel
theorem dX8_isReady_1 : decode cX8_isReady 1 = .ok (.iload_n 1, 1) := by decide +kernel
theorem dX8_isReady_2 : decode cX8_isReady 2 = .ok (.invokevirtual 180, 3) := by decide +kernel
theorem dX8_isReady_5 : decode cX8_isReady 5 = .ok (.istore_n 2, 1) := by decide +kernel
theorem dX8_isReady_6 : decode cX8_isReady 6 = .ok (.iload_n 2, 1) := by decide +kernel
theorem dX8_isReady_7 : decode cX8_isReady 7 = .ok (.ifCond .lt 14, 3) := by decide +kernel
theorem dX8_isReady_10 : decode cX8_isReady 10 = .ok (.aload_n 0, 1) := by decide +kernel
theorem dX8_isReady_11 : decode cX8_isReady 11 = .ok (.getfield 58, 3) := by decide +kernel
theorem dX8_isReady_14 : decode cX8_isReady 14 = .ok (.iload_n 2, 1) := by decide +kernel
theorem dX8_isReady_15 : decode cX8_isReady 15 = .ok (.baload, 1) := by decide +kernel
theorem dX8_isReady_16 : decode cX8_isReady 16 = .ok (.ifCond .ne 5, 3) := by decide +kernel
theorem dX8_isReady_19 : decode cX8_isReady 19 = .ok (.iconst 0, 1) := by decide +kernel
theorem dX8_isReady_20 : decode cX8_isReady 20 = .ok (.ireturn, 1) := by decide +kernel
theorem dX8_isReady_21 : decode cX8_isReady 21 = .ok (.aload_n 0, 1) := by decide +kernel
theorem dX8_isReady_22 : decode cX8_isReady 22 = .ok (.getfield 28, 3) := by decide +kernel
theorem dX8_isReady_25 : decode cX8_isReady 25 = .ok (.iload_n 1, 1) := by decide +kernel
theorem dX8_isReady_26 : decode cX8_isReady 26 = .ok (.iaload, 1) := by decide +kernel
theorem dX8_isReady_27 : decode cX8_isReady 27 = .ok (.istore_n 3, 1) := by decide +kernel
theorem dX8_isReady_28 : decode cX8_isReady 28 = .ok (.iconst 1, 1) := by decide +kernel
theorem dX8_isReady_29 : decode cX8_isReady 29 = .ok (.istore 4, 2) := by decide +kernel
theorem dX8_isReady_31 : decode cX8_isReady 31 = .ok (.aload_n 0, 1) := by decide +kernel
theorem dX8_isReady_32 : decode cX8_isReady 32 = .ok (.iload_n 1, 1) := by decide +kernel
theorem dX8_isReady_33 : decode cX8_isReady 33 = .ok (.invokevirtual 157, 3) := by decide +kernel
theorem dX8_isReady_36 : decode cX8_isReady 36 = .ok (.iconst 1, 1) := by decide +kernel
theorem dX8_isReady_37 : decode cX8_isReady 37 = .ok (.isub, 1) := by decide +kernel
theorem dX8_isReady_38 : decode cX8_isReady 38 = .ok (.istore 5, 2) := by decide +kernel
theorem dX8_isReady_40 : decode cX8_isReady 40 = .ok (.iload 5, 2) := by decide +kernel
theorem dX8_isReady_42 : decode cX8_isReady 42 = .ok (.ifCond .lt 43, 3) := by decide +kernel
theorem dX8_isReady_45 : decode cX8_isReady 45 = .ok (.iload 4, 2) := by decide +kernel
theorem dX8_isReady_47 : decode cX8_isReady 47 = .ok (.ifCond .eq 38, 3) := by decide +kernel
theorem dX8_isReady_50 : decode cX8_isReady 50 = .ok (.aload_n 0, 1) := by decide +kernel
theorem dX8_isReady_51 : decode cX8_isReady 51 = .ok (.getfield 7, 3) := by decide +kernel
theorem dX8_isReady_54 : decode cX8_isReady 54 = .ok (.iload_n 3, 1) := by decide +kernel
theorem dX8_isReady_55 : decode cX8_isReady 55 = .ok (.iaload, 1) := by decide +kernel
theorem dX8_isReady_56 : decode cX8_isReady 56 = .ok (.iconst 1, 1) := by decide +kernel
theorem dX8_isReady_57 : decode cX8_isReady 57 = .ok (.if_icmp .eq 28, 3) := by decide +kernel
theorem dX8_isReady_60 : decode cX8_isReady 60 = .ok (.aload_n 0, 1) := by decide +kernel
theorem dX8_isReady_61 : decode cX8_isReady 61 = .ok (.getfield 58, 3) := by decide +kernel
theorem dX8_isReady_64 : decode cX8_isReady 64 = .ok (.aload_n 0, 1) := by decide +kernel
theorem dX8_isReady_65 : decode cX8_isReady 65 = .ok (.getfield 37, 3) := by decide +kernel
theorem dX8_isReady_68 : decode cX8_isReady 68 = .ok (.bipush 32, 2) := by decide +kernel
theorem dX8_isReady_70 : decode cX8_isReady 70 = .ok (.iload_n 3, 1) := by decide +kernel
theorem dX8_isReady_71 : decode cX8_isReady 71 = .ok (.imul, 1) := by decide +kernel
theorem dX8_isReady_72 : decode cX8_isReady 72 = .ok (.iload 5, 2) := by decide +kernel
theorem dX8_isReady_74 : decode cX8_isReady 74 = .ok (.iadd, 1) := by decide +kernel
theorem dX8_isReady_75 : decode cX8_isReady 75 = .ok (.iaload, 1) := by decide +kernel
theorem dX8_isReady_76 : decode cX8_isReady 76 = .ok (.baload, 1) := by decide +kernel
theorem dX8_isReady_77 : decode cX8_isReady 77 = .ok (.istore 4, 2) := by decide +kernel
theorem dX8_isReady_79 : decode cX8_isReady 79 = .ok (.iinc 5 (-1), 3) := by decide +kernel
theorem dX8_isReady_82 : decode cX8_isReady 82 = .ok (.goto (-42), 3) := by decide +kernel
theorem dX8_isReady_85 : decode cX8_isReady 85 = .ok (.iload 4, 2) := by decide +kernel
theorem dX8_isReady_87 : decode cX8_isReady 87 = .ok (.ireturn, 1) := by decide +kernel
theorem dX8_work_0 : decode cX8_work 0 = .ok (.iconst 0, 1) := by decide +kernel
theorem dX8_work_1 : decode cX8_work 1 = .ok (.istore_n 1, 1) := by decide +kernel
theorem dX8_work_2 : decode cX8_work 2 = .ok (.iload_n 1, 1) := by decide +kernel
theorem dX8_work_3 : decode cX8_work 3 = .ok (.aload_n 0, 1) := by decide +kernel
theorem dX8_work_4 : decode cX8_work 4 = .ok (.getfield 143, 3) := by decide +kernel
theorem dX8_work_7 : decode cX8_work 7 = .ok (.if_icmp .ge 16, 3) := by decide +kernel
theorem dX8_work_10 : decode cX8_work 10 = .ok (.aload_n 0, 1) := by decide +kernel
theorem dX8_work_11 : decode cX8_work 11 = .ok (.getfield 58, 3) := by decide +kernel
theorem dX8_work_14 : decode cX8_work 14 = .ok (.iload_n 1, 1) := by decide +kernel
theorem dX8_work_15 : decode cX8_work 15 = .ok (.iconst 0, 1) := by decide +kernel
theorem dX8_work_16 : decode cX8_work 16 = .ok (.bastore, 1) := by decide +kernel
theorem dX8_work_17 : decode cX8_work 17 = .ok (.iinc 1 1, 3) := by decide +kernel
theorem dX8_work_20 : decode cX8_work 20 = .ok (.goto (-18), 3) := by decide +kernel
theorem dX8_work_23 : decode cX8_work 23 = .ok (.aload_n 0, 1) := by decide +kernel
theorem dX8_work_24 : decode cX8_work 24 = .ok (.iconst 0, 1) := by decide +kernel
theorem dX8_work_25 : decode cX8_work 25 = .ok (.putfield 183, 3) := by decide +kernel
theorem dX8_work_28 : decode cX8_work 28 = .ok (.iconst 0, 1) := by decide +kernel
theorem dX8_work_29 : decode cX8_work 29 = .ok (.istore_n 1, 1) := by decide +kernel
theorem dX8_work_30 : decode cX8_work 30 = .ok (.iconst 1, 1) := by decide +kernel
theorem dX8_work_31 : decode cX8_work 31 = .ok (.istore_n 2, 1) := by decide +kernel
theorem dX8_work_32 : decode cX8_work 32 = .ok (.iload_n 2, 1) := by decide +kernel
theorem dX8_work_33 : decode cX8_work 33 = .ok (.ifCond .eq 168, 3) := by decide +kernel
theorem dX8_work_36 : decode cX8_work 36 = .ok (.iconst 0, 1) := by decide +kernel
theorem dX8_work_37 : decode cX8_work 37 = .ok (.istore_n 2, 1) := by decide +kernel
theorem dX8_work_38 : decode cX8_work 38 = .ok (.iconst 0, 1) := by decide +kernel
theorem dX8_work_39 : decode cX8_work 39 = .ok (.istore_n 3, 1) := by decide +kernel
theorem dX8_work_40 : decode cX8_work 40 = .ok (.iload_n 3, 1) := by decide +kernel
theorem dX8_work_41 : decode cX8_work 41 = .ok (.aload_n 0, 1) := by decide +kernel
theorem dX8_work_42 : decode cX8_work 42 = .ok (.getfield 143, 3) := by decide +kernel
theorem dX8_work_45 : decode cX8_work 45 = .ok (.if_icmp .ge 153, 3) := by decide +kernel
theorem dX8_work_48 : decode cX8_work 48 = .ok (.aload_n 0, 1) := by decide +kernel
theorem dX8_work_49 : decode cX8_work 49 = .ok (.getfield 58, 3) := by decide +kernel
theorem dX8_work_52 : decode cX8_work 52 = .ok (.iload_n 3, 1) := by decide +kernel
theorem dX8_work_53 : decode cX8_work 53 = .ok (.baload, 1) := by decide +kernel
theorem dX8_work_54 : decode cX8_work 54 = .ok (.ifCond .ne 138, 3) := by decide +kernel
theorem dX8_work_57 : decode cX8_work 57 = .ok (.aload_n 0, 1) := by decide +kernel
theorem dX8_work_58 : decode cX8_work 58 = .ok (.iload_n 3, 1) := by decide +kernel
theorem dX8_work_59 : decode cX8_work 59 = .ok (.invokevirtual 186, 3) := by decide +kernel
theorem dX8_work_62 : decode cX8_work 62 = .ok (.ifCond .eq 130, 3) := by decide +kernel
theorem dX8_work_65 : decode cX8_work 65 = .ok (.aload_n 0, 1) := by decide +kernel
theorem dX8_work_66 : decode cX8_work 66 = .ok (.iload_n 3, 1) := by decide +kernel
theorem dX8_work_67 : decode cX8_work 67 = .ok (.invokevirtual 180, 3) := by decide +kernel
theorem dX8_work_70 : decode cX8_work 70 = .ok (.istore 4, 2) := by decide +kernel
theorem dX8_work_72 : decode cX8_work 72 = .ok (.iload 4, 2) := by decide +kernel
theorem dX8_work_74 : decode cX8_work 74 = .ok (.ifCond .ge 7, 3) := by decide +kernel
theorem dX8_work_77 : decode cX8_work 77 = .ok (.iconst 0, 1) := by decide +kernel
theorem dX8_work_78 : decode cX8_work 78 = .ok (.goto 18, 3) := by decide +kernel
theorem dX8_work_81 : decode cX8_work 81 = .ok (.aload_n 0, 1) := by decide +kernel
theorem dX8_work_82 : decode cX8_work 82 = .ok (.getfield 55, 3) := by decide +kernel
theorem dX8_work_85 : decode cX8_work 85 = .ok (.iload 4, 2) := by decide +kernel
theorem dX8_work_87 : decode cX8_work 87 = .ok (.iaload, 1) := by decide +kernel
theorem dX8_work_88 : decode cX8_work 88 = .ok (.aload_n 0, 1) := by decide +kernel
theorem dX8_work_89 : decode cX8_work 89 = .ok (.getfield 31, 3) := by decide +kernel
theorem dX8_work_92 : decode cX8_work 92 = .ok (.iload 4, 2) := by decide +kernel
theorem dX8_work_94 : decode cX8_work 94 = .ok (.iaload, 1) := by decide +kernel
theorem dX8_work_95 : decode cX8_work 95 = .ok (.iadd, 1) := by decide +kernel
theorem dX8_work_96 : decode cX8_work 96 = .ok (.istore 5, 2) := by decide +kernel
theorem dX8_work_98 : decode cX8_work 98 = .ok (.aload_n 0, 1) := by decide +kernel
theorem dX8_work_99 : decode cX8_work 99 = .ok (.aload_n 0, 1) := by decide +kernel
theorem dX8_work_100 : decode cX8_work 100 = .ok (.getfield 28, 3) := by decide +kernel
theorem dX8_work_103 : decode cX8_work 103 = .ok (.iload_n 3, 1) := by decide +kernel
theorem dX8_work_104 : decode cX8_work 104 = .ok (.iaload, 1) := by decide +kernel
theorem dX8_work_105 : decode cX8_work 105 = .ok (.aload_n 0, 1) := by decide +kernel
theorem dX8_work_106 : decode cX8_work 106 = .ok (.iload_n 3, 1) := by decide +kernel
theorem dX8_work_107 : decode cX8_work 107 = .ok (.invokevirtual 157, 3) := by decide +kernel
theorem dX8_work_110 : decode cX8_work 110 = .ok (.iload_n 3, 1) := by decide +kernel
theorem dX8_work_111 : decode cX8_work 111 = .ok (.invokevirtual 189, 3) := by decide +kernel
theorem dX8_work_114 : decode cX8_work 114 = .ok (.istore 6, 2) := by decide +kernel
theorem dX8_work_116 : decode cX8_work 116 = .ok (.aload_n 0, 1) := by decide +kernel
theorem dX8_work_117 : decode cX8_work 117 = .ok (.getfield 55, 3) := by decide +kernel
theorem dX8_work_120 : decode cX8_work 120 = .ok (.iload_n 3, 1) := by decide +kernel
theorem dX8_work_121 : decode cX8_work 121 = .ok (.iload 5, 2) := by decide +kernel
theorem dX8_work_123 : decode cX8_work 123 = .ok (.iload 6, 2) := by decide +kernel
theorem dX8_work_125 : decode cX8_work 125 = .ok (.if_icmp .le 8, 3) := by decide +kernel
theorem dX8_work_128 : decode cX8_work 128 = .ok (.iload 5, 2) := by decide +kernel
theorem dX8_work_130 : decode cX8_work 130 = .ok (.goto 5, 3) := by decide +kernel
theorem dX8_work_133 : decode cX8_work 133 = .ok (.iload 6, 2) := by decide +kernel
theorem dX8_work_135 : decode cX8_work 135 = .ok (.iastore, 1) := by decide +kernel
theorem dX8_work_136 : decode cX8_work 136 = .ok (.aload_n 0, 1) := by decide +kernel
theorem dX8_work_137 : decode cX8_work 137 = .ok (.getfield 58, 3) := by decide +kernel
theorem dX8_work_140 : decode cX8_work 140 = .ok (.iload_n 3, 1) := by decide +kernel
theorem dX8_work_141 : decode cX8_work 141 = .ok (.iconst 1, 1) := by decide +kernel
theorem dX8_work_142 : decode cX8_work 142 = .ok (.bastore, 1) := by decide +kernel
theorem dX8_work_143 : decode cX8_work 143 = .ok (.iinc 1 1, 3) := by decide +kernel
theorem dX8_work_146 : decode cX8_work 146 = .ok (.iconst 1, 1) := by decide +kernel
theorem dX8_work_147 : decode cX8_work 147 = .ok (.istore_n 2, 1) := by decide +kernel
theorem dX8_work_148 : decode cX8_work 148 = .ok (.aload_n 0, 1) := by decide +kernel
theorem dX8_work_149 : decode cX8_work 149 = .ok (.aload_n 0, 1) := by decide +kernel
theorem dX8_work_150 : decode cX8_work 150 = .ok (.getfield 55, 3) := by decide +kernel
theorem dX8_work_153 : decode cX8_work 153 = .ok (.iload_n 3, 1) := by decide +kernel
theorem dX8_work_154 : decode cX8_work 154 = .ok (.iaload, 1) := by decide +kernel
theorem dX8_work_155 : decode cX8_work 155 = .ok (.aload_n 0, 1) := by decide +kernel
theorem dX8_work_156 : decode cX8_work 156 = .ok (.getfield 31, 3) := by decide +kernel
theorem dX8_work_159 : decode cX8_work 159 = .ok (.iload_n 3, 1) := by decide +kernel
theorem dX8_work_160 : decode cX8_work 160 = .ok (.iaload, 1) := by decide +kernel
theorem dX8_work_161 : decode cX8_work 161 = .ok (.iadd, 1) := by decide +kernel
theorem dX8_work_162 : decode cX8_work 162 = .ok (.aload_n 0, 1) := by decide +kernel
theorem dX8_work_163 : decode cX8_work 163 = .ok (.getfield 183, 3) := by decide +kernel
theorem dX8_work_166 : decode cX8_work 166 = .ok (.if_icmp .le 19, 3) := by decide +kernel
theorem dX8_work_169 : decode cX8_work 169 = .ok (.aload_n 0, 1) := by decide +kernel
theorem dX8_work_170 : decode cX8_work 170 = .ok (.getfield 55, 3) := by decide +kernel
theorem dX8_work_173 : decode cX8_work 173 = .ok (.iload_n 3, 1) := by decide +kernel
theorem dX8_work_174 : decode cX8_work 174 = .ok (.iaload, 1) := by decide +kernel
theorem dX8_work_175 : decode cX8_work 175 = .ok (.aload_n 0, 1) := by decide +kernel
theorem dX8_work_176 : decode cX8_work 176 = .ok (.getfield 31, 3) := by decide +kernel
theorem dX8_work_179 : decode cX8_work 179 = .ok (.iload_n 3, 1) := by decide +kernel
theorem dX8_work_180 : decode cX8_work 180 = .ok (.iaload, 1) := by decide +kernel
theorem dX8_work_181 : decode cX8_work 181 = .ok (.iadd, 1) := by decide +kernel
theorem dX8_work_182 : decode cX8_work 182 = .ok (.goto 7, 3) := by decide +kernel
theorem dX8_work_185 : decode cX8_work 185 = .ok (.aload_n 0, 1) := by decide +kernel
theorem dX8_work_186 : decode cX8_work 186 = .ok (.getfield 183, 3) := by decide +kernel
theorem dX8_work_189 : decode cX8_work 189 = .ok (.putfield 183, 3) := by decide +kernel
theorem dX8_work_192 : decode cX8_work 192 = .ok (.iinc 3 1, 3) := by decide +kernel
theorem dX8_work_195 : decode cX8_work 195 = .ok (.goto (-155), 3) := by decide +kernel
theorem dX8_work_198 : decode cX8_work 198 = .ok (.goto (-166), 3) := by decide +kernel
theorem dX8_work_201 : decode cX8_work 201 = .ok (.iload_n 1, 1) := by decide +kernel
theorem dX8_work_202 : decode cX8_work 202 = .ok (.aload_n 0, 1) := by decide +kernel
theorem dX8_work_203 : decode cX8_work 203 = .ok (.getfield 143, 3) := by decide +kernel
theorem dX8_work_206 : decode cX8_work 206 = .ok (.if_icmp .ne 7, 3) := by decide +kernel
theorem dX8_work_209 : decode cX8_work 209 = .ok (.iconst 1, 1) := by decide +kernel
theorem dX8_work_210 : decode cX8_work 210 = .ok (.goto 4, 3) := by decide +kernel
theorem dX8_work_213 : decode cX8_work 213 = .ok (.iconst 0, 1) := by decide +kernel
theorem dX8_work_214 : decode cX8_work 214 = .ok (.ireturn, 1) := by decide +kernel
theorem dX8_exchange_0 : decode cX8_exchange 0 = .ok (.aload_n 0, 1) := by decide +kernel
theorem dX8_exchange_1 : decode cX8_exchange 1 = .ok (.getfield 37, 3) := by decide +kernel
theorem dX8_exchange_4 : decode cX8_exchange 4 = .ok (.bipush 32, 2) := by decide +kernel
theorem dX8_exchange_6 : decode cX8_exchange 6 = .ok (.iload_n 1, 1) := by decide +kernel
theorem dX8_exchange_7 : decode cX8_exchange 7 = .ok (.imul, 1) := by decide +kernel
theorem dX8_exchange_8 : decode cX8_exchange 8 = .ok (.iload_n 2, 1) := by decide +kernel
theorem dX8_exchange_9 : decode cX8_exchange 9 = .ok (.iadd, 1) := by decide +kernel
theorem dX8_exchange_10 : decode cX8_exchange 10 = .ok (.iaload, 1) := by decide +kernel
theorem dX8_exchange_11 : decode cX8_exchange 11 = .ok (.istore_n 3, 1) := by decide +kernel
theorem dX8_exchange_12 : decode cX8_exchange 12 = .ok (.aload_n 0, 1) := by decide +kernel
theorem dX8_exchange_13 : decode cX8_exchange 13 = .ok (.getfield 37, 3) := by decide +kernel
theorem dX8_exchange_16 : decode cX8_exchange 16 = .ok (.bipush 32, 2) := by decide +kernel
theorem dX8_exchange_18 : decode cX8_exchange 18 = .ok (.iload_n 1, 1) := by decide +kernel
theorem dX8_exchange_19 : decode cX8_exchange 19 = .ok (.imul, 1) := by decide +kernel
theorem dX8_exchange_20 : decode cX8_exchange 20 = .ok (.iload_n 2, 1) := by decide +kernel
theorem dX8_exchange_21 : decode cX8_exchange 21 = .ok (.iadd, 1) := by decide +kernel
theorem dX8_exchange_22 : decode cX8_exchange 22 = .ok (.aload_n 0, 1) := by decide +kernel
theorem dX8_exchange_23 : decode cX8_exchange 23 = .ok (.getfield 37, 3) := by decide +kernel
theorem dX8_exchange_26 : decode cX8_exchange 26 = .ok (.bipush 32, 2) := by decide +kernel
theorem dX8_exchange_28 : decode cX8_exchange 28 = .ok (.iload_n 1, 1) := by decide +kernel
theorem dX8_exchange_29 : decode cX8_exchange 29 = .ok (.imul, 1) := by decide +kernel
theorem dX8_exchange_30 : decode cX8_exchange 30 = .ok (.iload_n 2, 1) := by decide +kernel
theorem dX8_exchange_31 : decode cX8_exchange 31 = .ok (.iadd, 1) := by decide +kernel
theorem dX8_exchange_32 : decode cX8_exchange 32 = .ok (.iconst 1, 1) := by decide +kernel
theorem dX8_exchange_33 : decode cX8_exchange 33 = .ok (.iadd, 1) := by decide +kernel
theorem dX8_exchange_34 : decode cX8_exchange 34 = .ok (.iaload, 1) := by decide +kernel
theorem dX8_exchange_35 : decode cX8_exchange 35 = .ok (.iastore, 1) := by decide +kernel
theorem dX8_exchange_36 : decode cX8_exchange 36 = .ok (.aload_n 0, 1) := by decide +kernel
theorem dX8_exchange_37 : decode cX8_exchange 37 = .ok (.getfield 37, 3) := by decide +kernel
theorem dX8_exchange_40 : decode cX8_exchange 40 = .ok (.bipush 32, 2) := by decide +kernel
theorem dX8_exchange_42 : decode cX8_exchange 42 = .ok (.iload_n 1, 1) := by decide +kernel
theorem dX8_exchange_43 : decode cX8_exchange 43 = .ok (.imul, 1) := by decide +kernel
theorem dX8_exchange_44 : decode cX8_exchange 44 = .ok (.iload_n 2, 1) := by decide +kernel
theorem dX8_exchange_45 : decode cX8_exchange 45 = .ok (.iadd, 1) := by decide +kernel
theorem dX8_exchange_46 : decode cX8_exchange 46 = .ok (.iconst 1, 1) := by decide +kernel
theorem dX8_exchange_47 : decode cX8_exchange 47 = .ok (.iadd, 1) := by decide +kernel
theorem dX8_exchange_48 : decode cX8_exchange 48 = .ok (.iload_n 3, 1) := by decide +kernel
theorem dX8_exchange_49 : decode cX8_exchange 49 = .ok (.iastore, 1) := by decide +kernel
theorem dX8_exchange_50 : decode cX8_exchange 50 = .ok (.return_, 1) := by decide +kernel
theorem dX8_swap_0 : decode cX8_swap 0 = .ok (.iload_n 1, 1) := by decide +kernel
theorem dX8_swap_1 : decode cX8_swap 1 = .ok (.i2l, 1) := by decide +kernel
theorem dX8_swap_2 : decode cX8_swap 2 = .ok (.lconst 0, 1) := by decide +kernel
theorem dX8_swap_3 : decode cX8_swap 3 = .ok (.aload_n 0, 1) := by decide +kernel
theorem dX8_swap_4 : decode cX8_swap 4 = .ok (.getfield 133, 3) := by decide +kernel
theorem dX8_swap_7 : decode cX8_swap 7 = .ok (.iconst 1, 1) := by decide +kernel
theorem dX8_swap_8 : decode cX8_swap 8 = .ok (.isub, 1) := by decide +kernel
theorem dX8_swap_9 : decode cX8_swap 9 = .ok (.i2l, 1) := by decide +kernel
theorem dX8_swap_10 : decode cX8_swap 10 = .ok (.invokestatic 124, 3) := by decide +kernel
theorem dX8_swap_13 : decode cX8_swap 13 = .ok (.ifCond .ne 6, 3) := by decide +kernel
theorem dX8_swap_16 : decode cX8_swap 16 = .ok (.ldc 146, 2) := by decide +kernel
theorem dX8_swap_18 : decode cX8_swap 18 = .ok (.ireturn, 1) := by decide +kernel
theorem dX8_swap_19 : decode cX8_swap 19 = .ok (.iload_n 2, 1) := by decide +kernel
theorem dX8_swap_20 : decode cX8_swap 20 = .ok (.i2l, 1) := by decide +kernel
theorem dX8_swap_21 : decode cX8_swap 21 = .ok (.lconst 0, 1) := by decide +kernel
theorem dX8_swap_22 : decode cX8_swap 22 = .ok (.aload_n 0, 1) := by decide +kernel
theorem dX8_swap_23 : decode cX8_swap 23 = .ok (.getfield 40, 3) := by decide +kernel
theorem dX8_swap_26 : decode cX8_swap 26 = .ok (.iload_n 1, 1) := by decide +kernel
theorem dX8_swap_27 : decode cX8_swap 27 = .ok (.iaload, 1) := by decide +kernel
theorem dX8_swap_28 : decode cX8_swap 28 = .ok (.iconst 2, 1) := by decide +kernel
theorem dX8_swap_29 : decode cX8_swap 29 = .ok (.isub, 1) := by decide +kernel
theorem dX8_swap_30 : decode cX8_swap 30 = .ok (.i2l, 1) := by decide +kernel
theorem dX8_swap_31 : decode cX8_swap 31 = .ok (.invokestatic 124, 3) := by decide +kernel
theorem dX8_swap_34 : decode cX8_swap 34 = .ok (.ifCond .ne 6, 3) := by decide +kernel
theorem dX8_swap_37 : decode cX8_swap 37 = .ok (.ldc 132, 2) := by decide +kernel
theorem dX8_swap_39 : decode cX8_swap 39 = .ok (.ireturn, 1) := by decide +kernel
theorem dX8_swap_40 : decode cX8_swap 40 = .ok (.aload_n 0, 1) := by decide +kernel
theorem dX8_swap_41 : decode cX8_swap 41 = .ok (.getfield 7, 3) := by decide +kernel
theorem dX8_swap_44 : decode cX8_swap 44 = .ok (.iload_n 1, 1) := by decide +kernel
theorem dX8_swap_45 : decode cX8_swap 45 = .ok (.iaload, 1) := by decide +kernel
theorem dX8_swap_46 : decode cX8_swap 46 = .ok (.iconst 1, 1) := by decide +kernel
theorem dX8_swap_47 : decode cX8_swap 47 = .ok (.if_icmp .ne 6, 3) := by decide +kernel
theorem dX8_swap_50 : decode cX8_swap 50 = .ok (.ldc 179, 2) := by decide +kernel
theorem dX8_swap_52 : decode cX8_swap 52 = .ok (.ireturn, 1) := by decide +kernel
theorem dX8_swap_53 : decode cX8_swap 53 = .ok (.aload_n 0, 1) := by decide +kernel
theorem dX8_swap_54 : decode cX8_swap 54 = .ok (.invokevirtual 192, 3) := by decide +kernel
theorem dX8_swap_57 : decode cX8_swap 57 = .ok (.istore_n 3, 1) := by decide +kernel
theorem dX8_swap_58 : decode cX8_swap 58 = .ok (.aload_n 0, 1) := by decide +kernel
theorem dX8_swap_59 : decode cX8_swap 59 = .ok (.iload_n 1, 1) := by decide +kernel
theorem dX8_swap_60 : decode cX8_swap 60 = .ok (.iload_n 2, 1) := by decide +kernel
theorem dX8_swap_61 : decode cX8_swap 61 = .ok (.invokevirtual 195, 3) := by decide +kernel
theorem dX8_swap_64 : decode cX8_swap 64 = .ok (.iload_n 3, 1) := by decide +kernel
theorem dX8_swap_65 : decode cX8_swap 65 = .ok (.ifCond .eq 18, 3) := by decide +kernel
theorem dX8_swap_68 : decode cX8_swap 68 = .ok (.aload_n 0, 1) := by decide +kernel
theorem dX8_swap_69 : decode cX8_swap 69 = .ok (.invokevirtual 192, 3) := by decide +kernel
theorem dX8_swap_72 : decode cX8_swap 72 = .ok (.ifCond .ne 11, 3) := by decide +kernel
theorem dX8_swap_75 : decode cX8_swap 75 = .ok (.aload_n 0, 1) := by decide +kernel
theorem dX8_swap_76 : decode cX8_swap 76 = .ok (.iload_n 1, 1) := by decide +kernel
theorem dX8_swap_77 : decode cX8_swap 77 = .ok (.iload_n 2, 1) := by decide +kernel
theorem dX8_swap_78 : decode cX8_swap 78 = .ok (.invokevirtual 195, 3) := by decide +kernel
theorem dX8_swap_81 : decode cX8_swap 81 = .ok (.iconst 0, 1) := by decide +kernel
theorem dX8_swap_82 : decode cX8_swap 82 = .ok (.ireturn, 1) := by decide +kernel
theorem dX8_swap_83 : decode cX8_swap 83 = .ok (.iconst 1, 1) := by decide +kernel
theorem dX8_swap_84 : decode cX8_swap 84 = .ok (.ireturn, 1) := by decide +kernel
theorem dX8_lay_0 : decode cX8_lay 0 = .ok (.aload_n 0, 1) := by decide +kernel
theorem dX8_lay_1 : decode cX8_lay 1 = .ok (.iload_n 1, 1) := by decide +kernel
theorem dX8_lay_2 : decode cX8_lay 2 = .ok (.invokevirtual 153, 3) := by decide +kernel
theorem dX8_lay_5 : decode cX8_lay 5 = .ok (.ifCond .ne 6, 3) := by decide +kernel
theorem dX8_lay_8 : decode cX8_lay 8 = .ok (.ldc 146, 2) := by decide +kernel
theorem dX8_lay_10 : decode cX8_lay 10 = .ok (.ireturn, 1) := by decide +kernel
theorem dX8_lay_11 : decode cX8_lay 11 = .ok (.aload_n 0, 1) := by decide +kernel
theorem dX8_lay_12 : decode cX8_lay 12 = .ok (.getfield 28, 3) := by decide +kernel
theorem dX8_lay_15 : decode cX8_lay 15 = .ok (.iload_n 1, 1) := by decide +kernel
theorem dX8_lay_16 : decode cX8_lay 16 = .ok (.iaload, 1) := by decide +kernel
theorem dX8_lay_17 : decode cX8_lay 17 = .ok (.istore_n 3, 1) := by decide +kernel
theorem dX8_lay_18 : decode cX8_lay 18 = .ok (.iload_n 2, 1) := by decide +kernel
theorem dX8_lay_19 : decode cX8_lay 19 = .ok (.i2l, 1) := by decide +kernel
theorem dX8_lay_20 : decode cX8_lay 20 = .ok (.lconst 0, 1) := by decide +kernel
theorem dX8_lay_21 : decode cX8_lay 21 = .ok (.aload_n 0, 1) := by decide +kernel
theorem dX8_lay_22 : decode cX8_lay 22 = .ok (.getfield 40, 3) := by decide +kernel
theorem dX8_lay_25 : decode cX8_lay 25 = .ok (.iload_n 3, 1) := by decide +kernel
theorem dX8_lay_26 : decode cX8_lay 26 = .ok (.iaload, 1) := by decide +kernel
theorem dX8_lay_27 : decode cX8_lay 27 = .ok (.iconst 1, 1) := by decide +kernel
theorem dX8_lay_28 : decode cX8_lay 28 = .ok (.isub, 1) := by decide +kernel
theorem dX8_lay_29 : decode cX8_lay 29 = .ok (.i2l, 1) := by decide +kernel
theorem dX8_lay_30 : decode cX8_lay 30 = .ok (.invokestatic 124, 3) := by decide +kernel
theorem dX8_lay_33 : decode cX8_lay 33 = .ok (.ifCond .ne 6, 3) := by decide +kernel
theorem dX8_lay_36 : decode cX8_lay 36 = .ok (.ldc 132, 2) := by decide +kernel
theorem dX8_lay_38 : decode cX8_lay 38 = .ok (.ireturn, 1) := by decide +kernel
theorem dX8_lay_39 : decode cX8_lay 39 = .ok (.aload_n 0, 1) := by decide +kernel
theorem dX8_lay_40 : decode cX8_lay 40 = .ok (.iload_n 1, 1) := by decide +kernel
theorem dX8_lay_41 : decode cX8_lay 41 = .ok (.invokevirtual 157, 3) := by decide +kernel
theorem dX8_lay_44 : decode cX8_lay 44 = .ok (.istore 4, 2) := by decide +kernel
theorem dX8_lay_46 : decode cX8_lay 46 = .ok (.iload 4, 2) := by decide +kernel
theorem dX8_lay_48 : decode cX8_lay 48 = .ok (.iload_n 2, 1) := by decide +kernel
theorem dX8_lay_49 : decode cX8_lay 49 = .ok (.if_icmp .ge 16, 3) := by decide +kernel
theorem dX8_lay_52 : decode cX8_lay 52 = .ok (.aload_n 0, 1) := by decide +kernel
theorem dX8_lay_53 : decode cX8_lay 53 = .ok (.iload_n 3, 1) := by decide +kernel
theorem dX8_lay_54 : decode cX8_lay 54 = .ok (.iload 4, 2) := by decide +kernel
theorem dX8_lay_56 : decode cX8_lay 56 = .ok (.invokevirtual 195, 3) := by decide +kernel
theorem dX8_lay_59 : decode cX8_lay 59 = .ok (.iinc 4 1, 3) := by decide +kernel
theorem dX8_lay_62 : decode cX8_lay 62 = .ok (.goto (-16), 3) := by decide +kernel
theorem dX8_lay_65 : decode cX8_lay 65 = .ok (.iload 4, 2) := by decide +kernel
theorem dX8_lay_67 : decode cX8_lay 67 = .ok (.iload_n 2, 1) := by decide +kernel
theorem dX8_lay_68 : decode cX8_lay 68 = .ok (.if_icmp .le 18, 3) := by decide +kernel
theorem dX8_lay_71 : decode cX8_lay 71 = .ok (.aload_n 0, 1) := by decide +kernel
theorem dX8_lay_72 : decode cX8_lay 72 = .ok (.iload_n 3, 1) := by decide +kernel
theorem dX8_lay_73 : decode cX8_lay 73 = .ok (.iload 4, 2) := by decide +kernel
theorem dX8_lay_75 : decode cX8_lay 75 = .ok (.iconst 1, 1) := by decide +kernel
theorem dX8_lay_76 : decode cX8_lay 76 = .ok (.isub, 1) := by decide +kernel
theorem dX8_lay_77 : decode cX8_lay 77 = .ok (.invokevirtual 195, 3) := by decide +kernel
theorem dX8_lay_80 : decode cX8_lay 80 = .ok (.iinc 4 (-1), 3) := by decide +kernel
theorem dX8_lay_83 : decode cX8_lay 83 = .ok (.goto (-18), 3) := by decide +kernel
theorem dX8_lay_86 : decode cX8_lay 86 = .ok (.aload_n 0, 1) := by decide +kernel
theorem dX8_lay_87 : decode cX8_lay 87 = .ok (.invokevirtual 192, 3) := by decide +kernel
theorem dX8_lay_90 : decode cX8_lay 90 = .ok (.ifCond .eq 7, 3) := by decide +kernel
theorem dX8_lay_93 : decode cX8_lay 93 = .ok (.iconst 1, 1) := by decide +kernel
theorem dX8_lay_94 : decode cX8_lay 94 = .ok (.goto 4, 3) := by decide +kernel
theorem dX8_lay_97 : decode cX8_lay 97 = .ok (.iconst 0, 1) := by decide +kernel
theorem dX8_lay_98 : decode cX8_lay 98 = .ok (.ireturn, 1) := by decide +kernel
theorem dX8_end_0 : decode cX8_end 0 = .ok (.aload_n 0, 1) := by decide +kernel
theorem dX8_end_1 : decode cX8_end 1 = .ok (.invokevirtual 192, 3) := by decide +kernel
theorem dX8_end_4 : decode cX8_end 4 = .ok (.ifCond .eq 10, 3) := by decide +kernel
theorem dX8_end_7 : decode cX8_end 7 = .ok (.aload_n 0, 1) := by decide +kernel
theorem dX8_end_8 : decode cX8_end 8 = .ok (.getfield 183, 3) := by decide +kernel
theorem dX8_end_11 : decode cX8_end 11 = .ok (.goto 4, 3) := by decide +kernel
theorem dX8_end_14 : decode cX8_end 14 = .ok (.iconst (-1), 1) := by decide +kernel
theorem dX8_end_15 : decode cX8_end 15 = .ok (.ireturn, 1) := by decide +kernel
theorem dX8_begin_0 : decode cX8_begin 0 = .ok (.aload_n 0, 1) := by decide +kernel
theorem dX8_begin_1 : decode cX8_begin 1 = .ok (.iload_n 1, 1) := by decide +kernel
theorem dX8_begin_2 : decode cX8_begin 2 = .ok (.invokevirtual 153, 3) := by decide +kernel
theorem dX8_begin_5 : decode cX8_begin 5 = .ok (.ifCond .ne 8, 3) := by decide +kernel
theorem dX8_begin_8 : decode cX8_begin 8 = .ok (.ldc 146, 2) := by decide +kernel
theorem dX8_begin_10 : decode cX8_begin 10 = .ok (.goto 21, 3) := by decide +kernel
theorem dX8_begin_13 : decode cX8_begin 13 = .ok (.aload_n 0, 1) := by decide +kernel
theorem dX8_begin_14 : decode cX8_begin 14 = .ok (.invokevirtual 192, 3) := by decide +kernel
theorem dX8_begin_17 : decode cX8_begin 17 = .ok (.ifCond .eq 12, 3) := by decide +kernel
theorem dX8_begin_20 : decode cX8_begin 20 = .ok (.aload_n 0, 1) := by decide +kernel
theorem dX8_begin_21 : decode cX8_begin 21 = .ok (.getfield 55, 3) := by decide +kernel
theorem dX8_begin_24 : decode cX8_begin 24 = .ok (.iload_n 1, 1) := by decide +kernel
theorem dX8_begin_25 : decode cX8_begin 25 = .ok (.iaload, 1) := by decide +kernel
theorem dX8_begin_26 : decode cX8_begin 26 = .ok (.goto 5, 3) := by decide +kernel
theorem dX8_begin_29 : decode cX8_begin 29 = .ok (.ldc 179, 2) := by decide +kernel
theorem dX8_begin_31 : decode cX8_begin 31 = .ok (.ireturn, 1) := by decide +kernel
theorem dX8_next_0 : decode cX8_next 0 = .ok (.aload_n 0, 1) := by decide +kernel
theorem dX8_next_1 : decode cX8_next 1 = .ok (.getfield 28, 3) := by decide +kernel
theorem dX8_next_4 : decode cX8_next 4 = .ok (.iload_n 1, 1) := by decide +kernel
theorem dX8_next_5 : decode cX8_next 5 = .ok (.iaload, 1) := by decide +kernel
theorem dX8_next_6 : decode cX8_next 6 = .ok (.istore_n 2, 1) := by decide +kernel
theorem dX8_next_7 : decode cX8_next 7 = .ok (.aload_n 0, 1) := by decide +kernel
theorem dX8_next_8 : decode cX8_next 8 = .ok (.iload_n 1, 1) := by decide +kernel
theorem dX8_next_9 : decode cX8_next 9 = .ok (.invokevirtual 157, 3) := by decide +kernel
theorem dX8_next_12 : decode cX8_next 12 = .ok (.istore_n 3, 1) := by decide +kernel
theorem dX8_next_13 : decode cX8_next 13 = .ok (.aload_n 0, 1) := by decide +kernel
theorem dX8_next_14 : decode cX8_next 14 = .ok (.getfield 7, 3) := by decide +kernel
theorem dX8_next_17 : decode cX8_next 17 = .ok (.iload_n 2, 1) := by decide +kernel
theorem dX8_next_18 : decode cX8_next 18 = .ok (.iaload, 1) := by decide +kernel
theorem dX8_next_19 : decode cX8_next 19 = .ok (.ifCond .ne 31, 3) := by decide +kernel
theorem dX8_next_22 : decode cX8_next 22 = .ok (.iload_n 3, 1) := by decide +kernel
theorem dX8_next_23 : decode cX8_next 23 = .ok (.iconst 1, 1) := by decide +kernel
theorem dX8_next_24 : decode cX8_next 24 = .ok (.iadd, 1) := by decide +kernel
theorem dX8_next_25 : decode cX8_next 25 = .ok (.aload_n 0, 1) := by decide +kernel
theorem dX8_next_26 : decode cX8_next 26 = .ok (.getfield 40, 3) := by decide +kernel
theorem dX8_next_29 : decode cX8_next 29 = .ok (.iload_n 2, 1) := by decide +kernel
theorem dX8_next_30 : decode cX8_next 30 = .ok (.iaload, 1) := by decide +kernel
theorem dX8_next_31 : decode cX8_next 31 = .ok (.if_icmp .ge 19, 3) := by decide +kernel
theorem dX8_next_34 : decode cX8_next 34 = .ok (.aload_n 0, 1) := by decide +kernel
theorem dX8_next_35 : decode cX8_next 35 = .ok (.getfield 37, 3) := by decide +kernel
theorem dX8_next_38 : decode cX8_next 38 = .ok (.bipush 32, 2) := by decide +kernel
theorem dX8_next_40 : decode cX8_next 40 = .ok (.iload_n 2, 1) := by decide +kernel
theorem dX8_next_41 : decode cX8_next 41 = .ok (.imul, 1) := by decide +kernel
theorem dX8_next_42 : decode cX8_next 42 = .ok (.iload_n 3, 1) := by decide +kernel
theorem dX8_next_43 : decode cX8_next 43 = .ok (.iadd, 1) := by decide +kernel
theorem dX8_next_44 : decode cX8_next 44 = .ok (.iconst 1, 1) := by decide +kernel
theorem dX8_next_45 : decode cX8_next 45 = .ok (.iadd, 1) := by decide +kernel
theorem dX8_next_46 : decode cX8_next 46 = .ok (.iaload, 1) := by decide +kernel
theorem dX8_next_47 : decode cX8_next 47 = .ok (.goto 4, 3) := by decide +kernel
theorem dX8_next_50 : decode cX8_next 50 = .ok (.iconst (-1), 1) := by decide +kernel
theorem dX8_next_51 : decode cX8_next 51 = .ok (.ireturn, 1) := by decide +kernel
theorem dX8_workTails_0 : decode cX8_workTails 0 = .ok (.iconst 0, 1) := by decide +kernel
theorem dX8_workTails_1 : decode cX8_workTails 1 = .ok (.istore_n 1, 1) := by decide +kernel
theorem dX8_workTails_2 : decode cX8_workTails 2 = .ok (.iload_n 1, 1) := by decide +kernel
theorem dX8_workTails_3 : decode cX8_workTails 3 = .ok (.aload_n 0, 1) := by decide +kernel
theorem dX8_workTails_4 : decode cX8_workTails 4 = .ok (.getfield 143, 3) := by decide +kernel
theorem dX8_workTails_7 : decode cX8_workTails 7 = .ok (.if_icmp .ge 16, 3) := by decide +kernel
theorem dX8_workTails_10 : decode cX8_workTails 10 = .ok (.aload_n 0, 1) := by decide +kernel
theorem dX8_workTails_11 : decode cX8_workTails 11 = .ok (.getfield 58, 3) := by decide +kernel
theorem dX8_workTails_14 : decode cX8_workTails 14 = .ok (.iload_n 1, 1) := by decide +kernel
theorem dX8_workTails_15 : decode cX8_workTails 15 = .ok (.iconst 0, 1) := by decide +kernel
theorem dX8_workTails_16 : decode cX8_workTails 16 = .ok (.bastore, 1) := by decide +kernel
theorem dX8_workTails_17 : decode cX8_workTails 17 = .ok (.iinc 1 1, 3) := by decide +kernel
theorem dX8_workTails_20 : decode cX8_workTails 20 = .ok (.goto (-18), 3) := by decide +kernel
theorem dX8_workTails_23 : decode cX8_workTails 23 = .ok (.iconst 0, 1) := by decide +kernel
theorem dX8_workTails_24 : decode cX8_workTails 24 = .ok (.istore_n 1, 1) := by decide +kernel
theorem dX8_workTails_25 : decode cX8_workTails 25 = .ok (.iload_n 1, 1) := by decide +kernel
theorem dX8_workTails_26 : decode cX8_workTails 26 = .ok (.aload_n 0, 1) := by decide +kernel
theorem dX8_workTails_27 : decode cX8_workTails 27 = .ok (.getfield 143, 3) := by decide +kernel
theorem dX8_workTails_30 : decode cX8_workTails 30 = .ok (.if_icmp .ge 146, 3) := by decide +kernel
theorem dX8_workTails_33 : decode cX8_workTails 33 = .ok (.iconst (-1), 1) := by decide +kernel
theorem dX8_workTails_34 : decode cX8_workTails 34 = .ok (.istore_n 2, 1) := by decide +kernel
theorem dX8_workTails_35 : decode cX8_workTails 35 = .ok (.iconst 0, 1) := by decide +kernel
theorem dX8_workTails_36 : decode cX8_workTails 36 = .ok (.istore_n 3, 1) := by decide +kernel
theorem dX8_workTails_37 : decode cX8_workTails 37 = .ok (.iload_n 3, 1) := by decide +kernel
theorem dX8_workTails_38 : decode cX8_workTails 38 = .ok (.aload_n 0, 1) := by decide +kernel
theorem dX8_workTails_39 : decode cX8_workTails 39 = .ok (.getfield 143, 3) := by decide +kernel
theorem dX8_workTails_42 : decode cX8_workTails 42 = .ok (.if_icmp .ge 39, 3) := by decide +kernel
theorem dX8_workTails_45 : decode cX8_workTails 45 = .ok (.aload_n 0, 1) := by decide +kernel
theorem dX8_workTails_46 : decode cX8_workTails 46 = .ok (.getfield 58, 3) := by decide +kernel
theorem dX8_workTails_49 : decode cX8_workTails 49 = .ok (.iload_n 3, 1) := by decide +kernel
theorem dX8_workTails_50 : decode cX8_workTails 50 = .ok (.baload, 1) := by decide +kernel
theorem dX8_workTails_51 : decode cX8_workTails 51 = .ok (.ifCond .ne 24, 3) := by decide +kernel
theorem dX8_workTails_54 : decode cX8_workTails 54 = .ok (.iload_n 2, 1) := by decide +kernel
theorem dX8_workTails_55 : decode cX8_workTails 55 = .ok (.ifCond .lt 18, 3) := by decide +kernel
theorem dX8_workTails_58 : decode cX8_workTails 58 = .ok (.aload_n 0, 1) := by decide +kernel
theorem dX8_workTails_59 : decode cX8_workTails 59 = .ok (.getfield 55, 3) := by decide +kernel
theorem dX8_workTails_62 : decode cX8_workTails 62 = .ok (.iload_n 3, 1) := by decide +kernel
theorem dX8_workTails_63 : decode cX8_workTails 63 = .ok (.iaload, 1) := by decide +kernel
theorem dX8_workTails_64 : decode cX8_workTails 64 = .ok (.aload_n 0, 1) := by decide +kernel
theorem dX8_workTails_65 : decode cX8_workTails 65 = .ok (.getfield 55, 3) := by decide +kernel
theorem dX8_workTails_68 : decode cX8_workTails 68 = .ok (.iload_n 2, 1) := by decide +kernel
theorem dX8_workTails_69 : decode cX8_workTails 69 = .ok (.iaload, 1) := by decide +kernel
theorem dX8_workTails_70 : decode cX8_workTails 70 = .ok (.if_icmp .le 5, 3) := by decide +kernel
theorem dX8_workTails_73 : decode cX8_workTails 73 = .ok (.iload_n 3, 1) := by decide +kernel
theorem dX8_workTails_74 : decode cX8_workTails 74 = .ok (.istore_n 2, 1) := by decide +kernel
theorem dX8_workTails_75 : decode cX8_workTails 75 = .ok (.iinc 3 1, 3) := by decide +kernel
theorem dX8_workTails_78 : decode cX8_workTails 78 = .ok (.goto (-41), 3) := by decide +kernel
theorem dX8_workTails_81 : decode cX8_workTails 81 = .ok (.aload_n 0, 1) := by decide +kernel
theorem dX8_workTails_82 : decode cX8_workTails 82 = .ok (.iload_n 2, 1) := by decide +kernel
theorem dX8_workTails_83 : decode cX8_workTails 83 = .ok (.invokevirtual 199, 3) := by decide +kernel
theorem dX8_workTails_86 : decode cX8_workTails 86 = .ok (.istore_n 3, 1) := by decide +kernel
theorem dX8_workTails_87 : decode cX8_workTails 87 = .ok (.aload_n 0, 1) := by decide +kernel
theorem dX8_workTails_88 : decode cX8_workTails 88 = .ok (.iload_n 2, 1) := by decide +kernel
theorem dX8_workTails_89 : decode cX8_workTails 89 = .ok (.invokevirtual 202, 3) := by decide +kernel
theorem dX8_workTails_92 : decode cX8_workTails 92 = .ok (.istore 4, 2) := by decide +kernel
theorem dX8_workTails_94 : decode cX8_workTails 94 = .ok (.iload_n 3, 1) := by decide +kernel
theorem dX8_workTails_95 : decode cX8_workTails 95 = .ok (.ifCond .ge 7, 3) := by decide +kernel
theorem dX8_workTails_98 : decode cX8_workTails 98 = .ok (.iconst 0, 1) := by decide +kernel
theorem dX8_workTails_99 : decode cX8_workTails 99 = .ok (.goto 16, 3) := by decide +kernel
theorem dX8_workTails_102 : decode cX8_workTails 102 = .ok (.aload_n 0, 1) := by decide +kernel
theorem dX8_workTails_103 : decode cX8_workTails 103 = .ok (.getfield 31, 3) := by decide +kernel
theorem dX8_workTails_106 : decode cX8_workTails 106 = .ok (.iload_n 3, 1) := by decide +kernel
theorem dX8_workTails_107 : decode cX8_workTails 107 = .ok (.iaload, 1) := by decide +kernel
theorem dX8_workTails_108 : decode cX8_workTails 108 = .ok (.aload_n 0, 1) := by decide +kernel
theorem dX8_workTails_109 : decode cX8_workTails 109 = .ok (.getfield 65, 3) := by decide +kernel
theorem dX8_workTails_112 : decode cX8_workTails 112 = .ok (.iload_n 3, 1) := by decide +kernel
theorem dX8_workTails_113 : decode cX8_workTails 113 = .ok (.iaload, 1) := by decide +kernel
theorem dX8_workTails_114 : decode cX8_workTails 114 = .ok (.iadd, 1) := by decide +kernel
theorem dX8_workTails_115 : decode cX8_workTails 115 = .ok (.istore 5, 2) := by decide +kernel
theorem dX8_workTails_117 : decode cX8_workTails 117 = .ok (.iload 4, 2) := by decide +kernel
theorem dX8_workTails_119 : decode cX8_workTails 119 = .ok (.ifCond .ge 7, 3) := by decide +kernel
theorem dX8_workTails_122 : decode cX8_workTails 122 = .ok (.iconst 0, 1) := by decide +kernel
theorem dX8_workTails_123 : decode cX8_workTails 123 = .ok (.goto 18, 3) := by decide +kernel
theorem dX8_workTails_126 : decode cX8_workTails 126 = .ok (.aload_n 0, 1) := by decide +kernel
theorem dX8_workTails_127 : decode cX8_workTails 127 = .ok (.getfield 31, 3) := by decide +kernel
theorem dX8_workTails_130 : decode cX8_workTails 130 = .ok (.iload 4, 2) := by decide +kernel
theorem dX8_workTails_132 : decode cX8_workTails 132 = .ok (.iaload, 1) := by decide +kernel
theorem dX8_workTails_133 : decode cX8_workTails 133 = .ok (.aload_n 0, 1) := by decide +kernel
theorem dX8_workTails_134 : decode cX8_workTails 134 = .ok (.getfield 65, 3) := by decide +kernel
theorem dX8_workTails_137 : decode cX8_workTails 137 = .ok (.iload 4, 2) := by decide +kernel
theorem dX8_workTails_139 : decode cX8_workTails 139 = .ok (.iaload, 1) := by decide +kernel
theorem dX8_workTails_140 : decode cX8_workTails 140 = .ok (.iadd, 1) := by decide +kernel
theorem dX8_workTails_141 : decode cX8_workTails 141 = .ok (.istore 6, 2) := by decide +kernel
theorem dX8_workTails_143 : decode cX8_workTails 143 = .ok (.aload_n 0, 1) := by decide +kernel
theorem dX8_workTails_144 : decode cX8_workTails 144 = .ok (.getfield 65, 3) := by decide +kernel
theorem dX8_workTails_147 : decode cX8_workTails 147 = .ok (.iload_n 2, 1) := by decide +kernel
theorem dX8_workTails_148 : decode cX8_workTails 148 = .ok (.iload 5, 2) := by decide +kernel
theorem dX8_workTails_150 : decode cX8_workTails 150 = .ok (.iload 6, 2) := by decide +kernel
theorem dX8_workTails_152 : decode cX8_workTails 152 = .ok (.if_icmp .le 8, 3) := by decide +kernel
theorem dX8_workTails_155 : decode cX8_workTails 155 = .ok (.iload 5, 2) := by decide +kernel
theorem dX8_workTails_157 : decode cX8_workTails 157 = .ok (.goto 5, 3) := by decide +kernel
theorem dX8_workTails_160 : decode cX8_workTails 160 = .ok (.iload 6, 2) := by decide +kernel
theorem dX8_workTails_162 : decode cX8_workTails 162 = .ok (.iastore, 1) := by decide +kernel
theorem dX8_workTails_163 : decode cX8_workTails 163 = .ok (.aload_n 0, 1) := by decide +kernel
theorem dX8_workTails_164 : decode cX8_workTails 164 = .ok (.getfield 58, 3) := by decide +kernel
theorem dX8_workTails_167 : decode cX8_workTails 167 = .ok (.iload_n 2, 1) := by decide +kernel
theorem dX8_workTails_168 : decode cX8_workTails 168 = .ok (.iconst 1, 1) := by decide +kernel
theorem dX8_workTails_169 : decode cX8_workTails 169 = .ok (.bastore, 1) := by decide +kernel
theorem dX8_workTails_170 : decode cX8_workTails 170 = .ok (.iinc 1 1, 3) := by decide +kernel
theorem dX8_workTails_173 : decode cX8_workTails 173 = .ok (.goto (-148), 3) := by decide +kernel
theorem dX8_workTails_176 : decode cX8_workTails 176 = .ok (.return_, 1) := by decide +kernel
theorem dX8_hasTails_0 : decode cX8_hasTails 0 = .ok (.aload_n 0, 1) := by decide +kernel
theorem dX8_hasTails_1 : decode cX8_hasTails 1 = .ok (.invokevirtual 161, 3) := by decide +kernel
theorem dX8_hasTails_4 : decode cX8_hasTails 4 = .ok (.ifCond .eq 10, 3) := by decide +kernel
theorem dX8_hasTails_7 : decode cX8_hasTails 7 = .ok (.aload_n 0, 1) := by decide +kernel
theorem dX8_hasTails_8 : decode cX8_hasTails 8 = .ok (.invokevirtual 192, 3) := by decide +kernel
theorem dX8_hasTails_11 : decode cX8_hasTails 11 = .ok (.ifCond .ne 5, 3) := by decide +kernel
theorem dX8_hasTails_14 : decode cX8_hasTails 14 = .ok (.iconst 0, 1) := by decide +kernel
theorem dX8_hasTails_15 : decode cX8_hasTails 15 = .ok (.ireturn, 1) := by decide +kernel
theorem dX8_hasTails_16 : decode cX8_hasTails 16 = .ok (.aload_n 0, 1) := by decide +kernel
theorem dX8_hasTails_17 : decode cX8_hasTails 17 = .ok (.invokevirtual 205, 3) := by decide +kernel
theorem dX8_hasTails_20 : decode cX8_hasTails 20 = .ok (.iconst 1, 1) := by decide +kernel
theorem dX8_hasTails_21 : decode cX8_hasTails 21 = .ok (.ireturn, 1) := by decide +kernel
theorem dX8_slack_0 : decode cX8_slack 0 = .ok (.aload_n 0, 1) := by decide +kernel
theorem dX8_slack_1 : decode cX8_slack 1 = .ok (.getfield 183, 3) := by decide +kernel
theorem dX8_slack_4 : decode cX8_slack 4 = .ok (.aload_n 0, 1) := by decide +kernel
theorem dX8_slack_5 : decode cX8_slack 5 = .ok (.getfield 55, 3) := by decide +kernel
theorem dX8_slack_8 : decode cX8_slack 8 = .ok (.iload_n 1, 1) := by decide +kernel
theorem dX8_slack_9 : decode cX8_slack 9 = .ok (.iaload, 1) := by decide +kernel
theorem dX8_slack_10 : decode cX8_slack 10 = .ok (.isub, 1) := by decide +kernel
theorem dX8_slack_11 : decode cX8_slack 11 = .ok (.aload_n 0, 1) := by decide +kernel
theorem dX8_slack_12 : decode cX8_slack 12 = .ok (.getfield 31, 3) := by decide +kernel
theorem dX8_slack_15 : decode cX8_slack 15 = .ok (.iload_n 1, 1) := by decide +kernel
theorem dX8_slack_16 : decode cX8_slack 16 = .ok (.iaload, 1) := by decide +kernel
theorem dX8_slack_17 : decode cX8_slack 17 = .ok (.isub, 1) := by decide +kernel
theorem dX8_slack_18 : decode cX8_slack 18 = .ok (.aload_n 0, 1) := by decide +kernel
theorem dX8_slack_19 : decode cX8_slack 19 = .ok (.getfield 65, 3) := by decide +kernel
theorem dX8_slack_22 : decode cX8_slack 22 = .ok (.iload_n 1, 1) := by decide +kernel
theorem dX8_slack_23 : decode cX8_slack 23 = .ok (.iaload, 1) := by decide +kernel
theorem dX8_slack_24 : decode cX8_slack 24 = .ok (.isub, 1) := by decide +kernel
theorem dX8_slack_25 : decode cX8_slack 25 = .ok (.ireturn, 1) := by decide +kernel
theorem dX8_tail_0 : decode cX8_tail 0 = .ok (.aload_n 0, 1) := by decide +kernel
theorem dX8_tail_1 : decode cX8_tail 1 = .ok (.iload_n 1, 1) := by decide +kernel
theorem dX8_tail_2 : decode cX8_tail 2 = .ok (.invokevirtual 153, 3) := by decide +kernel
theorem dX8_tail_5 : decode cX8_tail 5 = .ok (.ifCond .ne 6, 3) := by decide +kernel
theorem dX8_tail_8 : decode cX8_tail 8 = .ok (.ldc 146, 2) := by decide +kernel
theorem dX8_tail_10 : decode cX8_tail 10 = .ok (.ireturn, 1) := by decide +kernel
theorem dX8_tail_11 : decode cX8_tail 11 = .ok (.iload_n 2, 1) := by decide +kernel
theorem dX8_tail_12 : decode cX8_tail 12 = .ok (.i2l, 1) := by decide +kernel
theorem dX8_tail_13 : decode cX8_tail 13 = .ok (.lconst 0, 1) := by decide +kernel
theorem dX8_tail_14 : decode cX8_tail 14 = .ok (.lconst 1, 1) := by decide +kernel
theorem dX8_tail_15 : decode cX8_tail 15 = .ok (.invokestatic 124, 3) := by decide +kernel
theorem dX8_tail_18 : decode cX8_tail 18 = .ok (.ifCond .ne 6, 3) := by decide +kernel
theorem dX8_tail_21 : decode cX8_tail 21 = .ok (.ldc 132, 2) := by decide +kernel
theorem dX8_tail_23 : decode cX8_tail 23 = .ok (.ireturn, 1) := by decide +kernel
theorem dX8_tail_24 : decode cX8_tail 24 = .ok (.aload_n 0, 1) := by decide +kernel
theorem dX8_tail_25 : decode cX8_tail 25 = .ok (.invokevirtual 208, 3) := by decide +kernel
theorem dX8_tail_28 : decode cX8_tail 28 = .ok (.ifCond .ne 8, 3) := by decide +kernel
theorem dX8_tail_31 : decode cX8_tail 31 = .ok (.ldc 179, 2) := by decide +kernel
theorem dX8_tail_33 : decode cX8_tail 33 = .ok (.goto 21, 3) := by decide +kernel
theorem dX8_tail_36 : decode cX8_tail 36 = .ok (.iload_n 2, 1) := by decide +kernel
theorem dX8_tail_37 : decode cX8_tail 37 = .ok (.ifCond .ne 12, 3) := by decide +kernel
theorem dX8_tail_40 : decode cX8_tail 40 = .ok (.aload_n 0, 1) := by decide +kernel
theorem dX8_tail_41 : decode cX8_tail 41 = .ok (.getfield 65, 3) := by decide +kernel
theorem dX8_tail_44 : decode cX8_tail 44 = .ok (.iload_n 1, 1) := by decide +kernel
theorem dX8_tail_45 : decode cX8_tail 45 = .ok (.iaload, 1) := by decide +kernel
theorem dX8_tail_46 : decode cX8_tail 46 = .ok (.goto 8, 3) := by decide +kernel
theorem dX8_tail_49 : decode cX8_tail 49 = .ok (.aload_n 0, 1) := by decide +kernel
theorem dX8_tail_50 : decode cX8_tail 50 = .ok (.iload_n 1, 1) := by decide +kernel
theorem dX8_tail_51 : decode cX8_tail 51 = .ok (.invokevirtual 211, 3) := by decide +kernel
theorem dX8_tail_54 : decode cX8_tail 54 = .ok (.ireturn, 1) := by decide +kernel
theorem dX8_isNext_0 : decode cX8_isNext 0 = .ok (.iload_n 1, 1) := by decide +kernel
theorem dX8_isNext_1 : decode cX8_isNext 1 = .ok (.ifCond .lt 37, 3) := by decide +kernel
theorem dX8_isNext_4 : decode cX8_isNext 4 = .ok (.aload_n 0, 1) := by decide +kernel
theorem dX8_isNext_5 : decode cX8_isNext 5 = .ok (.getfield 55, 3) := by decide +kernel
theorem dX8_isNext_8 : decode cX8_isNext 8 = .ok (.iload_n 1, 1) := by decide +kernel
theorem dX8_isNext_9 : decode cX8_isNext 9 = .ok (.iaload, 1) := by decide +kernel
theorem dX8_isNext_10 : decode cX8_isNext 10 = .ok (.aload_n 0, 1) := by decide +kernel
theorem dX8_isNext_11 : decode cX8_isNext 11 = .ok (.getfield 55, 3) := by decide +kernel
theorem dX8_isNext_14 : decode cX8_isNext 14 = .ok (.iload_n 2, 1) := by decide +kernel
theorem dX8_isNext_15 : decode cX8_isNext 15 = .ok (.iaload, 1) := by decide +kernel
theorem dX8_isNext_16 : decode cX8_isNext 16 = .ok (.aload_n 0, 1) := by decide +kernel
theorem dX8_isNext_17 : decode cX8_isNext 17 = .ok (.getfield 31, 3) := by decide +kernel
theorem dX8_isNext_20 : decode cX8_isNext 20 = .ok (.iload_n 2, 1) := by decide +kernel
theorem dX8_isNext_21 : decode cX8_isNext 21 = .ok (.iaload, 1) := by decide +kernel
theorem dX8_isNext_22 : decode cX8_isNext 22 = .ok (.iadd, 1) := by decide +kernel
theorem dX8_isNext_23 : decode cX8_isNext 23 = .ok (.if_icmp .ne 15, 3) := by decide +kernel
theorem dX8_isNext_26 : decode cX8_isNext 26 = .ok (.aload_n 0, 1) := by decide +kernel
theorem dX8_isNext_27 : decode cX8_isNext 27 = .ok (.iload_n 1, 1) := by decide +kernel
theorem dX8_isNext_28 : decode cX8_isNext 28 = .ok (.invokevirtual 211, 3) := by decide +kernel
theorem dX8_isNext_31 : decode cX8_isNext 31 = .ok (.ifCond .ne 7, 3) := by decide +kernel
theorem dX8_isNext_34 : decode cX8_isNext 34 = .ok (.iconst 1, 1) := by decide +kernel
theorem dX8_isNext_35 : decode cX8_isNext 35 = .ok (.goto 4, 3) := by decide +kernel
theorem dX8_isNext_38 : decode cX8_isNext 38 = .ok (.iconst 0, 1) := by decide +kernel
theorem dX8_isNext_39 : decode cX8_isNext 39 = .ok (.ireturn, 1) := by decide +kernel
theorem dX8_row_0 : decode cX8_row 0 = .ok (.aload_n 0, 1) := by decide +kernel
theorem dX8_row_1 : decode cX8_row 1 = .ok (.invokevirtual 208, 3) := by decide +kernel
theorem dX8_row_4 : decode cX8_row 4 = .ok (.ifCond .ne 6, 3) := by decide +kernel
theorem dX8_row_7 : decode cX8_row 7 = .ok (.ldc 179, 2) := by decide +kernel
theorem dX8_row_9 : decode cX8_row 9 = .ok (.ireturn, 1) := by decide +kernel
theorem dX8_row_10 : decode cX8_row 10 = .ok (.iconst 0, 1) := by decide +kernel
theorem dX8_row_11 : decode cX8_row 11 = .ok (.istore_n 2, 1) := by decide +kernel
theorem dX8_row_12 : decode cX8_row 12 = .ok (.iload_n 2, 1) := by decide +kernel
theorem dX8_row_13 : decode cX8_row 13 = .ok (.aload_n 0, 1) := by decide +kernel
theorem dX8_row_14 : decode cX8_row 14 = .ok (.getfield 143, 3) := by decide +kernel
theorem dX8_row_17 : decode cX8_row 17 = .ok (.if_icmp .ge 26, 3) := by decide +kernel
theorem dX8_row_20 : decode cX8_row 20 = .ok (.aload_n 0, 1) := by decide +kernel
theorem dX8_row_21 : decode cX8_row 21 = .ok (.getfield 55, 3) := by decide +kernel
theorem dX8_row_24 : decode cX8_row 24 = .ok (.iload_n 2, 1) := by decide +kernel
theorem dX8_row_25 : decode cX8_row 25 = .ok (.iaload, 1) := by decide +kernel
theorem dX8_row_26 : decode cX8_row 26 = .ok (.ifCond .ne 11, 3) := by decide +kernel
theorem dX8_row_29 : decode cX8_row 29 = .ok (.aload_n 0, 1) := by decide +kernel
theorem dX8_row_30 : decode cX8_row 30 = .ok (.iload_n 2, 1) := by decide +kernel
theorem dX8_row_31 : decode cX8_row 31 = .ok (.invokevirtual 211, 3) := by decide +kernel
theorem dX8_row_34 : decode cX8_row 34 = .ok (.ifCond .eq 9, 3) := by decide +kernel
theorem dX8_row_37 : decode cX8_row 37 = .ok (.iinc 2 1, 3) := by decide +kernel
theorem dX8_row_40 : decode cX8_row 40 = .ok (.goto (-28), 3) := by decide +kernel
theorem dX8_row_43 : decode cX8_row 43 = .ok (.iload_n 2, 1) := by decide +kernel
theorem dX8_row_44 : decode cX8_row 44 = .ok (.aload_n 0, 1) := by decide +kernel
theorem dX8_row_45 : decode cX8_row 45 = .ok (.getfield 143, 3) := by decide +kernel
theorem dX8_row_48 : decode cX8_row 48 = .ok (.if_icmp .eq 7, 3) := by decide +kernel
theorem dX8_row_51 : decode cX8_row 51 = .ok (.iload_n 1, 1) := by decide +kernel
theorem dX8_row_52 : decode cX8_row 52 = .ok (.ifCond .ge 5, 3) := by decide +kernel
theorem dX8_row_55 : decode cX8_row 55 = .ok (.iconst (-1), 1) := by decide +kernel
theorem dX8_row_56 : decode cX8_row 56 = .ok (.ireturn, 1) := by decide +kernel
theorem dX8_row_57 : decode cX8_row 57 = .ok (.iconst 0, 1) := by decide +kernel
theorem dX8_row_58 : decode cX8_row 58 = .ok (.istore_n 3, 1) := by decide +kernel
theorem dX8_row_59 : decode cX8_row 59 = .ok (.iload_n 3, 1) := by decide +kernel
theorem dX8_row_60 : decode cX8_row 60 = .ok (.iload_n 1, 1) := by decide +kernel
theorem dX8_row_61 : decode cX8_row 61 = .ok (.if_icmp .ge 59, 3) := by decide +kernel
theorem dX8_row_64 : decode cX8_row 64 = .ok (.iload_n 2, 1) := by decide +kernel
theorem dX8_row_65 : decode cX8_row 65 = .ok (.ifCond .lt 55, 3) := by decide +kernel
theorem dX8_row_68 : decode cX8_row 68 = .ok (.aload_n 0, 1) := by decide +kernel
theorem dX8_row_69 : decode cX8_row 69 = .ok (.iload_n 2, 1) := by decide +kernel
theorem dX8_row_70 : decode cX8_row 70 = .ok (.invokevirtual 199, 3) := by decide +kernel
theorem dX8_row_73 : decode cX8_row 73 = .ok (.istore 4, 2) := by decide +kernel
theorem dX8_row_75 : decode cX8_row 75 = .ok (.aload_n 0, 1) := by decide +kernel
theorem dX8_row_76 : decode cX8_row 76 = .ok (.iload_n 2, 1) := by decide +kernel
theorem dX8_row_77 : decode cX8_row 77 = .ok (.invokevirtual 202, 3) := by decide +kernel
theorem dX8_row_80 : decode cX8_row 80 = .ok (.istore 5, 2) := by decide +kernel
theorem dX8_row_82 : decode cX8_row 82 = .ok (.aload_n 0, 1) := by decide +kernel
theorem dX8_row_83 : decode cX8_row 83 = .ok (.iload 4, 2) := by decide +kernel
theorem dX8_row_85 : decode cX8_row 85 = .ok (.iload_n 2, 1) := by decide +kernel
theorem dX8_row_86 : decode cX8_row 86 = .ok (.invokevirtual 214, 3) := by decide +kernel
theorem dX8_row_89 : decode cX8_row 89 = .ok (.ifCond .eq 8, 3) := by decide +kernel
theorem dX8_row_92 : decode cX8_row 92 = .ok (.iload 4, 2) := by decide +kernel
theorem dX8_row_94 : decode cX8_row 94 = .ok (.goto 19, 3) := by decide +kernel
theorem dX8_row_97 : decode cX8_row 97 = .ok (.aload_n 0, 1) := by decide +kernel
theorem dX8_row_98 : decode cX8_row 98 = .ok (.iload 5, 2) := by decide +kernel
theorem dX8_row_100 : decode cX8_row 100 = .ok (.iload_n 2, 1) := by decide +kernel
theorem dX8_row_101 : decode cX8_row 101 = .ok (.invokevirtual 214, 3) := by decide +kernel
theorem dX8_row_104 : decode cX8_row 104 = .ok (.ifCond .eq 8, 3) := by decide +kernel
theorem dX8_row_107 : decode cX8_row 107 = .ok (.iload 5, 2) := by decide +kernel
theorem dX8_row_109 : decode cX8_row 109 = .ok (.goto 4, 3) := by decide +kernel
theorem dX8_row_112 : decode cX8_row 112 = .ok (.iconst (-1), 1) := by decide +kernel
theorem dX8_row_113 : decode cX8_row 113 = .ok (.istore_n 2, 1) := by decide +kernel
theorem dX8_row_114 : decode cX8_row 114 = .ok (.iinc 3 1, 3) := by decide +kernel
theorem dX8_row_117 : decode cX8_row 117 = .ok (.goto (-58), 3) := by decide +kernel
theorem dX8_row_120 : decode cX8_row 120 = .ok (.iload_n 2, 1) := by decide +kernel
theorem dX8_row_121 : decode cX8_row 121 = .ok (.ireturn, 1) := by decide +kernel
theorem dX8_rule_0 : decode cX8_rule 0 = .ok (.iload_n 1, 1) := by decide +kernel
theorem dX8_rule_1 : decode cX8_rule 1 = .ok (.i2l, 1) := by decide +kernel
theorem dX8_rule_2 : decode cX8_rule 2 = .ok (.lconst 0, 1) := by decide +kernel
theorem dX8_rule_3 : decode cX8_rule 3 = .ok (.ldc2_w 174, 3) := by decide +kernel
theorem dX8_rule_6 : decode cX8_rule 6 = .ok (.invokestatic 124, 3) := by decide +kernel
theorem dX8_rule_9 : decode cX8_rule 9 = .ok (.ifCond .ne 6, 3) := by decide +kernel
theorem dX8_rule_12 : decode cX8_rule 12 = .ok (.ldc 132, 2) := by decide +kernel
theorem dX8_rule_14 : decode cX8_rule 14 = .ok (.ireturn, 1) := by decide +kernel
theorem dX8_rule_15 : decode cX8_rule 15 = .ok (.iconst 0, 1) := by decide +kernel
theorem dX8_rule_16 : decode cX8_rule 16 = .ok (.istore_n 2, 1) := by decide +kernel
theorem dX8_rule_17 : decode cX8_rule 17 = .ok (.iload_n 2, 1) := by decide +kernel
theorem dX8_rule_18 : decode cX8_rule 18 = .ok (.bipush 8, 2) := by decide +kernel
theorem dX8_rule_20 : decode cX8_rule 20 = .ok (.if_icmp .ge 16, 3) := by decide +kernel
theorem dX8_rule_23 : decode cX8_rule 23 = .ok (.aload_n 0, 1) := by decide +kernel
theorem dX8_rule_24 : decode cX8_rule 24 = .ok (.getfield 40, 3) := by decide +kernel
theorem dX8_rule_27 : decode cX8_rule 27 = .ok (.iload_n 2, 1) := by decide +kernel
theorem dX8_rule_28 : decode cX8_rule 28 = .ok (.iconst 0, 1) := by decide +kernel
theorem dX8_rule_29 : decode cX8_rule 29 = .ok (.iastore, 1) := by decide +kernel
theorem dX8_rule_30 : decode cX8_rule 30 = .ok (.iinc 2 1, 3) := by decide +kernel
theorem dX8_rule_33 : decode cX8_rule 33 = .ok (.goto (-16), 3) := by decide +kernel
theorem dX8_rule_36 : decode cX8_rule 36 = .ok (.iconst 0, 1) := by decide +kernel
theorem dX8_rule_37 : decode cX8_rule 37 = .ok (.istore_n 2, 1) := by decide +kernel
theorem dX8_rule_38 : decode cX8_rule 38 = .ok (.iload_n 2, 1) := by decide +kernel
theorem dX8_rule_39 : decode cX8_rule 39 = .ok (.aload_n 0, 1) := by decide +kernel
theorem dX8_rule_40 : decode cX8_rule 40 = .ok (.getfield 143, 3) := by decide +kernel
theorem dX8_rule_43 : decode cX8_rule 43 = .ok (.if_icmp .ge 16, 3) := by decide +kernel
theorem dX8_rule_46 : decode cX8_rule 46 = .ok (.aload_n 0, 1) := by decide +kernel
theorem dX8_rule_47 : decode cX8_rule 47 = .ok (.getfield 58, 3) := by decide +kernel
theorem dX8_rule_50 : decode cX8_rule 50 = .ok (.iload_n 2, 1) := by decide +kernel
theorem dX8_rule_51 : decode cX8_rule 51 = .ok (.iconst 0, 1) := by decide +kernel
theorem dX8_rule_52 : decode cX8_rule 52 = .ok (.bastore, 1) := by decide +kernel
theorem dX8_rule_53 : decode cX8_rule 53 = .ok (.iinc 2 1, 3) := by decide +kernel
theorem dX8_rule_56 : decode cX8_rule 56 = .ok (.goto (-18), 3) := by decide +kernel
theorem dX8_rule_59 : decode cX8_rule 59 = .ok (.aload_n 0, 1) := by decide +kernel
theorem dX8_rule_60 : decode cX8_rule 60 = .ok (.iconst 0, 1) := by decide +kernel
theorem dX8_rule_61 : decode cX8_rule 61 = .ok (.putfield 183, 3) := by decide +kernel
theorem dX8_rule_64 : decode cX8_rule 64 = .ok (.iconst 0, 1) := by decide +kernel
theorem dX8_rule_65 : decode cX8_rule 65 = .ok (.istore_n 2, 1) := by decide +kernel
theorem dX8_rule_66 : decode cX8_rule 66 = .ok (.iload_n 2, 1) := by decide +kernel
theorem dX8_rule_67 : decode cX8_rule 67 = .ok (.aload_n 0, 1) := by decide +kernel
theorem dX8_rule_68 : decode cX8_rule 68 = .ok (.getfield 143, 3) := by decide +kernel
theorem dX8_rule_71 : decode cX8_rule 71 = .ok (.if_icmp .ge 216, 3) := by decide +kernel
theorem dX8_rule_74 : decode cX8_rule 74 = .ok (.iconst (-1), 1) := by decide +kernel
theorem dX8_rule_75 : decode cX8_rule 75 = .ok (.istore_n 3, 1) := by decide +kernel
theorem dX8_rule_76 : decode cX8_rule 76 = .ok (.iconst 0, 1) := by decide +kernel
theorem dX8_rule_77 : decode cX8_rule 77 = .ok (.istore 4, 2) := by decide +kernel
theorem dX8_rule_79 : decode cX8_rule 79 = .ok (.iconst 0, 1) := by decide +kernel
theorem dX8_rule_80 : decode cX8_rule 80 = .ok (.istore 5, 2) := by decide +kernel
theorem dX8_rule_82 : decode cX8_rule 82 = .ok (.iconst 0, 1) := by decide +kernel
theorem dX8_rule_83 : decode cX8_rule 83 = .ok (.istore 6, 2) := by decide +kernel
theorem dX8_rule_85 : decode cX8_rule 85 = .ok (.iload 6, 2) := by decide +kernel
theorem dX8_rule_87 : decode cX8_rule 87 = .ok (.aload_n 0, 1) := by decide +kernel
theorem dX8_rule_88 : decode cX8_rule 88 = .ok (.getfield 140, 3) := by decide +kernel
theorem dX8_rule_91 : decode cX8_rule 91 = .ok (.if_icmp .ge 101, 3) := by decide +kernel
theorem dX8_rule_94 : decode cX8_rule 94 = .ok (.aload_n 0, 1) := by decide +kernel
theorem dX8_rule_95 : decode cX8_rule 95 = .ok (.iload 6, 2) := by decide +kernel
theorem dX8_rule_97 : decode cX8_rule 97 = .ok (.invokevirtual 218, 3) := by decide +kernel
theorem dX8_rule_100 : decode cX8_rule 100 = .ok (.istore 7, 2) := by decide +kernel
theorem dX8_rule_102 : decode cX8_rule 102 = .ok (.iload 7, 2) := by decide +kernel
theorem dX8_rule_104 : decode cX8_rule 104 = .ok (.ifCond .ge 6, 3) := by decide +kernel
theorem dX8_rule_107 : decode cX8_rule 107 = .ok (.goto 79, 3) := by decide +kernel
theorem dX8_rule_110 : decode cX8_rule 110 = .ok (.aload_n 0, 1) := by decide +kernel
theorem dX8_rule_111 : decode cX8_rule 111 = .ok (.iload 7, 2) := by decide +kernel
theorem dX8_rule_113 : decode cX8_rule 113 = .ok (.invokevirtual 221, 3) := by decide +kernel
theorem dX8_rule_116 : decode cX8_rule 116 = .ok (.istore 8, 2) := by decide +kernel
theorem dX8_rule_118 : decode cX8_rule 118 = .ok (.iload_n 1, 1) := by decide +kernel
theorem dX8_rule_119 : decode cX8_rule 119 = .ok (.ifCond .ne 13, 3) := by decide +kernel
theorem dX8_rule_122 : decode cX8_rule 122 = .ok (.aload_n 0, 1) := by decide +kernel
theorem dX8_rule_123 : decode cX8_rule 123 = .ok (.getfield 31, 3) := by decide +kernel
theorem dX8_rule_126 : decode cX8_rule 126 = .ok (.iload 7, 2) := by decide +kernel
theorem dX8_rule_128 : decode cX8_rule 128 = .ok (.iaload, 1) := by decide +kernel
theorem dX8_rule_129 : decode cX8_rule 129 = .ok (.goto 19, 3) := by decide +kernel
theorem dX8_rule_132 : decode cX8_rule 132 = .ok (.iload_n 1, 1) := by decide +kernel
theorem dX8_rule_133 : decode cX8_rule 133 = .ok (.iconst 1, 1) := by decide +kernel
theorem dX8_rule_134 : decode cX8_rule 134 = .ok (.if_icmp .ne 13, 3) := by decide +kernel
theorem dX8_rule_137 : decode cX8_rule 137 = .ok (.aload_n 0, 1) := by decide +kernel
theorem dX8_rule_138 : decode cX8_rule 138 = .ok (.iload 7, 2) := by decide +kernel
theorem dX8_rule_140 : decode cX8_rule 140 = .ok (.invokevirtual 224, 3) := by decide +kernel
theorem dX8_rule_143 : decode cX8_rule 143 = .ok (.ineg, 1) := by decide +kernel
theorem dX8_rule_144 : decode cX8_rule 144 = .ok (.goto 4, 3) := by decide +kernel
theorem dX8_rule_147 : decode cX8_rule 147 = .ok (.iconst 0, 1) := by decide +kernel
theorem dX8_rule_148 : decode cX8_rule 148 = .ok (.istore 9, 2) := by decide +kernel
theorem dX8_rule_150 : decode cX8_rule 150 = .ok (.iload_n 3, 1) := by decide +kernel
theorem dX8_rule_151 : decode cX8_rule 151 = .ok (.ifCond .lt 24, 3) := by decide +kernel
theorem dX8_rule_154 : decode cX8_rule 154 = .ok (.iload 8, 2) := by decide +kernel
theorem dX8_rule_156 : decode cX8_rule 156 = .ok (.iload 4, 2) := by decide +kernel
theorem dX8_rule_158 : decode cX8_rule 158 = .ok (.if_icmp .lt 17, 3) := by decide +kernel
theorem dX8_rule_161 : decode cX8_rule 161 = .ok (.iload 8, 2) := by decide +kernel
theorem dX8_rule_163 : decode cX8_rule 163 = .ok (.iload 4, 2) := by decide +kernel
theorem dX8_rule_165 : decode cX8_rule 165 = .ok (.if_icmp .ne 21, 3) := by decide +kernel
theorem dX8_rule_168 : decode cX8_rule 168 = .ok (.iload 9, 2) := by decide +kernel
theorem dX8_rule_170 : decode cX8_rule 170 = .ok (.iload 5, 2) := by decide +kernel
theorem dX8_rule_172 : decode cX8_rule 172 = .ok (.if_icmp .ge 14, 3) := by decide +kernel
theorem dX8_rule_175 : decode cX8_rule 175 = .ok (.iload 7, 2) := by decide +kernel
theorem dX8_rule_177 : decode cX8_rule 177 = .ok (.istore_n 3, 1) := by decide +kernel
theorem dX8_rule_178 : decode cX8_rule 178 = .ok (.iload 8, 2) := by decide +kernel
theorem dX8_rule_180 : decode cX8_rule 180 = .ok (.istore 4, 2) := by decide +kernel
theorem dX8_rule_182 : decode cX8_rule 182 = .ok (.iload 9, 2) := by decide +kernel
