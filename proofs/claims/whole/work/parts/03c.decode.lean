theorem dX7_swap_58 : decode cX7_swap 58 = .ok (.getfield 19, 3) := by decide +kernel
theorem dX7_swap_61 : decode cX7_swap 61 = .ok (.invokevirtual 189, 3) := by decide +kernel
theorem dX7_swap_64 : decode cX7_swap 64 = .ok (.istore_n 3, 1) := by decide +kernel
theorem dX7_swap_65 : decode cX7_swap 65 = .ok (.aload_n 0, 1) := by decide +kernel
theorem dX7_swap_66 : decode cX7_swap 66 = .ok (.getfield 19, 3) := by decide +kernel
theorem dX7_swap_69 : decode cX7_swap 69 = .ok (.iload_n 1, 1) := by decide +kernel
theorem dX7_swap_70 : decode cX7_swap 70 = .ok (.iload_n 2, 1) := by decide +kernel
theorem dX7_swap_71 : decode cX7_swap 71 = .ok (.invokevirtual 193, 3) := by decide +kernel
theorem dX7_swap_74 : decode cX7_swap 74 = .ok (.iload_n 3, 1) := by decide +kernel
theorem dX7_swap_75 : decode cX7_swap 75 = .ok (.ifCond .eq 32, 3) := by decide +kernel
theorem dX7_swap_78 : decode cX7_swap 78 = .ok (.aload_n 0, 1) := by decide +kernel
theorem dX7_swap_79 : decode cX7_swap 79 = .ok (.getfield 33, 3) := by decide +kernel
theorem dX7_swap_82 : decode cX7_swap 82 = .ok (.aload_n 0, 1) := by decide +kernel
theorem dX7_swap_83 : decode cX7_swap 83 = .ok (.getfield 10, 3) := by decide +kernel
theorem dX7_swap_86 : decode cX7_swap 86 = .ok (.aload_n 0, 1) := by decide +kernel
theorem dX7_swap_87 : decode cX7_swap 87 = .ok (.getfield 19, 3) := by decide +kernel
theorem dX7_swap_90 : decode cX7_swap 90 = .ok (.invokevirtual 189, 3) := by decide +kernel
theorem dX7_swap_93 : decode cX7_swap 93 = .ok (.ifCond .ne 14, 3) := by decide +kernel
theorem dX7_swap_96 : decode cX7_swap 96 = .ok (.aload_n 0, 1) := by decide +kernel
theorem dX7_swap_97 : decode cX7_swap 97 = .ok (.getfield 19, 3) := by decide +kernel
theorem dX7_swap_100 : decode cX7_swap 100 = .ok (.iload_n 1, 1) := by decide +kernel
theorem dX7_swap_101 : decode cX7_swap 101 = .ok (.iload_n 2, 1) := by decide +kernel
theorem dX7_swap_102 : decode cX7_swap 102 = .ok (.invokevirtual 193, 3) := by decide +kernel
theorem dX7_swap_105 : decode cX7_swap 105 = .ok (.iconst 0, 1) := by decide +kernel
theorem dX7_swap_106 : decode cX7_swap 106 = .ok (.ireturn, 1) := by decide +kernel
theorem dX7_swap_107 : decode cX7_swap 107 = .ok (.iconst 1, 1) := by decide +kernel
theorem dX7_swap_108 : decode cX7_swap 108 = .ok (.ireturn, 1) := by decide +kernel
theorem dX7_lay_0 : decode cX7_lay 0 = .ok (.aload_n 0, 1) := by decide +kernel
theorem dX7_lay_1 : decode cX7_lay 1 = .ok (.iload_n 1, 1) := by decide +kernel
theorem dX7_lay_2 : decode cX7_lay 2 = .ok (.invokevirtual 104, 3) := by decide +kernel
theorem dX7_lay_5 : decode cX7_lay 5 = .ok (.ifCond .ne 6, 3) := by decide +kernel
theorem dX7_lay_8 : decode cX7_lay 8 = .ok (.ldc 92, 2) := by decide +kernel
theorem dX7_lay_10 : decode cX7_lay 10 = .ok (.ireturn, 1) := by decide +kernel
theorem dX7_lay_11 : decode cX7_lay 11 = .ok (.aload_n 0, 1) := by decide +kernel
theorem dX7_lay_12 : decode cX7_lay 12 = .ok (.getfield 10, 3) := by decide +kernel
theorem dX7_lay_15 : decode cX7_lay 15 = .ok (.getfield 110, 3) := by decide +kernel
theorem dX7_lay_18 : decode cX7_lay 18 = .ok (.iload_n 1, 1) := by decide +kernel
theorem dX7_lay_19 : decode cX7_lay 19 = .ok (.iaload, 1) := by decide +kernel
theorem dX7_lay_20 : decode cX7_lay 20 = .ok (.istore_n 3, 1) := by decide +kernel
theorem dX7_lay_21 : decode cX7_lay 21 = .ok (.iload_n 2, 1) := by decide +kernel
theorem dX7_lay_22 : decode cX7_lay 22 = .ok (.iconst 0, 1) := by decide +kernel
theorem dX7_lay_23 : decode cX7_lay 23 = .ok (.aload_n 0, 1) := by decide +kernel
theorem dX7_lay_24 : decode cX7_lay 24 = .ok (.getfield 19, 3) := by decide +kernel
theorem dX7_lay_27 : decode cX7_lay 27 = .ok (.getfield 185, 3) := by decide +kernel
theorem dX7_lay_30 : decode cX7_lay 30 = .ok (.iload_n 3, 1) := by decide +kernel
theorem dX7_lay_31 : decode cX7_lay 31 = .ok (.iaload, 1) := by decide +kernel
theorem dX7_lay_32 : decode cX7_lay 32 = .ok (.iconst 1, 1) := by decide +kernel
theorem dX7_lay_33 : decode cX7_lay 33 = .ok (.isub, 1) := by decide +kernel
theorem dX7_lay_34 : decode cX7_lay 34 = .ok (.invokestatic 68, 3) := by decide +kernel
theorem dX7_lay_37 : decode cX7_lay 37 = .ok (.ifCond .eq 6, 3) := by decide +kernel
theorem dX7_lay_40 : decode cX7_lay 40 = .ok (.ldc 72, 2) := by decide +kernel
theorem dX7_lay_42 : decode cX7_lay 42 = .ok (.ireturn, 1) := by decide +kernel
theorem dX7_lay_43 : decode cX7_lay 43 = .ok (.aload_n 0, 1) := by decide +kernel
theorem dX7_lay_44 : decode cX7_lay 44 = .ok (.getfield 19, 3) := by decide +kernel
theorem dX7_lay_47 : decode cX7_lay 47 = .ok (.iload_n 3, 1) := by decide +kernel
theorem dX7_lay_48 : decode cX7_lay 48 = .ok (.aload_n 0, 1) := by decide +kernel
theorem dX7_lay_49 : decode cX7_lay 49 = .ok (.getfield 19, 3) := by decide +kernel
theorem dX7_lay_52 : decode cX7_lay 52 = .ok (.iload_n 3, 1) := by decide +kernel
theorem dX7_lay_53 : decode cX7_lay 53 = .ok (.iload_n 1, 1) := by decide +kernel
theorem dX7_lay_54 : decode cX7_lay 54 = .ok (.invokevirtual 119, 3) := by decide +kernel
theorem dX7_lay_57 : decode cX7_lay 57 = .ok (.iload_n 2, 1) := by decide +kernel
theorem dX7_lay_58 : decode cX7_lay 58 = .ok (.invokevirtual 197, 3) := by decide +kernel
theorem dX7_lay_61 : decode cX7_lay 61 = .ok (.aload_n 0, 1) := by decide +kernel
theorem dX7_lay_62 : decode cX7_lay 62 = .ok (.getfield 33, 3) := by decide +kernel
theorem dX7_lay_65 : decode cX7_lay 65 = .ok (.aload_n 0, 1) := by decide +kernel
theorem dX7_lay_66 : decode cX7_lay 66 = .ok (.getfield 10, 3) := by decide +kernel
theorem dX7_lay_69 : decode cX7_lay 69 = .ok (.aload_n 0, 1) := by decide +kernel
theorem dX7_lay_70 : decode cX7_lay 70 = .ok (.getfield 19, 3) := by decide +kernel
theorem dX7_lay_73 : decode cX7_lay 73 = .ok (.invokevirtual 189, 3) := by decide +kernel
theorem dX7_lay_76 : decode cX7_lay 76 = .ok (.ifCond .eq 7, 3) := by decide +kernel
theorem dX7_lay_79 : decode cX7_lay 79 = .ok (.iconst 1, 1) := by decide +kernel
theorem dX7_lay_80 : decode cX7_lay 80 = .ok (.goto 4, 3) := by decide +kernel
theorem dX7_lay_83 : decode cX7_lay 83 = .ok (.iconst 0, 1) := by decide +kernel
theorem dX7_lay_84 : decode cX7_lay 84 = .ok (.ireturn, 1) := by decide +kernel
theorem dX7_end_0 : decode cX7_end 0 = .ok (.aload_n 0, 1) := by decide +kernel
theorem dX7_end_1 : decode cX7_end 1 = .ok (.getfield 33, 3) := by decide +kernel
theorem dX7_end_4 : decode cX7_end 4 = .ok (.aload_n 0, 1) := by decide +kernel
theorem dX7_end_5 : decode cX7_end 5 = .ok (.getfield 10, 3) := by decide +kernel
theorem dX7_end_8 : decode cX7_end 8 = .ok (.aload_n 0, 1) := by decide +kernel
theorem dX7_end_9 : decode cX7_end 9 = .ok (.getfield 19, 3) := by decide +kernel
theorem dX7_end_12 : decode cX7_end 12 = .ok (.invokevirtual 189, 3) := by decide +kernel
theorem dX7_end_15 : decode cX7_end 15 = .ok (.ifCond .eq 13, 3) := by decide +kernel
theorem dX7_end_18 : decode cX7_end 18 = .ok (.aload_n 0, 1) := by decide +kernel
theorem dX7_end_19 : decode cX7_end 19 = .ok (.getfield 33, 3) := by decide +kernel
theorem dX7_end_22 : decode cX7_end 22 = .ok (.getfield 200, 3) := by decide +kernel
theorem dX7_end_25 : decode cX7_end 25 = .ok (.goto 4, 3) := by decide +kernel
theorem dX7_end_28 : decode cX7_end 28 = .ok (.iconst (-1), 1) := by decide +kernel
theorem dX7_end_29 : decode cX7_end 29 = .ok (.ireturn, 1) := by decide +kernel
theorem dX7_begin_0 : decode cX7_begin 0 = .ok (.aload_n 0, 1) := by decide +kernel
theorem dX7_begin_1 : decode cX7_begin 1 = .ok (.iload_n 1, 1) := by decide +kernel
theorem dX7_begin_2 : decode cX7_begin 2 = .ok (.invokevirtual 104, 3) := by decide +kernel
theorem dX7_begin_5 : decode cX7_begin 5 = .ok (.ifCond .ne 6, 3) := by decide +kernel
theorem dX7_begin_8 : decode cX7_begin 8 = .ok (.ldc 92, 2) := by decide +kernel
theorem dX7_begin_10 : decode cX7_begin 10 = .ok (.ireturn, 1) := by decide +kernel
theorem dX7_begin_11 : decode cX7_begin 11 = .ok (.aload_n 0, 1) := by decide +kernel
theorem dX7_begin_12 : decode cX7_begin 12 = .ok (.getfield 33, 3) := by decide +kernel
theorem dX7_begin_15 : decode cX7_begin 15 = .ok (.aload_n 0, 1) := by decide +kernel
theorem dX7_begin_16 : decode cX7_begin 16 = .ok (.getfield 10, 3) := by decide +kernel
theorem dX7_begin_19 : decode cX7_begin 19 = .ok (.aload_n 0, 1) := by decide +kernel
theorem dX7_begin_20 : decode cX7_begin 20 = .ok (.getfield 19, 3) := by decide +kernel
theorem dX7_begin_23 : decode cX7_begin 23 = .ok (.invokevirtual 189, 3) := by decide +kernel
theorem dX7_begin_26 : decode cX7_begin 26 = .ok (.ifCond .eq 15, 3) := by decide +kernel
theorem dX7_begin_29 : decode cX7_begin 29 = .ok (.aload_n 0, 1) := by decide +kernel
theorem dX7_begin_30 : decode cX7_begin 30 = .ok (.getfield 33, 3) := by decide +kernel
theorem dX7_begin_33 : decode cX7_begin 33 = .ok (.getfield 203, 3) := by decide +kernel
theorem dX7_begin_36 : decode cX7_begin 36 = .ok (.iload_n 1, 1) := by decide +kernel
theorem dX7_begin_37 : decode cX7_begin 37 = .ok (.iaload, 1) := by decide +kernel
theorem dX7_begin_38 : decode cX7_begin 38 = .ok (.goto 5, 3) := by decide +kernel
theorem dX7_begin_41 : decode cX7_begin 41 = .ok (.ldc 180, 2) := by decide +kernel
theorem dX7_begin_43 : decode cX7_begin 43 = .ok (.ireturn, 1) := by decide +kernel
theorem dX7_tail_0 : decode cX7_tail 0 = .ok (.aload_n 0, 1) := by decide +kernel
theorem dX7_tail_1 : decode cX7_tail 1 = .ok (.iload_n 1, 1) := by decide +kernel
theorem dX7_tail_2 : decode cX7_tail 2 = .ok (.invokevirtual 104, 3) := by decide +kernel
theorem dX7_tail_5 : decode cX7_tail 5 = .ok (.ifCond .ne 6, 3) := by decide +kernel
theorem dX7_tail_8 : decode cX7_tail 8 = .ok (.ldc 92, 2) := by decide +kernel
theorem dX7_tail_10 : decode cX7_tail 10 = .ok (.ireturn, 1) := by decide +kernel
theorem dX7_tail_11 : decode cX7_tail 11 = .ok (.iload_n 2, 1) := by decide +kernel
theorem dX7_tail_12 : decode cX7_tail 12 = .ok (.iconst 0, 1) := by decide +kernel
theorem dX7_tail_13 : decode cX7_tail 13 = .ok (.iconst 1, 1) := by decide +kernel
theorem dX7_tail_14 : decode cX7_tail 14 = .ok (.invokestatic 68, 3) := by decide +kernel
theorem dX7_tail_17 : decode cX7_tail 17 = .ok (.ifCond .eq 6, 3) := by decide +kernel
theorem dX7_tail_20 : decode cX7_tail 20 = .ok (.ldc 72, 2) := by decide +kernel
theorem dX7_tail_22 : decode cX7_tail 22 = .ok (.ireturn, 1) := by decide +kernel
theorem dX7_tail_23 : decode cX7_tail 23 = .ok (.aload_n 0, 1) := by decide +kernel
theorem dX7_tail_24 : decode cX7_tail 24 = .ok (.invokevirtual 206, 3) := by decide +kernel
theorem dX7_tail_27 : decode cX7_tail 27 = .ok (.ifCond .ne 6, 3) := by decide +kernel
theorem dX7_tail_30 : decode cX7_tail 30 = .ok (.ldc 180, 2) := by decide +kernel
theorem dX7_tail_32 : decode cX7_tail 32 = .ok (.ireturn, 1) := by decide +kernel
theorem dX7_tail_33 : decode cX7_tail 33 = .ok (.iload_n 2, 1) := by decide +kernel
theorem dX7_tail_34 : decode cX7_tail 34 = .ok (.ifCond .ne 15, 3) := by decide +kernel
theorem dX7_tail_37 : decode cX7_tail 37 = .ok (.aload_n 0, 1) := by decide +kernel
theorem dX7_tail_38 : decode cX7_tail 38 = .ok (.getfield 33, 3) := by decide +kernel
theorem dX7_tail_41 : decode cX7_tail 41 = .ok (.getfield 209, 3) := by decide +kernel
theorem dX7_tail_44 : decode cX7_tail 44 = .ok (.iload_n 1, 1) := by decide +kernel
theorem dX7_tail_45 : decode cX7_tail 45 = .ok (.iaload, 1) := by decide +kernel
theorem dX7_tail_46 : decode cX7_tail 46 = .ok (.goto 15, 3) := by decide +kernel
theorem dX7_tail_49 : decode cX7_tail 49 = .ok (.aload_n 0, 1) := by decide +kernel
theorem dX7_tail_50 : decode cX7_tail 50 = .ok (.getfield 33, 3) := by decide +kernel
theorem dX7_tail_53 : decode cX7_tail 53 = .ok (.aload_n 0, 1) := by decide +kernel
theorem dX7_tail_54 : decode cX7_tail 54 = .ok (.getfield 10, 3) := by decide +kernel
theorem dX7_tail_57 : decode cX7_tail 57 = .ok (.iload_n 1, 1) := by decide +kernel
theorem dX7_tail_58 : decode cX7_tail 58 = .ok (.invokevirtual 212, 3) := by decide +kernel
theorem dX7_tail_61 : decode cX7_tail 61 = .ok (.ireturn, 1) := by decide +kernel
theorem dX7_row_0 : decode cX7_row 0 = .ok (.aload_n 0, 1) := by decide +kernel
theorem dX7_row_1 : decode cX7_row 1 = .ok (.invokevirtual 206, 3) := by decide +kernel
theorem dX7_row_4 : decode cX7_row 4 = .ok (.ifCond .ne 6, 3) := by decide +kernel
theorem dX7_row_7 : decode cX7_row 7 = .ok (.ldc 180, 2) := by decide +kernel
theorem dX7_row_9 : decode cX7_row 9 = .ok (.ireturn, 1) := by decide +kernel
theorem dX7_row_10 : decode cX7_row 10 = .ok (.iload_n 1, 1) := by decide +kernel
theorem dX7_row_11 : decode cX7_row 11 = .ok (.iconst 0, 1) := by decide +kernel
theorem dX7_row_12 : decode cX7_row 12 = .ok (.aload_n 0, 1) := by decide +kernel
theorem dX7_row_13 : decode cX7_row 13 = .ok (.getfield 10, 3) := by decide +kernel
theorem dX7_row_16 : decode cX7_row 16 = .ok (.getfield 97, 3) := by decide +kernel
theorem dX7_row_19 : decode cX7_row 19 = .ok (.iconst 1, 1) := by decide +kernel
theorem dX7_row_20 : decode cX7_row 20 = .ok (.isub, 1) := by decide +kernel
theorem dX7_row_21 : decode cX7_row 21 = .ok (.invokestatic 68, 3) := by decide +kernel
theorem dX7_row_24 : decode cX7_row 24 = .ok (.ifCond .eq 5, 3) := by decide +kernel
theorem dX7_row_27 : decode cX7_row 27 = .ok (.iconst (-1), 1) := by decide +kernel
theorem dX7_row_28 : decode cX7_row 28 = .ok (.ireturn, 1) := by decide +kernel
theorem dX7_row_29 : decode cX7_row 29 = .ok (.aload_n 0, 1) := by decide +kernel
theorem dX7_row_30 : decode cX7_row 30 = .ok (.getfield 33, 3) := by decide +kernel
theorem dX7_row_33 : decode cX7_row 33 = .ok (.aload_n 0, 1) := by decide +kernel
theorem dX7_row_34 : decode cX7_row 34 = .ok (.getfield 10, 3) := by decide +kernel
theorem dX7_row_37 : decode cX7_row 37 = .ok (.invokevirtual 216, 3) := by decide +kernel
theorem dX7_row_40 : decode cX7_row 40 = .ok (.istore_n 2, 1) := by decide +kernel
theorem dX7_row_41 : decode cX7_row 41 = .ok (.iconst 0, 1) := by decide +kernel
theorem dX7_row_42 : decode cX7_row 42 = .ok (.istore_n 3, 1) := by decide +kernel
theorem dX7_row_43 : decode cX7_row 43 = .ok (.iload_n 3, 1) := by decide +kernel
theorem dX7_row_44 : decode cX7_row 44 = .ok (.iload_n 1, 1) := by decide +kernel
theorem dX7_row_45 : decode cX7_row 45 = .ok (.if_icmp .ge 27, 3) := by decide +kernel
theorem dX7_row_48 : decode cX7_row 48 = .ok (.iload_n 2, 1) := by decide +kernel
theorem dX7_row_49 : decode cX7_row 49 = .ok (.iconst (-1), 1) := by decide +kernel
theorem dX7_row_50 : decode cX7_row 50 = .ok (.if_icmp .eq 22, 3) := by decide +kernel
theorem dX7_row_53 : decode cX7_row 53 = .ok (.aload_n 0, 1) := by decide +kernel
theorem dX7_row_54 : decode cX7_row 54 = .ok (.getfield 33, 3) := by decide +kernel
theorem dX7_row_57 : decode cX7_row 57 = .ok (.aload_n 0, 1) := by decide +kernel
theorem dX7_row_58 : decode cX7_row 58 = .ok (.getfield 10, 3) := by decide +kernel
theorem dX7_row_61 : decode cX7_row 61 = .ok (.iload_n 2, 1) := by decide +kernel
theorem dX7_row_62 : decode cX7_row 62 = .ok (.invokevirtual 220, 3) := by decide +kernel
theorem dX7_row_65 : decode cX7_row 65 = .ok (.istore_n 2, 1) := by decide +kernel
theorem dX7_row_66 : decode cX7_row 66 = .ok (.iinc 3 1, 3) := by decide +kernel
theorem dX7_row_69 : decode cX7_row 69 = .ok (.goto (-26), 3) := by decide +kernel
theorem dX7_row_72 : decode cX7_row 72 = .ok (.iload_n 2, 1) := by decide +kernel
theorem dX7_row_73 : decode cX7_row 73 = .ok (.ireturn, 1) := by decide +kernel
theorem dX7_rule_0 : decode cX7_rule 0 = .ok (.iload_n 1, 1) := by decide +kernel
theorem dX7_rule_1 : decode cX7_rule 1 = .ok (.iconst 0, 1) := by decide +kernel
theorem dX7_rule_2 : decode cX7_rule 2 = .ok (.iconst 2, 1) := by decide +kernel
theorem dX7_rule_3 : decode cX7_rule 3 = .ok (.invokestatic 68, 3) := by decide +kernel
theorem dX7_rule_6 : decode cX7_rule 6 = .ok (.ifCond .eq 6, 3) := by decide +kernel
theorem dX7_rule_9 : decode cX7_rule 9 = .ok (.ldc 72, 2) := by decide +kernel
theorem dX7_rule_11 : decode cX7_rule 11 = .ok (.ireturn, 1) := by decide +kernel
theorem dX7_rule_12 : decode cX7_rule 12 = .ok (.aload_n 0, 1) := by decide +kernel
theorem dX7_rule_13 : decode cX7_rule 13 = .ok (.getfield 19, 3) := by decide +kernel
theorem dX7_rule_16 : decode cX7_rule 16 = .ok (.invokevirtual 223, 3) := by decide +kernel
theorem dX7_rule_19 : decode cX7_rule 19 = .ok (.aload_n 0, 1) := by decide +kernel
theorem dX7_rule_20 : decode cX7_rule 20 = .ok (.getfield 33, 3) := by decide +kernel
theorem dX7_rule_23 : decode cX7_rule 23 = .ok (.invokevirtual 226, 3) := by decide +kernel
theorem dX7_rule_26 : decode cX7_rule 26 = .ok (.iconst 0, 1) := by decide +kernel
theorem dX7_rule_27 : decode cX7_rule 27 = .ok (.istore_n 2, 1) := by decide +kernel
theorem dX7_rule_28 : decode cX7_rule 28 = .ok (.iload_n 2, 1) := by decide +kernel
theorem dX7_rule_29 : decode cX7_rule 29 = .ok (.aload_n 0, 1) := by decide +kernel
theorem dX7_rule_30 : decode cX7_rule 30 = .ok (.getfield 10, 3) := by decide +kernel
theorem dX7_rule_33 : decode cX7_rule 33 = .ok (.getfield 97, 3) := by decide +kernel
theorem dX7_rule_36 : decode cX7_rule 36 = .ok (.if_icmp .ge 73, 3) := by decide +kernel
theorem dX7_rule_39 : decode cX7_rule 39 = .ok (.aload_n 0, 1) := by decide +kernel
theorem dX7_rule_40 : decode cX7_rule 40 = .ok (.iload_n 1, 1) := by decide +kernel
theorem dX7_rule_41 : decode cX7_rule 41 = .ok (.invokevirtual 227, 3) := by decide +kernel
theorem dX7_rule_44 : decode cX7_rule 44 = .ok (.istore_n 3, 1) := by decide +kernel
theorem dX7_rule_45 : decode cX7_rule 45 = .ok (.iload_n 3, 1) := by decide +kernel
theorem dX7_rule_46 : decode cX7_rule 46 = .ok (.iconst (-1), 1) := by decide +kernel
theorem dX7_rule_47 : decode cX7_rule 47 = .ok (.if_icmp .eq 56, 3) := by decide +kernel
theorem dX7_rule_50 : decode cX7_rule 50 = .ok (.aload_n 0, 1) := by decide +kernel
theorem dX7_rule_51 : decode cX7_rule 51 = .ok (.getfield 33, 3) := by decide +kernel
theorem dX7_rule_54 : decode cX7_rule 54 = .ok (.aload_n 0, 1) := by decide +kernel
theorem dX7_rule_55 : decode cX7_rule 55 = .ok (.getfield 10, 3) := by decide +kernel
theorem dX7_rule_58 : decode cX7_rule 58 = .ok (.aload_n 0, 1) := by decide +kernel
theorem dX7_rule_59 : decode cX7_rule 59 = .ok (.getfield 19, 3) := by decide +kernel
theorem dX7_rule_62 : decode cX7_rule 62 = .ok (.iload_n 3, 1) := by decide +kernel
theorem dX7_rule_63 : decode cX7_rule 63 = .ok (.invokevirtual 230, 3) := by decide +kernel
theorem dX7_rule_66 : decode cX7_rule 66 = .ok (.istore 4, 2) := by decide +kernel
theorem dX7_rule_68 : decode cX7_rule 68 = .ok (.aload_n 0, 1) := by decide +kernel
theorem dX7_rule_69 : decode cX7_rule 69 = .ok (.getfield 19, 3) := by decide +kernel
theorem dX7_rule_72 : decode cX7_rule 72 = .ok (.aload_n 0, 1) := by decide +kernel
theorem dX7_rule_73 : decode cX7_rule 73 = .ok (.getfield 10, 3) := by decide +kernel
theorem dX7_rule_76 : decode cX7_rule 76 = .ok (.getfield 110, 3) := by decide +kernel
theorem dX7_rule_79 : decode cX7_rule 79 = .ok (.iload_n 3, 1) := by decide +kernel
theorem dX7_rule_80 : decode cX7_rule 80 = .ok (.iaload, 1) := by decide +kernel
theorem dX7_rule_81 : decode cX7_rule 81 = .ok (.iload_n 3, 1) := by decide +kernel
theorem dX7_rule_82 : decode cX7_rule 82 = .ok (.invokevirtual 234, 3) := by decide +kernel
theorem dX7_rule_85 : decode cX7_rule 85 = .ok (.aload_n 0, 1) := by decide +kernel
theorem dX7_rule_86 : decode cX7_rule 86 = .ok (.getfield 33, 3) := by decide +kernel
theorem dX7_rule_89 : decode cX7_rule 89 = .ok (.aload_n 0, 1) := by decide +kernel
theorem dX7_rule_90 : decode cX7_rule 90 = .ok (.getfield 10, 3) := by decide +kernel
theorem dX7_rule_93 : decode cX7_rule 93 = .ok (.aload_n 0, 1) := by decide +kernel
theorem dX7_rule_94 : decode cX7_rule 94 = .ok (.getfield 19, 3) := by decide +kernel
theorem dX7_rule_97 : decode cX7_rule 97 = .ok (.iload_n 3, 1) := by decide +kernel
theorem dX7_rule_98 : decode cX7_rule 98 = .ok (.iload 4, 2) := by decide +kernel
theorem dX7_rule_100 : decode cX7_rule 100 = .ok (.invokevirtual 237, 3) := by decide +kernel
theorem dX7_rule_103 : decode cX7_rule 103 = .ok (.iinc 2 1, 3) := by decide +kernel
theorem dX7_rule_106 : decode cX7_rule 106 = .ok (.goto (-78), 3) := by decide +kernel
theorem dX7_rule_109 : decode cX7_rule 109 = .ok (.aload_n 0, 1) := by decide +kernel
theorem dX7_rule_110 : decode cX7_rule 110 = .ok (.getfield 33, 3) := by decide +kernel
theorem dX7_rule_113 : decode cX7_rule 113 = .ok (.getfield 200, 3) := by decide +kernel
theorem dX7_rule_116 : decode cX7_rule 116 = .ok (.ireturn, 1) := by decide +kernel
theorem dX7_better_0 : decode cX7_better 0 = .ok (.iload_n 1, 1) := by decide +kernel
theorem dX7_better_1 : decode cX7_better 1 = .ok (.iconst 0, 1) := by decide +kernel
theorem dX7_better_2 : decode cX7_better 2 = .ok (.bipush 50, 2) := by decide +kernel
theorem dX7_better_4 : decode cX7_better 4 = .ok (.invokestatic 68, 3) := by decide +kernel
theorem dX7_better_7 : decode cX7_better 7 = .ok (.ifCond .eq 6, 3) := by decide +kernel
theorem dX7_better_10 : decode cX7_better 10 = .ok (.ldc 72, 2) := by decide +kernel
theorem dX7_better_12 : decode cX7_better 12 = .ok (.ireturn, 1) := by decide +kernel
theorem dX7_better_13 : decode cX7_better 13 = .ok (.aload_n 0, 1) := by decide +kernel
theorem dX7_better_14 : decode cX7_better 14 = .ok (.invokevirtual 206, 3) := by decide +kernel
theorem dX7_better_17 : decode cX7_better 17 = .ok (.ifCond .ne 6, 3) := by decide +kernel
theorem dX7_better_20 : decode cX7_better 20 = .ok (.ldc 180, 2) := by decide +kernel
theorem dX7_better_22 : decode cX7_better 22 = .ok (.ireturn, 1) := by decide +kernel
theorem dX7_better_23 : decode cX7_better 23 = .ok (.iconst 0, 1) := by decide +kernel
theorem dX7_better_24 : decode cX7_better 24 = .ok (.istore_n 2, 1) := by decide +kernel
theorem dX7_better_25 : decode cX7_better 25 = .ok (.iload_n 2, 1) := by decide +kernel
theorem dX7_better_26 : decode cX7_better 26 = .ok (.iload_n 1, 1) := by decide +kernel
theorem dX7_better_27 : decode cX7_better 27 = .ok (.if_icmp .ge 16, 3) := by decide +kernel
theorem dX7_better_30 : decode cX7_better 30 = .ok (.aload_n 0, 1) := by decide +kernel
theorem dX7_better_31 : decode cX7_better 31 = .ok (.invokevirtual 241, 3) := by decide +kernel
theorem dX7_better_34 : decode cX7_better 34 = .ok (.ifCond .eq 9, 3) := by decide +kernel
theorem dX7_better_37 : decode cX7_better 37 = .ok (.iinc 2 1, 3) := by decide +kernel
theorem dX7_better_40 : decode cX7_better 40 = .ok (.goto (-15), 3) := by decide +kernel
theorem dX7_better_43 : decode cX7_better 43 = .ok (.iload_n 2, 1) := by decide +kernel
theorem dX7_better_44 : decode cX7_better 44 = .ok (.ireturn, 1) := by decide +kernel
theorem dX7_windows_0 : decode cX7_windows 0 = .ok (.iload_n 1, 1) := by decide +kernel
theorem dX7_windows_1 : decode cX7_windows 1 = .ok (.iconst 0, 1) := by decide +kernel
theorem dX7_windows_2 : decode cX7_windows 2 = .ok (.ldc 244, 2) := by decide +kernel
theorem dX7_windows_4 : decode cX7_windows 4 = .ok (.invokestatic 68, 3) := by decide +kernel
theorem dX7_windows_7 : decode cX7_windows 7 = .ok (.ifCond .eq 6, 3) := by decide +kernel
theorem dX7_windows_10 : decode cX7_windows 10 = .ok (.ldc 72, 2) := by decide +kernel
theorem dX7_windows_12 : decode cX7_windows 12 = .ok (.ireturn, 1) := by decide +kernel
theorem dX7_windows_13 : decode cX7_windows 13 = .ok (.aload_n 0, 1) := by decide +kernel
theorem dX7_windows_14 : decode cX7_windows 14 = .ok (.getfield 10, 3) := by decide +kernel
theorem dX7_windows_17 : decode cX7_windows 17 = .ok (.invokevirtual 122, 3) := by decide +kernel
theorem dX7_windows_20 : decode cX7_windows 20 = .ok (.ifCond .ne 6, 3) := by decide +kernel
theorem dX7_windows_23 : decode cX7_windows 23 = .ok (.ldc 180, 2) := by decide +kernel
theorem dX7_windows_25 : decode cX7_windows 25 = .ok (.ireturn, 1) := by decide +kernel
theorem dX7_windows_26 : decode cX7_windows 26 = .ok (.aload_n 0, 1) := by decide +kernel
theorem dX7_windows_27 : decode cX7_windows 27 = .ok (.getfield 43, 3) := by decide +kernel
theorem dX7_windows_30 : decode cX7_windows 30 = .ok (.getfield 245, 3) := by decide +kernel
theorem dX7_windows_33 : decode cX7_windows 33 = .ok (.iconst 0, 1) := by decide +kernel
theorem dX7_windows_34 : decode cX7_windows 34 = .ok (.invokestatic 248, 3) := by decide +kernel
theorem dX7_windows_37 : decode cX7_windows 37 = .ok (.aload_n 0, 1) := by decide +kernel
theorem dX7_windows_38 : decode cX7_windows 38 = .ok (.getfield 43, 3) := by decide +kernel
theorem dX7_windows_41 : decode cX7_windows 41 = .ok (.aload_n 0, 1) := by decide +kernel
theorem dX7_windows_42 : decode cX7_windows 42 = .ok (.getfield 10, 3) := by decide +kernel
theorem dX7_windows_45 : decode cX7_windows 45 = .ok (.iload_n 1, 1) := by decide +kernel
theorem dX7_windows_46 : decode cX7_windows 46 = .ok (.invokevirtual 254, 3) := by decide +kernel
theorem dX7_windows_49 : decode cX7_windows 49 = .ok (.ifCond .eq 7, 3) := by decide +kernel
theorem dX7_windows_52 : decode cX7_windows 52 = .ok (.iconst 1, 1) := by decide +kernel
theorem dX7_windows_53 : decode cX7_windows 53 = .ok (.goto 4, 3) := by decide +kernel
theorem dX7_windows_56 : decode cX7_windows 56 = .ok (.iconst 0, 1) := by decide +kernel
theorem dX7_windows_57 : decode cX7_windows 57 = .ok (.ireturn, 1) := by decide +kernel
theorem dX7_window_0 : decode cX7_window 0 = .ok (.aload_n 0, 1) := by decide +kernel
theorem dX7_window_1 : decode cX7_window 1 = .ok (.iload_n 1, 1) := by decide +kernel
theorem dX7_window_2 : decode cX7_window 2 = .ok (.invokevirtual 104, 3) := by decide +kernel
theorem dX7_window_5 : decode cX7_window 5 = .ok (.ifCond .ne 6, 3) := by decide +kernel
theorem dX7_window_8 : decode cX7_window 8 = .ok (.ldc 92, 2) := by decide +kernel
theorem dX7_window_10 : decode cX7_window 10 = .ok (.ireturn, 1) := by decide +kernel
theorem dX7_window_11 : decode cX7_window 11 = .ok (.iload_n 2, 1) := by decide +kernel
theorem dX7_window_12 : decode cX7_window 12 = .ok (.iconst 0, 1) := by decide +kernel
theorem dX7_window_13 : decode cX7_window 13 = .ok (.iconst 2, 1) := by decide +kernel
theorem dX7_window_14 : decode cX7_window 14 = .ok (.invokestatic 68, 3) := by decide +kernel
theorem dX7_window_17 : decode cX7_window 17 = .ok (.ifCond .eq 6, 3) := by decide +kernel
theorem dX7_window_20 : decode cX7_window 20 = .ok (.ldc 72, 2) := by decide +kernel
theorem dX7_window_22 : decode cX7_window 22 = .ok (.ireturn, 1) := by decide +kernel
theorem dX7_window_23 : decode cX7_window 23 = .ok (.iload_n 1, 1) := by decide +kernel
theorem dX7_window_24 : decode cX7_window 24 = .ok (.aload_n 0, 1) := by decide +kernel
theorem dX7_window_25 : decode cX7_window 25 = .ok (.getfield 43, 3) := by decide +kernel
theorem dX7_window_28 : decode cX7_window 28 = .ok (.getfield 258, 3) := by decide +kernel
theorem dX7_window_31 : decode cX7_window 31 = .ok (.if_icmp .lt 5, 3) := by decide +kernel
theorem dX7_window_34 : decode cX7_window 34 = .ok (.iconst (-1), 1) := by decide +kernel
theorem dX7_window_35 : decode cX7_window 35 = .ok (.ireturn, 1) := by decide +kernel
theorem dX7_window_36 : decode cX7_window 36 = .ok (.iload_n 2, 1) := by decide +kernel
theorem dX7_window_37 : decode cX7_window 37 = .ok (.ifCond .ne 13, 3) := by decide +kernel
theorem dX7_window_40 : decode cX7_window 40 = .ok (.aload_n 0, 1) := by decide +kernel
theorem dX7_window_41 : decode cX7_window 41 = .ok (.getfield 43, 3) := by decide +kernel
theorem dX7_window_44 : decode cX7_window 44 = .ok (.getfield 259, 3) := by decide +kernel
theorem dX7_window_47 : decode cX7_window 47 = .ok (.iload_n 1, 1) := by decide +kernel
theorem dX7_window_48 : decode cX7_window 48 = .ok (.iaload, 1) := by decide +kernel
theorem dX7_window_49 : decode cX7_window 49 = .ok (.ireturn, 1) := by decide +kernel
theorem dX7_window_50 : decode cX7_window 50 = .ok (.iload_n 2, 1) := by decide +kernel
theorem dX7_window_51 : decode cX7_window 51 = .ok (.iconst 1, 1) := by decide +kernel
theorem dX7_window_52 : decode cX7_window 52 = .ok (.if_icmp .ne 15, 3) := by decide +kernel
theorem dX7_window_55 : decode cX7_window 55 = .ok (.aload_n 0, 1) := by decide +kernel
theorem dX7_window_56 : decode cX7_window 56 = .ok (.getfield 43, 3) := by decide +kernel
theorem dX7_window_59 : decode cX7_window 59 = .ok (.getfield 262, 3) := by decide +kernel
theorem dX7_window_62 : decode cX7_window 62 = .ok (.iload_n 1, 1) := by decide +kernel
theorem dX7_window_63 : decode cX7_window 63 = .ok (.iaload, 1) := by decide +kernel
theorem dX7_window_64 : decode cX7_window 64 = .ok (.goto 15, 3) := by decide +kernel
theorem dX7_window_67 : decode cX7_window 67 = .ok (.aload_n 0, 1) := by decide +kernel
theorem dX7_window_68 : decode cX7_window 68 = .ok (.getfield 43, 3) := by decide +kernel
theorem dX7_window_71 : decode cX7_window 71 = .ok (.getfield 245, 3) := by decide +kernel
theorem dX7_window_74 : decode cX7_window 74 = .ok (.iload_n 1, 1) := by decide +kernel
theorem dX7_window_75 : decode cX7_window 75 = .ok (.iaload, 1) := by decide +kernel
theorem dX7_window_76 : decode cX7_window 76 = .ok (.invokestatic 265, 3) := by decide +kernel
theorem dX7_window_79 : decode cX7_window 79 = .ok (.ireturn, 1) := by decide +kernel
theorem dX7_must_0 : decode cX7_must 0 = .ok (.aload_n 0, 1) := by decide +kernel
theorem dX7_must_1 : decode cX7_must 1 = .ok (.iload_n 1, 1) := by decide +kernel
theorem dX7_must_2 : decode cX7_must 2 = .ok (.invokevirtual 104, 3) := by decide +kernel
theorem dX7_must_5 : decode cX7_must 5 = .ok (.ifCond .eq 11, 3) := by decide +kernel
theorem dX7_must_8 : decode cX7_must 8 = .ok (.aload_n 0, 1) := by decide +kernel
theorem dX7_must_9 : decode cX7_must 9 = .ok (.iload_n 2, 1) := by decide +kernel
theorem dX7_must_10 : decode cX7_must 10 = .ok (.invokevirtual 104, 3) := by decide +kernel
theorem dX7_must_13 : decode cX7_must 13 = .ok (.ifCond .ne 6, 3) := by decide +kernel
theorem dX7_must_16 : decode cX7_must 16 = .ok (.ldc 92, 2) := by decide +kernel
theorem dX7_must_18 : decode cX7_must 18 = .ok (.ireturn, 1) := by decide +kernel
theorem dX7_must_19 : decode cX7_must 19 = .ok (.aload_n 0, 1) := by decide +kernel
theorem dX7_must_20 : decode cX7_must 20 = .ok (.getfield 43, 3) := by decide +kernel
theorem dX7_must_23 : decode cX7_must 23 = .ok (.iload_n 1, 1) := by decide +kernel
theorem dX7_must_24 : decode cX7_must 24 = .ok (.iload_n 2, 1) := by decide +kernel
theorem dX7_must_25 : decode cX7_must 25 = .ok (.invokevirtual 270, 3) := by decide +kernel
theorem dX7_must_28 : decode cX7_must 28 = .ok (.ifCond .eq 5, 3) := by decide +kernel
theorem dX7_must_31 : decode cX7_must 31 = .ok (.iconst 1, 1) := by decide +kernel
theorem dX7_must_32 : decode cX7_must 32 = .ok (.ireturn, 1) := by decide +kernel
theorem dX7_must_33 : decode cX7_must 33 = .ok (.aload_n 0, 1) := by decide +kernel
theorem dX7_must_34 : decode cX7_must 34 = .ok (.getfield 43, 3) := by decide +kernel
theorem dX7_must_37 : decode cX7_must 37 = .ok (.iload_n 2, 1) := by decide +kernel
theorem dX7_must_38 : decode cX7_must 38 = .ok (.iload_n 1, 1) := by decide +kernel
theorem dX7_must_39 : decode cX7_must 39 = .ok (.invokevirtual 270, 3) := by decide +kernel
theorem dX7_must_42 : decode cX7_must 42 = .ok (.ifCond .eq 7, 3) := by decide +kernel
theorem dX7_must_45 : decode cX7_must 45 = .ok (.iconst 2, 1) := by decide +kernel
theorem dX7_must_46 : decode cX7_must 46 = .ok (.goto 4, 3) := by decide +kernel
theorem dX7_must_49 : decode cX7_must 49 = .ok (.iconst 0, 1) := by decide +kernel
theorem dX7_must_50 : decode cX7_must 50 = .ok (.ireturn, 1) := by decide +kernel
theorem dX7_bound_0 : decode cX7_bound 0 = .ok (.aload_n 0, 1) := by decide +kernel
theorem dX7_bound_1 : decode cX7_bound 1 = .ok (.iload_n 1, 1) := by decide +kernel
theorem dX7_bound_2 : decode cX7_bound 2 = .ok (.invokevirtual 88, 3) := by decide +kernel
theorem dX7_bound_5 : decode cX7_bound 5 = .ok (.ifCond .ne 6, 3) := by decide +kernel
theorem dX7_bound_8 : decode cX7_bound 8 = .ok (.ldc 92, 2) := by decide +kernel
theorem dX7_bound_10 : decode cX7_bound 10 = .ok (.ireturn, 1) := by decide +kernel
theorem dX7_bound_11 : decode cX7_bound 11 = .ok (.iload_n 2, 1) := by decide +kernel
theorem dX7_bound_12 : decode cX7_bound 12 = .ok (.iconst 0, 1) := by decide +kernel
theorem dX7_bound_13 : decode cX7_bound 13 = .ok (.iconst 1, 1) := by decide +kernel
theorem dX7_bound_14 : decode cX7_bound 14 = .ok (.invokestatic 68, 3) := by decide +kernel
theorem dX7_bound_17 : decode cX7_bound 17 = .ok (.ifCond .eq 6, 3) := by decide +kernel
theorem dX7_bound_20 : decode cX7_bound 20 = .ok (.ldc 72, 2) := by decide +kernel
theorem dX7_bound_22 : decode cX7_bound 22 = .ok (.ireturn, 1) := by decide +kernel
theorem dX7_bound_23 : decode cX7_bound 23 = .ok (.aload_n 0, 1) := by decide +kernel
theorem dX7_bound_24 : decode cX7_bound 24 = .ok (.getfield 10, 3) := by decide +kernel
theorem dX7_bound_27 : decode cX7_bound 27 = .ok (.getfield 186, 3) := by decide +kernel
theorem dX7_bound_30 : decode cX7_bound 30 = .ok (.iload_n 1, 1) := by decide +kernel
theorem dX7_bound_31 : decode cX7_bound 31 = .ok (.iaload, 1) := by decide +kernel
theorem dX7_bound_32 : decode cX7_bound 32 = .ok (.ifCond .ne 22, 3) := by decide +kernel
theorem dX7_bound_35 : decode cX7_bound 35 = .ok (.iload_n 2, 1) := by decide +kernel
theorem dX7_bound_36 : decode cX7_bound 36 = .ok (.iconst 1, 1) := by decide +kernel
theorem dX7_bound_37 : decode cX7_bound 37 = .ok (.if_icmp .ne 20, 3) := by decide +kernel
theorem dX7_bound_40 : decode cX7_bound 40 = .ok (.aload_n 0, 1) := by decide +kernel
theorem dX7_bound_41 : decode cX7_bound 41 = .ok (.getfield 10, 3) := by decide +kernel
theorem dX7_bound_44 : decode cX7_bound 44 = .ok (.getfield 274, 3) := by decide +kernel
theorem dX7_bound_47 : decode cX7_bound 47 = .ok (.iload_n 1, 1) := by decide +kernel
theorem dX7_bound_48 : decode cX7_bound 48 = .ok (.iaload, 1) := by decide +kernel
theorem dX7_bound_49 : decode cX7_bound 49 = .ok (.bipush 8, 2) := by decide +kernel
theorem dX7_bound_51 : decode cX7_bound 51 = .ok (.if_icmp .le 6, 3) := by decide +kernel
theorem dX7_bound_54 : decode cX7_bound 54 = .ok (.ldc 180, 2) := by decide +kernel
theorem dX7_bound_56 : decode cX7_bound 56 = .ok (.ireturn, 1) := by decide +kernel
theorem dX7_bound_57 : decode cX7_bound 57 = .ok (.aload_n 0, 1) := by decide +kernel
theorem dX7_bound_58 : decode cX7_bound 58 = .ok (.getfield 50, 3) := by decide +kernel
theorem dX7_bound_61 : decode cX7_bound 61 = .ok (.aload_n 0, 1) := by decide +kernel
theorem dX7_bound_62 : decode cX7_bound 62 = .ok (.getfield 10, 3) := by decide +kernel
theorem dX7_bound_65 : decode cX7_bound 65 = .ok (.iload_n 1, 1) := by decide +kernel
theorem dX7_bound_66 : decode cX7_bound 66 = .ok (.invokevirtual 277, 3) := by decide +kernel
theorem dX7_bound_69 : decode cX7_bound 69 = .ok (.aload_n 0, 1) := by decide +kernel
theorem dX7_bound_70 : decode cX7_bound 70 = .ok (.getfield 50, 3) := by decide +kernel
theorem dX7_bound_73 : decode cX7_bound 73 = .ok (.invokevirtual 281, 3) := by decide +kernel
theorem dX7_bound_76 : decode cX7_bound 76 = .ok (.istore_n 3, 1) := by decide +kernel
theorem dX7_bound_77 : decode cX7_bound 77 = .ok (.iload_n 2, 1) := by decide +kernel
theorem dX7_bound_78 : decode cX7_bound 78 = .ok (.ifCond .ne 7, 3) := by decide +kernel
theorem dX7_bound_81 : decode cX7_bound 81 = .ok (.iload_n 3, 1) := by decide +kernel
theorem dX7_bound_82 : decode cX7_bound 82 = .ok (.goto 11, 3) := by decide +kernel
theorem dX7_bound_85 : decode cX7_bound 85 = .ok (.aload_n 0, 1) := by decide +kernel
theorem dX7_bound_86 : decode cX7_bound 86 = .ok (.getfield 50, 3) := by decide +kernel
theorem dX7_bound_89 : decode cX7_bound 89 = .ok (.iload_n 3, 1) := by decide +kernel
theorem dX7_bound_90 : decode cX7_bound 90 = .ok (.invokevirtual 284, 3) := by decide +kernel
theorem dX7_bound_93 : decode cX7_bound 93 = .ok (.ireturn, 1) := by decide +kernel
theorem dX7_least_0 : decode cX7_least 0 = .ok (.iload_n 1, 1) := by decide +kernel
theorem dX7_least_1 : decode cX7_least 1 = .ok (.iconst 0, 1) := by decide +kernel
theorem dX7_least_2 : decode cX7_least 2 = .ok (.bipush 100, 2) := by decide +kernel
theorem dX7_least_4 : decode cX7_least 4 = .ok (.invokestatic 68, 3) := by decide +kernel
theorem dX7_least_7 : decode cX7_least 7 = .ok (.ifCond .eq 6, 3) := by decide +kernel
theorem dX7_least_10 : decode cX7_least 10 = .ok (.ldc 72, 2) := by decide +kernel
theorem dX7_least_12 : decode cX7_least 12 = .ok (.ireturn, 1) := by decide +kernel
theorem dX7_least_13 : decode cX7_least 13 = .ok (.aload_n 0, 1) := by decide +kernel
theorem dX7_least_14 : decode cX7_least 14 = .ok (.getfield 10, 3) := by decide +kernel
theorem dX7_least_17 : decode cX7_least 17 = .ok (.invokevirtual 122, 3) := by decide +kernel
theorem dX7_least_20 : decode cX7_least 20 = .ok (.ifCond .eq 13, 3) := by decide +kernel
theorem dX7_least_23 : decode cX7_least 23 = .ok (.aload_n 0, 1) := by decide +kernel
theorem dX7_least_24 : decode cX7_least 24 = .ok (.getfield 10, 3) := by decide +kernel
theorem dX7_least_27 : decode cX7_least 27 = .ok (.getfield 97, 3) := by decide +kernel
theorem dX7_least_30 : decode cX7_least 30 = .ok (.ifCond .ne 6, 3) := by decide +kernel
theorem dX7_least_33 : decode cX7_least 33 = .ok (.ldc 180, 2) := by decide +kernel
theorem dX7_least_35 : decode cX7_least 35 = .ok (.ireturn, 1) := by decide +kernel
theorem dX7_least_36 : decode cX7_least 36 = .ok (.aload_n 0, 1) := by decide +kernel
theorem dX7_least_37 : decode cX7_least 37 = .ok (.getfield 57, 3) := by decide +kernel
theorem dX7_least_40 : decode cX7_least 40 = .ok (.aload_n 0, 1) := by decide +kernel
theorem dX7_least_41 : decode cX7_least 41 = .ok (.getfield 33, 3) := by decide +kernel
theorem dX7_least_44 : decode cX7_least 44 = .ok (.aload_n 0, 1) := by decide +kernel
theorem dX7_least_45 : decode cX7_least 45 = .ok (.getfield 10, 3) := by decide +kernel
theorem dX7_least_48 : decode cX7_least 48 = .ok (.aload_n 0, 1) := by decide +kernel
theorem dX7_least_49 : decode cX7_least 49 = .ok (.getfield 19, 3) := by decide +kernel
theorem dX7_least_52 : decode cX7_least 52 = .ok (.invokevirtual 189, 3) := by decide +kernel
theorem dX7_least_55 : decode cX7_least 55 = .ok (.ifCond .eq 13, 3) := by decide +kernel
theorem dX7_least_58 : decode cX7_least 58 = .ok (.aload_n 0, 1) := by decide +kernel
theorem dX7_least_59 : decode cX7_least 59 = .ok (.getfield 33, 3) := by decide +kernel
theorem dX7_least_62 : decode cX7_least 62 = .ok (.getfield 200, 3) := by decide +kernel
theorem dX7_least_65 : decode cX7_least 65 = .ok (.goto 12, 3) := by decide +kernel
theorem dX7_least_68 : decode cX7_least 68 = .ok (.aload_n 0, 1) := by decide +kernel
theorem dX7_least_69 : decode cX7_least 69 = .ok (.getfield 10, 3) := by decide +kernel
theorem dX7_least_72 : decode cX7_least 72 = .ok (.invokevirtual 126, 3) := by decide +kernel
theorem dX7_least_75 : decode cX7_least 75 = .ok (.iconst 1, 1) := by decide +kernel
theorem dX7_least_76 : decode cX7_least 76 = .ok (.iadd, 1) := by decide +kernel
theorem dX7_least_77 : decode cX7_least 77 = .ok (.putfield 287, 3) := by decide +kernel
theorem dX7_least_80 : decode cX7_least 80 = .ok (.aload_n 0, 1) := by decide +kernel
theorem dX7_least_81 : decode cX7_least 81 = .ok (.getfield 57, 3) := by decide +kernel
theorem dX7_least_84 : decode cX7_least 84 = .ok (.aload_n 0, 1) := by decide +kernel
theorem dX7_least_85 : decode cX7_least 85 = .ok (.getfield 10, 3) := by decide +kernel
theorem dX7_least_88 : decode cX7_least 88 = .ok (.aload_n 0, 1) := by decide +kernel
theorem dX7_least_89 : decode cX7_least 89 = .ok (.getfield 19, 3) := by decide +kernel
theorem dX7_least_92 : decode cX7_least 92 = .ok (.iload_n 1, 1) := by decide +kernel
theorem dX7_least_93 : decode cX7_least 93 = .ok (.invokevirtual 290, 3) := by decide +kernel
theorem dX7_least_96 : decode cX7_least 96 = .ok (.ifCond .eq 7, 3) := by decide +kernel
theorem dX7_least_99 : decode cX7_least 99 = .ok (.iconst 1, 1) := by decide +kernel
theorem dX7_least_100 : decode cX7_least 100 = .ok (.goto 4, 3) := by decide +kernel
theorem dX7_least_103 : decode cX7_least 103 = .ok (.iconst 0, 1) := by decide +kernel
theorem dX7_least_104 : decode cX7_least 104 = .ok (.ireturn, 1) := by decide +kernel
theorem dX7_found_0 : decode cX7_found 0 = .ok (.iload_n 1, 1) := by decide +kernel
theorem dX7_found_1 : decode cX7_found 1 = .ok (.tableswitch 51 0 2 #[27, 35, 43], 27) := by decide +kernel
theorem dX7_found_28 : decode cX7_found 28 = .ok (.aload_n 0, 1) := by decide +kernel
theorem dX7_found_29 : decode cX7_found 29 = .ok (.getfield 57, 3) := by decide +kernel
theorem dX7_found_32 : decode cX7_found 32 = .ok (.getfield 287, 3) := by decide +kernel
theorem dX7_found_35 : decode cX7_found 35 = .ok (.ireturn, 1) := by decide +kernel
theorem dX7_found_36 : decode cX7_found 36 = .ok (.aload_n 0, 1) := by decide +kernel
theorem dX7_found_37 : decode cX7_found 37 = .ok (.getfield 57, 3) := by decide +kernel
theorem dX7_found_40 : decode cX7_found 40 = .ok (.getfield 294, 3) := by decide +kernel
theorem dX7_found_43 : decode cX7_found 43 = .ok (.ireturn, 1) := by decide +kernel
theorem dX7_found_44 : decode cX7_found 44 = .ok (.aload_n 0, 1) := by decide +kernel
theorem dX7_found_45 : decode cX7_found 45 = .ok (.getfield 57, 3) := by decide +kernel
theorem dX7_found_48 : decode cX7_found 48 = .ok (.getfield 297, 3) := by decide +kernel
theorem dX7_found_51 : decode cX7_found 51 = .ok (.ireturn, 1) := by decide +kernel
theorem dX7_found_52 : decode cX7_found 52 = .ok (.ldc 72, 2) := by decide +kernel
theorem dX7_found_54 : decode cX7_found 54 = .ok (.ireturn, 1) := by decide +kernel
theorem dX7_fail_0 : decode cX7_fail 0 = .ok (.aload_n 0, 1) := by decide +kernel
theorem dX7_fail_1 : decode cX7_fail 1 = .ok (.iload_n 1, 1) := by decide +kernel
theorem dX7_fail_2 : decode cX7_fail 2 = .ok (.invokevirtual 88, 3) := by decide +kernel
theorem dX7_fail_5 : decode cX7_fail 5 = .ok (.ifCond .ne 6, 3) := by decide +kernel
theorem dX7_fail_8 : decode cX7_fail 8 = .ok (.ldc 92, 2) := by decide +kernel
theorem dX7_fail_10 : decode cX7_fail 10 = .ok (.ireturn, 1) := by decide +kernel
theorem dX7_fail_11 : decode cX7_fail 11 = .ok (.iload_n 2, 1) := by decide +kernel
theorem dX7_fail_12 : decode cX7_fail 12 = .ok (.iconst 0, 1) := by decide +kernel
theorem dX7_fail_13 : decode cX7_fail 13 = .ok (.ldc 244, 2) := by decide +kernel
theorem dX7_fail_15 : decode cX7_fail 15 = .ok (.invokestatic 68, 3) := by decide +kernel
theorem dX7_fail_18 : decode cX7_fail 18 = .ok (.ifCond .ne 14, 3) := by decide +kernel
theorem dX7_fail_21 : decode cX7_fail 21 = .ok (.iload_n 3, 1) := by decide +kernel
theorem dX7_fail_22 : decode cX7_fail 22 = .ok (.iconst 0, 1) := by decide +kernel
theorem dX7_fail_23 : decode cX7_fail 23 = .ok (.sipush 10000, 3) := by decide +kernel
theorem dX7_fail_26 : decode cX7_fail 26 = .ok (.invokestatic 68, 3) := by decide +kernel
theorem dX7_fail_29 : decode cX7_fail 29 = .ok (.ifCond .eq 6, 3) := by decide +kernel
theorem dX7_fail_32 : decode cX7_fail 32 = .ok (.ldc 72, 2) := by decide +kernel
theorem dX7_fail_34 : decode cX7_fail 34 = .ok (.ireturn, 1) := by decide +kernel
theorem dX7_fail_35 : decode cX7_fail 35 = .ok (.aload_n 0, 1) := by decide +kernel
theorem dX7_fail_36 : decode cX7_fail 36 = .ok (.getfield 33, 3) := by decide +kernel
theorem dX7_fail_39 : decode cX7_fail 39 = .ok (.aload_n 0, 1) := by decide +kernel
theorem dX7_fail_40 : decode cX7_fail 40 = .ok (.getfield 10, 3) := by decide +kernel
theorem dX7_fail_43 : decode cX7_fail 43 = .ok (.aload_n 0, 1) := by decide +kernel
theorem dX7_fail_44 : decode cX7_fail 44 = .ok (.getfield 19, 3) := by decide +kernel
theorem dX7_fail_47 : decode cX7_fail 47 = .ok (.invokevirtual 189, 3) := by decide +kernel
theorem dX7_fail_50 : decode cX7_fail 50 = .ok (.ifCond .ne 6, 3) := by decide +kernel
theorem dX7_fail_53 : decode cX7_fail 53 = .ok (.ldc 180, 2) := by decide +kernel
theorem dX7_fail_55 : decode cX7_fail 55 = .ok (.ireturn, 1) := by decide +kernel
theorem dX7_fail_56 : decode cX7_fail 56 = .ok (.aload_n 0, 1) := by decide +kernel
theorem dX7_fail_57 : decode cX7_fail 57 = .ok (.getfield 61, 3) := by decide +kernel
theorem dX7_fail_60 : decode cX7_fail 60 = .ok (.getfield 300, 3) := by decide +kernel
theorem dX7_fail_63 : decode cX7_fail 63 = .ok (.iload_n 2, 1) := by decide +kernel
theorem dX7_fail_64 : decode cX7_fail 64 = .ok (.invokestatic 248, 3) := by decide +kernel
theorem dX7_fail_67 : decode cX7_fail 67 = .ok (.aload_n 0, 1) := by decide +kernel
theorem dX7_fail_68 : decode cX7_fail 68 = .ok (.getfield 61, 3) := by decide +kernel
theorem dX7_fail_71 : decode cX7_fail 71 = .ok (.getfield 300, 3) := by decide +kernel
theorem dX7_fail_74 : decode cX7_fail 74 = .ok (.iload_n 1, 1) := by decide +kernel
theorem dX7_fail_75 : decode cX7_fail 75 = .ok (.iload_n 2, 1) := by decide +kernel
theorem dX7_fail_76 : decode cX7_fail 76 = .ok (.iload_n 3, 1) := by decide +kernel
theorem dX7_fail_77 : decode cX7_fail 77 = .ok (.iadd, 1) := by decide +kernel
theorem dX7_fail_78 : decode cX7_fail 78 = .ok (.iastore, 1) := by decide +kernel
theorem dX7_fail_79 : decode cX7_fail 79 = .ok (.iconst 0, 1) := by decide +kernel
theorem dX7_fail_80 : decode cX7_fail 80 = .ok (.istore 4, 2) := by decide +kernel
theorem dX7_fail_82 : decode cX7_fail 82 = .ok (.iload 4, 2) := by decide +kernel
theorem dX7_fail_84 : decode cX7_fail 84 = .ok (.aload_n 0, 1) := by decide +kernel
theorem dX7_fail_85 : decode cX7_fail 85 = .ok (.getfield 10, 3) := by decide +kernel
theorem dX7_fail_88 : decode cX7_fail 88 = .ok (.getfield 97, 3) := by decide +kernel
theorem dX7_fail_91 : decode cX7_fail 91 = .ok (.if_icmp .ge 44, 3) := by decide +kernel
theorem dX7_fail_94 : decode cX7_fail 94 = .ok (.aload_n 0, 1) := by decide +kernel
theorem dX7_fail_95 : decode cX7_fail 95 = .ok (.getfield 61, 3) := by decide +kernel
theorem dX7_fail_98 : decode cX7_fail 98 = .ok (.getfield 303, 3) := by decide +kernel
theorem dX7_fail_101 : decode cX7_fail 101 = .ok (.iload 4, 2) := by decide +kernel
theorem dX7_fail_103 : decode cX7_fail 103 = .ok (.aload_n 0, 1) := by decide +kernel
theorem dX7_fail_104 : decode cX7_fail 104 = .ok (.iload 4, 2) := by decide +kernel
theorem dX7_fail_106 : decode cX7_fail 106 = .ok (.iload_n 1, 1) := by decide +kernel
theorem dX7_fail_107 : decode cX7_fail 107 = .ok (.iload_n 2, 1) := by decide +kernel
theorem dX7_fail_108 : decode cX7_fail 108 = .ok (.invokevirtual 306, 3) := by decide +kernel
theorem dX7_fail_111 : decode cX7_fail 111 = .ok (.ifCond .eq 16, 3) := by decide +kernel
theorem dX7_fail_114 : decode cX7_fail 114 = .ok (.aload_n 0, 1) := by decide +kernel
theorem dX7_fail_115 : decode cX7_fail 115 = .ok (.getfield 33, 3) := by decide +kernel
theorem dX7_fail_118 : decode cX7_fail 118 = .ok (.getfield 203, 3) := by decide +kernel
theorem dX7_fail_121 : decode cX7_fail 121 = .ok (.iload 4, 2) := by decide +kernel
theorem dX7_fail_123 : decode cX7_fail 123 = .ok (.iaload, 1) := by decide +kernel
theorem dX7_fail_124 : decode cX7_fail 124 = .ok (.goto 4, 3) := by decide +kernel
theorem dX7_fail_127 : decode cX7_fail 127 = .ok (.iconst (-1), 1) := by decide +kernel
theorem dX7_fail_128 : decode cX7_fail 128 = .ok (.iastore, 1) := by decide +kernel
theorem dX7_fail_129 : decode cX7_fail 129 = .ok (.iinc 4 1, 3) := by decide +kernel
theorem dX7_fail_132 : decode cX7_fail 132 = .ok (.goto (-50), 3) := by decide +kernel
theorem dX7_fail_135 : decode cX7_fail 135 = .ok (.aload_n 0, 1) := by decide +kernel
theorem dX7_fail_136 : decode cX7_fail 136 = .ok (.getfield 61, 3) := by decide +kernel
theorem dX7_fail_139 : decode cX7_fail 139 = .ok (.aload_n 0, 1) := by decide +kernel
theorem dX7_fail_140 : decode cX7_fail 140 = .ok (.getfield 10, 3) := by decide +kernel
theorem dX7_fail_143 : decode cX7_fail 143 = .ok (.aload_n 0, 1) := by decide +kernel
theorem dX7_fail_144 : decode cX7_fail 144 = .ok (.getfield 19, 3) := by decide +kernel
theorem dX7_fail_147 : decode cX7_fail 147 = .ok (.invokevirtual 189, 3) := by decide +kernel
theorem dX7_fail_150 : decode cX7_fail 150 = .ok (.pop, 1) := by decide +kernel
theorem dX7_fail_151 : decode cX7_fail 151 = .ok (.aload_n 0, 1) := by decide +kernel
theorem dX7_fail_152 : decode cX7_fail 152 = .ok (.aload_n 0, 1) := by decide +kernel
theorem dX7_fail_153 : decode cX7_fail 153 = .ok (.getfield 10, 3) := by decide +kernel
theorem dX7_fail_156 : decode cX7_fail 156 = .ok (.getfield 97, 3) := by decide +kernel
theorem dX7_fail_159 : decode cX7_fail 159 = .ok (.putfield 64, 3) := by decide +kernel
theorem dX7_fail_162 : decode cX7_fail 162 = .ok (.aload_n 0, 1) := by decide +kernel
theorem dX7_fail_163 : decode cX7_fail 163 = .ok (.getfield 61, 3) := by decide +kernel
theorem dX7_fail_166 : decode cX7_fail 166 = .ok (.getfield 200, 3) := by decide +kernel
theorem dX7_fail_169 : decode cX7_fail 169 = .ok (.ireturn, 1) := by decide +kernel
theorem dX7_mended_0 : decode cX7_mended 0 = .ok (.aload_n 0, 1) := by decide +kernel
theorem dX7_mended_1 : decode cX7_mended 1 = .ok (.iload_n 1, 1) := by decide +kernel
theorem dX7_mended_2 : decode cX7_mended 2 = .ok (.invokevirtual 104, 3) := by decide +kernel
theorem dX7_mended_5 : decode cX7_mended 5 = .ok (.ifCond .ne 6, 3) := by decide +kernel
theorem dX7_mended_8 : decode cX7_mended 8 = .ok (.ldc 92, 2) := by decide +kernel
theorem dX7_mended_10 : decode cX7_mended 10 = .ok (.ireturn, 1) := by decide +kernel
theorem dX7_mended_11 : decode cX7_mended 11 = .ok (.iload_n 2, 1) := by decide +kernel
theorem dX7_mended_12 : decode cX7_mended 12 = .ok (.iconst 0, 1) := by decide +kernel
theorem dX7_mended_13 : decode cX7_mended 13 = .ok (.iconst 1, 1) := by decide +kernel
theorem dX7_mended_14 : decode cX7_mended 14 = .ok (.invokestatic 68, 3) := by decide +kernel
theorem dX7_mended_17 : decode cX7_mended 17 = .ok (.ifCond .eq 6, 3) := by decide +kernel
theorem dX7_mended_20 : decode cX7_mended 20 = .ok (.ldc 72, 2) := by decide +kernel
theorem dX7_mended_22 : decode cX7_mended 22 = .ok (.ireturn, 1) := by decide +kernel
theorem dX7_mended_23 : decode cX7_mended 23 = .ok (.iload_n 1, 1) := by decide +kernel
theorem dX7_mended_24 : decode cX7_mended 24 = .ok (.aload_n 0, 1) := by decide +kernel
theorem dX7_mended_25 : decode cX7_mended 25 = .ok (.getfield 64, 3) := by decide +kernel
theorem dX7_mended_28 : decode cX7_mended 28 = .ok (.if_icmp .lt 5, 3) := by decide +kernel
theorem dX7_mended_31 : decode cX7_mended 31 = .ok (.iconst (-1), 1) := by decide +kernel
theorem dX7_mended_32 : decode cX7_mended 32 = .ok (.ireturn, 1) := by decide +kernel
theorem dX7_mended_33 : decode cX7_mended 33 = .ok (.iload_n 2, 1) := by decide +kernel
theorem dX7_mended_34 : decode cX7_mended 34 = .ok (.ifCond .ne 13, 3) := by decide +kernel
theorem dX7_mended_37 : decode cX7_mended 37 = .ok (.aload_n 0, 1) := by decide +kernel
theorem dX7_mended_38 : decode cX7_mended 38 = .ok (.getfield 61, 3) := by decide +kernel
theorem dX7_mended_41 : decode cX7_mended 41 = .ok (.getfield 203, 3) := by decide +kernel
theorem dX7_mended_44 : decode cX7_mended 44 = .ok (.iload_n 1, 1) := by decide +kernel
theorem dX7_mended_45 : decode cX7_mended 45 = .ok (.iaload, 1) := by decide +kernel
theorem dX7_mended_46 : decode cX7_mended 46 = .ok (.ireturn, 1) := by decide +kernel
theorem dX7_mended_47 : decode cX7_mended 47 = .ok (.aload_n 0, 1) := by decide +kernel
theorem dX7_mended_48 : decode cX7_mended 48 = .ok (.getfield 61, 3) := by decide +kernel
theorem dX7_mended_51 : decode cX7_mended 51 = .ok (.getfield 303, 3) := by decide +kernel
theorem dX7_mended_54 : decode cX7_mended 54 = .ok (.iload_n 1, 1) := by decide +kernel
theorem dX7_mended_55 : decode cX7_mended 55 = .ok (.iaload, 1) := by decide +kernel
theorem dX7_mended_56 : decode cX7_mended 56 = .ok (.iconst (-1), 1) := by decide +kernel
theorem dX7_mended_57 : decode cX7_mended 57 = .ok (.if_icmp .eq 7, 3) := by decide +kernel
theorem dX7_mended_60 : decode cX7_mended 60 = .ok (.iconst 1, 1) := by decide +kernel
theorem dX7_mended_61 : decode cX7_mended 61 = .ok (.goto 4, 3) := by decide +kernel
theorem dX7_mended_64 : decode cX7_mended 64 = .ok (.iconst 0, 1) := by decide +kernel
theorem dX7_mended_65 : decode cX7_mended 65 = .ok (.ireturn, 1) := by decide +kernel
theorem dX7_isOut_0 : decode cX7_isOut 0 = .ok (.iload_n 0, 1) := by decide +kernel
theorem dX7_isOut_1 : decode cX7_isOut 1 = .ok (.iload_n 1, 1) := by decide +kernel
theorem dX7_isOut_2 : decode cX7_isOut 2 = .ok (.if_icmp .lt 8, 3) := by decide +kernel
theorem dX7_isOut_5 : decode cX7_isOut 5 = .ok (.iload_n 0, 1) := by decide +kernel
theorem dX7_isOut_6 : decode cX7_isOut 6 = .ok (.iload_n 2, 1) := by decide +kernel
theorem dX7_isOut_7 : decode cX7_isOut 7 = .ok (.if_icmp .le 7, 3) := by decide +kernel
theorem dX7_isOut_10 : decode cX7_isOut 10 = .ok (.iconst 1, 1) := by decide +kernel
theorem dX7_isOut_11 : decode cX7_isOut 11 = .ok (.goto 4, 3) := by decide +kernel
theorem dX7_isOut_14 : decode cX7_isOut 14 = .ok (.iconst 0, 1) := by decide +kernel
theorem dX7_isOut_15 : decode cX7_isOut 15 = .ok (.ireturn, 1) := by decide +kernel
theorem dX7_isMachine_0 : decode cX7_isMachine 0 = .ok (.iload_n 1, 1) := by decide +kernel
theorem dX7_isMachine_1 : decode cX7_isMachine 1 = .ok (.iconst 0, 1) := by decide +kernel
theorem dX7_isMachine_2 : decode cX7_isMachine 2 = .ok (.aload_n 0, 1) := by decide +kernel
theorem dX7_isMachine_3 : decode cX7_isMachine 3 = .ok (.getfield 10, 3) := by decide +kernel
theorem dX7_isMachine_6 : decode cX7_isMachine 6 = .ok (.getfield 73, 3) := by decide +kernel
theorem dX7_isMachine_9 : decode cX7_isMachine 9 = .ok (.iconst 1, 1) := by decide +kernel
theorem dX7_isMachine_10 : decode cX7_isMachine 10 = .ok (.isub, 1) := by decide +kernel
theorem dX7_isMachine_11 : decode cX7_isMachine 11 = .ok (.invokestatic 68, 3) := by decide +kernel
theorem dX7_isMachine_14 : decode cX7_isMachine 14 = .ok (.ifCond .ne 7, 3) := by decide +kernel
theorem dX7_isMachine_17 : decode cX7_isMachine 17 = .ok (.iconst 1, 1) := by decide +kernel
theorem dX7_isMachine_18 : decode cX7_isMachine 18 = .ok (.goto 4, 3) := by decide +kernel
theorem dX7_isMachine_21 : decode cX7_isMachine 21 = .ok (.iconst 0, 1) := by decide +kernel
theorem dX7_isMachine_22 : decode cX7_isMachine 22 = .ok (.ireturn, 1) := by decide +kernel
theorem dX7_isStep_0 : decode cX7_isStep 0 = .ok (.iload_n 1, 1) := by decide +kernel
theorem dX7_isStep_1 : decode cX7_isStep 1 = .ok (.iconst 0, 1) := by decide +kernel
theorem dX7_isStep_2 : decode cX7_isStep 2 = .ok (.aload_n 0, 1) := by decide +kernel
theorem dX7_isStep_3 : decode cX7_isStep 3 = .ok (.getfield 10, 3) := by decide +kernel
theorem dX7_isStep_6 : decode cX7_isStep 6 = .ok (.getfield 97, 3) := by decide +kernel
theorem dX7_isStep_9 : decode cX7_isStep 9 = .ok (.iconst 1, 1) := by decide +kernel
theorem dX7_isStep_10 : decode cX7_isStep 10 = .ok (.isub, 1) := by decide +kernel
theorem dX7_isStep_11 : decode cX7_isStep 11 = .ok (.invokestatic 68, 3) := by decide +kernel
theorem dX7_isStep_14 : decode cX7_isStep 14 = .ok (.ifCond .ne 7, 3) := by decide +kernel
theorem dX7_isStep_17 : decode cX7_isStep 17 = .ok (.iconst 1, 1) := by decide +kernel
theorem dX7_isStep_18 : decode cX7_isStep 18 = .ok (.goto 4, 3) := by decide +kernel
theorem dX7_isStep_21 : decode cX7_isStep 21 = .ok (.iconst 0, 1) := by decide +kernel
theorem dX7_isStep_22 : decode cX7_isStep 22 = .ok (.ireturn, 1) := by decide +kernel
theorem dX7_isSheet_0 : decode cX7_isSheet 0 = .ok (.iload_n 0, 1) := by decide +kernel
theorem dX7_isSheet_1 : decode cX7_isSheet 1 = .ok (.iconst 0, 1) := by decide +kernel
theorem dX7_isSheet_2 : decode cX7_isSheet 2 = .ok (.iconst 5, 1) := by decide +kernel
theorem dX7_isSheet_3 : decode cX7_isSheet 3 = .ok (.invokestatic 68, 3) := by decide +kernel
theorem dX7_isSheet_6 : decode cX7_isSheet 6 = .ok (.ifCond .ne 7, 3) := by decide +kernel
theorem dX7_isSheet_9 : decode cX7_isSheet 9 = .ok (.iconst 1, 1) := by decide +kernel
theorem dX7_isSheet_10 : decode cX7_isSheet 10 = .ok (.goto 4, 3) := by decide +kernel
theorem dX7_isSheet_13 : decode cX7_isSheet 13 = .ok (.iconst 0, 1) := by decide +kernel
theorem dX7_isSheet_14 : decode cX7_isSheet 14 = .ok (.ireturn, 1) := by decide +kernel
theorem dX7_addStep_0 : decode cX7_addStep 0 = .ok (.aload_n 0, 1) := by decide +kernel
theorem dX7_addStep_1 : decode cX7_addStep 1 = .ok (.getfield 10, 3) := by decide +kernel
theorem dX7_addStep_4 : decode cX7_addStep 4 = .ok (.iload_n 1, 1) := by decide +kernel
theorem dX7_addStep_5 : decode cX7_addStep 5 = .ok (.iload_n 2, 1) := by decide +kernel
theorem dX7_addStep_6 : decode cX7_addStep 6 = .ok (.iload_n 3, 1) := by decide +kernel
theorem dX7_addStep_7 : decode cX7_addStep 7 = .ok (.invokevirtual 309, 3) := by decide +kernel
theorem dX7_addStep_10 : decode cX7_addStep 10 = .ok (.istore 4, 2) := by decide +kernel
theorem dX7_addStep_12 : decode cX7_addStep 12 = .ok (.aload_n 0, 1) := by decide +kernel
theorem dX7_addStep_13 : decode cX7_addStep 13 = .ok (.getfield 19, 3) := by decide +kernel
theorem dX7_addStep_16 : decode cX7_addStep 16 = .ok (.iload_n 2, 1) := by decide +kernel
theorem dX7_addStep_17 : decode cX7_addStep 17 = .ok (.iload 4, 2) := by decide +kernel
theorem dX7_addStep_19 : decode cX7_addStep 19 = .ok (.invokevirtual 234, 3) := by decide +kernel
theorem dX7_addStep_22 : decode cX7_addStep 22 = .ok (.iload 4, 2) := by decide +kernel
theorem dX7_addStep_24 : decode cX7_addStep 24 = .ok (.ireturn, 1) := by decide +kernel
theorem dX7_holdsSteps_0 : decode cX7_holdsSteps 0 = .ok (.iconst 0, 1) := by decide +kernel
theorem dX7_holdsSteps_1 : decode cX7_holdsSteps 1 = .ok (.istore_n 3, 1) := by decide +kernel
theorem dX7_holdsSteps_2 : decode cX7_holdsSteps 2 = .ok (.iload_n 3, 1) := by decide +kernel
theorem dX7_holdsSteps_3 : decode cX7_holdsSteps 3 = .ok (.iload_n 2, 1) := by decide +kernel
theorem dX7_holdsSteps_4 : decode cX7_holdsSteps 4 = .ok (.if_icmp .ge 40, 3) := by decide +kernel
theorem dX7_holdsSteps_7 : decode cX7_holdsSteps 7 = .ok (.aload_n 0, 1) := by decide +kernel
theorem dX7_holdsSteps_8 : decode cX7_holdsSteps 8 = .ok (.aload_n 1, 1) := by decide +kernel
theorem dX7_holdsSteps_9 : decode cX7_holdsSteps 9 = .ok (.iconst 2, 1) := by decide +kernel
theorem dX7_holdsSteps_10 : decode cX7_holdsSteps 10 = .ok (.iload_n 3, 1) := by decide +kernel
theorem dX7_holdsSteps_11 : decode cX7_holdsSteps 11 = .ok (.imul, 1) := by decide +kernel
theorem dX7_holdsSteps_12 : decode cX7_holdsSteps 12 = .ok (.iaload, 1) := by decide +kernel
theorem dX7_holdsSteps_13 : decode cX7_holdsSteps 13 = .ok (.invokevirtual 88, 3) := by decide +kernel
theorem dX7_holdsSteps_16 : decode cX7_holdsSteps 16 = .ok (.ifCond .eq 20, 3) := by decide +kernel
theorem dX7_holdsSteps_19 : decode cX7_holdsSteps 19 = .ok (.aload_n 1, 1) := by decide +kernel
theorem dX7_holdsSteps_20 : decode cX7_holdsSteps 20 = .ok (.iconst 2, 1) := by decide +kernel
theorem dX7_holdsSteps_21 : decode cX7_holdsSteps 21 = .ok (.iload_n 3, 1) := by decide +kernel
theorem dX7_holdsSteps_22 : decode cX7_holdsSteps 22 = .ok (.imul, 1) := by decide +kernel
theorem dX7_holdsSteps_23 : decode cX7_holdsSteps 23 = .ok (.iconst 1, 1) := by decide +kernel
theorem dX7_holdsSteps_24 : decode cX7_holdsSteps 24 = .ok (.iadd, 1) := by decide +kernel
theorem dX7_holdsSteps_25 : decode cX7_holdsSteps 25 = .ok (.iaload, 1) := by decide +kernel
theorem dX7_holdsSteps_26 : decode cX7_holdsSteps 26 = .ok (.iconst 1, 1) := by decide +kernel
theorem dX7_holdsSteps_27 : decode cX7_holdsSteps 27 = .ok (.sipush 1000, 3) := by decide +kernel
theorem dX7_holdsSteps_30 : decode cX7_holdsSteps 30 = .ok (.invokestatic 68, 3) := by decide +kernel
theorem dX7_holdsSteps_33 : decode cX7_holdsSteps 33 = .ok (.ifCond .eq 5, 3) := by decide +kernel
theorem dX7_holdsSteps_36 : decode cX7_holdsSteps 36 = .ok (.iconst 0, 1) := by decide +kernel
theorem dX7_holdsSteps_37 : decode cX7_holdsSteps 37 = .ok (.ireturn, 1) := by decide +kernel
theorem dX7_holdsSteps_38 : decode cX7_holdsSteps 38 = .ok (.iinc 3 1, 3) := by decide +kernel
theorem dX7_holdsSteps_41 : decode cX7_holdsSteps 41 = .ok (.goto (-39), 3) := by decide +kernel
theorem dX7_holdsSteps_44 : decode cX7_holdsSteps 44 = .ok (.iconst 1, 1) := by decide +kernel
theorem dX7_holdsSteps_45 : decode cX7_holdsSteps 45 = .ok (.ireturn, 1) := by decide +kernel
theorem dX7_addPieceBy_0 : decode cX7_addPieceBy 0 = .ok (.aload_n 0, 1) := by decide +kernel
theorem dX7_addPieceBy_1 : decode cX7_addPieceBy 1 = .ok (.getfield 10, 3) := by decide +kernel
theorem dX7_addPieceBy_4 : decode cX7_addPieceBy 4 = .ok (.iload_n 1, 1) := by decide +kernel
theorem dX7_addPieceBy_5 : decode cX7_addPieceBy 5 = .ok (.invokevirtual 84, 3) := by decide +kernel
theorem dX7_addPieceBy_8 : decode cX7_addPieceBy 8 = .ok (.istore 4, 2) := by decide +kernel
theorem dX7_addPieceBy_10 : decode cX7_addPieceBy 10 = .ok (.iconst 0, 1) := by decide +kernel
theorem dX7_addPieceBy_11 : decode cX7_addPieceBy 11 = .ok (.istore 5, 2) := by decide +kernel
theorem dX7_addPieceBy_13 : decode cX7_addPieceBy 13 = .ok (.iload 5, 2) := by decide +kernel
theorem dX7_addPieceBy_15 : decode cX7_addPieceBy 15 = .ok (.iload_n 3, 1) := by decide +kernel
theorem dX7_addPieceBy_16 : decode cX7_addPieceBy 16 = .ok (.if_icmp .ge 30, 3) := by decide +kernel
theorem dX7_addPieceBy_19 : decode cX7_addPieceBy 19 = .ok (.aload_n 0, 1) := by decide +kernel
theorem dX7_addPieceBy_20 : decode cX7_addPieceBy 20 = .ok (.iload 4, 2) := by decide +kernel
theorem dX7_addPieceBy_22 : decode cX7_addPieceBy 22 = .ok (.aload_n 2, 1) := by decide +kernel
theorem dX7_addPieceBy_23 : decode cX7_addPieceBy 23 = .ok (.iconst 2, 1) := by decide +kernel
theorem dX7_addPieceBy_24 : decode cX7_addPieceBy 24 = .ok (.iload 5, 2) := by decide +kernel
theorem dX7_addPieceBy_26 : decode cX7_addPieceBy 26 = .ok (.imul, 1) := by decide +kernel
theorem dX7_addPieceBy_27 : decode cX7_addPieceBy 27 = .ok (.iaload, 1) := by decide +kernel
theorem dX7_addPieceBy_28 : decode cX7_addPieceBy 28 = .ok (.aload_n 2, 1) := by decide +kernel
theorem dX7_addPieceBy_29 : decode cX7_addPieceBy 29 = .ok (.iconst 2, 1) := by decide +kernel
theorem dX7_addPieceBy_30 : decode cX7_addPieceBy 30 = .ok (.iload 5, 2) := by decide +kernel
theorem dX7_addPieceBy_32 : decode cX7_addPieceBy 32 = .ok (.imul, 1) := by decide +kernel
theorem dX7_addPieceBy_33 : decode cX7_addPieceBy 33 = .ok (.iconst 1, 1) := by decide +kernel
theorem dX7_addPieceBy_34 : decode cX7_addPieceBy 34 = .ok (.iadd, 1) := by decide +kernel
theorem dX7_addPieceBy_35 : decode cX7_addPieceBy 35 = .ok (.iaload, 1) := by decide +kernel
theorem dX7_addPieceBy_36 : decode cX7_addPieceBy 36 = .ok (.invokevirtual 100, 3) := by decide +kernel
theorem dX7_addPieceBy_39 : decode cX7_addPieceBy 39 = .ok (.pop, 1) := by decide +kernel
theorem dX7_addPieceBy_40 : decode cX7_addPieceBy 40 = .ok (.iinc 5 1, 3) := by decide +kernel
theorem dX7_addPieceBy_43 : decode cX7_addPieceBy 43 = .ok (.goto (-30), 3) := by decide +kernel
theorem dX7_addPieceBy_46 : decode cX7_addPieceBy 46 = .ok (.iload 4, 2) := by decide +kernel
theorem dX7_addPieceBy_48 : decode cX7_addPieceBy 48 = .ok (.ireturn, 1) := by decide +kernel
theorem dX7_hasTails_0 : decode cX7_hasTails 0 = .ok (.aload_n 0, 1) := by decide +kernel
theorem dX7_hasTails_1 : decode cX7_hasTails 1 = .ok (.getfield 10, 3) := by decide +kernel
theorem dX7_hasTails_4 : decode cX7_hasTails 4 = .ok (.invokevirtual 122, 3) := by decide +kernel
theorem dX7_hasTails_7 : decode cX7_hasTails 7 = .ok (.ifCond .eq 21, 3) := by decide +kernel
theorem dX7_hasTails_10 : decode cX7_hasTails 10 = .ok (.aload_n 0, 1) := by decide +kernel
theorem dX7_hasTails_11 : decode cX7_hasTails 11 = .ok (.getfield 33, 3) := by decide +kernel
theorem dX7_hasTails_14 : decode cX7_hasTails 14 = .ok (.aload_n 0, 1) := by decide +kernel
theorem dX7_hasTails_15 : decode cX7_hasTails 15 = .ok (.getfield 10, 3) := by decide +kernel
theorem dX7_hasTails_18 : decode cX7_hasTails 18 = .ok (.aload_n 0, 1) := by decide +kernel
theorem dX7_hasTails_19 : decode cX7_hasTails 19 = .ok (.getfield 19, 3) := by decide +kernel
theorem dX7_hasTails_22 : decode cX7_hasTails 22 = .ok (.invokevirtual 189, 3) := by decide +kernel
theorem dX7_hasTails_25 : decode cX7_hasTails 25 = .ok (.ifCond .ne 5, 3) := by decide +kernel
theorem dX7_hasTails_28 : decode cX7_hasTails 28 = .ok (.iconst 0, 1) := by decide +kernel
theorem dX7_hasTails_29 : decode cX7_hasTails 29 = .ok (.ireturn, 1) := by decide +kernel
theorem dX7_hasTails_30 : decode cX7_hasTails 30 = .ok (.aload_n 0, 1) := by decide +kernel
theorem dX7_hasTails_31 : decode cX7_hasTails 31 = .ok (.getfield 33, 3) := by decide +kernel
theorem dX7_hasTails_34 : decode cX7_hasTails 34 = .ok (.aload_n 0, 1) := by decide +kernel
theorem dX7_hasTails_35 : decode cX7_hasTails 35 = .ok (.getfield 10, 3) := by decide +kernel
theorem dX7_hasTails_38 : decode cX7_hasTails 38 = .ok (.invokevirtual 310, 3) := by decide +kernel
theorem dX7_hasTails_41 : decode cX7_hasTails 41 = .ok (.iconst 1, 1) := by decide +kernel
theorem dX7_hasTails_42 : decode cX7_hasTails 42 = .ok (.ireturn, 1) := by decide +kernel
theorem dX7_pickBy_0 : decode cX7_pickBy 0 = .ok (.iconst (-1), 1) := by decide +kernel
theorem dX7_pickBy_1 : decode cX7_pickBy 1 = .ok (.istore_n 2, 1) := by decide +kernel
theorem dX7_pickBy_2 : decode cX7_pickBy 2 = .ok (.iconst 0, 1) := by decide +kernel
theorem dX7_pickBy_3 : decode cX7_pickBy 3 = .ok (.istore_n 3, 1) := by decide +kernel
theorem dX7_pickBy_4 : decode cX7_pickBy 4 = .ok (.iconst 0, 1) := by decide +kernel
theorem dX7_pickBy_5 : decode cX7_pickBy 5 = .ok (.istore 4, 2) := by decide +kernel
theorem dX7_pickBy_7 : decode cX7_pickBy 7 = .ok (.iconst 0, 1) := by decide +kernel
theorem dX7_pickBy_8 : decode cX7_pickBy 8 = .ok (.istore 5, 2) := by decide +kernel
theorem dX7_pickBy_10 : decode cX7_pickBy 10 = .ok (.iload 5, 2) := by decide +kernel
theorem dX7_pickBy_12 : decode cX7_pickBy 12 = .ok (.aload_n 0, 1) := by decide +kernel
theorem dX7_pickBy_13 : decode cX7_pickBy 13 = .ok (.getfield 10, 3) := by decide +kernel
theorem dX7_pickBy_16 : decode cX7_pickBy 16 = .ok (.getfield 81, 3) := by decide +kernel
theorem dX7_pickBy_19 : decode cX7_pickBy 19 = .ok (.if_icmp .ge 104, 3) := by decide +kernel
theorem dX7_pickBy_22 : decode cX7_pickBy 22 = .ok (.aload_n 0, 1) := by decide +kernel
theorem dX7_pickBy_23 : decode cX7_pickBy 23 = .ok (.getfield 33, 3) := by decide +kernel
theorem dX7_pickBy_26 : decode cX7_pickBy 26 = .ok (.aload_n 0, 1) := by decide +kernel
theorem dX7_pickBy_27 : decode cX7_pickBy 27 = .ok (.getfield 10, 3) := by decide +kernel
theorem dX7_pickBy_30 : decode cX7_pickBy 30 = .ok (.iload 5, 2) := by decide +kernel
theorem dX7_pickBy_32 : decode cX7_pickBy 32 = .ok (.invokevirtual 314, 3) := by decide +kernel
theorem dX7_pickBy_35 : decode cX7_pickBy 35 = .ok (.istore 6, 2) := by decide +kernel
theorem dX7_pickBy_37 : decode cX7_pickBy 37 = .ok (.iload 6, 2) := by decide +kernel
theorem dX7_pickBy_39 : decode cX7_pickBy 39 = .ok (.iconst (-1), 1) := by decide +kernel
theorem dX7_pickBy_40 : decode cX7_pickBy 40 = .ok (.if_icmp .eq 77, 3) := by decide +kernel
theorem dX7_pickBy_43 : decode cX7_pickBy 43 = .ok (.aload_n 0, 1) := by decide +kernel
theorem dX7_pickBy_44 : decode cX7_pickBy 44 = .ok (.getfield 33, 3) := by decide +kernel
theorem dX7_pickBy_47 : decode cX7_pickBy 47 = .ok (.aload_n 0, 1) := by decide +kernel
theorem dX7_pickBy_48 : decode cX7_pickBy 48 = .ok (.getfield 10, 3) := by decide +kernel
theorem dX7_pickBy_51 : decode cX7_pickBy 51 = .ok (.aload_n 0, 1) := by decide +kernel
theorem dX7_pickBy_52 : decode cX7_pickBy 52 = .ok (.getfield 19, 3) := by decide +kernel
theorem dX7_pickBy_55 : decode cX7_pickBy 55 = .ok (.iload 6, 2) := by decide +kernel
theorem dX7_pickBy_57 : decode cX7_pickBy 57 = .ok (.invokevirtual 230, 3) := by decide +kernel
theorem dX7_pickBy_60 : decode cX7_pickBy 60 = .ok (.istore 7, 2) := by decide +kernel
theorem dX7_pickBy_62 : decode cX7_pickBy 62 = .ok (.aload_n 0, 1) := by decide +kernel
theorem dX7_pickBy_63 : decode cX7_pickBy 63 = .ok (.iload_n 1, 1) := by decide +kernel
theorem dX7_pickBy_64 : decode cX7_pickBy 64 = .ok (.iload 6, 2) := by decide +kernel
theorem dX7_pickBy_66 : decode cX7_pickBy 66 = .ok (.invokevirtual 317, 3) := by decide +kernel
theorem dX7_pickBy_69 : decode cX7_pickBy 69 = .ok (.istore 8, 2) := by decide +kernel
theorem dX7_pickBy_71 : decode cX7_pickBy 71 = .ok (.iload 7, 2) := by decide +kernel
theorem dX7_pickBy_73 : decode cX7_pickBy 73 = .ok (.iload_n 3, 1) := by decide +kernel
theorem dX7_pickBy_74 : decode cX7_pickBy 74 = .ok (.if_icmp .lt 16, 3) := by decide +kernel
theorem dX7_pickBy_77 : decode cX7_pickBy 77 = .ok (.iload 7, 2) := by decide +kernel
theorem dX7_pickBy_79 : decode cX7_pickBy 79 = .ok (.iload_n 3, 1) := by decide +kernel
theorem dX7_pickBy_80 : decode cX7_pickBy 80 = .ok (.if_icmp .ne 14, 3) := by decide +kernel
theorem dX7_pickBy_83 : decode cX7_pickBy 83 = .ok (.iload 8, 2) := by decide +kernel
theorem dX7_pickBy_85 : decode cX7_pickBy 85 = .ok (.iload 4, 2) := by decide +kernel
theorem dX7_pickBy_87 : decode cX7_pickBy 87 = .ok (.if_icmp .ge 7, 3) := by decide +kernel
theorem dX7_pickBy_90 : decode cX7_pickBy 90 = .ok (.iconst 1, 1) := by decide +kernel
theorem dX7_pickBy_91 : decode cX7_pickBy 91 = .ok (.goto 4, 3) := by decide +kernel
theorem dX7_pickBy_94 : decode cX7_pickBy 94 = .ok (.iconst 0, 1) := by decide +kernel
theorem dX7_pickBy_95 : decode cX7_pickBy 95 = .ok (.istore 9, 2) := by decide +kernel
theorem dX7_pickBy_97 : decode cX7_pickBy 97 = .ok (.iload_n 2, 1) := by decide +kernel
theorem dX7_pickBy_98 : decode cX7_pickBy 98 = .ok (.iconst (-1), 1) := by decide +kernel
theorem dX7_pickBy_99 : decode cX7_pickBy 99 = .ok (.if_icmp .eq 8, 3) := by decide +kernel
theorem dX7_pickBy_102 : decode cX7_pickBy 102 = .ok (.iload 9, 2) := by decide +kernel
theorem dX7_pickBy_104 : decode cX7_pickBy 104 = .ok (.ifCond .eq 13, 3) := by decide +kernel
theorem dX7_pickBy_107 : decode cX7_pickBy 107 = .ok (.iload 6, 2) := by decide +kernel
theorem dX7_pickBy_109 : decode cX7_pickBy 109 = .ok (.istore_n 2, 1) := by decide +kernel
theorem dX7_pickBy_110 : decode cX7_pickBy 110 = .ok (.iload 7, 2) := by decide +kernel
theorem dX7_pickBy_112 : decode cX7_pickBy 112 = .ok (.istore_n 3, 1) := by decide +kernel
theorem dX7_pickBy_113 : decode cX7_pickBy 113 = .ok (.iload 8, 2) := by decide +kernel
theorem dX7_pickBy_115 : decode cX7_pickBy 115 = .ok (.istore 4, 2) := by decide +kernel
theorem dX7_pickBy_117 : decode cX7_pickBy 117 = .ok (.iinc 5 1, 3) := by decide +kernel
theorem dX7_pickBy_120 : decode cX7_pickBy 120 = .ok (.goto (-110), 3) := by decide +kernel
theorem dX7_pickBy_123 : decode cX7_pickBy 123 = .ok (.iload_n 2, 1) := by decide +kernel
theorem dX7_pickBy_124 : decode cX7_pickBy 124 = .ok (.ireturn, 1) := by decide +kernel
theorem dX7_rankBy_0 : decode cX7_rankBy 0 = .ok (.iload_n 1, 1) := by decide +kernel
theorem dX7_rankBy_1 : decode cX7_rankBy 1 = .ok (.ifCond .ne 13, 3) := by decide +kernel
theorem dX7_rankBy_4 : decode cX7_rankBy 4 = .ok (.aload_n 0, 1) := by decide +kernel
theorem dX7_rankBy_5 : decode cX7_rankBy 5 = .ok (.getfield 10, 3) := by decide +kernel
theorem dX7_rankBy_8 : decode cX7_rankBy 8 = .ok (.getfield 113, 3) := by decide +kernel
theorem dX7_rankBy_11 : decode cX7_rankBy 11 = .ok (.iload_n 2, 1) := by decide +kernel
theorem dX7_rankBy_12 : decode cX7_rankBy 12 = .ok (.iaload, 1) := by decide +kernel
theorem dX7_rankBy_13 : decode cX7_rankBy 13 = .ok (.ireturn, 1) := by decide +kernel
theorem dX7_rankBy_14 : decode cX7_rankBy 14 = .ok (.iload_n 1, 1) := by decide +kernel
theorem dX7_rankBy_15 : decode cX7_rankBy 15 = .ok (.iconst 1, 1) := by decide +kernel
theorem dX7_rankBy_16 : decode cX7_rankBy 16 = .ok (.if_icmp .ne 25, 3) := by decide +kernel
theorem dX7_rankBy_19 : decode cX7_rankBy 19 = .ok (.aload_n 0, 1) := by decide +kernel
theorem dX7_rankBy_20 : decode cX7_rankBy 20 = .ok (.getfield 10, 3) := by decide +kernel
theorem dX7_rankBy_23 : decode cX7_rankBy 23 = .ok (.getfield 113, 3) := by decide +kernel
theorem dX7_rankBy_26 : decode cX7_rankBy 26 = .ok (.iload_n 2, 1) := by decide +kernel
theorem dX7_rankBy_27 : decode cX7_rankBy 27 = .ok (.iaload, 1) := by decide +kernel
theorem dX7_rankBy_28 : decode cX7_rankBy 28 = .ok (.aload_n 0, 1) := by decide +kernel
theorem dX7_rankBy_29 : decode cX7_rankBy 29 = .ok (.getfield 10, 3) := by decide +kernel
theorem dX7_rankBy_32 : decode cX7_rankBy 32 = .ok (.iload_n 2, 1) := by decide +kernel
theorem dX7_rankBy_33 : decode cX7_rankBy 33 = .ok (.invokevirtual 320, 3) := by decide +kernel
theorem dX7_rankBy_36 : decode cX7_rankBy 36 = .ok (.iadd, 1) := by decide +kernel
theorem dX7_rankBy_37 : decode cX7_rankBy 37 = .ok (.ineg, 1) := by decide +kernel
theorem dX7_rankBy_38 : decode cX7_rankBy 38 = .ok (.goto 4, 3) := by decide +kernel
theorem dX7_rankBy_41 : decode cX7_rankBy 41 = .ok (.iconst 0, 1) := by decide +kernel
theorem dX7_rankBy_42 : decode cX7_rankBy 42 = .ok (.ireturn, 1) := by decide +kernel
theorem dX7_shorten_0 : decode cX7_shorten 0 = .ok (.aload_n 0, 1) := by decide +kernel
theorem dX7_shorten_1 : decode cX7_shorten 1 = .ok (.invokevirtual 206, 3) := by decide +kernel
theorem dX7_shorten_4 : decode cX7_shorten 4 = .ok (.ifCond .ne 5, 3) := by decide +kernel
theorem dX7_shorten_7 : decode cX7_shorten 7 = .ok (.iconst 0, 1) := by decide +kernel
theorem dX7_shorten_8 : decode cX7_shorten 8 = .ok (.ireturn, 1) := by decide +kernel
theorem dX7_shorten_9 : decode cX7_shorten 9 = .ok (.aload_n 0, 1) := by decide +kernel
theorem dX7_shorten_10 : decode cX7_shorten 10 = .ok (.getfield 33, 3) := by decide +kernel
theorem dX7_shorten_13 : decode cX7_shorten 13 = .ok (.getfield 200, 3) := by decide +kernel
theorem dX7_shorten_16 : decode cX7_shorten 16 = .ok (.istore_n 1, 1) := by decide +kernel
theorem dX7_shorten_17 : decode cX7_shorten 17 = .ok (.iconst (-1), 1) := by decide +kernel
theorem dX7_shorten_18 : decode cX7_shorten 18 = .ok (.istore_n 2, 1) := by decide +kernel
theorem dX7_shorten_19 : decode cX7_shorten 19 = .ok (.iconst (-1), 1) := by decide +kernel
theorem dX7_shorten_20 : decode cX7_shorten 20 = .ok (.istore_n 3, 1) := by decide +kernel
theorem dX7_shorten_21 : decode cX7_shorten 21 = .ok (.iconst 0, 1) := by decide +kernel
theorem dX7_shorten_22 : decode cX7_shorten 22 = .ok (.istore 4, 2) := by decide +kernel
theorem dX7_shorten_24 : decode cX7_shorten 24 = .ok (.iload 4, 2) := by decide +kernel
theorem dX7_shorten_26 : decode cX7_shorten 26 = .ok (.aload_n 0, 1) := by decide +kernel
theorem dX7_shorten_27 : decode cX7_shorten 27 = .ok (.getfield 10, 3) := by decide +kernel
theorem dX7_shorten_30 : decode cX7_shorten 30 = .ok (.getfield 73, 3) := by decide +kernel
theorem dX7_shorten_33 : decode cX7_shorten 33 = .ok (.if_icmp .ge 77, 3) := by decide +kernel
theorem dX7_shorten_36 : decode cX7_shorten 36 = .ok (.iconst 0, 1) := by decide +kernel
theorem dX7_shorten_37 : decode cX7_shorten 37 = .ok (.istore 5, 2) := by decide +kernel
theorem dX7_shorten_39 : decode cX7_shorten 39 = .ok (.iload 5, 2) := by decide +kernel
theorem dX7_shorten_41 : decode cX7_shorten 41 = .ok (.iconst 1, 1) := by decide +kernel
theorem dX7_shorten_42 : decode cX7_shorten 42 = .ok (.iadd, 1) := by decide +kernel
theorem dX7_shorten_43 : decode cX7_shorten 43 = .ok (.aload_n 0, 1) := by decide +kernel
theorem dX7_shorten_44 : decode cX7_shorten 44 = .ok (.getfield 19, 3) := by decide +kernel
theorem dX7_shorten_47 : decode cX7_shorten 47 = .ok (.getfield 185, 3) := by decide +kernel
theorem dX7_shorten_50 : decode cX7_shorten 50 = .ok (.iload 4, 2) := by decide +kernel
theorem dX7_shorten_52 : decode cX7_shorten 52 = .ok (.iaload, 1) := by decide +kernel
theorem dX7_shorten_53 : decode cX7_shorten 53 = .ok (.if_icmp .ge 51, 3) := by decide +kernel
theorem dX7_shorten_56 : decode cX7_shorten 56 = .ok (.aload_n 0, 1) := by decide +kernel
theorem dX7_shorten_57 : decode cX7_shorten 57 = .ok (.iload 4, 2) := by decide +kernel
theorem dX7_shorten_59 : decode cX7_shorten 59 = .ok (.iload 5, 2) := by decide +kernel
theorem dX7_shorten_61 : decode cX7_shorten 61 = .ok (.invokevirtual 323, 3) := by decide +kernel
theorem dX7_shorten_64 : decode cX7_shorten 64 = .ok (.ifCond .eq 34, 3) := by decide +kernel
theorem dX7_shorten_67 : decode cX7_shorten 67 = .ok (.aload_n 0, 1) := by decide +kernel
theorem dX7_shorten_68 : decode cX7_shorten 68 = .ok (.iload 4, 2) := by decide +kernel
theorem dX7_shorten_70 : decode cX7_shorten 70 = .ok (.iload 5, 2) := by decide +kernel
theorem dX7_shorten_72 : decode cX7_shorten 72 = .ok (.invokevirtual 326, 3) := by decide +kernel
theorem dX7_shorten_75 : decode cX7_shorten 75 = .ok (.istore 6, 2) := by decide +kernel
theorem dX7_shorten_77 : decode cX7_shorten 77 = .ok (.iload 6, 2) := by decide +kernel
theorem dX7_shorten_79 : decode cX7_shorten 79 = .ok (.iconst (-1), 1) := by decide +kernel
theorem dX7_shorten_80 : decode cX7_shorten 80 = .ok (.if_icmp .eq 18, 3) := by decide +kernel
theorem dX7_shorten_83 : decode cX7_shorten 83 = .ok (.iload 6, 2) := by decide +kernel
theorem dX7_shorten_85 : decode cX7_shorten 85 = .ok (.iload_n 1, 1) := by decide +kernel
theorem dX7_shorten_86 : decode cX7_shorten 86 = .ok (.if_icmp .ge 12, 3) := by decide +kernel
theorem dX7_shorten_89 : decode cX7_shorten 89 = .ok (.iload 6, 2) := by decide +kernel
theorem dX7_shorten_91 : decode cX7_shorten 91 = .ok (.istore_n 1, 1) := by decide +kernel
theorem dX7_shorten_92 : decode cX7_shorten 92 = .ok (.iload 4, 2) := by decide +kernel
theorem dX7_shorten_94 : decode cX7_shorten 94 = .ok (.istore_n 2, 1) := by decide +kernel
theorem dX7_shorten_95 : decode cX7_shorten 95 = .ok (.iload 5, 2) := by decide +kernel
theorem dX7_shorten_97 : decode cX7_shorten 97 = .ok (.istore_n 3, 1) := by decide +kernel
theorem dX7_shorten_98 : decode cX7_shorten 98 = .ok (.iinc 5 1, 3) := by decide +kernel
theorem dX7_shorten_101 : decode cX7_shorten 101 = .ok (.goto (-62), 3) := by decide +kernel
theorem dX7_shorten_104 : decode cX7_shorten 104 = .ok (.iinc 4 1, 3) := by decide +kernel
theorem dX7_shorten_107 : decode cX7_shorten 107 = .ok (.goto (-83), 3) := by decide +kernel
theorem dX7_shorten_110 : decode cX7_shorten 110 = .ok (.iload_n 2, 1) := by decide +kernel
theorem dX7_shorten_111 : decode cX7_shorten 111 = .ok (.iconst (-1), 1) := by decide +kernel
theorem dX7_shorten_112 : decode cX7_shorten 112 = .ok (.if_icmp .ne 5, 3) := by decide +kernel
theorem dX7_shorten_115 : decode cX7_shorten 115 = .ok (.iconst 0, 1) := by decide +kernel
theorem dX7_shorten_116 : decode cX7_shorten 116 = .ok (.ireturn, 1) := by decide +kernel
theorem dX7_shorten_117 : decode cX7_shorten 117 = .ok (.aload_n 0, 1) := by decide +kernel
theorem dX7_shorten_118 : decode cX7_shorten 118 = .ok (.getfield 19, 3) := by decide +kernel
theorem dX7_shorten_121 : decode cX7_shorten 121 = .ok (.iload_n 2, 1) := by decide +kernel
theorem dX7_shorten_122 : decode cX7_shorten 122 = .ok (.iload_n 3, 1) := by decide +kernel
theorem dX7_shorten_123 : decode cX7_shorten 123 = .ok (.invokevirtual 193, 3) := by decide +kernel
theorem dX7_shorten_126 : decode cX7_shorten 126 = .ok (.iconst 1, 1) := by decide +kernel
theorem dX7_shorten_127 : decode cX7_shorten 127 = .ok (.ireturn, 1) := by decide +kernel
theorem dX7_isTight_0 : decode cX7_isTight 0 = .ok (.aload_n 0, 1) := by decide +kernel
theorem dX7_isTight_1 : decode cX7_isTight 1 = .ok (.getfield 10, 3) := by decide +kernel
theorem dX7_isTight_4 : decode cX7_isTight 4 = .ok (.getfield 186, 3) := by decide +kernel
theorem dX7_isTight_7 : decode cX7_isTight 7 = .ok (.iload_n 1, 1) := by decide +kernel
theorem dX7_isTight_8 : decode cX7_isTight 8 = .ok (.iaload, 1) := by decide +kernel
theorem dX7_isTight_9 : decode cX7_isTight 9 = .ok (.ifCond .eq 5, 3) := by decide +kernel
theorem dX7_isTight_12 : decode cX7_isTight 12 = .ok (.iconst 0, 1) := by decide +kernel
theorem dX7_isTight_13 : decode cX7_isTight 13 = .ok (.ireturn, 1) := by decide +kernel
theorem dX7_isTight_14 : decode cX7_isTight 14 = .ok (.aload_n 0, 1) := by decide +kernel
theorem dX7_isTight_15 : decode cX7_isTight 15 = .ok (.getfield 19, 3) := by decide +kernel
theorem dX7_isTight_18 : decode cX7_isTight 18 = .ok (.getfield 329, 3) := by decide +kernel
theorem dX7_isTight_21 : decode cX7_isTight 21 = .ok (.iload_n 1, 1) := by decide +kernel
theorem dX7_isTight_22 : decode cX7_isTight 22 = .ok (.aaload, 1) := by decide +kernel
theorem dX7_isTight_23 : decode cX7_isTight 23 = .ok (.iload_n 2, 1) := by decide +kernel
theorem dX7_isTight_24 : decode cX7_isTight 24 = .ok (.iaload, 1) := by decide +kernel
theorem dX7_isTight_25 : decode cX7_isTight 25 = .ok (.istore_n 3, 1) := by decide +kernel
theorem dX7_isTight_26 : decode cX7_isTight 26 = .ok (.aload_n 0, 1) := by decide +kernel
theorem dX7_isTight_27 : decode cX7_isTight 27 = .ok (.getfield 19, 3) := by decide +kernel
theorem dX7_isTight_30 : decode cX7_isTight 30 = .ok (.getfield 329, 3) := by decide +kernel
theorem dX7_isTight_33 : decode cX7_isTight 33 = .ok (.iload_n 1, 1) := by decide +kernel
theorem dX7_isTight_34 : decode cX7_isTight 34 = .ok (.aaload, 1) := by decide +kernel
theorem dX7_isTight_35 : decode cX7_isTight 35 = .ok (.iload_n 2, 1) := by decide +kernel
theorem dX7_isTight_36 : decode cX7_isTight 36 = .ok (.iconst 1, 1) := by decide +kernel
theorem dX7_isTight_37 : decode cX7_isTight 37 = .ok (.iadd, 1) := by decide +kernel
theorem dX7_isTight_38 : decode cX7_isTight 38 = .ok (.iaload, 1) := by decide +kernel
theorem dX7_isTight_39 : decode cX7_isTight 39 = .ok (.istore 4, 2) := by decide +kernel
theorem dX7_isTight_41 : decode cX7_isTight 41 = .ok (.aload_n 0, 1) := by decide +kernel
theorem dX7_isTight_42 : decode cX7_isTight 42 = .ok (.getfield 33, 3) := by decide +kernel
theorem dX7_isTight_45 : decode cX7_isTight 45 = .ok (.aload_n 0, 1) := by decide +kernel
theorem dX7_isTight_46 : decode cX7_isTight 46 = .ok (.getfield 10, 3) := by decide +kernel
theorem dX7_isTight_49 : decode cX7_isTight 49 = .ok (.iload_n 3, 1) := by decide +kernel
theorem dX7_isTight_50 : decode cX7_isTight 50 = .ok (.invokevirtual 212, 3) := by decide +kernel
theorem dX7_isTight_53 : decode cX7_isTight 53 = .ok (.ifCond .ne 48, 3) := by decide +kernel
theorem dX7_isTight_56 : decode cX7_isTight 56 = .ok (.aload_n 0, 1) := by decide +kernel
theorem dX7_isTight_57 : decode cX7_isTight 57 = .ok (.getfield 33, 3) := by decide +kernel
theorem dX7_isTight_60 : decode cX7_isTight 60 = .ok (.aload_n 0, 1) := by decide +kernel
theorem dX7_isTight_61 : decode cX7_isTight 61 = .ok (.getfield 10, 3) := by decide +kernel
theorem dX7_isTight_64 : decode cX7_isTight 64 = .ok (.iload 4, 2) := by decide +kernel
theorem dX7_isTight_66 : decode cX7_isTight 66 = .ok (.invokevirtual 212, 3) := by decide +kernel
theorem dX7_isTight_69 : decode cX7_isTight 69 = .ok (.ifCond .ne 32, 3) := by decide +kernel
theorem dX7_isTight_72 : decode cX7_isTight 72 = .ok (.aload_n 0, 1) := by decide +kernel
theorem dX7_isTight_73 : decode cX7_isTight 73 = .ok (.getfield 33, 3) := by decide +kernel
theorem dX7_isTight_76 : decode cX7_isTight 76 = .ok (.aload_n 0, 1) := by decide +kernel
theorem dX7_isTight_77 : decode cX7_isTight 77 = .ok (.getfield 10, 3) := by decide +kernel
theorem dX7_isTight_80 : decode cX7_isTight 80 = .ok (.iload_n 3, 1) := by decide +kernel
theorem dX7_isTight_81 : decode cX7_isTight 81 = .ok (.invokevirtual 332, 3) := by decide +kernel
theorem dX7_isTight_84 : decode cX7_isTight 84 = .ok (.aload_n 0, 1) := by decide +kernel
theorem dX7_isTight_85 : decode cX7_isTight 85 = .ok (.getfield 33, 3) := by decide +kernel
theorem dX7_isTight_88 : decode cX7_isTight 88 = .ok (.getfield 203, 3) := by decide +kernel
theorem dX7_isTight_91 : decode cX7_isTight 91 = .ok (.iload 4, 2) := by decide +kernel
theorem dX7_isTight_93 : decode cX7_isTight 93 = .ok (.iaload, 1) := by decide +kernel
theorem dX7_isTight_94 : decode cX7_isTight 94 = .ok (.if_icmp .ne 7, 3) := by decide +kernel
theorem dX7_isTight_97 : decode cX7_isTight 97 = .ok (.iconst 1, 1) := by decide +kernel
theorem dX7_isTight_98 : decode cX7_isTight 98 = .ok (.goto 4, 3) := by decide +kernel
theorem dX7_isTight_101 : decode cX7_isTight 101 = .ok (.iconst 0, 1) := by decide +kernel
theorem dX7_isTight_102 : decode cX7_isTight 102 = .ok (.ireturn, 1) := by decide +kernel
theorem dX7_endBySwap_0 : decode cX7_endBySwap 0 = .ok (.aload_n 0, 1) := by decide +kernel
theorem dX7_endBySwap_1 : decode cX7_endBySwap 1 = .ok (.getfield 19, 3) := by decide +kernel
theorem dX7_endBySwap_4 : decode cX7_endBySwap 4 = .ok (.iload_n 1, 1) := by decide +kernel
theorem dX7_endBySwap_5 : decode cX7_endBySwap 5 = .ok (.iload_n 2, 1) := by decide +kernel
theorem dX7_endBySwap_6 : decode cX7_endBySwap 6 = .ok (.invokevirtual 193, 3) := by decide +kernel
theorem dX7_endBySwap_9 : decode cX7_endBySwap 9 = .ok (.aload_n 0, 1) := by decide +kernel
theorem dX7_endBySwap_10 : decode cX7_endBySwap 10 = .ok (.getfield 37, 3) := by decide +kernel
theorem dX7_endBySwap_13 : decode cX7_endBySwap 13 = .ok (.aload_n 0, 1) := by decide +kernel
theorem dX7_endBySwap_14 : decode cX7_endBySwap 14 = .ok (.getfield 10, 3) := by decide +kernel
theorem dX7_endBySwap_17 : decode cX7_endBySwap 17 = .ok (.aload_n 0, 1) := by decide +kernel
theorem dX7_endBySwap_18 : decode cX7_endBySwap 18 = .ok (.getfield 19, 3) := by decide +kernel
theorem dX7_endBySwap_21 : decode cX7_endBySwap 21 = .ok (.invokevirtual 189, 3) := by decide +kernel
theorem dX7_endBySwap_24 : decode cX7_endBySwap 24 = .ok (.ifCond .eq 13, 3) := by decide +kernel
theorem dX7_endBySwap_27 : decode cX7_endBySwap 27 = .ok (.aload_n 0, 1) := by decide +kernel
theorem dX7_endBySwap_28 : decode cX7_endBySwap 28 = .ok (.getfield 37, 3) := by decide +kernel
theorem dX7_endBySwap_31 : decode cX7_endBySwap 31 = .ok (.getfield 200, 3) := by decide +kernel
theorem dX7_endBySwap_34 : decode cX7_endBySwap 34 = .ok (.goto 4, 3) := by decide +kernel
theorem dX7_endBySwap_37 : decode cX7_endBySwap 37 = .ok (.iconst (-1), 1) := by decide +kernel
theorem dX7_endBySwap_38 : decode cX7_endBySwap 38 = .ok (.istore_n 3, 1) := by decide +kernel
theorem dX7_endBySwap_39 : decode cX7_endBySwap 39 = .ok (.aload_n 0, 1) := by decide +kernel
theorem dX7_endBySwap_40 : decode cX7_endBySwap 40 = .ok (.getfield 19, 3) := by decide +kernel
theorem dX7_endBySwap_43 : decode cX7_endBySwap 43 = .ok (.iload_n 1, 1) := by decide +kernel
theorem dX7_endBySwap_44 : decode cX7_endBySwap 44 = .ok (.iload_n 2, 1) := by decide +kernel
theorem dX7_endBySwap_45 : decode cX7_endBySwap 45 = .ok (.invokevirtual 193, 3) := by decide +kernel
theorem dX7_endBySwap_48 : decode cX7_endBySwap 48 = .ok (.iload_n 3, 1) := by decide +kernel
theorem dX7_endBySwap_49 : decode cX7_endBySwap 49 = .ok (.ireturn, 1) := by decide +kernel
theorem dX7_stays_0 : decode cX7_stays 0 = .ok (.aload_n 0, 1) := by decide +kernel
theorem dX7_stays_1 : decode cX7_stays 1 = .ok (.getfield 33, 3) := by decide +kernel
theorem dX7_stays_4 : decode cX7_stays 4 = .ok (.aload_n 0, 1) := by decide +kernel
theorem dX7_stays_5 : decode cX7_stays 5 = .ok (.getfield 10, 3) := by decide +kernel
theorem dX7_stays_8 : decode cX7_stays 8 = .ok (.iload_n 1, 1) := by decide +kernel
theorem dX7_stays_9 : decode cX7_stays 9 = .ok (.invokevirtual 332, 3) := by decide +kernel
theorem dX7_stays_12 : decode cX7_stays 12 = .ok (.iload_n 3, 1) := by decide +kernel
theorem dX7_stays_13 : decode cX7_stays 13 = .ok (.if_icmp .gt 5, 3) := by decide +kernel
theorem dX7_stays_16 : decode cX7_stays 16 = .ok (.iconst 1, 1) := by decide +kernel
theorem dX7_stays_17 : decode cX7_stays 17 = .ok (.ireturn, 1) := by decide +kernel
theorem dX7_stays_18 : decode cX7_stays 18 = .ok (.aload_n 0, 1) := by decide +kernel
theorem dX7_stays_19 : decode cX7_stays 19 = .ok (.getfield 33, 3) := by decide +kernel
theorem dX7_stays_22 : decode cX7_stays 22 = .ok (.getfield 203, 3) := by decide +kernel
theorem dX7_stays_25 : decode cX7_stays 25 = .ok (.iload_n 1, 1) := by decide +kernel
theorem dX7_stays_26 : decode cX7_stays 26 = .ok (.iaload, 1) := by decide +kernel
theorem dX7_stays_27 : decode cX7_stays 27 = .ok (.iload_n 3, 1) := by decide +kernel
theorem dX7_stays_28 : decode cX7_stays 28 = .ok (.if_icmp .ge 20, 3) := by decide +kernel
theorem dX7_stays_31 : decode cX7_stays 31 = .ok (.aload_n 0, 1) := by decide +kernel
theorem dX7_stays_32 : decode cX7_stays 32 = .ok (.getfield 10, 3) := by decide +kernel
theorem dX7_stays_35 : decode cX7_stays 35 = .ok (.getfield 110, 3) := by decide +kernel
theorem dX7_stays_38 : decode cX7_stays 38 = .ok (.iload_n 1, 1) := by decide +kernel
theorem dX7_stays_39 : decode cX7_stays 39 = .ok (.iaload, 1) := by decide +kernel
theorem dX7_stays_40 : decode cX7_stays 40 = .ok (.iload_n 2, 1) := by decide +kernel
theorem dX7_stays_41 : decode cX7_stays 41 = .ok (.if_icmp .eq 7, 3) := by decide +kernel
theorem dX7_stays_44 : decode cX7_stays 44 = .ok (.iconst 1, 1) := by decide +kernel
theorem dX7_stays_45 : decode cX7_stays 45 = .ok (.goto 4, 3) := by decide +kernel
theorem dX7_stays_48 : decode cX7_stays 48 = .ok (.iconst 0, 1) := by decide +kernel
theorem dX7_stays_49 : decode cX7_stays 49 = .ok (.ireturn, 1) := by decide +kernel
theorem dX8_init_0 : decode cX8_init 0 = .ok (.aload_n 0, 1) := by decide +kernel
theorem dX8_init_1 : decode cX8_init 1 = .ok (.invokespecial 1, 3) := by decide +kernel
theorem dX8_init_4 : decode cX8_init 4 = .ok (.aload_n 0, 1) := by decide +kernel
theorem dX8_init_5 : decode cX8_init 5 = .ok (.bipush 8, 2) := by decide +kernel
theorem dX8_init_7 : decode cX8_init 7 = .ok (.newarray .int, 2) := by decide +kernel
theorem dX8_init_9 : decode cX8_init 9 = .ok (.putfield 7, 3) := by decide +kernel
theorem dX8_init_12 : decode cX8_init 12 = .ok (.aload_n 0, 1) := by decide +kernel
theorem dX8_init_13 : decode cX8_init 13 = .ok (.bipush 8, 2) := by decide +kernel
theorem dX8_init_15 : decode cX8_init 15 = .ok (.newarray .int, 2) := by decide +kernel
theorem dX8_init_17 : decode cX8_init 17 = .ok (.putfield 13, 3) := by decide +kernel
theorem dX8_init_20 : decode cX8_init 20 = .ok (.aload_n 0, 1) := by decide +kernel
theorem dX8_init_21 : decode cX8_init 21 = .ok (.bipush 12, 2) := by decide +kernel
theorem dX8_init_23 : decode cX8_init 23 = .ok (.newarray .int, 2) := by decide +kernel
theorem dX8_init_25 : decode cX8_init 25 = .ok (.putfield 16, 3) := by decide +kernel
theorem dX8_init_28 : decode cX8_init 28 = .ok (.aload_n 0, 1) := by decide +kernel
theorem dX8_init_29 : decode cX8_init 29 = .ok (.bipush 12, 2) := by decide +kernel
theorem dX8_init_31 : decode cX8_init 31 = .ok (.newarray .int, 2) := by decide +kernel
theorem dX8_init_33 : decode cX8_init 33 = .ok (.putfield 19, 3) := by decide +kernel
theorem dX8_init_36 : decode cX8_init 36 = .ok (.aload_n 0, 1) := by decide +kernel
theorem dX8_init_37 : decode cX8_init 37 = .ok (.bipush 96, 2) := by decide +kernel
theorem dX8_init_39 : decode cX8_init 39 = .ok (.newarray .int, 2) := by decide +kernel
theorem dX8_init_41 : decode cX8_init 41 = .ok (.putfield 22, 3) := by decide +kernel
theorem dX8_init_44 : decode cX8_init 44 = .ok (.aload_n 0, 1) := by decide +kernel
theorem dX8_init_45 : decode cX8_init 45 = .ok (.bipush 32, 2) := by decide +kernel
theorem dX8_init_47 : decode cX8_init 47 = .ok (.newarray .int, 2) := by decide +kernel
theorem dX8_init_49 : decode cX8_init 49 = .ok (.putfield 25, 3) := by decide +kernel
theorem dX8_init_52 : decode cX8_init 52 = .ok (.aload_n 0, 1) := by decide +kernel
theorem dX8_init_53 : decode cX8_init 53 = .ok (.bipush 32, 2) := by decide +kernel
theorem dX8_init_55 : decode cX8_init 55 = .ok (.newarray .int, 2) := by decide +kernel
theorem dX8_init_57 : decode cX8_init 57 = .ok (.putfield 28, 3) := by decide +kernel
theorem dX8_init_60 : decode cX8_init 60 = .ok (.aload_n 0, 1) := by decide +kernel
theorem dX8_init_61 : decode cX8_init 61 = .ok (.bipush 32, 2) := by decide +kernel
theorem dX8_init_63 : decode cX8_init 63 = .ok (.newarray .int, 2) := by decide +kernel
theorem dX8_init_65 : decode cX8_init 65 = .ok (.putfield 31, 3) := by decide +kernel
theorem dX8_init_68 : decode cX8_init 68 = .ok (.aload_n 0, 1) := by decide +kernel
theorem dX8_init_69 : decode cX8_init 69 = .ok (.bipush 32, 2) := by decide +kernel
theorem dX8_init_71 : decode cX8_init 71 = .ok (.newarray .int, 2) := by decide +kernel
theorem dX8_init_73 : decode cX8_init 73 = .ok (.putfield 34, 3) := by decide +kernel
theorem dX8_init_76 : decode cX8_init 76 = .ok (.aload_n 0, 1) := by decide +kernel
theorem dX8_init_77 : decode cX8_init 77 = .ok (.sipush 256, 3) := by decide +kernel
theorem dX8_init_80 : decode cX8_init 80 = .ok (.newarray .int, 2) := by decide +kernel
theorem dX8_init_82 : decode cX8_init 82 = .ok (.putfield 37, 3) := by decide +kernel
theorem dX8_init_85 : decode cX8_init 85 = .ok (.aload_n 0, 1) := by decide +kernel
theorem dX8_init_86 : decode cX8_init 86 = .ok (.bipush 8, 2) := by decide +kernel
theorem dX8_init_88 : decode cX8_init 88 = .ok (.newarray .int, 2) := by decide +kernel
theorem dX8_init_90 : decode cX8_init 90 = .ok (.putfield 40, 3) := by decide +kernel
theorem dX8_init_93 : decode cX8_init 93 = .ok (.aload_n 0, 1) := by decide +kernel
theorem dX8_init_94 : decode cX8_init 94 = .ok (.bipush 6, 2) := by decide +kernel
theorem dX8_init_96 : decode cX8_init 96 = .ok (.newarray .int, 2) := by decide +kernel
theorem dX8_init_98 : decode cX8_init 98 = .ok (.putfield 43, 3) := by decide +kernel
theorem dX8_init_101 : decode cX8_init 101 = .ok (.aload_n 0, 1) := by decide +kernel
theorem dX8_init_102 : decode cX8_init 102 = .ok (.bipush 6, 2) := by decide +kernel
theorem dX8_init_104 : decode cX8_init 104 = .ok (.newarray .int, 2) := by decide +kernel
theorem dX8_init_106 : decode cX8_init 106 = .ok (.putfield 46, 3) := by decide +kernel
theorem dX8_init_109 : decode cX8_init 109 = .ok (.aload_n 0, 1) := by decide +kernel
theorem dX8_init_110 : decode cX8_init 110 = .ok (.sipush 240, 3) := by decide +kernel
theorem dX8_init_113 : decode cX8_init 113 = .ok (.newarray .int, 2) := by decide +kernel
theorem dX8_init_115 : decode cX8_init 115 = .ok (.putfield 49, 3) := by decide +kernel
theorem dX8_init_118 : decode cX8_init 118 = .ok (.aload_n 0, 1) := by decide +kernel
theorem dX8_init_119 : decode cX8_init 119 = .ok (.bipush 40, 2) := by decide +kernel
theorem dX8_init_121 : decode cX8_init 121 = .ok (.newarray .int, 2) := by decide +kernel
theorem dX8_init_123 : decode cX8_init 123 = .ok (.putfield 52, 3) := by decide +kernel
theorem dX8_init_126 : decode cX8_init 126 = .ok (.aload_n 0, 1) := by decide +kernel
theorem dX8_init_127 : decode cX8_init 127 = .ok (.bipush 32, 2) := by decide +kernel
theorem dX8_init_129 : decode cX8_init 129 = .ok (.newarray .int, 2) := by decide +kernel
theorem dX8_init_131 : decode cX8_init 131 = .ok (.putfield 55, 3) := by decide +kernel
theorem dX8_init_134 : decode cX8_init 134 = .ok (.aload_n 0, 1) := by decide +kernel
theorem dX8_init_135 : decode cX8_init 135 = .ok (.bipush 32, 2) := by decide +kernel
theorem dX8_init_137 : decode cX8_init 137 = .ok (.newarray .boolean, 2) := by decide +kernel
theorem dX8_init_139 : decode cX8_init 139 = .ok (.putfield 58, 3) := by decide +kernel
theorem dX8_init_142 : decode cX8_init 142 = .ok (.aload_n 0, 1) := by decide +kernel
theorem dX8_init_143 : decode cX8_init 143 = .ok (.bipush 32, 2) := by decide +kernel
theorem dX8_init_145 : decode cX8_init 145 = .ok (.newarray .int, 2) := by decide +kernel
theorem dX8_init_147 : decode cX8_init 147 = .ok (.putfield 62, 3) := by decide +kernel
theorem dX8_init_150 : decode cX8_init 150 = .ok (.aload_n 0, 1) := by decide +kernel
theorem dX8_init_151 : decode cX8_init 151 = .ok (.bipush 32, 2) := by decide +kernel
theorem dX8_init_153 : decode cX8_init 153 = .ok (.newarray .int, 2) := by decide +kernel
theorem dX8_init_155 : decode cX8_init 155 = .ok (.putfield 65, 3) := by decide +kernel
theorem dX8_init_158 : decode cX8_init 158 = .ok (.aload_n 0, 1) := by decide +kernel
theorem dX8_init_159 : decode cX8_init 159 = .ok (.sipush 256, 3) := by decide +kernel
theorem dX8_init_162 : decode cX8_init 162 = .ok (.newarray .boolean, 2) := by decide +kernel
theorem dX8_init_164 : decode cX8_init 164 = .ok (.putfield 68, 3) := by decide +kernel
theorem dX8_init_167 : decode cX8_init 167 = .ok (.aload_n 0, 1) := by decide +kernel
theorem dX8_init_168 : decode cX8_init 168 = .ok (.bipush 32, 2) := by decide +kernel
theorem dX8_init_170 : decode cX8_init 170 = .ok (.newarray .int, 2) := by decide +kernel
theorem dX8_init_172 : decode cX8_init 172 = .ok (.putfield 71, 3) := by decide +kernel
theorem dX8_init_175 : decode cX8_init 175 = .ok (.aload_n 0, 1) := by decide +kernel
theorem dX8_init_176 : decode cX8_init 176 = .ok (.bipush 32, 2) := by decide +kernel
theorem dX8_init_178 : decode cX8_init 178 = .ok (.newarray .int, 2) := by decide +kernel
theorem dX8_init_180 : decode cX8_init 180 = .ok (.putfield 74, 3) := by decide +kernel
theorem dX8_init_183 : decode cX8_init 183 = .ok (.aload_n 0, 1) := by decide +kernel
theorem dX8_init_184 : decode cX8_init 184 = .ok (.bipush 32, 2) := by decide +kernel
theorem dX8_init_186 : decode cX8_init 186 = .ok (.newarray .int, 2) := by decide +kernel
theorem dX8_init_188 : decode cX8_init 188 = .ok (.putfield 77, 3) := by decide +kernel
theorem dX8_init_191 : decode cX8_init 191 = .ok (.aload_n 0, 1) := by decide +kernel
theorem dX8_init_192 : decode cX8_init 192 = .ok (.bipush 32, 2) := by decide +kernel
theorem dX8_init_194 : decode cX8_init 194 = .ok (.newarray .int, 2) := by decide +kernel
theorem dX8_init_196 : decode cX8_init 196 = .ok (.putfield 80, 3) := by decide +kernel
theorem dX8_init_199 : decode cX8_init 199 = .ok (.aload_n 0, 1) := by decide +kernel
theorem dX8_init_200 : decode cX8_init 200 = .ok (.bipush 32, 2) := by decide +kernel
theorem dX8_init_202 : decode cX8_init 202 = .ok (.newarray .int, 2) := by decide +kernel
theorem dX8_init_204 : decode cX8_init 204 = .ok (.putfield 83, 3) := by decide +kernel
theorem dX8_init_207 : decode cX8_init 207 = .ok (.aload_n 0, 1) := by decide +kernel
theorem dX8_init_208 : decode cX8_init 208 = .ok (.bipush 32, 2) := by decide +kernel
theorem dX8_init_210 : decode cX8_init 210 = .ok (.newarray .int, 2) := by decide +kernel
theorem dX8_init_212 : decode cX8_init 212 = .ok (.putfield 86, 3) := by decide +kernel
theorem dX8_init_215 : decode cX8_init 215 = .ok (.aload_n 0, 1) := by decide +kernel
theorem dX8_init_216 : decode cX8_init 216 = .ok (.bipush 32, 2) := by decide +kernel
theorem dX8_init_218 : decode cX8_init 218 = .ok (.newarray .int, 2) := by decide +kernel
theorem dX8_init_220 : decode cX8_init 220 = .ok (.putfield 89, 3) := by decide +kernel
theorem dX8_init_223 : decode cX8_init 223 = .ok (.aload_n 0, 1) := by decide +kernel
theorem dX8_init_224 : decode cX8_init 224 = .ok (.bipush 32, 2) := by decide +kernel
theorem dX8_init_226 : decode cX8_init 226 = .ok (.newarray .int, 2) := by decide +kernel
theorem dX8_init_228 : decode cX8_init 228 = .ok (.putfield 92, 3) := by decide +kernel
theorem dX8_init_231 : decode cX8_init 231 = .ok (.aload_n 0, 1) := by decide +kernel
theorem dX8_init_232 : decode cX8_init 232 = .ok (.bipush 32, 2) := by decide +kernel
theorem dX8_init_234 : decode cX8_init 234 = .ok (.newarray .int, 2) := by decide +kernel
theorem dX8_init_236 : decode cX8_init 236 = .ok (.putfield 95, 3) := by decide +kernel
theorem dX8_init_239 : decode cX8_init 239 = .ok (.aload_n 0, 1) := by decide +kernel
theorem dX8_init_240 : decode cX8_init 240 = .ok (.bipush 32, 2) := by decide +kernel
theorem dX8_init_242 : decode cX8_init 242 = .ok (.newarray .int, 2) := by decide +kernel
theorem dX8_init_244 : decode cX8_init 244 = .ok (.putfield 98, 3) := by decide +kernel
theorem dX8_init_247 : decode cX8_init 247 = .ok (.aload_n 0, 1) := by decide +kernel
theorem dX8_init_248 : decode cX8_init 248 = .ok (.bipush 9, 2) := by decide +kernel
theorem dX8_init_250 : decode cX8_init 250 = .ok (.newarray .int, 2) := by decide +kernel
theorem dX8_init_252 : decode cX8_init 252 = .ok (.putfield 101, 3) := by decide +kernel
theorem dX8_init_255 : decode cX8_init 255 = .ok (.aload_n 0, 1) := by decide +kernel
theorem dX8_init_256 : decode cX8_init 256 = .ok (.bipush 9, 2) := by decide +kernel
theorem dX8_init_258 : decode cX8_init 258 = .ok (.newarray .int, 2) := by decide +kernel
theorem dX8_init_260 : decode cX8_init 260 = .ok (.putfield 104, 3) := by decide +kernel
theorem dX8_init_263 : decode cX8_init 263 = .ok (.aload_n 0, 1) := by decide +kernel
theorem dX8_init_264 : decode cX8_init 264 = .ok (.bipush 9, 2) := by decide +kernel
theorem dX8_init_266 : decode cX8_init 266 = .ok (.newarray .int, 2) := by decide +kernel
theorem dX8_init_268 : decode cX8_init 268 = .ok (.putfield 107, 3) := by decide +kernel
theorem dX8_init_271 : decode cX8_init 271 = .ok (.aload_n 0, 1) := by decide +kernel
theorem dX8_init_272 : decode cX8_init 272 = .ok (.sipush 6720, 3) := by decide +kernel
theorem dX8_init_275 : decode cX8_init 275 = .ok (.newarray .int, 2) := by decide +kernel
theorem dX8_init_277 : decode cX8_init 277 = .ok (.putfield 110, 3) := by decide +kernel
theorem dX8_init_280 : decode cX8_init 280 = .ok (.aload_n 0, 1) := by decide +kernel
theorem dX8_init_281 : decode cX8_init 281 = .ok (.sipush 256, 3) := by decide +kernel
theorem dX8_init_284 : decode cX8_init 284 = .ok (.newarray .int, 2) := by decide +kernel
theorem dX8_init_286 : decode cX8_init 286 = .ok (.putfield 113, 3) := by decide +kernel
theorem dX8_init_289 : decode cX8_init 289 = .ok (.aload_n 0, 1) := by decide +kernel
theorem dX8_init_290 : decode cX8_init 290 = .ok (.bipush 32, 2) := by decide +kernel
theorem dX8_init_292 : decode cX8_init 292 = .ok (.newarray .int, 2) := by decide +kernel
theorem dX8_init_294 : decode cX8_init 294 = .ok (.putfield 116, 3) := by decide +kernel
theorem dX8_init_297 : decode cX8_init 297 = .ok (.aload_n 0, 1) := by decide +kernel
theorem dX8_init_298 : decode cX8_init 298 = .ok (.bipush 32, 2) := by decide +kernel
theorem dX8_init_300 : decode cX8_init 300 = .ok (.newarray .boolean, 2) := by decide +kernel
theorem dX8_init_302 : decode cX8_init 302 = .ok (.putfield 119, 3) := by decide +kernel
theorem dX8_init_305 : decode cX8_init 305 = .ok (.iconst 0, 1) := by decide +kernel
theorem dX8_init_306 : decode cX8_init 306 = .ok (.istore_n 1, 1) := by decide +kernel
theorem dX8_init_307 : decode cX8_init 307 = .ok (.iload_n 1, 1) := by decide +kernel
theorem dX8_init_308 : decode cX8_init 308 = .ok (.bipush 6, 2) := by decide +kernel
theorem dX8_init_310 : decode cX8_init 310 = .ok (.if_icmp .ge 16, 3) := by decide +kernel
theorem dX8_init_313 : decode cX8_init 313 = .ok (.aload_n 0, 1) := by decide +kernel
theorem dX8_init_314 : decode cX8_init 314 = .ok (.getfield 43, 3) := by decide +kernel
theorem dX8_init_317 : decode cX8_init 317 = .ok (.iload_n 1, 1) := by decide +kernel
theorem dX8_init_318 : decode cX8_init 318 = .ok (.iconst (-1), 1) := by decide +kernel
theorem dX8_init_319 : decode cX8_init 319 = .ok (.iastore, 1) := by decide +kernel
theorem dX8_init_320 : decode cX8_init 320 = .ok (.iinc 1 1, 3) := by decide +kernel
theorem dX8_init_323 : decode cX8_init 323 = .ok (.goto (-16), 3) := by decide +kernel
theorem dX8_init_326 : decode cX8_init 326 = .ok (.return_, 1) := by decide +kernel
theorem dX8_in_0 : decode cX8_in 0 = .ok (.lload_n 0, 1) := by decide +kernel
theorem dX8_in_1 : decode cX8_in 1 = .ok (.lload_n 2, 1) := by decide +kernel
theorem dX8_in_2 : decode cX8_in 2 = .ok (.lcmp, 1) := by decide +kernel
theorem dX8_in_3 : decode cX8_in 3 = .ok (.ifCond .lt 14, 3) := by decide +kernel
theorem dX8_in_6 : decode cX8_in 6 = .ok (.lload_n 0, 1) := by decide +kernel
theorem dX8_in_7 : decode cX8_in 7 = .ok (.lload 4, 2) := by decide +kernel
theorem dX8_in_9 : decode cX8_in 9 = .ok (.lcmp, 1) := by decide +kernel
theorem dX8_in_10 : decode cX8_in 10 = .ok (.ifCond .gt 7, 3) := by decide +kernel
theorem dX8_in_13 : decode cX8_in 13 = .ok (.iconst 1, 1) := by decide +kernel
theorem dX8_in_14 : decode cX8_in 14 = .ok (.goto 4, 3) := by decide +kernel
theorem dX8_in_17 : decode cX8_in 17 = .ok (.iconst 0, 1) := by decide +kernel
theorem dX8_in_18 : decode cX8_in 18 = .ok (.ireturn, 1) := by decide +kernel
theorem dX8_machine_0 : decode cX8_machine 0 = .ok (.iload_n 1, 1) := by decide +kernel
theorem dX8_machine_1 : decode cX8_machine 1 = .ok (.i2l, 1) := by decide +kernel
theorem dX8_machine_2 : decode cX8_machine 2 = .ok (.lconst 0, 1) := by decide +kernel
theorem dX8_machine_3 : decode cX8_machine 3 = .ok (.ldc2_w 122, 3) := by decide +kernel
theorem dX8_machine_6 : decode cX8_machine 6 = .ok (.invokestatic 124, 3) := by decide +kernel
theorem dX8_machine_9 : decode cX8_machine 9 = .ok (.ifCond .eq 37, 3) := by decide +kernel
theorem dX8_machine_12 : decode cX8_machine 12 = .ok (.iload_n 1, 1) := by decide +kernel
theorem dX8_machine_13 : decode cX8_machine 13 = .ok (.iconst 2, 1) := by decide +kernel
theorem dX8_machine_14 : decode cX8_machine 14 = .ok (.if_icmp .ne 15, 3) := by decide +kernel
theorem dX8_machine_17 : decode cX8_machine 17 = .ok (.iload_n 2, 1) := by decide +kernel
theorem dX8_machine_18 : decode cX8_machine 18 = .ok (.i2l, 1) := by decide +kernel
theorem dX8_machine_19 : decode cX8_machine 19 = .ok (.lconst 0, 1) := by decide +kernel
theorem dX8_machine_20 : decode cX8_machine 20 = .ok (.ldc2_w 128, 3) := by decide +kernel
theorem dX8_machine_23 : decode cX8_machine 23 = .ok (.invokestatic 124, 3) := by decide +kernel
theorem dX8_machine_26 : decode cX8_machine 26 = .ok (.ifCond .eq 20, 3) := by decide +kernel
theorem dX8_machine_29 : decode cX8_machine 29 = .ok (.iload_n 1, 1) := by decide +kernel
theorem dX8_machine_30 : decode cX8_machine 30 = .ok (.iconst 3, 1) := by decide +kernel
theorem dX8_machine_31 : decode cX8_machine 31 = .ok (.if_icmp .ne 18, 3) := by decide +kernel
theorem dX8_machine_34 : decode cX8_machine 34 = .ok (.iload_n 2, 1) := by decide +kernel
theorem dX8_machine_35 : decode cX8_machine 35 = .ok (.i2l, 1) := by decide +kernel
theorem dX8_machine_36 : decode cX8_machine 36 = .ok (.lconst 1, 1) := by decide +kernel
theorem dX8_machine_37 : decode cX8_machine 37 = .ok (.ldc2_w 130, 3) := by decide +kernel
theorem dX8_machine_40 : decode cX8_machine 40 = .ok (.invokestatic 124, 3) := by decide +kernel
theorem dX8_machine_43 : decode cX8_machine 43 = .ok (.ifCond .ne 6, 3) := by decide +kernel
theorem dX8_machine_46 : decode cX8_machine 46 = .ok (.ldc 132, 2) := by decide +kernel
theorem dX8_machine_48 : decode cX8_machine 48 = .ok (.ireturn, 1) := by decide +kernel
theorem dX8_machine_49 : decode cX8_machine 49 = .ok (.aload_n 0, 1) := by decide +kernel
theorem dX8_machine_50 : decode cX8_machine 50 = .ok (.getfield 133, 3) := by decide +kernel
theorem dX8_machine_53 : decode cX8_machine 53 = .ok (.bipush 8, 2) := by decide +kernel
theorem dX8_machine_55 : decode cX8_machine 55 = .ok (.if_icmp .ne 6, 3) := by decide +kernel
theorem dX8_machine_58 : decode cX8_machine 58 = .ok (.ldc 137, 2) := by decide +kernel
theorem dX8_machine_60 : decode cX8_machine 60 = .ok (.ireturn, 1) := by decide +kernel
theorem dX8_machine_61 : decode cX8_machine 61 = .ok (.aload_n 0, 1) := by decide +kernel
theorem dX8_machine_62 : decode cX8_machine 62 = .ok (.getfield 7, 3) := by decide +kernel
theorem dX8_machine_65 : decode cX8_machine 65 = .ok (.aload_n 0, 1) := by decide +kernel
theorem dX8_machine_66 : decode cX8_machine 66 = .ok (.getfield 133, 3) := by decide +kernel
theorem dX8_machine_69 : decode cX8_machine 69 = .ok (.iload_n 1, 1) := by decide +kernel
theorem dX8_machine_70 : decode cX8_machine 70 = .ok (.iastore, 1) := by decide +kernel
theorem dX8_machine_71 : decode cX8_machine 71 = .ok (.aload_n 0, 1) := by decide +kernel
theorem dX8_machine_72 : decode cX8_machine 72 = .ok (.getfield 13, 3) := by decide +kernel
theorem dX8_machine_75 : decode cX8_machine 75 = .ok (.aload_n 0, 1) := by decide +kernel
theorem dX8_machine_76 : decode cX8_machine 76 = .ok (.getfield 133, 3) := by decide +kernel
theorem dX8_machine_79 : decode cX8_machine 79 = .ok (.iload_n 2, 1) := by decide +kernel
theorem dX8_machine_80 : decode cX8_machine 80 = .ok (.iastore, 1) := by decide +kernel
theorem dX8_machine_81 : decode cX8_machine 81 = .ok (.aload_n 0, 1) := by decide +kernel
theorem dX8_machine_82 : decode cX8_machine 82 = .ok (.dup, 1) := by decide +kernel
theorem dX8_machine_83 : decode cX8_machine 83 = .ok (.getfield 133, 3) := by decide +kernel
theorem dX8_machine_86 : decode cX8_machine 86 = .ok (.iconst 1, 1) := by decide +kernel
theorem dX8_machine_87 : decode cX8_machine 87 = .ok (.iadd, 1) := by decide +kernel
theorem dX8_machine_88 : decode cX8_machine 88 = .ok (.putfield 133, 3) := by decide +kernel
theorem dX8_machine_91 : decode cX8_machine 91 = .ok (.aload_n 0, 1) := by decide +kernel
theorem dX8_machine_92 : decode cX8_machine 92 = .ok (.getfield 133, 3) := by decide +kernel
theorem dX8_machine_95 : decode cX8_machine 95 = .ok (.iconst 1, 1) := by decide +kernel
theorem dX8_machine_96 : decode cX8_machine 96 = .ok (.isub, 1) := by decide +kernel
theorem dX8_machine_97 : decode cX8_machine 97 = .ok (.ireturn, 1) := by decide +kernel
theorem dX8_piece_0 : decode cX8_piece 0 = .ok (.iload_n 1, 1) := by decide +kernel
theorem dX8_piece_1 : decode cX8_piece 1 = .ok (.i2l, 1) := by decide +kernel
theorem dX8_piece_2 : decode cX8_piece 2 = .ok (.lconst 0, 1) := by decide +kernel
theorem dX8_piece_3 : decode cX8_piece 3 = .ok (.ldc2_w 138, 3) := by decide +kernel
theorem dX8_piece_6 : decode cX8_piece 6 = .ok (.invokestatic 124, 3) := by decide +kernel
theorem dX8_piece_9 : decode cX8_piece 9 = .ok (.ifCond .ne 6, 3) := by decide +kernel
theorem dX8_piece_12 : decode cX8_piece 12 = .ok (.ldc 132, 2) := by decide +kernel
theorem dX8_piece_14 : decode cX8_piece 14 = .ok (.ireturn, 1) := by decide +kernel
theorem dX8_piece_15 : decode cX8_piece 15 = .ok (.aload_n 0, 1) := by decide +kernel
theorem dX8_piece_16 : decode cX8_piece 16 = .ok (.getfield 140, 3) := by decide +kernel
theorem dX8_piece_19 : decode cX8_piece 19 = .ok (.bipush 12, 2) := by decide +kernel
theorem dX8_piece_21 : decode cX8_piece 21 = .ok (.if_icmp .ne 6, 3) := by decide +kernel
theorem dX8_piece_24 : decode cX8_piece 24 = .ok (.ldc 137, 2) := by decide +kernel
theorem dX8_piece_26 : decode cX8_piece 26 = .ok (.ireturn, 1) := by decide +kernel
theorem dX8_piece_27 : decode cX8_piece 27 = .ok (.aload_n 0, 1) := by decide +kernel
theorem dX8_piece_28 : decode cX8_piece 28 = .ok (.getfield 16, 3) := by decide +kernel
theorem dX8_piece_31 : decode cX8_piece 31 = .ok (.aload_n 0, 1) := by decide +kernel
theorem dX8_piece_32 : decode cX8_piece 32 = .ok (.getfield 140, 3) := by decide +kernel
theorem dX8_piece_35 : decode cX8_piece 35 = .ok (.iload_n 1, 1) := by decide +kernel
theorem dX8_piece_36 : decode cX8_piece 36 = .ok (.iastore, 1) := by decide +kernel
theorem dX8_piece_37 : decode cX8_piece 37 = .ok (.aload_n 0, 1) := by decide +kernel
theorem dX8_piece_38 : decode cX8_piece 38 = .ok (.getfield 19, 3) := by decide +kernel
theorem dX8_piece_41 : decode cX8_piece 41 = .ok (.aload_n 0, 1) := by decide +kernel
theorem dX8_piece_42 : decode cX8_piece 42 = .ok (.getfield 140, 3) := by decide +kernel
theorem dX8_piece_45 : decode cX8_piece 45 = .ok (.iconst 0, 1) := by decide +kernel
theorem dX8_piece_46 : decode cX8_piece 46 = .ok (.iastore, 1) := by decide +kernel
theorem dX8_piece_47 : decode cX8_piece 47 = .ok (.aload_n 0, 1) := by decide +kernel
theorem dX8_piece_48 : decode cX8_piece 48 = .ok (.dup, 1) := by decide +kernel
theorem dX8_piece_49 : decode cX8_piece 49 = .ok (.getfield 140, 3) := by decide +kernel
theorem dX8_piece_52 : decode cX8_piece 52 = .ok (.iconst 1, 1) := by decide +kernel
theorem dX8_piece_53 : decode cX8_piece 53 = .ok (.iadd, 1) := by decide +kernel
theorem dX8_piece_54 : decode cX8_piece 54 = .ok (.putfield 140, 3) := by decide +kernel
theorem dX8_piece_57 : decode cX8_piece 57 = .ok (.aload_n 0, 1) := by decide +kernel
theorem dX8_piece_58 : decode cX8_piece 58 = .ok (.getfield 140, 3) := by decide +kernel
theorem dX8_piece_61 : decode cX8_piece 61 = .ok (.iconst 1, 1) := by decide +kernel
theorem dX8_piece_62 : decode cX8_piece 62 = .ok (.isub, 1) := by decide +kernel
theorem dX8_piece_63 : decode cX8_piece 63 = .ok (.ireturn, 1) := by decide +kernel
theorem dX8_more_0 : decode cX8_more 0 = .ok (.aload_n 0, 1) := by decide +kernel
theorem dX8_more_1 : decode cX8_more 1 = .ok (.getfield 143, 3) := by decide +kernel
theorem dX8_more_4 : decode cX8_more 4 = .ok (.istore 4, 2) := by decide +kernel
theorem dX8_more_6 : decode cX8_more 6 = .ok (.aload_n 0, 1) := by decide +kernel
theorem dX8_more_7 : decode cX8_more 7 = .ok (.getfield 25, 3) := by decide +kernel
theorem dX8_more_10 : decode cX8_more 10 = .ok (.iload 4, 2) := by decide +kernel
theorem dX8_more_12 : decode cX8_more 12 = .ok (.iload_n 1, 1) := by decide +kernel
theorem dX8_more_13 : decode cX8_more 13 = .ok (.iastore, 1) := by decide +kernel
theorem dX8_more_14 : decode cX8_more 14 = .ok (.aload_n 0, 1) := by decide +kernel
theorem dX8_more_15 : decode cX8_more 15 = .ok (.getfield 28, 3) := by decide +kernel
theorem dX8_more_18 : decode cX8_more 18 = .ok (.iload 4, 2) := by decide +kernel
theorem dX8_more_20 : decode cX8_more 20 = .ok (.iload_n 2, 1) := by decide +kernel
theorem dX8_more_21 : decode cX8_more 21 = .ok (.iastore, 1) := by decide +kernel
theorem dX8_more_22 : decode cX8_more 22 = .ok (.aload_n 0, 1) := by decide +kernel
theorem dX8_more_23 : decode cX8_more 23 = .ok (.getfield 31, 3) := by decide +kernel
theorem dX8_more_26 : decode cX8_more 26 = .ok (.iload 4, 2) := by decide +kernel
theorem dX8_more_28 : decode cX8_more 28 = .ok (.iload_n 3, 1) := by decide +kernel
theorem dX8_more_29 : decode cX8_more 29 = .ok (.iastore, 1) := by decide +kernel
theorem dX8_more_30 : decode cX8_more 30 = .ok (.aload_n 0, 1) := by decide +kernel
theorem dX8_more_31 : decode cX8_more 31 = .ok (.getfield 34, 3) := by decide +kernel
theorem dX8_more_34 : decode cX8_more 34 = .ok (.iload 4, 2) := by decide +kernel
theorem dX8_more_36 : decode cX8_more 36 = .ok (.aload_n 0, 1) := by decide +kernel
theorem dX8_more_37 : decode cX8_more 37 = .ok (.getfield 19, 3) := by decide +kernel
theorem dX8_more_40 : decode cX8_more 40 = .ok (.iload_n 1, 1) := by decide +kernel
theorem dX8_more_41 : decode cX8_more 41 = .ok (.iaload, 1) := by decide +kernel
theorem dX8_more_42 : decode cX8_more 42 = .ok (.iastore, 1) := by decide +kernel
theorem dX8_more_43 : decode cX8_more 43 = .ok (.aload_n 0, 1) := by decide +kernel
theorem dX8_more_44 : decode cX8_more 44 = .ok (.getfield 22, 3) := by decide +kernel
theorem dX8_more_47 : decode cX8_more 47 = .ok (.bipush 8, 2) := by decide +kernel
theorem dX8_more_49 : decode cX8_more 49 = .ok (.iload_n 1, 1) := by decide +kernel
theorem dX8_more_50 : decode cX8_more 50 = .ok (.imul, 1) := by decide +kernel
theorem dX8_more_51 : decode cX8_more 51 = .ok (.aload_n 0, 1) := by decide +kernel
theorem dX8_more_52 : decode cX8_more 52 = .ok (.getfield 19, 3) := by decide +kernel
theorem dX8_more_55 : decode cX8_more 55 = .ok (.iload_n 1, 1) := by decide +kernel
theorem dX8_more_56 : decode cX8_more 56 = .ok (.iaload, 1) := by decide +kernel
theorem dX8_more_57 : decode cX8_more 57 = .ok (.iadd, 1) := by decide +kernel
theorem dX8_more_58 : decode cX8_more 58 = .ok (.iload 4, 2) := by decide +kernel
theorem dX8_more_60 : decode cX8_more 60 = .ok (.iastore, 1) := by decide +kernel
theorem dX8_more_61 : decode cX8_more 61 = .ok (.aload_n 0, 1) := by decide +kernel
theorem dX8_more_62 : decode cX8_more 62 = .ok (.getfield 19, 3) := by decide +kernel
theorem dX8_more_65 : decode cX8_more 65 = .ok (.iload_n 1, 1) := by decide +kernel
theorem dX8_more_66 : decode cX8_more 66 = .ok (.dup2, 1) := by decide +kernel
theorem dX8_more_67 : decode cX8_more 67 = .ok (.iaload, 1) := by decide +kernel
theorem dX8_more_68 : decode cX8_more 68 = .ok (.iconst 1, 1) := by decide +kernel
theorem dX8_more_69 : decode cX8_more 69 = .ok (.iadd, 1) := by decide +kernel
theorem dX8_more_70 : decode cX8_more 70 = .ok (.iastore, 1) := by decide +kernel
theorem dX8_more_71 : decode cX8_more 71 = .ok (.aload_n 0, 1) := by decide +kernel
theorem dX8_more_72 : decode cX8_more 72 = .ok (.getfield 37, 3) := by decide +kernel
theorem dX8_more_75 : decode cX8_more 75 = .ok (.bipush 32, 2) := by decide +kernel
theorem dX8_more_77 : decode cX8_more 77 = .ok (.iload_n 2, 1) := by decide +kernel
theorem dX8_more_78 : decode cX8_more 78 = .ok (.imul, 1) := by decide +kernel
theorem dX8_more_79 : decode cX8_more 79 = .ok (.aload_n 0, 1) := by decide +kernel
theorem dX8_more_80 : decode cX8_more 80 = .ok (.getfield 40, 3) := by decide +kernel
theorem dX8_more_83 : decode cX8_more 83 = .ok (.iload_n 2, 1) := by decide +kernel
theorem dX8_more_84 : decode cX8_more 84 = .ok (.iaload, 1) := by decide +kernel
theorem dX8_more_85 : decode cX8_more 85 = .ok (.iadd, 1) := by decide +kernel
theorem dX8_more_86 : decode cX8_more 86 = .ok (.iload 4, 2) := by decide +kernel
theorem dX8_more_88 : decode cX8_more 88 = .ok (.iastore, 1) := by decide +kernel
theorem dX8_more_89 : decode cX8_more 89 = .ok (.aload_n 0, 1) := by decide +kernel
theorem dX8_more_90 : decode cX8_more 90 = .ok (.getfield 40, 3) := by decide +kernel
theorem dX8_more_93 : decode cX8_more 93 = .ok (.iload_n 2, 1) := by decide +kernel
theorem dX8_more_94 : decode cX8_more 94 = .ok (.dup2, 1) := by decide +kernel
theorem dX8_more_95 : decode cX8_more 95 = .ok (.iaload, 1) := by decide +kernel
theorem dX8_more_96 : decode cX8_more 96 = .ok (.iconst 1, 1) := by decide +kernel
theorem dX8_more_97 : decode cX8_more 97 = .ok (.iadd, 1) := by decide +kernel
theorem dX8_more_98 : decode cX8_more 98 = .ok (.iastore, 1) := by decide +kernel
theorem dX8_more_99 : decode cX8_more 99 = .ok (.aload_n 0, 1) := by decide +kernel
theorem dX8_more_100 : decode cX8_more 100 = .ok (.dup, 1) := by decide +kernel
theorem dX8_more_101 : decode cX8_more 101 = .ok (.getfield 143, 3) := by decide +kernel
theorem dX8_more_104 : decode cX8_more 104 = .ok (.iconst 1, 1) := by decide +kernel
theorem dX8_more_105 : decode cX8_more 105 = .ok (.iadd, 1) := by decide +kernel
theorem dX8_more_106 : decode cX8_more 106 = .ok (.putfield 143, 3) := by decide +kernel
theorem dX8_more_109 : decode cX8_more 109 = .ok (.iload 4, 2) := by decide +kernel
theorem dX8_more_111 : decode cX8_more 111 = .ok (.ireturn, 1) := by decide +kernel
theorem dX8_step_0 : decode cX8_step 0 = .ok (.iload_n 1, 1) := by decide +kernel
theorem dX8_step_1 : decode cX8_step 1 = .ok (.i2l, 1) := by decide +kernel
theorem dX8_step_2 : decode cX8_step 2 = .ok (.lconst 0, 1) := by decide +kernel
theorem dX8_step_3 : decode cX8_step 3 = .ok (.aload_n 0, 1) := by decide +kernel
theorem dX8_step_4 : decode cX8_step 4 = .ok (.getfield 140, 3) := by decide +kernel
theorem dX8_step_7 : decode cX8_step 7 = .ok (.iconst 1, 1) := by decide +kernel
theorem dX8_step_8 : decode cX8_step 8 = .ok (.isub, 1) := by decide +kernel
theorem dX8_step_9 : decode cX8_step 9 = .ok (.i2l, 1) := by decide +kernel
theorem dX8_step_10 : decode cX8_step 10 = .ok (.invokestatic 124, 3) := by decide +kernel
theorem dX8_step_13 : decode cX8_step 13 = .ok (.ifCond .eq 19, 3) := by decide +kernel
theorem dX8_step_16 : decode cX8_step 16 = .ok (.iload_n 2, 1) := by decide +kernel
theorem dX8_step_17 : decode cX8_step 17 = .ok (.i2l, 1) := by decide +kernel
theorem dX8_step_18 : decode cX8_step 18 = .ok (.lconst 0, 1) := by decide +kernel
theorem dX8_step_19 : decode cX8_step 19 = .ok (.aload_n 0, 1) := by decide +kernel
theorem dX8_step_20 : decode cX8_step 20 = .ok (.getfield 133, 3) := by decide +kernel
theorem dX8_step_23 : decode cX8_step 23 = .ok (.iconst 1, 1) := by decide +kernel
theorem dX8_step_24 : decode cX8_step 24 = .ok (.isub, 1) := by decide +kernel
theorem dX8_step_25 : decode cX8_step 25 = .ok (.i2l, 1) := by decide +kernel
theorem dX8_step_26 : decode cX8_step 26 = .ok (.invokestatic 124, 3) := by decide +kernel
theorem dX8_step_29 : decode cX8_step 29 = .ok (.ifCond .ne 6, 3) := by decide +kernel
theorem dX8_step_32 : decode cX8_step 32 = .ok (.ldc 146, 2) := by decide +kernel
theorem dX8_step_34 : decode cX8_step 34 = .ok (.ireturn, 1) := by decide +kernel
theorem dX8_step_35 : decode cX8_step 35 = .ok (.iload_n 3, 1) := by decide +kernel
theorem dX8_step_36 : decode cX8_step 36 = .ok (.i2l, 1) := by decide +kernel
theorem dX8_step_37 : decode cX8_step 37 = .ok (.lconst 1, 1) := by decide +kernel
theorem dX8_step_38 : decode cX8_step 38 = .ok (.ldc2_w 147, 3) := by decide +kernel
theorem dX8_step_41 : decode cX8_step 41 = .ok (.invokestatic 124, 3) := by decide +kernel
theorem dX8_step_44 : decode cX8_step 44 = .ok (.ifCond .ne 6, 3) := by decide +kernel
theorem dX8_step_47 : decode cX8_step 47 = .ok (.ldc 132, 2) := by decide +kernel
theorem dX8_step_49 : decode cX8_step 49 = .ok (.ireturn, 1) := by decide +kernel
theorem dX8_step_50 : decode cX8_step 50 = .ok (.aload_n 0, 1) := by decide +kernel
theorem dX8_step_51 : decode cX8_step 51 = .ok (.getfield 19, 3) := by decide +kernel
theorem dX8_step_54 : decode cX8_step 54 = .ok (.iload_n 1, 1) := by decide +kernel
theorem dX8_step_55 : decode cX8_step 55 = .ok (.iaload, 1) := by decide +kernel
theorem dX8_step_56 : decode cX8_step 56 = .ok (.bipush 8, 2) := by decide +kernel
theorem dX8_step_58 : decode cX8_step 58 = .ok (.if_icmp .eq 12, 3) := by decide +kernel
theorem dX8_step_61 : decode cX8_step 61 = .ok (.aload_n 0, 1) := by decide +kernel
theorem dX8_step_62 : decode cX8_step 62 = .ok (.getfield 143, 3) := by decide +kernel
theorem dX8_step_65 : decode cX8_step 65 = .ok (.bipush 32, 2) := by decide +kernel
theorem dX8_step_67 : decode cX8_step 67 = .ok (.if_icmp .ne 8, 3) := by decide +kernel
theorem dX8_step_70 : decode cX8_step 70 = .ok (.ldc 137, 2) := by decide +kernel
theorem dX8_step_72 : decode cX8_step 72 = .ok (.goto 10, 3) := by decide +kernel
theorem dX8_step_75 : decode cX8_step 75 = .ok (.aload_n 0, 1) := by decide +kernel
theorem dX8_step_76 : decode cX8_step 76 = .ok (.iload_n 1, 1) := by decide +kernel
theorem dX8_step_77 : decode cX8_step 77 = .ok (.iload_n 2, 1) := by decide +kernel
theorem dX8_step_78 : decode cX8_step 78 = .ok (.iload_n 3, 1) := by decide +kernel
theorem dX8_step_79 : decode cX8_step 79 = .ok (.invokevirtual 149, 3) := by decide +kernel
theorem dX8_step_82 : decode cX8_step 82 = .ok (.ireturn, 1) := by decide +kernel
theorem dX8_isStep_0 : decode cX8_isStep 0 = .ok (.iload_n 1, 1) := by decide +kernel
theorem dX8_isStep_1 : decode cX8_isStep 1 = .ok (.i2l, 1) := by decide +kernel
theorem dX8_isStep_2 : decode cX8_isStep 2 = .ok (.lconst 0, 1) := by decide +kernel
theorem dX8_isStep_3 : decode cX8_isStep 3 = .ok (.aload_n 0, 1) := by decide +kernel
theorem dX8_isStep_4 : decode cX8_isStep 4 = .ok (.getfield 143, 3) := by decide +kernel
theorem dX8_isStep_7 : decode cX8_isStep 7 = .ok (.iconst 1, 1) := by decide +kernel
theorem dX8_isStep_8 : decode cX8_isStep 8 = .ok (.isub, 1) := by decide +kernel
theorem dX8_isStep_9 : decode cX8_isStep 9 = .ok (.i2l, 1) := by decide +kernel
theorem dX8_isStep_10 : decode cX8_isStep 10 = .ok (.invokestatic 124, 3) := by decide +kernel
theorem dX8_isStep_13 : decode cX8_isStep 13 = .ok (.ireturn, 1) := by decide +kernel
theorem dX8_placeOf_0 : decode cX8_placeOf 0 = .ok (.aload_n 0, 1) := by decide +kernel
theorem dX8_placeOf_1 : decode cX8_placeOf 1 = .ok (.getfield 28, 3) := by decide +kernel
theorem dX8_placeOf_4 : decode cX8_placeOf 4 = .ok (.iload_n 1, 1) := by decide +kernel
theorem dX8_placeOf_5 : decode cX8_placeOf 5 = .ok (.iaload, 1) := by decide +kernel
theorem dX8_placeOf_6 : decode cX8_placeOf 6 = .ok (.istore_n 2, 1) := by decide +kernel
theorem dX8_placeOf_7 : decode cX8_placeOf 7 = .ok (.iconst 0, 1) := by decide +kernel
theorem dX8_placeOf_8 : decode cX8_placeOf 8 = .ok (.istore_n 3, 1) := by decide +kernel
theorem dX8_placeOf_9 : decode cX8_placeOf 9 = .ok (.aload_n 0, 1) := by decide +kernel
theorem dX8_placeOf_10 : decode cX8_placeOf 10 = .ok (.getfield 37, 3) := by decide +kernel
theorem dX8_placeOf_13 : decode cX8_placeOf 13 = .ok (.bipush 32, 2) := by decide +kernel
theorem dX8_placeOf_15 : decode cX8_placeOf 15 = .ok (.iload_n 2, 1) := by decide +kernel
theorem dX8_placeOf_16 : decode cX8_placeOf 16 = .ok (.imul, 1) := by decide +kernel
theorem dX8_placeOf_17 : decode cX8_placeOf 17 = .ok (.iload_n 3, 1) := by decide +kernel
theorem dX8_placeOf_18 : decode cX8_placeOf 18 = .ok (.iadd, 1) := by decide +kernel
theorem dX8_placeOf_19 : decode cX8_placeOf 19 = .ok (.iaload, 1) := by decide +kernel
theorem dX8_placeOf_20 : decode cX8_placeOf 20 = .ok (.iload_n 1, 1) := by decide +kernel
theorem dX8_placeOf_21 : decode cX8_placeOf 21 = .ok (.if_icmp .eq 9, 3) := by decide +kernel
theorem dX8_placeOf_24 : decode cX8_placeOf 24 = .ok (.iinc 3 1, 3) := by decide +kernel
theorem dX8_placeOf_27 : decode cX8_placeOf 27 = .ok (.goto (-18), 3) := by decide +kernel
theorem dX8_placeOf_30 : decode cX8_placeOf 30 = .ok (.iload_n 3, 1) := by decide +kernel
theorem dX8_placeOf_31 : decode cX8_placeOf 31 = .ok (.ireturn, 1) := by decide +kernel
theorem dX8_told_0 : decode cX8_told 0 = .ok (.aload_n 0, 1) := by decide +kernel
theorem dX8_told_1 : decode cX8_told 1 = .ok (.iload_n 1, 1) := by decide +kernel
theorem dX8_told_2 : decode cX8_told 2 = .ok (.invokevirtual 153, 3) := by decide +kernel
theorem dX8_told_5 : decode cX8_told 5 = .ok (.ifCond .ne 6, 3) := by decide +kernel
theorem dX8_told_8 : decode cX8_told 8 = .ok (.ldc 146, 2) := by decide +kernel
theorem dX8_told_10 : decode cX8_told 10 = .ok (.ireturn, 1) := by decide +kernel
theorem dX8_told_11 : decode cX8_told 11 = .ok (.iload_n 2, 1) := by decide +kernel
theorem dX8_told_12 : decode cX8_told 12 = .ok (.tableswitch 70 0 4 #[36, 43, 50, 57, 64], 36) := by decide +kernel
theorem dX8_told_48 : decode cX8_told 48 = .ok (.aload_n 0, 1) := by decide +kernel
theorem dX8_told_49 : decode cX8_told 49 = .ok (.getfield 25, 3) := by decide +kernel
theorem dX8_told_52 : decode cX8_told 52 = .ok (.iload_n 1, 1) := by decide +kernel
theorem dX8_told_53 : decode cX8_told 53 = .ok (.iaload, 1) := by decide +kernel
theorem dX8_told_54 : decode cX8_told 54 = .ok (.ireturn, 1) := by decide +kernel
theorem dX8_told_55 : decode cX8_told 55 = .ok (.aload_n 0, 1) := by decide +kernel
theorem dX8_told_56 : decode cX8_told 56 = .ok (.getfield 28, 3) := by decide +kernel
theorem dX8_told_59 : decode cX8_told 59 = .ok (.iload_n 1, 1) := by decide +kernel
theorem dX8_told_60 : decode cX8_told 60 = .ok (.iaload, 1) := by decide +kernel
theorem dX8_told_61 : decode cX8_told 61 = .ok (.ireturn, 1) := by decide +kernel
theorem dX8_told_62 : decode cX8_told 62 = .ok (.aload_n 0, 1) := by decide +kernel
theorem dX8_told_63 : decode cX8_told 63 = .ok (.getfield 31, 3) := by decide +kernel
theorem dX8_told_66 : decode cX8_told 66 = .ok (.iload_n 1, 1) := by decide +kernel
theorem dX8_told_67 : decode cX8_told 67 = .ok (.iaload, 1) := by decide +kernel
theorem dX8_told_68 : decode cX8_told 68 = .ok (.ireturn, 1) := by decide +kernel
theorem dX8_told_69 : decode cX8_told 69 = .ok (.aload_n 0, 1) := by decide +kernel
theorem dX8_told_70 : decode cX8_told 70 = .ok (.getfield 34, 3) := by decide +kernel
theorem dX8_told_73 : decode cX8_told 73 = .ok (.iload_n 1, 1) := by decide +kernel
theorem dX8_told_74 : decode cX8_told 74 = .ok (.iaload, 1) := by decide +kernel
theorem dX8_told_75 : decode cX8_told 75 = .ok (.ireturn, 1) := by decide +kernel
theorem dX8_told_76 : decode cX8_told 76 = .ok (.aload_n 0, 1) := by decide +kernel
theorem dX8_told_77 : decode cX8_told 77 = .ok (.iload_n 1, 1) := by decide +kernel
theorem dX8_told_78 : decode cX8_told 78 = .ok (.invokevirtual 157, 3) := by decide +kernel
theorem dX8_told_81 : decode cX8_told 81 = .ok (.ireturn, 1) := by decide +kernel
theorem dX8_told_82 : decode cX8_told 82 = .ok (.ldc 132, 2) := by decide +kernel
theorem dX8_told_84 : decode cX8_told 84 = .ok (.ireturn, 1) := by decide +kernel
theorem dX8_isSimple_0 : decode cX8_isSimple 0 = .ok (.iconst 1, 1) := by decide +kernel
theorem dX8_isSimple_1 : decode cX8_isSimple 1 = .ok (.istore_n 1, 1) := by decide +kernel
theorem dX8_isSimple_2 : decode cX8_isSimple 2 = .ok (.iconst 0, 1) := by decide +kernel
theorem dX8_isSimple_3 : decode cX8_isSimple 3 = .ok (.istore_n 2, 1) := by decide +kernel
theorem dX8_isSimple_4 : decode cX8_isSimple 4 = .ok (.iload_n 2, 1) := by decide +kernel
theorem dX8_isSimple_5 : decode cX8_isSimple 5 = .ok (.aload_n 0, 1) := by decide +kernel
theorem dX8_isSimple_6 : decode cX8_isSimple 6 = .ok (.getfield 143, 3) := by decide +kernel
theorem dX8_isSimple_9 : decode cX8_isSimple 9 = .ok (.if_icmp .ge 34, 3) := by decide +kernel
theorem dX8_isSimple_12 : decode cX8_isSimple 12 = .ok (.iload_n 1, 1) := by decide +kernel
theorem dX8_isSimple_13 : decode cX8_isSimple 13 = .ok (.ifCond .eq 22, 3) := by decide +kernel
theorem dX8_isSimple_16 : decode cX8_isSimple 16 = .ok (.aload_n 0, 1) := by decide +kernel
theorem dX8_isSimple_17 : decode cX8_isSimple 17 = .ok (.getfield 7, 3) := by decide +kernel
theorem dX8_isSimple_20 : decode cX8_isSimple 20 = .ok (.aload_n 0, 1) := by decide +kernel
theorem dX8_isSimple_21 : decode cX8_isSimple 21 = .ok (.getfield 28, 3) := by decide +kernel
theorem dX8_isSimple_24 : decode cX8_isSimple 24 = .ok (.iload_n 2, 1) := by decide +kernel
theorem dX8_isSimple_25 : decode cX8_isSimple 25 = .ok (.iaload, 1) := by decide +kernel
theorem dX8_isSimple_26 : decode cX8_isSimple 26 = .ok (.iaload, 1) := by decide +kernel
theorem dX8_isSimple_27 : decode cX8_isSimple 27 = .ok (.iconst 1, 1) := by decide +kernel
theorem dX8_isSimple_28 : decode cX8_isSimple 28 = .ok (.if_icmp .gt 7, 3) := by decide +kernel
theorem dX8_isSimple_31 : decode cX8_isSimple 31 = .ok (.iconst 1, 1) := by decide +kernel
theorem dX8_isSimple_32 : decode cX8_isSimple 32 = .ok (.goto 4, 3) := by decide +kernel
theorem dX8_isSimple_35 : decode cX8_isSimple 35 = .ok (.iconst 0, 1) := by decide +kernel
theorem dX8_isSimple_36 : decode cX8_isSimple 36 = .ok (.istore_n 1, 1) := by decide +kernel
theorem dX8_isSimple_37 : decode cX8_isSimple 37 = .ok (.iinc 2 1, 3) := by decide +kernel
theorem dX8_isSimple_40 : decode cX8_isSimple 40 = .ok (.goto (-36), 3) := by decide +kernel
theorem dX8_isSimple_43 : decode cX8_isSimple 43 = .ok (.iload_n 1, 1) := by decide +kernel
theorem dX8_isSimple_44 : decode cX8_isSimple 44 = .ok (.ireturn, 1) := by decide +kernel
theorem dX8_sumOfSpans_0 : decode cX8_sumOfSpans 0 = .ok (.iconst 0, 1) := by decide +kernel
theorem dX8_sumOfSpans_1 : decode cX8_sumOfSpans 1 = .ok (.istore_n 1, 1) := by decide +kernel
