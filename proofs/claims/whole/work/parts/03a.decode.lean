theorem dX0_init_0 : decode cX0_init 0 = .ok (.aload_n 0, 1) := by decide +kernel
theorem dX0_init_1 : decode cX0_init 1 = .ok (.invokespecial 3, 3) := by decide +kernel
theorem dX0_init_4 : decode cX0_init 4 = .ok (.aload_n 0, 1) := by decide +kernel
theorem dX0_init_5 : decode cX0_init 5 = .ok (.bipush 32, 2) := by decide +kernel
theorem dX0_init_7 : decode cX0_init 7 = .ok (.newarray .int, 2) := by decide +kernel
theorem dX0_init_9 : decode cX0_init 9 = .ok (.putfield 9, 3) := by decide +kernel
theorem dX0_init_12 : decode cX0_init 12 = .ok (.aload_n 0, 1) := by decide +kernel
theorem dX0_init_13 : decode cX0_init 13 = .ok (.bipush 32, 2) := by decide +kernel
theorem dX0_init_15 : decode cX0_init 15 = .ok (.newarray .int, 2) := by decide +kernel
theorem dX0_init_17 : decode cX0_init 17 = .ok (.putfield 15, 3) := by decide +kernel
theorem dX0_init_20 : decode cX0_init 20 = .ok (.aload_n 0, 1) := by decide +kernel
theorem dX0_init_21 : decode cX0_init 21 = .ok (.bipush 32, 2) := by decide +kernel
theorem dX0_init_23 : decode cX0_init 23 = .ok (.newarray .int, 2) := by decide +kernel
theorem dX0_init_25 : decode cX0_init 25 = .ok (.putfield 18, 3) := by decide +kernel
theorem dX0_init_28 : decode cX0_init 28 = .ok (.aload_n 0, 1) := by decide +kernel
theorem dX0_init_29 : decode cX0_init 29 = .ok (.bipush 32, 2) := by decide +kernel
theorem dX0_init_31 : decode cX0_init 31 = .ok (.newarray .int, 2) := by decide +kernel
theorem dX0_init_33 : decode cX0_init 33 = .ok (.putfield 21, 3) := by decide +kernel
theorem dX0_init_36 : decode cX0_init 36 = .ok (.return_, 1) := by decide +kernel
theorem dX0_takeJobs_0 : decode cX0_takeJobs 0 = .ok (.aload_n 0, 1) := by decide +kernel
theorem dX0_takeJobs_1 : decode cX0_takeJobs 1 = .ok (.aload_n 1, 1) := by decide +kernel
theorem dX0_takeJobs_2 : decode cX0_takeJobs 2 = .ok (.getfield 24, 3) := by decide +kernel
theorem dX0_takeJobs_5 : decode cX0_takeJobs 5 = .ok (.iload_n 2, 1) := by decide +kernel
theorem dX0_takeJobs_6 : decode cX0_takeJobs 6 = .ok (.iaload, 1) := by decide +kernel
theorem dX0_takeJobs_7 : decode cX0_takeJobs 7 = .ok (.putfield 29, 3) := by decide +kernel
theorem dX0_takeJobs_10 : decode cX0_takeJobs 10 = .ok (.iconst 0, 1) := by decide +kernel
theorem dX0_takeJobs_11 : decode cX0_takeJobs 11 = .ok (.istore_n 3, 1) := by decide +kernel
theorem dX0_takeJobs_12 : decode cX0_takeJobs 12 = .ok (.iload_n 3, 1) := by decide +kernel
theorem dX0_takeJobs_13 : decode cX0_takeJobs 13 = .ok (.aload_n 0, 1) := by decide +kernel
theorem dX0_takeJobs_14 : decode cX0_takeJobs 14 = .ok (.getfield 29, 3) := by decide +kernel
theorem dX0_takeJobs_17 : decode cX0_takeJobs 17 = .ok (.if_icmp .ge 56, 3) := by decide +kernel
theorem dX0_takeJobs_20 : decode cX0_takeJobs 20 = .ok (.aload_n 1, 1) := by decide +kernel
theorem dX0_takeJobs_21 : decode cX0_takeJobs 21 = .ok (.getfield 33, 3) := by decide +kernel
theorem dX0_takeJobs_24 : decode cX0_takeJobs 24 = .ok (.iload_n 2, 1) := by decide +kernel
theorem dX0_takeJobs_25 : decode cX0_takeJobs 25 = .ok (.aaload, 1) := by decide +kernel
theorem dX0_takeJobs_26 : decode cX0_takeJobs 26 = .ok (.iload_n 3, 1) := by decide +kernel
theorem dX0_takeJobs_27 : decode cX0_takeJobs 27 = .ok (.iaload, 1) := by decide +kernel
theorem dX0_takeJobs_28 : decode cX0_takeJobs 28 = .ok (.istore 4, 2) := by decide +kernel
theorem dX0_takeJobs_30 : decode cX0_takeJobs 30 = .ok (.aload_n 0, 1) := by decide +kernel
theorem dX0_takeJobs_31 : decode cX0_takeJobs 31 = .ok (.getfield 9, 3) := by decide +kernel
theorem dX0_takeJobs_34 : decode cX0_takeJobs 34 = .ok (.iload_n 3, 1) := by decide +kernel
theorem dX0_takeJobs_35 : decode cX0_takeJobs 35 = .ok (.aload_n 1, 1) := by decide +kernel
theorem dX0_takeJobs_36 : decode cX0_takeJobs 36 = .ok (.iload 4, 2) := by decide +kernel
theorem dX0_takeJobs_38 : decode cX0_takeJobs 38 = .ok (.invokevirtual 37, 3) := by decide +kernel
theorem dX0_takeJobs_41 : decode cX0_takeJobs 41 = .ok (.iastore, 1) := by decide +kernel
theorem dX0_takeJobs_42 : decode cX0_takeJobs 42 = .ok (.aload_n 0, 1) := by decide +kernel
theorem dX0_takeJobs_43 : decode cX0_takeJobs 43 = .ok (.getfield 15, 3) := by decide +kernel
theorem dX0_takeJobs_46 : decode cX0_takeJobs 46 = .ok (.iload_n 3, 1) := by decide +kernel
theorem dX0_takeJobs_47 : decode cX0_takeJobs 47 = .ok (.aload_n 1, 1) := by decide +kernel
theorem dX0_takeJobs_48 : decode cX0_takeJobs 48 = .ok (.iload 4, 2) := by decide +kernel
theorem dX0_takeJobs_50 : decode cX0_takeJobs 50 = .ok (.invokevirtual 41, 3) := by decide +kernel
theorem dX0_takeJobs_53 : decode cX0_takeJobs 53 = .ok (.iastore, 1) := by decide +kernel
theorem dX0_takeJobs_54 : decode cX0_takeJobs 54 = .ok (.aload_n 0, 1) := by decide +kernel
theorem dX0_takeJobs_55 : decode cX0_takeJobs 55 = .ok (.getfield 18, 3) := by decide +kernel
theorem dX0_takeJobs_58 : decode cX0_takeJobs 58 = .ok (.iload_n 3, 1) := by decide +kernel
theorem dX0_takeJobs_59 : decode cX0_takeJobs 59 = .ok (.aload_n 1, 1) := by decide +kernel
theorem dX0_takeJobs_60 : decode cX0_takeJobs 60 = .ok (.getfield 44, 3) := by decide +kernel
theorem dX0_takeJobs_63 : decode cX0_takeJobs 63 = .ok (.iload 4, 2) := by decide +kernel
theorem dX0_takeJobs_65 : decode cX0_takeJobs 65 = .ok (.iaload, 1) := by decide +kernel
theorem dX0_takeJobs_66 : decode cX0_takeJobs 66 = .ok (.iastore, 1) := by decide +kernel
theorem dX0_takeJobs_67 : decode cX0_takeJobs 67 = .ok (.iinc 3 1, 3) := by decide +kernel
theorem dX0_takeJobs_70 : decode cX0_takeJobs 70 = .ok (.goto (-58), 3) := by decide +kernel
theorem dX0_takeJobs_73 : decode cX0_takeJobs 73 = .ok (.return_, 1) := by decide +kernel
theorem dX0_cutBound_0 : decode cX0_cutBound 0 = .ok (.aload_n 0, 1) := by decide +kernel
theorem dX0_cutBound_1 : decode cX0_cutBound 1 = .ok (.getfield 18, 3) := by decide +kernel
theorem dX0_cutBound_4 : decode cX0_cutBound 4 = .ok (.iconst 0, 1) := by decide +kernel
theorem dX0_cutBound_5 : decode cX0_cutBound 5 = .ok (.aload_n 0, 1) := by decide +kernel
theorem dX0_cutBound_6 : decode cX0_cutBound 6 = .ok (.getfield 21, 3) := by decide +kernel
theorem dX0_cutBound_9 : decode cX0_cutBound 9 = .ok (.iconst 0, 1) := by decide +kernel
theorem dX0_cutBound_10 : decode cX0_cutBound 10 = .ok (.bipush 32, 2) := by decide +kernel
theorem dX0_cutBound_12 : decode cX0_cutBound 12 = .ok (.invokestatic 45, 3) := by decide +kernel
theorem dX0_cutBound_15 : decode cX0_cutBound 15 = .ok (.iconst 0, 1) := by decide +kernel
theorem dX0_cutBound_16 : decode cX0_cutBound 16 = .ok (.istore_n 1, 1) := by decide +kernel
theorem dX0_cutBound_17 : decode cX0_cutBound 17 = .ok (.iconst 0, 1) := by decide +kernel
theorem dX0_cutBound_18 : decode cX0_cutBound 18 = .ok (.istore_n 2, 1) := by decide +kernel
theorem dX0_cutBound_19 : decode cX0_cutBound 19 = .ok (.iconst 0, 1) := by decide +kernel
theorem dX0_cutBound_20 : decode cX0_cutBound 20 = .ok (.istore_n 3, 1) := by decide +kernel
theorem dX0_cutBound_21 : decode cX0_cutBound 21 = .ok (.iload_n 3, 1) := by decide +kernel
theorem dX0_cutBound_22 : decode cX0_cutBound 22 = .ok (.iconst 2, 1) := by decide +kernel
theorem dX0_cutBound_23 : decode cX0_cutBound 23 = .ok (.aload_n 0, 1) := by decide +kernel
theorem dX0_cutBound_24 : decode cX0_cutBound 24 = .ok (.getfield 29, 3) := by decide +kernel
theorem dX0_cutBound_27 : decode cX0_cutBound 27 = .ok (.imul, 1) := by decide +kernel
theorem dX0_cutBound_28 : decode cX0_cutBound 28 = .ok (.if_icmp .ge 125, 3) := by decide +kernel
theorem dX0_cutBound_31 : decode cX0_cutBound 31 = .ok (.aload_n 0, 1) := by decide +kernel
theorem dX0_cutBound_32 : decode cX0_cutBound 32 = .ok (.iload_n 1, 1) := by decide +kernel
theorem dX0_cutBound_33 : decode cX0_cutBound 33 = .ok (.invokevirtual 51, 3) := by decide +kernel
theorem dX0_cutBound_36 : decode cX0_cutBound 36 = .ok (.istore 4, 2) := by decide +kernel
theorem dX0_cutBound_38 : decode cX0_cutBound 38 = .ok (.aload_n 0, 1) := by decide +kernel
theorem dX0_cutBound_39 : decode cX0_cutBound 39 = .ok (.iload_n 1, 1) := by decide +kernel
theorem dX0_cutBound_40 : decode cX0_cutBound 40 = .ok (.invokevirtual 54, 3) := by decide +kernel
theorem dX0_cutBound_43 : decode cX0_cutBound 43 = .ok (.istore 5, 2) := by decide +kernel
theorem dX0_cutBound_45 : decode cX0_cutBound 45 = .ok (.iload 4, 2) := by decide +kernel
theorem dX0_cutBound_47 : decode cX0_cutBound 47 = .ok (.iconst (-1), 1) := by decide +kernel
theorem dX0_cutBound_48 : decode cX0_cutBound 48 = .ok (.if_icmp .ne 8, 3) := by decide +kernel
theorem dX0_cutBound_51 : decode cX0_cutBound 51 = .ok (.iload 5, 2) := by decide +kernel
theorem dX0_cutBound_53 : decode cX0_cutBound 53 = .ok (.goto 12, 3) := by decide +kernel
theorem dX0_cutBound_56 : decode cX0_cutBound 56 = .ok (.iload_n 1, 1) := by decide +kernel
theorem dX0_cutBound_57 : decode cX0_cutBound 57 = .ok (.aload_n 0, 1) := by decide +kernel
theorem dX0_cutBound_58 : decode cX0_cutBound 58 = .ok (.getfield 21, 3) := by decide +kernel
theorem dX0_cutBound_61 : decode cX0_cutBound 61 = .ok (.iload 4, 2) := by decide +kernel
theorem dX0_cutBound_63 : decode cX0_cutBound 63 = .ok (.iaload, 1) := by decide +kernel
theorem dX0_cutBound_64 : decode cX0_cutBound 64 = .ok (.iadd, 1) := by decide +kernel
theorem dX0_cutBound_65 : decode cX0_cutBound 65 = .ok (.istore 6, 2) := by decide +kernel
theorem dX0_cutBound_67 : decode cX0_cutBound 67 = .ok (.iload 5, 2) := by decide +kernel
theorem dX0_cutBound_69 : decode cX0_cutBound 69 = .ok (.iconst (-1), 1) := by decide +kernel
theorem dX0_cutBound_70 : decode cX0_cutBound 70 = .ok (.if_icmp .ne 8, 3) := by decide +kernel
theorem dX0_cutBound_73 : decode cX0_cutBound 73 = .ok (.iload 6, 2) := by decide +kernel
theorem dX0_cutBound_75 : decode cX0_cutBound 75 = .ok (.goto 10, 3) := by decide +kernel
theorem dX0_cutBound_78 : decode cX0_cutBound 78 = .ok (.iload 6, 2) := by decide +kernel
theorem dX0_cutBound_80 : decode cX0_cutBound 80 = .ok (.iload 5, 2) := by decide +kernel
theorem dX0_cutBound_82 : decode cX0_cutBound 82 = .ok (.invokestatic 57, 3) := by decide +kernel
theorem dX0_cutBound_85 : decode cX0_cutBound 85 = .ok (.istore 7, 2) := by decide +kernel
theorem dX0_cutBound_87 : decode cX0_cutBound 87 = .ok (.iload 7, 2) := by decide +kernel
theorem dX0_cutBound_89 : decode cX0_cutBound 89 = .ok (.iconst (-1), 1) := by decide +kernel
theorem dX0_cutBound_90 : decode cX0_cutBound 90 = .ok (.if_icmp .ne 5, 3) := by decide +kernel
theorem dX0_cutBound_93 : decode cX0_cutBound 93 = .ok (.iload_n 2, 1) := by decide +kernel
theorem dX0_cutBound_94 : decode cX0_cutBound 94 = .ok (.ireturn, 1) := by decide +kernel
theorem dX0_cutBound_95 : decode cX0_cutBound 95 = .ok (.iload 4, 2) := by decide +kernel
theorem dX0_cutBound_97 : decode cX0_cutBound 97 = .ok (.iconst (-1), 1) := by decide +kernel
theorem dX0_cutBound_98 : decode cX0_cutBound 98 = .ok (.if_icmp .eq 46, 3) := by decide +kernel
theorem dX0_cutBound_101 : decode cX0_cutBound 101 = .ok (.aload_n 0, 1) := by decide +kernel
theorem dX0_cutBound_102 : decode cX0_cutBound 102 = .ok (.getfield 21, 3) := by decide +kernel
theorem dX0_cutBound_105 : decode cX0_cutBound 105 = .ok (.iload 4, 2) := by decide +kernel
theorem dX0_cutBound_107 : decode cX0_cutBound 107 = .ok (.dup2, 1) := by decide +kernel
theorem dX0_cutBound_108 : decode cX0_cutBound 108 = .ok (.iaload, 1) := by decide +kernel
theorem dX0_cutBound_109 : decode cX0_cutBound 109 = .ok (.iload 7, 2) := by decide +kernel
theorem dX0_cutBound_111 : decode cX0_cutBound 111 = .ok (.iload_n 1, 1) := by decide +kernel
theorem dX0_cutBound_112 : decode cX0_cutBound 112 = .ok (.isub, 1) := by decide +kernel
theorem dX0_cutBound_113 : decode cX0_cutBound 113 = .ok (.isub, 1) := by decide +kernel
theorem dX0_cutBound_114 : decode cX0_cutBound 114 = .ok (.iastore, 1) := by decide +kernel
theorem dX0_cutBound_115 : decode cX0_cutBound 115 = .ok (.aload_n 0, 1) := by decide +kernel
theorem dX0_cutBound_116 : decode cX0_cutBound 116 = .ok (.getfield 21, 3) := by decide +kernel
theorem dX0_cutBound_119 : decode cX0_cutBound 119 = .ok (.iload 4, 2) := by decide +kernel
theorem dX0_cutBound_121 : decode cX0_cutBound 121 = .ok (.iaload, 1) := by decide +kernel
theorem dX0_cutBound_122 : decode cX0_cutBound 122 = .ok (.ifCond .ne 20, 3) := by decide +kernel
theorem dX0_cutBound_125 : decode cX0_cutBound 125 = .ok (.iload_n 2, 1) := by decide +kernel
theorem dX0_cutBound_126 : decode cX0_cutBound 126 = .ok (.iload 7, 2) := by decide +kernel
theorem dX0_cutBound_128 : decode cX0_cutBound 128 = .ok (.aload_n 0, 1) := by decide +kernel
theorem dX0_cutBound_129 : decode cX0_cutBound 129 = .ok (.getfield 15, 3) := by decide +kernel
theorem dX0_cutBound_132 : decode cX0_cutBound 132 = .ok (.iload 4, 2) := by decide +kernel
theorem dX0_cutBound_134 : decode cX0_cutBound 134 = .ok (.iaload, 1) := by decide +kernel
theorem dX0_cutBound_135 : decode cX0_cutBound 135 = .ok (.iadd, 1) := by decide +kernel
theorem dX0_cutBound_136 : decode cX0_cutBound 136 = .ok (.invokestatic 63, 3) := by decide +kernel
theorem dX0_cutBound_139 : decode cX0_cutBound 139 = .ok (.goto 4, 3) := by decide +kernel
theorem dX0_cutBound_142 : decode cX0_cutBound 142 = .ok (.iload_n 2, 1) := by decide +kernel
theorem dX0_cutBound_143 : decode cX0_cutBound 143 = .ok (.istore_n 2, 1) := by decide +kernel
theorem dX0_cutBound_144 : decode cX0_cutBound 144 = .ok (.iload 7, 2) := by decide +kernel
theorem dX0_cutBound_146 : decode cX0_cutBound 146 = .ok (.istore_n 1, 1) := by decide +kernel
theorem dX0_cutBound_147 : decode cX0_cutBound 147 = .ok (.iinc 3 1, 3) := by decide +kernel
theorem dX0_cutBound_150 : decode cX0_cutBound 150 = .ok (.goto (-129), 3) := by decide +kernel
theorem dX0_cutBound_153 : decode cX0_cutBound 153 = .ok (.iload_n 2, 1) := by decide +kernel
theorem dX0_cutBound_154 : decode cX0_cutBound 154 = .ok (.ireturn, 1) := by decide +kernel
theorem dX0_mostPressing_0 : decode cX0_mostPressing 0 = .ok (.iconst (-1), 1) := by decide +kernel
theorem dX0_mostPressing_1 : decode cX0_mostPressing 1 = .ok (.istore_n 2, 1) := by decide +kernel
theorem dX0_mostPressing_2 : decode cX0_mostPressing 2 = .ok (.iconst 0, 1) := by decide +kernel
theorem dX0_mostPressing_3 : decode cX0_mostPressing 3 = .ok (.istore_n 3, 1) := by decide +kernel
theorem dX0_mostPressing_4 : decode cX0_mostPressing 4 = .ok (.iload_n 3, 1) := by decide +kernel
theorem dX0_mostPressing_5 : decode cX0_mostPressing 5 = .ok (.aload_n 0, 1) := by decide +kernel
theorem dX0_mostPressing_6 : decode cX0_mostPressing 6 = .ok (.getfield 29, 3) := by decide +kernel
theorem dX0_mostPressing_9 : decode cX0_mostPressing 9 = .ok (.if_icmp .ge 62, 3) := by decide +kernel
theorem dX0_mostPressing_12 : decode cX0_mostPressing 12 = .ok (.aload_n 0, 1) := by decide +kernel
theorem dX0_mostPressing_13 : decode cX0_mostPressing 13 = .ok (.getfield 21, 3) := by decide +kernel
theorem dX0_mostPressing_16 : decode cX0_mostPressing 16 = .ok (.iload_n 3, 1) := by decide +kernel
theorem dX0_mostPressing_17 : decode cX0_mostPressing 17 = .ok (.iaload, 1) := by decide +kernel
theorem dX0_mostPressing_18 : decode cX0_mostPressing 18 = .ok (.ifCond .le 17, 3) := by decide +kernel
theorem dX0_mostPressing_21 : decode cX0_mostPressing 21 = .ok (.aload_n 0, 1) := by decide +kernel
theorem dX0_mostPressing_22 : decode cX0_mostPressing 22 = .ok (.getfield 9, 3) := by decide +kernel
theorem dX0_mostPressing_25 : decode cX0_mostPressing 25 = .ok (.iload_n 3, 1) := by decide +kernel
theorem dX0_mostPressing_26 : decode cX0_mostPressing 26 = .ok (.iaload, 1) := by decide +kernel
theorem dX0_mostPressing_27 : decode cX0_mostPressing 27 = .ok (.iload_n 1, 1) := by decide +kernel
theorem dX0_mostPressing_28 : decode cX0_mostPressing 28 = .ok (.if_icmp .gt 7, 3) := by decide +kernel
theorem dX0_mostPressing_31 : decode cX0_mostPressing 31 = .ok (.iconst 1, 1) := by decide +kernel
theorem dX0_mostPressing_32 : decode cX0_mostPressing 32 = .ok (.goto 4, 3) := by decide +kernel
theorem dX0_mostPressing_35 : decode cX0_mostPressing 35 = .ok (.iconst 0, 1) := by decide +kernel
theorem dX0_mostPressing_36 : decode cX0_mostPressing 36 = .ok (.istore 4, 2) := by decide +kernel
theorem dX0_mostPressing_38 : decode cX0_mostPressing 38 = .ok (.iload 4, 2) := by decide +kernel
theorem dX0_mostPressing_40 : decode cX0_mostPressing 40 = .ok (.ifCond .eq 25, 3) := by decide +kernel
theorem dX0_mostPressing_43 : decode cX0_mostPressing 43 = .ok (.iload_n 2, 1) := by decide +kernel
theorem dX0_mostPressing_44 : decode cX0_mostPressing 44 = .ok (.iconst (-1), 1) := by decide +kernel
theorem dX0_mostPressing_45 : decode cX0_mostPressing 45 = .ok (.if_icmp .eq 18, 3) := by decide +kernel
theorem dX0_mostPressing_48 : decode cX0_mostPressing 48 = .ok (.aload_n 0, 1) := by decide +kernel
theorem dX0_mostPressing_49 : decode cX0_mostPressing 49 = .ok (.getfield 15, 3) := by decide +kernel
theorem dX0_mostPressing_52 : decode cX0_mostPressing 52 = .ok (.iload_n 3, 1) := by decide +kernel
theorem dX0_mostPressing_53 : decode cX0_mostPressing 53 = .ok (.iaload, 1) := by decide +kernel
theorem dX0_mostPressing_54 : decode cX0_mostPressing 54 = .ok (.aload_n 0, 1) := by decide +kernel
theorem dX0_mostPressing_55 : decode cX0_mostPressing 55 = .ok (.getfield 15, 3) := by decide +kernel
theorem dX0_mostPressing_58 : decode cX0_mostPressing 58 = .ok (.iload_n 2, 1) := by decide +kernel
theorem dX0_mostPressing_59 : decode cX0_mostPressing 59 = .ok (.iaload, 1) := by decide +kernel
theorem dX0_mostPressing_60 : decode cX0_mostPressing 60 = .ok (.if_icmp .le 5, 3) := by decide +kernel
theorem dX0_mostPressing_63 : decode cX0_mostPressing 63 = .ok (.iload_n 3, 1) := by decide +kernel
theorem dX0_mostPressing_64 : decode cX0_mostPressing 64 = .ok (.istore_n 2, 1) := by decide +kernel
theorem dX0_mostPressing_65 : decode cX0_mostPressing 65 = .ok (.iinc 3 1, 3) := by decide +kernel
theorem dX0_mostPressing_68 : decode cX0_mostPressing 68 = .ok (.goto (-64), 3) := by decide +kernel
theorem dX0_mostPressing_71 : decode cX0_mostPressing 71 = .ok (.iload_n 2, 1) := by decide +kernel
theorem dX0_mostPressing_72 : decode cX0_mostPressing 72 = .ok (.ireturn, 1) := by decide +kernel
theorem dX0_nextFirst_0 : decode cX0_nextFirst 0 = .ok (.iconst (-1), 1) := by decide +kernel
theorem dX0_nextFirst_1 : decode cX0_nextFirst 1 = .ok (.istore_n 2, 1) := by decide +kernel
theorem dX0_nextFirst_2 : decode cX0_nextFirst 2 = .ok (.iconst 0, 1) := by decide +kernel
theorem dX0_nextFirst_3 : decode cX0_nextFirst 3 = .ok (.istore_n 3, 1) := by decide +kernel
theorem dX0_nextFirst_4 : decode cX0_nextFirst 4 = .ok (.iload_n 3, 1) := by decide +kernel
theorem dX0_nextFirst_5 : decode cX0_nextFirst 5 = .ok (.aload_n 0, 1) := by decide +kernel
theorem dX0_nextFirst_6 : decode cX0_nextFirst 6 = .ok (.getfield 29, 3) := by decide +kernel
theorem dX0_nextFirst_9 : decode cX0_nextFirst 9 = .ok (.if_icmp .ge 41, 3) := by decide +kernel
theorem dX0_nextFirst_12 : decode cX0_nextFirst 12 = .ok (.aload_n 0, 1) := by decide +kernel
theorem dX0_nextFirst_13 : decode cX0_nextFirst 13 = .ok (.getfield 9, 3) := by decide +kernel
theorem dX0_nextFirst_16 : decode cX0_nextFirst 16 = .ok (.iload_n 3, 1) := by decide +kernel
theorem dX0_nextFirst_17 : decode cX0_nextFirst 17 = .ok (.iaload, 1) := by decide +kernel
theorem dX0_nextFirst_18 : decode cX0_nextFirst 18 = .ok (.iload_n 1, 1) := by decide +kernel
theorem dX0_nextFirst_19 : decode cX0_nextFirst 19 = .ok (.if_icmp .le 25, 3) := by decide +kernel
theorem dX0_nextFirst_22 : decode cX0_nextFirst 22 = .ok (.iload_n 2, 1) := by decide +kernel
theorem dX0_nextFirst_23 : decode cX0_nextFirst 23 = .ok (.iconst (-1), 1) := by decide +kernel
theorem dX0_nextFirst_24 : decode cX0_nextFirst 24 = .ok (.if_icmp .eq 13, 3) := by decide +kernel
theorem dX0_nextFirst_27 : decode cX0_nextFirst 27 = .ok (.aload_n 0, 1) := by decide +kernel
theorem dX0_nextFirst_28 : decode cX0_nextFirst 28 = .ok (.getfield 9, 3) := by decide +kernel
theorem dX0_nextFirst_31 : decode cX0_nextFirst 31 = .ok (.iload_n 3, 1) := by decide +kernel
theorem dX0_nextFirst_32 : decode cX0_nextFirst 32 = .ok (.iaload, 1) := by decide +kernel
theorem dX0_nextFirst_33 : decode cX0_nextFirst 33 = .ok (.iload_n 2, 1) := by decide +kernel
theorem dX0_nextFirst_34 : decode cX0_nextFirst 34 = .ok (.if_icmp .ge 10, 3) := by decide +kernel
theorem dX0_nextFirst_37 : decode cX0_nextFirst 37 = .ok (.aload_n 0, 1) := by decide +kernel
theorem dX0_nextFirst_38 : decode cX0_nextFirst 38 = .ok (.getfield 9, 3) := by decide +kernel
theorem dX0_nextFirst_41 : decode cX0_nextFirst 41 = .ok (.iload_n 3, 1) := by decide +kernel
theorem dX0_nextFirst_42 : decode cX0_nextFirst 42 = .ok (.iaload, 1) := by decide +kernel
theorem dX0_nextFirst_43 : decode cX0_nextFirst 43 = .ok (.istore_n 2, 1) := by decide +kernel
theorem dX0_nextFirst_44 : decode cX0_nextFirst 44 = .ok (.iinc 3 1, 3) := by decide +kernel
theorem dX0_nextFirst_47 : decode cX0_nextFirst 47 = .ok (.goto (-43), 3) := by decide +kernel
theorem dX0_nextFirst_50 : decode cX0_nextFirst 50 = .ok (.iload_n 2, 1) := by decide +kernel
theorem dX0_nextFirst_51 : decode cX0_nextFirst 51 = .ok (.ireturn, 1) := by decide +kernel
theorem dX0_wholeBound_0 : decode cX0_wholeBound 0 = .ok (.aload_n 0, 1) := by decide +kernel
theorem dX0_wholeBound_1 : decode cX0_wholeBound 1 = .ok (.getfield 29, 3) := by decide +kernel
theorem dX0_wholeBound_4 : decode cX0_wholeBound 4 = .ok (.ifCond .eq 12, 3) := by decide +kernel
theorem dX0_wholeBound_7 : decode cX0_wholeBound 7 = .ok (.aload_n 0, 1) := by decide +kernel
theorem dX0_wholeBound_8 : decode cX0_wholeBound 8 = .ok (.getfield 29, 3) := by decide +kernel
theorem dX0_wholeBound_11 : decode cX0_wholeBound 11 = .ok (.bipush 8, 2) := by decide +kernel
theorem dX0_wholeBound_13 : decode cX0_wholeBound 13 = .ok (.if_icmp .le 7, 3) := by decide +kernel
theorem dX0_wholeBound_16 : decode cX0_wholeBound 16 = .ok (.iconst 0, 1) := by decide +kernel
theorem dX0_wholeBound_17 : decode cX0_wholeBound 17 = .ok (.goto 14, 3) := by decide +kernel
theorem dX0_wholeBound_20 : decode cX0_wholeBound 20 = .ok (.aload_n 0, 1) := by decide +kernel
theorem dX0_wholeBound_21 : decode cX0_wholeBound 21 = .ok (.iconst 0, 1) := by decide +kernel
theorem dX0_wholeBound_22 : decode cX0_wholeBound 22 = .ok (.iconst 0, 1) := by decide +kernel
theorem dX0_wholeBound_23 : decode cX0_wholeBound 23 = .ok (.iconst 0, 1) := by decide +kernel
theorem dX0_wholeBound_24 : decode cX0_wholeBound 24 = .ok (.ldc 66, 2) := by decide +kernel
theorem dX0_wholeBound_26 : decode cX0_wholeBound 26 = .ok (.iload_n 1, 1) := by decide +kernel
theorem dX0_wholeBound_27 : decode cX0_wholeBound 27 = .ok (.iconst 0, 1) := by decide +kernel
theorem dX0_wholeBound_28 : decode cX0_wholeBound 28 = .ok (.invokevirtual 67, 3) := by decide +kernel
theorem dX0_wholeBound_31 : decode cX0_wholeBound 31 = .ok (.ireturn, 1) := by decide +kernel
theorem dX0_tryRest_0 : decode cX0_tryRest 0 = .ok (.iload_n 3, 1) := by decide +kernel
theorem dX0_tryRest_1 : decode cX0_tryRest 1 = .ok (.iload 4, 2) := by decide +kernel
theorem dX0_tryRest_3 : decode cX0_tryRest 3 = .ok (.if_icmp .lt 6, 3) := by decide +kernel
theorem dX0_tryRest_6 : decode cX0_tryRest 6 = .ok (.iload 4, 2) := by decide +kernel
theorem dX0_tryRest_8 : decode cX0_tryRest 8 = .ok (.ireturn, 1) := by decide +kernel
theorem dX0_tryRest_9 : decode cX0_tryRest 9 = .ok (.iload 6, 2) := by decide +kernel
theorem dX0_tryRest_11 : decode cX0_tryRest 11 = .ok (.aload_n 0, 1) := by decide +kernel
theorem dX0_tryRest_12 : decode cX0_tryRest 12 = .ok (.getfield 29, 3) := by decide +kernel
theorem dX0_tryRest_15 : decode cX0_tryRest 15 = .ok (.if_icmp .lt 5, 3) := by decide +kernel
theorem dX0_tryRest_18 : decode cX0_tryRest 18 = .ok (.iload_n 3, 1) := by decide +kernel
theorem dX0_tryRest_19 : decode cX0_tryRest 19 = .ok (.ireturn, 1) := by decide +kernel
theorem dX0_tryRest_20 : decode cX0_tryRest 20 = .ok (.iload 4, 2) := by decide +kernel
theorem dX0_tryRest_22 : decode cX0_tryRest 22 = .ok (.istore 7, 2) := by decide +kernel
theorem dX0_tryRest_24 : decode cX0_tryRest 24 = .ok (.iconst 0, 1) := by decide +kernel
theorem dX0_tryRest_25 : decode cX0_tryRest 25 = .ok (.istore 8, 2) := by decide +kernel
theorem dX0_tryRest_27 : decode cX0_tryRest 27 = .ok (.iload 8, 2) := by decide +kernel
theorem dX0_tryRest_29 : decode cX0_tryRest 29 = .ok (.aload_n 0, 1) := by decide +kernel
theorem dX0_tryRest_30 : decode cX0_tryRest 30 = .ok (.getfield 29, 3) := by decide +kernel
theorem dX0_tryRest_33 : decode cX0_tryRest 33 = .ok (.if_icmp .ge 86, 3) := by decide +kernel
theorem dX0_tryRest_36 : decode cX0_tryRest 36 = .ok (.iload 7, 2) := by decide +kernel
theorem dX0_tryRest_38 : decode cX0_tryRest 38 = .ok (.iload 5, 2) := by decide +kernel
theorem dX0_tryRest_40 : decode cX0_tryRest 40 = .ok (.if_icmp .le 79, 3) := by decide +kernel
theorem dX0_tryRest_43 : decode cX0_tryRest 43 = .ok (.iload_n 1, 1) := by decide +kernel
theorem dX0_tryRest_44 : decode cX0_tryRest 44 = .ok (.iload 8, 2) := by decide +kernel
theorem dX0_tryRest_46 : decode cX0_tryRest 46 = .ok (.iushr, 1) := by decide +kernel
theorem dX0_tryRest_47 : decode cX0_tryRest 47 = .ok (.iconst 1, 1) := by decide +kernel
theorem dX0_tryRest_48 : decode cX0_tryRest 48 = .ok (.iand, 1) := by decide +kernel
theorem dX0_tryRest_49 : decode cX0_tryRest 49 = .ok (.ifCond .ne 64, 3) := by decide +kernel
theorem dX0_tryRest_52 : decode cX0_tryRest 52 = .ok (.iload_n 2, 1) := by decide +kernel
theorem dX0_tryRest_53 : decode cX0_tryRest 53 = .ok (.aload_n 0, 1) := by decide +kernel
theorem dX0_tryRest_54 : decode cX0_tryRest 54 = .ok (.getfield 9, 3) := by decide +kernel
theorem dX0_tryRest_57 : decode cX0_tryRest 57 = .ok (.iload 8, 2) := by decide +kernel
theorem dX0_tryRest_59 : decode cX0_tryRest 59 = .ok (.iaload, 1) := by decide +kernel
theorem dX0_tryRest_60 : decode cX0_tryRest 60 = .ok (.invokestatic 63, 3) := by decide +kernel
theorem dX0_tryRest_63 : decode cX0_tryRest 63 = .ok (.aload_n 0, 1) := by decide +kernel
theorem dX0_tryRest_64 : decode cX0_tryRest 64 = .ok (.getfield 18, 3) := by decide +kernel
theorem dX0_tryRest_67 : decode cX0_tryRest 67 = .ok (.iload 8, 2) := by decide +kernel
theorem dX0_tryRest_69 : decode cX0_tryRest 69 = .ok (.iaload, 1) := by decide +kernel
theorem dX0_tryRest_70 : decode cX0_tryRest 70 = .ok (.iadd, 1) := by decide +kernel
theorem dX0_tryRest_71 : decode cX0_tryRest 71 = .ok (.istore 9, 2) := by decide +kernel
theorem dX0_tryRest_73 : decode cX0_tryRest 73 = .ok (.iload_n 3, 1) := by decide +kernel
theorem dX0_tryRest_74 : decode cX0_tryRest 74 = .ok (.iload 9, 2) := by decide +kernel
theorem dX0_tryRest_76 : decode cX0_tryRest 76 = .ok (.aload_n 0, 1) := by decide +kernel
theorem dX0_tryRest_77 : decode cX0_tryRest 77 = .ok (.getfield 15, 3) := by decide +kernel
theorem dX0_tryRest_80 : decode cX0_tryRest 80 = .ok (.iload 8, 2) := by decide +kernel
theorem dX0_tryRest_82 : decode cX0_tryRest 82 = .ok (.iaload, 1) := by decide +kernel
theorem dX0_tryRest_83 : decode cX0_tryRest 83 = .ok (.iadd, 1) := by decide +kernel
theorem dX0_tryRest_84 : decode cX0_tryRest 84 = .ok (.invokestatic 63, 3) := by decide +kernel
theorem dX0_tryRest_87 : decode cX0_tryRest 87 = .ok (.istore 10, 2) := by decide +kernel
theorem dX0_tryRest_89 : decode cX0_tryRest 89 = .ok (.aload_n 0, 1) := by decide +kernel
theorem dX0_tryRest_90 : decode cX0_tryRest 90 = .ok (.iload_n 1, 1) := by decide +kernel
theorem dX0_tryRest_91 : decode cX0_tryRest 91 = .ok (.iconst 1, 1) := by decide +kernel
theorem dX0_tryRest_92 : decode cX0_tryRest 92 = .ok (.iload 8, 2) := by decide +kernel
theorem dX0_tryRest_94 : decode cX0_tryRest 94 = .ok (.ishl, 1) := by decide +kernel
theorem dX0_tryRest_95 : decode cX0_tryRest 95 = .ok (.ior, 1) := by decide +kernel
theorem dX0_tryRest_96 : decode cX0_tryRest 96 = .ok (.iload 9, 2) := by decide +kernel
theorem dX0_tryRest_98 : decode cX0_tryRest 98 = .ok (.iload 10, 2) := by decide +kernel
theorem dX0_tryRest_100 : decode cX0_tryRest 100 = .ok (.iload 7, 2) := by decide +kernel
theorem dX0_tryRest_102 : decode cX0_tryRest 102 = .ok (.iload 5, 2) := by decide +kernel
theorem dX0_tryRest_104 : decode cX0_tryRest 104 = .ok (.iload 6, 2) := by decide +kernel
theorem dX0_tryRest_106 : decode cX0_tryRest 106 = .ok (.iconst 1, 1) := by decide +kernel
theorem dX0_tryRest_107 : decode cX0_tryRest 107 = .ok (.iadd, 1) := by decide +kernel
theorem dX0_tryRest_108 : decode cX0_tryRest 108 = .ok (.invokevirtual 67, 3) := by decide +kernel
theorem dX0_tryRest_111 : decode cX0_tryRest 111 = .ok (.istore 7, 2) := by decide +kernel
theorem dX0_tryRest_113 : decode cX0_tryRest 113 = .ok (.iinc 8 1, 3) := by decide +kernel
theorem dX0_tryRest_116 : decode cX0_tryRest 116 = .ok (.goto (-89), 3) := by decide +kernel
theorem dX0_tryRest_119 : decode cX0_tryRest 119 = .ok (.iload 7, 2) := by decide +kernel
theorem dX0_tryRest_121 : decode cX0_tryRest 121 = .ok (.ireturn, 1) := by decide +kernel
theorem dX1_init_0 : decode cX1_init 0 = .ok (.aload_n 0, 1) := by decide +kernel
theorem dX1_init_1 : decode cX1_init 1 = .ok (.invokespecial 3, 3) := by decide +kernel
theorem dX1_init_4 : decode cX1_init 4 = .ok (.aload_n 0, 1) := by decide +kernel
theorem dX1_init_5 : decode cX1_init 5 = .ok (.bipush 32, 2) := by decide +kernel
theorem dX1_init_7 : decode cX1_init 7 = .ok (.newarray .int, 2) := by decide +kernel
theorem dX1_init_9 : decode cX1_init 9 = .ok (.putfield 9, 3) := by decide +kernel
theorem dX1_init_12 : decode cX1_init 12 = .ok (.aload_n 0, 1) := by decide +kernel
theorem dX1_init_13 : decode cX1_init 13 = .ok (.bipush 32, 2) := by decide +kernel
theorem dX1_init_15 : decode cX1_init 15 = .ok (.newarray .int, 2) := by decide +kernel
theorem dX1_init_17 : decode cX1_init 17 = .ok (.putfield 15, 3) := by decide +kernel
theorem dX1_init_20 : decode cX1_init 20 = .ok (.aload_n 0, 1) := by decide +kernel
theorem dX1_init_21 : decode cX1_init 21 = .ok (.bipush 32, 2) := by decide +kernel
theorem dX1_init_23 : decode cX1_init 23 = .ok (.newarray .int, 2) := by decide +kernel
theorem dX1_init_25 : decode cX1_init 25 = .ok (.putfield 18, 3) := by decide +kernel
theorem dX1_init_28 : decode cX1_init 28 = .ok (.aload_n 0, 1) := by decide +kernel
theorem dX1_init_29 : decode cX1_init 29 = .ok (.bipush 8, 2) := by decide +kernel
theorem dX1_init_31 : decode cX1_init 31 = .ok (.newarray .int, 2) := by decide +kernel
theorem dX1_init_33 : decode cX1_init 33 = .ok (.putfield 21, 3) := by decide +kernel
theorem dX1_init_36 : decode cX1_init 36 = .ok (.aload_n 0, 1) := by decide +kernel
theorem dX1_init_37 : decode cX1_init 37 = .ok (.bipush 32, 2) := by decide +kernel
theorem dX1_init_39 : decode cX1_init 39 = .ok (.newarray .int, 2) := by decide +kernel
theorem dX1_init_41 : decode cX1_init 41 = .ok (.putfield 24, 3) := by decide +kernel
theorem dX1_init_44 : decode cX1_init 44 = .ok (.aload_n 0, 1) := by decide +kernel
theorem dX1_init_45 : decode cX1_init 45 = .ok (.bipush 32, 2) := by decide +kernel
theorem dX1_init_47 : decode cX1_init 47 = .ok (.newarray .int, 2) := by decide +kernel
theorem dX1_init_49 : decode cX1_init 49 = .ok (.putfield 27, 3) := by decide +kernel
theorem dX1_init_52 : decode cX1_init 52 = .ok (.aload_n 0, 1) := by decide +kernel
theorem dX1_init_53 : decode cX1_init 53 = .ok (.bipush 12, 2) := by decide +kernel
theorem dX1_init_55 : decode cX1_init 55 = .ok (.newarray .int, 2) := by decide +kernel
theorem dX1_init_57 : decode cX1_init 57 = .ok (.putfield 30, 3) := by decide +kernel
theorem dX1_init_60 : decode cX1_init 60 = .ok (.aload_n 0, 1) := by decide +kernel
theorem dX1_init_61 : decode cX1_init 61 = .ok (.bipush 8, 2) := by decide +kernel
theorem dX1_init_63 : decode cX1_init 63 = .ok (.newarray .int, 2) := by decide +kernel
theorem dX1_init_65 : decode cX1_init 65 = .ok (.putfield 33, 3) := by decide +kernel
theorem dX1_init_68 : decode cX1_init 68 = .ok (.aload_n 0, 1) := by decide +kernel
theorem dX1_init_69 : decode cX1_init 69 = .ok (.iconst 4, 1) := by decide +kernel
theorem dX1_init_70 : decode cX1_init 70 = .ok (.newarray .int, 2) := by decide +kernel
theorem dX1_init_72 : decode cX1_init 72 = .ok (.putfield 36, 3) := by decide +kernel
theorem dX1_init_75 : decode cX1_init 75 = .ok (.aload_n 0, 1) := by decide +kernel
theorem dX1_init_76 : decode cX1_init 76 = .ok (.getfield 18, 3) := by decide +kernel
theorem dX1_init_79 : decode cX1_init 79 = .ok (.iconst (-1), 1) := by decide +kernel
theorem dX1_init_80 : decode cX1_init 80 = .ok (.invokestatic 39, 3) := by decide +kernel
theorem dX1_init_83 : decode cX1_init 83 = .ok (.return_, 1) := by decide +kernel
theorem dX1_clear_0 : decode cX1_clear 0 = .ok (.aload_n 0, 1) := by decide +kernel
theorem dX1_clear_1 : decode cX1_clear 1 = .ok (.iconst 0, 1) := by decide +kernel
theorem dX1_clear_2 : decode cX1_clear 2 = .ok (.putfield 45, 3) := by decide +kernel
theorem dX1_clear_5 : decode cX1_clear 5 = .ok (.aload_n 0, 1) := by decide +kernel
theorem dX1_clear_6 : decode cX1_clear 6 = .ok (.iconst 0, 1) := by decide +kernel
theorem dX1_clear_7 : decode cX1_clear 7 = .ok (.putfield 49, 3) := by decide +kernel
theorem dX1_clear_10 : decode cX1_clear 10 = .ok (.aload_n 0, 1) := by decide +kernel
theorem dX1_clear_11 : decode cX1_clear 11 = .ok (.getfield 27, 3) := by decide +kernel
theorem dX1_clear_14 : decode cX1_clear 14 = .ok (.iconst (-1), 1) := by decide +kernel
theorem dX1_clear_15 : decode cX1_clear 15 = .ok (.invokestatic 39, 3) := by decide +kernel
theorem dX1_clear_18 : decode cX1_clear 18 = .ok (.aload_n 0, 1) := by decide +kernel
theorem dX1_clear_19 : decode cX1_clear 19 = .ok (.getfield 30, 3) := by decide +kernel
theorem dX1_clear_22 : decode cX1_clear 22 = .ok (.iconst 0, 1) := by decide +kernel
theorem dX1_clear_23 : decode cX1_clear 23 = .ok (.invokestatic 39, 3) := by decide +kernel
theorem dX1_clear_26 : decode cX1_clear 26 = .ok (.aload_n 0, 1) := by decide +kernel
theorem dX1_clear_27 : decode cX1_clear 27 = .ok (.getfield 33, 3) := by decide +kernel
theorem dX1_clear_30 : decode cX1_clear 30 = .ok (.iconst 0, 1) := by decide +kernel
theorem dX1_clear_31 : decode cX1_clear 31 = .ok (.invokestatic 39, 3) := by decide +kernel
theorem dX1_clear_34 : decode cX1_clear 34 = .ok (.return_, 1) := by decide +kernel
theorem dX1_work_0 : decode cX1_work 0 = .ok (.aload_n 0, 1) := by decide +kernel
theorem dX1_work_1 : decode cX1_work 1 = .ok (.invokevirtual 52, 3) := by decide +kernel
theorem dX1_work_4 : decode cX1_work 4 = .ok (.iconst 1, 1) := by decide +kernel
theorem dX1_work_5 : decode cX1_work 5 = .ok (.istore_n 3, 1) := by decide +kernel
theorem dX1_work_6 : decode cX1_work 6 = .ok (.iconst 0, 1) := by decide +kernel
theorem dX1_work_7 : decode cX1_work 7 = .ok (.istore 4, 2) := by decide +kernel
theorem dX1_work_9 : decode cX1_work 9 = .ok (.iload 4, 2) := by decide +kernel
theorem dX1_work_11 : decode cX1_work 11 = .ok (.aload_n 1, 1) := by decide +kernel
theorem dX1_work_12 : decode cX1_work 12 = .ok (.getfield 55, 3) := by decide +kernel
theorem dX1_work_15 : decode cX1_work 15 = .ok (.if_icmp .ge 77, 3) := by decide +kernel
theorem dX1_work_18 : decode cX1_work 18 = .ok (.iload_n 3, 1) := by decide +kernel
theorem dX1_work_19 : decode cX1_work 19 = .ok (.ifCond .eq 73, 3) := by decide +kernel
theorem dX1_work_22 : decode cX1_work 22 = .ok (.iconst 0, 1) := by decide +kernel
theorem dX1_work_23 : decode cX1_work 23 = .ok (.istore_n 3, 1) := by decide +kernel
theorem dX1_work_24 : decode cX1_work 24 = .ok (.iconst 0, 1) := by decide +kernel
theorem dX1_work_25 : decode cX1_work 25 = .ok (.istore 5, 2) := by decide +kernel
theorem dX1_work_27 : decode cX1_work 27 = .ok (.iload 5, 2) := by decide +kernel
theorem dX1_work_29 : decode cX1_work 29 = .ok (.aload_n 1, 1) := by decide +kernel
theorem dX1_work_30 : decode cX1_work 30 = .ok (.getfield 60, 3) := by decide +kernel
theorem dX1_work_33 : decode cX1_work 33 = .ok (.if_icmp .ge 53, 3) := by decide +kernel
theorem dX1_work_36 : decode cX1_work 36 = .ok (.aload_n 0, 1) := by decide +kernel
theorem dX1_work_37 : decode cX1_work 37 = .ok (.aload_n 1, 1) := by decide +kernel
theorem dX1_work_38 : decode cX1_work 38 = .ok (.iload 5, 2) := by decide +kernel
theorem dX1_work_40 : decode cX1_work 40 = .ok (.invokevirtual 63, 3) := by decide +kernel
theorem dX1_work_43 : decode cX1_work 43 = .ok (.istore 6, 2) := by decide +kernel
theorem dX1_work_45 : decode cX1_work 45 = .ok (.iload 6, 2) := by decide +kernel
theorem dX1_work_47 : decode cX1_work 47 = .ok (.iconst (-1), 1) := by decide +kernel
theorem dX1_work_48 : decode cX1_work 48 = .ok (.if_icmp .eq 32, 3) := by decide +kernel
theorem dX1_work_51 : decode cX1_work 51 = .ok (.aload_n 0, 1) := by decide +kernel
theorem dX1_work_52 : decode cX1_work 52 = .ok (.aload_n 1, 1) := by decide +kernel
theorem dX1_work_53 : decode cX1_work 53 = .ok (.aload_n 2, 1) := by decide +kernel
theorem dX1_work_54 : decode cX1_work 54 = .ok (.iload 6, 2) := by decide +kernel
theorem dX1_work_56 : decode cX1_work 56 = .ok (.invokevirtual 67, 3) := by decide +kernel
theorem dX1_work_59 : decode cX1_work 59 = .ok (.ifCond .eq 21, 3) := by decide +kernel
theorem dX1_work_62 : decode cX1_work 62 = .ok (.aload_n 0, 1) := by decide +kernel
theorem dX1_work_63 : decode cX1_work 63 = .ok (.aload_n 1, 1) := by decide +kernel
theorem dX1_work_64 : decode cX1_work 64 = .ok (.aload_n 2, 1) := by decide +kernel
theorem dX1_work_65 : decode cX1_work 65 = .ok (.iload 6, 2) := by decide +kernel
theorem dX1_work_67 : decode cX1_work 67 = .ok (.aload_n 0, 1) := by decide +kernel
theorem dX1_work_68 : decode cX1_work 68 = .ok (.aload_n 1, 1) := by decide +kernel
theorem dX1_work_69 : decode cX1_work 69 = .ok (.aload_n 2, 1) := by decide +kernel
theorem dX1_work_70 : decode cX1_work 70 = .ok (.iload 6, 2) := by decide +kernel
theorem dX1_work_72 : decode cX1_work 72 = .ok (.invokevirtual 71, 3) := by decide +kernel
theorem dX1_work_75 : decode cX1_work 75 = .ok (.invokevirtual 75, 3) := by decide +kernel
theorem dX1_work_78 : decode cX1_work 78 = .ok (.iconst 1, 1) := by decide +kernel
theorem dX1_work_79 : decode cX1_work 79 = .ok (.istore_n 3, 1) := by decide +kernel
theorem dX1_work_80 : decode cX1_work 80 = .ok (.iinc 5 1, 3) := by decide +kernel
theorem dX1_work_83 : decode cX1_work 83 = .ok (.goto (-56), 3) := by decide +kernel
theorem dX1_work_86 : decode cX1_work 86 = .ok (.iinc 4 1, 3) := by decide +kernel
theorem dX1_work_89 : decode cX1_work 89 = .ok (.goto (-80), 3) := by decide +kernel
theorem dX1_work_92 : decode cX1_work 92 = .ok (.aload_n 0, 1) := by decide +kernel
theorem dX1_work_93 : decode cX1_work 93 = .ok (.getfield 45, 3) := by decide +kernel
theorem dX1_work_96 : decode cX1_work 96 = .ok (.aload_n 1, 1) := by decide +kernel
theorem dX1_work_97 : decode cX1_work 97 = .ok (.getfield 55, 3) := by decide +kernel
theorem dX1_work_100 : decode cX1_work 100 = .ok (.if_icmp .ne 7, 3) := by decide +kernel
theorem dX1_work_103 : decode cX1_work 103 = .ok (.iconst 1, 1) := by decide +kernel
theorem dX1_work_104 : decode cX1_work 104 = .ok (.goto 4, 3) := by decide +kernel
theorem dX1_work_107 : decode cX1_work 107 = .ok (.iconst 0, 1) := by decide +kernel
theorem dX1_work_108 : decode cX1_work 108 = .ok (.ireturn, 1) := by decide +kernel
theorem dX1_nextOfPiece_0 : decode cX1_nextOfPiece 0 = .ok (.aload_n 0, 1) := by decide +kernel
theorem dX1_nextOfPiece_1 : decode cX1_nextOfPiece 1 = .ok (.getfield 30, 3) := by decide +kernel
theorem dX1_nextOfPiece_4 : decode cX1_nextOfPiece 4 = .ok (.iload_n 2, 1) := by decide +kernel
theorem dX1_nextOfPiece_5 : decode cX1_nextOfPiece 5 = .ok (.iaload, 1) := by decide +kernel
theorem dX1_nextOfPiece_6 : decode cX1_nextOfPiece 6 = .ok (.istore_n 3, 1) := by decide +kernel
theorem dX1_nextOfPiece_7 : decode cX1_nextOfPiece 7 = .ok (.iload_n 3, 1) := by decide +kernel
theorem dX1_nextOfPiece_8 : decode cX1_nextOfPiece 8 = .ok (.aload_n 1, 1) := by decide +kernel
theorem dX1_nextOfPiece_9 : decode cX1_nextOfPiece 9 = .ok (.getfield 79, 3) := by decide +kernel
theorem dX1_nextOfPiece_12 : decode cX1_nextOfPiece 12 = .ok (.iload_n 2, 1) := by decide +kernel
theorem dX1_nextOfPiece_13 : decode cX1_nextOfPiece 13 = .ok (.iaload, 1) := by decide +kernel
theorem dX1_nextOfPiece_14 : decode cX1_nextOfPiece 14 = .ok (.if_icmp .ge 14, 3) := by decide +kernel
theorem dX1_nextOfPiece_17 : decode cX1_nextOfPiece 17 = .ok (.aload_n 1, 1) := by decide +kernel
theorem dX1_nextOfPiece_18 : decode cX1_nextOfPiece 18 = .ok (.getfield 82, 3) := by decide +kernel
theorem dX1_nextOfPiece_21 : decode cX1_nextOfPiece 21 = .ok (.iload_n 2, 1) := by decide +kernel
theorem dX1_nextOfPiece_22 : decode cX1_nextOfPiece 22 = .ok (.aaload, 1) := by decide +kernel
theorem dX1_nextOfPiece_23 : decode cX1_nextOfPiece 23 = .ok (.iload_n 3, 1) := by decide +kernel
theorem dX1_nextOfPiece_24 : decode cX1_nextOfPiece 24 = .ok (.iaload, 1) := by decide +kernel
theorem dX1_nextOfPiece_25 : decode cX1_nextOfPiece 25 = .ok (.goto 4, 3) := by decide +kernel
theorem dX1_nextOfPiece_28 : decode cX1_nextOfPiece 28 = .ok (.iconst (-1), 1) := by decide +kernel
theorem dX1_nextOfPiece_29 : decode cX1_nextOfPiece 29 = .ok (.ireturn, 1) := by decide +kernel
theorem dX1_isNextOnMachine_0 : decode cX1_isNextOnMachine 0 = .ok (.aload_n 1, 1) := by decide +kernel
theorem dX1_isNextOnMachine_1 : decode cX1_isNextOnMachine 1 = .ok (.getfield 86, 3) := by decide +kernel
theorem dX1_isNextOnMachine_4 : decode cX1_isNextOnMachine 4 = .ok (.iload_n 3, 1) := by decide +kernel
theorem dX1_isNextOnMachine_5 : decode cX1_isNextOnMachine 5 = .ok (.iaload, 1) := by decide +kernel
theorem dX1_isNextOnMachine_6 : decode cX1_isNextOnMachine 6 = .ok (.istore 4, 2) := by decide +kernel
theorem dX1_isNextOnMachine_8 : decode cX1_isNextOnMachine 8 = .ok (.aload_n 0, 1) := by decide +kernel
theorem dX1_isNextOnMachine_9 : decode cX1_isNextOnMachine 9 = .ok (.getfield 33, 3) := by decide +kernel
theorem dX1_isNextOnMachine_12 : decode cX1_isNextOnMachine 12 = .ok (.iload 4, 2) := by decide +kernel
theorem dX1_isNextOnMachine_14 : decode cX1_isNextOnMachine 14 = .ok (.iaload, 1) := by decide +kernel
theorem dX1_isNextOnMachine_15 : decode cX1_isNextOnMachine 15 = .ok (.istore 5, 2) := by decide +kernel
theorem dX1_isNextOnMachine_17 : decode cX1_isNextOnMachine 17 = .ok (.aload_n 1, 1) := by decide +kernel
theorem dX1_isNextOnMachine_18 : decode cX1_isNextOnMachine 18 = .ok (.getfield 89, 3) := by decide +kernel
theorem dX1_isNextOnMachine_21 : decode cX1_isNextOnMachine 21 = .ok (.iload 4, 2) := by decide +kernel
theorem dX1_isNextOnMachine_23 : decode cX1_isNextOnMachine 23 = .ok (.iaload, 1) := by decide +kernel
theorem dX1_isNextOnMachine_24 : decode cX1_isNextOnMachine 24 = .ok (.iconst 1, 1) := by decide +kernel
theorem dX1_isNextOnMachine_25 : decode cX1_isNextOnMachine 25 = .ok (.if_icmp .eq 29, 3) := by decide +kernel
theorem dX1_isNextOnMachine_28 : decode cX1_isNextOnMachine 28 = .ok (.iload 5, 2) := by decide +kernel
theorem dX1_isNextOnMachine_30 : decode cX1_isNextOnMachine 30 = .ok (.aload_n 2, 1) := by decide +kernel
theorem dX1_isNextOnMachine_31 : decode cX1_isNextOnMachine 31 = .ok (.getfield 92, 3) := by decide +kernel
theorem dX1_isNextOnMachine_34 : decode cX1_isNextOnMachine 34 = .ok (.iload 4, 2) := by decide +kernel
theorem dX1_isNextOnMachine_36 : decode cX1_isNextOnMachine 36 = .ok (.iaload, 1) := by decide +kernel
theorem dX1_isNextOnMachine_37 : decode cX1_isNextOnMachine 37 = .ok (.if_icmp .ge 21, 3) := by decide +kernel
theorem dX1_isNextOnMachine_40 : decode cX1_isNextOnMachine 40 = .ok (.aload_n 2, 1) := by decide +kernel
theorem dX1_isNextOnMachine_41 : decode cX1_isNextOnMachine 41 = .ok (.getfield 97, 3) := by decide +kernel
theorem dX1_isNextOnMachine_44 : decode cX1_isNextOnMachine 44 = .ok (.iload 4, 2) := by decide +kernel
theorem dX1_isNextOnMachine_46 : decode cX1_isNextOnMachine 46 = .ok (.aaload, 1) := by decide +kernel
theorem dX1_isNextOnMachine_47 : decode cX1_isNextOnMachine 47 = .ok (.iload 5, 2) := by decide +kernel
theorem dX1_isNextOnMachine_49 : decode cX1_isNextOnMachine 49 = .ok (.iaload, 1) := by decide +kernel
theorem dX1_isNextOnMachine_50 : decode cX1_isNextOnMachine 50 = .ok (.iload_n 3, 1) := by decide +kernel
theorem dX1_isNextOnMachine_51 : decode cX1_isNextOnMachine 51 = .ok (.if_icmp .ne 7, 3) := by decide +kernel
theorem dX1_isNextOnMachine_54 : decode cX1_isNextOnMachine 54 = .ok (.iconst 1, 1) := by decide +kernel
theorem dX1_isNextOnMachine_55 : decode cX1_isNextOnMachine 55 = .ok (.goto 4, 3) := by decide +kernel
theorem dX1_isNextOnMachine_58 : decode cX1_isNextOnMachine 58 = .ok (.iconst 0, 1) := by decide +kernel
theorem dX1_isNextOnMachine_59 : decode cX1_isNextOnMachine 59 = .ok (.ireturn, 1) := by decide +kernel
theorem dX1_earliest_0 : decode cX1_earliest 0 = .ok (.aload_n 0, 1) := by decide +kernel
theorem dX1_earliest_1 : decode cX1_earliest 1 = .ok (.getfield 18, 3) := by decide +kernel
theorem dX1_earliest_4 : decode cX1_earliest 4 = .ok (.iload_n 3, 1) := by decide +kernel
theorem dX1_earliest_5 : decode cX1_earliest 5 = .ok (.iaload, 1) := by decide +kernel
theorem dX1_earliest_6 : decode cX1_earliest 6 = .ok (.iconst (-1), 1) := by decide +kernel
theorem dX1_earliest_7 : decode cX1_earliest 7 = .ok (.if_icmp .eq 10, 3) := by decide +kernel
theorem dX1_earliest_10 : decode cX1_earliest 10 = .ok (.aload_n 0, 1) := by decide +kernel
theorem dX1_earliest_11 : decode cX1_earliest 11 = .ok (.getfield 18, 3) := by decide +kernel
theorem dX1_earliest_14 : decode cX1_earliest 14 = .ok (.iload_n 3, 1) := by decide +kernel
theorem dX1_earliest_15 : decode cX1_earliest 15 = .ok (.iaload, 1) := by decide +kernel
theorem dX1_earliest_16 : decode cX1_earliest 16 = .ok (.ireturn, 1) := by decide +kernel
theorem dX1_earliest_17 : decode cX1_earliest 17 = .ok (.aload_n 1, 1) := by decide +kernel
theorem dX1_earliest_18 : decode cX1_earliest 18 = .ok (.getfield 86, 3) := by decide +kernel
theorem dX1_earliest_21 : decode cX1_earliest 21 = .ok (.iload_n 3, 1) := by decide +kernel
theorem dX1_earliest_22 : decode cX1_earliest 22 = .ok (.iaload, 1) := by decide +kernel
theorem dX1_earliest_23 : decode cX1_earliest 23 = .ok (.istore 4, 2) := by decide +kernel
theorem dX1_earliest_25 : decode cX1_earliest 25 = .ok (.aload_n 0, 1) := by decide +kernel
theorem dX1_earliest_26 : decode cX1_earliest 26 = .ok (.getfield 33, 3) := by decide +kernel
theorem dX1_earliest_29 : decode cX1_earliest 29 = .ok (.iload 4, 2) := by decide +kernel
theorem dX1_earliest_31 : decode cX1_earliest 31 = .ok (.iaload, 1) := by decide +kernel
theorem dX1_earliest_32 : decode cX1_earliest 32 = .ok (.istore 5, 2) := by decide +kernel
theorem dX1_earliest_34 : decode cX1_earliest 34 = .ok (.aload_n 0, 1) := by decide +kernel
theorem dX1_earliest_35 : decode cX1_earliest 35 = .ok (.getfield 21, 3) := by decide +kernel
theorem dX1_earliest_38 : decode cX1_earliest 38 = .ok (.iload 4, 2) := by decide +kernel
theorem dX1_earliest_40 : decode cX1_earliest 40 = .ok (.iaload, 1) := by decide +kernel
theorem dX1_earliest_41 : decode cX1_earliest 41 = .ok (.aload_n 0, 1) := by decide +kernel
theorem dX1_earliest_42 : decode cX1_earliest 42 = .ok (.aload_n 1, 1) := by decide +kernel
theorem dX1_earliest_43 : decode cX1_earliest 43 = .ok (.iload_n 3, 1) := by decide +kernel
theorem dX1_earliest_44 : decode cX1_earliest 44 = .ok (.invokevirtual 100, 3) := by decide +kernel
theorem dX1_earliest_47 : decode cX1_earliest 47 = .ok (.invokestatic 103, 3) := by decide +kernel
theorem dX1_earliest_50 : decode cX1_earliest 50 = .ok (.istore 6, 2) := by decide +kernel
theorem dX1_earliest_52 : decode cX1_earliest 52 = .ok (.aload_n 1, 1) := by decide +kernel
theorem dX1_earliest_53 : decode cX1_earliest 53 = .ok (.getfield 89, 3) := by decide +kernel
theorem dX1_earliest_56 : decode cX1_earliest 56 = .ok (.iload 4, 2) := by decide +kernel
theorem dX1_earliest_58 : decode cX1_earliest 58 = .ok (.iaload, 1) := by decide +kernel
theorem dX1_earliest_59 : decode cX1_earliest 59 = .ok (.iconst 1, 1) := by decide +kernel
theorem dX1_earliest_60 : decode cX1_earliest 60 = .ok (.if_icmp .eq 8, 3) := by decide +kernel
theorem dX1_earliest_63 : decode cX1_earliest 63 = .ok (.iload 5, 2) := by decide +kernel
theorem dX1_earliest_65 : decode cX1_earliest 65 = .ok (.ifCond .ne 6, 3) := by decide +kernel
theorem dX1_earliest_68 : decode cX1_earliest 68 = .ok (.iload 6, 2) := by decide +kernel
theorem dX1_earliest_70 : decode cX1_earliest 70 = .ok (.ireturn, 1) := by decide +kernel
theorem dX1_earliest_71 : decode cX1_earliest 71 = .ok (.aload_n 2, 1) := by decide +kernel
theorem dX1_earliest_72 : decode cX1_earliest 72 = .ok (.getfield 97, 3) := by decide +kernel
theorem dX1_earliest_75 : decode cX1_earliest 75 = .ok (.iload 4, 2) := by decide +kernel
theorem dX1_earliest_77 : decode cX1_earliest 77 = .ok (.aaload, 1) := by decide +kernel
theorem dX1_earliest_78 : decode cX1_earliest 78 = .ok (.iload 5, 2) := by decide +kernel
theorem dX1_earliest_80 : decode cX1_earliest 80 = .ok (.iconst 1, 1) := by decide +kernel
theorem dX1_earliest_81 : decode cX1_earliest 81 = .ok (.isub, 1) := by decide +kernel
theorem dX1_earliest_82 : decode cX1_earliest 82 = .ok (.iaload, 1) := by decide +kernel
theorem dX1_earliest_83 : decode cX1_earliest 83 = .ok (.istore 7, 2) := by decide +kernel
theorem dX1_earliest_85 : decode cX1_earliest 85 = .ok (.aload_n 1, 1) := by decide +kernel
theorem dX1_earliest_86 : decode cX1_earliest 86 = .ok (.getfield 89, 3) := by decide +kernel
theorem dX1_earliest_89 : decode cX1_earliest 89 = .ok (.iload 4, 2) := by decide +kernel
theorem dX1_earliest_91 : decode cX1_earliest 91 = .ok (.iaload, 1) := by decide +kernel
theorem dX1_earliest_92 : decode cX1_earliest 92 = .ok (.iconst 3, 1) := by decide +kernel
theorem dX1_earliest_93 : decode cX1_earliest 93 = .ok (.if_icmp .ne 31, 3) := by decide +kernel
theorem dX1_earliest_96 : decode cX1_earliest 96 = .ok (.aload_n 0, 1) := by decide +kernel
theorem dX1_earliest_97 : decode cX1_earliest 97 = .ok (.aload_n 1, 1) := by decide +kernel
theorem dX1_earliest_98 : decode cX1_earliest 98 = .ok (.aload_n 2, 1) := by decide +kernel
theorem dX1_earliest_99 : decode cX1_earliest 99 = .ok (.iload 4, 2) := by decide +kernel
theorem dX1_earliest_101 : decode cX1_earliest 101 = .ok (.invokevirtual 109, 3) := by decide +kernel
theorem dX1_earliest_104 : decode cX1_earliest 104 = .ok (.istore 8, 2) := by decide +kernel
theorem dX1_earliest_106 : decode cX1_earliest 106 = .ok (.iload 6, 2) := by decide +kernel
theorem dX1_earliest_108 : decode cX1_earliest 108 = .ok (.aload_n 0, 1) := by decide +kernel
theorem dX1_earliest_109 : decode cX1_earliest 109 = .ok (.getfield 9, 3) := by decide +kernel
theorem dX1_earliest_112 : decode cX1_earliest 112 = .ok (.iload 7, 2) := by decide +kernel
theorem dX1_earliest_114 : decode cX1_earliest 114 = .ok (.iaload, 1) := by decide +kernel
theorem dX1_earliest_115 : decode cX1_earliest 115 = .ok (.iload 8, 2) := by decide +kernel
theorem dX1_earliest_117 : decode cX1_earliest 117 = .ok (.invokestatic 103, 3) := by decide +kernel
theorem dX1_earliest_120 : decode cX1_earliest 120 = .ok (.invokestatic 103, 3) := by decide +kernel
theorem dX1_earliest_123 : decode cX1_earliest 123 = .ok (.ireturn, 1) := by decide +kernel
theorem dX1_earliest_124 : decode cX1_earliest 124 = .ok (.iload 6, 2) := by decide +kernel
theorem dX1_earliest_126 : decode cX1_earliest 126 = .ok (.aload_n 0, 1) := by decide +kernel
theorem dX1_earliest_127 : decode cX1_earliest 127 = .ok (.aload_n 1, 1) := by decide +kernel
theorem dX1_earliest_128 : decode cX1_earliest 128 = .ok (.iload 7, 2) := by decide +kernel
theorem dX1_earliest_130 : decode cX1_earliest 130 = .ok (.invokevirtual 112, 3) := by decide +kernel
theorem dX1_earliest_133 : decode cX1_earliest 133 = .ok (.aload_n 1, 1) := by decide +kernel
theorem dX1_earliest_134 : decode cX1_earliest 134 = .ok (.iload 7, 2) := by decide +kernel
theorem dX1_earliest_136 : decode cX1_earliest 136 = .ok (.iload_n 3, 1) := by decide +kernel
theorem dX1_earliest_137 : decode cX1_earliest 137 = .ok (.invokestatic 115, 3) := by decide +kernel
theorem dX1_earliest_140 : decode cX1_earliest 140 = .ok (.iadd, 1) := by decide +kernel
theorem dX1_earliest_141 : decode cX1_earliest 141 = .ok (.invokestatic 103, 3) := by decide +kernel
theorem dX1_earliest_144 : decode cX1_earliest 144 = .ok (.ireturn, 1) := by decide +kernel
theorem dX1_endAheadInPiece_0 : decode cX1_endAheadInPiece 0 = .ok (.aload_n 1, 1) := by decide +kernel
theorem dX1_endAheadInPiece_1 : decode cX1_endAheadInPiece 1 = .ok (.getfield 119, 3) := by decide +kernel
theorem dX1_endAheadInPiece_4 : decode cX1_endAheadInPiece 4 = .ok (.iload_n 2, 1) := by decide +kernel
theorem dX1_endAheadInPiece_5 : decode cX1_endAheadInPiece 5 = .ok (.iaload, 1) := by decide +kernel
theorem dX1_endAheadInPiece_6 : decode cX1_endAheadInPiece 6 = .ok (.istore_n 3, 1) := by decide +kernel
theorem dX1_endAheadInPiece_7 : decode cX1_endAheadInPiece 7 = .ok (.iload_n 3, 1) := by decide +kernel
theorem dX1_endAheadInPiece_8 : decode cX1_endAheadInPiece 8 = .ok (.ifCond .ne 7, 3) := by decide +kernel
theorem dX1_endAheadInPiece_11 : decode cX1_endAheadInPiece 11 = .ok (.iconst 0, 1) := by decide +kernel
theorem dX1_endAheadInPiece_12 : decode cX1_endAheadInPiece 12 = .ok (.goto 23, 3) := by decide +kernel
theorem dX1_endAheadInPiece_15 : decode cX1_endAheadInPiece 15 = .ok (.aload_n 0, 1) := by decide +kernel
theorem dX1_endAheadInPiece_16 : decode cX1_endAheadInPiece 16 = .ok (.aload_n 1, 1) := by decide +kernel
theorem dX1_endAheadInPiece_17 : decode cX1_endAheadInPiece 17 = .ok (.aload_n 1, 1) := by decide +kernel
theorem dX1_endAheadInPiece_18 : decode cX1_endAheadInPiece 18 = .ok (.getfield 82, 3) := by decide +kernel
theorem dX1_endAheadInPiece_21 : decode cX1_endAheadInPiece 21 = .ok (.aload_n 1, 1) := by decide +kernel
theorem dX1_endAheadInPiece_22 : decode cX1_endAheadInPiece 22 = .ok (.getfield 122, 3) := by decide +kernel
theorem dX1_endAheadInPiece_25 : decode cX1_endAheadInPiece 25 = .ok (.iload_n 2, 1) := by decide +kernel
theorem dX1_endAheadInPiece_26 : decode cX1_endAheadInPiece 26 = .ok (.iaload, 1) := by decide +kernel
theorem dX1_endAheadInPiece_27 : decode cX1_endAheadInPiece 27 = .ok (.aaload, 1) := by decide +kernel
theorem dX1_endAheadInPiece_28 : decode cX1_endAheadInPiece 28 = .ok (.iload_n 3, 1) := by decide +kernel
theorem dX1_endAheadInPiece_29 : decode cX1_endAheadInPiece 29 = .ok (.iconst 1, 1) := by decide +kernel
theorem dX1_endAheadInPiece_30 : decode cX1_endAheadInPiece 30 = .ok (.isub, 1) := by decide +kernel
theorem dX1_endAheadInPiece_31 : decode cX1_endAheadInPiece 31 = .ok (.iaload, 1) := by decide +kernel
theorem dX1_endAheadInPiece_32 : decode cX1_endAheadInPiece 32 = .ok (.invokevirtual 112, 3) := by decide +kernel
theorem dX1_endAheadInPiece_35 : decode cX1_endAheadInPiece 35 = .ok (.ireturn, 1) := by decide +kernel
theorem dX1_pauseBetween_0 : decode cX1_pauseBetween 0 = .ok (.aload_n 0, 1) := by decide +kernel
theorem dX1_pauseBetween_1 : decode cX1_pauseBetween 1 = .ok (.getfield 86, 3) := by decide +kernel
theorem dX1_pauseBetween_4 : decode cX1_pauseBetween 4 = .ok (.iload_n 2, 1) := by decide +kernel
theorem dX1_pauseBetween_5 : decode cX1_pauseBetween 5 = .ok (.iaload, 1) := by decide +kernel
theorem dX1_pauseBetween_6 : decode cX1_pauseBetween 6 = .ok (.istore_n 3, 1) := by decide +kernel
theorem dX1_pauseBetween_7 : decode cX1_pauseBetween 7 = .ok (.aload_n 0, 1) := by decide +kernel
theorem dX1_pauseBetween_8 : decode cX1_pauseBetween 8 = .ok (.getfield 125, 3) := by decide +kernel
theorem dX1_pauseBetween_11 : decode cX1_pauseBetween 11 = .ok (.aload_n 0, 1) := by decide +kernel
theorem dX1_pauseBetween_12 : decode cX1_pauseBetween 12 = .ok (.getfield 122, 3) := by decide +kernel
theorem dX1_pauseBetween_15 : decode cX1_pauseBetween 15 = .ok (.iload_n 1, 1) := by decide +kernel
theorem dX1_pauseBetween_16 : decode cX1_pauseBetween 16 = .ok (.iaload, 1) := by decide +kernel
theorem dX1_pauseBetween_17 : decode cX1_pauseBetween 17 = .ok (.iaload, 1) := by decide +kernel
theorem dX1_pauseBetween_18 : decode cX1_pauseBetween 18 = .ok (.aload_n 0, 1) := by decide +kernel
theorem dX1_pauseBetween_19 : decode cX1_pauseBetween 19 = .ok (.getfield 125, 3) := by decide +kernel
theorem dX1_pauseBetween_22 : decode cX1_pauseBetween 22 = .ok (.aload_n 0, 1) := by decide +kernel
theorem dX1_pauseBetween_23 : decode cX1_pauseBetween 23 = .ok (.getfield 122, 3) := by decide +kernel
theorem dX1_pauseBetween_26 : decode cX1_pauseBetween 26 = .ok (.iload_n 2, 1) := by decide +kernel
theorem dX1_pauseBetween_27 : decode cX1_pauseBetween 27 = .ok (.iaload, 1) := by decide +kernel
theorem dX1_pauseBetween_28 : decode cX1_pauseBetween 28 = .ok (.iaload, 1) := by decide +kernel
theorem dX1_pauseBetween_29 : decode cX1_pauseBetween 29 = .ok (.if_icmp .ne 7, 3) := by decide +kernel
theorem dX1_pauseBetween_32 : decode cX1_pauseBetween 32 = .ok (.iconst 1, 1) := by decide +kernel
theorem dX1_pauseBetween_33 : decode cX1_pauseBetween 33 = .ok (.goto 4, 3) := by decide +kernel
theorem dX1_pauseBetween_36 : decode cX1_pauseBetween 36 = .ok (.iconst 0, 1) := by decide +kernel
theorem dX1_pauseBetween_37 : decode cX1_pauseBetween 37 = .ok (.istore 4, 2) := by decide +kernel
theorem dX1_pauseBetween_39 : decode cX1_pauseBetween 39 = .ok (.aload_n 0, 1) := by decide +kernel
theorem dX1_pauseBetween_40 : decode cX1_pauseBetween 40 = .ok (.getfield 89, 3) := by decide +kernel
theorem dX1_pauseBetween_43 : decode cX1_pauseBetween 43 = .ok (.iload_n 3, 1) := by decide +kernel
theorem dX1_pauseBetween_44 : decode cX1_pauseBetween 44 = .ok (.iaload, 1) := by decide +kernel
theorem dX1_pauseBetween_45 : decode cX1_pauseBetween 45 = .ok (.iconst 2, 1) := by decide +kernel
theorem dX1_pauseBetween_46 : decode cX1_pauseBetween 46 = .ok (.if_icmp .ne 17, 3) := by decide +kernel
theorem dX1_pauseBetween_49 : decode cX1_pauseBetween 49 = .ok (.iload 4, 2) := by decide +kernel
theorem dX1_pauseBetween_51 : decode cX1_pauseBetween 51 = .ok (.ifCond .ne 12, 3) := by decide +kernel
theorem dX1_pauseBetween_54 : decode cX1_pauseBetween 54 = .ok (.aload_n 0, 1) := by decide +kernel
theorem dX1_pauseBetween_55 : decode cX1_pauseBetween 55 = .ok (.getfield 128, 3) := by decide +kernel
theorem dX1_pauseBetween_58 : decode cX1_pauseBetween 58 = .ok (.iload_n 3, 1) := by decide +kernel
theorem dX1_pauseBetween_59 : decode cX1_pauseBetween 59 = .ok (.iaload, 1) := by decide +kernel
theorem dX1_pauseBetween_60 : decode cX1_pauseBetween 60 = .ok (.goto 4, 3) := by decide +kernel
theorem dX1_pauseBetween_63 : decode cX1_pauseBetween 63 = .ok (.iconst 0, 1) := by decide +kernel
theorem dX1_pauseBetween_64 : decode cX1_pauseBetween 64 = .ok (.ireturn, 1) := by decide +kernel
theorem dX1_freeHand_0 : decode cX1_freeHand 0 = .ok (.aload_n 0, 1) := by decide +kernel
theorem dX1_freeHand_1 : decode cX1_freeHand 1 = .ok (.getfield 36, 3) := by decide +kernel
theorem dX1_freeHand_4 : decode cX1_freeHand 4 = .ok (.iconst 0, 1) := by decide +kernel
theorem dX1_freeHand_5 : decode cX1_freeHand 5 = .ok (.invokestatic 39, 3) := by decide +kernel
theorem dX1_freeHand_8 : decode cX1_freeHand 8 = .ok (.iconst 0, 1) := by decide +kernel
theorem dX1_freeHand_9 : decode cX1_freeHand 9 = .ok (.istore 4, 2) := by decide +kernel
theorem dX1_freeHand_11 : decode cX1_freeHand 11 = .ok (.iload 4, 2) := by decide +kernel
theorem dX1_freeHand_13 : decode cX1_freeHand 13 = .ok (.aload_n 0, 1) := by decide +kernel
theorem dX1_freeHand_14 : decode cX1_freeHand 14 = .ok (.getfield 33, 3) := by decide +kernel
theorem dX1_freeHand_17 : decode cX1_freeHand 17 = .ok (.iload_n 3, 1) := by decide +kernel
theorem dX1_freeHand_18 : decode cX1_freeHand 18 = .ok (.iaload, 1) := by decide +kernel
theorem dX1_freeHand_19 : decode cX1_freeHand 19 = .ok (.if_icmp .ge 27, 3) := by decide +kernel
theorem dX1_freeHand_22 : decode cX1_freeHand 22 = .ok (.aload_n 0, 1) := by decide +kernel
theorem dX1_freeHand_23 : decode cX1_freeHand 23 = .ok (.aload_n 0, 1) := by decide +kernel
theorem dX1_freeHand_24 : decode cX1_freeHand 24 = .ok (.aload_n 1, 1) := by decide +kernel
theorem dX1_freeHand_25 : decode cX1_freeHand 25 = .ok (.aload_n 2, 1) := by decide +kernel
theorem dX1_freeHand_26 : decode cX1_freeHand 26 = .ok (.getfield 97, 3) := by decide +kernel
theorem dX1_freeHand_29 : decode cX1_freeHand 29 = .ok (.iload_n 3, 1) := by decide +kernel
theorem dX1_freeHand_30 : decode cX1_freeHand 30 = .ok (.aaload, 1) := by decide +kernel
theorem dX1_freeHand_31 : decode cX1_freeHand 31 = .ok (.iload 4, 2) := by decide +kernel
theorem dX1_freeHand_33 : decode cX1_freeHand 33 = .ok (.iaload, 1) := by decide +kernel
theorem dX1_freeHand_34 : decode cX1_freeHand 34 = .ok (.invokevirtual 112, 3) := by decide +kernel
theorem dX1_freeHand_37 : decode cX1_freeHand 37 = .ok (.invokevirtual 131, 3) := by decide +kernel
theorem dX1_freeHand_40 : decode cX1_freeHand 40 = .ok (.iinc 4 1, 3) := by decide +kernel
theorem dX1_freeHand_43 : decode cX1_freeHand 43 = .ok (.goto (-32), 3) := by decide +kernel
theorem dX1_freeHand_46 : decode cX1_freeHand 46 = .ok (.aload_n 0, 1) := by decide +kernel
theorem dX1_freeHand_47 : decode cX1_freeHand 47 = .ok (.getfield 36, 3) := by decide +kernel
theorem dX1_freeHand_50 : decode cX1_freeHand 50 = .ok (.aload_n 1, 1) := by decide +kernel
theorem dX1_freeHand_51 : decode cX1_freeHand 51 = .ok (.getfield 128, 3) := by decide +kernel
theorem dX1_freeHand_54 : decode cX1_freeHand 54 = .ok (.iload_n 3, 1) := by decide +kernel
theorem dX1_freeHand_55 : decode cX1_freeHand 55 = .ok (.iaload, 1) := by decide +kernel
theorem dX1_freeHand_56 : decode cX1_freeHand 56 = .ok (.iconst 1, 1) := by decide +kernel
theorem dX1_freeHand_57 : decode cX1_freeHand 57 = .ok (.isub, 1) := by decide +kernel
theorem dX1_freeHand_58 : decode cX1_freeHand 58 = .ok (.iaload, 1) := by decide +kernel
theorem dX1_freeHand_59 : decode cX1_freeHand 59 = .ok (.ireturn, 1) := by decide +kernel
theorem dX1_keepLatest_0 : decode cX1_keepLatest 0 = .ok (.iload_n 1, 1) := by decide +kernel
theorem dX1_keepLatest_1 : decode cX1_keepLatest 1 = .ok (.istore_n 2, 1) := by decide +kernel
theorem dX1_keepLatest_2 : decode cX1_keepLatest 2 = .ok (.iconst 0, 1) := by decide +kernel
theorem dX1_keepLatest_3 : decode cX1_keepLatest 3 = .ok (.istore_n 3, 1) := by decide +kernel
theorem dX1_keepLatest_4 : decode cX1_keepLatest 4 = .ok (.iload_n 3, 1) := by decide +kernel
theorem dX1_keepLatest_5 : decode cX1_keepLatest 5 = .ok (.iconst 4, 1) := by decide +kernel
theorem dX1_keepLatest_6 : decode cX1_keepLatest 6 = .ok (.if_icmp .ge 37, 3) := by decide +kernel
theorem dX1_keepLatest_9 : decode cX1_keepLatest 9 = .ok (.iload_n 2, 1) := by decide +kernel
theorem dX1_keepLatest_10 : decode cX1_keepLatest 10 = .ok (.aload_n 0, 1) := by decide +kernel
theorem dX1_keepLatest_11 : decode cX1_keepLatest 11 = .ok (.getfield 36, 3) := by decide +kernel
theorem dX1_keepLatest_14 : decode cX1_keepLatest 14 = .ok (.iload_n 3, 1) := by decide +kernel
theorem dX1_keepLatest_15 : decode cX1_keepLatest 15 = .ok (.iaload, 1) := by decide +kernel
theorem dX1_keepLatest_16 : decode cX1_keepLatest 16 = .ok (.if_icmp .le 21, 3) := by decide +kernel
theorem dX1_keepLatest_19 : decode cX1_keepLatest 19 = .ok (.aload_n 0, 1) := by decide +kernel
theorem dX1_keepLatest_20 : decode cX1_keepLatest 20 = .ok (.getfield 36, 3) := by decide +kernel
theorem dX1_keepLatest_23 : decode cX1_keepLatest 23 = .ok (.iload_n 3, 1) := by decide +kernel
theorem dX1_keepLatest_24 : decode cX1_keepLatest 24 = .ok (.iaload, 1) := by decide +kernel
theorem dX1_keepLatest_25 : decode cX1_keepLatest 25 = .ok (.istore 4, 2) := by decide +kernel
theorem dX1_keepLatest_27 : decode cX1_keepLatest 27 = .ok (.aload_n 0, 1) := by decide +kernel
theorem dX1_keepLatest_28 : decode cX1_keepLatest 28 = .ok (.getfield 36, 3) := by decide +kernel
theorem dX1_keepLatest_31 : decode cX1_keepLatest 31 = .ok (.iload_n 3, 1) := by decide +kernel
theorem dX1_keepLatest_32 : decode cX1_keepLatest 32 = .ok (.iload_n 2, 1) := by decide +kernel
theorem dX1_keepLatest_33 : decode cX1_keepLatest 33 = .ok (.iastore, 1) := by decide +kernel
theorem dX1_keepLatest_34 : decode cX1_keepLatest 34 = .ok (.iload 4, 2) := by decide +kernel
theorem dX1_keepLatest_36 : decode cX1_keepLatest 36 = .ok (.istore_n 2, 1) := by decide +kernel
theorem dX1_keepLatest_37 : decode cX1_keepLatest 37 = .ok (.iinc 3 1, 3) := by decide +kernel
theorem dX1_keepLatest_40 : decode cX1_keepLatest 40 = .ok (.goto (-36), 3) := by decide +kernel
theorem dX1_keepLatest_43 : decode cX1_keepLatest 43 = .ok (.return_, 1) := by decide +kernel
theorem dX1_set_0 : decode cX1_set 0 = .ok (.aload_n 1, 1) := by decide +kernel
theorem dX1_set_1 : decode cX1_set 1 = .ok (.getfield 86, 3) := by decide +kernel
theorem dX1_set_4 : decode cX1_set 4 = .ok (.iload_n 3, 1) := by decide +kernel
theorem dX1_set_5 : decode cX1_set 5 = .ok (.iaload, 1) := by decide +kernel
theorem dX1_set_6 : decode cX1_set 6 = .ok (.istore 5, 2) := by decide +kernel
theorem dX1_set_8 : decode cX1_set 8 = .ok (.aload_n 0, 1) := by decide +kernel
theorem dX1_set_9 : decode cX1_set 9 = .ok (.getfield 33, 3) := by decide +kernel
theorem dX1_set_12 : decode cX1_set 12 = .ok (.iload 5, 2) := by decide +kernel
theorem dX1_set_14 : decode cX1_set 14 = .ok (.iaload, 1) := by decide +kernel
theorem dX1_set_15 : decode cX1_set 15 = .ok (.istore 6, 2) := by decide +kernel
theorem dX1_set_17 : decode cX1_set 17 = .ok (.aload_n 0, 1) := by decide +kernel
theorem dX1_set_18 : decode cX1_set 18 = .ok (.getfield 9, 3) := by decide +kernel
theorem dX1_set_21 : decode cX1_set 21 = .ok (.iload_n 3, 1) := by decide +kernel
theorem dX1_set_22 : decode cX1_set 22 = .ok (.iload 4, 2) := by decide +kernel
theorem dX1_set_24 : decode cX1_set 24 = .ok (.iastore, 1) := by decide +kernel
theorem dX1_set_25 : decode cX1_set 25 = .ok (.aload_n 0, 1) := by decide +kernel
theorem dX1_set_26 : decode cX1_set 26 = .ok (.aload_n 0, 1) := by decide +kernel
theorem dX1_set_27 : decode cX1_set 27 = .ok (.getfield 49, 3) := by decide +kernel
theorem dX1_set_30 : decode cX1_set 30 = .ok (.aload_n 0, 1) := by decide +kernel
theorem dX1_set_31 : decode cX1_set 31 = .ok (.aload_n 1, 1) := by decide +kernel
theorem dX1_set_32 : decode cX1_set 32 = .ok (.iload_n 3, 1) := by decide +kernel
theorem dX1_set_33 : decode cX1_set 33 = .ok (.invokevirtual 112, 3) := by decide +kernel
theorem dX1_set_36 : decode cX1_set 36 = .ok (.invokestatic 103, 3) := by decide +kernel
theorem dX1_set_39 : decode cX1_set 39 = .ok (.putfield 49, 3) := by decide +kernel
theorem dX1_set_42 : decode cX1_set 42 = .ok (.aload_n 1, 1) := by decide +kernel
theorem dX1_set_43 : decode cX1_set 43 = .ok (.getfield 89, 3) := by decide +kernel
theorem dX1_set_46 : decode cX1_set 46 = .ok (.iload 5, 2) := by decide +kernel
theorem dX1_set_48 : decode cX1_set 48 = .ok (.iaload, 1) := by decide +kernel
theorem dX1_set_49 : decode cX1_set 49 = .ok (.ifCond .ne 26, 3) := by decide +kernel
theorem dX1_set_52 : decode cX1_set 52 = .ok (.iload 6, 2) := by decide +kernel
theorem dX1_set_54 : decode cX1_set 54 = .ok (.ifCond .le 21, 3) := by decide +kernel
theorem dX1_set_57 : decode cX1_set 57 = .ok (.aload_n 0, 1) := by decide +kernel
theorem dX1_set_58 : decode cX1_set 58 = .ok (.getfield 27, 3) := by decide +kernel
theorem dX1_set_61 : decode cX1_set 61 = .ok (.aload_n 2, 1) := by decide +kernel
theorem dX1_set_62 : decode cX1_set 62 = .ok (.getfield 97, 3) := by decide +kernel
theorem dX1_set_65 : decode cX1_set 65 = .ok (.iload 5, 2) := by decide +kernel
theorem dX1_set_67 : decode cX1_set 67 = .ok (.aaload, 1) := by decide +kernel
theorem dX1_set_68 : decode cX1_set 68 = .ok (.iload 6, 2) := by decide +kernel
theorem dX1_set_70 : decode cX1_set 70 = .ok (.iconst 1, 1) := by decide +kernel
theorem dX1_set_71 : decode cX1_set 71 = .ok (.isub, 1) := by decide +kernel
theorem dX1_set_72 : decode cX1_set 72 = .ok (.iaload, 1) := by decide +kernel
theorem dX1_set_73 : decode cX1_set 73 = .ok (.iload_n 3, 1) := by decide +kernel
theorem dX1_set_74 : decode cX1_set 74 = .ok (.iastore, 1) := by decide +kernel
theorem dX1_set_75 : decode cX1_set 75 = .ok (.aload_n 0, 1) := by decide +kernel
theorem dX1_set_76 : decode cX1_set 76 = .ok (.getfield 24, 3) := by decide +kernel
theorem dX1_set_79 : decode cX1_set 79 = .ok (.aload_n 0, 1) := by decide +kernel
theorem dX1_set_80 : decode cX1_set 80 = .ok (.getfield 45, 3) := by decide +kernel
theorem dX1_set_83 : decode cX1_set 83 = .ok (.iload_n 3, 1) := by decide +kernel
theorem dX1_set_84 : decode cX1_set 84 = .ok (.iastore, 1) := by decide +kernel
theorem dX1_set_85 : decode cX1_set 85 = .ok (.aload_n 0, 1) := by decide +kernel
theorem dX1_set_86 : decode cX1_set 86 = .ok (.dup, 1) := by decide +kernel
theorem dX1_set_87 : decode cX1_set 87 = .ok (.getfield 45, 3) := by decide +kernel
theorem dX1_set_90 : decode cX1_set 90 = .ok (.iconst 1, 1) := by decide +kernel
theorem dX1_set_91 : decode cX1_set 91 = .ok (.iadd, 1) := by decide +kernel
theorem dX1_set_92 : decode cX1_set 92 = .ok (.putfield 45, 3) := by decide +kernel
theorem dX1_set_95 : decode cX1_set 95 = .ok (.aload_n 0, 1) := by decide +kernel
theorem dX1_set_96 : decode cX1_set 96 = .ok (.getfield 30, 3) := by decide +kernel
theorem dX1_set_99 : decode cX1_set 99 = .ok (.aload_n 1, 1) := by decide +kernel
theorem dX1_set_100 : decode cX1_set 100 = .ok (.getfield 122, 3) := by decide +kernel
theorem dX1_set_103 : decode cX1_set 103 = .ok (.iload_n 3, 1) := by decide +kernel
theorem dX1_set_104 : decode cX1_set 104 = .ok (.iaload, 1) := by decide +kernel
theorem dX1_set_105 : decode cX1_set 105 = .ok (.dup2, 1) := by decide +kernel
theorem dX1_set_106 : decode cX1_set 106 = .ok (.iaload, 1) := by decide +kernel
theorem dX1_set_107 : decode cX1_set 107 = .ok (.iconst 1, 1) := by decide +kernel
theorem dX1_set_108 : decode cX1_set 108 = .ok (.iadd, 1) := by decide +kernel
theorem dX1_set_109 : decode cX1_set 109 = .ok (.iastore, 1) := by decide +kernel
theorem dX1_set_110 : decode cX1_set 110 = .ok (.aload_n 0, 1) := by decide +kernel
theorem dX1_set_111 : decode cX1_set 111 = .ok (.getfield 33, 3) := by decide +kernel
theorem dX1_set_114 : decode cX1_set 114 = .ok (.iload 5, 2) := by decide +kernel
theorem dX1_set_116 : decode cX1_set 116 = .ok (.dup2, 1) := by decide +kernel
theorem dX1_set_117 : decode cX1_set 117 = .ok (.iaload, 1) := by decide +kernel
theorem dX1_set_118 : decode cX1_set 118 = .ok (.iconst 1, 1) := by decide +kernel
theorem dX1_set_119 : decode cX1_set 119 = .ok (.iadd, 1) := by decide +kernel
theorem dX1_set_120 : decode cX1_set 120 = .ok (.iastore, 1) := by decide +kernel
theorem dX1_set_121 : decode cX1_set 121 = .ok (.return_, 1) := by decide +kernel
theorem dX1_endOf_0 : decode cX1_endOf 0 = .ok (.aload_n 0, 1) := by decide +kernel
theorem dX1_endOf_1 : decode cX1_endOf 1 = .ok (.getfield 9, 3) := by decide +kernel
theorem dX1_endOf_4 : decode cX1_endOf 4 = .ok (.iload_n 2, 1) := by decide +kernel
theorem dX1_endOf_5 : decode cX1_endOf 5 = .ok (.iaload, 1) := by decide +kernel
theorem dX1_endOf_6 : decode cX1_endOf 6 = .ok (.aload_n 1, 1) := by decide +kernel
theorem dX1_endOf_7 : decode cX1_endOf 7 = .ok (.getfield 135, 3) := by decide +kernel
theorem dX1_endOf_10 : decode cX1_endOf 10 = .ok (.iload_n 2, 1) := by decide +kernel
theorem dX1_endOf_11 : decode cX1_endOf 11 = .ok (.iaload, 1) := by decide +kernel
theorem dX1_endOf_12 : decode cX1_endOf 12 = .ok (.iadd, 1) := by decide +kernel
theorem dX1_endOf_13 : decode cX1_endOf 13 = .ok (.ireturn, 1) := by decide +kernel
theorem dX1_findTails_0 : decode cX1_findTails 0 = .ok (.aload_n 0, 1) := by decide +kernel
theorem dX1_findTails_1 : decode cX1_findTails 1 = .ok (.getfield 45, 3) := by decide +kernel
theorem dX1_findTails_4 : decode cX1_findTails 4 = .ok (.iconst 1, 1) := by decide +kernel
theorem dX1_findTails_5 : decode cX1_findTails 5 = .ok (.isub, 1) := by decide +kernel
theorem dX1_findTails_6 : decode cX1_findTails 6 = .ok (.istore_n 2, 1) := by decide +kernel
theorem dX1_findTails_7 : decode cX1_findTails 7 = .ok (.iload_n 2, 1) := by decide +kernel
theorem dX1_findTails_8 : decode cX1_findTails 8 = .ok (.ifCond .lt 54, 3) := by decide +kernel
theorem dX1_findTails_11 : decode cX1_findTails 11 = .ok (.aload_n 0, 1) := by decide +kernel
theorem dX1_findTails_12 : decode cX1_findTails 12 = .ok (.getfield 24, 3) := by decide +kernel
theorem dX1_findTails_15 : decode cX1_findTails 15 = .ok (.iload_n 2, 1) := by decide +kernel
theorem dX1_findTails_16 : decode cX1_findTails 16 = .ok (.iaload, 1) := by decide +kernel
theorem dX1_findTails_17 : decode cX1_findTails 17 = .ok (.istore_n 3, 1) := by decide +kernel
theorem dX1_findTails_18 : decode cX1_findTails 18 = .ok (.aload_n 0, 1) := by decide +kernel
theorem dX1_findTails_19 : decode cX1_findTails 19 = .ok (.aload_n 1, 1) := by decide +kernel
theorem dX1_findTails_20 : decode cX1_findTails 20 = .ok (.aload_n 1, 1) := by decide +kernel
theorem dX1_findTails_21 : decode cX1_findTails 21 = .ok (.iload_n 3, 1) := by decide +kernel
theorem dX1_findTails_22 : decode cX1_findTails 22 = .ok (.invokevirtual 138, 3) := by decide +kernel
theorem dX1_findTails_25 : decode cX1_findTails 25 = .ok (.invokevirtual 142, 3) := by decide +kernel
theorem dX1_findTails_28 : decode cX1_findTails 28 = .ok (.istore 4, 2) := by decide +kernel
theorem dX1_findTails_30 : decode cX1_findTails 30 = .ok (.aload_n 0, 1) := by decide +kernel
theorem dX1_findTails_31 : decode cX1_findTails 31 = .ok (.aload_n 1, 1) := by decide +kernel
theorem dX1_findTails_32 : decode cX1_findTails 32 = .ok (.aload_n 0, 1) := by decide +kernel
theorem dX1_findTails_33 : decode cX1_findTails 33 = .ok (.getfield 27, 3) := by decide +kernel
theorem dX1_findTails_36 : decode cX1_findTails 36 = .ok (.iload_n 3, 1) := by decide +kernel
theorem dX1_findTails_37 : decode cX1_findTails 37 = .ok (.iaload, 1) := by decide +kernel
theorem dX1_findTails_38 : decode cX1_findTails 38 = .ok (.invokevirtual 142, 3) := by decide +kernel
theorem dX1_findTails_41 : decode cX1_findTails 41 = .ok (.istore 5, 2) := by decide +kernel
theorem dX1_findTails_43 : decode cX1_findTails 43 = .ok (.aload_n 0, 1) := by decide +kernel
theorem dX1_findTails_44 : decode cX1_findTails 44 = .ok (.getfield 15, 3) := by decide +kernel
theorem dX1_findTails_47 : decode cX1_findTails 47 = .ok (.iload_n 3, 1) := by decide +kernel
theorem dX1_findTails_48 : decode cX1_findTails 48 = .ok (.iload 4, 2) := by decide +kernel
theorem dX1_findTails_50 : decode cX1_findTails 50 = .ok (.iload 5, 2) := by decide +kernel
theorem dX1_findTails_52 : decode cX1_findTails 52 = .ok (.invokestatic 103, 3) := by decide +kernel
theorem dX1_findTails_55 : decode cX1_findTails 55 = .ok (.iastore, 1) := by decide +kernel
theorem dX1_findTails_56 : decode cX1_findTails 56 = .ok (.iinc 2 (-1), 3) := by decide +kernel
theorem dX1_findTails_59 : decode cX1_findTails 59 = .ok (.goto (-52), 3) := by decide +kernel
theorem dX1_findTails_62 : decode cX1_findTails 62 = .ok (.return_, 1) := by decide +kernel
theorem dX1_lengthFrom_0 : decode cX1_lengthFrom 0 = .ok (.iload_n 2, 1) := by decide +kernel
theorem dX1_lengthFrom_1 : decode cX1_lengthFrom 1 = .ok (.iconst (-1), 1) := by decide +kernel
theorem dX1_lengthFrom_2 : decode cX1_lengthFrom 2 = .ok (.if_icmp .ne 7, 3) := by decide +kernel
theorem dX1_lengthFrom_5 : decode cX1_lengthFrom 5 = .ok (.iconst 0, 1) := by decide +kernel
theorem dX1_lengthFrom_6 : decode cX1_lengthFrom 6 = .ok (.goto 16, 3) := by decide +kernel
theorem dX1_lengthFrom_9 : decode cX1_lengthFrom 9 = .ok (.aload_n 1, 1) := by decide +kernel
theorem dX1_lengthFrom_10 : decode cX1_lengthFrom 10 = .ok (.getfield 135, 3) := by decide +kernel
theorem dX1_lengthFrom_13 : decode cX1_lengthFrom 13 = .ok (.iload_n 2, 1) := by decide +kernel
theorem dX1_lengthFrom_14 : decode cX1_lengthFrom 14 = .ok (.iaload, 1) := by decide +kernel
theorem dX1_lengthFrom_15 : decode cX1_lengthFrom 15 = .ok (.aload_n 0, 1) := by decide +kernel
theorem dX1_lengthFrom_16 : decode cX1_lengthFrom 16 = .ok (.getfield 15, 3) := by decide +kernel
theorem dX1_lengthFrom_19 : decode cX1_lengthFrom 19 = .ok (.iload_n 2, 1) := by decide +kernel
theorem dX1_lengthFrom_20 : decode cX1_lengthFrom 20 = .ok (.iaload, 1) := by decide +kernel
theorem dX1_lengthFrom_21 : decode cX1_lengthFrom 21 = .ok (.iadd, 1) := by decide +kernel
theorem dX1_lengthFrom_22 : decode cX1_lengthFrom 22 = .ok (.ireturn, 1) := by decide +kernel
theorem dX1_slack_0 : decode cX1_slack 0 = .ok (.aload_n 0, 1) := by decide +kernel
theorem dX1_slack_1 : decode cX1_slack 1 = .ok (.getfield 49, 3) := by decide +kernel
theorem dX1_slack_4 : decode cX1_slack 4 = .ok (.aload_n 0, 1) := by decide +kernel
theorem dX1_slack_5 : decode cX1_slack 5 = .ok (.aload_n 1, 1) := by decide +kernel
theorem dX1_slack_6 : decode cX1_slack 6 = .ok (.iload_n 2, 1) := by decide +kernel
theorem dX1_slack_7 : decode cX1_slack 7 = .ok (.invokevirtual 112, 3) := by decide +kernel
theorem dX1_slack_10 : decode cX1_slack 10 = .ok (.isub, 1) := by decide +kernel
theorem dX1_slack_11 : decode cX1_slack 11 = .ok (.aload_n 0, 1) := by decide +kernel
theorem dX1_slack_12 : decode cX1_slack 12 = .ok (.getfield 15, 3) := by decide +kernel
theorem dX1_slack_15 : decode cX1_slack 15 = .ok (.iload_n 2, 1) := by decide +kernel
theorem dX1_slack_16 : decode cX1_slack 16 = .ok (.iaload, 1) := by decide +kernel
theorem dX1_slack_17 : decode cX1_slack 17 = .ok (.isub, 1) := by decide +kernel
theorem dX1_slack_18 : decode cX1_slack 18 = .ok (.ireturn, 1) := by decide +kernel
theorem dX1_firstOfRow_0 : decode cX1_firstOfRow 0 = .ok (.iconst 0, 1) := by decide +kernel
theorem dX1_firstOfRow_1 : decode cX1_firstOfRow 1 = .ok (.istore_n 2, 1) := by decide +kernel
theorem dX1_firstOfRow_2 : decode cX1_firstOfRow 2 = .ok (.iload_n 2, 1) := by decide +kernel
theorem dX1_firstOfRow_3 : decode cX1_firstOfRow 3 = .ok (.aload_n 1, 1) := by decide +kernel
theorem dX1_firstOfRow_4 : decode cX1_firstOfRow 4 = .ok (.getfield 55, 3) := by decide +kernel
theorem dX1_firstOfRow_7 : decode cX1_firstOfRow 7 = .ok (.if_icmp .ge 29, 3) := by decide +kernel
theorem dX1_firstOfRow_10 : decode cX1_firstOfRow 10 = .ok (.aload_n 0, 1) := by decide +kernel
theorem dX1_firstOfRow_11 : decode cX1_firstOfRow 11 = .ok (.getfield 9, 3) := by decide +kernel
theorem dX1_firstOfRow_14 : decode cX1_firstOfRow 14 = .ok (.iload_n 2, 1) := by decide +kernel
theorem dX1_firstOfRow_15 : decode cX1_firstOfRow 15 = .ok (.iaload, 1) := by decide +kernel
theorem dX1_firstOfRow_16 : decode cX1_firstOfRow 16 = .ok (.ifCond .ne 14, 3) := by decide +kernel
theorem dX1_firstOfRow_19 : decode cX1_firstOfRow 19 = .ok (.aload_n 0, 1) := by decide +kernel
theorem dX1_firstOfRow_20 : decode cX1_firstOfRow 20 = .ok (.aload_n 1, 1) := by decide +kernel
theorem dX1_firstOfRow_21 : decode cX1_firstOfRow 21 = .ok (.iload_n 2, 1) := by decide +kernel
theorem dX1_firstOfRow_22 : decode cX1_firstOfRow 22 = .ok (.invokevirtual 145, 3) := by decide +kernel
theorem dX1_firstOfRow_25 : decode cX1_firstOfRow 25 = .ok (.ifCond .ne 5, 3) := by decide +kernel
theorem dX1_firstOfRow_28 : decode cX1_firstOfRow 28 = .ok (.iload_n 2, 1) := by decide +kernel
theorem dX1_firstOfRow_29 : decode cX1_firstOfRow 29 = .ok (.ireturn, 1) := by decide +kernel
theorem dX1_firstOfRow_30 : decode cX1_firstOfRow 30 = .ok (.iinc 2 1, 3) := by decide +kernel
theorem dX1_firstOfRow_33 : decode cX1_firstOfRow 33 = .ok (.goto (-31), 3) := by decide +kernel
theorem dX1_firstOfRow_36 : decode cX1_firstOfRow 36 = .ok (.iconst (-1), 1) := by decide +kernel
theorem dX1_firstOfRow_37 : decode cX1_firstOfRow 37 = .ok (.ireturn, 1) := by decide +kernel
theorem dX1_nextOfRow_0 : decode cX1_nextOfRow 0 = .ok (.aload_n 1, 1) := by decide +kernel
theorem dX1_nextOfRow_1 : decode cX1_nextOfRow 1 = .ok (.iload_n 2, 1) := by decide +kernel
theorem dX1_nextOfRow_2 : decode cX1_nextOfRow 2 = .ok (.invokevirtual 138, 3) := by decide +kernel
theorem dX1_nextOfRow_5 : decode cX1_nextOfRow 5 = .ok (.istore_n 3, 1) := by decide +kernel
theorem dX1_nextOfRow_6 : decode cX1_nextOfRow 6 = .ok (.aload_n 0, 1) := by decide +kernel
theorem dX1_nextOfRow_7 : decode cX1_nextOfRow 7 = .ok (.aload_n 1, 1) := by decide +kernel
theorem dX1_nextOfRow_8 : decode cX1_nextOfRow 8 = .ok (.iload_n 2, 1) := by decide +kernel
theorem dX1_nextOfRow_9 : decode cX1_nextOfRow 9 = .ok (.iload_n 3, 1) := by decide +kernel
theorem dX1_nextOfRow_10 : decode cX1_nextOfRow 10 = .ok (.invokevirtual 148, 3) := by decide +kernel
theorem dX1_nextOfRow_13 : decode cX1_nextOfRow 13 = .ok (.ifCond .eq 5, 3) := by decide +kernel
theorem dX1_nextOfRow_16 : decode cX1_nextOfRow 16 = .ok (.iload_n 3, 1) := by decide +kernel
theorem dX1_nextOfRow_17 : decode cX1_nextOfRow 17 = .ok (.ireturn, 1) := by decide +kernel
theorem dX1_nextOfRow_18 : decode cX1_nextOfRow 18 = .ok (.aload_n 0, 1) := by decide +kernel
theorem dX1_nextOfRow_19 : decode cX1_nextOfRow 19 = .ok (.getfield 27, 3) := by decide +kernel
theorem dX1_nextOfRow_22 : decode cX1_nextOfRow 22 = .ok (.iload_n 2, 1) := by decide +kernel
theorem dX1_nextOfRow_23 : decode cX1_nextOfRow 23 = .ok (.iaload, 1) := by decide +kernel
theorem dX1_nextOfRow_24 : decode cX1_nextOfRow 24 = .ok (.istore 4, 2) := by decide +kernel
theorem dX1_nextOfRow_26 : decode cX1_nextOfRow 26 = .ok (.aload_n 0, 1) := by decide +kernel
theorem dX1_nextOfRow_27 : decode cX1_nextOfRow 27 = .ok (.aload_n 1, 1) := by decide +kernel
theorem dX1_nextOfRow_28 : decode cX1_nextOfRow 28 = .ok (.iload_n 2, 1) := by decide +kernel
theorem dX1_nextOfRow_29 : decode cX1_nextOfRow 29 = .ok (.iload 4, 2) := by decide +kernel
theorem dX1_nextOfRow_31 : decode cX1_nextOfRow 31 = .ok (.invokevirtual 148, 3) := by decide +kernel
theorem dX1_nextOfRow_34 : decode cX1_nextOfRow 34 = .ok (.ifCond .eq 8, 3) := by decide +kernel
theorem dX1_nextOfRow_37 : decode cX1_nextOfRow 37 = .ok (.iload 4, 2) := by decide +kernel
theorem dX1_nextOfRow_39 : decode cX1_nextOfRow 39 = .ok (.goto 4, 3) := by decide +kernel
theorem dX1_nextOfRow_42 : decode cX1_nextOfRow 42 = .ok (.iconst (-1), 1) := by decide +kernel
theorem dX1_nextOfRow_43 : decode cX1_nextOfRow 43 = .ok (.ireturn, 1) := by decide +kernel
theorem dX1_followsInRow_0 : decode cX1_followsInRow 0 = .ok (.iload_n 3, 1) := by decide +kernel
theorem dX1_followsInRow_1 : decode cX1_followsInRow 1 = .ok (.iconst (-1), 1) := by decide +kernel
theorem dX1_followsInRow_2 : decode cX1_followsInRow 2 = .ok (.if_icmp .eq 31, 3) := by decide +kernel
theorem dX1_followsInRow_5 : decode cX1_followsInRow 5 = .ok (.aload_n 0, 1) := by decide +kernel
theorem dX1_followsInRow_6 : decode cX1_followsInRow 6 = .ok (.getfield 9, 3) := by decide +kernel
theorem dX1_followsInRow_9 : decode cX1_followsInRow 9 = .ok (.iload_n 3, 1) := by decide +kernel
theorem dX1_followsInRow_10 : decode cX1_followsInRow 10 = .ok (.iaload, 1) := by decide +kernel
theorem dX1_followsInRow_11 : decode cX1_followsInRow 11 = .ok (.aload_n 0, 1) := by decide +kernel
theorem dX1_followsInRow_12 : decode cX1_followsInRow 12 = .ok (.aload_n 1, 1) := by decide +kernel
theorem dX1_followsInRow_13 : decode cX1_followsInRow 13 = .ok (.iload_n 2, 1) := by decide +kernel
theorem dX1_followsInRow_14 : decode cX1_followsInRow 14 = .ok (.invokevirtual 112, 3) := by decide +kernel
theorem dX1_followsInRow_17 : decode cX1_followsInRow 17 = .ok (.if_icmp .ne 16, 3) := by decide +kernel
theorem dX1_followsInRow_20 : decode cX1_followsInRow 20 = .ok (.aload_n 0, 1) := by decide +kernel
theorem dX1_followsInRow_21 : decode cX1_followsInRow 21 = .ok (.aload_n 1, 1) := by decide +kernel
theorem dX1_followsInRow_22 : decode cX1_followsInRow 22 = .ok (.iload_n 3, 1) := by decide +kernel
theorem dX1_followsInRow_23 : decode cX1_followsInRow 23 = .ok (.invokevirtual 145, 3) := by decide +kernel
theorem dX1_followsInRow_26 : decode cX1_followsInRow 26 = .ok (.ifCond .ne 7, 3) := by decide +kernel
theorem dX1_followsInRow_29 : decode cX1_followsInRow 29 = .ok (.iconst 1, 1) := by decide +kernel
theorem dX1_followsInRow_30 : decode cX1_followsInRow 30 = .ok (.goto 4, 3) := by decide +kernel
theorem dX1_followsInRow_33 : decode cX1_followsInRow 33 = .ok (.iconst 0, 1) := by decide +kernel
theorem dX1_followsInRow_34 : decode cX1_followsInRow 34 = .ok (.ireturn, 1) := by decide +kernel
theorem dX2_init_0 : decode cX2_init 0 = .ok (.aload_n 0, 1) := by decide +kernel
theorem dX2_init_1 : decode cX2_init 1 = .ok (.invokespecial 3, 3) := by decide +kernel
theorem dX2_init_4 : decode cX2_init 4 = .ok (.aload_n 0, 1) := by decide +kernel
theorem dX2_init_5 : decode cX2_init 5 = .ok (.bipush 8, 2) := by decide +kernel
theorem dX2_init_7 : decode cX2_init 7 = .ok (.newarray .int, 2) := by decide +kernel
theorem dX2_init_9 : decode cX2_init 9 = .ok (.putfield 9, 3) := by decide +kernel
theorem dX2_init_12 : decode cX2_init 12 = .ok (.aload_n 0, 1) := by decide +kernel
theorem dX2_init_13 : decode cX2_init 13 = .ok (.bipush 8, 2) := by decide +kernel
theorem dX2_init_15 : decode cX2_init 15 = .ok (.newarray .int, 2) := by decide +kernel
theorem dX2_init_17 : decode cX2_init 17 = .ok (.putfield 15, 3) := by decide +kernel
theorem dX2_init_20 : decode cX2_init 20 = .ok (.aload_n 0, 1) := by decide +kernel
theorem dX2_init_21 : decode cX2_init 21 = .ok (.bipush 12, 2) := by decide +kernel
theorem dX2_init_23 : decode cX2_init 23 = .ok (.newarray .int, 2) := by decide +kernel
theorem dX2_init_25 : decode cX2_init 25 = .ok (.putfield 18, 3) := by decide +kernel
theorem dX2_init_28 : decode cX2_init 28 = .ok (.aload_n 0, 1) := by decide +kernel
theorem dX2_init_29 : decode cX2_init 29 = .ok (.bipush 12, 2) := by decide +kernel
theorem dX2_init_31 : decode cX2_init 31 = .ok (.bipush 8, 2) := by decide +kernel
theorem dX2_init_33 : decode cX2_init 33 = .ok (.multianewarray 21 2, 4) := by decide +kernel
theorem dX2_init_37 : decode cX2_init 37 = .ok (.putfield 23, 3) := by decide +kernel
theorem dX2_init_40 : decode cX2_init 40 = .ok (.aload_n 0, 1) := by decide +kernel
theorem dX2_init_41 : decode cX2_init 41 = .ok (.bipush 12, 2) := by decide +kernel
theorem dX2_init_43 : decode cX2_init 43 = .ok (.newarray .int, 2) := by decide +kernel
theorem dX2_init_45 : decode cX2_init 45 = .ok (.putfield 26, 3) := by decide +kernel
theorem dX2_init_48 : decode cX2_init 48 = .ok (.aload_n 0, 1) := by decide +kernel
theorem dX2_init_49 : decode cX2_init 49 = .ok (.bipush 32, 2) := by decide +kernel
theorem dX2_init_51 : decode cX2_init 51 = .ok (.newarray .int, 2) := by decide +kernel
theorem dX2_init_53 : decode cX2_init 53 = .ok (.putfield 29, 3) := by decide +kernel
theorem dX2_init_56 : decode cX2_init 56 = .ok (.aload_n 0, 1) := by decide +kernel
theorem dX2_init_57 : decode cX2_init 57 = .ok (.bipush 32, 2) := by decide +kernel
theorem dX2_init_59 : decode cX2_init 59 = .ok (.newarray .int, 2) := by decide +kernel
theorem dX2_init_61 : decode cX2_init 61 = .ok (.putfield 32, 3) := by decide +kernel
theorem dX2_init_64 : decode cX2_init 64 = .ok (.aload_n 0, 1) := by decide +kernel
theorem dX2_init_65 : decode cX2_init 65 = .ok (.bipush 32, 2) := by decide +kernel
theorem dX2_init_67 : decode cX2_init 67 = .ok (.newarray .int, 2) := by decide +kernel
theorem dX2_init_69 : decode cX2_init 69 = .ok (.putfield 35, 3) := by decide +kernel
theorem dX2_init_72 : decode cX2_init 72 = .ok (.aload_n 0, 1) := by decide +kernel
theorem dX2_init_73 : decode cX2_init 73 = .ok (.bipush 32, 2) := by decide +kernel
theorem dX2_init_75 : decode cX2_init 75 = .ok (.newarray .int, 2) := by decide +kernel
theorem dX2_init_77 : decode cX2_init 77 = .ok (.putfield 38, 3) := by decide +kernel
theorem dX2_init_80 : decode cX2_init 80 = .ok (.aload_n 0, 1) := by decide +kernel
theorem dX2_init_81 : decode cX2_init 81 = .ok (.bipush 8, 2) := by decide +kernel
theorem dX2_init_83 : decode cX2_init 83 = .ok (.bipush 32, 2) := by decide +kernel
theorem dX2_init_85 : decode cX2_init 85 = .ok (.multianewarray 21 2, 4) := by decide +kernel
theorem dX2_init_89 : decode cX2_init 89 = .ok (.putfield 41, 3) := by decide +kernel
theorem dX2_init_92 : decode cX2_init 92 = .ok (.aload_n 0, 1) := by decide +kernel
theorem dX2_init_93 : decode cX2_init 93 = .ok (.bipush 8, 2) := by decide +kernel
theorem dX2_init_95 : decode cX2_init 95 = .ok (.newarray .int, 2) := by decide +kernel
theorem dX2_init_97 : decode cX2_init 97 = .ok (.putfield 44, 3) := by decide +kernel
theorem dX2_init_100 : decode cX2_init 100 = .ok (.return_, 1) := by decide +kernel
theorem dX2_addMachine_0 : decode cX2_addMachine 0 = .ok (.aload_n 0, 1) := by decide +kernel
theorem dX2_addMachine_1 : decode cX2_addMachine 1 = .ok (.getfield 47, 3) := by decide +kernel
theorem dX2_addMachine_4 : decode cX2_addMachine 4 = .ok (.istore_n 3, 1) := by decide +kernel
theorem dX2_addMachine_5 : decode cX2_addMachine 5 = .ok (.aload_n 0, 1) := by decide +kernel
theorem dX2_addMachine_6 : decode cX2_addMachine 6 = .ok (.getfield 9, 3) := by decide +kernel
theorem dX2_addMachine_9 : decode cX2_addMachine 9 = .ok (.iload_n 3, 1) := by decide +kernel
theorem dX2_addMachine_10 : decode cX2_addMachine 10 = .ok (.iload_n 1, 1) := by decide +kernel
theorem dX2_addMachine_11 : decode cX2_addMachine 11 = .ok (.iastore, 1) := by decide +kernel
theorem dX2_addMachine_12 : decode cX2_addMachine 12 = .ok (.aload_n 0, 1) := by decide +kernel
theorem dX2_addMachine_13 : decode cX2_addMachine 13 = .ok (.getfield 15, 3) := by decide +kernel
theorem dX2_addMachine_16 : decode cX2_addMachine 16 = .ok (.iload_n 3, 1) := by decide +kernel
theorem dX2_addMachine_17 : decode cX2_addMachine 17 = .ok (.iload_n 2, 1) := by decide +kernel
theorem dX2_addMachine_18 : decode cX2_addMachine 18 = .ok (.iastore, 1) := by decide +kernel
theorem dX2_addMachine_19 : decode cX2_addMachine 19 = .ok (.aload_n 0, 1) := by decide +kernel
theorem dX2_addMachine_20 : decode cX2_addMachine 20 = .ok (.dup, 1) := by decide +kernel
theorem dX2_addMachine_21 : decode cX2_addMachine 21 = .ok (.getfield 47, 3) := by decide +kernel
theorem dX2_addMachine_24 : decode cX2_addMachine 24 = .ok (.iconst 1, 1) := by decide +kernel
theorem dX2_addMachine_25 : decode cX2_addMachine 25 = .ok (.iadd, 1) := by decide +kernel
theorem dX2_addMachine_26 : decode cX2_addMachine 26 = .ok (.putfield 47, 3) := by decide +kernel
theorem dX2_addMachine_29 : decode cX2_addMachine 29 = .ok (.iload_n 3, 1) := by decide +kernel
theorem dX2_addMachine_30 : decode cX2_addMachine 30 = .ok (.ireturn, 1) := by decide +kernel
theorem dX2_addPiece_0 : decode cX2_addPiece 0 = .ok (.aload_n 0, 1) := by decide +kernel
theorem dX2_addPiece_1 : decode cX2_addPiece 1 = .ok (.getfield 51, 3) := by decide +kernel
theorem dX2_addPiece_4 : decode cX2_addPiece 4 = .ok (.istore_n 2, 1) := by decide +kernel
theorem dX2_addPiece_5 : decode cX2_addPiece 5 = .ok (.aload_n 0, 1) := by decide +kernel
theorem dX2_addPiece_6 : decode cX2_addPiece 6 = .ok (.getfield 18, 3) := by decide +kernel
theorem dX2_addPiece_9 : decode cX2_addPiece 9 = .ok (.iload_n 2, 1) := by decide +kernel
theorem dX2_addPiece_10 : decode cX2_addPiece 10 = .ok (.iload_n 1, 1) := by decide +kernel
theorem dX2_addPiece_11 : decode cX2_addPiece 11 = .ok (.iastore, 1) := by decide +kernel
theorem dX2_addPiece_12 : decode cX2_addPiece 12 = .ok (.aload_n 0, 1) := by decide +kernel
theorem dX2_addPiece_13 : decode cX2_addPiece 13 = .ok (.dup, 1) := by decide +kernel
theorem dX2_addPiece_14 : decode cX2_addPiece 14 = .ok (.getfield 51, 3) := by decide +kernel
theorem dX2_addPiece_17 : decode cX2_addPiece 17 = .ok (.iconst 1, 1) := by decide +kernel
theorem dX2_addPiece_18 : decode cX2_addPiece 18 = .ok (.iadd, 1) := by decide +kernel
theorem dX2_addPiece_19 : decode cX2_addPiece 19 = .ok (.putfield 51, 3) := by decide +kernel
theorem dX2_addPiece_22 : decode cX2_addPiece 22 = .ok (.iload_n 2, 1) := by decide +kernel
theorem dX2_addPiece_23 : decode cX2_addPiece 23 = .ok (.ireturn, 1) := by decide +kernel
theorem dX2_addStep_0 : decode cX2_addStep 0 = .ok (.aload_n 0, 1) := by decide +kernel
theorem dX2_addStep_1 : decode cX2_addStep 1 = .ok (.getfield 54, 3) := by decide +kernel
theorem dX2_addStep_4 : decode cX2_addStep 4 = .ok (.istore 4, 2) := by decide +kernel
theorem dX2_addStep_6 : decode cX2_addStep 6 = .ok (.aload_n 0, 1) := by decide +kernel
theorem dX2_addStep_7 : decode cX2_addStep 7 = .ok (.getfield 29, 3) := by decide +kernel
theorem dX2_addStep_10 : decode cX2_addStep 10 = .ok (.iload 4, 2) := by decide +kernel
theorem dX2_addStep_12 : decode cX2_addStep 12 = .ok (.iload_n 1, 1) := by decide +kernel
theorem dX2_addStep_13 : decode cX2_addStep 13 = .ok (.iastore, 1) := by decide +kernel
theorem dX2_addStep_14 : decode cX2_addStep 14 = .ok (.aload_n 0, 1) := by decide +kernel
theorem dX2_addStep_15 : decode cX2_addStep 15 = .ok (.getfield 32, 3) := by decide +kernel
theorem dX2_addStep_18 : decode cX2_addStep 18 = .ok (.iload 4, 2) := by decide +kernel
theorem dX2_addStep_20 : decode cX2_addStep 20 = .ok (.iload_n 2, 1) := by decide +kernel
theorem dX2_addStep_21 : decode cX2_addStep 21 = .ok (.iastore, 1) := by decide +kernel
theorem dX2_addStep_22 : decode cX2_addStep 22 = .ok (.aload_n 0, 1) := by decide +kernel
theorem dX2_addStep_23 : decode cX2_addStep 23 = .ok (.getfield 35, 3) := by decide +kernel
theorem dX2_addStep_26 : decode cX2_addStep 26 = .ok (.iload 4, 2) := by decide +kernel
theorem dX2_addStep_28 : decode cX2_addStep 28 = .ok (.iload_n 3, 1) := by decide +kernel
theorem dX2_addStep_29 : decode cX2_addStep 29 = .ok (.iastore, 1) := by decide +kernel
theorem dX2_addStep_30 : decode cX2_addStep 30 = .ok (.aload_n 0, 1) := by decide +kernel
theorem dX2_addStep_31 : decode cX2_addStep 31 = .ok (.getfield 38, 3) := by decide +kernel
theorem dX2_addStep_34 : decode cX2_addStep 34 = .ok (.iload 4, 2) := by decide +kernel
theorem dX2_addStep_36 : decode cX2_addStep 36 = .ok (.aload_n 0, 1) := by decide +kernel
theorem dX2_addStep_37 : decode cX2_addStep 37 = .ok (.getfield 26, 3) := by decide +kernel
theorem dX2_addStep_40 : decode cX2_addStep 40 = .ok (.iload_n 1, 1) := by decide +kernel
theorem dX2_addStep_41 : decode cX2_addStep 41 = .ok (.iaload, 1) := by decide +kernel
theorem dX2_addStep_42 : decode cX2_addStep 42 = .ok (.iastore, 1) := by decide +kernel
theorem dX2_addStep_43 : decode cX2_addStep 43 = .ok (.aload_n 0, 1) := by decide +kernel
theorem dX2_addStep_44 : decode cX2_addStep 44 = .ok (.getfield 23, 3) := by decide +kernel
theorem dX2_addStep_47 : decode cX2_addStep 47 = .ok (.iload_n 1, 1) := by decide +kernel
theorem dX2_addStep_48 : decode cX2_addStep 48 = .ok (.aaload, 1) := by decide +kernel
theorem dX2_addStep_49 : decode cX2_addStep 49 = .ok (.aload_n 0, 1) := by decide +kernel
theorem dX2_addStep_50 : decode cX2_addStep 50 = .ok (.getfield 26, 3) := by decide +kernel
theorem dX2_addStep_53 : decode cX2_addStep 53 = .ok (.iload_n 1, 1) := by decide +kernel
theorem dX2_addStep_54 : decode cX2_addStep 54 = .ok (.iaload, 1) := by decide +kernel
theorem dX2_addStep_55 : decode cX2_addStep 55 = .ok (.iload 4, 2) := by decide +kernel
theorem dX2_addStep_57 : decode cX2_addStep 57 = .ok (.iastore, 1) := by decide +kernel
theorem dX2_addStep_58 : decode cX2_addStep 58 = .ok (.aload_n 0, 1) := by decide +kernel
theorem dX2_addStep_59 : decode cX2_addStep 59 = .ok (.getfield 26, 3) := by decide +kernel
theorem dX2_addStep_62 : decode cX2_addStep 62 = .ok (.iload_n 1, 1) := by decide +kernel
theorem dX2_addStep_63 : decode cX2_addStep 63 = .ok (.dup2, 1) := by decide +kernel
theorem dX2_addStep_64 : decode cX2_addStep 64 = .ok (.iaload, 1) := by decide +kernel
theorem dX2_addStep_65 : decode cX2_addStep 65 = .ok (.iconst 1, 1) := by decide +kernel
theorem dX2_addStep_66 : decode cX2_addStep 66 = .ok (.iadd, 1) := by decide +kernel
theorem dX2_addStep_67 : decode cX2_addStep 67 = .ok (.iastore, 1) := by decide +kernel
theorem dX2_addStep_68 : decode cX2_addStep 68 = .ok (.aload_n 0, 1) := by decide +kernel
theorem dX2_addStep_69 : decode cX2_addStep 69 = .ok (.getfield 41, 3) := by decide +kernel
theorem dX2_addStep_72 : decode cX2_addStep 72 = .ok (.iload_n 2, 1) := by decide +kernel
theorem dX2_addStep_73 : decode cX2_addStep 73 = .ok (.aaload, 1) := by decide +kernel
theorem dX2_addStep_74 : decode cX2_addStep 74 = .ok (.aload_n 0, 1) := by decide +kernel
theorem dX2_addStep_75 : decode cX2_addStep 75 = .ok (.getfield 44, 3) := by decide +kernel
theorem dX2_addStep_78 : decode cX2_addStep 78 = .ok (.iload_n 2, 1) := by decide +kernel
theorem dX2_addStep_79 : decode cX2_addStep 79 = .ok (.iaload, 1) := by decide +kernel
theorem dX2_addStep_80 : decode cX2_addStep 80 = .ok (.iload 4, 2) := by decide +kernel
theorem dX2_addStep_82 : decode cX2_addStep 82 = .ok (.iastore, 1) := by decide +kernel
theorem dX2_addStep_83 : decode cX2_addStep 83 = .ok (.aload_n 0, 1) := by decide +kernel
theorem dX2_addStep_84 : decode cX2_addStep 84 = .ok (.getfield 44, 3) := by decide +kernel
theorem dX2_addStep_87 : decode cX2_addStep 87 = .ok (.iload_n 2, 1) := by decide +kernel
theorem dX2_addStep_88 : decode cX2_addStep 88 = .ok (.dup2, 1) := by decide +kernel
theorem dX2_addStep_89 : decode cX2_addStep 89 = .ok (.iaload, 1) := by decide +kernel
theorem dX2_addStep_90 : decode cX2_addStep 90 = .ok (.iconst 1, 1) := by decide +kernel
theorem dX2_addStep_91 : decode cX2_addStep 91 = .ok (.iadd, 1) := by decide +kernel
theorem dX2_addStep_92 : decode cX2_addStep 92 = .ok (.iastore, 1) := by decide +kernel
theorem dX2_addStep_93 : decode cX2_addStep 93 = .ok (.aload_n 0, 1) := by decide +kernel
theorem dX2_addStep_94 : decode cX2_addStep 94 = .ok (.dup, 1) := by decide +kernel
theorem dX2_addStep_95 : decode cX2_addStep 95 = .ok (.getfield 54, 3) := by decide +kernel
theorem dX2_addStep_98 : decode cX2_addStep 98 = .ok (.iconst 1, 1) := by decide +kernel
theorem dX2_addStep_99 : decode cX2_addStep 99 = .ok (.iadd, 1) := by decide +kernel
theorem dX2_addStep_100 : decode cX2_addStep 100 = .ok (.putfield 54, 3) := by decide +kernel
theorem dX2_addStep_103 : decode cX2_addStep 103 = .ok (.iload 4, 2) := by decide +kernel
theorem dX2_addStep_105 : decode cX2_addStep 105 = .ok (.ireturn, 1) := by decide +kernel
theorem dX2_isSimple_0 : decode cX2_isSimple 0 = .ok (.iconst 0, 1) := by decide +kernel
theorem dX2_isSimple_1 : decode cX2_isSimple 1 = .ok (.istore_n 1, 1) := by decide +kernel
theorem dX2_isSimple_2 : decode cX2_isSimple 2 = .ok (.iload_n 1, 1) := by decide +kernel
theorem dX2_isSimple_3 : decode cX2_isSimple 3 = .ok (.aload_n 0, 1) := by decide +kernel
theorem dX2_isSimple_4 : decode cX2_isSimple 4 = .ok (.getfield 47, 3) := by decide +kernel
theorem dX2_isSimple_7 : decode cX2_isSimple 7 = .ok (.if_icmp .ge 39, 3) := by decide +kernel
theorem dX2_isSimple_10 : decode cX2_isSimple 10 = .ok (.aload_n 0, 1) := by decide +kernel
theorem dX2_isSimple_11 : decode cX2_isSimple 11 = .ok (.getfield 44, 3) := by decide +kernel
theorem dX2_isSimple_14 : decode cX2_isSimple 14 = .ok (.iload_n 1, 1) := by decide +kernel
theorem dX2_isSimple_15 : decode cX2_isSimple 15 = .ok (.iaload, 1) := by decide +kernel
theorem dX2_isSimple_16 : decode cX2_isSimple 16 = .ok (.ifCond .le 24, 3) := by decide +kernel
theorem dX2_isSimple_19 : decode cX2_isSimple 19 = .ok (.aload_n 0, 1) := by decide +kernel
theorem dX2_isSimple_20 : decode cX2_isSimple 20 = .ok (.getfield 9, 3) := by decide +kernel
theorem dX2_isSimple_23 : decode cX2_isSimple 23 = .ok (.iload_n 1, 1) := by decide +kernel
theorem dX2_isSimple_24 : decode cX2_isSimple 24 = .ok (.iaload, 1) := by decide +kernel
theorem dX2_isSimple_25 : decode cX2_isSimple 25 = .ok (.ifCond .eq 15, 3) := by decide +kernel
theorem dX2_isSimple_28 : decode cX2_isSimple 28 = .ok (.aload_n 0, 1) := by decide +kernel
theorem dX2_isSimple_29 : decode cX2_isSimple 29 = .ok (.getfield 9, 3) := by decide +kernel
theorem dX2_isSimple_32 : decode cX2_isSimple 32 = .ok (.iload_n 1, 1) := by decide +kernel
theorem dX2_isSimple_33 : decode cX2_isSimple 33 = .ok (.iaload, 1) := by decide +kernel
theorem dX2_isSimple_34 : decode cX2_isSimple 34 = .ok (.iconst 1, 1) := by decide +kernel
theorem dX2_isSimple_35 : decode cX2_isSimple 35 = .ok (.if_icmp .eq 5, 3) := by decide +kernel
theorem dX2_isSimple_38 : decode cX2_isSimple 38 = .ok (.iconst 0, 1) := by decide +kernel
theorem dX2_isSimple_39 : decode cX2_isSimple 39 = .ok (.ireturn, 1) := by decide +kernel
theorem dX2_isSimple_40 : decode cX2_isSimple 40 = .ok (.iinc 1 1, 3) := by decide +kernel
theorem dX2_isSimple_43 : decode cX2_isSimple 43 = .ok (.goto (-41), 3) := by decide +kernel
theorem dX2_isSimple_46 : decode cX2_isSimple 46 = .ok (.iconst 1, 1) := by decide +kernel
theorem dX2_isSimple_47 : decode cX2_isSimple 47 = .ok (.ireturn, 1) := by decide +kernel
theorem dX2_allSpans_0 : decode cX2_allSpans 0 = .ok (.iconst 0, 1) := by decide +kernel
theorem dX2_allSpans_1 : decode cX2_allSpans 1 = .ok (.istore_n 1, 1) := by decide +kernel
theorem dX2_allSpans_2 : decode cX2_allSpans 2 = .ok (.iconst 0, 1) := by decide +kernel
theorem dX2_allSpans_3 : decode cX2_allSpans 3 = .ok (.istore_n 2, 1) := by decide +kernel
theorem dX2_allSpans_4 : decode cX2_allSpans 4 = .ok (.iload_n 2, 1) := by decide +kernel
theorem dX2_allSpans_5 : decode cX2_allSpans 5 = .ok (.aload_n 0, 1) := by decide +kernel
theorem dX2_allSpans_6 : decode cX2_allSpans 6 = .ok (.getfield 54, 3) := by decide +kernel
theorem dX2_allSpans_9 : decode cX2_allSpans 9 = .ok (.if_icmp .ge 18, 3) := by decide +kernel
theorem dX2_allSpans_12 : decode cX2_allSpans 12 = .ok (.iload_n 1, 1) := by decide +kernel
theorem dX2_allSpans_13 : decode cX2_allSpans 13 = .ok (.aload_n 0, 1) := by decide +kernel
theorem dX2_allSpans_14 : decode cX2_allSpans 14 = .ok (.getfield 35, 3) := by decide +kernel
theorem dX2_allSpans_17 : decode cX2_allSpans 17 = .ok (.iload_n 2, 1) := by decide +kernel
theorem dX2_allSpans_18 : decode cX2_allSpans 18 = .ok (.iaload, 1) := by decide +kernel
theorem dX2_allSpans_19 : decode cX2_allSpans 19 = .ok (.iadd, 1) := by decide +kernel
theorem dX2_allSpans_20 : decode cX2_allSpans 20 = .ok (.istore_n 1, 1) := by decide +kernel
theorem dX2_allSpans_21 : decode cX2_allSpans 21 = .ok (.iinc 2 1, 3) := by decide +kernel
theorem dX2_allSpans_24 : decode cX2_allSpans 24 = .ok (.goto (-20), 3) := by decide +kernel
theorem dX2_allSpans_27 : decode cX2_allSpans 27 = .ok (.iload_n 1, 1) := by decide +kernel
theorem dX2_allSpans_28 : decode cX2_allSpans 28 = .ok (.ireturn, 1) := by decide +kernel
theorem dX2_behindInPiece_0 : decode cX2_behindInPiece 0 = .ok (.aload_n 0, 1) := by decide +kernel
theorem dX2_behindInPiece_1 : decode cX2_behindInPiece 1 = .ok (.getfield 29, 3) := by decide +kernel
theorem dX2_behindInPiece_4 : decode cX2_behindInPiece 4 = .ok (.iload_n 1, 1) := by decide +kernel
theorem dX2_behindInPiece_5 : decode cX2_behindInPiece 5 = .ok (.iaload, 1) := by decide +kernel
theorem dX2_behindInPiece_6 : decode cX2_behindInPiece 6 = .ok (.istore_n 2, 1) := by decide +kernel
theorem dX2_behindInPiece_7 : decode cX2_behindInPiece 7 = .ok (.aload_n 0, 1) := by decide +kernel
theorem dX2_behindInPiece_8 : decode cX2_behindInPiece 8 = .ok (.getfield 38, 3) := by decide +kernel
theorem dX2_behindInPiece_11 : decode cX2_behindInPiece 11 = .ok (.iload_n 1, 1) := by decide +kernel
theorem dX2_behindInPiece_12 : decode cX2_behindInPiece 12 = .ok (.iaload, 1) := by decide +kernel
theorem dX2_behindInPiece_13 : decode cX2_behindInPiece 13 = .ok (.iconst 1, 1) := by decide +kernel
theorem dX2_behindInPiece_14 : decode cX2_behindInPiece 14 = .ok (.iadd, 1) := by decide +kernel
theorem dX2_behindInPiece_15 : decode cX2_behindInPiece 15 = .ok (.istore_n 3, 1) := by decide +kernel
theorem dX2_behindInPiece_16 : decode cX2_behindInPiece 16 = .ok (.iload_n 3, 1) := by decide +kernel
theorem dX2_behindInPiece_17 : decode cX2_behindInPiece 17 = .ok (.aload_n 0, 1) := by decide +kernel
theorem dX2_behindInPiece_18 : decode cX2_behindInPiece 18 = .ok (.getfield 26, 3) := by decide +kernel
theorem dX2_behindInPiece_21 : decode cX2_behindInPiece 21 = .ok (.iload_n 2, 1) := by decide +kernel
theorem dX2_behindInPiece_22 : decode cX2_behindInPiece 22 = .ok (.iaload, 1) := by decide +kernel
theorem dX2_behindInPiece_23 : decode cX2_behindInPiece 23 = .ok (.if_icmp .ge 14, 3) := by decide +kernel
theorem dX2_behindInPiece_26 : decode cX2_behindInPiece 26 = .ok (.aload_n 0, 1) := by decide +kernel
theorem dX2_behindInPiece_27 : decode cX2_behindInPiece 27 = .ok (.getfield 23, 3) := by decide +kernel
theorem dX2_behindInPiece_30 : decode cX2_behindInPiece 30 = .ok (.iload_n 2, 1) := by decide +kernel
theorem dX2_behindInPiece_31 : decode cX2_behindInPiece 31 = .ok (.aaload, 1) := by decide +kernel
theorem dX2_behindInPiece_32 : decode cX2_behindInPiece 32 = .ok (.iload_n 3, 1) := by decide +kernel
theorem dX2_behindInPiece_33 : decode cX2_behindInPiece 33 = .ok (.iaload, 1) := by decide +kernel
theorem dX2_behindInPiece_34 : decode cX2_behindInPiece 34 = .ok (.goto 4, 3) := by decide +kernel
theorem dX2_behindInPiece_37 : decode cX2_behindInPiece 37 = .ok (.iconst (-1), 1) := by decide +kernel
theorem dX2_behindInPiece_38 : decode cX2_behindInPiece 38 = .ok (.ireturn, 1) := by decide +kernel
theorem dX2_spansAhead_0 : decode cX2_spansAhead 0 = .ok (.aload_n 0, 1) := by decide +kernel
theorem dX2_spansAhead_1 : decode cX2_spansAhead 1 = .ok (.getfield 29, 3) := by decide +kernel
theorem dX2_spansAhead_4 : decode cX2_spansAhead 4 = .ok (.iload_n 1, 1) := by decide +kernel
theorem dX2_spansAhead_5 : decode cX2_spansAhead 5 = .ok (.iaload, 1) := by decide +kernel
theorem dX2_spansAhead_6 : decode cX2_spansAhead 6 = .ok (.istore_n 2, 1) := by decide +kernel
theorem dX2_spansAhead_7 : decode cX2_spansAhead 7 = .ok (.iconst 0, 1) := by decide +kernel
theorem dX2_spansAhead_8 : decode cX2_spansAhead 8 = .ok (.istore_n 3, 1) := by decide +kernel
theorem dX2_spansAhead_9 : decode cX2_spansAhead 9 = .ok (.iconst 0, 1) := by decide +kernel
theorem dX2_spansAhead_10 : decode cX2_spansAhead 10 = .ok (.istore 4, 2) := by decide +kernel
theorem dX2_spansAhead_12 : decode cX2_spansAhead 12 = .ok (.iload 4, 2) := by decide +kernel
theorem dX2_spansAhead_14 : decode cX2_spansAhead 14 = .ok (.aload_n 0, 1) := by decide +kernel
theorem dX2_spansAhead_15 : decode cX2_spansAhead 15 = .ok (.getfield 38, 3) := by decide +kernel
theorem dX2_spansAhead_18 : decode cX2_spansAhead 18 = .ok (.iload_n 1, 1) := by decide +kernel
theorem dX2_spansAhead_19 : decode cX2_spansAhead 19 = .ok (.iaload, 1) := by decide +kernel
theorem dX2_spansAhead_20 : decode cX2_spansAhead 20 = .ok (.if_icmp .ge 26, 3) := by decide +kernel
theorem dX2_spansAhead_23 : decode cX2_spansAhead 23 = .ok (.iload_n 3, 1) := by decide +kernel
theorem dX2_spansAhead_24 : decode cX2_spansAhead 24 = .ok (.aload_n 0, 1) := by decide +kernel
theorem dX2_spansAhead_25 : decode cX2_spansAhead 25 = .ok (.getfield 35, 3) := by decide +kernel
theorem dX2_spansAhead_28 : decode cX2_spansAhead 28 = .ok (.aload_n 0, 1) := by decide +kernel
theorem dX2_spansAhead_29 : decode cX2_spansAhead 29 = .ok (.getfield 23, 3) := by decide +kernel
theorem dX2_spansAhead_32 : decode cX2_spansAhead 32 = .ok (.iload_n 2, 1) := by decide +kernel
theorem dX2_spansAhead_33 : decode cX2_spansAhead 33 = .ok (.aaload, 1) := by decide +kernel
theorem dX2_spansAhead_34 : decode cX2_spansAhead 34 = .ok (.iload 4, 2) := by decide +kernel
theorem dX2_spansAhead_36 : decode cX2_spansAhead 36 = .ok (.iaload, 1) := by decide +kernel
theorem dX2_spansAhead_37 : decode cX2_spansAhead 37 = .ok (.iaload, 1) := by decide +kernel
theorem dX2_spansAhead_38 : decode cX2_spansAhead 38 = .ok (.iadd, 1) := by decide +kernel
theorem dX2_spansAhead_39 : decode cX2_spansAhead 39 = .ok (.istore_n 3, 1) := by decide +kernel
theorem dX2_spansAhead_40 : decode cX2_spansAhead 40 = .ok (.iinc 4 1, 3) := by decide +kernel
theorem dX2_spansAhead_43 : decode cX2_spansAhead 43 = .ok (.goto (-31), 3) := by decide +kernel
theorem dX2_spansAhead_46 : decode cX2_spansAhead 46 = .ok (.iload_n 3, 1) := by decide +kernel
theorem dX2_spansAhead_47 : decode cX2_spansAhead 47 = .ok (.ireturn, 1) := by decide +kernel
theorem dX2_spansBehind_0 : decode cX2_spansBehind 0 = .ok (.aload_n 0, 1) := by decide +kernel
theorem dX2_spansBehind_1 : decode cX2_spansBehind 1 = .ok (.getfield 29, 3) := by decide +kernel
theorem dX2_spansBehind_4 : decode cX2_spansBehind 4 = .ok (.iload_n 1, 1) := by decide +kernel
theorem dX2_spansBehind_5 : decode cX2_spansBehind 5 = .ok (.iaload, 1) := by decide +kernel
theorem dX2_spansBehind_6 : decode cX2_spansBehind 6 = .ok (.istore_n 2, 1) := by decide +kernel
theorem dX2_spansBehind_7 : decode cX2_spansBehind 7 = .ok (.iconst 0, 1) := by decide +kernel
theorem dX2_spansBehind_8 : decode cX2_spansBehind 8 = .ok (.istore_n 3, 1) := by decide +kernel
theorem dX2_spansBehind_9 : decode cX2_spansBehind 9 = .ok (.aload_n 0, 1) := by decide +kernel
theorem dX2_spansBehind_10 : decode cX2_spansBehind 10 = .ok (.getfield 38, 3) := by decide +kernel
theorem dX2_spansBehind_13 : decode cX2_spansBehind 13 = .ok (.iload_n 1, 1) := by decide +kernel
theorem dX2_spansBehind_14 : decode cX2_spansBehind 14 = .ok (.iaload, 1) := by decide +kernel
theorem dX2_spansBehind_15 : decode cX2_spansBehind 15 = .ok (.iconst 1, 1) := by decide +kernel
theorem dX2_spansBehind_16 : decode cX2_spansBehind 16 = .ok (.iadd, 1) := by decide +kernel
theorem dX2_spansBehind_17 : decode cX2_spansBehind 17 = .ok (.istore 4, 2) := by decide +kernel
theorem dX2_spansBehind_19 : decode cX2_spansBehind 19 = .ok (.iload 4, 2) := by decide +kernel
theorem dX2_spansBehind_21 : decode cX2_spansBehind 21 = .ok (.aload_n 0, 1) := by decide +kernel
theorem dX2_spansBehind_22 : decode cX2_spansBehind 22 = .ok (.getfield 26, 3) := by decide +kernel
theorem dX2_spansBehind_25 : decode cX2_spansBehind 25 = .ok (.iload_n 2, 1) := by decide +kernel
theorem dX2_spansBehind_26 : decode cX2_spansBehind 26 = .ok (.iaload, 1) := by decide +kernel
theorem dX2_spansBehind_27 : decode cX2_spansBehind 27 = .ok (.if_icmp .ge 26, 3) := by decide +kernel
theorem dX2_spansBehind_30 : decode cX2_spansBehind 30 = .ok (.iload_n 3, 1) := by decide +kernel
theorem dX2_spansBehind_31 : decode cX2_spansBehind 31 = .ok (.aload_n 0, 1) := by decide +kernel
theorem dX2_spansBehind_32 : decode cX2_spansBehind 32 = .ok (.getfield 35, 3) := by decide +kernel
theorem dX2_spansBehind_35 : decode cX2_spansBehind 35 = .ok (.aload_n 0, 1) := by decide +kernel
theorem dX2_spansBehind_36 : decode cX2_spansBehind 36 = .ok (.getfield 23, 3) := by decide +kernel
theorem dX2_spansBehind_39 : decode cX2_spansBehind 39 = .ok (.iload_n 2, 1) := by decide +kernel
theorem dX2_spansBehind_40 : decode cX2_spansBehind 40 = .ok (.aaload, 1) := by decide +kernel
theorem dX2_spansBehind_41 : decode cX2_spansBehind 41 = .ok (.iload 4, 2) := by decide +kernel
theorem dX2_spansBehind_43 : decode cX2_spansBehind 43 = .ok (.iaload, 1) := by decide +kernel
theorem dX2_spansBehind_44 : decode cX2_spansBehind 44 = .ok (.iaload, 1) := by decide +kernel
theorem dX2_spansBehind_45 : decode cX2_spansBehind 45 = .ok (.iadd, 1) := by decide +kernel
theorem dX2_spansBehind_46 : decode cX2_spansBehind 46 = .ok (.istore_n 3, 1) := by decide +kernel
theorem dX2_spansBehind_47 : decode cX2_spansBehind 47 = .ok (.iinc 4 1, 3) := by decide +kernel
theorem dX2_spansBehind_50 : decode cX2_spansBehind 50 = .ok (.goto (-31), 3) := by decide +kernel
theorem dX2_spansBehind_53 : decode cX2_spansBehind 53 = .ok (.iload_n 3, 1) := by decide +kernel
theorem dX2_spansBehind_54 : decode cX2_spansBehind 54 = .ok (.ireturn, 1) := by decide +kernel
theorem dX3_init_0 : decode cX3_init 0 = .ok (.aload_n 0, 1) := by decide +kernel
theorem dX3_init_1 : decode cX3_init 1 = .ok (.invokespecial 3, 3) := by decide +kernel
theorem dX3_init_4 : decode cX3_init 4 = .ok (.aload_n 0, 1) := by decide +kernel
theorem dX3_init_5 : decode cX3_init 5 = .ok (.bipush 8, 2) := by decide +kernel
theorem dX3_init_7 : decode cX3_init 7 = .ok (.bipush 32, 2) := by decide +kernel
theorem dX3_init_9 : decode cX3_init 9 = .ok (.multianewarray 9 2, 4) := by decide +kernel
theorem dX3_init_13 : decode cX3_init 13 = .ok (.putfield 11, 3) := by decide +kernel
theorem dX3_init_16 : decode cX3_init 16 = .ok (.aload_n 0, 1) := by decide +kernel
theorem dX3_init_17 : decode cX3_init 17 = .ok (.bipush 8, 2) := by decide +kernel
theorem dX3_init_19 : decode cX3_init 19 = .ok (.newarray .int, 2) := by decide +kernel
theorem dX3_init_21 : decode cX3_init 21 = .ok (.putfield 16, 3) := by decide +kernel
theorem dX3_init_24 : decode cX3_init 24 = .ok (.return_, 1) := by decide +kernel
theorem dX3_clear_0 : decode cX3_clear 0 = .ok (.aload_n 0, 1) := by decide +kernel
theorem dX3_clear_1 : decode cX3_clear 1 = .ok (.getfield 16, 3) := by decide +kernel
theorem dX3_clear_4 : decode cX3_clear 4 = .ok (.iconst 0, 1) := by decide +kernel
theorem dX3_clear_5 : decode cX3_clear 5 = .ok (.invokestatic 20, 3) := by decide +kernel
theorem dX3_clear_8 : decode cX3_clear 8 = .ok (.return_, 1) := by decide +kernel
theorem dX3_append_0 : decode cX3_append 0 = .ok (.aload_n 0, 1) := by decide +kernel
theorem dX3_append_1 : decode cX3_append 1 = .ok (.getfield 11, 3) := by decide +kernel
theorem dX3_append_4 : decode cX3_append 4 = .ok (.iload_n 1, 1) := by decide +kernel
theorem dX3_append_5 : decode cX3_append 5 = .ok (.aaload, 1) := by decide +kernel
theorem dX3_append_6 : decode cX3_append 6 = .ok (.aload_n 0, 1) := by decide +kernel
theorem dX3_append_7 : decode cX3_append 7 = .ok (.getfield 16, 3) := by decide +kernel
theorem dX3_append_10 : decode cX3_append 10 = .ok (.iload_n 1, 1) := by decide +kernel
theorem dX3_append_11 : decode cX3_append 11 = .ok (.iaload, 1) := by decide +kernel
theorem dX3_append_12 : decode cX3_append 12 = .ok (.iload_n 2, 1) := by decide +kernel
theorem dX3_append_13 : decode cX3_append 13 = .ok (.iastore, 1) := by decide +kernel
theorem dX3_append_14 : decode cX3_append 14 = .ok (.aload_n 0, 1) := by decide +kernel
theorem dX3_append_15 : decode cX3_append 15 = .ok (.getfield 16, 3) := by decide +kernel
theorem dX3_append_18 : decode cX3_append 18 = .ok (.iload_n 1, 1) := by decide +kernel
theorem dX3_append_19 : decode cX3_append 19 = .ok (.dup2, 1) := by decide +kernel
theorem dX3_append_20 : decode cX3_append 20 = .ok (.iaload, 1) := by decide +kernel
theorem dX3_append_21 : decode cX3_append 21 = .ok (.iconst 1, 1) := by decide +kernel
theorem dX3_append_22 : decode cX3_append 22 = .ok (.iadd, 1) := by decide +kernel
theorem dX3_append_23 : decode cX3_append 23 = .ok (.iastore, 1) := by decide +kernel
theorem dX3_append_24 : decode cX3_append 24 = .ok (.return_, 1) := by decide +kernel
theorem dX3_exchange_0 : decode cX3_exchange 0 = .ok (.aload_n 0, 1) := by decide +kernel
theorem dX3_exchange_1 : decode cX3_exchange 1 = .ok (.getfield 11, 3) := by decide +kernel
theorem dX3_exchange_4 : decode cX3_exchange 4 = .ok (.iload_n 1, 1) := by decide +kernel
theorem dX3_exchange_5 : decode cX3_exchange 5 = .ok (.aaload, 1) := by decide +kernel
theorem dX3_exchange_6 : decode cX3_exchange 6 = .ok (.iload_n 2, 1) := by decide +kernel
theorem dX3_exchange_7 : decode cX3_exchange 7 = .ok (.iaload, 1) := by decide +kernel
theorem dX3_exchange_8 : decode cX3_exchange 8 = .ok (.istore_n 3, 1) := by decide +kernel
theorem dX3_exchange_9 : decode cX3_exchange 9 = .ok (.aload_n 0, 1) := by decide +kernel
theorem dX3_exchange_10 : decode cX3_exchange 10 = .ok (.getfield 11, 3) := by decide +kernel
theorem dX3_exchange_13 : decode cX3_exchange 13 = .ok (.iload_n 1, 1) := by decide +kernel
theorem dX3_exchange_14 : decode cX3_exchange 14 = .ok (.aaload, 1) := by decide +kernel
theorem dX3_exchange_15 : decode cX3_exchange 15 = .ok (.iload_n 2, 1) := by decide +kernel
theorem dX3_exchange_16 : decode cX3_exchange 16 = .ok (.aload_n 0, 1) := by decide +kernel
theorem dX3_exchange_17 : decode cX3_exchange 17 = .ok (.getfield 11, 3) := by decide +kernel
theorem dX3_exchange_20 : decode cX3_exchange 20 = .ok (.iload_n 1, 1) := by decide +kernel
theorem dX3_exchange_21 : decode cX3_exchange 21 = .ok (.aaload, 1) := by decide +kernel
theorem dX3_exchange_22 : decode cX3_exchange 22 = .ok (.iload_n 2, 1) := by decide +kernel
theorem dX3_exchange_23 : decode cX3_exchange 23 = .ok (.iconst 1, 1) := by decide +kernel
theorem dX3_exchange_24 : decode cX3_exchange 24 = .ok (.iadd, 1) := by decide +kernel
theorem dX3_exchange_25 : decode cX3_exchange 25 = .ok (.iaload, 1) := by decide +kernel
theorem dX3_exchange_26 : decode cX3_exchange 26 = .ok (.iastore, 1) := by decide +kernel
theorem dX3_exchange_27 : decode cX3_exchange 27 = .ok (.aload_n 0, 1) := by decide +kernel
theorem dX3_exchange_28 : decode cX3_exchange 28 = .ok (.getfield 11, 3) := by decide +kernel
theorem dX3_exchange_31 : decode cX3_exchange 31 = .ok (.iload_n 1, 1) := by decide +kernel
theorem dX3_exchange_32 : decode cX3_exchange 32 = .ok (.aaload, 1) := by decide +kernel
theorem dX3_exchange_33 : decode cX3_exchange 33 = .ok (.iload_n 2, 1) := by decide +kernel
theorem dX3_exchange_34 : decode cX3_exchange 34 = .ok (.iconst 1, 1) := by decide +kernel
theorem dX3_exchange_35 : decode cX3_exchange 35 = .ok (.iadd, 1) := by decide +kernel
theorem dX3_exchange_36 : decode cX3_exchange 36 = .ok (.iload_n 3, 1) := by decide +kernel
theorem dX3_exchange_37 : decode cX3_exchange 37 = .ok (.iastore, 1) := by decide +kernel
theorem dX3_exchange_38 : decode cX3_exchange 38 = .ok (.return_, 1) := by decide +kernel
theorem dX3_move_0 : decode cX3_move 0 = .ok (.iload_n 2, 1) := by decide +kernel
theorem dX3_move_1 : decode cX3_move 1 = .ok (.istore 4, 2) := by decide +kernel
theorem dX3_move_3 : decode cX3_move 3 = .ok (.iload 4, 2) := by decide +kernel
theorem dX3_move_5 : decode cX3_move 5 = .ok (.iload_n 3, 1) := by decide +kernel
theorem dX3_move_6 : decode cX3_move 6 = .ok (.if_icmp .ge 16, 3) := by decide +kernel
theorem dX3_move_9 : decode cX3_move 9 = .ok (.aload_n 0, 1) := by decide +kernel
theorem dX3_move_10 : decode cX3_move 10 = .ok (.iload_n 1, 1) := by decide +kernel
theorem dX3_move_11 : decode cX3_move 11 = .ok (.iload 4, 2) := by decide +kernel
theorem dX3_move_13 : decode cX3_move 13 = .ok (.invokevirtual 26, 3) := by decide +kernel
theorem dX3_move_16 : decode cX3_move 16 = .ok (.iinc 4 1, 3) := by decide +kernel
theorem dX3_move_19 : decode cX3_move 19 = .ok (.goto (-16), 3) := by decide +kernel
theorem dX3_move_22 : decode cX3_move 22 = .ok (.iload_n 2, 1) := by decide +kernel
theorem dX3_move_23 : decode cX3_move 23 = .ok (.istore 4, 2) := by decide +kernel
theorem dX3_move_25 : decode cX3_move 25 = .ok (.iload 4, 2) := by decide +kernel
theorem dX3_move_27 : decode cX3_move 27 = .ok (.iload_n 3, 1) := by decide +kernel
theorem dX3_move_28 : decode cX3_move 28 = .ok (.if_icmp .le 18, 3) := by decide +kernel
theorem dX3_move_31 : decode cX3_move 31 = .ok (.aload_n 0, 1) := by decide +kernel
theorem dX3_move_32 : decode cX3_move 32 = .ok (.iload_n 1, 1) := by decide +kernel
theorem dX3_move_33 : decode cX3_move 33 = .ok (.iload 4, 2) := by decide +kernel
theorem dX3_move_35 : decode cX3_move 35 = .ok (.iconst 1, 1) := by decide +kernel
theorem dX3_move_36 : decode cX3_move 36 = .ok (.isub, 1) := by decide +kernel
theorem dX3_move_37 : decode cX3_move 37 = .ok (.invokevirtual 26, 3) := by decide +kernel
theorem dX3_move_40 : decode cX3_move 40 = .ok (.iinc 4 (-1), 3) := by decide +kernel
theorem dX3_move_43 : decode cX3_move 43 = .ok (.goto (-18), 3) := by decide +kernel
theorem dX3_move_46 : decode cX3_move 46 = .ok (.return_, 1) := by decide +kernel
theorem dX3_placeOf_0 : decode cX3_placeOf 0 = .ok (.iconst 0, 1) := by decide +kernel
theorem dX3_placeOf_1 : decode cX3_placeOf 1 = .ok (.istore_n 3, 1) := by decide +kernel
theorem dX3_placeOf_2 : decode cX3_placeOf 2 = .ok (.iconst 0, 1) := by decide +kernel
theorem dX3_placeOf_3 : decode cX3_placeOf 3 = .ok (.istore 4, 2) := by decide +kernel
theorem dX3_placeOf_5 : decode cX3_placeOf 5 = .ok (.iload 4, 2) := by decide +kernel
theorem dX3_placeOf_7 : decode cX3_placeOf 7 = .ok (.aload_n 0, 1) := by decide +kernel
theorem dX3_placeOf_8 : decode cX3_placeOf 8 = .ok (.getfield 16, 3) := by decide +kernel
theorem dX3_placeOf_11 : decode cX3_placeOf 11 = .ok (.iload_n 1, 1) := by decide +kernel
theorem dX3_placeOf_12 : decode cX3_placeOf 12 = .ok (.iaload, 1) := by decide +kernel
theorem dX3_placeOf_13 : decode cX3_placeOf 13 = .ok (.if_icmp .ge 25, 3) := by decide +kernel
theorem dX3_placeOf_16 : decode cX3_placeOf 16 = .ok (.aload_n 0, 1) := by decide +kernel
theorem dX3_placeOf_17 : decode cX3_placeOf 17 = .ok (.getfield 11, 3) := by decide +kernel
theorem dX3_placeOf_20 : decode cX3_placeOf 20 = .ok (.iload_n 1, 1) := by decide +kernel
theorem dX3_placeOf_21 : decode cX3_placeOf 21 = .ok (.aaload, 1) := by decide +kernel
theorem dX3_placeOf_22 : decode cX3_placeOf 22 = .ok (.iload 4, 2) := by decide +kernel
theorem dX3_placeOf_24 : decode cX3_placeOf 24 = .ok (.iaload, 1) := by decide +kernel
theorem dX3_placeOf_25 : decode cX3_placeOf 25 = .ok (.iload_n 2, 1) := by decide +kernel
theorem dX3_placeOf_26 : decode cX3_placeOf 26 = .ok (.if_icmp .ne 6, 3) := by decide +kernel
theorem dX3_placeOf_29 : decode cX3_placeOf 29 = .ok (.iload 4, 2) := by decide +kernel
theorem dX3_placeOf_31 : decode cX3_placeOf 31 = .ok (.istore_n 3, 1) := by decide +kernel
theorem dX3_placeOf_32 : decode cX3_placeOf 32 = .ok (.iinc 4 1, 3) := by decide +kernel
theorem dX3_placeOf_35 : decode cX3_placeOf 35 = .ok (.goto (-30), 3) := by decide +kernel
theorem dX3_placeOf_38 : decode cX3_placeOf 38 = .ok (.iload_n 3, 1) := by decide +kernel
theorem dX3_placeOf_39 : decode cX3_placeOf 39 = .ok (.ireturn, 1) := by decide +kernel
theorem dX3_takeFrom_0 : decode cX3_takeFrom 0 = .ok (.iconst 0, 1) := by decide +kernel
theorem dX3_takeFrom_1 : decode cX3_takeFrom 1 = .ok (.istore_n 2, 1) := by decide +kernel
theorem dX3_takeFrom_2 : decode cX3_takeFrom 2 = .ok (.iload_n 2, 1) := by decide +kernel
theorem dX3_takeFrom_3 : decode cX3_takeFrom 3 = .ok (.bipush 8, 2) := by decide +kernel
theorem dX3_takeFrom_5 : decode cX3_takeFrom 5 = .ok (.if_icmp .ge 28, 3) := by decide +kernel
theorem dX3_takeFrom_8 : decode cX3_takeFrom 8 = .ok (.aload_n 1, 1) := by decide +kernel
theorem dX3_takeFrom_9 : decode cX3_takeFrom 9 = .ok (.getfield 11, 3) := by decide +kernel
theorem dX3_takeFrom_12 : decode cX3_takeFrom 12 = .ok (.iload_n 2, 1) := by decide +kernel
theorem dX3_takeFrom_13 : decode cX3_takeFrom 13 = .ok (.aaload, 1) := by decide +kernel
theorem dX3_takeFrom_14 : decode cX3_takeFrom 14 = .ok (.iconst 0, 1) := by decide +kernel
theorem dX3_takeFrom_15 : decode cX3_takeFrom 15 = .ok (.aload_n 0, 1) := by decide +kernel
theorem dX3_takeFrom_16 : decode cX3_takeFrom 16 = .ok (.getfield 11, 3) := by decide +kernel
theorem dX3_takeFrom_19 : decode cX3_takeFrom 19 = .ok (.iload_n 2, 1) := by decide +kernel
theorem dX3_takeFrom_20 : decode cX3_takeFrom 20 = .ok (.aaload, 1) := by decide +kernel
theorem dX3_takeFrom_21 : decode cX3_takeFrom 21 = .ok (.iconst 0, 1) := by decide +kernel
theorem dX3_takeFrom_22 : decode cX3_takeFrom 22 = .ok (.bipush 32, 2) := by decide +kernel
theorem dX3_takeFrom_24 : decode cX3_takeFrom 24 = .ok (.invokestatic 30, 3) := by decide +kernel
theorem dX3_takeFrom_27 : decode cX3_takeFrom 27 = .ok (.iinc 2 1, 3) := by decide +kernel
theorem dX3_takeFrom_30 : decode cX3_takeFrom 30 = .ok (.goto (-28), 3) := by decide +kernel
theorem dX3_takeFrom_33 : decode cX3_takeFrom 33 = .ok (.aload_n 1, 1) := by decide +kernel
theorem dX3_takeFrom_34 : decode cX3_takeFrom 34 = .ok (.getfield 16, 3) := by decide +kernel
theorem dX3_takeFrom_37 : decode cX3_takeFrom 37 = .ok (.iconst 0, 1) := by decide +kernel
theorem dX3_takeFrom_38 : decode cX3_takeFrom 38 = .ok (.aload_n 0, 1) := by decide +kernel
theorem dX3_takeFrom_39 : decode cX3_takeFrom 39 = .ok (.getfield 16, 3) := by decide +kernel
theorem dX3_takeFrom_42 : decode cX3_takeFrom 42 = .ok (.iconst 0, 1) := by decide +kernel
theorem dX3_takeFrom_43 : decode cX3_takeFrom 43 = .ok (.bipush 8, 2) := by decide +kernel
theorem dX3_takeFrom_45 : decode cX3_takeFrom 45 = .ok (.invokestatic 30, 3) := by decide +kernel
theorem dX3_takeFrom_48 : decode cX3_takeFrom 48 = .ok (.return_, 1) := by decide +kernel
theorem dX4_init_0 : decode cX4_init 0 = .ok (.aload_n 0, 1) := by decide +kernel
theorem dX4_init_1 : decode cX4_init 1 = .ok (.invokespecial 3, 3) := by decide +kernel
theorem dX4_init_4 : decode cX4_init 4 = .ok (.aload_n 0, 1) := by decide +kernel
theorem dX4_init_5 : decode cX4_init 5 = .ok (.bipush 101, 2) := by decide +kernel
theorem dX4_init_7 : decode cX4_init 7 = .ok (.bipush 32, 2) := by decide +kernel
theorem dX4_init_9 : decode cX4_init 9 = .ok (.multianewarray 9 2, 4) := by decide +kernel
theorem dX4_init_13 : decode cX4_init 13 = .ok (.putfield 11, 3) := by decide +kernel
theorem dX4_init_16 : decode cX4_init 16 = .ok (.aload_n 0, 1) := by decide +kernel
theorem dX4_init_17 : decode cX4_init 17 = .ok (.new 16, 3) := by decide +kernel
theorem dX4_init_20 : decode cX4_init 20 = .ok (.dup, 1) := by decide +kernel
theorem dX4_init_21 : decode cX4_init 21 = .ok (.invokespecial 18, 3) := by decide +kernel
theorem dX4_init_24 : decode cX4_init 24 = .ok (.putfield 19, 3) := by decide +kernel
theorem dX4_init_27 : decode cX4_init 27 = .ok (.aload_n 0, 1) := by decide +kernel
theorem dX4_init_28 : decode cX4_init 28 = .ok (.new 23, 3) := by decide +kernel
theorem dX4_init_31 : decode cX4_init 31 = .ok (.dup, 1) := by decide +kernel
theorem dX4_init_32 : decode cX4_init 32 = .ok (.invokespecial 25, 3) := by decide +kernel
theorem dX4_init_35 : decode cX4_init 35 = .ok (.putfield 26, 3) := by decide +kernel
theorem dX4_init_38 : decode cX4_init 38 = .ok (.aload_n 0, 1) := by decide +kernel
theorem dX4_init_39 : decode cX4_init 39 = .ok (.new 30, 3) := by decide +kernel
theorem dX4_init_42 : decode cX4_init 42 = .ok (.dup, 1) := by decide +kernel
theorem dX4_init_43 : decode cX4_init 43 = .ok (.invokespecial 32, 3) := by decide +kernel
theorem dX4_init_46 : decode cX4_init 46 = .ok (.putfield 33, 3) := by decide +kernel
theorem dX4_init_49 : decode cX4_init 49 = .ok (.return_, 1) := by decide +kernel
theorem dX4_seek_0 : decode cX4_seek 0 = .ok (.aload_n 0, 1) := by decide +kernel
theorem dX4_seek_1 : decode cX4_seek 1 = .ok (.iconst 0, 1) := by decide +kernel
theorem dX4_seek_2 : decode cX4_seek 2 = .ok (.putfield 37, 3) := by decide +kernel
theorem dX4_seek_5 : decode cX4_seek 5 = .ok (.aload_n 0, 1) := by decide +kernel
theorem dX4_seek_6 : decode cX4_seek 6 = .ok (.iconst 0, 1) := by decide +kernel
theorem dX4_seek_7 : decode cX4_seek 7 = .ok (.putfield 41, 3) := by decide +kernel
theorem dX4_seek_10 : decode cX4_seek 10 = .ok (.aload_n 0, 1) := by decide +kernel
theorem dX4_seek_11 : decode cX4_seek 11 = .ok (.getfield 11, 3) := by decide +kernel
theorem dX4_seek_14 : decode cX4_seek 14 = .ok (.iconst 0, 1) := by decide +kernel
theorem dX4_seek_15 : decode cX4_seek 15 = .ok (.aaload, 1) := by decide +kernel
theorem dX4_seek_16 : decode cX4_seek 16 = .ok (.iconst 0, 1) := by decide +kernel
theorem dX4_seek_17 : decode cX4_seek 17 = .ok (.invokestatic 44, 3) := by decide +kernel
theorem dX4_seek_20 : decode cX4_seek 20 = .ok (.aload_n 0, 1) := by decide +kernel
theorem dX4_seek_21 : decode cX4_seek 21 = .ok (.iconst 1, 1) := by decide +kernel
theorem dX4_seek_22 : decode cX4_seek 22 = .ok (.putfield 50, 3) := by decide +kernel
theorem dX4_seek_25 : decode cX4_seek 25 = .ok (.aload_n 0, 1) := by decide +kernel
theorem dX4_seek_26 : decode cX4_seek 26 = .ok (.getfield 50, 3) := by decide +kernel
theorem dX4_seek_29 : decode cX4_seek 29 = .ok (.ifCond .le 88, 3) := by decide +kernel
theorem dX4_seek_32 : decode cX4_seek 32 = .ok (.aload_n 0, 1) := by decide +kernel
theorem dX4_seek_33 : decode cX4_seek 33 = .ok (.getfield 37, 3) := by decide +kernel
theorem dX4_seek_36 : decode cX4_seek 36 = .ok (.iload_n 3, 1) := by decide +kernel
theorem dX4_seek_37 : decode cX4_seek 37 = .ok (.if_icmp .ge 80, 3) := by decide +kernel
theorem dX4_seek_40 : decode cX4_seek 40 = .ok (.aload_n 0, 1) := by decide +kernel
theorem dX4_seek_41 : decode cX4_seek 41 = .ok (.dup, 1) := by decide +kernel
theorem dX4_seek_42 : decode cX4_seek 42 = .ok (.getfield 37, 3) := by decide +kernel
theorem dX4_seek_45 : decode cX4_seek 45 = .ok (.iconst 1, 1) := by decide +kernel
theorem dX4_seek_46 : decode cX4_seek 46 = .ok (.iadd, 1) := by decide +kernel
theorem dX4_seek_47 : decode cX4_seek 47 = .ok (.putfield 37, 3) := by decide +kernel
theorem dX4_seek_50 : decode cX4_seek 50 = .ok (.aload_n 0, 1) := by decide +kernel
theorem dX4_seek_51 : decode cX4_seek 51 = .ok (.dup, 1) := by decide +kernel
theorem dX4_seek_52 : decode cX4_seek 52 = .ok (.getfield 50, 3) := by decide +kernel
theorem dX4_seek_55 : decode cX4_seek 55 = .ok (.iconst 1, 1) := by decide +kernel
theorem dX4_seek_56 : decode cX4_seek 56 = .ok (.isub, 1) := by decide +kernel
theorem dX4_seek_57 : decode cX4_seek 57 = .ok (.putfield 50, 3) := by decide +kernel
theorem dX4_seek_60 : decode cX4_seek 60 = .ok (.aload_n 0, 1) := by decide +kernel
theorem dX4_seek_61 : decode cX4_seek 61 = .ok (.getfield 11, 3) := by decide +kernel
theorem dX4_seek_64 : decode cX4_seek 64 = .ok (.aload_n 0, 1) := by decide +kernel
theorem dX4_seek_65 : decode cX4_seek 65 = .ok (.getfield 50, 3) := by decide +kernel
theorem dX4_seek_68 : decode cX4_seek 68 = .ok (.aaload, 1) := by decide +kernel
theorem dX4_seek_69 : decode cX4_seek 69 = .ok (.iconst 0, 1) := by decide +kernel
theorem dX4_seek_70 : decode cX4_seek 70 = .ok (.aload_n 0, 1) := by decide +kernel
theorem dX4_seek_71 : decode cX4_seek 71 = .ok (.getfield 19, 3) := by decide +kernel
theorem dX4_seek_74 : decode cX4_seek 74 = .ok (.getfield 53, 3) := by decide +kernel
theorem dX4_seek_77 : decode cX4_seek 77 = .ok (.iconst 0, 1) := by decide +kernel
theorem dX4_seek_78 : decode cX4_seek 78 = .ok (.bipush 32, 2) := by decide +kernel
theorem dX4_seek_80 : decode cX4_seek 80 = .ok (.invokestatic 57, 3) := by decide +kernel
theorem dX4_seek_83 : decode cX4_seek 83 = .ok (.aload_n 0, 1) := by decide +kernel
theorem dX4_seek_84 : decode cX4_seek 84 = .ok (.getfield 19, 3) := by decide +kernel
theorem dX4_seek_87 : decode cX4_seek 87 = .ok (.aload_n 1, 1) := by decide +kernel
theorem dX4_seek_88 : decode cX4_seek 88 = .ok (.aload_n 0, 1) := by decide +kernel
theorem dX4_seek_89 : decode cX4_seek 89 = .ok (.getfield 63, 3) := by decide +kernel
theorem dX4_seek_92 : decode cX4_seek 92 = .ok (.iconst 1, 1) := by decide +kernel
theorem dX4_seek_93 : decode cX4_seek 93 = .ok (.isub, 1) := by decide +kernel
theorem dX4_seek_94 : decode cX4_seek 94 = .ok (.invokevirtual 66, 3) := by decide +kernel
theorem dX4_seek_97 : decode cX4_seek 97 = .ok (.ifCond .eq (-72), 3) := by decide +kernel
theorem dX4_seek_100 : decode cX4_seek 100 = .ok (.aload_n 0, 1) := by decide +kernel
theorem dX4_seek_101 : decode cX4_seek 101 = .ok (.aload_n 1, 1) := by decide +kernel
theorem dX4_seek_102 : decode cX4_seek 102 = .ok (.invokevirtual 70, 3) := by decide +kernel
theorem dX4_seek_105 : decode cX4_seek 105 = .ok (.ifCond .ne (-80), 3) := by decide +kernel
theorem dX4_seek_108 : decode cX4_seek 108 = .ok (.aload_n 0, 1) := by decide +kernel
theorem dX4_seek_109 : decode cX4_seek 109 = .ok (.aload_n 1, 1) := by decide +kernel
theorem dX4_seek_110 : decode cX4_seek 110 = .ok (.aload_n 2, 1) := by decide +kernel
theorem dX4_seek_111 : decode cX4_seek 111 = .ok (.invokevirtual 74, 3) := by decide +kernel
theorem dX4_seek_114 : decode cX4_seek 114 = .ok (.goto (-89), 3) := by decide +kernel
theorem dX4_seek_117 : decode cX4_seek 117 = .ok (.aload_n 0, 1) := by decide +kernel
theorem dX4_seek_118 : decode cX4_seek 118 = .ok (.getfield 50, 3) := by decide +kernel
theorem dX4_seek_121 : decode cX4_seek 121 = .ok (.ifCond .ne 7, 3) := by decide +kernel
theorem dX4_seek_124 : decode cX4_seek 124 = .ok (.iconst 1, 1) := by decide +kernel
theorem dX4_seek_125 : decode cX4_seek 125 = .ok (.goto 4, 3) := by decide +kernel
theorem dX4_seek_128 : decode cX4_seek 128 = .ok (.iconst 0, 1) := by decide +kernel
theorem dX4_seek_129 : decode cX4_seek 129 = .ok (.ireturn, 1) := by decide +kernel
theorem dX4_splitCase_0 : decode cX4_splitCase 0 = .ok (.iconst 0, 1) := by decide +kernel
theorem dX4_splitCase_1 : decode cX4_splitCase 1 = .ok (.istore_n 2, 1) := by decide +kernel
theorem dX4_splitCase_2 : decode cX4_splitCase 2 = .ok (.iload_n 2, 1) := by decide +kernel
theorem dX4_splitCase_3 : decode cX4_splitCase 3 = .ok (.aload_n 1, 1) := by decide +kernel
theorem dX4_splitCase_4 : decode cX4_splitCase 4 = .ok (.getfield 78, 3) := by decide +kernel
theorem dX4_splitCase_7 : decode cX4_splitCase 7 = .ok (.if_icmp .ge 94, 3) := by decide +kernel
theorem dX4_splitCase_10 : decode cX4_splitCase 10 = .ok (.iload_n 2, 1) := by decide +kernel
theorem dX4_splitCase_11 : decode cX4_splitCase 11 = .ok (.iconst 1, 1) := by decide +kernel
theorem dX4_splitCase_12 : decode cX4_splitCase 12 = .ok (.iadd, 1) := by decide +kernel
theorem dX4_splitCase_13 : decode cX4_splitCase 13 = .ok (.istore_n 3, 1) := by decide +kernel
theorem dX4_splitCase_14 : decode cX4_splitCase 14 = .ok (.iload_n 3, 1) := by decide +kernel
theorem dX4_splitCase_15 : decode cX4_splitCase 15 = .ok (.aload_n 1, 1) := by decide +kernel
theorem dX4_splitCase_16 : decode cX4_splitCase 16 = .ok (.getfield 78, 3) := by decide +kernel
theorem dX4_splitCase_19 : decode cX4_splitCase 19 = .ok (.if_icmp .ge 76, 3) := by decide +kernel
theorem dX4_splitCase_22 : decode cX4_splitCase 22 = .ok (.aload_n 1, 1) := by decide +kernel
theorem dX4_splitCase_23 : decode cX4_splitCase 23 = .ok (.getfield 83, 3) := by decide +kernel
theorem dX4_splitCase_26 : decode cX4_splitCase 26 = .ok (.iload_n 2, 1) := by decide +kernel
theorem dX4_splitCase_27 : decode cX4_splitCase 27 = .ok (.iaload, 1) := by decide +kernel
theorem dX4_splitCase_28 : decode cX4_splitCase 28 = .ok (.istore 4, 2) := by decide +kernel
theorem dX4_splitCase_30 : decode cX4_splitCase 30 = .ok (.aload_n 1, 1) := by decide +kernel
theorem dX4_splitCase_31 : decode cX4_splitCase 31 = .ok (.getfield 83, 3) := by decide +kernel
theorem dX4_splitCase_34 : decode cX4_splitCase 34 = .ok (.iload_n 3, 1) := by decide +kernel
theorem dX4_splitCase_35 : decode cX4_splitCase 35 = .ok (.iaload, 1) := by decide +kernel
theorem dX4_splitCase_36 : decode cX4_splitCase 36 = .ok (.iload 4, 2) := by decide +kernel
theorem dX4_splitCase_38 : decode cX4_splitCase 38 = .ok (.if_icmp .ne 17, 3) := by decide +kernel
theorem dX4_splitCase_41 : decode cX4_splitCase 41 = .ok (.aload_n 1, 1) := by decide +kernel
theorem dX4_splitCase_42 : decode cX4_splitCase 42 = .ok (.getfield 86, 3) := by decide +kernel
theorem dX4_splitCase_45 : decode cX4_splitCase 45 = .ok (.iload 4, 2) := by decide +kernel
theorem dX4_splitCase_47 : decode cX4_splitCase 47 = .ok (.iaload, 1) := by decide +kernel
theorem dX4_splitCase_48 : decode cX4_splitCase 48 = .ok (.ifCond .ne 7, 3) := by decide +kernel
theorem dX4_splitCase_51 : decode cX4_splitCase 51 = .ok (.iconst 1, 1) := by decide +kernel
theorem dX4_splitCase_52 : decode cX4_splitCase 52 = .ok (.goto 4, 3) := by decide +kernel
theorem dX4_splitCase_55 : decode cX4_splitCase 55 = .ok (.iconst 0, 1) := by decide +kernel
theorem dX4_splitCase_56 : decode cX4_splitCase 56 = .ok (.istore 5, 2) := by decide +kernel
theorem dX4_splitCase_58 : decode cX4_splitCase 58 = .ok (.iload 5, 2) := by decide +kernel
theorem dX4_splitCase_60 : decode cX4_splitCase 60 = .ok (.ifCond .eq 29, 3) := by decide +kernel
theorem dX4_splitCase_63 : decode cX4_splitCase 63 = .ok (.aload_n 0, 1) := by decide +kernel
theorem dX4_splitCase_64 : decode cX4_splitCase 64 = .ok (.getfield 19, 3) := by decide +kernel
theorem dX4_splitCase_67 : decode cX4_splitCase 67 = .ok (.iload_n 2, 1) := by decide +kernel
theorem dX4_splitCase_68 : decode cX4_splitCase 68 = .ok (.iload_n 3, 1) := by decide +kernel
theorem dX4_splitCase_69 : decode cX4_splitCase 69 = .ok (.invokevirtual 89, 3) := by decide +kernel
theorem dX4_splitCase_72 : decode cX4_splitCase 72 = .ok (.ifCond .eq 17, 3) := by decide +kernel
theorem dX4_splitCase_75 : decode cX4_splitCase 75 = .ok (.aload_n 0, 1) := by decide +kernel
theorem dX4_splitCase_76 : decode cX4_splitCase 76 = .ok (.iload_n 3, 1) := by decide +kernel
theorem dX4_splitCase_77 : decode cX4_splitCase 77 = .ok (.iload_n 2, 1) := by decide +kernel
theorem dX4_splitCase_78 : decode cX4_splitCase 78 = .ok (.invokevirtual 93, 3) := by decide +kernel
theorem dX4_splitCase_81 : decode cX4_splitCase 81 = .ok (.aload_n 0, 1) := by decide +kernel
theorem dX4_splitCase_82 : decode cX4_splitCase 82 = .ok (.iload_n 2, 1) := by decide +kernel
