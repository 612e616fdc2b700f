theorem dX4_splitCase_83 : decode cX4_splitCase 83 = .ok (.iload_n 3, 1) := by decide +kernel
theorem dX4_splitCase_84 : decode cX4_splitCase 84 = .ok (.invokevirtual 93, 3) := by decide +kernel
theorem dX4_splitCase_87 : decode cX4_splitCase 87 = .ok (.iconst 1, 1) := by decide +kernel
theorem dX4_splitCase_88 : decode cX4_splitCase 88 = .ok (.ireturn, 1) := by decide +kernel
theorem dX4_splitCase_89 : decode cX4_splitCase 89 = .ok (.iinc 3 1, 3) := by decide +kernel
theorem dX4_splitCase_92 : decode cX4_splitCase 92 = .ok (.goto (-78), 3) := by decide +kernel
theorem dX4_splitCase_95 : decode cX4_splitCase 95 = .ok (.iinc 2 1, 3) := by decide +kernel
theorem dX4_splitCase_98 : decode cX4_splitCase 98 = .ok (.goto (-96), 3) := by decide +kernel
theorem dX4_splitCase_101 : decode cX4_splitCase 101 = .ok (.iconst 0, 1) := by decide +kernel
theorem dX4_splitCase_102 : decode cX4_splitCase 102 = .ok (.ireturn, 1) := by decide +kernel
theorem dX4_addCase_0 : decode cX4_addCase 0 = .ok (.aload_n 0, 1) := by decide +kernel
theorem dX4_addCase_1 : decode cX4_addCase 1 = .ok (.getfield 50, 3) := by decide +kernel
theorem dX4_addCase_4 : decode cX4_addCase 4 = .ok (.aload_n 0, 1) := by decide +kernel
theorem dX4_addCase_5 : decode cX4_addCase 5 = .ok (.getfield 11, 3) := by decide +kernel
theorem dX4_addCase_8 : decode cX4_addCase 8 = .ok (.arraylength, 1) := by decide +kernel
theorem dX4_addCase_9 : decode cX4_addCase 9 = .ok (.if_icmp .ge 53, 3) := by decide +kernel
theorem dX4_addCase_12 : decode cX4_addCase 12 = .ok (.aload_n 0, 1) := by decide +kernel
theorem dX4_addCase_13 : decode cX4_addCase 13 = .ok (.getfield 19, 3) := by decide +kernel
theorem dX4_addCase_16 : decode cX4_addCase 16 = .ok (.getfield 53, 3) := by decide +kernel
theorem dX4_addCase_19 : decode cX4_addCase 19 = .ok (.iconst 0, 1) := by decide +kernel
theorem dX4_addCase_20 : decode cX4_addCase 20 = .ok (.aload_n 0, 1) := by decide +kernel
theorem dX4_addCase_21 : decode cX4_addCase 21 = .ok (.getfield 11, 3) := by decide +kernel
theorem dX4_addCase_24 : decode cX4_addCase 24 = .ok (.aload_n 0, 1) := by decide +kernel
theorem dX4_addCase_25 : decode cX4_addCase 25 = .ok (.getfield 50, 3) := by decide +kernel
theorem dX4_addCase_28 : decode cX4_addCase 28 = .ok (.aaload, 1) := by decide +kernel
theorem dX4_addCase_29 : decode cX4_addCase 29 = .ok (.iconst 0, 1) := by decide +kernel
theorem dX4_addCase_30 : decode cX4_addCase 30 = .ok (.bipush 32, 2) := by decide +kernel
theorem dX4_addCase_32 : decode cX4_addCase 32 = .ok (.invokestatic 57, 3) := by decide +kernel
theorem dX4_addCase_35 : decode cX4_addCase 35 = .ok (.aload_n 0, 1) := by decide +kernel
theorem dX4_addCase_36 : decode cX4_addCase 36 = .ok (.getfield 11, 3) := by decide +kernel
theorem dX4_addCase_39 : decode cX4_addCase 39 = .ok (.aload_n 0, 1) := by decide +kernel
theorem dX4_addCase_40 : decode cX4_addCase 40 = .ok (.getfield 50, 3) := by decide +kernel
theorem dX4_addCase_43 : decode cX4_addCase 43 = .ok (.aaload, 1) := by decide +kernel
theorem dX4_addCase_44 : decode cX4_addCase 44 = .ok (.iload_n 1, 1) := by decide +kernel
theorem dX4_addCase_45 : decode cX4_addCase 45 = .ok (.dup2, 1) := by decide +kernel
theorem dX4_addCase_46 : decode cX4_addCase 46 = .ok (.iaload, 1) := by decide +kernel
theorem dX4_addCase_47 : decode cX4_addCase 47 = .ok (.iconst 1, 1) := by decide +kernel
theorem dX4_addCase_48 : decode cX4_addCase 48 = .ok (.iload_n 2, 1) := by decide +kernel
theorem dX4_addCase_49 : decode cX4_addCase 49 = .ok (.ishl, 1) := by decide +kernel
theorem dX4_addCase_50 : decode cX4_addCase 50 = .ok (.ior, 1) := by decide +kernel
theorem dX4_addCase_51 : decode cX4_addCase 51 = .ok (.iastore, 1) := by decide +kernel
theorem dX4_addCase_52 : decode cX4_addCase 52 = .ok (.aload_n 0, 1) := by decide +kernel
theorem dX4_addCase_53 : decode cX4_addCase 53 = .ok (.dup, 1) := by decide +kernel
theorem dX4_addCase_54 : decode cX4_addCase 54 = .ok (.getfield 50, 3) := by decide +kernel
theorem dX4_addCase_57 : decode cX4_addCase 57 = .ok (.iconst 1, 1) := by decide +kernel
theorem dX4_addCase_58 : decode cX4_addCase 58 = .ok (.iadd, 1) := by decide +kernel
theorem dX4_addCase_59 : decode cX4_addCase 59 = .ok (.putfield 50, 3) := by decide +kernel
theorem dX4_addCase_62 : decode cX4_addCase 62 = .ok (.return_, 1) := by decide +kernel
theorem dX4_tryOrders_0 : decode cX4_tryOrders 0 = .ok (.aload_n 0, 1) := by decide +kernel
theorem dX4_tryOrders_1 : decode cX4_tryOrders 1 = .ok (.getfield 26, 3) := by decide +kernel
theorem dX4_tryOrders_4 : decode cX4_tryOrders 4 = .ok (.aload_n 2, 1) := by decide +kernel
theorem dX4_tryOrders_5 : decode cX4_tryOrders 5 = .ok (.invokevirtual 97, 3) := by decide +kernel
theorem dX4_tryOrders_8 : decode cX4_tryOrders 8 = .ok (.iconst 0, 1) := by decide +kernel
theorem dX4_tryOrders_9 : decode cX4_tryOrders 9 = .ok (.istore_n 3, 1) := by decide +kernel
theorem dX4_tryOrders_10 : decode cX4_tryOrders 10 = .ok (.iload_n 3, 1) := by decide +kernel
theorem dX4_tryOrders_11 : decode cX4_tryOrders 11 = .ok (.aload_n 1, 1) := by decide +kernel
theorem dX4_tryOrders_12 : decode cX4_tryOrders 12 = .ok (.getfield 101, 3) := by decide +kernel
theorem dX4_tryOrders_15 : decode cX4_tryOrders 15 = .ok (.if_icmp .ge 24, 3) := by decide +kernel
theorem dX4_tryOrders_18 : decode cX4_tryOrders 18 = .ok (.aload_n 1, 1) := by decide +kernel
theorem dX4_tryOrders_19 : decode cX4_tryOrders 19 = .ok (.getfield 86, 3) := by decide +kernel
theorem dX4_tryOrders_22 : decode cX4_tryOrders 22 = .ok (.iload_n 3, 1) := by decide +kernel
theorem dX4_tryOrders_23 : decode cX4_tryOrders 23 = .ok (.iaload, 1) := by decide +kernel
theorem dX4_tryOrders_24 : decode cX4_tryOrders 24 = .ok (.ifCond .ne 9, 3) := by decide +kernel
theorem dX4_tryOrders_27 : decode cX4_tryOrders 27 = .ok (.aload_n 0, 1) := by decide +kernel
theorem dX4_tryOrders_28 : decode cX4_tryOrders 28 = .ok (.aload_n 1, 1) := by decide +kernel
theorem dX4_tryOrders_29 : decode cX4_tryOrders 29 = .ok (.iload_n 3, 1) := by decide +kernel
theorem dX4_tryOrders_30 : decode cX4_tryOrders 30 = .ok (.invokevirtual 104, 3) := by decide +kernel
theorem dX4_tryOrders_33 : decode cX4_tryOrders 33 = .ok (.iinc 3 1, 3) := by decide +kernel
theorem dX4_tryOrders_36 : decode cX4_tryOrders 36 = .ok (.goto (-26), 3) := by decide +kernel
theorem dX4_tryOrders_39 : decode cX4_tryOrders 39 = .ok (.aload_n 0, 1) := by decide +kernel
theorem dX4_tryOrders_40 : decode cX4_tryOrders 40 = .ok (.getfield 33, 3) := by decide +kernel
theorem dX4_tryOrders_43 : decode cX4_tryOrders 43 = .ok (.aload_n 1, 1) := by decide +kernel
theorem dX4_tryOrders_44 : decode cX4_tryOrders 44 = .ok (.aload_n 0, 1) := by decide +kernel
theorem dX4_tryOrders_45 : decode cX4_tryOrders 45 = .ok (.getfield 26, 3) := by decide +kernel
theorem dX4_tryOrders_48 : decode cX4_tryOrders 48 = .ok (.invokevirtual 108, 3) := by decide +kernel
theorem dX4_tryOrders_51 : decode cX4_tryOrders 51 = .ok (.ifCond .eq 46, 3) := by decide +kernel
theorem dX4_tryOrders_54 : decode cX4_tryOrders 54 = .ok (.aload_n 0, 1) := by decide +kernel
theorem dX4_tryOrders_55 : decode cX4_tryOrders 55 = .ok (.getfield 33, 3) := by decide +kernel
theorem dX4_tryOrders_58 : decode cX4_tryOrders 58 = .ok (.getfield 112, 3) := by decide +kernel
theorem dX4_tryOrders_61 : decode cX4_tryOrders 61 = .ok (.aload_n 0, 1) := by decide +kernel
theorem dX4_tryOrders_62 : decode cX4_tryOrders 62 = .ok (.getfield 63, 3) := by decide +kernel
theorem dX4_tryOrders_65 : decode cX4_tryOrders 65 = .ok (.if_icmp .ge 32, 3) := by decide +kernel
theorem dX4_tryOrders_68 : decode cX4_tryOrders 68 = .ok (.aload_n 0, 1) := by decide +kernel
theorem dX4_tryOrders_69 : decode cX4_tryOrders 69 = .ok (.aload_n 0, 1) := by decide +kernel
theorem dX4_tryOrders_70 : decode cX4_tryOrders 70 = .ok (.getfield 33, 3) := by decide +kernel
theorem dX4_tryOrders_73 : decode cX4_tryOrders 73 = .ok (.getfield 112, 3) := by decide +kernel
theorem dX4_tryOrders_76 : decode cX4_tryOrders 76 = .ok (.putfield 63, 3) := by decide +kernel
theorem dX4_tryOrders_79 : decode cX4_tryOrders 79 = .ok (.aload_n 0, 1) := by decide +kernel
theorem dX4_tryOrders_80 : decode cX4_tryOrders 80 = .ok (.dup, 1) := by decide +kernel
theorem dX4_tryOrders_81 : decode cX4_tryOrders 81 = .ok (.getfield 41, 3) := by decide +kernel
theorem dX4_tryOrders_84 : decode cX4_tryOrders 84 = .ok (.iconst 1, 1) := by decide +kernel
theorem dX4_tryOrders_85 : decode cX4_tryOrders 85 = .ok (.iadd, 1) := by decide +kernel
theorem dX4_tryOrders_86 : decode cX4_tryOrders 86 = .ok (.putfield 41, 3) := by decide +kernel
theorem dX4_tryOrders_89 : decode cX4_tryOrders 89 = .ok (.aload_n 2, 1) := by decide +kernel
theorem dX4_tryOrders_90 : decode cX4_tryOrders 90 = .ok (.aload_n 0, 1) := by decide +kernel
theorem dX4_tryOrders_91 : decode cX4_tryOrders 91 = .ok (.getfield 26, 3) := by decide +kernel
theorem dX4_tryOrders_94 : decode cX4_tryOrders 94 = .ok (.invokevirtual 97, 3) := by decide +kernel
theorem dX4_tryOrders_97 : decode cX4_tryOrders 97 = .ok (.return_, 1) := by decide +kernel
theorem dX4_orderMachine_0 : decode cX4_orderMachine 0 = .ok (.aload_n 0, 1) := by decide +kernel
theorem dX4_orderMachine_1 : decode cX4_orderMachine 1 = .ok (.getfield 26, 3) := by decide +kernel
theorem dX4_orderMachine_4 : decode cX4_orderMachine 4 = .ok (.getfield 115, 3) := by decide +kernel
theorem dX4_orderMachine_7 : decode cX4_orderMachine 7 = .ok (.iload_n 2, 1) := by decide +kernel
theorem dX4_orderMachine_8 : decode cX4_orderMachine 8 = .ok (.aaload, 1) := by decide +kernel
theorem dX4_orderMachine_9 : decode cX4_orderMachine 9 = .ok (.astore_n 3, 1) := by decide +kernel
theorem dX4_orderMachine_10 : decode cX4_orderMachine 10 = .ok (.iconst 0, 1) := by decide +kernel
theorem dX4_orderMachine_11 : decode cX4_orderMachine 11 = .ok (.istore 4, 2) := by decide +kernel
theorem dX4_orderMachine_13 : decode cX4_orderMachine 13 = .ok (.iload 4, 2) := by decide +kernel
theorem dX4_orderMachine_15 : decode cX4_orderMachine 15 = .ok (.aload_n 1, 1) := by decide +kernel
theorem dX4_orderMachine_16 : decode cX4_orderMachine 16 = .ok (.getfield 118, 3) := by decide +kernel
theorem dX4_orderMachine_19 : decode cX4_orderMachine 19 = .ok (.iload_n 2, 1) := by decide +kernel
theorem dX4_orderMachine_20 : decode cX4_orderMachine 20 = .ok (.iaload, 1) := by decide +kernel
theorem dX4_orderMachine_21 : decode cX4_orderMachine 21 = .ok (.if_icmp .ge 82, 3) := by decide +kernel
theorem dX4_orderMachine_24 : decode cX4_orderMachine 24 = .ok (.aload_n 1, 1) := by decide +kernel
theorem dX4_orderMachine_25 : decode cX4_orderMachine 25 = .ok (.getfield 121, 3) := by decide +kernel
theorem dX4_orderMachine_28 : decode cX4_orderMachine 28 = .ok (.iload_n 2, 1) := by decide +kernel
theorem dX4_orderMachine_29 : decode cX4_orderMachine 29 = .ok (.aaload, 1) := by decide +kernel
theorem dX4_orderMachine_30 : decode cX4_orderMachine 30 = .ok (.iload 4, 2) := by decide +kernel
theorem dX4_orderMachine_32 : decode cX4_orderMachine 32 = .ok (.iaload, 1) := by decide +kernel
theorem dX4_orderMachine_33 : decode cX4_orderMachine 33 = .ok (.istore 5, 2) := by decide +kernel
theorem dX4_orderMachine_35 : decode cX4_orderMachine 35 = .ok (.iload 4, 2) := by decide +kernel
theorem dX4_orderMachine_37 : decode cX4_orderMachine 37 = .ok (.istore 6, 2) := by decide +kernel
theorem dX4_orderMachine_39 : decode cX4_orderMachine 39 = .ok (.iload 4, 2) := by decide +kernel
theorem dX4_orderMachine_41 : decode cX4_orderMachine 41 = .ok (.istore 7, 2) := by decide +kernel
theorem dX4_orderMachine_43 : decode cX4_orderMachine 43 = .ok (.iload 7, 2) := by decide +kernel
theorem dX4_orderMachine_45 : decode cX4_orderMachine 45 = .ok (.ifCond .le 46, 3) := by decide +kernel
theorem dX4_orderMachine_48 : decode cX4_orderMachine 48 = .ok (.aload_n 0, 1) := by decide +kernel
theorem dX4_orderMachine_49 : decode cX4_orderMachine 49 = .ok (.aload_n 1, 1) := by decide +kernel
theorem dX4_orderMachine_50 : decode cX4_orderMachine 50 = .ok (.aload_n 3, 1) := by decide +kernel
theorem dX4_orderMachine_51 : decode cX4_orderMachine 51 = .ok (.iload 7, 2) := by decide +kernel
theorem dX4_orderMachine_53 : decode cX4_orderMachine 53 = .ok (.iconst 1, 1) := by decide +kernel
theorem dX4_orderMachine_54 : decode cX4_orderMachine 54 = .ok (.isub, 1) := by decide +kernel
theorem dX4_orderMachine_55 : decode cX4_orderMachine 55 = .ok (.iaload, 1) := by decide +kernel
theorem dX4_orderMachine_56 : decode cX4_orderMachine 56 = .ok (.invokevirtual 124, 3) := by decide +kernel
theorem dX4_orderMachine_59 : decode cX4_orderMachine 59 = .ok (.aload_n 0, 1) := by decide +kernel
theorem dX4_orderMachine_60 : decode cX4_orderMachine 60 = .ok (.aload_n 1, 1) := by decide +kernel
theorem dX4_orderMachine_61 : decode cX4_orderMachine 61 = .ok (.iload 5, 2) := by decide +kernel
theorem dX4_orderMachine_63 : decode cX4_orderMachine 63 = .ok (.invokevirtual 124, 3) := by decide +kernel
theorem dX4_orderMachine_66 : decode cX4_orderMachine 66 = .ok (.if_icmp .le 25, 3) := by decide +kernel
theorem dX4_orderMachine_69 : decode cX4_orderMachine 69 = .ok (.aload_n 3, 1) := by decide +kernel
theorem dX4_orderMachine_70 : decode cX4_orderMachine 70 = .ok (.iload 7, 2) := by decide +kernel
theorem dX4_orderMachine_72 : decode cX4_orderMachine 72 = .ok (.aload_n 3, 1) := by decide +kernel
theorem dX4_orderMachine_73 : decode cX4_orderMachine 73 = .ok (.iload 7, 2) := by decide +kernel
theorem dX4_orderMachine_75 : decode cX4_orderMachine 75 = .ok (.iconst 1, 1) := by decide +kernel
theorem dX4_orderMachine_76 : decode cX4_orderMachine 76 = .ok (.isub, 1) := by decide +kernel
theorem dX4_orderMachine_77 : decode cX4_orderMachine 77 = .ok (.iaload, 1) := by decide +kernel
theorem dX4_orderMachine_78 : decode cX4_orderMachine 78 = .ok (.iastore, 1) := by decide +kernel
theorem dX4_orderMachine_79 : decode cX4_orderMachine 79 = .ok (.iload 7, 2) := by decide +kernel
theorem dX4_orderMachine_81 : decode cX4_orderMachine 81 = .ok (.iconst 1, 1) := by decide +kernel
theorem dX4_orderMachine_82 : decode cX4_orderMachine 82 = .ok (.isub, 1) := by decide +kernel
theorem dX4_orderMachine_83 : decode cX4_orderMachine 83 = .ok (.istore 6, 2) := by decide +kernel
theorem dX4_orderMachine_85 : decode cX4_orderMachine 85 = .ok (.iinc 7 (-1), 3) := by decide +kernel
theorem dX4_orderMachine_88 : decode cX4_orderMachine 88 = .ok (.goto (-45), 3) := by decide +kernel
theorem dX4_orderMachine_91 : decode cX4_orderMachine 91 = .ok (.aload_n 3, 1) := by decide +kernel
theorem dX4_orderMachine_92 : decode cX4_orderMachine 92 = .ok (.iload 6, 2) := by decide +kernel
theorem dX4_orderMachine_94 : decode cX4_orderMachine 94 = .ok (.iload 5, 2) := by decide +kernel
theorem dX4_orderMachine_96 : decode cX4_orderMachine 96 = .ok (.iastore, 1) := by decide +kernel
theorem dX4_orderMachine_97 : decode cX4_orderMachine 97 = .ok (.iinc 4 1, 3) := by decide +kernel
theorem dX4_orderMachine_100 : decode cX4_orderMachine 100 = .ok (.goto (-87), 3) := by decide +kernel
theorem dX4_orderMachine_103 : decode cX4_orderMachine 103 = .ok (.return_, 1) := by decide +kernel
theorem dX4_aheadOf_0 : decode cX4_aheadOf 0 = .ok (.aload_n 1, 1) := by decide +kernel
theorem dX4_aheadOf_1 : decode cX4_aheadOf 1 = .ok (.getfield 83, 3) := by decide +kernel
theorem dX4_aheadOf_4 : decode cX4_aheadOf 4 = .ok (.iload_n 2, 1) := by decide +kernel
theorem dX4_aheadOf_5 : decode cX4_aheadOf 5 = .ok (.iaload, 1) := by decide +kernel
theorem dX4_aheadOf_6 : decode cX4_aheadOf 6 = .ok (.istore_n 3, 1) := by decide +kernel
theorem dX4_aheadOf_7 : decode cX4_aheadOf 7 = .ok (.iconst 0, 1) := by decide +kernel
theorem dX4_aheadOf_8 : decode cX4_aheadOf 8 = .ok (.istore 4, 2) := by decide +kernel
theorem dX4_aheadOf_10 : decode cX4_aheadOf 10 = .ok (.iconst 0, 1) := by decide +kernel
theorem dX4_aheadOf_11 : decode cX4_aheadOf 11 = .ok (.istore 5, 2) := by decide +kernel
theorem dX4_aheadOf_13 : decode cX4_aheadOf 13 = .ok (.iload 5, 2) := by decide +kernel
theorem dX4_aheadOf_15 : decode cX4_aheadOf 15 = .ok (.aload_n 1, 1) := by decide +kernel
theorem dX4_aheadOf_16 : decode cX4_aheadOf 16 = .ok (.getfield 118, 3) := by decide +kernel
theorem dX4_aheadOf_19 : decode cX4_aheadOf 19 = .ok (.iload_n 3, 1) := by decide +kernel
theorem dX4_aheadOf_20 : decode cX4_aheadOf 20 = .ok (.iaload, 1) := by decide +kernel
theorem dX4_aheadOf_21 : decode cX4_aheadOf 21 = .ok (.if_icmp .ge 39, 3) := by decide +kernel
theorem dX4_aheadOf_24 : decode cX4_aheadOf 24 = .ok (.iload 4, 2) := by decide +kernel
theorem dX4_aheadOf_26 : decode cX4_aheadOf 26 = .ok (.aload_n 0, 1) := by decide +kernel
theorem dX4_aheadOf_27 : decode cX4_aheadOf 27 = .ok (.getfield 19, 3) := by decide +kernel
theorem dX4_aheadOf_30 : decode cX4_aheadOf 30 = .ok (.aload_n 1, 1) := by decide +kernel
theorem dX4_aheadOf_31 : decode cX4_aheadOf 31 = .ok (.getfield 121, 3) := by decide +kernel
theorem dX4_aheadOf_34 : decode cX4_aheadOf 34 = .ok (.iload_n 3, 1) := by decide +kernel
theorem dX4_aheadOf_35 : decode cX4_aheadOf 35 = .ok (.aaload, 1) := by decide +kernel
theorem dX4_aheadOf_36 : decode cX4_aheadOf 36 = .ok (.iload 5, 2) := by decide +kernel
theorem dX4_aheadOf_38 : decode cX4_aheadOf 38 = .ok (.iaload, 1) := by decide +kernel
theorem dX4_aheadOf_39 : decode cX4_aheadOf 39 = .ok (.iload_n 2, 1) := by decide +kernel
theorem dX4_aheadOf_40 : decode cX4_aheadOf 40 = .ok (.invokevirtual 128, 3) := by decide +kernel
theorem dX4_aheadOf_43 : decode cX4_aheadOf 43 = .ok (.ifCond .eq 7, 3) := by decide +kernel
theorem dX4_aheadOf_46 : decode cX4_aheadOf 46 = .ok (.iconst 1, 1) := by decide +kernel
theorem dX4_aheadOf_47 : decode cX4_aheadOf 47 = .ok (.goto 4, 3) := by decide +kernel
theorem dX4_aheadOf_50 : decode cX4_aheadOf 50 = .ok (.iconst 0, 1) := by decide +kernel
theorem dX4_aheadOf_51 : decode cX4_aheadOf 51 = .ok (.iadd, 1) := by decide +kernel
theorem dX4_aheadOf_52 : decode cX4_aheadOf 52 = .ok (.istore 4, 2) := by decide +kernel
theorem dX4_aheadOf_54 : decode cX4_aheadOf 54 = .ok (.iinc 5 1, 3) := by decide +kernel
theorem dX4_aheadOf_57 : decode cX4_aheadOf 57 = .ok (.goto (-44), 3) := by decide +kernel
theorem dX4_aheadOf_60 : decode cX4_aheadOf 60 = .ok (.iload 4, 2) := by decide +kernel
theorem dX4_aheadOf_62 : decode cX4_aheadOf 62 = .ok (.ireturn, 1) := by decide +kernel
theorem dX5_init_0 : decode cX5_init 0 = .ok (.aload_n 0, 1) := by decide +kernel
theorem dX5_init_1 : decode cX5_init 1 = .ok (.invokespecial 3, 3) := by decide +kernel
theorem dX5_init_4 : decode cX5_init 4 = .ok (.aload_n 0, 1) := by decide +kernel
theorem dX5_init_5 : decode cX5_init 5 = .ok (.bipush 6, 2) := by decide +kernel
theorem dX5_init_7 : decode cX5_init 7 = .ok (.newarray .int, 2) := by decide +kernel
theorem dX5_init_9 : decode cX5_init 9 = .ok (.putfield 9, 3) := by decide +kernel
theorem dX5_init_12 : decode cX5_init 12 = .ok (.aload_n 0, 1) := by decide +kernel
theorem dX5_init_13 : decode cX5_init 13 = .ok (.bipush 6, 2) := by decide +kernel
theorem dX5_init_15 : decode cX5_init 15 = .ok (.newarray .int, 2) := by decide +kernel
theorem dX5_init_17 : decode cX5_init 17 = .ok (.putfield 15, 3) := by decide +kernel
theorem dX5_init_20 : decode cX5_init 20 = .ok (.aload_n 0, 1) := by decide +kernel
theorem dX5_init_21 : decode cX5_init 21 = .ok (.bipush 6, 2) := by decide +kernel
theorem dX5_init_23 : decode cX5_init 23 = .ok (.bipush 40, 2) := by decide +kernel
theorem dX5_init_25 : decode cX5_init 25 = .ok (.multianewarray 18 2, 4) := by decide +kernel
theorem dX5_init_29 : decode cX5_init 29 = .ok (.putfield 20, 3) := by decide +kernel
theorem dX5_init_32 : decode cX5_init 32 = .ok (.aload_n 0, 1) := by decide +kernel
theorem dX5_init_33 : decode cX5_init 33 = .ok (.getfield 9, 3) := by decide +kernel
theorem dX5_init_36 : decode cX5_init 36 = .ok (.iconst (-1), 1) := by decide +kernel
theorem dX5_init_37 : decode cX5_init 37 = .ok (.invokestatic 23, 3) := by decide +kernel
theorem dX5_init_40 : decode cX5_init 40 = .ok (.return_, 1) := by decide +kernel
theorem dX5_cutTo_0 : decode cX5_cutTo 0 = .ok (.iload_n 0, 1) := by decide +kernel
theorem dX5_cutTo_1 : decode cX5_cutTo 1 = .ok (.ifCond .ne 6, 3) := by decide +kernel
theorem dX5_cutTo_4 : decode cX5_cutTo 4 = .ok (.iload_n 1, 1) := by decide +kernel
theorem dX5_cutTo_5 : decode cX5_cutTo 5 = .ok (.i2b, 1) := by decide +kernel
theorem dX5_cutTo_6 : decode cX5_cutTo 6 = .ok (.ireturn, 1) := by decide +kernel
theorem dX5_cutTo_7 : decode cX5_cutTo 7 = .ok (.iload_n 0, 1) := by decide +kernel
theorem dX5_cutTo_8 : decode cX5_cutTo 8 = .ok (.iconst 1, 1) := by decide +kernel
theorem dX5_cutTo_9 : decode cX5_cutTo 9 = .ok (.if_icmp .ne 8, 3) := by decide +kernel
theorem dX5_cutTo_12 : decode cX5_cutTo 12 = .ok (.iload_n 1, 1) := by decide +kernel
theorem dX5_cutTo_13 : decode cX5_cutTo 13 = .ok (.i2s, 1) := by decide +kernel
theorem dX5_cutTo_14 : decode cX5_cutTo 14 = .ok (.goto 4, 3) := by decide +kernel
theorem dX5_cutTo_17 : decode cX5_cutTo 17 = .ok (.iload_n 1, 1) := by decide +kernel
theorem dX5_cutTo_18 : decode cX5_cutTo 18 = .ok (.ireturn, 1) := by decide +kernel
theorem dX5_make_0 : decode cX5_make 0 = .ok (.aload_n 0, 1) := by decide +kernel
theorem dX5_make_1 : decode cX5_make 1 = .ok (.getfield 9, 3) := by decide +kernel
theorem dX5_make_4 : decode cX5_make 4 = .ok (.iload_n 1, 1) := by decide +kernel
theorem dX5_make_5 : decode cX5_make 5 = .ok (.iload_n 2, 1) := by decide +kernel
theorem dX5_make_6 : decode cX5_make 6 = .ok (.iastore, 1) := by decide +kernel
theorem dX5_make_7 : decode cX5_make 7 = .ok (.aload_n 0, 1) := by decide +kernel
theorem dX5_make_8 : decode cX5_make 8 = .ok (.getfield 15, 3) := by decide +kernel
theorem dX5_make_11 : decode cX5_make 11 = .ok (.iload_n 1, 1) := by decide +kernel
theorem dX5_make_12 : decode cX5_make 12 = .ok (.iload_n 3, 1) := by decide +kernel
theorem dX5_make_13 : decode cX5_make 13 = .ok (.iastore, 1) := by decide +kernel
theorem dX5_make_14 : decode cX5_make 14 = .ok (.aload_n 0, 1) := by decide +kernel
theorem dX5_make_15 : decode cX5_make 15 = .ok (.getfield 20, 3) := by decide +kernel
theorem dX5_make_18 : decode cX5_make 18 = .ok (.iload_n 1, 1) := by decide +kernel
theorem dX5_make_19 : decode cX5_make 19 = .ok (.aaload, 1) := by decide +kernel
theorem dX5_make_20 : decode cX5_make 20 = .ok (.iconst 0, 1) := by decide +kernel
theorem dX5_make_21 : decode cX5_make 21 = .ok (.invokestatic 23, 3) := by decide +kernel
theorem dX5_make_24 : decode cX5_make 24 = .ok (.return_, 1) := by decide +kernel
theorem dX5_remove_0 : decode cX5_remove 0 = .ok (.aload_n 0, 1) := by decide +kernel
theorem dX5_remove_1 : decode cX5_remove 1 = .ok (.getfield 9, 3) := by decide +kernel
theorem dX5_remove_4 : decode cX5_remove 4 = .ok (.iload_n 1, 1) := by decide +kernel
theorem dX5_remove_5 : decode cX5_remove 5 = .ok (.iconst (-1), 1) := by decide +kernel
theorem dX5_remove_6 : decode cX5_remove 6 = .ok (.iastore, 1) := by decide +kernel
theorem dX5_remove_7 : decode cX5_remove 7 = .ok (.aload_n 0, 1) := by decide +kernel
theorem dX5_remove_8 : decode cX5_remove 8 = .ok (.getfield 15, 3) := by decide +kernel
theorem dX5_remove_11 : decode cX5_remove 11 = .ok (.iload_n 1, 1) := by decide +kernel
theorem dX5_remove_12 : decode cX5_remove 12 = .ok (.iconst 0, 1) := by decide +kernel
theorem dX5_remove_13 : decode cX5_remove 13 = .ok (.iastore, 1) := by decide +kernel
theorem dX5_remove_14 : decode cX5_remove 14 = .ok (.return_, 1) := by decide +kernel
theorem dX5_isThere_0 : decode cX5_isThere 0 = .ok (.aload_n 0, 1) := by decide +kernel
theorem dX5_isThere_1 : decode cX5_isThere 1 = .ok (.getfield 9, 3) := by decide +kernel
theorem dX5_isThere_4 : decode cX5_isThere 4 = .ok (.iload_n 1, 1) := by decide +kernel
theorem dX5_isThere_5 : decode cX5_isThere 5 = .ok (.iaload, 1) := by decide +kernel
theorem dX5_isThere_6 : decode cX5_isThere 6 = .ok (.iconst (-1), 1) := by decide +kernel
theorem dX5_isThere_7 : decode cX5_isThere 7 = .ok (.if_icmp .eq 7, 3) := by decide +kernel
theorem dX5_isThere_10 : decode cX5_isThere 10 = .ok (.iconst 1, 1) := by decide +kernel
theorem dX5_isThere_11 : decode cX5_isThere 11 = .ok (.goto 4, 3) := by decide +kernel
theorem dX5_isThere_14 : decode cX5_isThere 14 = .ok (.iconst 0, 1) := by decide +kernel
theorem dX5_isThere_15 : decode cX5_isThere 15 = .ok (.ireturn, 1) := by decide +kernel
theorem dX5_codeOfPlace_0 : decode cX5_codeOfPlace 0 = .ok (.aload_n 0, 1) := by decide +kernel
theorem dX5_codeOfPlace_1 : decode cX5_codeOfPlace 1 = .ok (.iload_n 1, 1) := by decide +kernel
theorem dX5_codeOfPlace_2 : decode cX5_codeOfPlace 2 = .ok (.invokevirtual 29, 3) := by decide +kernel
theorem dX5_codeOfPlace_5 : decode cX5_codeOfPlace 5 = .ok (.ifCond .ne 5, 3) := by decide +kernel
theorem dX5_codeOfPlace_8 : decode cX5_codeOfPlace 8 = .ok (.iconst 1, 1) := by decide +kernel
theorem dX5_codeOfPlace_9 : decode cX5_codeOfPlace 9 = .ok (.ireturn, 1) := by decide +kernel
theorem dX5_codeOfPlace_10 : decode cX5_codeOfPlace 10 = .ok (.iload_n 2, 1) := by decide +kernel
theorem dX5_codeOfPlace_11 : decode cX5_codeOfPlace 11 = .ok (.ifCond .lt 13, 3) := by decide +kernel
theorem dX5_codeOfPlace_14 : decode cX5_codeOfPlace 14 = .ok (.iload_n 2, 1) := by decide +kernel
theorem dX5_codeOfPlace_15 : decode cX5_codeOfPlace 15 = .ok (.aload_n 0, 1) := by decide +kernel
theorem dX5_codeOfPlace_16 : decode cX5_codeOfPlace 16 = .ok (.getfield 15, 3) := by decide +kernel
theorem dX5_codeOfPlace_19 : decode cX5_codeOfPlace 19 = .ok (.iload_n 1, 1) := by decide +kernel
theorem dX5_codeOfPlace_20 : decode cX5_codeOfPlace 20 = .ok (.iaload, 1) := by decide +kernel
theorem dX5_codeOfPlace_21 : decode cX5_codeOfPlace 21 = .ok (.if_icmp .lt 7, 3) := by decide +kernel
theorem dX5_codeOfPlace_24 : decode cX5_codeOfPlace 24 = .ok (.iconst 3, 1) := by decide +kernel
theorem dX5_codeOfPlace_25 : decode cX5_codeOfPlace 25 = .ok (.goto 4, 3) := by decide +kernel
theorem dX5_codeOfPlace_28 : decode cX5_codeOfPlace 28 = .ok (.iconst 0, 1) := by decide +kernel
theorem dX5_codeOfPlace_29 : decode cX5_codeOfPlace 29 = .ok (.ireturn, 1) := by decide +kernel
theorem dX5_codeOfPut_0 : decode cX5_codeOfPut 0 = .ok (.aload_n 0, 1) := by decide +kernel
theorem dX5_codeOfPut_1 : decode cX5_codeOfPut 1 = .ok (.iload_n 1, 1) := by decide +kernel
theorem dX5_codeOfPut_2 : decode cX5_codeOfPut 2 = .ok (.invokevirtual 29, 3) := by decide +kernel
theorem dX5_codeOfPut_5 : decode cX5_codeOfPut 5 = .ok (.ifCond .eq 15, 3) := by decide +kernel
theorem dX5_codeOfPut_8 : decode cX5_codeOfPut 8 = .ok (.aload_n 0, 1) := by decide +kernel
theorem dX5_codeOfPut_9 : decode cX5_codeOfPut 9 = .ok (.getfield 9, 3) := by decide +kernel
theorem dX5_codeOfPut_12 : decode cX5_codeOfPut 12 = .ok (.iload_n 1, 1) := by decide +kernel
theorem dX5_codeOfPut_13 : decode cX5_codeOfPut 13 = .ok (.iaload, 1) := by decide +kernel
theorem dX5_codeOfPut_14 : decode cX5_codeOfPut 14 = .ok (.iload_n 2, 1) := by decide +kernel
theorem dX5_codeOfPut_15 : decode cX5_codeOfPut 15 = .ok (.if_icmp .eq 5, 3) := by decide +kernel
theorem dX5_codeOfPut_18 : decode cX5_codeOfPut 18 = .ok (.iconst 2, 1) := by decide +kernel
theorem dX5_codeOfPut_19 : decode cX5_codeOfPut 19 = .ok (.ireturn, 1) := by decide +kernel
theorem dX5_codeOfPut_20 : decode cX5_codeOfPut 20 = .ok (.aload_n 0, 1) := by decide +kernel
theorem dX5_codeOfPut_21 : decode cX5_codeOfPut 21 = .ok (.iload_n 1, 1) := by decide +kernel
theorem dX5_codeOfPut_22 : decode cX5_codeOfPut 22 = .ok (.iload_n 3, 1) := by decide +kernel
theorem dX5_codeOfPut_23 : decode cX5_codeOfPut 23 = .ok (.invokevirtual 33, 3) := by decide +kernel
theorem dX5_codeOfPut_26 : decode cX5_codeOfPut 26 = .ok (.ireturn, 1) := by decide +kernel
theorem dX5_codeOfCopy_0 : decode cX5_codeOfCopy 0 = .ok (.aload_n 0, 1) := by decide +kernel
theorem dX5_codeOfCopy_1 : decode cX5_codeOfCopy 1 = .ok (.iload_n 1, 1) := by decide +kernel
theorem dX5_codeOfCopy_2 : decode cX5_codeOfCopy 2 = .ok (.invokevirtual 29, 3) := by decide +kernel
theorem dX5_codeOfCopy_5 : decode cX5_codeOfCopy 5 = .ok (.ifCond .eq 11, 3) := by decide +kernel
theorem dX5_codeOfCopy_8 : decode cX5_codeOfCopy 8 = .ok (.aload_n 0, 1) := by decide +kernel
theorem dX5_codeOfCopy_9 : decode cX5_codeOfCopy 9 = .ok (.iload_n 3, 1) := by decide +kernel
theorem dX5_codeOfCopy_10 : decode cX5_codeOfCopy 10 = .ok (.invokevirtual 29, 3) := by decide +kernel
theorem dX5_codeOfCopy_13 : decode cX5_codeOfCopy 13 = .ok (.ifCond .ne 5, 3) := by decide +kernel
theorem dX5_codeOfCopy_16 : decode cX5_codeOfCopy 16 = .ok (.iconst 1, 1) := by decide +kernel
theorem dX5_codeOfCopy_17 : decode cX5_codeOfCopy 17 = .ok (.ireturn, 1) := by decide +kernel
theorem dX5_codeOfCopy_18 : decode cX5_codeOfCopy 18 = .ok (.aload_n 0, 1) := by decide +kernel
theorem dX5_codeOfCopy_19 : decode cX5_codeOfCopy 19 = .ok (.getfield 9, 3) := by decide +kernel
theorem dX5_codeOfCopy_22 : decode cX5_codeOfCopy 22 = .ok (.iload_n 1, 1) := by decide +kernel
theorem dX5_codeOfCopy_23 : decode cX5_codeOfCopy 23 = .ok (.iaload, 1) := by decide +kernel
theorem dX5_codeOfCopy_24 : decode cX5_codeOfCopy 24 = .ok (.aload_n 0, 1) := by decide +kernel
theorem dX5_codeOfCopy_25 : decode cX5_codeOfCopy 25 = .ok (.getfield 9, 3) := by decide +kernel
theorem dX5_codeOfCopy_28 : decode cX5_codeOfCopy 28 = .ok (.iload_n 3, 1) := by decide +kernel
theorem dX5_codeOfCopy_29 : decode cX5_codeOfCopy 29 = .ok (.iaload, 1) := by decide +kernel
theorem dX5_codeOfCopy_30 : decode cX5_codeOfCopy 30 = .ok (.if_icmp .eq 5, 3) := by decide +kernel
theorem dX5_codeOfCopy_33 : decode cX5_codeOfCopy 33 = .ok (.iconst 2, 1) := by decide +kernel
theorem dX5_codeOfCopy_34 : decode cX5_codeOfCopy 34 = .ok (.ireturn, 1) := by decide +kernel
theorem dX5_codeOfCopy_35 : decode cX5_codeOfCopy 35 = .ok (.aload_n 0, 1) := by decide +kernel
theorem dX5_codeOfCopy_36 : decode cX5_codeOfCopy 36 = .ok (.iload_n 1, 1) := by decide +kernel
theorem dX5_codeOfCopy_37 : decode cX5_codeOfCopy 37 = .ok (.iload_n 2, 1) := by decide +kernel
theorem dX5_codeOfCopy_38 : decode cX5_codeOfCopy 38 = .ok (.iload 5, 2) := by decide +kernel
theorem dX5_codeOfCopy_40 : decode cX5_codeOfCopy 40 = .ok (.invokevirtual 37, 3) := by decide +kernel
theorem dX5_codeOfCopy_43 : decode cX5_codeOfCopy 43 = .ok (.ifCond .eq 19, 3) := by decide +kernel
theorem dX5_codeOfCopy_46 : decode cX5_codeOfCopy 46 = .ok (.aload_n 0, 1) := by decide +kernel
theorem dX5_codeOfCopy_47 : decode cX5_codeOfCopy 47 = .ok (.iload_n 3, 1) := by decide +kernel
theorem dX5_codeOfCopy_48 : decode cX5_codeOfCopy 48 = .ok (.iload 4, 2) := by decide +kernel
theorem dX5_codeOfCopy_50 : decode cX5_codeOfCopy 50 = .ok (.iload 5, 2) := by decide +kernel
theorem dX5_codeOfCopy_52 : decode cX5_codeOfCopy 52 = .ok (.invokevirtual 37, 3) := by decide +kernel
theorem dX5_codeOfCopy_55 : decode cX5_codeOfCopy 55 = .ok (.ifCond .eq 7, 3) := by decide +kernel
theorem dX5_codeOfCopy_58 : decode cX5_codeOfCopy 58 = .ok (.iconst 0, 1) := by decide +kernel
theorem dX5_codeOfCopy_59 : decode cX5_codeOfCopy 59 = .ok (.goto 4, 3) := by decide +kernel
theorem dX5_codeOfCopy_62 : decode cX5_codeOfCopy 62 = .ok (.iconst 3, 1) := by decide +kernel
theorem dX5_codeOfCopy_63 : decode cX5_codeOfCopy 63 = .ok (.ireturn, 1) := by decide +kernel
theorem dX5_hasPlaces_0 : decode cX5_hasPlaces 0 = .ok (.iload_n 2, 1) := by decide +kernel
theorem dX5_hasPlaces_1 : decode cX5_hasPlaces 1 = .ok (.ifCond .lt 33, 3) := by decide +kernel
theorem dX5_hasPlaces_4 : decode cX5_hasPlaces 4 = .ok (.iload_n 3, 1) := by decide +kernel
theorem dX5_hasPlaces_5 : decode cX5_hasPlaces 5 = .ok (.ifCond .lt 29, 3) := by decide +kernel
theorem dX5_hasPlaces_8 : decode cX5_hasPlaces 8 = .ok (.iload_n 3, 1) := by decide +kernel
theorem dX5_hasPlaces_9 : decode cX5_hasPlaces 9 = .ok (.aload_n 0, 1) := by decide +kernel
theorem dX5_hasPlaces_10 : decode cX5_hasPlaces 10 = .ok (.getfield 15, 3) := by decide +kernel
theorem dX5_hasPlaces_13 : decode cX5_hasPlaces 13 = .ok (.iload_n 1, 1) := by decide +kernel
theorem dX5_hasPlaces_14 : decode cX5_hasPlaces 14 = .ok (.iaload, 1) := by decide +kernel
theorem dX5_hasPlaces_15 : decode cX5_hasPlaces 15 = .ok (.if_icmp .gt 19, 3) := by decide +kernel
theorem dX5_hasPlaces_18 : decode cX5_hasPlaces 18 = .ok (.iload_n 2, 1) := by decide +kernel
theorem dX5_hasPlaces_19 : decode cX5_hasPlaces 19 = .ok (.aload_n 0, 1) := by decide +kernel
theorem dX5_hasPlaces_20 : decode cX5_hasPlaces 20 = .ok (.getfield 15, 3) := by decide +kernel
theorem dX5_hasPlaces_23 : decode cX5_hasPlaces 23 = .ok (.iload_n 1, 1) := by decide +kernel
theorem dX5_hasPlaces_24 : decode cX5_hasPlaces 24 = .ok (.iaload, 1) := by decide +kernel
theorem dX5_hasPlaces_25 : decode cX5_hasPlaces 25 = .ok (.iload_n 3, 1) := by decide +kernel
theorem dX5_hasPlaces_26 : decode cX5_hasPlaces 26 = .ok (.isub, 1) := by decide +kernel
theorem dX5_hasPlaces_27 : decode cX5_hasPlaces 27 = .ok (.if_icmp .gt 7, 3) := by decide +kernel
theorem dX5_hasPlaces_30 : decode cX5_hasPlaces 30 = .ok (.iconst 1, 1) := by decide +kernel
theorem dX5_hasPlaces_31 : decode cX5_hasPlaces 31 = .ok (.goto 4, 3) := by decide +kernel
theorem dX5_hasPlaces_34 : decode cX5_hasPlaces 34 = .ok (.iconst 0, 1) := by decide +kernel
theorem dX5_hasPlaces_35 : decode cX5_hasPlaces 35 = .ok (.ireturn, 1) := by decide +kernel
theorem dX5_codeOfRead_0 : decode cX5_codeOfRead 0 = .ok (.aload_n 0, 1) := by decide +kernel
theorem dX5_codeOfRead_1 : decode cX5_codeOfRead 1 = .ok (.iload_n 1, 1) := by decide +kernel
theorem dX5_codeOfRead_2 : decode cX5_codeOfRead 2 = .ok (.invokevirtual 29, 3) := by decide +kernel
theorem dX5_codeOfRead_5 : decode cX5_codeOfRead 5 = .ok (.ifCond .ne 5, 3) := by decide +kernel
theorem dX5_codeOfRead_8 : decode cX5_codeOfRead 8 = .ok (.iconst 1, 1) := by decide +kernel
theorem dX5_codeOfRead_9 : decode cX5_codeOfRead 9 = .ok (.ireturn, 1) := by decide +kernel
theorem dX5_codeOfRead_10 : decode cX5_codeOfRead 10 = .ok (.aload_n 0, 1) := by decide +kernel
theorem dX5_codeOfRead_11 : decode cX5_codeOfRead 11 = .ok (.getfield 15, 3) := by decide +kernel
theorem dX5_codeOfRead_14 : decode cX5_codeOfRead 14 = .ok (.iload_n 1, 1) := by decide +kernel
theorem dX5_codeOfRead_15 : decode cX5_codeOfRead 15 = .ok (.iaload, 1) := by decide +kernel
theorem dX5_codeOfRead_16 : decode cX5_codeOfRead 16 = .ok (.iconst 2, 1) := by decide +kernel
theorem dX5_codeOfRead_17 : decode cX5_codeOfRead 17 = .ok (.irem, 1) := by decide +kernel
theorem dX5_codeOfRead_18 : decode cX5_codeOfRead 18 = .ok (.ifCond .eq 7, 3) := by decide +kernel
theorem dX5_codeOfRead_21 : decode cX5_codeOfRead 21 = .ok (.iconst 3, 1) := by decide +kernel
theorem dX5_codeOfRead_22 : decode cX5_codeOfRead 22 = .ok (.goto 4, 3) := by decide +kernel
theorem dX5_codeOfRead_25 : decode cX5_codeOfRead 25 = .ok (.iconst 0, 1) := by decide +kernel
theorem dX5_codeOfRead_26 : decode cX5_codeOfRead 26 = .ok (.ireturn, 1) := by decide +kernel
theorem dX6_init_0 : decode cX6_init 0 = .ok (.aload_n 0, 1) := by decide +kernel
theorem dX6_init_1 : decode cX6_init 1 = .ok (.invokespecial 3, 3) := by decide +kernel
theorem dX6_init_4 : decode cX6_init 4 = .ok (.aload_n 0, 1) := by decide +kernel
theorem dX6_init_5 : decode cX6_init 5 = .ok (.bipush 32, 2) := by decide +kernel
theorem dX6_init_7 : decode cX6_init 7 = .ok (.newarray .int, 2) := by decide +kernel
theorem dX6_init_9 : decode cX6_init 9 = .ok (.putfield 9, 3) := by decide +kernel
theorem dX6_init_12 : decode cX6_init 12 = .ok (.aload_n 0, 1) := by decide +kernel
theorem dX6_init_13 : decode cX6_init 13 = .ok (.bipush 32, 2) := by decide +kernel
theorem dX6_init_15 : decode cX6_init 15 = .ok (.newarray .int, 2) := by decide +kernel
theorem dX6_init_17 : decode cX6_init 17 = .ok (.putfield 15, 3) := by decide +kernel
theorem dX6_init_20 : decode cX6_init 20 = .ok (.aload_n 0, 1) := by decide +kernel
theorem dX6_init_21 : decode cX6_init 21 = .ok (.bipush 32, 2) := by decide +kernel
theorem dX6_init_23 : decode cX6_init 23 = .ok (.newarray .int, 2) := by decide +kernel
theorem dX6_init_25 : decode cX6_init 25 = .ok (.putfield 18, 3) := by decide +kernel
theorem dX6_init_28 : decode cX6_init 28 = .ok (.return_, 1) := by decide +kernel
theorem dX6_narrow_0 : decode cX6_narrow 0 = .ok (.aload_n 0, 1) := by decide +kernel
theorem dX6_narrow_1 : decode cX6_narrow 1 = .ok (.aload_n 1, 1) := by decide +kernel
theorem dX6_narrow_2 : decode cX6_narrow 2 = .ok (.getfield 21, 3) := by decide +kernel
theorem dX6_narrow_5 : decode cX6_narrow 5 = .ok (.putfield 27, 3) := by decide +kernel
theorem dX6_narrow_8 : decode cX6_narrow 8 = .ok (.aload_n 0, 1) := by decide +kernel
theorem dX6_narrow_9 : decode cX6_narrow 9 = .ok (.getfield 9, 3) := by decide +kernel
theorem dX6_narrow_12 : decode cX6_narrow 12 = .ok (.iconst 0, 1) := by decide +kernel
theorem dX6_narrow_13 : decode cX6_narrow 13 = .ok (.invokestatic 28, 3) := by decide +kernel
theorem dX6_narrow_16 : decode cX6_narrow 16 = .ok (.aload_n 0, 1) := by decide +kernel
theorem dX6_narrow_17 : decode cX6_narrow 17 = .ok (.getfield 15, 3) := by decide +kernel
theorem dX6_narrow_20 : decode cX6_narrow 20 = .ok (.iload_n 2, 1) := by decide +kernel
theorem dX6_narrow_21 : decode cX6_narrow 21 = .ok (.invokestatic 28, 3) := by decide +kernel
theorem dX6_narrow_24 : decode cX6_narrow 24 = .ok (.aload_n 0, 1) := by decide +kernel
theorem dX6_narrow_25 : decode cX6_narrow 25 = .ok (.iconst 0, 1) := by decide +kernel
theorem dX6_narrow_26 : decode cX6_narrow 26 = .ok (.putfield 34, 3) := by decide +kernel
theorem dX6_narrow_29 : decode cX6_narrow 29 = .ok (.aload_n 0, 1) := by decide +kernel
theorem dX6_narrow_30 : decode cX6_narrow 30 = .ok (.iconst 1, 1) := by decide +kernel
theorem dX6_narrow_31 : decode cX6_narrow 31 = .ok (.putfield 38, 3) := by decide +kernel
theorem dX6_narrow_34 : decode cX6_narrow 34 = .ok (.iconst 0, 1) := by decide +kernel
theorem dX6_narrow_35 : decode cX6_narrow 35 = .ok (.istore_n 3, 1) := by decide +kernel
theorem dX6_narrow_36 : decode cX6_narrow 36 = .ok (.iload_n 3, 1) := by decide +kernel
theorem dX6_narrow_37 : decode cX6_narrow 37 = .ok (.bipush 20, 2) := by decide +kernel
theorem dX6_narrow_39 : decode cX6_narrow 39 = .ok (.if_icmp .ge 84, 3) := by decide +kernel
theorem dX6_narrow_42 : decode cX6_narrow 42 = .ok (.aload_n 0, 1) := by decide +kernel
theorem dX6_narrow_43 : decode cX6_narrow 43 = .ok (.getfield 38, 3) := by decide +kernel
theorem dX6_narrow_46 : decode cX6_narrow 46 = .ok (.ifCond .eq 77, 3) := by decide +kernel
theorem dX6_narrow_49 : decode cX6_narrow 49 = .ok (.aload_n 0, 1) := by decide +kernel
theorem dX6_narrow_50 : decode cX6_narrow 50 = .ok (.getfield 34, 3) := by decide +kernel
theorem dX6_narrow_53 : decode cX6_narrow 53 = .ok (.ifCond .ne 70, 3) := by decide +kernel
theorem dX6_narrow_56 : decode cX6_narrow 56 = .ok (.aload_n 0, 1) := by decide +kernel
theorem dX6_narrow_57 : decode cX6_narrow 57 = .ok (.iconst 0, 1) := by decide +kernel
theorem dX6_narrow_58 : decode cX6_narrow 58 = .ok (.putfield 38, 3) := by decide +kernel
theorem dX6_narrow_61 : decode cX6_narrow 61 = .ok (.aload_n 0, 1) := by decide +kernel
theorem dX6_narrow_62 : decode cX6_narrow 62 = .ok (.aload_n 1, 1) := by decide +kernel
theorem dX6_narrow_63 : decode cX6_narrow 63 = .ok (.invokevirtual 41, 3) := by decide +kernel
theorem dX6_narrow_66 : decode cX6_narrow 66 = .ok (.aload_n 0, 1) := by decide +kernel
theorem dX6_narrow_67 : decode cX6_narrow 67 = .ok (.aload_n 1, 1) := by decide +kernel
theorem dX6_narrow_68 : decode cX6_narrow 68 = .ok (.invokevirtual 45, 3) := by decide +kernel
theorem dX6_narrow_71 : decode cX6_narrow 71 = .ok (.aload_n 0, 1) := by decide +kernel
theorem dX6_narrow_72 : decode cX6_narrow 72 = .ok (.getfield 34, 3) := by decide +kernel
theorem dX6_narrow_75 : decode cX6_narrow 75 = .ok (.ifCond .ne 13, 3) := by decide +kernel
theorem dX6_narrow_78 : decode cX6_narrow 78 = .ok (.aload_n 0, 1) := by decide +kernel
theorem dX6_narrow_79 : decode cX6_narrow 79 = .ok (.aload_n 1, 1) := by decide +kernel
theorem dX6_narrow_80 : decode cX6_narrow 80 = .ok (.invokevirtual 48, 3) := by decide +kernel
theorem dX6_narrow_83 : decode cX6_narrow 83 = .ok (.aload_n 0, 1) := by decide +kernel
theorem dX6_narrow_84 : decode cX6_narrow 84 = .ok (.aload_n 1, 1) := by decide +kernel
theorem dX6_narrow_85 : decode cX6_narrow 85 = .ok (.invokevirtual 45, 3) := by decide +kernel
theorem dX6_narrow_88 : decode cX6_narrow 88 = .ok (.aload_n 0, 1) := by decide +kernel
theorem dX6_narrow_89 : decode cX6_narrow 89 = .ok (.getfield 34, 3) := by decide +kernel
theorem dX6_narrow_92 : decode cX6_narrow 92 = .ok (.ifCond .ne 8, 3) := by decide +kernel
theorem dX6_narrow_95 : decode cX6_narrow 95 = .ok (.aload_n 0, 1) := by decide +kernel
theorem dX6_narrow_96 : decode cX6_narrow 96 = .ok (.aload_n 1, 1) := by decide +kernel
theorem dX6_narrow_97 : decode cX6_narrow 97 = .ok (.invokevirtual 51, 3) := by decide +kernel
theorem dX6_narrow_100 : decode cX6_narrow 100 = .ok (.aload_n 0, 1) := by decide +kernel
theorem dX6_narrow_101 : decode cX6_narrow 101 = .ok (.getfield 34, 3) := by decide +kernel
theorem dX6_narrow_104 : decode cX6_narrow 104 = .ok (.ifCond .ne 13, 3) := by decide +kernel
theorem dX6_narrow_107 : decode cX6_narrow 107 = .ok (.aload_n 0, 1) := by decide +kernel
theorem dX6_narrow_108 : decode cX6_narrow 108 = .ok (.aload_n 1, 1) := by decide +kernel
theorem dX6_narrow_109 : decode cX6_narrow 109 = .ok (.invokevirtual 54, 3) := by decide +kernel
theorem dX6_narrow_112 : decode cX6_narrow 112 = .ok (.aload_n 0, 1) := by decide +kernel
theorem dX6_narrow_113 : decode cX6_narrow 113 = .ok (.aload_n 1, 1) := by decide +kernel
theorem dX6_narrow_114 : decode cX6_narrow 114 = .ok (.invokevirtual 45, 3) := by decide +kernel
theorem dX6_narrow_117 : decode cX6_narrow 117 = .ok (.iinc 3 1, 3) := by decide +kernel
theorem dX6_narrow_120 : decode cX6_narrow 120 = .ok (.goto (-84), 3) := by decide +kernel
theorem dX6_narrow_123 : decode cX6_narrow 123 = .ok (.aload_n 0, 1) := by decide +kernel
theorem dX6_narrow_124 : decode cX6_narrow 124 = .ok (.getfield 34, 3) := by decide +kernel
theorem dX6_narrow_127 : decode cX6_narrow 127 = .ok (.ifCond .ne 7, 3) := by decide +kernel
theorem dX6_narrow_130 : decode cX6_narrow 130 = .ok (.iconst 1, 1) := by decide +kernel
theorem dX6_narrow_131 : decode cX6_narrow 131 = .ok (.goto 4, 3) := by decide +kernel
theorem dX6_narrow_134 : decode cX6_narrow 134 = .ok (.iconst 0, 1) := by decide +kernel
theorem dX6_narrow_135 : decode cX6_narrow 135 = .ok (.ireturn, 1) := by decide +kernel
theorem dX6_isAhead_0 : decode cX6_isAhead 0 = .ok (.aload_n 0, 1) := by decide +kernel
theorem dX6_isAhead_1 : decode cX6_isAhead 1 = .ok (.getfield 18, 3) := by decide +kernel
theorem dX6_isAhead_4 : decode cX6_isAhead 4 = .ok (.iload_n 1, 1) := by decide +kernel
theorem dX6_isAhead_5 : decode cX6_isAhead 5 = .ok (.iaload, 1) := by decide +kernel
theorem dX6_isAhead_6 : decode cX6_isAhead 6 = .ok (.iload_n 2, 1) := by decide +kernel
theorem dX6_isAhead_7 : decode cX6_isAhead 7 = .ok (.iushr, 1) := by decide +kernel
theorem dX6_isAhead_8 : decode cX6_isAhead 8 = .ok (.iconst 1, 1) := by decide +kernel
theorem dX6_isAhead_9 : decode cX6_isAhead 9 = .ok (.iand, 1) := by decide +kernel
theorem dX6_isAhead_10 : decode cX6_isAhead 10 = .ok (.ifCond .eq 7, 3) := by decide +kernel
theorem dX6_isAhead_13 : decode cX6_isAhead 13 = .ok (.iconst 1, 1) := by decide +kernel
theorem dX6_isAhead_14 : decode cX6_isAhead 14 = .ok (.goto 4, 3) := by decide +kernel
theorem dX6_isAhead_17 : decode cX6_isAhead 17 = .ok (.iconst 0, 1) := by decide +kernel
theorem dX6_isAhead_18 : decode cX6_isAhead 18 = .ok (.ireturn, 1) := by decide +kernel
theorem dX6_isOpen_0 : decode cX6_isOpen 0 = .ok (.aload_n 0, 1) := by decide +kernel
theorem dX6_isOpen_1 : decode cX6_isOpen 1 = .ok (.iload_n 1, 1) := by decide +kernel
theorem dX6_isOpen_2 : decode cX6_isOpen 2 = .ok (.iload_n 2, 1) := by decide +kernel
theorem dX6_isOpen_3 : decode cX6_isOpen 3 = .ok (.invokevirtual 57, 3) := by decide +kernel
theorem dX6_isOpen_6 : decode cX6_isOpen 6 = .ok (.ifCond .ne 16, 3) := by decide +kernel
theorem dX6_isOpen_9 : decode cX6_isOpen 9 = .ok (.aload_n 0, 1) := by decide +kernel
theorem dX6_isOpen_10 : decode cX6_isOpen 10 = .ok (.iload_n 2, 1) := by decide +kernel
theorem dX6_isOpen_11 : decode cX6_isOpen 11 = .ok (.iload_n 1, 1) := by decide +kernel
theorem dX6_isOpen_12 : decode cX6_isOpen 12 = .ok (.invokevirtual 57, 3) := by decide +kernel
theorem dX6_isOpen_15 : decode cX6_isOpen 15 = .ok (.ifCond .ne 7, 3) := by decide +kernel
theorem dX6_isOpen_18 : decode cX6_isOpen 18 = .ok (.iconst 1, 1) := by decide +kernel
theorem dX6_isOpen_19 : decode cX6_isOpen 19 = .ok (.goto 4, 3) := by decide +kernel
theorem dX6_isOpen_22 : decode cX6_isOpen 22 = .ok (.iconst 0, 1) := by decide +kernel
theorem dX6_isOpen_23 : decode cX6_isOpen 23 = .ok (.ireturn, 1) := by decide +kernel
theorem dX6_lookForBurst_0 : decode cX6_lookForBurst 0 = .ok (.iconst 0, 1) := by decide +kernel
theorem dX6_lookForBurst_1 : decode cX6_lookForBurst 1 = .ok (.istore_n 2, 1) := by decide +kernel
theorem dX6_lookForBurst_2 : decode cX6_lookForBurst 2 = .ok (.iload_n 2, 1) := by decide +kernel
theorem dX6_lookForBurst_3 : decode cX6_lookForBurst 3 = .ok (.aload_n 0, 1) := by decide +kernel
theorem dX6_lookForBurst_4 : decode cX6_lookForBurst 4 = .ok (.getfield 27, 3) := by decide +kernel
theorem dX6_lookForBurst_7 : decode cX6_lookForBurst 7 = .ok (.if_icmp .ge 36, 3) := by decide +kernel
theorem dX6_lookForBurst_10 : decode cX6_lookForBurst 10 = .ok (.aload_n 0, 1) := by decide +kernel
theorem dX6_lookForBurst_11 : decode cX6_lookForBurst 11 = .ok (.getfield 15, 3) := by decide +kernel
theorem dX6_lookForBurst_14 : decode cX6_lookForBurst 14 = .ok (.iload_n 2, 1) := by decide +kernel
theorem dX6_lookForBurst_15 : decode cX6_lookForBurst 15 = .ok (.iaload, 1) := by decide +kernel
theorem dX6_lookForBurst_16 : decode cX6_lookForBurst 16 = .ok (.aload_n 0, 1) := by decide +kernel
theorem dX6_lookForBurst_17 : decode cX6_lookForBurst 17 = .ok (.getfield 9, 3) := by decide +kernel
theorem dX6_lookForBurst_20 : decode cX6_lookForBurst 20 = .ok (.iload_n 2, 1) := by decide +kernel
theorem dX6_lookForBurst_21 : decode cX6_lookForBurst 21 = .ok (.iaload, 1) := by decide +kernel
theorem dX6_lookForBurst_22 : decode cX6_lookForBurst 22 = .ok (.isub, 1) := by decide +kernel
theorem dX6_lookForBurst_23 : decode cX6_lookForBurst 23 = .ok (.aload_n 1, 1) := by decide +kernel
theorem dX6_lookForBurst_24 : decode cX6_lookForBurst 24 = .ok (.getfield 61, 3) := by decide +kernel
theorem dX6_lookForBurst_27 : decode cX6_lookForBurst 27 = .ok (.iload_n 2, 1) := by decide +kernel
theorem dX6_lookForBurst_28 : decode cX6_lookForBurst 28 = .ok (.iaload, 1) := by decide +kernel
theorem dX6_lookForBurst_29 : decode cX6_lookForBurst 29 = .ok (.if_icmp .ge 8, 3) := by decide +kernel
theorem dX6_lookForBurst_32 : decode cX6_lookForBurst 32 = .ok (.aload_n 0, 1) := by decide +kernel
theorem dX6_lookForBurst_33 : decode cX6_lookForBurst 33 = .ok (.iconst 1, 1) := by decide +kernel
theorem dX6_lookForBurst_34 : decode cX6_lookForBurst 34 = .ok (.putfield 34, 3) := by decide +kernel
theorem dX6_lookForBurst_37 : decode cX6_lookForBurst 37 = .ok (.iinc 2 1, 3) := by decide +kernel
theorem dX6_lookForBurst_40 : decode cX6_lookForBurst 40 = .ok (.goto (-38), 3) := by decide +kernel
theorem dX6_lookForBurst_43 : decode cX6_lookForBurst 43 = .ok (.return_, 1) := by decide +kernel
theorem dX6_raise_0 : decode cX6_raise 0 = .ok (.aload_n 0, 1) := by decide +kernel
theorem dX6_raise_1 : decode cX6_raise 1 = .ok (.getfield 9, 3) := by decide +kernel
theorem dX6_raise_4 : decode cX6_raise 4 = .ok (.iload_n 1, 1) := by decide +kernel
theorem dX6_raise_5 : decode cX6_raise 5 = .ok (.iaload, 1) := by decide +kernel
theorem dX6_raise_6 : decode cX6_raise 6 = .ok (.iload_n 2, 1) := by decide +kernel
theorem dX6_raise_7 : decode cX6_raise 7 = .ok (.if_icmp .ge 15, 3) := by decide +kernel
theorem dX6_raise_10 : decode cX6_raise 10 = .ok (.aload_n 0, 1) := by decide +kernel
theorem dX6_raise_11 : decode cX6_raise 11 = .ok (.getfield 9, 3) := by decide +kernel
theorem dX6_raise_14 : decode cX6_raise 14 = .ok (.iload_n 1, 1) := by decide +kernel
theorem dX6_raise_15 : decode cX6_raise 15 = .ok (.iload_n 2, 1) := by decide +kernel
theorem dX6_raise_16 : decode cX6_raise 16 = .ok (.iastore, 1) := by decide +kernel
theorem dX6_raise_17 : decode cX6_raise 17 = .ok (.aload_n 0, 1) := by decide +kernel
theorem dX6_raise_18 : decode cX6_raise 18 = .ok (.iconst 1, 1) := by decide +kernel
theorem dX6_raise_19 : decode cX6_raise 19 = .ok (.putfield 38, 3) := by decide +kernel
theorem dX6_raise_22 : decode cX6_raise 22 = .ok (.return_, 1) := by decide +kernel
theorem dX6_lower_0 : decode cX6_lower 0 = .ok (.aload_n 0, 1) := by decide +kernel
theorem dX6_lower_1 : decode cX6_lower 1 = .ok (.getfield 15, 3) := by decide +kernel
theorem dX6_lower_4 : decode cX6_lower 4 = .ok (.iload_n 1, 1) := by decide +kernel
theorem dX6_lower_5 : decode cX6_lower 5 = .ok (.iaload, 1) := by decide +kernel
theorem dX6_lower_6 : decode cX6_lower 6 = .ok (.iload_n 2, 1) := by decide +kernel
theorem dX6_lower_7 : decode cX6_lower 7 = .ok (.if_icmp .le 15, 3) := by decide +kernel
theorem dX6_lower_10 : decode cX6_lower 10 = .ok (.aload_n 0, 1) := by decide +kernel
theorem dX6_lower_11 : decode cX6_lower 11 = .ok (.getfield 15, 3) := by decide +kernel
theorem dX6_lower_14 : decode cX6_lower 14 = .ok (.iload_n 1, 1) := by decide +kernel
theorem dX6_lower_15 : decode cX6_lower 15 = .ok (.iload_n 2, 1) := by decide +kernel
theorem dX6_lower_16 : decode cX6_lower 16 = .ok (.iastore, 1) := by decide +kernel
theorem dX6_lower_17 : decode cX6_lower 17 = .ok (.aload_n 0, 1) := by decide +kernel
theorem dX6_lower_18 : decode cX6_lower 18 = .ok (.iconst 1, 1) := by decide +kernel
theorem dX6_lower_19 : decode cX6_lower 19 = .ok (.putfield 38, 3) := by decide +kernel
theorem dX6_lower_22 : decode cX6_lower 22 = .ok (.return_, 1) := by decide +kernel
theorem dX6_alongPieces_0 : decode cX6_alongPieces 0 = .ok (.iconst 0, 1) := by decide +kernel
theorem dX6_alongPieces_1 : decode cX6_alongPieces 1 = .ok (.istore_n 2, 1) := by decide +kernel
theorem dX6_alongPieces_2 : decode cX6_alongPieces 2 = .ok (.iload_n 2, 1) := by decide +kernel
theorem dX6_alongPieces_3 : decode cX6_alongPieces 3 = .ok (.aload_n 1, 1) := by decide +kernel
theorem dX6_alongPieces_4 : decode cX6_alongPieces 4 = .ok (.getfield 64, 3) := by decide +kernel
theorem dX6_alongPieces_7 : decode cX6_alongPieces 7 = .ok (.if_icmp .ge 117, 3) := by decide +kernel
theorem dX6_alongPieces_10 : decode cX6_alongPieces 10 = .ok (.aload_n 1, 1) := by decide +kernel
theorem dX6_alongPieces_11 : decode cX6_alongPieces 11 = .ok (.getfield 67, 3) := by decide +kernel
theorem dX6_alongPieces_14 : decode cX6_alongPieces 14 = .ok (.iload_n 2, 1) := by decide +kernel
theorem dX6_alongPieces_15 : decode cX6_alongPieces 15 = .ok (.aaload, 1) := by decide +kernel
theorem dX6_alongPieces_16 : decode cX6_alongPieces 16 = .ok (.astore_n 3, 1) := by decide +kernel
theorem dX6_alongPieces_17 : decode cX6_alongPieces 17 = .ok (.aload_n 1, 1) := by decide +kernel
theorem dX6_alongPieces_18 : decode cX6_alongPieces 18 = .ok (.getfield 71, 3) := by decide +kernel
theorem dX6_alongPieces_21 : decode cX6_alongPieces 21 = .ok (.iload_n 2, 1) := by decide +kernel
theorem dX6_alongPieces_22 : decode cX6_alongPieces 22 = .ok (.iaload, 1) := by decide +kernel
theorem dX6_alongPieces_23 : decode cX6_alongPieces 23 = .ok (.istore 4, 2) := by decide +kernel
theorem dX6_alongPieces_25 : decode cX6_alongPieces 25 = .ok (.iconst 1, 1) := by decide +kernel
theorem dX6_alongPieces_26 : decode cX6_alongPieces 26 = .ok (.istore 5, 2) := by decide +kernel
theorem dX6_alongPieces_28 : decode cX6_alongPieces 28 = .ok (.iload 5, 2) := by decide +kernel
theorem dX6_alongPieces_30 : decode cX6_alongPieces 30 = .ok (.iload 4, 2) := by decide +kernel
theorem dX6_alongPieces_32 : decode cX6_alongPieces 32 = .ok (.if_icmp .ge 40, 3) := by decide +kernel
theorem dX6_alongPieces_35 : decode cX6_alongPieces 35 = .ok (.aload_n 0, 1) := by decide +kernel
theorem dX6_alongPieces_36 : decode cX6_alongPieces 36 = .ok (.aload_n 3, 1) := by decide +kernel
theorem dX6_alongPieces_37 : decode cX6_alongPieces 37 = .ok (.iload 5, 2) := by decide +kernel
theorem dX6_alongPieces_39 : decode cX6_alongPieces 39 = .ok (.iaload, 1) := by decide +kernel
theorem dX6_alongPieces_40 : decode cX6_alongPieces 40 = .ok (.aload_n 0, 1) := by decide +kernel
theorem dX6_alongPieces_41 : decode cX6_alongPieces 41 = .ok (.getfield 9, 3) := by decide +kernel
theorem dX6_alongPieces_44 : decode cX6_alongPieces 44 = .ok (.aload_n 3, 1) := by decide +kernel
theorem dX6_alongPieces_45 : decode cX6_alongPieces 45 = .ok (.iload 5, 2) := by decide +kernel
theorem dX6_alongPieces_47 : decode cX6_alongPieces 47 = .ok (.iconst 1, 1) := by decide +kernel
theorem dX6_alongPieces_48 : decode cX6_alongPieces 48 = .ok (.isub, 1) := by decide +kernel
theorem dX6_alongPieces_49 : decode cX6_alongPieces 49 = .ok (.iaload, 1) := by decide +kernel
theorem dX6_alongPieces_50 : decode cX6_alongPieces 50 = .ok (.iaload, 1) := by decide +kernel
theorem dX6_alongPieces_51 : decode cX6_alongPieces 51 = .ok (.aload_n 1, 1) := by decide +kernel
theorem dX6_alongPieces_52 : decode cX6_alongPieces 52 = .ok (.getfield 61, 3) := by decide +kernel
theorem dX6_alongPieces_55 : decode cX6_alongPieces 55 = .ok (.aload_n 3, 1) := by decide +kernel
theorem dX6_alongPieces_56 : decode cX6_alongPieces 56 = .ok (.iload 5, 2) := by decide +kernel
theorem dX6_alongPieces_58 : decode cX6_alongPieces 58 = .ok (.iconst 1, 1) := by decide +kernel
theorem dX6_alongPieces_59 : decode cX6_alongPieces 59 = .ok (.isub, 1) := by decide +kernel
theorem dX6_alongPieces_60 : decode cX6_alongPieces 60 = .ok (.iaload, 1) := by decide +kernel
theorem dX6_alongPieces_61 : decode cX6_alongPieces 61 = .ok (.iaload, 1) := by decide +kernel
theorem dX6_alongPieces_62 : decode cX6_alongPieces 62 = .ok (.iadd, 1) := by decide +kernel
theorem dX6_alongPieces_63 : decode cX6_alongPieces 63 = .ok (.invokevirtual 74, 3) := by decide +kernel
theorem dX6_alongPieces_66 : decode cX6_alongPieces 66 = .ok (.iinc 5 1, 3) := by decide +kernel
theorem dX6_alongPieces_69 : decode cX6_alongPieces 69 = .ok (.goto (-41), 3) := by decide +kernel
theorem dX6_alongPieces_72 : decode cX6_alongPieces 72 = .ok (.iload 4, 2) := by decide +kernel
theorem dX6_alongPieces_74 : decode cX6_alongPieces 74 = .ok (.iconst 1, 1) := by decide +kernel
theorem dX6_alongPieces_75 : decode cX6_alongPieces 75 = .ok (.isub, 1) := by decide +kernel
theorem dX6_alongPieces_76 : decode cX6_alongPieces 76 = .ok (.istore 5, 2) := by decide +kernel
theorem dX6_alongPieces_78 : decode cX6_alongPieces 78 = .ok (.iload 5, 2) := by decide +kernel
theorem dX6_alongPieces_80 : decode cX6_alongPieces 80 = .ok (.ifCond .le 38, 3) := by decide +kernel
theorem dX6_alongPieces_83 : decode cX6_alongPieces 83 = .ok (.aload_n 0, 1) := by decide +kernel
theorem dX6_alongPieces_84 : decode cX6_alongPieces 84 = .ok (.aload_n 3, 1) := by decide +kernel
theorem dX6_alongPieces_85 : decode cX6_alongPieces 85 = .ok (.iload 5, 2) := by decide +kernel
theorem dX6_alongPieces_87 : decode cX6_alongPieces 87 = .ok (.iconst 1, 1) := by decide +kernel
theorem dX6_alongPieces_88 : decode cX6_alongPieces 88 = .ok (.isub, 1) := by decide +kernel
theorem dX6_alongPieces_89 : decode cX6_alongPieces 89 = .ok (.iaload, 1) := by decide +kernel
theorem dX6_alongPieces_90 : decode cX6_alongPieces 90 = .ok (.aload_n 0, 1) := by decide +kernel
theorem dX6_alongPieces_91 : decode cX6_alongPieces 91 = .ok (.getfield 15, 3) := by decide +kernel
theorem dX6_alongPieces_94 : decode cX6_alongPieces 94 = .ok (.aload_n 3, 1) := by decide +kernel
theorem dX6_alongPieces_95 : decode cX6_alongPieces 95 = .ok (.iload 5, 2) := by decide +kernel
theorem dX6_alongPieces_97 : decode cX6_alongPieces 97 = .ok (.iaload, 1) := by decide +kernel
theorem dX6_alongPieces_98 : decode cX6_alongPieces 98 = .ok (.iaload, 1) := by decide +kernel
theorem dX6_alongPieces_99 : decode cX6_alongPieces 99 = .ok (.aload_n 1, 1) := by decide +kernel
theorem dX6_alongPieces_100 : decode cX6_alongPieces 100 = .ok (.getfield 61, 3) := by decide +kernel
theorem dX6_alongPieces_103 : decode cX6_alongPieces 103 = .ok (.aload_n 3, 1) := by decide +kernel
theorem dX6_alongPieces_104 : decode cX6_alongPieces 104 = .ok (.iload 5, 2) := by decide +kernel
theorem dX6_alongPieces_106 : decode cX6_alongPieces 106 = .ok (.iaload, 1) := by decide +kernel
theorem dX6_alongPieces_107 : decode cX6_alongPieces 107 = .ok (.iaload, 1) := by decide +kernel
theorem dX6_alongPieces_108 : decode cX6_alongPieces 108 = .ok (.isub, 1) := by decide +kernel
theorem dX6_alongPieces_109 : decode cX6_alongPieces 109 = .ok (.invokevirtual 78, 3) := by decide +kernel
theorem dX6_alongPieces_112 : decode cX6_alongPieces 112 = .ok (.iinc 5 (-1), 3) := by decide +kernel
theorem dX6_alongPieces_115 : decode cX6_alongPieces 115 = .ok (.goto (-37), 3) := by decide +kernel
theorem dX6_alongPieces_118 : decode cX6_alongPieces 118 = .ok (.iinc 2 1, 3) := by decide +kernel
theorem dX6_alongPieces_121 : decode cX6_alongPieces 121 = .ok (.goto (-119), 3) := by decide +kernel
theorem dX6_alongPieces_124 : decode cX6_alongPieces 124 = .ok (.return_, 1) := by decide +kernel
theorem dX6_alongPairs_0 : decode cX6_alongPairs 0 = .ok (.iconst 0, 1) := by decide +kernel
theorem dX6_alongPairs_1 : decode cX6_alongPairs 1 = .ok (.istore_n 2, 1) := by decide +kernel
theorem dX6_alongPairs_2 : decode cX6_alongPairs 2 = .ok (.iload_n 2, 1) := by decide +kernel
theorem dX6_alongPairs_3 : decode cX6_alongPairs 3 = .ok (.aload_n 0, 1) := by decide +kernel
theorem dX6_alongPairs_4 : decode cX6_alongPairs 4 = .ok (.getfield 27, 3) := by decide +kernel
theorem dX6_alongPairs_7 : decode cX6_alongPairs 7 = .ok (.if_icmp .ge 70, 3) := by decide +kernel
theorem dX6_alongPairs_10 : decode cX6_alongPairs 10 = .ok (.iconst 0, 1) := by decide +kernel
theorem dX6_alongPairs_11 : decode cX6_alongPairs 11 = .ok (.istore_n 3, 1) := by decide +kernel
theorem dX6_alongPairs_12 : decode cX6_alongPairs 12 = .ok (.iload_n 3, 1) := by decide +kernel
theorem dX6_alongPairs_13 : decode cX6_alongPairs 13 = .ok (.aload_n 0, 1) := by decide +kernel
theorem dX6_alongPairs_14 : decode cX6_alongPairs 14 = .ok (.getfield 27, 3) := by decide +kernel
theorem dX6_alongPairs_17 : decode cX6_alongPairs 17 = .ok (.if_icmp .ge 54, 3) := by decide +kernel
theorem dX6_alongPairs_20 : decode cX6_alongPairs 20 = .ok (.aload_n 0, 1) := by decide +kernel
theorem dX6_alongPairs_21 : decode cX6_alongPairs 21 = .ok (.iload_n 2, 1) := by decide +kernel
theorem dX6_alongPairs_22 : decode cX6_alongPairs 22 = .ok (.iload_n 3, 1) := by decide +kernel
theorem dX6_alongPairs_23 : decode cX6_alongPairs 23 = .ok (.invokevirtual 57, 3) := by decide +kernel
theorem dX6_alongPairs_26 : decode cX6_alongPairs 26 = .ok (.ifCond .eq 39, 3) := by decide +kernel
theorem dX6_alongPairs_29 : decode cX6_alongPairs 29 = .ok (.aload_n 0, 1) := by decide +kernel
theorem dX6_alongPairs_30 : decode cX6_alongPairs 30 = .ok (.iload_n 3, 1) := by decide +kernel
theorem dX6_alongPairs_31 : decode cX6_alongPairs 31 = .ok (.aload_n 0, 1) := by decide +kernel
theorem dX6_alongPairs_32 : decode cX6_alongPairs 32 = .ok (.getfield 9, 3) := by decide +kernel
theorem dX6_alongPairs_35 : decode cX6_alongPairs 35 = .ok (.iload_n 2, 1) := by decide +kernel
theorem dX6_alongPairs_36 : decode cX6_alongPairs 36 = .ok (.iaload, 1) := by decide +kernel
theorem dX6_alongPairs_37 : decode cX6_alongPairs 37 = .ok (.aload_n 1, 1) := by decide +kernel
theorem dX6_alongPairs_38 : decode cX6_alongPairs 38 = .ok (.getfield 61, 3) := by decide +kernel
theorem dX6_alongPairs_41 : decode cX6_alongPairs 41 = .ok (.iload_n 2, 1) := by decide +kernel
theorem dX6_alongPairs_42 : decode cX6_alongPairs 42 = .ok (.iaload, 1) := by decide +kernel
theorem dX6_alongPairs_43 : decode cX6_alongPairs 43 = .ok (.iadd, 1) := by decide +kernel
theorem dX6_alongPairs_44 : decode cX6_alongPairs 44 = .ok (.invokevirtual 74, 3) := by decide +kernel
theorem dX6_alongPairs_47 : decode cX6_alongPairs 47 = .ok (.aload_n 0, 1) := by decide +kernel
theorem dX6_alongPairs_48 : decode cX6_alongPairs 48 = .ok (.iload_n 2, 1) := by decide +kernel
theorem dX6_alongPairs_49 : decode cX6_alongPairs 49 = .ok (.aload_n 0, 1) := by decide +kernel
theorem dX6_alongPairs_50 : decode cX6_alongPairs 50 = .ok (.getfield 15, 3) := by decide +kernel
theorem dX6_alongPairs_53 : decode cX6_alongPairs 53 = .ok (.iload_n 3, 1) := by decide +kernel
theorem dX6_alongPairs_54 : decode cX6_alongPairs 54 = .ok (.iaload, 1) := by decide +kernel
theorem dX6_alongPairs_55 : decode cX6_alongPairs 55 = .ok (.aload_n 1, 1) := by decide +kernel
theorem dX6_alongPairs_56 : decode cX6_alongPairs 56 = .ok (.getfield 61, 3) := by decide +kernel
theorem dX6_alongPairs_59 : decode cX6_alongPairs 59 = .ok (.iload_n 3, 1) := by decide +kernel
theorem dX6_alongPairs_60 : decode cX6_alongPairs 60 = .ok (.iaload, 1) := by decide +kernel
theorem dX6_alongPairs_61 : decode cX6_alongPairs 61 = .ok (.isub, 1) := by decide +kernel
theorem dX6_alongPairs_62 : decode cX6_alongPairs 62 = .ok (.invokevirtual 78, 3) := by decide +kernel
theorem dX6_alongPairs_65 : decode cX6_alongPairs 65 = .ok (.iinc 3 1, 3) := by decide +kernel
theorem dX6_alongPairs_68 : decode cX6_alongPairs 68 = .ok (.goto (-56), 3) := by decide +kernel
theorem dX6_alongPairs_71 : decode cX6_alongPairs 71 = .ok (.iinc 2 1, 3) := by decide +kernel
theorem dX6_alongPairs_74 : decode cX6_alongPairs 74 = .ok (.goto (-72), 3) := by decide +kernel
theorem dX6_alongPairs_77 : decode cX6_alongPairs 77 = .ok (.return_, 1) := by decide +kernel
theorem dX6_tellPairs_0 : decode cX6_tellPairs 0 = .ok (.iconst 0, 1) := by decide +kernel
theorem dX6_tellPairs_1 : decode cX6_tellPairs 1 = .ok (.istore_n 2, 1) := by decide +kernel
theorem dX6_tellPairs_2 : decode cX6_tellPairs 2 = .ok (.iload_n 2, 1) := by decide +kernel
theorem dX6_tellPairs_3 : decode cX6_tellPairs 3 = .ok (.aload_n 1, 1) := by decide +kernel
theorem dX6_tellPairs_4 : decode cX6_tellPairs 4 = .ok (.getfield 81, 3) := by decide +kernel
theorem dX6_tellPairs_7 : decode cX6_tellPairs 7 = .ok (.if_icmp .ge 92, 3) := by decide +kernel
theorem dX6_tellPairs_10 : decode cX6_tellPairs 10 = .ok (.aload_n 1, 1) := by decide +kernel
theorem dX6_tellPairs_11 : decode cX6_tellPairs 11 = .ok (.getfield 84, 3) := by decide +kernel
theorem dX6_tellPairs_14 : decode cX6_tellPairs 14 = .ok (.iload_n 2, 1) := by decide +kernel
theorem dX6_tellPairs_15 : decode cX6_tellPairs 15 = .ok (.iaload, 1) := by decide +kernel
theorem dX6_tellPairs_16 : decode cX6_tellPairs 16 = .ok (.ifCond .ne 12, 3) := by decide +kernel
theorem dX6_tellPairs_19 : decode cX6_tellPairs 19 = .ok (.aload_n 1, 1) := by decide +kernel
theorem dX6_tellPairs_20 : decode cX6_tellPairs 20 = .ok (.getfield 87, 3) := by decide +kernel
theorem dX6_tellPairs_23 : decode cX6_tellPairs 23 = .ok (.iload_n 2, 1) := by decide +kernel
theorem dX6_tellPairs_24 : decode cX6_tellPairs 24 = .ok (.iaload, 1) := by decide +kernel
theorem dX6_tellPairs_25 : decode cX6_tellPairs 25 = .ok (.goto 4, 3) := by decide +kernel
theorem dX6_tellPairs_28 : decode cX6_tellPairs 28 = .ok (.iconst 0, 1) := by decide +kernel
theorem dX6_tellPairs_29 : decode cX6_tellPairs 29 = .ok (.istore_n 3, 1) := by decide +kernel
theorem dX6_tellPairs_30 : decode cX6_tellPairs 30 = .ok (.iconst 0, 1) := by decide +kernel
theorem dX6_tellPairs_31 : decode cX6_tellPairs 31 = .ok (.istore 4, 2) := by decide +kernel
theorem dX6_tellPairs_33 : decode cX6_tellPairs 33 = .ok (.iload 4, 2) := by decide +kernel
theorem dX6_tellPairs_35 : decode cX6_tellPairs 35 = .ok (.iload_n 3, 1) := by decide +kernel
theorem dX6_tellPairs_36 : decode cX6_tellPairs 36 = .ok (.if_icmp .ge 57, 3) := by decide +kernel
theorem dX6_tellPairs_39 : decode cX6_tellPairs 39 = .ok (.iload 4, 2) := by decide +kernel
theorem dX6_tellPairs_41 : decode cX6_tellPairs 41 = .ok (.iconst 1, 1) := by decide +kernel
theorem dX6_tellPairs_42 : decode cX6_tellPairs 42 = .ok (.iadd, 1) := by decide +kernel
theorem dX6_tellPairs_43 : decode cX6_tellPairs 43 = .ok (.istore 5, 2) := by decide +kernel
theorem dX6_tellPairs_45 : decode cX6_tellPairs 45 = .ok (.iload 5, 2) := by decide +kernel
theorem dX6_tellPairs_47 : decode cX6_tellPairs 47 = .ok (.iload_n 3, 1) := by decide +kernel
theorem dX6_tellPairs_48 : decode cX6_tellPairs 48 = .ok (.if_icmp .ge 39, 3) := by decide +kernel
theorem dX6_tellPairs_51 : decode cX6_tellPairs 51 = .ok (.aload_n 0, 1) := by decide +kernel
theorem dX6_tellPairs_52 : decode cX6_tellPairs 52 = .ok (.getfield 34, 3) := by decide +kernel
theorem dX6_tellPairs_55 : decode cX6_tellPairs 55 = .ok (.ifCond .ne 32, 3) := by decide +kernel
theorem dX6_tellPairs_58 : decode cX6_tellPairs 58 = .ok (.aload_n 0, 1) := by decide +kernel
theorem dX6_tellPairs_59 : decode cX6_tellPairs 59 = .ok (.aload_n 1, 1) := by decide +kernel
theorem dX6_tellPairs_60 : decode cX6_tellPairs 60 = .ok (.aload_n 1, 1) := by decide +kernel
theorem dX6_tellPairs_61 : decode cX6_tellPairs 61 = .ok (.getfield 90, 3) := by decide +kernel
theorem dX6_tellPairs_64 : decode cX6_tellPairs 64 = .ok (.iload_n 2, 1) := by decide +kernel
theorem dX6_tellPairs_65 : decode cX6_tellPairs 65 = .ok (.aaload, 1) := by decide +kernel
theorem dX6_tellPairs_66 : decode cX6_tellPairs 66 = .ok (.iload 4, 2) := by decide +kernel
theorem dX6_tellPairs_68 : decode cX6_tellPairs 68 = .ok (.iaload, 1) := by decide +kernel
theorem dX6_tellPairs_69 : decode cX6_tellPairs 69 = .ok (.aload_n 1, 1) := by decide +kernel
theorem dX6_tellPairs_70 : decode cX6_tellPairs 70 = .ok (.getfield 90, 3) := by decide +kernel
theorem dX6_tellPairs_73 : decode cX6_tellPairs 73 = .ok (.iload_n 2, 1) := by decide +kernel
theorem dX6_tellPairs_74 : decode cX6_tellPairs 74 = .ok (.aaload, 1) := by decide +kernel
theorem dX6_tellPairs_75 : decode cX6_tellPairs 75 = .ok (.iload 5, 2) := by decide +kernel
theorem dX6_tellPairs_77 : decode cX6_tellPairs 77 = .ok (.iaload, 1) := by decide +kernel
theorem dX6_tellPairs_78 : decode cX6_tellPairs 78 = .ok (.invokevirtual 93, 3) := by decide +kernel
theorem dX6_tellPairs_81 : decode cX6_tellPairs 81 = .ok (.iinc 5 1, 3) := by decide +kernel
theorem dX6_tellPairs_84 : decode cX6_tellPairs 84 = .ok (.goto (-39), 3) := by decide +kernel
theorem dX6_tellPairs_87 : decode cX6_tellPairs 87 = .ok (.iinc 4 1, 3) := by decide +kernel
theorem dX6_tellPairs_90 : decode cX6_tellPairs 90 = .ok (.goto (-57), 3) := by decide +kernel
theorem dX6_tellPairs_93 : decode cX6_tellPairs 93 = .ok (.iinc 2 1, 3) := by decide +kernel
theorem dX6_tellPairs_96 : decode cX6_tellPairs 96 = .ok (.goto (-94), 3) := by decide +kernel
theorem dX6_tellPairs_99 : decode cX6_tellPairs 99 = .ok (.return_, 1) := by decide +kernel
theorem dX6_tellPair_0 : decode cX6_tellPair 0 = .ok (.aload_n 0, 1) := by decide +kernel
theorem dX6_tellPair_1 : decode cX6_tellPair 1 = .ok (.iload_n 2, 1) := by decide +kernel
theorem dX6_tellPair_2 : decode cX6_tellPair 2 = .ok (.iload_n 3, 1) := by decide +kernel
theorem dX6_tellPair_3 : decode cX6_tellPair 3 = .ok (.invokevirtual 97, 3) := by decide +kernel
theorem dX6_tellPair_6 : decode cX6_tellPair 6 = .ok (.ifCond .ne 4, 3) := by decide +kernel
theorem dX6_tellPair_9 : decode cX6_tellPair 9 = .ok (.return_, 1) := by decide +kernel
theorem dX6_tellPair_10 : decode cX6_tellPair 10 = .ok (.aload_n 1, 1) := by decide +kernel
theorem dX6_tellPair_11 : decode cX6_tellPair 11 = .ok (.getfield 61, 3) := by decide +kernel
theorem dX6_tellPair_14 : decode cX6_tellPair 14 = .ok (.iload_n 2, 1) := by decide +kernel
theorem dX6_tellPair_15 : decode cX6_tellPair 15 = .ok (.iaload, 1) := by decide +kernel
theorem dX6_tellPair_16 : decode cX6_tellPair 16 = .ok (.aload_n 1, 1) := by decide +kernel
theorem dX6_tellPair_17 : decode cX6_tellPair 17 = .ok (.getfield 61, 3) := by decide +kernel
theorem dX6_tellPair_20 : decode cX6_tellPair 20 = .ok (.iload_n 3, 1) := by decide +kernel
theorem dX6_tellPair_21 : decode cX6_tellPair 21 = .ok (.iaload, 1) := by decide +kernel
theorem dX6_tellPair_22 : decode cX6_tellPair 22 = .ok (.iadd, 1) := by decide +kernel
theorem dX6_tellPair_23 : decode cX6_tellPair 23 = .ok (.istore 4, 2) := by decide +kernel
theorem dX6_tellPair_25 : decode cX6_tellPair 25 = .ok (.aload_n 0, 1) := by decide +kernel
theorem dX6_tellPair_26 : decode cX6_tellPair 26 = .ok (.getfield 9, 3) := by decide +kernel
theorem dX6_tellPair_29 : decode cX6_tellPair 29 = .ok (.iload_n 2, 1) := by decide +kernel
theorem dX6_tellPair_30 : decode cX6_tellPair 30 = .ok (.iaload, 1) := by decide +kernel
theorem dX6_tellPair_31 : decode cX6_tellPair 31 = .ok (.iload 4, 2) := by decide +kernel
theorem dX6_tellPair_33 : decode cX6_tellPair 33 = .ok (.iadd, 1) := by decide +kernel
theorem dX6_tellPair_34 : decode cX6_tellPair 34 = .ok (.aload_n 0, 1) := by decide +kernel
theorem dX6_tellPair_35 : decode cX6_tellPair 35 = .ok (.getfield 15, 3) := by decide +kernel
theorem dX6_tellPair_38 : decode cX6_tellPair 38 = .ok (.iload_n 3, 1) := by decide +kernel
theorem dX6_tellPair_39 : decode cX6_tellPair 39 = .ok (.iaload, 1) := by decide +kernel
theorem dX6_tellPair_40 : decode cX6_tellPair 40 = .ok (.if_icmp .le 7, 3) := by decide +kernel
theorem dX6_tellPair_43 : decode cX6_tellPair 43 = .ok (.iconst 1, 1) := by decide +kernel
theorem dX6_tellPair_44 : decode cX6_tellPair 44 = .ok (.goto 4, 3) := by decide +kernel
theorem dX6_tellPair_47 : decode cX6_tellPair 47 = .ok (.iconst 0, 1) := by decide +kernel
theorem dX6_tellPair_48 : decode cX6_tellPair 48 = .ok (.istore 5, 2) := by decide +kernel
theorem dX6_tellPair_50 : decode cX6_tellPair 50 = .ok (.aload_n 0, 1) := by decide +kernel
theorem dX6_tellPair_51 : decode cX6_tellPair 51 = .ok (.getfield 9, 3) := by decide +kernel
theorem dX6_tellPair_54 : decode cX6_tellPair 54 = .ok (.iload_n 3, 1) := by decide +kernel
theorem dX6_tellPair_55 : decode cX6_tellPair 55 = .ok (.iaload, 1) := by decide +kernel
theorem dX6_tellPair_56 : decode cX6_tellPair 56 = .ok (.iload 4, 2) := by decide +kernel
theorem dX6_tellPair_58 : decode cX6_tellPair 58 = .ok (.iadd, 1) := by decide +kernel
theorem dX6_tellPair_59 : decode cX6_tellPair 59 = .ok (.aload_n 0, 1) := by decide +kernel
theorem dX6_tellPair_60 : decode cX6_tellPair 60 = .ok (.getfield 15, 3) := by decide +kernel
theorem dX6_tellPair_63 : decode cX6_tellPair 63 = .ok (.iload_n 2, 1) := by decide +kernel
theorem dX6_tellPair_64 : decode cX6_tellPair 64 = .ok (.iaload, 1) := by decide +kernel
theorem dX6_tellPair_65 : decode cX6_tellPair 65 = .ok (.if_icmp .le 7, 3) := by decide +kernel
theorem dX6_tellPair_68 : decode cX6_tellPair 68 = .ok (.iconst 1, 1) := by decide +kernel
theorem dX6_tellPair_69 : decode cX6_tellPair 69 = .ok (.goto 4, 3) := by decide +kernel
theorem dX6_tellPair_72 : decode cX6_tellPair 72 = .ok (.iconst 0, 1) := by decide +kernel
theorem dX6_tellPair_73 : decode cX6_tellPair 73 = .ok (.istore 6, 2) := by decide +kernel
theorem dX6_tellPair_75 : decode cX6_tellPair 75 = .ok (.iload 5, 2) := by decide +kernel
theorem dX6_tellPair_77 : decode cX6_tellPair 77 = .ok (.ifCond .eq 16, 3) := by decide +kernel
theorem dX6_tellPair_80 : decode cX6_tellPair 80 = .ok (.iload 6, 2) := by decide +kernel
theorem dX6_tellPair_82 : decode cX6_tellPair 82 = .ok (.ifCond .eq 11, 3) := by decide +kernel
theorem dX6_tellPair_85 : decode cX6_tellPair 85 = .ok (.aload_n 0, 1) := by decide +kernel
theorem dX6_tellPair_86 : decode cX6_tellPair 86 = .ok (.iconst 1, 1) := by decide +kernel
theorem dX6_tellPair_87 : decode cX6_tellPair 87 = .ok (.putfield 34, 3) := by decide +kernel
theorem dX6_tellPair_90 : decode cX6_tellPair 90 = .ok (.goto 28, 3) := by decide +kernel
theorem dX6_tellPair_93 : decode cX6_tellPair 93 = .ok (.iload 5, 2) := by decide +kernel
theorem dX6_tellPair_95 : decode cX6_tellPair 95 = .ok (.ifCond .eq 12, 3) := by decide +kernel
theorem dX6_tellPair_98 : decode cX6_tellPair 98 = .ok (.aload_n 0, 1) := by decide +kernel
theorem dX6_tellPair_99 : decode cX6_tellPair 99 = .ok (.iload_n 3, 1) := by decide +kernel
theorem dX6_tellPair_100 : decode cX6_tellPair 100 = .ok (.iload_n 2, 1) := by decide +kernel
theorem dX6_tellPair_101 : decode cX6_tellPair 101 = .ok (.invokevirtual 100, 3) := by decide +kernel
theorem dX6_tellPair_104 : decode cX6_tellPair 104 = .ok (.goto 14, 3) := by decide +kernel
theorem dX6_tellPair_107 : decode cX6_tellPair 107 = .ok (.iload 6, 2) := by decide +kernel
theorem dX6_tellPair_109 : decode cX6_tellPair 109 = .ok (.ifCond .eq 9, 3) := by decide +kernel
theorem dX6_tellPair_112 : decode cX6_tellPair 112 = .ok (.aload_n 0, 1) := by decide +kernel
theorem dX6_tellPair_113 : decode cX6_tellPair 113 = .ok (.iload_n 2, 1) := by decide +kernel
theorem dX6_tellPair_114 : decode cX6_tellPair 114 = .ok (.iload_n 3, 1) := by decide +kernel
theorem dX6_tellPair_115 : decode cX6_tellPair 115 = .ok (.invokevirtual 100, 3) := by decide +kernel
theorem dX6_tellPair_118 : decode cX6_tellPair 118 = .ok (.return_, 1) := by decide +kernel
theorem dX6_tellAhead_0 : decode cX6_tellAhead 0 = .ok (.aload_n 0, 1) := by decide +kernel
theorem dX6_tellAhead_1 : decode cX6_tellAhead 1 = .ok (.getfield 18, 3) := by decide +kernel
theorem dX6_tellAhead_4 : decode cX6_tellAhead 4 = .ok (.iload_n 1, 1) := by decide +kernel
theorem dX6_tellAhead_5 : decode cX6_tellAhead 5 = .ok (.dup2, 1) := by decide +kernel
theorem dX6_tellAhead_6 : decode cX6_tellAhead 6 = .ok (.iaload, 1) := by decide +kernel
theorem dX6_tellAhead_7 : decode cX6_tellAhead 7 = .ok (.iconst 1, 1) := by decide +kernel
theorem dX6_tellAhead_8 : decode cX6_tellAhead 8 = .ok (.iload_n 2, 1) := by decide +kernel
theorem dX6_tellAhead_9 : decode cX6_tellAhead 9 = .ok (.ishl, 1) := by decide +kernel
theorem dX6_tellAhead_10 : decode cX6_tellAhead 10 = .ok (.ior, 1) := by decide +kernel
theorem dX6_tellAhead_11 : decode cX6_tellAhead 11 = .ok (.iastore, 1) := by decide +kernel
theorem dX6_tellAhead_12 : decode cX6_tellAhead 12 = .ok (.aload_n 0, 1) := by decide +kernel
theorem dX6_tellAhead_13 : decode cX6_tellAhead 13 = .ok (.iconst 1, 1) := by decide +kernel
theorem dX6_tellAhead_14 : decode cX6_tellAhead 14 = .ok (.putfield 38, 3) := by decide +kernel
theorem dX6_tellAhead_17 : decode cX6_tellAhead 17 = .ok (.return_, 1) := by decide +kernel
theorem dX6_closeSets_0 : decode cX6_closeSets 0 = .ok (.iconst 0, 1) := by decide +kernel
theorem dX6_closeSets_1 : decode cX6_closeSets 1 = .ok (.istore_n 2, 1) := by decide +kernel
theorem dX6_closeSets_2 : decode cX6_closeSets 2 = .ok (.iload_n 2, 1) := by decide +kernel
theorem dX6_closeSets_3 : decode cX6_closeSets 3 = .ok (.aload_n 1, 1) := by decide +kernel
theorem dX6_closeSets_4 : decode cX6_closeSets 4 = .ok (.getfield 81, 3) := by decide +kernel
theorem dX6_closeSets_7 : decode cX6_closeSets 7 = .ok (.if_icmp .ge 100, 3) := by decide +kernel
theorem dX6_closeSets_10 : decode cX6_closeSets 10 = .ok (.aload_n 1, 1) := by decide +kernel
theorem dX6_closeSets_11 : decode cX6_closeSets 11 = .ok (.getfield 84, 3) := by decide +kernel
theorem dX6_closeSets_14 : decode cX6_closeSets 14 = .ok (.iload_n 2, 1) := by decide +kernel
theorem dX6_closeSets_15 : decode cX6_closeSets 15 = .ok (.iaload, 1) := by decide +kernel
theorem dX6_closeSets_16 : decode cX6_closeSets 16 = .ok (.ifCond .ne 12, 3) := by decide +kernel
theorem dX6_closeSets_19 : decode cX6_closeSets 19 = .ok (.aload_n 1, 1) := by decide +kernel
theorem dX6_closeSets_20 : decode cX6_closeSets 20 = .ok (.getfield 87, 3) := by decide +kernel
theorem dX6_closeSets_23 : decode cX6_closeSets 23 = .ok (.iload_n 2, 1) := by decide +kernel
theorem dX6_closeSets_24 : decode cX6_closeSets 24 = .ok (.iaload, 1) := by decide +kernel
theorem dX6_closeSets_25 : decode cX6_closeSets 25 = .ok (.goto 4, 3) := by decide +kernel
theorem dX6_closeSets_28 : decode cX6_closeSets 28 = .ok (.iconst 0, 1) := by decide +kernel
theorem dX6_closeSets_29 : decode cX6_closeSets 29 = .ok (.istore_n 3, 1) := by decide +kernel
theorem dX6_closeSets_30 : decode cX6_closeSets 30 = .ok (.iconst 0, 1) := by decide +kernel
theorem dX6_closeSets_31 : decode cX6_closeSets 31 = .ok (.istore 4, 2) := by decide +kernel
theorem dX6_closeSets_33 : decode cX6_closeSets 33 = .ok (.iload 4, 2) := by decide +kernel
theorem dX6_closeSets_35 : decode cX6_closeSets 35 = .ok (.iload_n 3, 1) := by decide +kernel
theorem dX6_closeSets_36 : decode cX6_closeSets 36 = .ok (.if_icmp .ge 65, 3) := by decide +kernel
theorem dX6_closeSets_39 : decode cX6_closeSets 39 = .ok (.iconst 0, 1) := by decide +kernel
theorem dX6_closeSets_40 : decode cX6_closeSets 40 = .ok (.istore 5, 2) := by decide +kernel
theorem dX6_closeSets_42 : decode cX6_closeSets 42 = .ok (.iload 5, 2) := by decide +kernel
theorem dX6_closeSets_44 : decode cX6_closeSets 44 = .ok (.iload_n 3, 1) := by decide +kernel
theorem dX6_closeSets_45 : decode cX6_closeSets 45 = .ok (.if_icmp .ge 50, 3) := by decide +kernel
theorem dX6_closeSets_48 : decode cX6_closeSets 48 = .ok (.aload_n 0, 1) := by decide +kernel
theorem dX6_closeSets_49 : decode cX6_closeSets 49 = .ok (.getfield 34, 3) := by decide +kernel
theorem dX6_closeSets_52 : decode cX6_closeSets 52 = .ok (.ifCond .ne 43, 3) := by decide +kernel
theorem dX6_closeSets_55 : decode cX6_closeSets 55 = .ok (.aload_n 0, 1) := by decide +kernel
theorem dX6_closeSets_56 : decode cX6_closeSets 56 = .ok (.aload_n 1, 1) := by decide +kernel
theorem dX6_closeSets_57 : decode cX6_closeSets 57 = .ok (.iload_n 2, 1) := by decide +kernel
theorem dX6_closeSets_58 : decode cX6_closeSets 58 = .ok (.aload_n 0, 1) := by decide +kernel
theorem dX6_closeSets_59 : decode cX6_closeSets 59 = .ok (.getfield 9, 3) := by decide +kernel
theorem dX6_closeSets_62 : decode cX6_closeSets 62 = .ok (.aload_n 1, 1) := by decide +kernel
theorem dX6_closeSets_63 : decode cX6_closeSets 63 = .ok (.getfield 90, 3) := by decide +kernel
theorem dX6_closeSets_66 : decode cX6_closeSets 66 = .ok (.iload_n 2, 1) := by decide +kernel
theorem dX6_closeSets_67 : decode cX6_closeSets 67 = .ok (.aaload, 1) := by decide +kernel
theorem dX6_closeSets_68 : decode cX6_closeSets 68 = .ok (.iload 4, 2) := by decide +kernel
theorem dX6_closeSets_70 : decode cX6_closeSets 70 = .ok (.iaload, 1) := by decide +kernel
theorem dX6_closeSets_71 : decode cX6_closeSets 71 = .ok (.iaload, 1) := by decide +kernel
theorem dX6_closeSets_72 : decode cX6_closeSets 72 = .ok (.aload_n 0, 1) := by decide +kernel
theorem dX6_closeSets_73 : decode cX6_closeSets 73 = .ok (.getfield 15, 3) := by decide +kernel
theorem dX6_closeSets_76 : decode cX6_closeSets 76 = .ok (.aload_n 1, 1) := by decide +kernel
theorem dX6_closeSets_77 : decode cX6_closeSets 77 = .ok (.getfield 90, 3) := by decide +kernel
theorem dX6_closeSets_80 : decode cX6_closeSets 80 = .ok (.iload_n 2, 1) := by decide +kernel
theorem dX6_closeSets_81 : decode cX6_closeSets 81 = .ok (.aaload, 1) := by decide +kernel
theorem dX6_closeSets_82 : decode cX6_closeSets 82 = .ok (.iload 5, 2) := by decide +kernel
theorem dX6_closeSets_84 : decode cX6_closeSets 84 = .ok (.iaload, 1) := by decide +kernel
theorem dX6_closeSets_85 : decode cX6_closeSets 85 = .ok (.iaload, 1) := by decide +kernel
theorem dX6_closeSets_86 : decode cX6_closeSets 86 = .ok (.invokevirtual 103, 3) := by decide +kernel
theorem dX6_closeSets_89 : decode cX6_closeSets 89 = .ok (.iinc 5 1, 3) := by decide +kernel
theorem dX6_closeSets_92 : decode cX6_closeSets 92 = .ok (.goto (-50), 3) := by decide +kernel
theorem dX6_closeSets_95 : decode cX6_closeSets 95 = .ok (.iinc 4 1, 3) := by decide +kernel
theorem dX6_closeSets_98 : decode cX6_closeSets 98 = .ok (.goto (-65), 3) := by decide +kernel
theorem dX6_closeSets_101 : decode cX6_closeSets 101 = .ok (.iinc 2 1, 3) := by decide +kernel
theorem dX6_closeSets_104 : decode cX6_closeSets 104 = .ok (.goto (-102), 3) := by decide +kernel
theorem dX6_closeSets_107 : decode cX6_closeSets 107 = .ok (.return_, 1) := by decide +kernel
theorem dX6_closeSet_0 : decode cX6_closeSet 0 = .ok (.iconst 0, 1) := by decide +kernel
theorem dX6_closeSet_1 : decode cX6_closeSet 1 = .ok (.istore 5, 2) := by decide +kernel
theorem dX6_closeSet_3 : decode cX6_closeSet 3 = .ok (.iconst 0, 1) := by decide +kernel
theorem dX6_closeSet_4 : decode cX6_closeSet 4 = .ok (.istore 6, 2) := by decide +kernel
theorem dX6_closeSet_6 : decode cX6_closeSet 6 = .ok (.iconst 0, 1) := by decide +kernel
theorem dX6_closeSet_7 : decode cX6_closeSet 7 = .ok (.istore 7, 2) := by decide +kernel
theorem dX6_closeSet_9 : decode cX6_closeSet 9 = .ok (.iload 7, 2) := by decide +kernel
theorem dX6_closeSet_11 : decode cX6_closeSet 11 = .ok (.aload_n 1, 1) := by decide +kernel
theorem dX6_closeSet_12 : decode cX6_closeSet 12 = .ok (.getfield 87, 3) := by decide +kernel
theorem dX6_closeSet_15 : decode cX6_closeSet 15 = .ok (.iload_n 2, 1) := by decide +kernel
theorem dX6_closeSet_16 : decode cX6_closeSet 16 = .ok (.iaload, 1) := by decide +kernel
theorem dX6_closeSet_17 : decode cX6_closeSet 17 = .ok (.if_icmp .ge 64, 3) := by decide +kernel
theorem dX6_closeSet_20 : decode cX6_closeSet 20 = .ok (.aload_n 1, 1) := by decide +kernel
theorem dX6_closeSet_21 : decode cX6_closeSet 21 = .ok (.getfield 90, 3) := by decide +kernel
theorem dX6_closeSet_24 : decode cX6_closeSet 24 = .ok (.iload_n 2, 1) := by decide +kernel
theorem dX6_closeSet_25 : decode cX6_closeSet 25 = .ok (.aaload, 1) := by decide +kernel
theorem dX6_closeSet_26 : decode cX6_closeSet 26 = .ok (.iload 7, 2) := by decide +kernel
theorem dX6_closeSet_28 : decode cX6_closeSet 28 = .ok (.iaload, 1) := by decide +kernel
theorem dX6_closeSet_29 : decode cX6_closeSet 29 = .ok (.istore 8, 2) := by decide +kernel
theorem dX6_closeSet_31 : decode cX6_closeSet 31 = .ok (.aload_n 0, 1) := by decide +kernel
theorem dX6_closeSet_32 : decode cX6_closeSet 32 = .ok (.getfield 9, 3) := by decide +kernel
theorem dX6_closeSet_35 : decode cX6_closeSet 35 = .ok (.iload 8, 2) := by decide +kernel
theorem dX6_closeSet_37 : decode cX6_closeSet 37 = .ok (.iaload, 1) := by decide +kernel
theorem dX6_closeSet_38 : decode cX6_closeSet 38 = .ok (.iload_n 3, 1) := by decide +kernel
theorem dX6_closeSet_39 : decode cX6_closeSet 39 = .ok (.if_icmp .lt 36, 3) := by decide +kernel
theorem dX6_closeSet_42 : decode cX6_closeSet 42 = .ok (.aload_n 0, 1) := by decide +kernel
theorem dX6_closeSet_43 : decode cX6_closeSet 43 = .ok (.getfield 15, 3) := by decide +kernel
theorem dX6_closeSet_46 : decode cX6_closeSet 46 = .ok (.iload 8, 2) := by decide +kernel
theorem dX6_closeSet_48 : decode cX6_closeSet 48 = .ok (.iaload, 1) := by decide +kernel
theorem dX6_closeSet_49 : decode cX6_closeSet 49 = .ok (.iload 4, 2) := by decide +kernel
theorem dX6_closeSet_51 : decode cX6_closeSet 51 = .ok (.if_icmp .gt 24, 3) := by decide +kernel
theorem dX6_closeSet_54 : decode cX6_closeSet 54 = .ok (.iload 5, 2) := by decide +kernel
theorem dX6_closeSet_56 : decode cX6_closeSet 56 = .ok (.iconst 1, 1) := by decide +kernel
theorem dX6_closeSet_57 : decode cX6_closeSet 57 = .ok (.iload 8, 2) := by decide +kernel
theorem dX6_closeSet_59 : decode cX6_closeSet 59 = .ok (.ishl, 1) := by decide +kernel
theorem dX6_closeSet_60 : decode cX6_closeSet 60 = .ok (.ior, 1) := by decide +kernel
theorem dX6_closeSet_61 : decode cX6_closeSet 61 = .ok (.istore 5, 2) := by decide +kernel
theorem dX6_closeSet_63 : decode cX6_closeSet 63 = .ok (.iload 6, 2) := by decide +kernel
theorem dX6_closeSet_65 : decode cX6_closeSet 65 = .ok (.aload_n 1, 1) := by decide +kernel
theorem dX6_closeSet_66 : decode cX6_closeSet 66 = .ok (.getfield 61, 3) := by decide +kernel
theorem dX6_closeSet_69 : decode cX6_closeSet 69 = .ok (.iload 8, 2) := by decide +kernel
theorem dX6_closeSet_71 : decode cX6_closeSet 71 = .ok (.iaload, 1) := by decide +kernel
theorem dX6_closeSet_72 : decode cX6_closeSet 72 = .ok (.iadd, 1) := by decide +kernel
theorem dX6_closeSet_73 : decode cX6_closeSet 73 = .ok (.istore 6, 2) := by decide +kernel
theorem dX6_closeSet_75 : decode cX6_closeSet 75 = .ok (.iinc 7 1, 3) := by decide +kernel
theorem dX6_closeSet_78 : decode cX6_closeSet 78 = .ok (.goto (-69), 3) := by decide +kernel
theorem dX6_closeSet_81 : decode cX6_closeSet 81 = .ok (.iload 5, 2) := by decide +kernel
theorem dX6_closeSet_83 : decode cX6_closeSet 83 = .ok (.ifCond .ne 4, 3) := by decide +kernel
theorem dX6_closeSet_86 : decode cX6_closeSet 86 = .ok (.return_, 1) := by decide +kernel
theorem dX6_closeSet_87 : decode cX6_closeSet 87 = .ok (.iload 6, 2) := by decide +kernel
theorem dX6_closeSet_89 : decode cX6_closeSet 89 = .ok (.iload 4, 2) := by decide +kernel
theorem dX6_closeSet_91 : decode cX6_closeSet 91 = .ok (.iload_n 3, 1) := by decide +kernel
theorem dX6_closeSet_92 : decode cX6_closeSet 92 = .ok (.isub, 1) := by decide +kernel
theorem dX6_closeSet_93 : decode cX6_closeSet 93 = .ok (.if_icmp .le 9, 3) := by decide +kernel
theorem dX6_closeSet_96 : decode cX6_closeSet 96 = .ok (.aload_n 0, 1) := by decide +kernel
theorem dX6_closeSet_97 : decode cX6_closeSet 97 = .ok (.iconst 1, 1) := by decide +kernel
theorem dX6_closeSet_98 : decode cX6_closeSet 98 = .ok (.putfield 34, 3) := by decide +kernel
theorem dX6_closeSet_101 : decode cX6_closeSet 101 = .ok (.return_, 1) := by decide +kernel
theorem dX6_closeSet_102 : decode cX6_closeSet 102 = .ok (.iconst 0, 1) := by decide +kernel
theorem dX6_closeSet_103 : decode cX6_closeSet 103 = .ok (.istore 7, 2) := by decide +kernel
theorem dX6_closeSet_105 : decode cX6_closeSet 105 = .ok (.iload 7, 2) := by decide +kernel
theorem dX6_closeSet_107 : decode cX6_closeSet 107 = .ok (.aload_n 1, 1) := by decide +kernel
theorem dX6_closeSet_108 : decode cX6_closeSet 108 = .ok (.getfield 87, 3) := by decide +kernel
theorem dX6_closeSet_111 : decode cX6_closeSet 111 = .ok (.iload_n 2, 1) := by decide +kernel
theorem dX6_closeSet_112 : decode cX6_closeSet 112 = .ok (.iaload, 1) := by decide +kernel
theorem dX6_closeSet_113 : decode cX6_closeSet 113 = .ok (.if_icmp .ge 48, 3) := by decide +kernel
theorem dX6_closeSet_116 : decode cX6_closeSet 116 = .ok (.aload_n 1, 1) := by decide +kernel
theorem dX6_closeSet_117 : decode cX6_closeSet 117 = .ok (.getfield 90, 3) := by decide +kernel
theorem dX6_closeSet_120 : decode cX6_closeSet 120 = .ok (.iload_n 2, 1) := by decide +kernel
theorem dX6_closeSet_121 : decode cX6_closeSet 121 = .ok (.aaload, 1) := by decide +kernel
theorem dX6_closeSet_122 : decode cX6_closeSet 122 = .ok (.iload 7, 2) := by decide +kernel
theorem dX6_closeSet_124 : decode cX6_closeSet 124 = .ok (.iaload, 1) := by decide +kernel
theorem dX6_closeSet_125 : decode cX6_closeSet 125 = .ok (.istore 8, 2) := by decide +kernel
theorem dX6_closeSet_127 : decode cX6_closeSet 127 = .ok (.iload 5, 2) := by decide +kernel
theorem dX6_closeSet_129 : decode cX6_closeSet 129 = .ok (.iload 8, 2) := by decide +kernel
theorem dX6_closeSet_131 : decode cX6_closeSet 131 = .ok (.iushr, 1) := by decide +kernel
theorem dX6_closeSet_132 : decode cX6_closeSet 132 = .ok (.iconst 1, 1) := by decide +kernel
theorem dX6_closeSet_133 : decode cX6_closeSet 133 = .ok (.iand, 1) := by decide +kernel
theorem dX6_closeSet_134 : decode cX6_closeSet 134 = .ok (.ifCond .ne 21, 3) := by decide +kernel
theorem dX6_closeSet_137 : decode cX6_closeSet 137 = .ok (.aload_n 0, 1) := by decide +kernel
theorem dX6_closeSet_138 : decode cX6_closeSet 138 = .ok (.iload 8, 2) := by decide +kernel
theorem dX6_closeSet_140 : decode cX6_closeSet 140 = .ok (.aload_n 1, 1) := by decide +kernel
theorem dX6_closeSet_141 : decode cX6_closeSet 141 = .ok (.getfield 61, 3) := by decide +kernel
theorem dX6_closeSet_144 : decode cX6_closeSet 144 = .ok (.iload 8, 2) := by decide +kernel
theorem dX6_closeSet_146 : decode cX6_closeSet 146 = .ok (.iaload, 1) := by decide +kernel
theorem dX6_closeSet_147 : decode cX6_closeSet 147 = .ok (.iload_n 3, 1) := by decide +kernel
theorem dX6_closeSet_148 : decode cX6_closeSet 148 = .ok (.iload 4, 2) := by decide +kernel
theorem dX6_closeSet_150 : decode cX6_closeSet 150 = .ok (.iload 6, 2) := by decide +kernel
theorem dX6_closeSet_152 : decode cX6_closeSet 152 = .ok (.invokevirtual 107, 3) := by decide +kernel
theorem dX6_closeSet_155 : decode cX6_closeSet 155 = .ok (.iinc 7 1, 3) := by decide +kernel
theorem dX6_closeSet_158 : decode cX6_closeSet 158 = .ok (.goto (-53), 3) := by decide +kernel
theorem dX6_closeSet_161 : decode cX6_closeSet 161 = .ok (.return_, 1) := by decide +kernel
theorem dX6_keepOff_0 : decode cX6_keepOff 0 = .ok (.aload_n 0, 1) := by decide +kernel
theorem dX6_keepOff_1 : decode cX6_keepOff 1 = .ok (.getfield 9, 3) := by decide +kernel
theorem dX6_keepOff_4 : decode cX6_keepOff 4 = .ok (.iload_n 1, 1) := by decide +kernel
theorem dX6_keepOff_5 : decode cX6_keepOff 5 = .ok (.iaload, 1) := by decide +kernel
theorem dX6_keepOff_6 : decode cX6_keepOff 6 = .ok (.iload_n 3, 1) := by decide +kernel
theorem dX6_keepOff_7 : decode cX6_keepOff 7 = .ok (.invokestatic 111, 3) := by decide +kernel
theorem dX6_keepOff_10 : decode cX6_keepOff 10 = .ok (.iload 5, 2) := by decide +kernel
theorem dX6_keepOff_12 : decode cX6_keepOff 12 = .ok (.iadd, 1) := by decide +kernel
theorem dX6_keepOff_13 : decode cX6_keepOff 13 = .ok (.iload_n 2, 1) := by decide +kernel
theorem dX6_keepOff_14 : decode cX6_keepOff 14 = .ok (.iadd, 1) := by decide +kernel
theorem dX6_keepOff_15 : decode cX6_keepOff 15 = .ok (.iload 4, 2) := by decide +kernel
theorem dX6_keepOff_17 : decode cX6_keepOff 17 = .ok (.if_icmp .le 12, 3) := by decide +kernel
theorem dX6_keepOff_20 : decode cX6_keepOff 20 = .ok (.aload_n 0, 1) := by decide +kernel
theorem dX6_keepOff_21 : decode cX6_keepOff 21 = .ok (.iload_n 1, 1) := by decide +kernel
theorem dX6_keepOff_22 : decode cX6_keepOff 22 = .ok (.iload_n 3, 1) := by decide +kernel
theorem dX6_keepOff_23 : decode cX6_keepOff 23 = .ok (.iload 5, 2) := by decide +kernel
theorem dX6_keepOff_25 : decode cX6_keepOff 25 = .ok (.iadd, 1) := by decide +kernel
theorem dX6_keepOff_26 : decode cX6_keepOff 26 = .ok (.invokevirtual 74, 3) := by decide +kernel
theorem dX6_keepOff_29 : decode cX6_keepOff 29 = .ok (.iload_n 3, 1) := by decide +kernel
theorem dX6_keepOff_30 : decode cX6_keepOff 30 = .ok (.iload 5, 2) := by decide +kernel
theorem dX6_keepOff_32 : decode cX6_keepOff 32 = .ok (.iadd, 1) := by decide +kernel
theorem dX6_keepOff_33 : decode cX6_keepOff 33 = .ok (.iload_n 2, 1) := by decide +kernel
theorem dX6_keepOff_34 : decode cX6_keepOff 34 = .ok (.iadd, 1) := by decide +kernel
theorem dX6_keepOff_35 : decode cX6_keepOff 35 = .ok (.iload 4, 2) := by decide +kernel
theorem dX6_keepOff_37 : decode cX6_keepOff 37 = .ok (.aload_n 0, 1) := by decide +kernel
theorem dX6_keepOff_38 : decode cX6_keepOff 38 = .ok (.getfield 15, 3) := by decide +kernel
theorem dX6_keepOff_41 : decode cX6_keepOff 41 = .ok (.iload_n 1, 1) := by decide +kernel
theorem dX6_keepOff_42 : decode cX6_keepOff 42 = .ok (.iaload, 1) := by decide +kernel
theorem dX6_keepOff_43 : decode cX6_keepOff 43 = .ok (.invokestatic 117, 3) := by decide +kernel
theorem dX6_keepOff_46 : decode cX6_keepOff 46 = .ok (.if_icmp .le 13, 3) := by decide +kernel
theorem dX6_keepOff_49 : decode cX6_keepOff 49 = .ok (.aload_n 0, 1) := by decide +kernel
theorem dX6_keepOff_50 : decode cX6_keepOff 50 = .ok (.iload_n 1, 1) := by decide +kernel
theorem dX6_keepOff_51 : decode cX6_keepOff 51 = .ok (.iload 4, 2) := by decide +kernel
theorem dX6_keepOff_53 : decode cX6_keepOff 53 = .ok (.iload 5, 2) := by decide +kernel
theorem dX6_keepOff_55 : decode cX6_keepOff 55 = .ok (.isub, 1) := by decide +kernel
theorem dX6_keepOff_56 : decode cX6_keepOff 56 = .ok (.invokevirtual 78, 3) := by decide +kernel
theorem dX6_keepOff_59 : decode cX6_keepOff 59 = .ok (.return_, 1) := by decide +kernel
theorem dX7_init_0 : decode cX7_init 0 = .ok (.aload_n 0, 1) := by decide +kernel
theorem dX7_init_1 : decode cX7_init 1 = .ok (.invokespecial 1, 3) := by decide +kernel
theorem dX7_init_4 : decode cX7_init 4 = .ok (.aload_n 0, 1) := by decide +kernel
theorem dX7_init_5 : decode cX7_init 5 = .ok (.new 7, 3) := by decide +kernel
theorem dX7_init_8 : decode cX7_init 8 = .ok (.dup, 1) := by decide +kernel
theorem dX7_init_9 : decode cX7_init 9 = .ok (.invokespecial 9, 3) := by decide +kernel
theorem dX7_init_12 : decode cX7_init 12 = .ok (.putfield 10, 3) := by decide +kernel
theorem dX7_init_15 : decode cX7_init 15 = .ok (.aload_n 0, 1) := by decide +kernel
theorem dX7_init_16 : decode cX7_init 16 = .ok (.new 16, 3) := by decide +kernel
theorem dX7_init_19 : decode cX7_init 19 = .ok (.dup, 1) := by decide +kernel
theorem dX7_init_20 : decode cX7_init 20 = .ok (.invokespecial 18, 3) := by decide +kernel
theorem dX7_init_23 : decode cX7_init 23 = .ok (.putfield 19, 3) := by decide +kernel
theorem dX7_init_26 : decode cX7_init 26 = .ok (.aload_n 0, 1) := by decide +kernel
theorem dX7_init_27 : decode cX7_init 27 = .ok (.new 23, 3) := by decide +kernel
theorem dX7_init_30 : decode cX7_init 30 = .ok (.dup, 1) := by decide +kernel
theorem dX7_init_31 : decode cX7_init 31 = .ok (.invokespecial 25, 3) := by decide +kernel
theorem dX7_init_34 : decode cX7_init 34 = .ok (.putfield 26, 3) := by decide +kernel
theorem dX7_init_37 : decode cX7_init 37 = .ok (.aload_n 0, 1) := by decide +kernel
theorem dX7_init_38 : decode cX7_init 38 = .ok (.new 30, 3) := by decide +kernel
theorem dX7_init_41 : decode cX7_init 41 = .ok (.dup, 1) := by decide +kernel
theorem dX7_init_42 : decode cX7_init 42 = .ok (.invokespecial 32, 3) := by decide +kernel
theorem dX7_init_45 : decode cX7_init 45 = .ok (.putfield 33, 3) := by decide +kernel
theorem dX7_init_48 : decode cX7_init 48 = .ok (.aload_n 0, 1) := by decide +kernel
theorem dX7_init_49 : decode cX7_init 49 = .ok (.new 30, 3) := by decide +kernel
theorem dX7_init_52 : decode cX7_init 52 = .ok (.dup, 1) := by decide +kernel
theorem dX7_init_53 : decode cX7_init 53 = .ok (.invokespecial 32, 3) := by decide +kernel
theorem dX7_init_56 : decode cX7_init 56 = .ok (.putfield 37, 3) := by decide +kernel
theorem dX7_init_59 : decode cX7_init 59 = .ok (.aload_n 0, 1) := by decide +kernel
theorem dX7_init_60 : decode cX7_init 60 = .ok (.new 40, 3) := by decide +kernel
theorem dX7_init_63 : decode cX7_init 63 = .ok (.dup, 1) := by decide +kernel
theorem dX7_init_64 : decode cX7_init 64 = .ok (.invokespecial 42, 3) := by decide +kernel
theorem dX7_init_67 : decode cX7_init 67 = .ok (.putfield 43, 3) := by decide +kernel
theorem dX7_init_70 : decode cX7_init 70 = .ok (.aload_n 0, 1) := by decide +kernel
theorem dX7_init_71 : decode cX7_init 71 = .ok (.new 47, 3) := by decide +kernel
theorem dX7_init_74 : decode cX7_init 74 = .ok (.dup, 1) := by decide +kernel
theorem dX7_init_75 : decode cX7_init 75 = .ok (.invokespecial 49, 3) := by decide +kernel
theorem dX7_init_78 : decode cX7_init 78 = .ok (.putfield 50, 3) := by decide +kernel
theorem dX7_init_81 : decode cX7_init 81 = .ok (.aload_n 0, 1) := by decide +kernel
theorem dX7_init_82 : decode cX7_init 82 = .ok (.new 54, 3) := by decide +kernel
theorem dX7_init_85 : decode cX7_init 85 = .ok (.dup, 1) := by decide +kernel
theorem dX7_init_86 : decode cX7_init 86 = .ok (.invokespecial 56, 3) := by decide +kernel
theorem dX7_init_89 : decode cX7_init 89 = .ok (.putfield 57, 3) := by decide +kernel
theorem dX7_init_92 : decode cX7_init 92 = .ok (.aload_n 0, 1) := by decide +kernel
theorem dX7_init_93 : decode cX7_init 93 = .ok (.new 30, 3) := by decide +kernel
theorem dX7_init_96 : decode cX7_init 96 = .ok (.dup, 1) := by decide +kernel
theorem dX7_init_97 : decode cX7_init 97 = .ok (.invokespecial 32, 3) := by decide +kernel
theorem dX7_init_100 : decode cX7_init 100 = .ok (.putfield 61, 3) := by decide +kernel
theorem dX7_init_103 : decode cX7_init 103 = .ok (.aload_n 0, 1) := by decide +kernel
theorem dX7_init_104 : decode cX7_init 104 = .ok (.iconst 0, 1) := by decide +kernel
theorem dX7_init_105 : decode cX7_init 105 = .ok (.putfield 64, 3) := by decide +kernel
theorem dX7_init_108 : decode cX7_init 108 = .ok (.return_, 1) := by decide +kernel
theorem dX7_machine_0 : decode cX7_machine 0 = .ok (.iload_n 1, 1) := by decide +kernel
theorem dX7_machine_1 : decode cX7_machine 1 = .ok (.iconst 0, 1) := by decide +kernel
theorem dX7_machine_2 : decode cX7_machine 2 = .ok (.iconst 3, 1) := by decide +kernel
theorem dX7_machine_3 : decode cX7_machine 3 = .ok (.invokestatic 68, 3) := by decide +kernel
theorem dX7_machine_6 : decode cX7_machine 6 = .ok (.ifCond .eq 6, 3) := by decide +kernel
theorem dX7_machine_9 : decode cX7_machine 9 = .ok (.ldc 72, 2) := by decide +kernel
theorem dX7_machine_11 : decode cX7_machine 11 = .ok (.ireturn, 1) := by decide +kernel
theorem dX7_machine_12 : decode cX7_machine 12 = .ok (.iload_n 1, 1) := by decide +kernel
theorem dX7_machine_13 : decode cX7_machine 13 = .ok (.iconst 2, 1) := by decide +kernel
theorem dX7_machine_14 : decode cX7_machine 14 = .ok (.if_icmp .ne 16, 3) := by decide +kernel
theorem dX7_machine_17 : decode cX7_machine 17 = .ok (.iload_n 2, 1) := by decide +kernel
theorem dX7_machine_18 : decode cX7_machine 18 = .ok (.iconst 0, 1) := by decide +kernel
theorem dX7_machine_19 : decode cX7_machine 19 = .ok (.bipush 100, 2) := by decide +kernel
theorem dX7_machine_21 : decode cX7_machine 21 = .ok (.invokestatic 68, 3) := by decide +kernel
theorem dX7_machine_24 : decode cX7_machine 24 = .ok (.ifCond .eq 6, 3) := by decide +kernel
theorem dX7_machine_27 : decode cX7_machine 27 = .ok (.ldc 72, 2) := by decide +kernel
theorem dX7_machine_29 : decode cX7_machine 29 = .ok (.ireturn, 1) := by decide +kernel
theorem dX7_machine_30 : decode cX7_machine 30 = .ok (.iload_n 1, 1) := by decide +kernel
theorem dX7_machine_31 : decode cX7_machine 31 = .ok (.iconst 3, 1) := by decide +kernel
theorem dX7_machine_32 : decode cX7_machine 32 = .ok (.if_icmp .ne 15, 3) := by decide +kernel
theorem dX7_machine_35 : decode cX7_machine 35 = .ok (.iload_n 2, 1) := by decide +kernel
theorem dX7_machine_36 : decode cX7_machine 36 = .ok (.iconst 1, 1) := by decide +kernel
theorem dX7_machine_37 : decode cX7_machine 37 = .ok (.iconst 4, 1) := by decide +kernel
theorem dX7_machine_38 : decode cX7_machine 38 = .ok (.invokestatic 68, 3) := by decide +kernel
theorem dX7_machine_41 : decode cX7_machine 41 = .ok (.ifCond .eq 6, 3) := by decide +kernel
theorem dX7_machine_44 : decode cX7_machine 44 = .ok (.ldc 72, 2) := by decide +kernel
theorem dX7_machine_46 : decode cX7_machine 46 = .ok (.ireturn, 1) := by decide +kernel
theorem dX7_machine_47 : decode cX7_machine 47 = .ok (.aload_n 0, 1) := by decide +kernel
theorem dX7_machine_48 : decode cX7_machine 48 = .ok (.getfield 10, 3) := by decide +kernel
theorem dX7_machine_51 : decode cX7_machine 51 = .ok (.getfield 73, 3) := by decide +kernel
theorem dX7_machine_54 : decode cX7_machine 54 = .ok (.bipush 8, 2) := by decide +kernel
theorem dX7_machine_56 : decode cX7_machine 56 = .ok (.if_icmp .lt 6, 3) := by decide +kernel
theorem dX7_machine_59 : decode cX7_machine 59 = .ok (.ldc 76, 2) := by decide +kernel
theorem dX7_machine_61 : decode cX7_machine 61 = .ok (.ireturn, 1) := by decide +kernel
theorem dX7_machine_62 : decode cX7_machine 62 = .ok (.aload_n 0, 1) := by decide +kernel
theorem dX7_machine_63 : decode cX7_machine 63 = .ok (.getfield 10, 3) := by decide +kernel
theorem dX7_machine_66 : decode cX7_machine 66 = .ok (.iload_n 1, 1) := by decide +kernel
theorem dX7_machine_67 : decode cX7_machine 67 = .ok (.iload_n 2, 1) := by decide +kernel
theorem dX7_machine_68 : decode cX7_machine 68 = .ok (.invokevirtual 77, 3) := by decide +kernel
theorem dX7_machine_71 : decode cX7_machine 71 = .ok (.ireturn, 1) := by decide +kernel
theorem dX7_piece_0 : decode cX7_piece 0 = .ok (.iload_n 1, 1) := by decide +kernel
theorem dX7_piece_1 : decode cX7_piece 1 = .ok (.iconst 0, 1) := by decide +kernel
theorem dX7_piece_2 : decode cX7_piece 2 = .ok (.bipush 9, 2) := by decide +kernel
theorem dX7_piece_4 : decode cX7_piece 4 = .ok (.invokestatic 68, 3) := by decide +kernel
theorem dX7_piece_7 : decode cX7_piece 7 = .ok (.ifCond .eq 6, 3) := by decide +kernel
theorem dX7_piece_10 : decode cX7_piece 10 = .ok (.ldc 72, 2) := by decide +kernel
theorem dX7_piece_12 : decode cX7_piece 12 = .ok (.ireturn, 1) := by decide +kernel
theorem dX7_piece_13 : decode cX7_piece 13 = .ok (.aload_n 0, 1) := by decide +kernel
theorem dX7_piece_14 : decode cX7_piece 14 = .ok (.getfield 10, 3) := by decide +kernel
theorem dX7_piece_17 : decode cX7_piece 17 = .ok (.getfield 81, 3) := by decide +kernel
theorem dX7_piece_20 : decode cX7_piece 20 = .ok (.bipush 12, 2) := by decide +kernel
theorem dX7_piece_22 : decode cX7_piece 22 = .ok (.if_icmp .lt 6, 3) := by decide +kernel
theorem dX7_piece_25 : decode cX7_piece 25 = .ok (.ldc 76, 2) := by decide +kernel
theorem dX7_piece_27 : decode cX7_piece 27 = .ok (.ireturn, 1) := by decide +kernel
theorem dX7_piece_28 : decode cX7_piece 28 = .ok (.aload_n 0, 1) := by decide +kernel
theorem dX7_piece_29 : decode cX7_piece 29 = .ok (.getfield 10, 3) := by decide +kernel
theorem dX7_piece_32 : decode cX7_piece 32 = .ok (.iload_n 1, 1) := by decide +kernel
theorem dX7_piece_33 : decode cX7_piece 33 = .ok (.invokevirtual 84, 3) := by decide +kernel
theorem dX7_piece_36 : decode cX7_piece 36 = .ok (.ireturn, 1) := by decide +kernel
theorem dX7_step_0 : decode cX7_step 0 = .ok (.iload_n 1, 1) := by decide +kernel
theorem dX7_step_1 : decode cX7_step 1 = .ok (.iconst 0, 1) := by decide +kernel
theorem dX7_step_2 : decode cX7_step 2 = .ok (.aload_n 0, 1) := by decide +kernel
theorem dX7_step_3 : decode cX7_step 3 = .ok (.getfield 10, 3) := by decide +kernel
theorem dX7_step_6 : decode cX7_step 6 = .ok (.getfield 81, 3) := by decide +kernel
theorem dX7_step_9 : decode cX7_step 9 = .ok (.iconst 1, 1) := by decide +kernel
theorem dX7_step_10 : decode cX7_step 10 = .ok (.isub, 1) := by decide +kernel
theorem dX7_step_11 : decode cX7_step 11 = .ok (.invokestatic 68, 3) := by decide +kernel
theorem dX7_step_14 : decode cX7_step 14 = .ok (.ifCond .ne 11, 3) := by decide +kernel
theorem dX7_step_17 : decode cX7_step 17 = .ok (.aload_n 0, 1) := by decide +kernel
theorem dX7_step_18 : decode cX7_step 18 = .ok (.iload_n 2, 1) := by decide +kernel
theorem dX7_step_19 : decode cX7_step 19 = .ok (.invokevirtual 88, 3) := by decide +kernel
theorem dX7_step_22 : decode cX7_step 22 = .ok (.ifCond .ne 6, 3) := by decide +kernel
theorem dX7_step_25 : decode cX7_step 25 = .ok (.ldc 92, 2) := by decide +kernel
theorem dX7_step_27 : decode cX7_step 27 = .ok (.ireturn, 1) := by decide +kernel
theorem dX7_step_28 : decode cX7_step 28 = .ok (.iload_n 3, 1) := by decide +kernel
theorem dX7_step_29 : decode cX7_step 29 = .ok (.iconst 1, 1) := by decide +kernel
theorem dX7_step_30 : decode cX7_step 30 = .ok (.sipush 1000, 3) := by decide +kernel
theorem dX7_step_33 : decode cX7_step 33 = .ok (.invokestatic 68, 3) := by decide +kernel
theorem dX7_step_36 : decode cX7_step 36 = .ok (.ifCond .eq 6, 3) := by decide +kernel
theorem dX7_step_39 : decode cX7_step 39 = .ok (.ldc 72, 2) := by decide +kernel
theorem dX7_step_41 : decode cX7_step 41 = .ok (.ireturn, 1) := by decide +kernel
theorem dX7_step_42 : decode cX7_step 42 = .ok (.aload_n 0, 1) := by decide +kernel
theorem dX7_step_43 : decode cX7_step 43 = .ok (.getfield 10, 3) := by decide +kernel
theorem dX7_step_46 : decode cX7_step 46 = .ok (.getfield 93, 3) := by decide +kernel
theorem dX7_step_49 : decode cX7_step 49 = .ok (.iload_n 1, 1) := by decide +kernel
theorem dX7_step_50 : decode cX7_step 50 = .ok (.iaload, 1) := by decide +kernel
theorem dX7_step_51 : decode cX7_step 51 = .ok (.bipush 8, 2) := by decide +kernel
theorem dX7_step_53 : decode cX7_step 53 = .ok (.if_icmp .ge 15, 3) := by decide +kernel
theorem dX7_step_56 : decode cX7_step 56 = .ok (.aload_n 0, 1) := by decide +kernel
theorem dX7_step_57 : decode cX7_step 57 = .ok (.getfield 10, 3) := by decide +kernel
theorem dX7_step_60 : decode cX7_step 60 = .ok (.getfield 97, 3) := by decide +kernel
theorem dX7_step_63 : decode cX7_step 63 = .ok (.bipush 32, 2) := by decide +kernel
theorem dX7_step_65 : decode cX7_step 65 = .ok (.if_icmp .lt 6, 3) := by decide +kernel
theorem dX7_step_68 : decode cX7_step 68 = .ok (.ldc 76, 2) := by decide +kernel
theorem dX7_step_70 : decode cX7_step 70 = .ok (.ireturn, 1) := by decide +kernel
theorem dX7_step_71 : decode cX7_step 71 = .ok (.aload_n 0, 1) := by decide +kernel
theorem dX7_step_72 : decode cX7_step 72 = .ok (.iload_n 1, 1) := by decide +kernel
theorem dX7_step_73 : decode cX7_step 73 = .ok (.iload_n 2, 1) := by decide +kernel
theorem dX7_step_74 : decode cX7_step 74 = .ok (.iload_n 3, 1) := by decide +kernel
theorem dX7_step_75 : decode cX7_step 75 = .ok (.invokevirtual 100, 3) := by decide +kernel
theorem dX7_step_78 : decode cX7_step 78 = .ok (.ireturn, 1) := by decide +kernel
theorem dX7_told_0 : decode cX7_told 0 = .ok (.aload_n 0, 1) := by decide +kernel
theorem dX7_told_1 : decode cX7_told 1 = .ok (.iload_n 1, 1) := by decide +kernel
theorem dX7_told_2 : decode cX7_told 2 = .ok (.invokevirtual 104, 3) := by decide +kernel
theorem dX7_told_5 : decode cX7_told 5 = .ok (.ifCond .ne 6, 3) := by decide +kernel
theorem dX7_told_8 : decode cX7_told 8 = .ok (.ldc 92, 2) := by decide +kernel
theorem dX7_told_10 : decode cX7_told 10 = .ok (.ireturn, 1) := by decide +kernel
theorem dX7_told_11 : decode cX7_told 11 = .ok (.iload_n 2, 1) := by decide +kernel
theorem dX7_told_12 : decode cX7_told 12 = .ok (.tableswitch 94 0 4 #[36, 46, 56, 66, 76], 36) := by decide +kernel
theorem dX7_told_48 : decode cX7_told 48 = .ok (.aload_n 0, 1) := by decide +kernel
theorem dX7_told_49 : decode cX7_told 49 = .ok (.getfield 10, 3) := by decide +kernel
theorem dX7_told_52 : decode cX7_told 52 = .ok (.getfield 107, 3) := by decide +kernel
theorem dX7_told_55 : decode cX7_told 55 = .ok (.iload_n 1, 1) := by decide +kernel
theorem dX7_told_56 : decode cX7_told 56 = .ok (.iaload, 1) := by decide +kernel
theorem dX7_told_57 : decode cX7_told 57 = .ok (.ireturn, 1) := by decide +kernel
theorem dX7_told_58 : decode cX7_told 58 = .ok (.aload_n 0, 1) := by decide +kernel
theorem dX7_told_59 : decode cX7_told 59 = .ok (.getfield 10, 3) := by decide +kernel
theorem dX7_told_62 : decode cX7_told 62 = .ok (.getfield 110, 3) := by decide +kernel
theorem dX7_told_65 : decode cX7_told 65 = .ok (.iload_n 1, 1) := by decide +kernel
theorem dX7_told_66 : decode cX7_told 66 = .ok (.iaload, 1) := by decide +kernel
theorem dX7_told_67 : decode cX7_told 67 = .ok (.ireturn, 1) := by decide +kernel
theorem dX7_told_68 : decode cX7_told 68 = .ok (.aload_n 0, 1) := by decide +kernel
theorem dX7_told_69 : decode cX7_told 69 = .ok (.getfield 10, 3) := by decide +kernel
theorem dX7_told_72 : decode cX7_told 72 = .ok (.getfield 113, 3) := by decide +kernel
theorem dX7_told_75 : decode cX7_told 75 = .ok (.iload_n 1, 1) := by decide +kernel
theorem dX7_told_76 : decode cX7_told 76 = .ok (.iaload, 1) := by decide +kernel
theorem dX7_told_77 : decode cX7_told 77 = .ok (.ireturn, 1) := by decide +kernel
theorem dX7_told_78 : decode cX7_told 78 = .ok (.aload_n 0, 1) := by decide +kernel
theorem dX7_told_79 : decode cX7_told 79 = .ok (.getfield 10, 3) := by decide +kernel
theorem dX7_told_82 : decode cX7_told 82 = .ok (.getfield 116, 3) := by decide +kernel
theorem dX7_told_85 : decode cX7_told 85 = .ok (.iload_n 1, 1) := by decide +kernel
theorem dX7_told_86 : decode cX7_told 86 = .ok (.iaload, 1) := by decide +kernel
theorem dX7_told_87 : decode cX7_told 87 = .ok (.ireturn, 1) := by decide +kernel
theorem dX7_told_88 : decode cX7_told 88 = .ok (.aload_n 0, 1) := by decide +kernel
theorem dX7_told_89 : decode cX7_told 89 = .ok (.getfield 19, 3) := by decide +kernel
theorem dX7_told_92 : decode cX7_told 92 = .ok (.aload_n 0, 1) := by decide +kernel
theorem dX7_told_93 : decode cX7_told 93 = .ok (.getfield 10, 3) := by decide +kernel
theorem dX7_told_96 : decode cX7_told 96 = .ok (.getfield 110, 3) := by decide +kernel
theorem dX7_told_99 : decode cX7_told 99 = .ok (.iload_n 1, 1) := by decide +kernel
theorem dX7_told_100 : decode cX7_told 100 = .ok (.iaload, 1) := by decide +kernel
theorem dX7_told_101 : decode cX7_told 101 = .ok (.iload_n 1, 1) := by decide +kernel
theorem dX7_told_102 : decode cX7_told 102 = .ok (.invokevirtual 119, 3) := by decide +kernel
theorem dX7_told_105 : decode cX7_told 105 = .ok (.ireturn, 1) := by decide +kernel
theorem dX7_told_106 : decode cX7_told 106 = .ok (.ldc 72, 2) := by decide +kernel
theorem dX7_told_108 : decode cX7_told 108 = .ok (.ireturn, 1) := by decide +kernel
theorem dX7_count_0 : decode cX7_count 0 = .ok (.iload_n 1, 1) := by decide +kernel
theorem dX7_count_1 : decode cX7_count 1 = .ok (.tableswitch 83 0 4 #[35, 43, 51, 59, 75], 35) := by decide +kernel
theorem dX7_count_36 : decode cX7_count 36 = .ok (.aload_n 0, 1) := by decide +kernel
theorem dX7_count_37 : decode cX7_count 37 = .ok (.getfield 10, 3) := by decide +kernel
theorem dX7_count_40 : decode cX7_count 40 = .ok (.getfield 73, 3) := by decide +kernel
theorem dX7_count_43 : decode cX7_count 43 = .ok (.ireturn, 1) := by decide +kernel
theorem dX7_count_44 : decode cX7_count 44 = .ok (.aload_n 0, 1) := by decide +kernel
theorem dX7_count_45 : decode cX7_count 45 = .ok (.getfield 10, 3) := by decide +kernel
theorem dX7_count_48 : decode cX7_count 48 = .ok (.getfield 81, 3) := by decide +kernel
theorem dX7_count_51 : decode cX7_count 51 = .ok (.ireturn, 1) := by decide +kernel
theorem dX7_count_52 : decode cX7_count 52 = .ok (.aload_n 0, 1) := by decide +kernel
theorem dX7_count_53 : decode cX7_count 53 = .ok (.getfield 10, 3) := by decide +kernel
theorem dX7_count_56 : decode cX7_count 56 = .ok (.getfield 97, 3) := by decide +kernel
theorem dX7_count_59 : decode cX7_count 59 = .ok (.ireturn, 1) := by decide +kernel
theorem dX7_count_60 : decode cX7_count 60 = .ok (.aload_n 0, 1) := by decide +kernel
theorem dX7_count_61 : decode cX7_count 61 = .ok (.getfield 10, 3) := by decide +kernel
theorem dX7_count_64 : decode cX7_count 64 = .ok (.invokevirtual 122, 3) := by decide +kernel
theorem dX7_count_67 : decode cX7_count 67 = .ok (.ifCond .eq 7, 3) := by decide +kernel
theorem dX7_count_70 : decode cX7_count 70 = .ok (.iconst 1, 1) := by decide +kernel
theorem dX7_count_71 : decode cX7_count 71 = .ok (.goto 4, 3) := by decide +kernel
theorem dX7_count_74 : decode cX7_count 74 = .ok (.iconst 0, 1) := by decide +kernel
theorem dX7_count_75 : decode cX7_count 75 = .ok (.ireturn, 1) := by decide +kernel
theorem dX7_count_76 : decode cX7_count 76 = .ok (.aload_n 0, 1) := by decide +kernel
theorem dX7_count_77 : decode cX7_count 77 = .ok (.getfield 10, 3) := by decide +kernel
theorem dX7_count_80 : decode cX7_count 80 = .ok (.invokevirtual 126, 3) := by decide +kernel
theorem dX7_count_83 : decode cX7_count 83 = .ok (.ireturn, 1) := by decide +kernel
theorem dX7_count_84 : decode cX7_count 84 = .ok (.ldc 72, 2) := by decide +kernel
theorem dX7_count_86 : decode cX7_count 86 = .ok (.ireturn, 1) := by decide +kernel
theorem dX7_sheet_0 : decode cX7_sheet 0 = .ok (.iload_n 1, 1) := by decide +kernel
theorem dX7_sheet_1 : decode cX7_sheet 1 = .ok (.invokestatic 130, 3) := by decide +kernel
theorem dX7_sheet_4 : decode cX7_sheet 4 = .ok (.ifCond .ne 6, 3) := by decide +kernel
theorem dX7_sheet_7 : decode cX7_sheet 7 = .ok (.ldc 92, 2) := by decide +kernel
theorem dX7_sheet_9 : decode cX7_sheet 9 = .ok (.ireturn, 1) := by decide +kernel
theorem dX7_sheet_10 : decode cX7_sheet 10 = .ok (.iload_n 2, 1) := by decide +kernel
theorem dX7_sheet_11 : decode cX7_sheet 11 = .ok (.iconst 0, 1) := by decide +kernel
theorem dX7_sheet_12 : decode cX7_sheet 12 = .ok (.iconst 2, 1) := by decide +kernel
theorem dX7_sheet_13 : decode cX7_sheet 13 = .ok (.invokestatic 68, 3) := by decide +kernel
theorem dX7_sheet_16 : decode cX7_sheet 16 = .ok (.ifCond .ne 9, 3) := by decide +kernel
theorem dX7_sheet_19 : decode cX7_sheet 19 = .ok (.iload_n 3, 1) := by decide +kernel
theorem dX7_sheet_20 : decode cX7_sheet 20 = .ok (.bipush 40, 2) := by decide +kernel
theorem dX7_sheet_22 : decode cX7_sheet 22 = .ok (.if_icmp .le 6, 3) := by decide +kernel
theorem dX7_sheet_25 : decode cX7_sheet 25 = .ok (.ldc 72, 2) := by decide +kernel
theorem dX7_sheet_27 : decode cX7_sheet 27 = .ok (.ireturn, 1) := by decide +kernel
theorem dX7_sheet_28 : decode cX7_sheet 28 = .ok (.aload_n 0, 1) := by decide +kernel
theorem dX7_sheet_29 : decode cX7_sheet 29 = .ok (.getfield 26, 3) := by decide +kernel
theorem dX7_sheet_32 : decode cX7_sheet 32 = .ok (.iload_n 3, 1) := by decide +kernel
theorem dX7_sheet_33 : decode cX7_sheet 33 = .ok (.ifCond .ge 7, 3) := by decide +kernel
theorem dX7_sheet_36 : decode cX7_sheet 36 = .ok (.iconst 4, 1) := by decide +kernel
theorem dX7_sheet_37 : decode cX7_sheet 37 = .ok (.goto 4, 3) := by decide +kernel
theorem dX7_sheet_40 : decode cX7_sheet 40 = .ok (.iconst 0, 1) := by decide +kernel
theorem dX7_sheet_41 : decode cX7_sheet 41 = .ok (.putfield 133, 3) := by decide +kernel
theorem dX7_sheet_44 : decode cX7_sheet 44 = .ok (.aload_n 0, 1) := by decide +kernel
theorem dX7_sheet_45 : decode cX7_sheet 45 = .ok (.getfield 26, 3) := by decide +kernel
theorem dX7_sheet_48 : decode cX7_sheet 48 = .ok (.getfield 133, 3) := by decide +kernel
theorem dX7_sheet_51 : decode cX7_sheet 51 = .ok (.ifCond .eq 5, 3) := by decide +kernel
theorem dX7_sheet_54 : decode cX7_sheet 54 = .ok (.iconst 0, 1) := by decide +kernel
theorem dX7_sheet_55 : decode cX7_sheet 55 = .ok (.ireturn, 1) := by decide +kernel
theorem dX7_sheet_56 : decode cX7_sheet 56 = .ok (.aload_n 0, 1) := by decide +kernel
theorem dX7_sheet_57 : decode cX7_sheet 57 = .ok (.getfield 26, 3) := by decide +kernel
theorem dX7_sheet_60 : decode cX7_sheet 60 = .ok (.iload_n 1, 1) := by decide +kernel
theorem dX7_sheet_61 : decode cX7_sheet 61 = .ok (.iload_n 2, 1) := by decide +kernel
theorem dX7_sheet_62 : decode cX7_sheet 62 = .ok (.iload_n 3, 1) := by decide +kernel
theorem dX7_sheet_63 : decode cX7_sheet 63 = .ok (.invokevirtual 136, 3) := by decide +kernel
theorem dX7_sheet_66 : decode cX7_sheet 66 = .ok (.iload_n 3, 1) := by decide +kernel
theorem dX7_sheet_67 : decode cX7_sheet 67 = .ok (.ireturn, 1) := by decide +kernel
theorem dX7_tear_0 : decode cX7_tear 0 = .ok (.iload_n 1, 1) := by decide +kernel
theorem dX7_tear_1 : decode cX7_tear 1 = .ok (.invokestatic 130, 3) := by decide +kernel
theorem dX7_tear_4 : decode cX7_tear 4 = .ok (.ifCond .ne 6, 3) := by decide +kernel
theorem dX7_tear_7 : decode cX7_tear 7 = .ok (.ldc 92, 2) := by decide +kernel
theorem dX7_tear_9 : decode cX7_tear 9 = .ok (.ireturn, 1) := by decide +kernel
theorem dX7_tear_10 : decode cX7_tear 10 = .ok (.aload_n 0, 1) := by decide +kernel
theorem dX7_tear_11 : decode cX7_tear 11 = .ok (.getfield 26, 3) := by decide +kernel
theorem dX7_tear_14 : decode cX7_tear 14 = .ok (.iload_n 1, 1) := by decide +kernel
theorem dX7_tear_15 : decode cX7_tear 15 = .ok (.invokevirtual 140, 3) := by decide +kernel
theorem dX7_tear_18 : decode cX7_tear 18 = .ok (.ifCond .eq 7, 3) := by decide +kernel
theorem dX7_tear_21 : decode cX7_tear 21 = .ok (.iconst 1, 1) := by decide +kernel
theorem dX7_tear_22 : decode cX7_tear 22 = .ok (.goto 4, 3) := by decide +kernel
theorem dX7_tear_25 : decode cX7_tear 25 = .ok (.iconst 0, 1) := by decide +kernel
theorem dX7_tear_26 : decode cX7_tear 26 = .ok (.istore_n 2, 1) := by decide +kernel
theorem dX7_tear_27 : decode cX7_tear 27 = .ok (.aload_n 0, 1) := by decide +kernel
theorem dX7_tear_28 : decode cX7_tear 28 = .ok (.getfield 26, 3) := by decide +kernel
theorem dX7_tear_31 : decode cX7_tear 31 = .ok (.iload_n 1, 1) := by decide +kernel
theorem dX7_tear_32 : decode cX7_tear 32 = .ok (.invokevirtual 143, 3) := by decide +kernel
theorem dX7_tear_35 : decode cX7_tear 35 = .ok (.iload_n 2, 1) := by decide +kernel
theorem dX7_tear_36 : decode cX7_tear 36 = .ok (.ireturn, 1) := by decide +kernel
theorem dX7_put_0 : decode cX7_put 0 = .ok (.iload_n 1, 1) := by decide +kernel
theorem dX7_put_1 : decode cX7_put 1 = .ok (.invokestatic 130, 3) := by decide +kernel
theorem dX7_put_4 : decode cX7_put 4 = .ok (.ifCond .ne 6, 3) := by decide +kernel
theorem dX7_put_7 : decode cX7_put 7 = .ok (.ldc 92, 2) := by decide +kernel
theorem dX7_put_9 : decode cX7_put 9 = .ok (.ireturn, 1) := by decide +kernel
theorem dX7_put_10 : decode cX7_put 10 = .ok (.iload_n 2, 1) := by decide +kernel
theorem dX7_put_11 : decode cX7_put 11 = .ok (.iconst 0, 1) := by decide +kernel
theorem dX7_put_12 : decode cX7_put 12 = .ok (.iconst 2, 1) := by decide +kernel
theorem dX7_put_13 : decode cX7_put 13 = .ok (.invokestatic 68, 3) := by decide +kernel
theorem dX7_put_16 : decode cX7_put 16 = .ok (.ifCond .eq 6, 3) := by decide +kernel
theorem dX7_put_19 : decode cX7_put 19 = .ok (.ldc 72, 2) := by decide +kernel
theorem dX7_put_21 : decode cX7_put 21 = .ok (.ireturn, 1) := by decide +kernel
theorem dX7_put_22 : decode cX7_put 22 = .ok (.aload_n 0, 1) := by decide +kernel
theorem dX7_put_23 : decode cX7_put 23 = .ok (.getfield 26, 3) := by decide +kernel
theorem dX7_put_26 : decode cX7_put 26 = .ok (.aload_n 0, 1) := by decide +kernel
theorem dX7_put_27 : decode cX7_put 27 = .ok (.getfield 26, 3) := by decide +kernel
theorem dX7_put_30 : decode cX7_put 30 = .ok (.iload_n 1, 1) := by decide +kernel
theorem dX7_put_31 : decode cX7_put 31 = .ok (.iload_n 2, 1) := by decide +kernel
theorem dX7_put_32 : decode cX7_put 32 = .ok (.iload_n 3, 1) := by decide +kernel
theorem dX7_put_33 : decode cX7_put 33 = .ok (.invokevirtual 147, 3) := by decide +kernel
theorem dX7_put_36 : decode cX7_put 36 = .ok (.putfield 133, 3) := by decide +kernel
theorem dX7_put_39 : decode cX7_put 39 = .ok (.aload_n 0, 1) := by decide +kernel
theorem dX7_put_40 : decode cX7_put 40 = .ok (.getfield 26, 3) := by decide +kernel
theorem dX7_put_43 : decode cX7_put 43 = .ok (.getfield 133, 3) := by decide +kernel
theorem dX7_put_46 : decode cX7_put 46 = .ok (.ifCond .eq 5, 3) := by decide +kernel
theorem dX7_put_49 : decode cX7_put 49 = .ok (.iconst 0, 1) := by decide +kernel
theorem dX7_put_50 : decode cX7_put 50 = .ok (.ireturn, 1) := by decide +kernel
theorem dX7_put_51 : decode cX7_put 51 = .ok (.aload_n 0, 1) := by decide +kernel
theorem dX7_put_52 : decode cX7_put 52 = .ok (.getfield 26, 3) := by decide +kernel
theorem dX7_put_55 : decode cX7_put 55 = .ok (.getfield 150, 3) := by decide +kernel
theorem dX7_put_58 : decode cX7_put 58 = .ok (.iload_n 1, 1) := by decide +kernel
theorem dX7_put_59 : decode cX7_put 59 = .ok (.aaload, 1) := by decide +kernel
theorem dX7_put_60 : decode cX7_put 60 = .ok (.iload_n 3, 1) := by decide +kernel
theorem dX7_put_61 : decode cX7_put 61 = .ok (.iload_n 2, 1) := by decide +kernel
theorem dX7_put_62 : decode cX7_put 62 = .ok (.iload 4, 2) := by decide +kernel
theorem dX7_put_64 : decode cX7_put 64 = .ok (.invokestatic 154, 3) := by decide +kernel
theorem dX7_put_67 : decode cX7_put 67 = .ok (.iastore, 1) := by decide +kernel
theorem dX7_put_68 : decode cX7_put 68 = .ok (.aload_n 0, 1) := by decide +kernel
theorem dX7_put_69 : decode cX7_put 69 = .ok (.getfield 26, 3) := by decide +kernel
theorem dX7_put_72 : decode cX7_put 72 = .ok (.getfield 150, 3) := by decide +kernel
theorem dX7_put_75 : decode cX7_put 75 = .ok (.iload_n 1, 1) := by decide +kernel
theorem dX7_put_76 : decode cX7_put 76 = .ok (.aaload, 1) := by decide +kernel
theorem dX7_put_77 : decode cX7_put 77 = .ok (.iload_n 3, 1) := by decide +kernel
theorem dX7_put_78 : decode cX7_put 78 = .ok (.iaload, 1) := by decide +kernel
theorem dX7_put_79 : decode cX7_put 79 = .ok (.ireturn, 1) := by decide +kernel
theorem dX7_at_0 : decode cX7_at 0 = .ok (.iload_n 1, 1) := by decide +kernel
theorem dX7_at_1 : decode cX7_at 1 = .ok (.invokestatic 130, 3) := by decide +kernel
theorem dX7_at_4 : decode cX7_at 4 = .ok (.ifCond .ne 6, 3) := by decide +kernel
theorem dX7_at_7 : decode cX7_at 7 = .ok (.ldc 92, 2) := by decide +kernel
theorem dX7_at_9 : decode cX7_at 9 = .ok (.ireturn, 1) := by decide +kernel
theorem dX7_at_10 : decode cX7_at 10 = .ok (.aload_n 0, 1) := by decide +kernel
theorem dX7_at_11 : decode cX7_at 11 = .ok (.getfield 26, 3) := by decide +kernel
theorem dX7_at_14 : decode cX7_at 14 = .ok (.aload_n 0, 1) := by decide +kernel
theorem dX7_at_15 : decode cX7_at 15 = .ok (.getfield 26, 3) := by decide +kernel
theorem dX7_at_18 : decode cX7_at 18 = .ok (.iload_n 1, 1) := by decide +kernel
theorem dX7_at_19 : decode cX7_at 19 = .ok (.iload_n 2, 1) := by decide +kernel
theorem dX7_at_20 : decode cX7_at 20 = .ok (.invokevirtual 157, 3) := by decide +kernel
theorem dX7_at_23 : decode cX7_at 23 = .ok (.putfield 133, 3) := by decide +kernel
theorem dX7_at_26 : decode cX7_at 26 = .ok (.aload_n 0, 1) := by decide +kernel
theorem dX7_at_27 : decode cX7_at 27 = .ok (.getfield 26, 3) := by decide +kernel
theorem dX7_at_30 : decode cX7_at 30 = .ok (.getfield 133, 3) := by decide +kernel
theorem dX7_at_33 : decode cX7_at 33 = .ok (.ifCond .eq 7, 3) := by decide +kernel
theorem dX7_at_36 : decode cX7_at 36 = .ok (.iconst 0, 1) := by decide +kernel
theorem dX7_at_37 : decode cX7_at 37 = .ok (.goto 14, 3) := by decide +kernel
theorem dX7_at_40 : decode cX7_at 40 = .ok (.aload_n 0, 1) := by decide +kernel
theorem dX7_at_41 : decode cX7_at 41 = .ok (.getfield 26, 3) := by decide +kernel
theorem dX7_at_44 : decode cX7_at 44 = .ok (.getfield 150, 3) := by decide +kernel
theorem dX7_at_47 : decode cX7_at 47 = .ok (.iload_n 1, 1) := by decide +kernel
theorem dX7_at_48 : decode cX7_at 48 = .ok (.aaload, 1) := by decide +kernel
theorem dX7_at_49 : decode cX7_at 49 = .ok (.iload_n 2, 1) := by decide +kernel
theorem dX7_at_50 : decode cX7_at 50 = .ok (.iaload, 1) := by decide +kernel
theorem dX7_at_51 : decode cX7_at 51 = .ok (.ireturn, 1) := by decide +kernel
theorem dX7_copy_0 : decode cX7_copy 0 = .ok (.iload_n 1, 1) := by decide +kernel
theorem dX7_copy_1 : decode cX7_copy 1 = .ok (.invokestatic 130, 3) := by decide +kernel
theorem dX7_copy_4 : decode cX7_copy 4 = .ok (.ifCond .eq 10, 3) := by decide +kernel
theorem dX7_copy_7 : decode cX7_copy 7 = .ok (.iload_n 3, 1) := by decide +kernel
theorem dX7_copy_8 : decode cX7_copy 8 = .ok (.invokestatic 130, 3) := by decide +kernel
theorem dX7_copy_11 : decode cX7_copy 11 = .ok (.ifCond .ne 6, 3) := by decide +kernel
theorem dX7_copy_14 : decode cX7_copy 14 = .ok (.ldc 92, 2) := by decide +kernel
theorem dX7_copy_16 : decode cX7_copy 16 = .ok (.ireturn, 1) := by decide +kernel
theorem dX7_copy_17 : decode cX7_copy 17 = .ok (.aload_n 0, 1) := by decide +kernel
theorem dX7_copy_18 : decode cX7_copy 18 = .ok (.getfield 26, 3) := by decide +kernel
theorem dX7_copy_21 : decode cX7_copy 21 = .ok (.aload_n 0, 1) := by decide +kernel
theorem dX7_copy_22 : decode cX7_copy 22 = .ok (.getfield 26, 3) := by decide +kernel
theorem dX7_copy_25 : decode cX7_copy 25 = .ok (.iload_n 1, 1) := by decide +kernel
theorem dX7_copy_26 : decode cX7_copy 26 = .ok (.iload_n 2, 1) := by decide +kernel
theorem dX7_copy_27 : decode cX7_copy 27 = .ok (.iload_n 3, 1) := by decide +kernel
theorem dX7_copy_28 : decode cX7_copy 28 = .ok (.iload 4, 2) := by decide +kernel
theorem dX7_copy_30 : decode cX7_copy 30 = .ok (.iload 5, 2) := by decide +kernel
theorem dX7_copy_32 : decode cX7_copy 32 = .ok (.invokevirtual 160, 3) := by decide +kernel
theorem dX7_copy_35 : decode cX7_copy 35 = .ok (.putfield 133, 3) := by decide +kernel
theorem dX7_copy_38 : decode cX7_copy 38 = .ok (.aload_n 0, 1) := by decide +kernel
theorem dX7_copy_39 : decode cX7_copy 39 = .ok (.getfield 26, 3) := by decide +kernel
theorem dX7_copy_42 : decode cX7_copy 42 = .ok (.getfield 133, 3) := by decide +kernel
theorem dX7_copy_45 : decode cX7_copy 45 = .ok (.ifCond .eq 5, 3) := by decide +kernel
theorem dX7_copy_48 : decode cX7_copy 48 = .ok (.iconst 0, 1) := by decide +kernel
theorem dX7_copy_49 : decode cX7_copy 49 = .ok (.ireturn, 1) := by decide +kernel
theorem dX7_copy_50 : decode cX7_copy 50 = .ok (.aload_n 0, 1) := by decide +kernel
theorem dX7_copy_51 : decode cX7_copy 51 = .ok (.getfield 26, 3) := by decide +kernel
theorem dX7_copy_54 : decode cX7_copy 54 = .ok (.getfield 150, 3) := by decide +kernel
theorem dX7_copy_57 : decode cX7_copy 57 = .ok (.iload_n 1, 1) := by decide +kernel
theorem dX7_copy_58 : decode cX7_copy 58 = .ok (.aaload, 1) := by decide +kernel
theorem dX7_copy_59 : decode cX7_copy 59 = .ok (.iload_n 2, 1) := by decide +kernel
theorem dX7_copy_60 : decode cX7_copy 60 = .ok (.aload_n 0, 1) := by decide +kernel
theorem dX7_copy_61 : decode cX7_copy 61 = .ok (.getfield 26, 3) := by decide +kernel
theorem dX7_copy_64 : decode cX7_copy 64 = .ok (.getfield 150, 3) := by decide +kernel
theorem dX7_copy_67 : decode cX7_copy 67 = .ok (.iload_n 3, 1) := by decide +kernel
theorem dX7_copy_68 : decode cX7_copy 68 = .ok (.aaload, 1) := by decide +kernel
theorem dX7_copy_69 : decode cX7_copy 69 = .ok (.iload 4, 2) := by decide +kernel
theorem dX7_copy_71 : decode cX7_copy 71 = .ok (.iload 5, 2) := by decide +kernel
theorem dX7_copy_73 : decode cX7_copy 73 = .ok (.invokestatic 164, 3) := by decide +kernel
theorem dX7_copy_76 : decode cX7_copy 76 = .ok (.iconst 1, 1) := by decide +kernel
theorem dX7_copy_77 : decode cX7_copy 77 = .ok (.ireturn, 1) := by decide +kernel
theorem dX7_read_0 : decode cX7_read 0 = .ok (.iload_n 1, 1) := by decide +kernel
theorem dX7_read_1 : decode cX7_read 1 = .ok (.invokestatic 130, 3) := by decide +kernel
theorem dX7_read_4 : decode cX7_read 4 = .ok (.ifCond .ne 6, 3) := by decide +kernel
theorem dX7_read_7 : decode cX7_read 7 = .ok (.ldc 92, 2) := by decide +kernel
theorem dX7_read_9 : decode cX7_read 9 = .ok (.ireturn, 1) := by decide +kernel
theorem dX7_read_10 : decode cX7_read 10 = .ok (.iload_n 2, 1) := by decide +kernel
theorem dX7_read_11 : decode cX7_read 11 = .ok (.iconst 0, 1) := by decide +kernel
theorem dX7_read_12 : decode cX7_read 12 = .ok (.bipush 9, 2) := by decide +kernel
theorem dX7_read_14 : decode cX7_read 14 = .ok (.invokestatic 68, 3) := by decide +kernel
theorem dX7_read_17 : decode cX7_read 17 = .ok (.ifCond .eq 6, 3) := by decide +kernel
theorem dX7_read_20 : decode cX7_read 20 = .ok (.ldc 72, 2) := by decide +kernel
theorem dX7_read_22 : decode cX7_read 22 = .ok (.ireturn, 1) := by decide +kernel
theorem dX7_read_23 : decode cX7_read 23 = .ok (.aload_n 0, 1) := by decide +kernel
theorem dX7_read_24 : decode cX7_read 24 = .ok (.getfield 26, 3) := by decide +kernel
theorem dX7_read_27 : decode cX7_read 27 = .ok (.iload_n 1, 1) := by decide +kernel
theorem dX7_read_28 : decode cX7_read 28 = .ok (.invokevirtual 170, 3) := by decide +kernel
theorem dX7_read_31 : decode cX7_read 31 = .ok (.istore_n 3, 1) := by decide +kernel
theorem dX7_read_32 : decode cX7_read 32 = .ok (.iload_n 3, 1) := by decide +kernel
theorem dX7_read_33 : decode cX7_read 33 = .ok (.ifCond .eq 13, 3) := by decide +kernel
theorem dX7_read_36 : decode cX7_read 36 = .ok (.aload_n 0, 1) := by decide +kernel
theorem dX7_read_37 : decode cX7_read 37 = .ok (.getfield 26, 3) := by decide +kernel
theorem dX7_read_40 : decode cX7_read 40 = .ok (.iload_n 3, 1) := by decide +kernel
theorem dX7_read_41 : decode cX7_read 41 = .ok (.putfield 133, 3) := by decide +kernel
theorem dX7_read_44 : decode cX7_read 44 = .ok (.iconst 0, 1) := by decide +kernel
theorem dX7_read_45 : decode cX7_read 45 = .ok (.ireturn, 1) := by decide +kernel
theorem dX7_read_46 : decode cX7_read 46 = .ok (.aload_n 0, 1) := by decide +kernel
theorem dX7_read_47 : decode cX7_read 47 = .ok (.getfield 26, 3) := by decide +kernel
theorem dX7_read_50 : decode cX7_read 50 = .ok (.getfield 173, 3) := by decide +kernel
theorem dX7_read_53 : decode cX7_read 53 = .ok (.iload_n 1, 1) := by decide +kernel
theorem dX7_read_54 : decode cX7_read 54 = .ok (.iaload, 1) := by decide +kernel
theorem dX7_read_55 : decode cX7_read 55 = .ok (.iconst 2, 1) := by decide +kernel
theorem dX7_read_56 : decode cX7_read 56 = .ok (.idiv, 1) := by decide +kernel
theorem dX7_read_57 : decode cX7_read 57 = .ok (.istore 4, 2) := by decide +kernel
theorem dX7_read_59 : decode cX7_read 59 = .ok (.aload_n 0, 1) := by decide +kernel
theorem dX7_read_60 : decode cX7_read 60 = .ok (.aload_n 0, 1) := by decide +kernel
theorem dX7_read_61 : decode cX7_read 61 = .ok (.getfield 26, 3) := by decide +kernel
theorem dX7_read_64 : decode cX7_read 64 = .ok (.getfield 150, 3) := by decide +kernel
theorem dX7_read_67 : decode cX7_read 67 = .ok (.iload_n 1, 1) := by decide +kernel
theorem dX7_read_68 : decode cX7_read 68 = .ok (.aaload, 1) := by decide +kernel
theorem dX7_read_69 : decode cX7_read 69 = .ok (.iload 4, 2) := by decide +kernel
theorem dX7_read_71 : decode cX7_read 71 = .ok (.invokevirtual 176, 3) := by decide +kernel
theorem dX7_read_74 : decode cX7_read 74 = .ok (.ifCond .ne 6, 3) := by decide +kernel
theorem dX7_read_77 : decode cX7_read 77 = .ok (.ldc 180, 2) := by decide +kernel
theorem dX7_read_79 : decode cX7_read 79 = .ok (.ireturn, 1) := by decide +kernel
theorem dX7_read_80 : decode cX7_read 80 = .ok (.aload_n 0, 1) := by decide +kernel
theorem dX7_read_81 : decode cX7_read 81 = .ok (.getfield 10, 3) := by decide +kernel
theorem dX7_read_84 : decode cX7_read 84 = .ok (.getfield 81, 3) := by decide +kernel
theorem dX7_read_87 : decode cX7_read 87 = .ok (.bipush 12, 2) := by decide +kernel
theorem dX7_read_89 : decode cX7_read 89 = .ok (.if_icmp .ge 25, 3) := by decide +kernel
theorem dX7_read_92 : decode cX7_read 92 = .ok (.iload 4, 2) := by decide +kernel
theorem dX7_read_94 : decode cX7_read 94 = .ok (.bipush 8, 2) := by decide +kernel
theorem dX7_read_96 : decode cX7_read 96 = .ok (.if_icmp .gt 18, 3) := by decide +kernel
theorem dX7_read_99 : decode cX7_read 99 = .ok (.aload_n 0, 1) := by decide +kernel
theorem dX7_read_100 : decode cX7_read 100 = .ok (.getfield 10, 3) := by decide +kernel
theorem dX7_read_103 : decode cX7_read 103 = .ok (.getfield 97, 3) := by decide +kernel
theorem dX7_read_106 : decode cX7_read 106 = .ok (.iload 4, 2) := by decide +kernel
theorem dX7_read_108 : decode cX7_read 108 = .ok (.iadd, 1) := by decide +kernel
theorem dX7_read_109 : decode cX7_read 109 = .ok (.bipush 32, 2) := by decide +kernel
theorem dX7_read_111 : decode cX7_read 111 = .ok (.if_icmp .le 6, 3) := by decide +kernel
theorem dX7_read_114 : decode cX7_read 114 = .ok (.ldc 76, 2) := by decide +kernel
theorem dX7_read_116 : decode cX7_read 116 = .ok (.ireturn, 1) := by decide +kernel
theorem dX7_read_117 : decode cX7_read 117 = .ok (.aload_n 0, 1) := by decide +kernel
theorem dX7_read_118 : decode cX7_read 118 = .ok (.getfield 26, 3) := by decide +kernel
theorem dX7_read_121 : decode cX7_read 121 = .ok (.iconst 0, 1) := by decide +kernel
theorem dX7_read_122 : decode cX7_read 122 = .ok (.putfield 133, 3) := by decide +kernel
theorem dX7_read_125 : decode cX7_read 125 = .ok (.aload_n 0, 1) := by decide +kernel
theorem dX7_read_126 : decode cX7_read 126 = .ok (.iload_n 2, 1) := by decide +kernel
theorem dX7_read_127 : decode cX7_read 127 = .ok (.aload_n 0, 1) := by decide +kernel
theorem dX7_read_128 : decode cX7_read 128 = .ok (.getfield 26, 3) := by decide +kernel
theorem dX7_read_131 : decode cX7_read 131 = .ok (.getfield 150, 3) := by decide +kernel
theorem dX7_read_134 : decode cX7_read 134 = .ok (.iload_n 1, 1) := by decide +kernel
theorem dX7_read_135 : decode cX7_read 135 = .ok (.aaload, 1) := by decide +kernel
theorem dX7_read_136 : decode cX7_read 136 = .ok (.iload 4, 2) := by decide +kernel
theorem dX7_read_138 : decode cX7_read 138 = .ok (.invokevirtual 181, 3) := by decide +kernel
theorem dX7_read_141 : decode cX7_read 141 = .ok (.ireturn, 1) := by decide +kernel
theorem dX7_code_0 : decode cX7_code 0 = .ok (.aload_n 0, 1) := by decide +kernel
theorem dX7_code_1 : decode cX7_code 1 = .ok (.getfield 26, 3) := by decide +kernel
theorem dX7_code_4 : decode cX7_code 4 = .ok (.getfield 133, 3) := by decide +kernel
theorem dX7_code_7 : decode cX7_code 7 = .ok (.ireturn, 1) := by decide +kernel
theorem dX7_swap_0 : decode cX7_swap 0 = .ok (.aload_n 0, 1) := by decide +kernel
theorem dX7_swap_1 : decode cX7_swap 1 = .ok (.iload_n 1, 1) := by decide +kernel
theorem dX7_swap_2 : decode cX7_swap 2 = .ok (.invokevirtual 88, 3) := by decide +kernel
theorem dX7_swap_5 : decode cX7_swap 5 = .ok (.ifCond .ne 6, 3) := by decide +kernel
theorem dX7_swap_8 : decode cX7_swap 8 = .ok (.ldc 92, 2) := by decide +kernel
theorem dX7_swap_10 : decode cX7_swap 10 = .ok (.ireturn, 1) := by decide +kernel
theorem dX7_swap_11 : decode cX7_swap 11 = .ok (.iload_n 2, 1) := by decide +kernel
theorem dX7_swap_12 : decode cX7_swap 12 = .ok (.iconst 0, 1) := by decide +kernel
theorem dX7_swap_13 : decode cX7_swap 13 = .ok (.aload_n 0, 1) := by decide +kernel
theorem dX7_swap_14 : decode cX7_swap 14 = .ok (.getfield 19, 3) := by decide +kernel
theorem dX7_swap_17 : decode cX7_swap 17 = .ok (.getfield 185, 3) := by decide +kernel
theorem dX7_swap_20 : decode cX7_swap 20 = .ok (.iload_n 1, 1) := by decide +kernel
theorem dX7_swap_21 : decode cX7_swap 21 = .ok (.iaload, 1) := by decide +kernel
theorem dX7_swap_22 : decode cX7_swap 22 = .ok (.iconst 2, 1) := by decide +kernel
theorem dX7_swap_23 : decode cX7_swap 23 = .ok (.isub, 1) := by decide +kernel
theorem dX7_swap_24 : decode cX7_swap 24 = .ok (.invokestatic 68, 3) := by decide +kernel
theorem dX7_swap_27 : decode cX7_swap 27 = .ok (.ifCond .eq 6, 3) := by decide +kernel
theorem dX7_swap_30 : decode cX7_swap 30 = .ok (.ldc 72, 2) := by decide +kernel
theorem dX7_swap_32 : decode cX7_swap 32 = .ok (.ireturn, 1) := by decide +kernel
theorem dX7_swap_33 : decode cX7_swap 33 = .ok (.aload_n 0, 1) := by decide +kernel
theorem dX7_swap_34 : decode cX7_swap 34 = .ok (.getfield 10, 3) := by decide +kernel
theorem dX7_swap_37 : decode cX7_swap 37 = .ok (.getfield 186, 3) := by decide +kernel
theorem dX7_swap_40 : decode cX7_swap 40 = .ok (.iload_n 1, 1) := by decide +kernel
theorem dX7_swap_41 : decode cX7_swap 41 = .ok (.iaload, 1) := by decide +kernel
theorem dX7_swap_42 : decode cX7_swap 42 = .ok (.iconst 1, 1) := by decide +kernel
theorem dX7_swap_43 : decode cX7_swap 43 = .ok (.if_icmp .ne 6, 3) := by decide +kernel
theorem dX7_swap_46 : decode cX7_swap 46 = .ok (.ldc 180, 2) := by decide +kernel
theorem dX7_swap_48 : decode cX7_swap 48 = .ok (.ireturn, 1) := by decide +kernel
theorem dX7_swap_49 : decode cX7_swap 49 = .ok (.aload_n 0, 1) := by decide +kernel
theorem dX7_swap_50 : decode cX7_swap 50 = .ok (.getfield 33, 3) := by decide +kernel
theorem dX7_swap_53 : decode cX7_swap 53 = .ok (.aload_n 0, 1) := by decide +kernel
theorem dX7_swap_54 : decode cX7_swap 54 = .ok (.getfield 10, 3) := by decide +kernel
theorem dX7_swap_57 : decode cX7_swap 57 = .ok (.aload_n 0, 1) := by decide +kernel
