theorem dX0_init_0 : decode cX0_init 0 = .ok (.aload_n 0, 1) := by decide +kernel
theorem dX0_init_1 : decode cX0_init 1 = .ok (.invokespecial 3, 3) := by decide +kernel
theorem dX0_init_4 : decode cX0_init 4 = .ok (.aload_n 0, 1) := by decide +kernel
theorem dX0_init_5 : decode cX0_init 5 = .ok (.bipush 40, 2) := by decide +kernel
theorem dX0_init_7 : decode cX0_init 7 = .ok (.newarray .int, 2) := by decide +kernel
theorem dX0_init_9 : decode cX0_init 9 = .ok (.putfield 9, 3) := by decide +kernel
theorem dX0_init_12 : decode cX0_init 12 = .ok (.aload_n 0, 1) := by decide +kernel
theorem dX0_init_13 : decode cX0_init 13 = .ok (.bipush 40, 2) := by decide +kernel
theorem dX0_init_15 : decode cX0_init 15 = .ok (.newarray .int, 2) := by decide +kernel
theorem dX0_init_17 : decode cX0_init 17 = .ok (.putfield 15, 3) := by decide +kernel
theorem dX0_init_20 : decode cX0_init 20 = .ok (.aload_n 0, 1) := by decide +kernel
theorem dX0_init_21 : decode cX0_init 21 = .ok (.bipush 40, 2) := by decide +kernel
theorem dX0_init_23 : decode cX0_init 23 = .ok (.newarray .boolean, 2) := by decide +kernel
theorem dX0_init_25 : decode cX0_init 25 = .ok (.putfield 18, 3) := by decide +kernel
theorem dX0_init_28 : decode cX0_init 28 = .ok (.return_, 1) := by decide +kernel
theorem dX0_enter_0 : decode cX0_enter 0 = .ok (.aload_n 0, 1) := by decide +kernel
theorem dX0_enter_1 : decode cX0_enter 1 = .ok (.getfield 22, 3) := by decide +kernel
theorem dX0_enter_4 : decode cX0_enter 4 = .ok (.bipush 40, 2) := by decide +kernel
theorem dX0_enter_6 : decode cX0_enter 6 = .ok (.if_icmp .lt 5, 3) := by decide +kernel
theorem dX0_enter_9 : decode cX0_enter 9 = .ok (.iconst 0, 1) := by decide +kernel
theorem dX0_enter_10 : decode cX0_enter 10 = .ok (.ireturn, 1) := by decide +kernel
theorem dX0_enter_11 : decode cX0_enter 11 = .ok (.aload_n 0, 1) := by decide +kernel
theorem dX0_enter_12 : decode cX0_enter 12 = .ok (.getfield 9, 3) := by decide +kernel
theorem dX0_enter_15 : decode cX0_enter 15 = .ok (.aload_n 0, 1) := by decide +kernel
theorem dX0_enter_16 : decode cX0_enter 16 = .ok (.getfield 22, 3) := by decide +kernel
theorem dX0_enter_19 : decode cX0_enter 19 = .ok (.iload_n 1, 1) := by decide +kernel
theorem dX0_enter_20 : decode cX0_enter 20 = .ok (.iastore, 1) := by decide +kernel
theorem dX0_enter_21 : decode cX0_enter 21 = .ok (.aload_n 0, 1) := by decide +kernel
theorem dX0_enter_22 : decode cX0_enter 22 = .ok (.getfield 15, 3) := by decide +kernel
theorem dX0_enter_25 : decode cX0_enter 25 = .ok (.aload_n 0, 1) := by decide +kernel
theorem dX0_enter_26 : decode cX0_enter 26 = .ok (.getfield 22, 3) := by decide +kernel
theorem dX0_enter_29 : decode cX0_enter 29 = .ok (.iload_n 2, 1) := by decide +kernel
theorem dX0_enter_30 : decode cX0_enter 30 = .ok (.iastore, 1) := by decide +kernel
theorem dX0_enter_31 : decode cX0_enter 31 = .ok (.aload_n 0, 1) := by decide +kernel
theorem dX0_enter_32 : decode cX0_enter 32 = .ok (.getfield 18, 3) := by decide +kernel
theorem dX0_enter_35 : decode cX0_enter 35 = .ok (.aload_n 0, 1) := by decide +kernel
theorem dX0_enter_36 : decode cX0_enter 36 = .ok (.getfield 22, 3) := by decide +kernel
theorem dX0_enter_39 : decode cX0_enter 39 = .ok (.iload_n 3, 1) := by decide +kernel
theorem dX0_enter_40 : decode cX0_enter 40 = .ok (.bastore, 1) := by decide +kernel
theorem dX0_enter_41 : decode cX0_enter 41 = .ok (.aload_n 0, 1) := by decide +kernel
theorem dX0_enter_42 : decode cX0_enter 42 = .ok (.dup, 1) := by decide +kernel
theorem dX0_enter_43 : decode cX0_enter 43 = .ok (.getfield 22, 3) := by decide +kernel
theorem dX0_enter_46 : decode cX0_enter 46 = .ok (.iconst 1, 1) := by decide +kernel
theorem dX0_enter_47 : decode cX0_enter 47 = .ok (.iadd, 1) := by decide +kernel
theorem dX0_enter_48 : decode cX0_enter 48 = .ok (.putfield 22, 3) := by decide +kernel
theorem dX0_enter_51 : decode cX0_enter 51 = .ok (.iconst 1, 1) := by decide +kernel
theorem dX0_enter_52 : decode cX0_enter 52 = .ok (.ireturn, 1) := by decide +kernel
theorem dX0_firstWrong_0 : decode cX0_firstWrong 0 = .ok (.iconst 0, 1) := by decide +kernel
theorem dX0_firstWrong_1 : decode cX0_firstWrong 1 = .ok (.istore_n 2, 1) := by decide +kernel
theorem dX0_firstWrong_2 : decode cX0_firstWrong 2 = .ok (.iload_n 2, 1) := by decide +kernel
theorem dX0_firstWrong_3 : decode cX0_firstWrong 3 = .ok (.aload_n 0, 1) := by decide +kernel
theorem dX0_firstWrong_4 : decode cX0_firstWrong 4 = .ok (.getfield 22, 3) := by decide +kernel
theorem dX0_firstWrong_7 : decode cX0_firstWrong 7 = .ok (.if_icmp .ge 75, 3) := by decide +kernel
theorem dX0_firstWrong_10 : decode cX0_firstWrong 10 = .ok (.aload_n 1, 1) := by decide +kernel
theorem dX0_firstWrong_11 : decode cX0_firstWrong 11 = .ok (.aload_n 0, 1) := by decide +kernel
theorem dX0_firstWrong_12 : decode cX0_firstWrong 12 = .ok (.getfield 15, 3) := by decide +kernel
theorem dX0_firstWrong_15 : decode cX0_firstWrong 15 = .ok (.iload_n 2, 1) := by decide +kernel
theorem dX0_firstWrong_16 : decode cX0_firstWrong 16 = .ok (.iaload, 1) := by decide +kernel
theorem dX0_firstWrong_17 : decode cX0_firstWrong 17 = .ok (.invokevirtual 26, 3) := by decide +kernel
theorem dX0_firstWrong_20 : decode cX0_firstWrong 20 = .ok (.ifCond .ne 5, 3) := by decide +kernel
theorem dX0_firstWrong_23 : decode cX0_firstWrong 23 = .ok (.iload_n 2, 1) := by decide +kernel
theorem dX0_firstWrong_24 : decode cX0_firstWrong 24 = .ok (.ireturn, 1) := by decide +kernel
theorem dX0_firstWrong_25 : decode cX0_firstWrong 25 = .ok (.aload_n 0, 1) := by decide +kernel
theorem dX0_firstWrong_26 : decode cX0_firstWrong 26 = .ok (.getfield 18, 3) := by decide +kernel
theorem dX0_firstWrong_29 : decode cX0_firstWrong 29 = .ok (.iload_n 2, 1) := by decide +kernel
theorem dX0_firstWrong_30 : decode cX0_firstWrong 30 = .ok (.baload, 1) := by decide +kernel
theorem dX0_firstWrong_31 : decode cX0_firstWrong 31 = .ok (.ifCond .eq 22, 3) := by decide +kernel
theorem dX0_firstWrong_34 : decode cX0_firstWrong 34 = .ok (.aload_n 1, 1) := by decide +kernel
theorem dX0_firstWrong_35 : decode cX0_firstWrong 35 = .ok (.aload_n 0, 1) := by decide +kernel
theorem dX0_firstWrong_36 : decode cX0_firstWrong 36 = .ok (.getfield 9, 3) := by decide +kernel
theorem dX0_firstWrong_39 : decode cX0_firstWrong 39 = .ok (.iload_n 2, 1) := by decide +kernel
theorem dX0_firstWrong_40 : decode cX0_firstWrong 40 = .ok (.iaload, 1) := by decide +kernel
theorem dX0_firstWrong_41 : decode cX0_firstWrong 41 = .ok (.aload_n 0, 1) := by decide +kernel
theorem dX0_firstWrong_42 : decode cX0_firstWrong 42 = .ok (.getfield 15, 3) := by decide +kernel
theorem dX0_firstWrong_45 : decode cX0_firstWrong 45 = .ok (.iload_n 2, 1) := by decide +kernel
theorem dX0_firstWrong_46 : decode cX0_firstWrong 46 = .ok (.iaload, 1) := by decide +kernel
theorem dX0_firstWrong_47 : decode cX0_firstWrong 47 = .ok (.invokevirtual 32, 3) := by decide +kernel
theorem dX0_firstWrong_50 : decode cX0_firstWrong 50 = .ok (.goto 19, 3) := by decide +kernel
theorem dX0_firstWrong_53 : decode cX0_firstWrong 53 = .ok (.aload_n 1, 1) := by decide +kernel
theorem dX0_firstWrong_54 : decode cX0_firstWrong 54 = .ok (.aload_n 0, 1) := by decide +kernel
theorem dX0_firstWrong_55 : decode cX0_firstWrong 55 = .ok (.getfield 9, 3) := by decide +kernel
theorem dX0_firstWrong_58 : decode cX0_firstWrong 58 = .ok (.iload_n 2, 1) := by decide +kernel
theorem dX0_firstWrong_59 : decode cX0_firstWrong 59 = .ok (.iaload, 1) := by decide +kernel
theorem dX0_firstWrong_60 : decode cX0_firstWrong 60 = .ok (.aload_n 0, 1) := by decide +kernel
theorem dX0_firstWrong_61 : decode cX0_firstWrong 61 = .ok (.getfield 15, 3) := by decide +kernel
theorem dX0_firstWrong_64 : decode cX0_firstWrong 64 = .ok (.iload_n 2, 1) := by decide +kernel
theorem dX0_firstWrong_65 : decode cX0_firstWrong 65 = .ok (.iaload, 1) := by decide +kernel
theorem dX0_firstWrong_66 : decode cX0_firstWrong 66 = .ok (.invokevirtual 36, 3) := by decide +kernel
theorem dX0_firstWrong_69 : decode cX0_firstWrong 69 = .ok (.istore_n 3, 1) := by decide +kernel
theorem dX0_firstWrong_70 : decode cX0_firstWrong 70 = .ok (.iload_n 3, 1) := by decide +kernel
theorem dX0_firstWrong_71 : decode cX0_firstWrong 71 = .ok (.ifCond .ne 5, 3) := by decide +kernel
theorem dX0_firstWrong_74 : decode cX0_firstWrong 74 = .ok (.iload_n 2, 1) := by decide +kernel
theorem dX0_firstWrong_75 : decode cX0_firstWrong 75 = .ok (.ireturn, 1) := by decide +kernel
theorem dX0_firstWrong_76 : decode cX0_firstWrong 76 = .ok (.iinc 2 1, 3) := by decide +kernel
theorem dX0_firstWrong_79 : decode cX0_firstWrong 79 = .ok (.goto (-77), 3) := by decide +kernel
theorem dX0_firstWrong_82 : decode cX0_firstWrong 82 = .ok (.iconst (-1), 1) := by decide +kernel
theorem dX0_firstWrong_83 : decode cX0_firstWrong 83 = .ok (.ireturn, 1) := by decide +kernel
theorem dX1_init_0 : decode cX1_init 0 = .ok (.aload_n 0, 1) := by decide +kernel
theorem dX1_init_1 : decode cX1_init 1 = .ok (.invokespecial 3, 3) := by decide +kernel
theorem dX1_init_4 : decode cX1_init 4 = .ok (.aload_n 0, 1) := by decide +kernel
theorem dX1_init_5 : decode cX1_init 5 = .ok (.bipush 32, 2) := by decide +kernel
theorem dX1_init_7 : decode cX1_init 7 = .ok (.newarray .int, 2) := by decide +kernel
theorem dX1_init_9 : decode cX1_init 9 = .ok (.putfield 9, 3) := by decide +kernel
theorem dX1_init_12 : decode cX1_init 12 = .ok (.aload_n 0, 1) := by decide +kernel
theorem dX1_init_13 : decode cX1_init 13 = .ok (.bipush 32, 2) := by decide +kernel
theorem dX1_init_15 : decode cX1_init 15 = .ok (.newarray .int, 2) := by decide +kernel
theorem dX1_init_17 : decode cX1_init 17 = .ok (.putfield 15, 3) := by decide +kernel
theorem dX1_init_20 : decode cX1_init 20 = .ok (.aload_n 0, 1) := by decide +kernel
theorem dX1_init_21 : decode cX1_init 21 = .ok (.aload_n 1, 1) := by decide +kernel
theorem dX1_init_22 : decode cX1_init 22 = .ok (.putfield 18, 3) := by decide +kernel
theorem dX1_init_25 : decode cX1_init 25 = .ok (.return_, 1) := by decide +kernel
theorem dX1_fewestFor_0 : decode cX1_fewestFor 0 = .ok (.aload_n 0, 1) := by decide +kernel
theorem dX1_fewestFor_1 : decode cX1_fewestFor 1 = .ok (.invokevirtual 22, 3) := by decide +kernel
theorem dX1_fewestFor_4 : decode cX1_fewestFor 4 = .ok (.iconst 0, 1) := by decide +kernel
theorem dX1_fewestFor_5 : decode cX1_fewestFor 5 = .ok (.istore_n 3, 1) := by decide +kernel
theorem dX1_fewestFor_6 : decode cX1_fewestFor 6 = .ok (.iload_n 3, 1) := by decide +kernel
theorem dX1_fewestFor_7 : decode cX1_fewestFor 7 = .ok (.aload_n 0, 1) := by decide +kernel
theorem dX1_fewestFor_8 : decode cX1_fewestFor 8 = .ok (.getfield 25, 3) := by decide +kernel
theorem dX1_fewestFor_11 : decode cX1_fewestFor 11 = .ok (.if_icmp .ge 66, 3) := by decide +kernel
theorem dX1_fewestFor_14 : decode cX1_fewestFor 14 = .ok (.iload_n 3, 1) := by decide +kernel
theorem dX1_fewestFor_15 : decode cX1_fewestFor 15 = .ok (.bipush 32, 2) := by decide +kernel
theorem dX1_fewestFor_17 : decode cX1_fewestFor 17 = .ok (.if_icmp .ge 60, 3) := by decide +kernel
theorem dX1_fewestFor_20 : decode cX1_fewestFor 20 = .ok (.aload_n 0, 1) := by decide +kernel
theorem dX1_fewestFor_21 : decode cX1_fewestFor 21 = .ok (.getfield 15, 3) := by decide +kernel
theorem dX1_fewestFor_24 : decode cX1_fewestFor 24 = .ok (.iload_n 3, 1) := by decide +kernel
theorem dX1_fewestFor_25 : decode cX1_fewestFor 25 = .ok (.iaload, 1) := by decide +kernel
theorem dX1_fewestFor_26 : decode cX1_fewestFor 26 = .ok (.istore 4, 2) := by decide +kernel
theorem dX1_fewestFor_28 : decode cX1_fewestFor 28 = .ok (.aload_n 0, 1) := by decide +kernel
theorem dX1_fewestFor_29 : decode cX1_fewestFor 29 = .ok (.getfield 18, 3) := by decide +kernel
theorem dX1_fewestFor_32 : decode cX1_fewestFor 32 = .ok (.getfield 29, 3) := by decide +kernel
theorem dX1_fewestFor_35 : decode cX1_fewestFor 35 = .ok (.iload 4, 2) := by decide +kernel
theorem dX1_fewestFor_37 : decode cX1_fewestFor 37 = .ok (.iaload, 1) := by decide +kernel
theorem dX1_fewestFor_38 : decode cX1_fewestFor 38 = .ok (.iload_n 2, 1) := by decide +kernel
theorem dX1_fewestFor_39 : decode cX1_fewestFor 39 = .ok (.if_icmp .ne 25, 3) := by decide +kernel
theorem dX1_fewestFor_42 : decode cX1_fewestFor 42 = .ok (.aload_n 0, 1) := by decide +kernel
theorem dX1_fewestFor_43 : decode cX1_fewestFor 43 = .ok (.getfield 18, 3) := by decide +kernel
theorem dX1_fewestFor_46 : decode cX1_fewestFor 46 = .ok (.getfield 34, 3) := by decide +kernel
theorem dX1_fewestFor_49 : decode cX1_fewestFor 49 = .ok (.iload 4, 2) := by decide +kernel
theorem dX1_fewestFor_51 : decode cX1_fewestFor 51 = .ok (.iaload, 1) := by decide +kernel
theorem dX1_fewestFor_52 : decode cX1_fewestFor 52 = .ok (.iload_n 1, 1) := by decide +kernel
theorem dX1_fewestFor_53 : decode cX1_fewestFor 53 = .ok (.if_icmp .eq 11, 3) := by decide +kernel
theorem dX1_fewestFor_56 : decode cX1_fewestFor 56 = .ok (.aload_n 0, 1) := by decide +kernel
theorem dX1_fewestFor_57 : decode cX1_fewestFor 57 = .ok (.getfield 9, 3) := by decide +kernel
theorem dX1_fewestFor_60 : decode cX1_fewestFor 60 = .ok (.iload 4, 2) := by decide +kernel
theorem dX1_fewestFor_62 : decode cX1_fewestFor 62 = .ok (.iaload, 1) := by decide +kernel
theorem dX1_fewestFor_63 : decode cX1_fewestFor 63 = .ok (.ireturn, 1) := by decide +kernel
theorem dX1_fewestFor_64 : decode cX1_fewestFor 64 = .ok (.aload_n 0, 1) := by decide +kernel
theorem dX1_fewestFor_65 : decode cX1_fewestFor 65 = .ok (.iload 4, 2) := by decide +kernel
theorem dX1_fewestFor_67 : decode cX1_fewestFor 67 = .ok (.iload_n 1, 1) := by decide +kernel
theorem dX1_fewestFor_68 : decode cX1_fewestFor 68 = .ok (.invokevirtual 37, 3) := by decide +kernel
theorem dX1_fewestFor_71 : decode cX1_fewestFor 71 = .ok (.iinc 3 1, 3) := by decide +kernel
theorem dX1_fewestFor_74 : decode cX1_fewestFor 74 = .ok (.goto (-68), 3) := by decide +kernel
theorem dX1_fewestFor_77 : decode cX1_fewestFor 77 = .ok (.iconst (-1), 1) := by decide +kernel
theorem dX1_fewestFor_78 : decode cX1_fewestFor 78 = .ok (.ireturn, 1) := by decide +kernel
theorem dX1_queueLying_0 : decode cX1_queueLying 0 = .ok (.aload_n 0, 1) := by decide +kernel
theorem dX1_queueLying_1 : decode cX1_queueLying 1 = .ok (.iconst 0, 1) := by decide +kernel
theorem dX1_queueLying_2 : decode cX1_queueLying 2 = .ok (.putfield 25, 3) := by decide +kernel
theorem dX1_queueLying_5 : decode cX1_queueLying 5 = .ok (.iconst 0, 1) := by decide +kernel
theorem dX1_queueLying_6 : decode cX1_queueLying 6 = .ok (.istore_n 1, 1) := by decide +kernel
theorem dX1_queueLying_7 : decode cX1_queueLying 7 = .ok (.iload_n 1, 1) := by decide +kernel
theorem dX1_queueLying_8 : decode cX1_queueLying 8 = .ok (.aload_n 0, 1) := by decide +kernel
theorem dX1_queueLying_9 : decode cX1_queueLying 9 = .ok (.getfield 18, 3) := by decide +kernel
theorem dX1_queueLying_12 : decode cX1_queueLying 12 = .ok (.getfield 41, 3) := by decide +kernel
theorem dX1_queueLying_15 : decode cX1_queueLying 15 = .ok (.if_icmp .ge 33, 3) := by decide +kernel
theorem dX1_queueLying_18 : decode cX1_queueLying 18 = .ok (.aload_n 0, 1) := by decide +kernel
theorem dX1_queueLying_19 : decode cX1_queueLying 19 = .ok (.getfield 9, 3) := by decide +kernel
theorem dX1_queueLying_22 : decode cX1_queueLying 22 = .ok (.iload_n 1, 1) := by decide +kernel
theorem dX1_queueLying_23 : decode cX1_queueLying 23 = .ok (.iconst (-1), 1) := by decide +kernel
theorem dX1_queueLying_24 : decode cX1_queueLying 24 = .ok (.iastore, 1) := by decide +kernel
theorem dX1_queueLying_25 : decode cX1_queueLying 25 = .ok (.aload_n 0, 1) := by decide +kernel
theorem dX1_queueLying_26 : decode cX1_queueLying 26 = .ok (.getfield 18, 3) := by decide +kernel
theorem dX1_queueLying_29 : decode cX1_queueLying 29 = .ok (.iload_n 1, 1) := by decide +kernel
theorem dX1_queueLying_30 : decode cX1_queueLying 30 = .ok (.invokevirtual 44, 3) := by decide +kernel
theorem dX1_queueLying_33 : decode cX1_queueLying 33 = .ok (.ifCond .eq 9, 3) := by decide +kernel
theorem dX1_queueLying_36 : decode cX1_queueLying 36 = .ok (.aload_n 0, 1) := by decide +kernel
theorem dX1_queueLying_37 : decode cX1_queueLying 37 = .ok (.iload_n 1, 1) := by decide +kernel
theorem dX1_queueLying_38 : decode cX1_queueLying 38 = .ok (.iconst 0, 1) := by decide +kernel
theorem dX1_queueLying_39 : decode cX1_queueLying 39 = .ok (.invokevirtual 48, 3) := by decide +kernel
theorem dX1_queueLying_42 : decode cX1_queueLying 42 = .ok (.iinc 1 1, 3) := by decide +kernel
theorem dX1_queueLying_45 : decode cX1_queueLying 45 = .ok (.goto (-38), 3) := by decide +kernel
theorem dX1_queueLying_48 : decode cX1_queueLying 48 = .ok (.return_, 1) := by decide +kernel
theorem dX1_swapAgainst_0 : decode cX1_swapAgainst 0 = .ok (.aload_n 0, 1) := by decide +kernel
theorem dX1_swapAgainst_1 : decode cX1_swapAgainst 1 = .ok (.getfield 18, 3) := by decide +kernel
theorem dX1_swapAgainst_4 : decode cX1_swapAgainst 4 = .ok (.iload_n 1, 1) := by decide +kernel
theorem dX1_swapAgainst_5 : decode cX1_swapAgainst 5 = .ok (.invokevirtual 44, 3) := by decide +kernel
theorem dX1_swapAgainst_8 : decode cX1_swapAgainst 8 = .ok (.ifCond .eq 15, 3) := by decide +kernel
theorem dX1_swapAgainst_11 : decode cX1_swapAgainst 11 = .ok (.aload_n 0, 1) := by decide +kernel
theorem dX1_swapAgainst_12 : decode cX1_swapAgainst 12 = .ok (.getfield 18, 3) := by decide +kernel
theorem dX1_swapAgainst_15 : decode cX1_swapAgainst 15 = .ok (.getfield 34, 3) := by decide +kernel
theorem dX1_swapAgainst_18 : decode cX1_swapAgainst 18 = .ok (.iload_n 1, 1) := by decide +kernel
theorem dX1_swapAgainst_19 : decode cX1_swapAgainst 19 = .ok (.iaload, 1) := by decide +kernel
theorem dX1_swapAgainst_20 : decode cX1_swapAgainst 20 = .ok (.goto 12, 3) := by decide +kernel
theorem dX1_swapAgainst_23 : decode cX1_swapAgainst 23 = .ok (.aload_n 0, 1) := by decide +kernel
theorem dX1_swapAgainst_24 : decode cX1_swapAgainst 24 = .ok (.getfield 18, 3) := by decide +kernel
theorem dX1_swapAgainst_27 : decode cX1_swapAgainst 27 = .ok (.getfield 51, 3) := by decide +kernel
theorem dX1_swapAgainst_30 : decode cX1_swapAgainst 30 = .ok (.iload_n 1, 1) := by decide +kernel
theorem dX1_swapAgainst_31 : decode cX1_swapAgainst 31 = .ok (.iaload, 1) := by decide +kernel
theorem dX1_swapAgainst_32 : decode cX1_swapAgainst 32 = .ok (.istore_n 3, 1) := by decide +kernel
theorem dX1_swapAgainst_33 : decode cX1_swapAgainst 33 = .ok (.iconst 0, 1) := by decide +kernel
theorem dX1_swapAgainst_34 : decode cX1_swapAgainst 34 = .ok (.istore 4, 2) := by decide +kernel
theorem dX1_swapAgainst_36 : decode cX1_swapAgainst 36 = .ok (.iload 4, 2) := by decide +kernel
theorem dX1_swapAgainst_38 : decode cX1_swapAgainst 38 = .ok (.aload_n 0, 1) := by decide +kernel
theorem dX1_swapAgainst_39 : decode cX1_swapAgainst 39 = .ok (.getfield 18, 3) := by decide +kernel
theorem dX1_swapAgainst_42 : decode cX1_swapAgainst 42 = .ok (.getfield 41, 3) := by decide +kernel
theorem dX1_swapAgainst_45 : decode cX1_swapAgainst 45 = .ok (.if_icmp .ge 91, 3) := by decide +kernel
theorem dX1_swapAgainst_48 : decode cX1_swapAgainst 48 = .ok (.aload_n 0, 1) := by decide +kernel
theorem dX1_swapAgainst_49 : decode cX1_swapAgainst 49 = .ok (.getfield 18, 3) := by decide +kernel
theorem dX1_swapAgainst_52 : decode cX1_swapAgainst 52 = .ok (.getfield 51, 3) := by decide +kernel
theorem dX1_swapAgainst_55 : decode cX1_swapAgainst 55 = .ok (.iload 4, 2) := by decide +kernel
theorem dX1_swapAgainst_57 : decode cX1_swapAgainst 57 = .ok (.iaload, 1) := by decide +kernel
theorem dX1_swapAgainst_58 : decode cX1_swapAgainst 58 = .ok (.istore 5, 2) := by decide +kernel
theorem dX1_swapAgainst_60 : decode cX1_swapAgainst 60 = .ok (.iload 5, 2) := by decide +kernel
theorem dX1_swapAgainst_62 : decode cX1_swapAgainst 62 = .ok (.iconst (-1), 1) := by decide +kernel
theorem dX1_swapAgainst_63 : decode cX1_swapAgainst 63 = .ok (.if_icmp .eq 30, 3) := by decide +kernel
theorem dX1_swapAgainst_66 : decode cX1_swapAgainst 66 = .ok (.iload 5, 2) := by decide +kernel
theorem dX1_swapAgainst_68 : decode cX1_swapAgainst 68 = .ok (.iload_n 2, 1) := by decide +kernel
theorem dX1_swapAgainst_69 : decode cX1_swapAgainst 69 = .ok (.if_icmp .eq 24, 3) := by decide +kernel
theorem dX1_swapAgainst_72 : decode cX1_swapAgainst 72 = .ok (.iload 5, 2) := by decide +kernel
theorem dX1_swapAgainst_74 : decode cX1_swapAgainst 74 = .ok (.iload_n 3, 1) := by decide +kernel
theorem dX1_swapAgainst_75 : decode cX1_swapAgainst 75 = .ok (.if_icmp .eq 18, 3) := by decide +kernel
theorem dX1_swapAgainst_78 : decode cX1_swapAgainst 78 = .ok (.aload_n 0, 1) := by decide +kernel
theorem dX1_swapAgainst_79 : decode cX1_swapAgainst 79 = .ok (.getfield 9, 3) := by decide +kernel
theorem dX1_swapAgainst_82 : decode cX1_swapAgainst 82 = .ok (.iload 4, 2) := by decide +kernel
theorem dX1_swapAgainst_84 : decode cX1_swapAgainst 84 = .ok (.iaload, 1) := by decide +kernel
theorem dX1_swapAgainst_85 : decode cX1_swapAgainst 85 = .ok (.iconst (-1), 1) := by decide +kernel
theorem dX1_swapAgainst_86 : decode cX1_swapAgainst 86 = .ok (.if_icmp .ne 7, 3) := by decide +kernel
theorem dX1_swapAgainst_89 : decode cX1_swapAgainst 89 = .ok (.iconst 1, 1) := by decide +kernel
theorem dX1_swapAgainst_90 : decode cX1_swapAgainst 90 = .ok (.goto 4, 3) := by decide +kernel
theorem dX1_swapAgainst_93 : decode cX1_swapAgainst 93 = .ok (.iconst 0, 1) := by decide +kernel
theorem dX1_swapAgainst_94 : decode cX1_swapAgainst 94 = .ok (.istore 6, 2) := by decide +kernel
theorem dX1_swapAgainst_96 : decode cX1_swapAgainst 96 = .ok (.iload 6, 2) := by decide +kernel
theorem dX1_swapAgainst_98 : decode cX1_swapAgainst 98 = .ok (.ifCond .eq 32, 3) := by decide +kernel
theorem dX1_swapAgainst_101 : decode cX1_swapAgainst 101 = .ok (.aload_n 0, 1) := by decide +kernel
theorem dX1_swapAgainst_102 : decode cX1_swapAgainst 102 = .ok (.getfield 18, 3) := by decide +kernel
theorem dX1_swapAgainst_105 : decode cX1_swapAgainst 105 = .ok (.iload 5, 2) := by decide +kernel
theorem dX1_swapAgainst_107 : decode cX1_swapAgainst 107 = .ok (.iload 4, 2) := by decide +kernel
theorem dX1_swapAgainst_109 : decode cX1_swapAgainst 109 = .ok (.iload_n 1, 1) := by decide +kernel
theorem dX1_swapAgainst_110 : decode cX1_swapAgainst 110 = .ok (.invokevirtual 54, 3) := by decide +kernel
theorem dX1_swapAgainst_113 : decode cX1_swapAgainst 113 = .ok (.ifCond .le 17, 3) := by decide +kernel
theorem dX1_swapAgainst_116 : decode cX1_swapAgainst 116 = .ok (.aload_n 0, 1) := by decide +kernel
theorem dX1_swapAgainst_117 : decode cX1_swapAgainst 117 = .ok (.iload 4, 2) := by decide +kernel
theorem dX1_swapAgainst_119 : decode cX1_swapAgainst 119 = .ok (.aload_n 0, 1) := by decide +kernel
theorem dX1_swapAgainst_120 : decode cX1_swapAgainst 120 = .ok (.getfield 9, 3) := by decide +kernel
theorem dX1_swapAgainst_123 : decode cX1_swapAgainst 123 = .ok (.iload_n 1, 1) := by decide +kernel
theorem dX1_swapAgainst_124 : decode cX1_swapAgainst 124 = .ok (.iaload, 1) := by decide +kernel
theorem dX1_swapAgainst_125 : decode cX1_swapAgainst 125 = .ok (.iconst 1, 1) := by decide +kernel
theorem dX1_swapAgainst_126 : decode cX1_swapAgainst 126 = .ok (.iadd, 1) := by decide +kernel
theorem dX1_swapAgainst_127 : decode cX1_swapAgainst 127 = .ok (.invokevirtual 48, 3) := by decide +kernel
theorem dX1_swapAgainst_130 : decode cX1_swapAgainst 130 = .ok (.iinc 4 1, 3) := by decide +kernel
theorem dX1_swapAgainst_133 : decode cX1_swapAgainst 133 = .ok (.goto (-97), 3) := by decide +kernel
theorem dX1_swapAgainst_136 : decode cX1_swapAgainst 136 = .ok (.return_, 1) := by decide +kernel
theorem dX1_enqueue_0 : decode cX1_enqueue 0 = .ok (.aload_n 0, 1) := by decide +kernel
theorem dX1_enqueue_1 : decode cX1_enqueue 1 = .ok (.getfield 25, 3) := by decide +kernel
theorem dX1_enqueue_4 : decode cX1_enqueue 4 = .ok (.bipush 32, 2) := by decide +kernel
theorem dX1_enqueue_6 : decode cX1_enqueue 6 = .ok (.if_icmp .ge 30, 3) := by decide +kernel
theorem dX1_enqueue_9 : decode cX1_enqueue 9 = .ok (.aload_n 0, 1) := by decide +kernel
theorem dX1_enqueue_10 : decode cX1_enqueue 10 = .ok (.getfield 9, 3) := by decide +kernel
theorem dX1_enqueue_13 : decode cX1_enqueue 13 = .ok (.iload_n 1, 1) := by decide +kernel
theorem dX1_enqueue_14 : decode cX1_enqueue 14 = .ok (.iload_n 2, 1) := by decide +kernel
theorem dX1_enqueue_15 : decode cX1_enqueue 15 = .ok (.iastore, 1) := by decide +kernel
theorem dX1_enqueue_16 : decode cX1_enqueue 16 = .ok (.aload_n 0, 1) := by decide +kernel
theorem dX1_enqueue_17 : decode cX1_enqueue 17 = .ok (.getfield 15, 3) := by decide +kernel
theorem dX1_enqueue_20 : decode cX1_enqueue 20 = .ok (.aload_n 0, 1) := by decide +kernel
theorem dX1_enqueue_21 : decode cX1_enqueue 21 = .ok (.getfield 25, 3) := by decide +kernel
theorem dX1_enqueue_24 : decode cX1_enqueue 24 = .ok (.iload_n 1, 1) := by decide +kernel
theorem dX1_enqueue_25 : decode cX1_enqueue 25 = .ok (.iastore, 1) := by decide +kernel
theorem dX1_enqueue_26 : decode cX1_enqueue 26 = .ok (.aload_n 0, 1) := by decide +kernel
theorem dX1_enqueue_27 : decode cX1_enqueue 27 = .ok (.dup, 1) := by decide +kernel
theorem dX1_enqueue_28 : decode cX1_enqueue 28 = .ok (.getfield 25, 3) := by decide +kernel
theorem dX1_enqueue_31 : decode cX1_enqueue 31 = .ok (.iconst 1, 1) := by decide +kernel
theorem dX1_enqueue_32 : decode cX1_enqueue 32 = .ok (.iadd, 1) := by decide +kernel
theorem dX1_enqueue_33 : decode cX1_enqueue 33 = .ok (.putfield 25, 3) := by decide +kernel
theorem dX1_enqueue_36 : decode cX1_enqueue 36 = .ok (.return_, 1) := by decide +kernel
theorem dX2_init_0 : decode cX2_init 0 = .ok (.aload_n 0, 1) := by decide +kernel
theorem dX2_init_1 : decode cX2_init 1 = .ok (.invokespecial 3, 3) := by decide +kernel
theorem dX2_init_4 : decode cX2_init 4 = .ok (.aload_n 0, 1) := by decide +kernel
theorem dX2_init_5 : decode cX2_init 5 = .ok (.aload_n 1, 1) := by decide +kernel
theorem dX2_init_6 : decode cX2_init 6 = .ok (.putfield 9, 3) := by decide +kernel
theorem dX2_init_9 : decode cX2_init 9 = .ok (.aload_n 0, 1) := by decide +kernel
theorem dX2_init_10 : decode cX2_init 10 = .ok (.aload_n 2, 1) := by decide +kernel
theorem dX2_init_11 : decode cX2_init 11 = .ok (.putfield 15, 3) := by decide +kernel
theorem dX2_init_14 : decode cX2_init 14 = .ok (.return_, 1) := by decide +kernel
theorem dX2_readText_0 : decode cX2_readText 0 = .ok (.aload_n 0, 1) := by decide +kernel
theorem dX2_readText_1 : decode cX2_readText 1 = .ok (.iload_n 1, 1) := by decide +kernel
theorem dX2_readText_2 : decode cX2_readText 2 = .ok (.aload_n 0, 1) := by decide +kernel
theorem dX2_readText_3 : decode cX2_readText 3 = .ok (.getfield 9, 3) := by decide +kernel
theorem dX2_readText_6 : decode cX2_readText 6 = .ok (.arraylength, 1) := by decide +kernel
theorem dX2_readText_7 : decode cX2_readText 7 = .ok (.invokestatic 19, 3) := by decide +kernel
theorem dX2_readText_10 : decode cX2_readText 10 = .ok (.putfield 25, 3) := by decide +kernel
theorem dX2_readText_13 : decode cX2_readText 13 = .ok (.aload_n 0, 1) := by decide +kernel
theorem dX2_readText_14 : decode cX2_readText 14 = .ok (.iconst 0, 1) := by decide +kernel
theorem dX2_readText_15 : decode cX2_readText 15 = .ok (.putfield 29, 3) := by decide +kernel
theorem dX2_readText_18 : decode cX2_readText 18 = .ok (.aload_n 0, 1) := by decide +kernel
theorem dX2_readText_19 : decode cX2_readText 19 = .ok (.iconst 0, 1) := by decide +kernel
theorem dX2_readText_20 : decode cX2_readText 20 = .ok (.putfield 32, 3) := by decide +kernel
theorem dX2_readText_23 : decode cX2_readText 23 = .ok (.aload_n 0, 1) := by decide +kernel
theorem dX2_readText_24 : decode cX2_readText 24 = .ok (.iconst 0, 1) := by decide +kernel
theorem dX2_readText_25 : decode cX2_readText 25 = .ok (.putfield 35, 3) := by decide +kernel
theorem dX2_readText_28 : decode cX2_readText 28 = .ok (.aload_n 0, 1) := by decide +kernel
theorem dX2_readText_29 : decode cX2_readText 29 = .ok (.iconst 0, 1) := by decide +kernel
theorem dX2_readText_30 : decode cX2_readText 30 = .ok (.putfield 38, 3) := by decide +kernel
theorem dX2_readText_33 : decode cX2_readText 33 = .ok (.aload_n 0, 1) := by decide +kernel
theorem dX2_readText_34 : decode cX2_readText 34 = .ok (.iconst (-1), 1) := by decide +kernel
theorem dX2_readText_35 : decode cX2_readText 35 = .ok (.putfield 41, 3) := by decide +kernel
theorem dX2_readText_38 : decode cX2_readText 38 = .ok (.aload_n 0, 1) := by decide +kernel
theorem dX2_readText_39 : decode cX2_readText 39 = .ok (.getfield 15, 3) := by decide +kernel
theorem dX2_readText_42 : decode cX2_readText 42 = .ok (.invokevirtual 44, 3) := by decide +kernel
theorem dX2_readText_45 : decode cX2_readText 45 = .ok (.aload_n 0, 1) := by decide +kernel
theorem dX2_readText_46 : decode cX2_readText 46 = .ok (.invokevirtual 49, 3) := by decide +kernel
theorem dX2_readText_49 : decode cX2_readText 49 = .ok (.iconst 0, 1) := by decide +kernel
theorem dX2_readText_50 : decode cX2_readText 50 = .ok (.istore_n 2, 1) := by decide +kernel
theorem dX2_readText_51 : decode cX2_readText 51 = .ok (.iload_n 2, 1) := by decide +kernel
theorem dX2_readText_52 : decode cX2_readText 52 = .ok (.sipush 400, 3) := by decide +kernel
theorem dX2_readText_55 : decode cX2_readText 55 = .ok (.if_icmp .ge 35, 3) := by decide +kernel
theorem dX2_readText_58 : decode cX2_readText 58 = .ok (.aload_n 0, 1) := by decide +kernel
theorem dX2_readText_59 : decode cX2_readText 59 = .ok (.getfield 29, 3) := by decide +kernel
theorem dX2_readText_62 : decode cX2_readText 62 = .ok (.aload_n 0, 1) := by decide +kernel
theorem dX2_readText_63 : decode cX2_readText 63 = .ok (.getfield 25, 3) := by decide +kernel
theorem dX2_readText_66 : decode cX2_readText 66 = .ok (.if_icmp .ge 24, 3) := by decide +kernel
theorem dX2_readText_69 : decode cX2_readText 69 = .ok (.aload_n 0, 1) := by decide +kernel
theorem dX2_readText_70 : decode cX2_readText 70 = .ok (.getfield 38, 3) := by decide +kernel
theorem dX2_readText_73 : decode cX2_readText 73 = .ok (.ifCond .ne 17, 3) := by decide +kernel
theorem dX2_readText_76 : decode cX2_readText 76 = .ok (.aload_n 0, 1) := by decide +kernel
theorem dX2_readText_77 : decode cX2_readText 77 = .ok (.invokevirtual 52, 3) := by decide +kernel
theorem dX2_readText_80 : decode cX2_readText 80 = .ok (.aload_n 0, 1) := by decide +kernel
theorem dX2_readText_81 : decode cX2_readText 81 = .ok (.invokevirtual 49, 3) := by decide +kernel
theorem dX2_readText_84 : decode cX2_readText 84 = .ok (.iinc 2 1, 3) := by decide +kernel
theorem dX2_readText_87 : decode cX2_readText 87 = .ok (.goto (-36), 3) := by decide +kernel
theorem dX2_readText_90 : decode cX2_readText 90 = .ok (.aload_n 0, 1) := by decide +kernel
theorem dX2_readText_91 : decode cX2_readText 91 = .ok (.getfield 38, 3) := by decide +kernel
theorem dX2_readText_94 : decode cX2_readText 94 = .ok (.ifCond .ne 7, 3) := by decide +kernel
theorem dX2_readText_97 : decode cX2_readText 97 = .ok (.iconst 1, 1) := by decide +kernel
theorem dX2_readText_98 : decode cX2_readText 98 = .ok (.goto 4, 3) := by decide +kernel
theorem dX2_readText_101 : decode cX2_readText 101 = .ok (.iconst 0, 1) := by decide +kernel
theorem dX2_readText_102 : decode cX2_readText 102 = .ok (.ireturn, 1) := by decide +kernel
theorem dX2_readClause_0 : decode cX2_readClause 0 = .ok (.aload_n 0, 1) := by decide +kernel
theorem dX2_readClause_1 : decode cX2_readClause 1 = .ok (.getfield 29, 3) := by decide +kernel
theorem dX2_readClause_4 : decode cX2_readClause 4 = .ok (.istore_n 1, 1) := by decide +kernel
theorem dX2_readClause_5 : decode cX2_readClause 5 = .ok (.aload_n 0, 1) := by decide +kernel
theorem dX2_readClause_6 : decode cX2_readClause 6 = .ok (.getfield 29, 3) := by decide +kernel
theorem dX2_readClause_9 : decode cX2_readClause 9 = .ok (.aload_n 0, 1) := by decide +kernel
theorem dX2_readClause_10 : decode cX2_readClause 10 = .ok (.getfield 25, 3) := by decide +kernel
theorem dX2_readClause_13 : decode cX2_readClause 13 = .ok (.if_icmp .ge 44, 3) := by decide +kernel
theorem dX2_readClause_16 : decode cX2_readClause 16 = .ok (.aload_n 0, 1) := by decide +kernel
theorem dX2_readClause_17 : decode cX2_readClause 17 = .ok (.getfield 9, 3) := by decide +kernel
theorem dX2_readClause_20 : decode cX2_readClause 20 = .ok (.aload_n 0, 1) := by decide +kernel
theorem dX2_readClause_21 : decode cX2_readClause 21 = .ok (.getfield 29, 3) := by decide +kernel
theorem dX2_readClause_24 : decode cX2_readClause 24 = .ok (.caload, 1) := by decide +kernel
theorem dX2_readClause_25 : decode cX2_readClause 25 = .ok (.bipush 97, 2) := by decide +kernel
theorem dX2_readClause_27 : decode cX2_readClause 27 = .ok (.if_icmp .lt 30, 3) := by decide +kernel
theorem dX2_readClause_30 : decode cX2_readClause 30 = .ok (.aload_n 0, 1) := by decide +kernel
theorem dX2_readClause_31 : decode cX2_readClause 31 = .ok (.getfield 9, 3) := by decide +kernel
theorem dX2_readClause_34 : decode cX2_readClause 34 = .ok (.aload_n 0, 1) := by decide +kernel
theorem dX2_readClause_35 : decode cX2_readClause 35 = .ok (.getfield 29, 3) := by decide +kernel
theorem dX2_readClause_38 : decode cX2_readClause 38 = .ok (.caload, 1) := by decide +kernel
theorem dX2_readClause_39 : decode cX2_readClause 39 = .ok (.bipush 122, 2) := by decide +kernel
theorem dX2_readClause_41 : decode cX2_readClause 41 = .ok (.if_icmp .gt 16, 3) := by decide +kernel
theorem dX2_readClause_44 : decode cX2_readClause 44 = .ok (.aload_n 0, 1) := by decide +kernel
theorem dX2_readClause_45 : decode cX2_readClause 45 = .ok (.dup, 1) := by decide +kernel
theorem dX2_readClause_46 : decode cX2_readClause 46 = .ok (.getfield 29, 3) := by decide +kernel
theorem dX2_readClause_49 : decode cX2_readClause 49 = .ok (.iconst 1, 1) := by decide +kernel
theorem dX2_readClause_50 : decode cX2_readClause 50 = .ok (.iadd, 1) := by decide +kernel
theorem dX2_readClause_51 : decode cX2_readClause 51 = .ok (.putfield 29, 3) := by decide +kernel
theorem dX2_readClause_54 : decode cX2_readClause 54 = .ok (.goto (-49), 3) := by decide +kernel
theorem dX2_readClause_57 : decode cX2_readClause 57 = .ok (.aload_n 0, 1) := by decide +kernel
theorem dX2_readClause_58 : decode cX2_readClause 58 = .ok (.ldc 55, 2) := by decide +kernel
theorem dX2_readClause_60 : decode cX2_readClause 60 = .ok (.iload_n 1, 1) := by decide +kernel
theorem dX2_readClause_61 : decode cX2_readClause 61 = .ok (.invokevirtual 57, 3) := by decide +kernel
theorem dX2_readClause_64 : decode cX2_readClause 64 = .ok (.ifCond .eq 11, 3) := by decide +kernel
theorem dX2_readClause_67 : decode cX2_readClause 67 = .ok (.aload_n 0, 1) := by decide +kernel
theorem dX2_readClause_68 : decode cX2_readClause 68 = .ok (.iload_n 1, 1) := by decide +kernel
theorem dX2_readClause_69 : decode cX2_readClause 69 = .ok (.invokevirtual 61, 3) := by decide +kernel
theorem dX2_readClause_72 : decode cX2_readClause 72 = .ok (.goto 65, 3) := by decide +kernel
theorem dX2_readClause_75 : decode cX2_readClause 75 = .ok (.aload_n 0, 1) := by decide +kernel
theorem dX2_readClause_76 : decode cX2_readClause 76 = .ok (.getfield 15, 3) := by decide +kernel
theorem dX2_readClause_79 : decode cX2_readClause 79 = .ok (.getfield 65, 3) := by decide +kernel
theorem dX2_readClause_82 : decode cX2_readClause 82 = .ok (.ifCond .le 21, 3) := by decide +kernel
theorem dX2_readClause_85 : decode cX2_readClause 85 = .ok (.aload_n 0, 1) := by decide +kernel
theorem dX2_readClause_86 : decode cX2_readClause 86 = .ok (.ldc 67, 2) := by decide +kernel
theorem dX2_readClause_88 : decode cX2_readClause 88 = .ok (.iload_n 1, 1) := by decide +kernel
theorem dX2_readClause_89 : decode cX2_readClause 89 = .ok (.invokevirtual 57, 3) := by decide +kernel
theorem dX2_readClause_92 : decode cX2_readClause 92 = .ok (.ifCond .eq 11, 3) := by decide +kernel
theorem dX2_readClause_95 : decode cX2_readClause 95 = .ok (.aload_n 0, 1) := by decide +kernel
theorem dX2_readClause_96 : decode cX2_readClause 96 = .ok (.iload_n 1, 1) := by decide +kernel
theorem dX2_readClause_97 : decode cX2_readClause 97 = .ok (.invokevirtual 69, 3) := by decide +kernel
theorem dX2_readClause_100 : decode cX2_readClause 100 = .ok (.goto 37, 3) := by decide +kernel
theorem dX2_readClause_103 : decode cX2_readClause 103 = .ok (.aload_n 0, 1) := by decide +kernel
theorem dX2_readClause_104 : decode cX2_readClause 104 = .ok (.getfield 15, 3) := by decide +kernel
theorem dX2_readClause_107 : decode cX2_readClause 107 = .ok (.getfield 65, 3) := by decide +kernel
theorem dX2_readClause_110 : decode cX2_readClause 110 = .ok (.ifCond .le 21, 3) := by decide +kernel
theorem dX2_readClause_113 : decode cX2_readClause 113 = .ok (.aload_n 0, 1) := by decide +kernel
theorem dX2_readClause_114 : decode cX2_readClause 114 = .ok (.ldc 72, 2) := by decide +kernel
theorem dX2_readClause_116 : decode cX2_readClause 116 = .ok (.iload_n 1, 1) := by decide +kernel
theorem dX2_readClause_117 : decode cX2_readClause 117 = .ok (.invokevirtual 57, 3) := by decide +kernel
theorem dX2_readClause_120 : decode cX2_readClause 120 = .ok (.ifCond .eq 11, 3) := by decide +kernel
theorem dX2_readClause_123 : decode cX2_readClause 123 = .ok (.aload_n 0, 1) := by decide +kernel
theorem dX2_readClause_124 : decode cX2_readClause 124 = .ok (.iload_n 1, 1) := by decide +kernel
theorem dX2_readClause_125 : decode cX2_readClause 125 = .ok (.invokevirtual 74, 3) := by decide +kernel
theorem dX2_readClause_128 : decode cX2_readClause 128 = .ok (.goto 9, 3) := by decide +kernel
theorem dX2_readClause_131 : decode cX2_readClause 131 = .ok (.aload_n 0, 1) := by decide +kernel
theorem dX2_readClause_132 : decode cX2_readClause 132 = .ok (.iconst 1, 1) := by decide +kernel
theorem dX2_readClause_133 : decode cX2_readClause 133 = .ok (.iload_n 1, 1) := by decide +kernel
theorem dX2_readClause_134 : decode cX2_readClause 134 = .ok (.invokevirtual 77, 3) := by decide +kernel
theorem dX2_readClause_137 : decode cX2_readClause 137 = .ok (.return_, 1) := by decide +kernel
theorem dX2_readSorts_0 : decode cX2_readSorts 0 = .ok (.aload_n 0, 1) := by decide +kernel
theorem dX2_readSorts_1 : decode cX2_readSorts 1 = .ok (.getfield 15, 3) := by decide +kernel
theorem dX2_readSorts_4 : decode cX2_readSorts 4 = .ok (.getfield 65, 3) := by decide +kernel
theorem dX2_readSorts_7 : decode cX2_readSorts 7 = .ok (.ifCond .le 10, 3) := by decide +kernel
theorem dX2_readSorts_10 : decode cX2_readSorts 10 = .ok (.aload_n 0, 1) := by decide +kernel
theorem dX2_readSorts_11 : decode cX2_readSorts 11 = .ok (.iconst 3, 1) := by decide +kernel
theorem dX2_readSorts_12 : decode cX2_readSorts 12 = .ok (.iload_n 1, 1) := by decide +kernel
theorem dX2_readSorts_13 : decode cX2_readSorts 13 = .ok (.invokevirtual 77, 3) := by decide +kernel
theorem dX2_readSorts_16 : decode cX2_readSorts 16 = .ok (.return_, 1) := by decide +kernel
theorem dX2_readSorts_17 : decode cX2_readSorts 17 = .ok (.aload_n 0, 1) := by decide +kernel
theorem dX2_readSorts_18 : decode cX2_readSorts 18 = .ok (.iconst 1, 1) := by decide +kernel
theorem dX2_readSorts_19 : decode cX2_readSorts 19 = .ok (.bipush 6, 2) := by decide +kernel
theorem dX2_readSorts_21 : decode cX2_readSorts 21 = .ok (.invokevirtual 81, 3) := by decide +kernel
theorem dX2_readSorts_24 : decode cX2_readSorts 24 = .ok (.istore_n 2, 1) := by decide +kernel
theorem dX2_readSorts_25 : decode cX2_readSorts 25 = .ok (.aload_n 0, 1) := by decide +kernel
theorem dX2_readSorts_26 : decode cX2_readSorts 26 = .ok (.invokevirtual 84, 3) := by decide +kernel
theorem dX2_readSorts_29 : decode cX2_readSorts 29 = .ok (.ifCond .eq 11, 3) := by decide +kernel
theorem dX2_readSorts_32 : decode cX2_readSorts 32 = .ok (.aload_n 0, 1) := by decide +kernel
theorem dX2_readSorts_33 : decode cX2_readSorts 33 = .ok (.getfield 15, 3) := by decide +kernel
theorem dX2_readSorts_36 : decode cX2_readSorts 36 = .ok (.iload_n 2, 1) := by decide +kernel
theorem dX2_readSorts_37 : decode cX2_readSorts 37 = .ok (.putfield 65, 3) := by decide +kernel
theorem dX2_readSorts_40 : decode cX2_readSorts 40 = .ok (.return_, 1) := by decide +kernel
theorem dX2_readHouse_0 : decode cX2_readHouse 0 = .ok (.aload_n 0, 1) := by decide +kernel
theorem dX2_readHouse_1 : decode cX2_readHouse 1 = .ok (.getfield 15, 3) := by decide +kernel
theorem dX2_readHouse_4 : decode cX2_readHouse 4 = .ok (.getfield 88, 3) := by decide +kernel
theorem dX2_readHouse_7 : decode cX2_readHouse 7 = .ok (.iconst 5, 1) := by decide +kernel
theorem dX2_readHouse_8 : decode cX2_readHouse 8 = .ok (.if_icmp .lt 10, 3) := by decide +kernel
theorem dX2_readHouse_11 : decode cX2_readHouse 11 = .ok (.aload_n 0, 1) := by decide +kernel
theorem dX2_readHouse_12 : decode cX2_readHouse 12 = .ok (.iconst 3, 1) := by decide +kernel
theorem dX2_readHouse_13 : decode cX2_readHouse 13 = .ok (.iload_n 1, 1) := by decide +kernel
theorem dX2_readHouse_14 : decode cX2_readHouse 14 = .ok (.invokevirtual 77, 3) := by decide +kernel
theorem dX2_readHouse_17 : decode cX2_readHouse 17 = .ok (.return_, 1) := by decide +kernel
theorem dX2_readHouse_18 : decode cX2_readHouse 18 = .ok (.aload_n 0, 1) := by decide +kernel
theorem dX2_readHouse_19 : decode cX2_readHouse 19 = .ok (.iconst 0, 1) := by decide +kernel
theorem dX2_readHouse_20 : decode cX2_readHouse 20 = .ok (.bipush 99, 2) := by decide +kernel
theorem dX2_readHouse_22 : decode cX2_readHouse 22 = .ok (.invokevirtual 81, 3) := by decide +kernel
theorem dX2_readHouse_25 : decode cX2_readHouse 25 = .ok (.istore_n 2, 1) := by decide +kernel
theorem dX2_readHouse_26 : decode cX2_readHouse 26 = .ok (.iconst 0, 1) := by decide +kernel
theorem dX2_readHouse_27 : decode cX2_readHouse 27 = .ok (.istore_n 3, 1) := by decide +kernel
theorem dX2_readHouse_28 : decode cX2_readHouse 28 = .ok (.iload_n 3, 1) := by decide +kernel
theorem dX2_readHouse_29 : decode cX2_readHouse 29 = .ok (.iconst 4, 1) := by decide +kernel
theorem dX2_readHouse_30 : decode cX2_readHouse 30 = .ok (.if_icmp .gt 128, 3) := by decide +kernel
theorem dX2_readHouse_33 : decode cX2_readHouse 33 = .ok (.aload_n 0, 1) := by decide +kernel
theorem dX2_readHouse_34 : decode cX2_readHouse 34 = .ok (.getfield 38, 3) := by decide +kernel
theorem dX2_readHouse_37 : decode cX2_readHouse 37 = .ok (.ifCond .ne 121, 3) := by decide +kernel
theorem dX2_readHouse_40 : decode cX2_readHouse 40 = .ok (.aload_n 0, 1) := by decide +kernel
theorem dX2_readHouse_41 : decode cX2_readHouse 41 = .ok (.invokevirtual 91, 3) := by decide +kernel
theorem dX2_readHouse_44 : decode cX2_readHouse 44 = .ok (.ifCond .eq 114, 3) := by decide +kernel
theorem dX2_readHouse_47 : decode cX2_readHouse 47 = .ok (.aload_n 0, 1) := by decide +kernel
theorem dX2_readHouse_48 : decode cX2_readHouse 48 = .ok (.getfield 29, 3) := by decide +kernel
theorem dX2_readHouse_51 : decode cX2_readHouse 51 = .ok (.istore 4, 2) := by decide +kernel
theorem dX2_readHouse_53 : decode cX2_readHouse 53 = .ok (.aload_n 0, 1) := by decide +kernel
theorem dX2_readHouse_54 : decode cX2_readHouse 54 = .ok (.iconst 0, 1) := by decide +kernel
theorem dX2_readHouse_55 : decode cX2_readHouse 55 = .ok (.aload_n 0, 1) := by decide +kernel
theorem dX2_readHouse_56 : decode cX2_readHouse 56 = .ok (.getfield 15, 3) := by decide +kernel
theorem dX2_readHouse_59 : decode cX2_readHouse 59 = .ok (.getfield 65, 3) := by decide +kernel
theorem dX2_readHouse_62 : decode cX2_readHouse 62 = .ok (.iconst 1, 1) := by decide +kernel
theorem dX2_readHouse_63 : decode cX2_readHouse 63 = .ok (.isub, 1) := by decide +kernel
theorem dX2_readHouse_64 : decode cX2_readHouse 64 = .ok (.invokevirtual 81, 3) := by decide +kernel
theorem dX2_readHouse_67 : decode cX2_readHouse 67 = .ok (.istore 5, 2) := by decide +kernel
theorem dX2_readHouse_69 : decode cX2_readHouse 69 = .ok (.iload_n 3, 1) := by decide +kernel
theorem dX2_readHouse_70 : decode cX2_readHouse 70 = .ok (.iconst 4, 1) := by decide +kernel
theorem dX2_readHouse_71 : decode cX2_readHouse 71 = .ok (.if_icmp .ne 10, 3) := by decide +kernel
theorem dX2_readHouse_74 : decode cX2_readHouse 74 = .ok (.aload_n 0, 1) := by decide +kernel
theorem dX2_readHouse_75 : decode cX2_readHouse 75 = .ok (.iconst 4, 1) := by decide +kernel
theorem dX2_readHouse_76 : decode cX2_readHouse 76 = .ok (.iload 4, 2) := by decide +kernel
theorem dX2_readHouse_78 : decode cX2_readHouse 78 = .ok (.invokevirtual 77, 3) := by decide +kernel
theorem dX2_readHouse_81 : decode cX2_readHouse 81 = .ok (.aload_n 0, 1) := by decide +kernel
theorem dX2_readHouse_82 : decode cX2_readHouse 82 = .ok (.getfield 38, 3) := by decide +kernel
theorem dX2_readHouse_85 : decode cX2_readHouse 85 = .ok (.ifCond .ne 67, 3) := by decide +kernel
theorem dX2_readHouse_88 : decode cX2_readHouse 88 = .ok (.aload_n 0, 1) := by decide +kernel
theorem dX2_readHouse_89 : decode cX2_readHouse 89 = .ok (.getfield 15, 3) := by decide +kernel
theorem dX2_readHouse_92 : decode cX2_readHouse 92 = .ok (.getfield 94, 3) := by decide +kernel
theorem dX2_readHouse_95 : decode cX2_readHouse 95 = .ok (.bipush 20, 2) := by decide +kernel
theorem dX2_readHouse_97 : decode cX2_readHouse 97 = .ok (.if_icmp .ge 55, 3) := by decide +kernel
theorem dX2_readHouse_100 : decode cX2_readHouse 100 = .ok (.aload_n 0, 1) := by decide +kernel
theorem dX2_readHouse_101 : decode cX2_readHouse 101 = .ok (.getfield 15, 3) := by decide +kernel
theorem dX2_readHouse_104 : decode cX2_readHouse 104 = .ok (.getfield 97, 3) := by decide +kernel
theorem dX2_readHouse_107 : decode cX2_readHouse 107 = .ok (.aload_n 0, 1) := by decide +kernel
theorem dX2_readHouse_108 : decode cX2_readHouse 108 = .ok (.getfield 15, 3) := by decide +kernel
theorem dX2_readHouse_111 : decode cX2_readHouse 111 = .ok (.getfield 94, 3) := by decide +kernel
theorem dX2_readHouse_114 : decode cX2_readHouse 114 = .ok (.iload 5, 2) := by decide +kernel
theorem dX2_readHouse_116 : decode cX2_readHouse 116 = .ok (.iastore, 1) := by decide +kernel
theorem dX2_readHouse_117 : decode cX2_readHouse 117 = .ok (.aload_n 0, 1) := by decide +kernel
theorem dX2_readHouse_118 : decode cX2_readHouse 118 = .ok (.getfield 15, 3) := by decide +kernel
theorem dX2_readHouse_121 : decode cX2_readHouse 121 = .ok (.getfield 101, 3) := by decide +kernel
theorem dX2_readHouse_124 : decode cX2_readHouse 124 = .ok (.aload_n 0, 1) := by decide +kernel
theorem dX2_readHouse_125 : decode cX2_readHouse 125 = .ok (.getfield 15, 3) := by decide +kernel
theorem dX2_readHouse_128 : decode cX2_readHouse 128 = .ok (.getfield 94, 3) := by decide +kernel
theorem dX2_readHouse_131 : decode cX2_readHouse 131 = .ok (.aload_n 0, 1) := by decide +kernel
theorem dX2_readHouse_132 : decode cX2_readHouse 132 = .ok (.getfield 15, 3) := by decide +kernel
theorem dX2_readHouse_135 : decode cX2_readHouse 135 = .ok (.getfield 88, 3) := by decide +kernel
theorem dX2_readHouse_138 : decode cX2_readHouse 138 = .ok (.iastore, 1) := by decide +kernel
theorem dX2_readHouse_139 : decode cX2_readHouse 139 = .ok (.aload_n 0, 1) := by decide +kernel
theorem dX2_readHouse_140 : decode cX2_readHouse 140 = .ok (.getfield 15, 3) := by decide +kernel
theorem dX2_readHouse_143 : decode cX2_readHouse 143 = .ok (.dup, 1) := by decide +kernel
theorem dX2_readHouse_144 : decode cX2_readHouse 144 = .ok (.getfield 94, 3) := by decide +kernel
theorem dX2_readHouse_147 : decode cX2_readHouse 147 = .ok (.iconst 1, 1) := by decide +kernel
theorem dX2_readHouse_148 : decode cX2_readHouse 148 = .ok (.iadd, 1) := by decide +kernel
theorem dX2_readHouse_149 : decode cX2_readHouse 149 = .ok (.putfield 94, 3) := by decide +kernel
theorem dX2_readHouse_152 : decode cX2_readHouse 152 = .ok (.iinc 3 1, 3) := by decide +kernel
theorem dX2_readHouse_155 : decode cX2_readHouse 155 = .ok (.goto (-127), 3) := by decide +kernel
theorem dX2_readHouse_158 : decode cX2_readHouse 158 = .ok (.aload_n 0, 1) := by decide +kernel
theorem dX2_readHouse_159 : decode cX2_readHouse 159 = .ok (.invokevirtual 84, 3) := by decide +kernel
theorem dX2_readHouse_162 : decode cX2_readHouse 162 = .ok (.ifCond .eq 32, 3) := by decide +kernel
theorem dX2_readHouse_165 : decode cX2_readHouse 165 = .ok (.aload_n 0, 1) := by decide +kernel
theorem dX2_readHouse_166 : decode cX2_readHouse 166 = .ok (.getfield 15, 3) := by decide +kernel
theorem dX2_readHouse_169 : decode cX2_readHouse 169 = .ok (.getfield 104, 3) := by decide +kernel
theorem dX2_readHouse_172 : decode cX2_readHouse 172 = .ok (.aload_n 0, 1) := by decide +kernel
theorem dX2_readHouse_173 : decode cX2_readHouse 173 = .ok (.getfield 15, 3) := by decide +kernel
theorem dX2_readHouse_176 : decode cX2_readHouse 176 = .ok (.getfield 88, 3) := by decide +kernel
theorem dX2_readHouse_179 : decode cX2_readHouse 179 = .ok (.iload_n 2, 1) := by decide +kernel
theorem dX2_readHouse_180 : decode cX2_readHouse 180 = .ok (.iastore, 1) := by decide +kernel
theorem dX2_readHouse_181 : decode cX2_readHouse 181 = .ok (.aload_n 0, 1) := by decide +kernel
theorem dX2_readHouse_182 : decode cX2_readHouse 182 = .ok (.getfield 15, 3) := by decide +kernel
theorem dX2_readHouse_185 : decode cX2_readHouse 185 = .ok (.dup, 1) := by decide +kernel
theorem dX2_readHouse_186 : decode cX2_readHouse 186 = .ok (.getfield 88, 3) := by decide +kernel
theorem dX2_readHouse_189 : decode cX2_readHouse 189 = .ok (.iconst 1, 1) := by decide +kernel
theorem dX2_readHouse_190 : decode cX2_readHouse 190 = .ok (.iadd, 1) := by decide +kernel
theorem dX2_readHouse_191 : decode cX2_readHouse 191 = .ok (.putfield 88, 3) := by decide +kernel
theorem dX2_readHouse_194 : decode cX2_readHouse 194 = .ok (.return_, 1) := by decide +kernel
theorem dX2_readWorth_0 : decode cX2_readWorth 0 = .ok (.aload_n 0, 1) := by decide +kernel
theorem dX2_readWorth_1 : decode cX2_readWorth 1 = .ok (.getfield 32, 3) := by decide +kernel
theorem dX2_readWorth_4 : decode cX2_readWorth 4 = .ok (.bipush 30, 2) := by decide +kernel
theorem dX2_readWorth_6 : decode cX2_readWorth 6 = .ok (.if_icmp .lt 10, 3) := by decide +kernel
theorem dX2_readWorth_9 : decode cX2_readWorth 9 = .ok (.aload_n 0, 1) := by decide +kernel
theorem dX2_readWorth_10 : decode cX2_readWorth 10 = .ok (.iconst 3, 1) := by decide +kernel
theorem dX2_readWorth_11 : decode cX2_readWorth 11 = .ok (.iload_n 1, 1) := by decide +kernel
theorem dX2_readWorth_12 : decode cX2_readWorth 12 = .ok (.invokevirtual 77, 3) := by decide +kernel
theorem dX2_readWorth_15 : decode cX2_readWorth 15 = .ok (.return_, 1) := by decide +kernel
theorem dX2_readWorth_16 : decode cX2_readWorth 16 = .ok (.aload_n 0, 1) := by decide +kernel
theorem dX2_readWorth_17 : decode cX2_readWorth 17 = .ok (.iconst 0, 1) := by decide +kernel
theorem dX2_readWorth_18 : decode cX2_readWorth 18 = .ok (.aload_n 0, 1) := by decide +kernel
theorem dX2_readWorth_19 : decode cX2_readWorth 19 = .ok (.getfield 15, 3) := by decide +kernel
theorem dX2_readWorth_22 : decode cX2_readWorth 22 = .ok (.getfield 88, 3) := by decide +kernel
theorem dX2_readWorth_25 : decode cX2_readWorth 25 = .ok (.iconst 1, 1) := by decide +kernel
theorem dX2_readWorth_26 : decode cX2_readWorth 26 = .ok (.isub, 1) := by decide +kernel
theorem dX2_readWorth_27 : decode cX2_readWorth 27 = .ok (.invokevirtual 81, 3) := by decide +kernel
theorem dX2_readWorth_30 : decode cX2_readWorth 30 = .ok (.istore_n 2, 1) := by decide +kernel
theorem dX2_readWorth_31 : decode cX2_readWorth 31 = .ok (.aload_n 0, 1) := by decide +kernel
theorem dX2_readWorth_32 : decode cX2_readWorth 32 = .ok (.invokevirtual 49, 3) := by decide +kernel
theorem dX2_readWorth_35 : decode cX2_readWorth 35 = .ok (.aload_n 0, 1) := by decide +kernel
theorem dX2_readWorth_36 : decode cX2_readWorth 36 = .ok (.getfield 29, 3) := by decide +kernel
theorem dX2_readWorth_39 : decode cX2_readWorth 39 = .ok (.istore_n 3, 1) := by decide +kernel
theorem dX2_readWorth_40 : decode cX2_readWorth 40 = .ok (.aload_n 0, 1) := by decide +kernel
theorem dX2_readWorth_41 : decode cX2_readWorth 41 = .ok (.iconst 0, 1) := by decide +kernel
theorem dX2_readWorth_42 : decode cX2_readWorth 42 = .ok (.aload_n 0, 1) := by decide +kernel
theorem dX2_readWorth_43 : decode cX2_readWorth 43 = .ok (.getfield 15, 3) := by decide +kernel
theorem dX2_readWorth_46 : decode cX2_readWorth 46 = .ok (.getfield 65, 3) := by decide +kernel
theorem dX2_readWorth_49 : decode cX2_readWorth 49 = .ok (.iconst 1, 1) := by decide +kernel
theorem dX2_readWorth_50 : decode cX2_readWorth 50 = .ok (.isub, 1) := by decide +kernel
theorem dX2_readWorth_51 : decode cX2_readWorth 51 = .ok (.invokevirtual 81, 3) := by decide +kernel
theorem dX2_readWorth_54 : decode cX2_readWorth 54 = .ok (.istore 4, 2) := by decide +kernel
theorem dX2_readWorth_56 : decode cX2_readWorth 56 = .ok (.iload_n 2, 1) := by decide +kernel
theorem dX2_readWorth_57 : decode cX2_readWorth 57 = .ok (.bipush 6, 2) := by decide +kernel
theorem dX2_readWorth_59 : decode cX2_readWorth 59 = .ok (.imul, 1) := by decide +kernel
theorem dX2_readWorth_60 : decode cX2_readWorth 60 = .ok (.iload 4, 2) := by decide +kernel
theorem dX2_readWorth_62 : decode cX2_readWorth 62 = .ok (.iadd, 1) := by decide +kernel
theorem dX2_readWorth_63 : decode cX2_readWorth 63 = .ok (.istore 5, 2) := by decide +kernel
theorem dX2_readWorth_65 : decode cX2_readWorth 65 = .ok (.aload_n 0, 1) := by decide +kernel
theorem dX2_readWorth_66 : decode cX2_readWorth 66 = .ok (.getfield 38, 3) := by decide +kernel
theorem dX2_readWorth_69 : decode cX2_readWorth 69 = .ok (.ifCond .ne 22, 3) := by decide +kernel
theorem dX2_readWorth_72 : decode cX2_readWorth 72 = .ok (.aload_n 0, 1) := by decide +kernel
theorem dX2_readWorth_73 : decode cX2_readWorth 73 = .ok (.getfield 35, 3) := by decide +kernel
theorem dX2_readWorth_76 : decode cX2_readWorth 76 = .ok (.iload 5, 2) := by decide +kernel
theorem dX2_readWorth_78 : decode cX2_readWorth 78 = .ok (.ishr, 1) := by decide +kernel
theorem dX2_readWorth_79 : decode cX2_readWorth 79 = .ok (.iconst 1, 1) := by decide +kernel
theorem dX2_readWorth_80 : decode cX2_readWorth 80 = .ok (.iand, 1) := by decide +kernel
theorem dX2_readWorth_81 : decode cX2_readWorth 81 = .ok (.iconst 1, 1) := by decide +kernel
theorem dX2_readWorth_82 : decode cX2_readWorth 82 = .ok (.if_icmp .ne 9, 3) := by decide +kernel
theorem dX2_readWorth_85 : decode cX2_readWorth 85 = .ok (.aload_n 0, 1) := by decide +kernel
theorem dX2_readWorth_86 : decode cX2_readWorth 86 = .ok (.iconst 4, 1) := by decide +kernel
theorem dX2_readWorth_87 : decode cX2_readWorth 87 = .ok (.iload_n 3, 1) := by decide +kernel
theorem dX2_readWorth_88 : decode cX2_readWorth 88 = .ok (.invokevirtual 77, 3) := by decide +kernel
theorem dX2_readWorth_91 : decode cX2_readWorth 91 = .ok (.aload_n 0, 1) := by decide +kernel
theorem dX2_readWorth_92 : decode cX2_readWorth 92 = .ok (.iconst 0, 1) := by decide +kernel
theorem dX2_readWorth_93 : decode cX2_readWorth 93 = .ok (.bipush 99, 2) := by decide +kernel
theorem dX2_readWorth_95 : decode cX2_readWorth 95 = .ok (.invokevirtual 81, 3) := by decide +kernel
theorem dX2_readWorth_98 : decode cX2_readWorth 98 = .ok (.istore 6, 2) := by decide +kernel
theorem dX2_readWorth_100 : decode cX2_readWorth 100 = .ok (.aload_n 0, 1) := by decide +kernel
theorem dX2_readWorth_101 : decode cX2_readWorth 101 = .ok (.invokevirtual 84, 3) := by decide +kernel
theorem dX2_readWorth_104 : decode cX2_readWorth 104 = .ok (.ifCond .eq 38, 3) := by decide +kernel
theorem dX2_readWorth_107 : decode cX2_readWorth 107 = .ok (.aload_n 0, 1) := by decide +kernel
theorem dX2_readWorth_108 : decode cX2_readWorth 108 = .ok (.getfield 15, 3) := by decide +kernel
theorem dX2_readWorth_111 : decode cX2_readWorth 111 = .ok (.getfield 107, 3) := by decide +kernel
theorem dX2_readWorth_114 : decode cX2_readWorth 114 = .ok (.iload 5, 2) := by decide +kernel
theorem dX2_readWorth_116 : decode cX2_readWorth 116 = .ok (.iload 6, 2) := by decide +kernel
theorem dX2_readWorth_118 : decode cX2_readWorth 118 = .ok (.iastore, 1) := by decide +kernel
theorem dX2_readWorth_119 : decode cX2_readWorth 119 = .ok (.aload_n 0, 1) := by decide +kernel
theorem dX2_readWorth_120 : decode cX2_readWorth 120 = .ok (.dup, 1) := by decide +kernel
theorem dX2_readWorth_121 : decode cX2_readWorth 121 = .ok (.getfield 35, 3) := by decide +kernel
theorem dX2_readWorth_124 : decode cX2_readWorth 124 = .ok (.iconst 1, 1) := by decide +kernel
theorem dX2_readWorth_125 : decode cX2_readWorth 125 = .ok (.iload 5, 2) := by decide +kernel
theorem dX2_readWorth_127 : decode cX2_readWorth 127 = .ok (.ishl, 1) := by decide +kernel
theorem dX2_readWorth_128 : decode cX2_readWorth 128 = .ok (.ior, 1) := by decide +kernel
theorem dX2_readWorth_129 : decode cX2_readWorth 129 = .ok (.putfield 35, 3) := by decide +kernel
theorem dX2_readWorth_132 : decode cX2_readWorth 132 = .ok (.aload_n 0, 1) := by decide +kernel
theorem dX2_readWorth_133 : decode cX2_readWorth 133 = .ok (.dup, 1) := by decide +kernel
theorem dX2_readWorth_134 : decode cX2_readWorth 134 = .ok (.getfield 32, 3) := by decide +kernel
theorem dX2_readWorth_137 : decode cX2_readWorth 137 = .ok (.iconst 1, 1) := by decide +kernel
theorem dX2_readWorth_138 : decode cX2_readWorth 138 = .ok (.iadd, 1) := by decide +kernel
theorem dX2_readWorth_139 : decode cX2_readWorth 139 = .ok (.putfield 32, 3) := by decide +kernel
theorem dX2_readWorth_142 : decode cX2_readWorth 142 = .ok (.return_, 1) := by decide +kernel
theorem dX2_readNumber_0 : decode cX2_readNumber 0 = .ok (.aload_n 0, 1) := by decide +kernel
theorem dX2_readNumber_1 : decode cX2_readNumber 1 = .ok (.invokevirtual 91, 3) := by decide +kernel
theorem dX2_readNumber_4 : decode cX2_readNumber 4 = .ok (.ifCond .ne 14, 3) := by decide +kernel
theorem dX2_readNumber_7 : decode cX2_readNumber 7 = .ok (.aload_n 0, 1) := by decide +kernel
theorem dX2_readNumber_8 : decode cX2_readNumber 8 = .ok (.iconst 1, 1) := by decide +kernel
theorem dX2_readNumber_9 : decode cX2_readNumber 9 = .ok (.aload_n 0, 1) := by decide +kernel
theorem dX2_readNumber_10 : decode cX2_readNumber 10 = .ok (.getfield 29, 3) := by decide +kernel
theorem dX2_readNumber_13 : decode cX2_readNumber 13 = .ok (.invokevirtual 77, 3) := by decide +kernel
theorem dX2_readNumber_16 : decode cX2_readNumber 16 = .ok (.iconst (-1), 1) := by decide +kernel
theorem dX2_readNumber_17 : decode cX2_readNumber 17 = .ok (.ireturn, 1) := by decide +kernel
theorem dX2_readNumber_18 : decode cX2_readNumber 18 = .ok (.aload_n 0, 1) := by decide +kernel
theorem dX2_readNumber_19 : decode cX2_readNumber 19 = .ok (.getfield 29, 3) := by decide +kernel
theorem dX2_readNumber_22 : decode cX2_readNumber 22 = .ok (.istore_n 3, 1) := by decide +kernel
theorem dX2_readNumber_23 : decode cX2_readNumber 23 = .ok (.iconst 0, 1) := by decide +kernel
theorem dX2_readNumber_24 : decode cX2_readNumber 24 = .ok (.istore 4, 2) := by decide +kernel
theorem dX2_readNumber_26 : decode cX2_readNumber 26 = .ok (.aload_n 0, 1) := by decide +kernel
theorem dX2_readNumber_27 : decode cX2_readNumber 27 = .ok (.getfield 29, 3) := by decide +kernel
theorem dX2_readNumber_30 : decode cX2_readNumber 30 = .ok (.aload_n 0, 1) := by decide +kernel
theorem dX2_readNumber_31 : decode cX2_readNumber 31 = .ok (.getfield 25, 3) := by decide +kernel
theorem dX2_readNumber_34 : decode cX2_readNumber 34 = .ok (.if_icmp .ge 66, 3) := by decide +kernel
theorem dX2_readNumber_37 : decode cX2_readNumber 37 = .ok (.aload_n 0, 1) := by decide +kernel
theorem dX2_readNumber_38 : decode cX2_readNumber 38 = .ok (.getfield 9, 3) := by decide +kernel
theorem dX2_readNumber_41 : decode cX2_readNumber 41 = .ok (.aload_n 0, 1) := by decide +kernel
theorem dX2_readNumber_42 : decode cX2_readNumber 42 = .ok (.getfield 29, 3) := by decide +kernel
theorem dX2_readNumber_45 : decode cX2_readNumber 45 = .ok (.caload, 1) := by decide +kernel
theorem dX2_readNumber_46 : decode cX2_readNumber 46 = .ok (.invokestatic 110, 3) := by decide +kernel
theorem dX2_readNumber_49 : decode cX2_readNumber 49 = .ok (.ifCond .eq 51, 3) := by decide +kernel
theorem dX2_readNumber_52 : decode cX2_readNumber 52 = .ok (.aload_n 0, 1) := by decide +kernel
theorem dX2_readNumber_53 : decode cX2_readNumber 53 = .ok (.getfield 29, 3) := by decide +kernel
theorem dX2_readNumber_56 : decode cX2_readNumber 56 = .ok (.iload_n 3, 1) := by decide +kernel
theorem dX2_readNumber_57 : decode cX2_readNumber 57 = .ok (.isub, 1) := by decide +kernel
theorem dX2_readNumber_58 : decode cX2_readNumber 58 = .ok (.iconst 3, 1) := by decide +kernel
theorem dX2_readNumber_59 : decode cX2_readNumber 59 = .ok (.if_icmp .ge 24, 3) := by decide +kernel
theorem dX2_readNumber_62 : decode cX2_readNumber 62 = .ok (.iload 4, 2) := by decide +kernel
theorem dX2_readNumber_64 : decode cX2_readNumber 64 = .ok (.bipush 10, 2) := by decide +kernel
theorem dX2_readNumber_66 : decode cX2_readNumber 66 = .ok (.imul, 1) := by decide +kernel
theorem dX2_readNumber_67 : decode cX2_readNumber 67 = .ok (.aload_n 0, 1) := by decide +kernel
theorem dX2_readNumber_68 : decode cX2_readNumber 68 = .ok (.getfield 9, 3) := by decide +kernel
theorem dX2_readNumber_71 : decode cX2_readNumber 71 = .ok (.aload_n 0, 1) := by decide +kernel
theorem dX2_readNumber_72 : decode cX2_readNumber 72 = .ok (.getfield 29, 3) := by decide +kernel
theorem dX2_readNumber_75 : decode cX2_readNumber 75 = .ok (.caload, 1) := by decide +kernel
theorem dX2_readNumber_76 : decode cX2_readNumber 76 = .ok (.iadd, 1) := by decide +kernel
theorem dX2_readNumber_77 : decode cX2_readNumber 77 = .ok (.bipush 48, 2) := by decide +kernel
theorem dX2_readNumber_79 : decode cX2_readNumber 79 = .ok (.isub, 1) := by decide +kernel
theorem dX2_readNumber_80 : decode cX2_readNumber 80 = .ok (.goto 5, 3) := by decide +kernel
theorem dX2_readNumber_83 : decode cX2_readNumber 83 = .ok (.iload 4, 2) := by decide +kernel
theorem dX2_readNumber_85 : decode cX2_readNumber 85 = .ok (.istore 4, 2) := by decide +kernel
theorem dX2_readNumber_87 : decode cX2_readNumber 87 = .ok (.aload_n 0, 1) := by decide +kernel
theorem dX2_readNumber_88 : decode cX2_readNumber 88 = .ok (.dup, 1) := by decide +kernel
theorem dX2_readNumber_89 : decode cX2_readNumber 89 = .ok (.getfield 29, 3) := by decide +kernel
theorem dX2_readNumber_92 : decode cX2_readNumber 92 = .ok (.iconst 1, 1) := by decide +kernel
theorem dX2_readNumber_93 : decode cX2_readNumber 93 = .ok (.iadd, 1) := by decide +kernel
theorem dX2_readNumber_94 : decode cX2_readNumber 94 = .ok (.putfield 29, 3) := by decide +kernel
theorem dX2_readNumber_97 : decode cX2_readNumber 97 = .ok (.goto (-71), 3) := by decide +kernel
theorem dX2_readNumber_100 : decode cX2_readNumber 100 = .ok (.aload_n 0, 1) := by decide +kernel
theorem dX2_readNumber_101 : decode cX2_readNumber 101 = .ok (.getfield 29, 3) := by decide +kernel
theorem dX2_readNumber_104 : decode cX2_readNumber 104 = .ok (.iload_n 3, 1) := by decide +kernel
theorem dX2_readNumber_105 : decode cX2_readNumber 105 = .ok (.isub, 1) := by decide +kernel
theorem dX2_readNumber_106 : decode cX2_readNumber 106 = .ok (.iconst 3, 1) := by decide +kernel
theorem dX2_readNumber_107 : decode cX2_readNumber 107 = .ok (.if_icmp .gt 15, 3) := by decide +kernel
theorem dX2_readNumber_110 : decode cX2_readNumber 110 = .ok (.iload 4, 2) := by decide +kernel
theorem dX2_readNumber_112 : decode cX2_readNumber 112 = .ok (.iload_n 1, 1) := by decide +kernel
theorem dX2_readNumber_113 : decode cX2_readNumber 113 = .ok (.if_icmp .lt 9, 3) := by decide +kernel
theorem dX2_readNumber_116 : decode cX2_readNumber 116 = .ok (.iload 4, 2) := by decide +kernel
theorem dX2_readNumber_118 : decode cX2_readNumber 118 = .ok (.iload_n 2, 1) := by decide +kernel
theorem dX2_readNumber_119 : decode cX2_readNumber 119 = .ok (.if_icmp .le 11, 3) := by decide +kernel
theorem dX2_readNumber_122 : decode cX2_readNumber 122 = .ok (.aload_n 0, 1) := by decide +kernel
theorem dX2_readNumber_123 : decode cX2_readNumber 123 = .ok (.iconst 2, 1) := by decide +kernel
theorem dX2_readNumber_124 : decode cX2_readNumber 124 = .ok (.iload_n 3, 1) := by decide +kernel
theorem dX2_readNumber_125 : decode cX2_readNumber 125 = .ok (.invokevirtual 77, 3) := by decide +kernel
theorem dX2_readNumber_128 : decode cX2_readNumber 128 = .ok (.iconst (-1), 1) := by decide +kernel
theorem dX2_readNumber_129 : decode cX2_readNumber 129 = .ok (.ireturn, 1) := by decide +kernel
theorem dX2_readNumber_130 : decode cX2_readNumber 130 = .ok (.iload 4, 2) := by decide +kernel
theorem dX2_readNumber_132 : decode cX2_readNumber 132 = .ok (.ireturn, 1) := by decide +kernel
theorem dX2_readEnd_0 : decode cX2_readEnd 0 = .ok (.aload_n 0, 1) := by decide +kernel
theorem dX2_readEnd_1 : decode cX2_readEnd 1 = .ok (.invokevirtual 49, 3) := by decide +kernel
theorem dX2_readEnd_4 : decode cX2_readEnd 4 = .ok (.aload_n 0, 1) := by decide +kernel
theorem dX2_readEnd_5 : decode cX2_readEnd 5 = .ok (.getfield 29, 3) := by decide +kernel
theorem dX2_readEnd_8 : decode cX2_readEnd 8 = .ok (.aload_n 0, 1) := by decide +kernel
theorem dX2_readEnd_9 : decode cX2_readEnd 9 = .ok (.getfield 25, 3) := by decide +kernel
theorem dX2_readEnd_12 : decode cX2_readEnd 12 = .ok (.if_icmp .ge 30, 3) := by decide +kernel
theorem dX2_readEnd_15 : decode cX2_readEnd 15 = .ok (.aload_n 0, 1) := by decide +kernel
theorem dX2_readEnd_16 : decode cX2_readEnd 16 = .ok (.getfield 9, 3) := by decide +kernel
theorem dX2_readEnd_19 : decode cX2_readEnd 19 = .ok (.aload_n 0, 1) := by decide +kernel
theorem dX2_readEnd_20 : decode cX2_readEnd 20 = .ok (.getfield 29, 3) := by decide +kernel
theorem dX2_readEnd_23 : decode cX2_readEnd 23 = .ok (.caload, 1) := by decide +kernel
theorem dX2_readEnd_24 : decode cX2_readEnd 24 = .ok (.bipush 59, 2) := by decide +kernel
theorem dX2_readEnd_26 : decode cX2_readEnd 26 = .ok (.if_icmp .ne 16, 3) := by decide +kernel
theorem dX2_readEnd_29 : decode cX2_readEnd 29 = .ok (.aload_n 0, 1) := by decide +kernel
theorem dX2_readEnd_30 : decode cX2_readEnd 30 = .ok (.dup, 1) := by decide +kernel
theorem dX2_readEnd_31 : decode cX2_readEnd 31 = .ok (.getfield 29, 3) := by decide +kernel
theorem dX2_readEnd_34 : decode cX2_readEnd 34 = .ok (.iconst 1, 1) := by decide +kernel
theorem dX2_readEnd_35 : decode cX2_readEnd 35 = .ok (.iadd, 1) := by decide +kernel
theorem dX2_readEnd_36 : decode cX2_readEnd 36 = .ok (.putfield 29, 3) := by decide +kernel
theorem dX2_readEnd_39 : decode cX2_readEnd 39 = .ok (.goto 12, 3) := by decide +kernel
theorem dX2_readEnd_42 : decode cX2_readEnd 42 = .ok (.aload_n 0, 1) := by decide +kernel
theorem dX2_readEnd_43 : decode cX2_readEnd 43 = .ok (.iconst 1, 1) := by decide +kernel
theorem dX2_readEnd_44 : decode cX2_readEnd 44 = .ok (.aload_n 0, 1) := by decide +kernel
theorem dX2_readEnd_45 : decode cX2_readEnd 45 = .ok (.getfield 29, 3) := by decide +kernel
theorem dX2_readEnd_48 : decode cX2_readEnd 48 = .ok (.invokevirtual 77, 3) := by decide +kernel
theorem dX2_readEnd_51 : decode cX2_readEnd 51 = .ok (.aload_n 0, 1) := by decide +kernel
theorem dX2_readEnd_52 : decode cX2_readEnd 52 = .ok (.getfield 38, 3) := by decide +kernel
theorem dX2_readEnd_55 : decode cX2_readEnd 55 = .ok (.ifCond .ne 7, 3) := by decide +kernel
theorem dX2_readEnd_58 : decode cX2_readEnd 58 = .ok (.iconst 1, 1) := by decide +kernel
theorem dX2_readEnd_59 : decode cX2_readEnd 59 = .ok (.goto 4, 3) := by decide +kernel
theorem dX2_readEnd_62 : decode cX2_readEnd 62 = .ok (.iconst 0, 1) := by decide +kernel
theorem dX2_readEnd_63 : decode cX2_readEnd 63 = .ok (.ireturn, 1) := by decide +kernel
theorem dX2_numberFollows_0 : decode cX2_numberFollows 0 = .ok (.aload_n 0, 1) := by decide +kernel
theorem dX2_numberFollows_1 : decode cX2_numberFollows 1 = .ok (.invokevirtual 49, 3) := by decide +kernel
theorem dX2_numberFollows_4 : decode cX2_numberFollows 4 = .ok (.aload_n 0, 1) := by decide +kernel
theorem dX2_numberFollows_5 : decode cX2_numberFollows 5 = .ok (.getfield 29, 3) := by decide +kernel
theorem dX2_numberFollows_8 : decode cX2_numberFollows 8 = .ok (.aload_n 0, 1) := by decide +kernel
theorem dX2_numberFollows_9 : decode cX2_numberFollows 9 = .ok (.getfield 25, 3) := by decide +kernel
theorem dX2_numberFollows_12 : decode cX2_numberFollows 12 = .ok (.if_icmp .ge 22, 3) := by decide +kernel
theorem dX2_numberFollows_15 : decode cX2_numberFollows 15 = .ok (.aload_n 0, 1) := by decide +kernel
theorem dX2_numberFollows_16 : decode cX2_numberFollows 16 = .ok (.getfield 9, 3) := by decide +kernel
theorem dX2_numberFollows_19 : decode cX2_numberFollows 19 = .ok (.aload_n 0, 1) := by decide +kernel
theorem dX2_numberFollows_20 : decode cX2_numberFollows 20 = .ok (.getfield 29, 3) := by decide +kernel
theorem dX2_numberFollows_23 : decode cX2_numberFollows 23 = .ok (.caload, 1) := by decide +kernel
theorem dX2_numberFollows_24 : decode cX2_numberFollows 24 = .ok (.invokestatic 110, 3) := by decide +kernel
theorem dX2_numberFollows_27 : decode cX2_numberFollows 27 = .ok (.ifCond .eq 7, 3) := by decide +kernel
theorem dX2_numberFollows_30 : decode cX2_numberFollows 30 = .ok (.iconst 1, 1) := by decide +kernel
theorem dX2_numberFollows_31 : decode cX2_numberFollows 31 = .ok (.goto 4, 3) := by decide +kernel
theorem dX2_numberFollows_34 : decode cX2_numberFollows 34 = .ok (.iconst 0, 1) := by decide +kernel
theorem dX2_numberFollows_35 : decode cX2_numberFollows 35 = .ok (.ireturn, 1) := by decide +kernel
theorem dX2_skipBlanks_0 : decode cX2_skipBlanks 0 = .ok (.aload_n 0, 1) := by decide +kernel
theorem dX2_skipBlanks_1 : decode cX2_skipBlanks 1 = .ok (.getfield 29, 3) := by decide +kernel
theorem dX2_skipBlanks_4 : decode cX2_skipBlanks 4 = .ok (.aload_n 0, 1) := by decide +kernel
theorem dX2_skipBlanks_5 : decode cX2_skipBlanks 5 = .ok (.getfield 25, 3) := by decide +kernel
theorem dX2_skipBlanks_8 : decode cX2_skipBlanks 8 = .ok (.if_icmp .ge 30, 3) := by decide +kernel
theorem dX2_skipBlanks_11 : decode cX2_skipBlanks 11 = .ok (.aload_n 0, 1) := by decide +kernel
theorem dX2_skipBlanks_12 : decode cX2_skipBlanks 12 = .ok (.getfield 9, 3) := by decide +kernel
theorem dX2_skipBlanks_15 : decode cX2_skipBlanks 15 = .ok (.aload_n 0, 1) := by decide +kernel
theorem dX2_skipBlanks_16 : decode cX2_skipBlanks 16 = .ok (.getfield 29, 3) := by decide +kernel
theorem dX2_skipBlanks_19 : decode cX2_skipBlanks 19 = .ok (.caload, 1) := by decide +kernel
theorem dX2_skipBlanks_20 : decode cX2_skipBlanks 20 = .ok (.bipush 32, 2) := by decide +kernel
theorem dX2_skipBlanks_22 : decode cX2_skipBlanks 22 = .ok (.if_icmp .ne 16, 3) := by decide +kernel
theorem dX2_skipBlanks_25 : decode cX2_skipBlanks 25 = .ok (.aload_n 0, 1) := by decide +kernel
theorem dX2_skipBlanks_26 : decode cX2_skipBlanks 26 = .ok (.dup, 1) := by decide +kernel
theorem dX2_skipBlanks_27 : decode cX2_skipBlanks 27 = .ok (.getfield 29, 3) := by decide +kernel
theorem dX2_skipBlanks_30 : decode cX2_skipBlanks 30 = .ok (.iconst 1, 1) := by decide +kernel
theorem dX2_skipBlanks_31 : decode cX2_skipBlanks 31 = .ok (.iadd, 1) := by decide +kernel
theorem dX2_skipBlanks_32 : decode cX2_skipBlanks 32 = .ok (.putfield 29, 3) := by decide +kernel
theorem dX2_skipBlanks_35 : decode cX2_skipBlanks 35 = .ok (.goto (-35), 3) := by decide +kernel
theorem dX2_skipBlanks_38 : decode cX2_skipBlanks 38 = .ok (.return_, 1) := by decide +kernel
theorem dX2_isFigure_0 : decode cX2_isFigure 0 = .ok (.iload_n 0, 1) := by decide +kernel
theorem dX2_isFigure_1 : decode cX2_isFigure 1 = .ok (.bipush 48, 2) := by decide +kernel
theorem dX2_isFigure_3 : decode cX2_isFigure 3 = .ok (.if_icmp .lt 13, 3) := by decide +kernel
theorem dX2_isFigure_6 : decode cX2_isFigure 6 = .ok (.iload_n 0, 1) := by decide +kernel
theorem dX2_isFigure_7 : decode cX2_isFigure 7 = .ok (.bipush 57, 2) := by decide +kernel
theorem dX2_isFigure_9 : decode cX2_isFigure 9 = .ok (.if_icmp .gt 7, 3) := by decide +kernel
theorem dX2_isFigure_12 : decode cX2_isFigure 12 = .ok (.iconst 1, 1) := by decide +kernel
theorem dX2_isFigure_13 : decode cX2_isFigure 13 = .ok (.goto 4, 3) := by decide +kernel
theorem dX2_isFigure_16 : decode cX2_isFigure 16 = .ok (.iconst 0, 1) := by decide +kernel
theorem dX2_isFigure_17 : decode cX2_isFigure 17 = .ok (.ireturn, 1) := by decide +kernel
theorem dX2_isWord_0 : decode cX2_isWord 0 = .ok (.aload_n 0, 1) := by decide +kernel
theorem dX2_isWord_1 : decode cX2_isWord 1 = .ok (.getfield 29, 3) := by decide +kernel
theorem dX2_isWord_4 : decode cX2_isWord 4 = .ok (.iload_n 2, 1) := by decide +kernel
theorem dX2_isWord_5 : decode cX2_isWord 5 = .ok (.isub, 1) := by decide +kernel
theorem dX2_isWord_6 : decode cX2_isWord 6 = .ok (.aload_n 1, 1) := by decide +kernel
theorem dX2_isWord_7 : decode cX2_isWord 7 = .ok (.invokevirtual 114, 3) := by decide +kernel
theorem dX2_isWord_10 : decode cX2_isWord 10 = .ok (.if_icmp .eq 5, 3) := by decide +kernel
theorem dX2_isWord_13 : decode cX2_isWord 13 = .ok (.iconst 0, 1) := by decide +kernel
theorem dX2_isWord_14 : decode cX2_isWord 14 = .ok (.ireturn, 1) := by decide +kernel
theorem dX2_isWord_15 : decode cX2_isWord 15 = .ok (.iconst 0, 1) := by decide +kernel
theorem dX2_isWord_16 : decode cX2_isWord 16 = .ok (.istore_n 3, 1) := by decide +kernel
theorem dX2_isWord_17 : decode cX2_isWord 17 = .ok (.iload_n 3, 1) := by decide +kernel
theorem dX2_isWord_18 : decode cX2_isWord 18 = .ok (.aload_n 1, 1) := by decide +kernel
theorem dX2_isWord_19 : decode cX2_isWord 19 = .ok (.invokevirtual 114, 3) := by decide +kernel
theorem dX2_isWord_22 : decode cX2_isWord 22 = .ok (.if_icmp .ge 27, 3) := by decide +kernel
theorem dX2_isWord_25 : decode cX2_isWord 25 = .ok (.aload_n 0, 1) := by decide +kernel
theorem dX2_isWord_26 : decode cX2_isWord 26 = .ok (.getfield 9, 3) := by decide +kernel
theorem dX2_isWord_29 : decode cX2_isWord 29 = .ok (.iload_n 2, 1) := by decide +kernel
theorem dX2_isWord_30 : decode cX2_isWord 30 = .ok (.iload_n 3, 1) := by decide +kernel
theorem dX2_isWord_31 : decode cX2_isWord 31 = .ok (.iadd, 1) := by decide +kernel
theorem dX2_isWord_32 : decode cX2_isWord 32 = .ok (.caload, 1) := by decide +kernel
theorem dX2_isWord_33 : decode cX2_isWord 33 = .ok (.aload_n 1, 1) := by decide +kernel
theorem dX2_isWord_34 : decode cX2_isWord 34 = .ok (.iload_n 3, 1) := by decide +kernel
theorem dX2_isWord_35 : decode cX2_isWord 35 = .ok (.invokevirtual 119, 3) := by decide +kernel
theorem dX2_isWord_38 : decode cX2_isWord 38 = .ok (.if_icmp .eq 5, 3) := by decide +kernel
theorem dX2_isWord_41 : decode cX2_isWord 41 = .ok (.iconst 0, 1) := by decide +kernel
theorem dX2_isWord_42 : decode cX2_isWord 42 = .ok (.ireturn, 1) := by decide +kernel
theorem dX2_isWord_43 : decode cX2_isWord 43 = .ok (.iinc 3 1, 3) := by decide +kernel
theorem dX2_isWord_46 : decode cX2_isWord 46 = .ok (.goto (-29), 3) := by decide +kernel
theorem dX2_isWord_49 : decode cX2_isWord 49 = .ok (.iconst 1, 1) := by decide +kernel
theorem dX2_isWord_50 : decode cX2_isWord 50 = .ok (.ireturn, 1) := by decide +kernel
theorem dX2_fail_0 : decode cX2_fail 0 = .ok (.aload_n 0, 1) := by decide +kernel
theorem dX2_fail_1 : decode cX2_fail 1 = .ok (.getfield 38, 3) := by decide +kernel
theorem dX2_fail_4 : decode cX2_fail 4 = .ok (.ifCond .ne 13, 3) := by decide +kernel
theorem dX2_fail_7 : decode cX2_fail 7 = .ok (.aload_n 0, 1) := by decide +kernel
theorem dX2_fail_8 : decode cX2_fail 8 = .ok (.iload_n 1, 1) := by decide +kernel
theorem dX2_fail_9 : decode cX2_fail 9 = .ok (.putfield 38, 3) := by decide +kernel
theorem dX2_fail_12 : decode cX2_fail 12 = .ok (.aload_n 0, 1) := by decide +kernel
theorem dX2_fail_13 : decode cX2_fail 13 = .ok (.iload_n 2, 1) := by decide +kernel
theorem dX2_fail_14 : decode cX2_fail 14 = .ok (.putfield 41, 3) := by decide +kernel
theorem dX2_fail_17 : decode cX2_fail 17 = .ok (.return_, 1) := by decide +kernel
theorem dX3_init_0 : decode cX3_init 0 = .ok (.aload_n 0, 1) := by decide +kernel
theorem dX3_init_1 : decode cX3_init 1 = .ok (.invokespecial 3, 3) := by decide +kernel
theorem dX3_init_4 : decode cX3_init 4 = .ok (.aload_n 0, 1) := by decide +kernel
theorem dX3_init_5 : decode cX3_init 5 = .ok (.iconst 5, 1) := by decide +kernel
theorem dX3_init_6 : decode cX3_init 6 = .ok (.newarray .int, 2) := by decide +kernel
theorem dX3_init_8 : decode cX3_init 8 = .ok (.putfield 9, 3) := by decide +kernel
theorem dX3_init_11 : decode cX3_init 11 = .ok (.aload_n 0, 1) := by decide +kernel
theorem dX3_init_12 : decode cX3_init 12 = .ok (.iconst 5, 1) := by decide +kernel
theorem dX3_init_13 : decode cX3_init 13 = .ok (.newarray .int, 2) := by decide +kernel
theorem dX3_init_15 : decode cX3_init 15 = .ok (.putfield 15, 3) := by decide +kernel
theorem dX3_init_18 : decode cX3_init 18 = .ok (.aload_n 0, 1) := by decide +kernel
theorem dX3_init_19 : decode cX3_init 19 = .ok (.iconst 5, 1) := by decide +kernel
theorem dX3_init_20 : decode cX3_init 20 = .ok (.newarray .int, 2) := by decide +kernel
theorem dX3_init_22 : decode cX3_init 22 = .ok (.putfield 18, 3) := by decide +kernel
theorem dX3_init_25 : decode cX3_init 25 = .ok (.aload_n 0, 1) := by decide +kernel
theorem dX3_init_26 : decode cX3_init 26 = .ok (.iconst 5, 1) := by decide +kernel
theorem dX3_init_27 : decode cX3_init 27 = .ok (.newarray .int, 2) := by decide +kernel
theorem dX3_init_29 : decode cX3_init 29 = .ok (.putfield 21, 3) := by decide +kernel
theorem dX3_init_32 : decode cX3_init 32 = .ok (.aload_n 0, 1) := by decide +kernel
theorem dX3_init_33 : decode cX3_init 33 = .ok (.bipush 20, 2) := by decide +kernel
theorem dX3_init_35 : decode cX3_init 35 = .ok (.newarray .int, 2) := by decide +kernel
theorem dX3_init_37 : decode cX3_init 37 = .ok (.putfield 24, 3) := by decide +kernel
theorem dX3_init_40 : decode cX3_init 40 = .ok (.aload_n 0, 1) := by decide +kernel
theorem dX3_init_41 : decode cX3_init 41 = .ok (.iconst 5, 1) := by decide +kernel
theorem dX3_init_42 : decode cX3_init 42 = .ok (.newarray .int, 2) := by decide +kernel
theorem dX3_init_44 : decode cX3_init 44 = .ok (.putfield 27, 3) := by decide +kernel
theorem dX3_init_47 : decode cX3_init 47 = .ok (.aload_n 0, 1) := by decide +kernel
theorem dX3_init_48 : decode cX3_init 48 = .ok (.bipush 25, 2) := by decide +kernel
theorem dX3_init_50 : decode cX3_init 50 = .ok (.newarray .int, 2) := by decide +kernel
theorem dX3_init_52 : decode cX3_init 52 = .ok (.putfield 30, 3) := by decide +kernel
theorem dX3_init_55 : decode cX3_init 55 = .ok (.aload_n 0, 1) := by decide +kernel
theorem dX3_init_56 : decode cX3_init 56 = .ok (.aload_n 1, 1) := by decide +kernel
theorem dX3_init_57 : decode cX3_init 57 = .ok (.putfield 33, 3) := by decide +kernel
theorem dX3_init_60 : decode cX3_init 60 = .ok (.return_, 1) := by decide +kernel
theorem dX3_findBest_0 : decode cX3_findBest 0 = .ok (.aload_n 0, 1) := by decide +kernel
theorem dX3_findBest_1 : decode cX3_findBest 1 = .ok (.aload_n 0, 1) := by decide +kernel
theorem dX3_findBest_2 : decode cX3_findBest 2 = .ok (.getfield 33, 3) := by decide +kernel
theorem dX3_findBest_5 : decode cX3_findBest 5 = .ok (.getfield 37, 3) := by decide +kernel
theorem dX3_findBest_8 : decode cX3_findBest 8 = .ok (.getfield 43, 3) := by decide +kernel
theorem dX3_findBest_11 : decode cX3_findBest 11 = .ok (.putfield 49, 3) := by decide +kernel
theorem dX3_findBest_14 : decode cX3_findBest 14 = .ok (.aload_n 0, 1) := by decide +kernel
theorem dX3_findBest_15 : decode cX3_findBest 15 = .ok (.iconst 0, 1) := by decide +kernel
theorem dX3_findBest_16 : decode cX3_findBest 16 = .ok (.putfield 50, 3) := by decide +kernel
theorem dX3_findBest_19 : decode cX3_findBest 19 = .ok (.iconst 0, 1) := by decide +kernel
theorem dX3_findBest_20 : decode cX3_findBest 20 = .ok (.istore_n 1, 1) := by decide +kernel
theorem dX3_findBest_21 : decode cX3_findBest 21 = .ok (.iload_n 1, 1) := by decide +kernel
theorem dX3_findBest_22 : decode cX3_findBest 22 = .ok (.aload_n 0, 1) := by decide +kernel
theorem dX3_findBest_23 : decode cX3_findBest 23 = .ok (.getfield 49, 3) := by decide +kernel
theorem dX3_findBest_26 : decode cX3_findBest 26 = .ok (.if_icmp .ge 28, 3) := by decide +kernel
theorem dX3_findBest_29 : decode cX3_findBest 29 = .ok (.aload_n 0, 1) := by decide +kernel
theorem dX3_findBest_30 : decode cX3_findBest 30 = .ok (.getfield 18, 3) := by decide +kernel
theorem dX3_findBest_33 : decode cX3_findBest 33 = .ok (.iload_n 1, 1) := by decide +kernel
theorem dX3_findBest_34 : decode cX3_findBest 34 = .ok (.iload_n 1, 1) := by decide +kernel
theorem dX3_findBest_35 : decode cX3_findBest 35 = .ok (.iastore, 1) := by decide +kernel
theorem dX3_findBest_36 : decode cX3_findBest 36 = .ok (.aload_n 0, 1) := by decide +kernel
theorem dX3_findBest_37 : decode cX3_findBest 37 = .ok (.getfield 21, 3) := by decide +kernel
theorem dX3_findBest_40 : decode cX3_findBest 40 = .ok (.iload_n 1, 1) := by decide +kernel
theorem dX3_findBest_41 : decode cX3_findBest 41 = .ok (.iconst (-1), 1) := by decide +kernel
theorem dX3_findBest_42 : decode cX3_findBest 42 = .ok (.iastore, 1) := by decide +kernel
theorem dX3_findBest_43 : decode cX3_findBest 43 = .ok (.aload_n 0, 1) := by decide +kernel
theorem dX3_findBest_44 : decode cX3_findBest 44 = .ok (.iload_n 1, 1) := by decide +kernel
theorem dX3_findBest_45 : decode cX3_findBest 45 = .ok (.invokevirtual 53, 3) := by decide +kernel
theorem dX3_findBest_48 : decode cX3_findBest 48 = .ok (.iinc 1 1, 3) := by decide +kernel
theorem dX3_findBest_51 : decode cX3_findBest 51 = .ok (.goto (-30), 3) := by decide +kernel
theorem dX3_findBest_54 : decode cX3_findBest 54 = .ok (.iconst 0, 1) := by decide +kernel
theorem dX3_findBest_55 : decode cX3_findBest 55 = .ok (.istore_n 1, 1) := by decide +kernel
theorem dX3_findBest_56 : decode cX3_findBest 56 = .ok (.iload_n 1, 1) := by decide +kernel
theorem dX3_findBest_57 : decode cX3_findBest 57 = .ok (.aload_n 0, 1) := by decide +kernel
theorem dX3_findBest_58 : decode cX3_findBest 58 = .ok (.getfield 49, 3) := by decide +kernel
theorem dX3_findBest_61 : decode cX3_findBest 61 = .ok (.if_icmp .ge 41, 3) := by decide +kernel
theorem dX3_findBest_64 : decode cX3_findBest 64 = .ok (.iconst 0, 1) := by decide +kernel
theorem dX3_findBest_65 : decode cX3_findBest 65 = .ok (.istore_n 2, 1) := by decide +kernel
theorem dX3_findBest_66 : decode cX3_findBest 66 = .ok (.iload_n 2, 1) := by decide +kernel
theorem dX3_findBest_67 : decode cX3_findBest 67 = .ok (.aload_n 0, 1) := by decide +kernel
theorem dX3_findBest_68 : decode cX3_findBest 68 = .ok (.getfield 49, 3) := by decide +kernel
theorem dX3_findBest_71 : decode cX3_findBest 71 = .ok (.if_icmp .ge 25, 3) := by decide +kernel
theorem dX3_findBest_74 : decode cX3_findBest 74 = .ok (.aload_n 0, 1) := by decide +kernel
theorem dX3_findBest_75 : decode cX3_findBest 75 = .ok (.getfield 30, 3) := by decide +kernel
theorem dX3_findBest_78 : decode cX3_findBest 78 = .ok (.iload_n 1, 1) := by decide +kernel
theorem dX3_findBest_79 : decode cX3_findBest 79 = .ok (.iconst 5, 1) := by decide +kernel
theorem dX3_findBest_80 : decode cX3_findBest 80 = .ok (.imul, 1) := by decide +kernel
theorem dX3_findBest_81 : decode cX3_findBest 81 = .ok (.iload_n 2, 1) := by decide +kernel
theorem dX3_findBest_82 : decode cX3_findBest 82 = .ok (.iadd, 1) := by decide +kernel
theorem dX3_findBest_83 : decode cX3_findBest 83 = .ok (.aload_n 0, 1) := by decide +kernel
theorem dX3_findBest_84 : decode cX3_findBest 84 = .ok (.iload_n 1, 1) := by decide +kernel
theorem dX3_findBest_85 : decode cX3_findBest 85 = .ok (.iload_n 2, 1) := by decide +kernel
theorem dX3_findBest_86 : decode cX3_findBest 86 = .ok (.invokevirtual 57, 3) := by decide +kernel
theorem dX3_findBest_89 : decode cX3_findBest 89 = .ok (.iastore, 1) := by decide +kernel
theorem dX3_findBest_90 : decode cX3_findBest 90 = .ok (.iinc 2 1, 3) := by decide +kernel
theorem dX3_findBest_93 : decode cX3_findBest 93 = .ok (.goto (-27), 3) := by decide +kernel
theorem dX3_findBest_96 : decode cX3_findBest 96 = .ok (.iinc 1 1, 3) := by decide +kernel
theorem dX3_findBest_99 : decode cX3_findBest 99 = .ok (.goto (-43), 3) := by decide +kernel
theorem dX3_findBest_102 : decode cX3_findBest 102 = .ok (.aload_n 0, 1) := by decide +kernel
theorem dX3_findBest_103 : decode cX3_findBest 103 = .ok (.iconst 0, 1) := by decide +kernel
theorem dX3_findBest_104 : decode cX3_findBest 104 = .ok (.iconst 0, 1) := by decide +kernel
theorem dX3_findBest_105 : decode cX3_findBest 105 = .ok (.iconst 0, 1) := by decide +kernel
theorem dX3_findBest_106 : decode cX3_findBest 106 = .ok (.invokevirtual 61, 3) := by decide +kernel
theorem dX3_findBest_109 : decode cX3_findBest 109 = .ok (.return_, 1) := by decide +kernel
theorem dX3_partTakenBy_0 : decode cX3_partTakenBy 0 = .ok (.aload_n 0, 1) := by decide +kernel
theorem dX3_partTakenBy_1 : decode cX3_partTakenBy 1 = .ok (.getfield 21, 3) := by decide +kernel
theorem dX3_partTakenBy_4 : decode cX3_partTakenBy 4 = .ok (.aload_n 0, 1) := by decide +kernel
theorem dX3_partTakenBy_5 : decode cX3_partTakenBy 5 = .ok (.getfield 18, 3) := by decide +kernel
theorem dX3_partTakenBy_8 : decode cX3_partTakenBy 8 = .ok (.iload_n 1, 1) := by decide +kernel
theorem dX3_partTakenBy_9 : decode cX3_partTakenBy 9 = .ok (.iaload, 1) := by decide +kernel
theorem dX3_partTakenBy_10 : decode cX3_partTakenBy 10 = .ok (.iaload, 1) := by decide +kernel
theorem dX3_partTakenBy_11 : decode cX3_partTakenBy 11 = .ok (.ireturn, 1) := by decide +kernel
theorem dX3_listChoices_0 : decode cX3_listChoices 0 = .ok (.iconst 0, 1) := by decide +kernel
theorem dX3_listChoices_1 : decode cX3_listChoices 1 = .ok (.istore_n 2, 1) := by decide +kernel
theorem dX3_listChoices_2 : decode cX3_listChoices 2 = .ok (.iconst 0, 1) := by decide +kernel
theorem dX3_listChoices_3 : decode cX3_listChoices 3 = .ok (.istore_n 3, 1) := by decide +kernel
theorem dX3_listChoices_4 : decode cX3_listChoices 4 = .ok (.iconst 0, 1) := by decide +kernel
theorem dX3_listChoices_5 : decode cX3_listChoices 5 = .ok (.istore 4, 2) := by decide +kernel
theorem dX3_listChoices_7 : decode cX3_listChoices 7 = .ok (.iload 4, 2) := by decide +kernel
theorem dX3_listChoices_9 : decode cX3_listChoices 9 = .ok (.aload_n 0, 1) := by decide +kernel
theorem dX3_listChoices_10 : decode cX3_listChoices 10 = .ok (.getfield 33, 3) := by decide +kernel
theorem dX3_listChoices_13 : decode cX3_listChoices 13 = .ok (.getfield 65, 3) := by decide +kernel
theorem dX3_listChoices_16 : decode cX3_listChoices 16 = .ok (.if_icmp .ge 69, 3) := by decide +kernel
theorem dX3_listChoices_19 : decode cX3_listChoices 19 = .ok (.iconst 1, 1) := by decide +kernel
theorem dX3_listChoices_20 : decode cX3_listChoices 20 = .ok (.aload_n 0, 1) := by decide +kernel
theorem dX3_listChoices_21 : decode cX3_listChoices 21 = .ok (.getfield 33, 3) := by decide +kernel
theorem dX3_listChoices_24 : decode cX3_listChoices 24 = .ok (.getfield 68, 3) := by decide +kernel
theorem dX3_listChoices_27 : decode cX3_listChoices 27 = .ok (.iload 4, 2) := by decide +kernel
theorem dX3_listChoices_29 : decode cX3_listChoices 29 = .ok (.iaload, 1) := by decide +kernel
theorem dX3_listChoices_30 : decode cX3_listChoices 30 = .ok (.ishl, 1) := by decide +kernel
theorem dX3_listChoices_31 : decode cX3_listChoices 31 = .ok (.istore 5, 2) := by decide +kernel
theorem dX3_listChoices_33 : decode cX3_listChoices 33 = .ok (.aload_n 0, 1) := by decide +kernel
theorem dX3_listChoices_34 : decode cX3_listChoices 34 = .ok (.getfield 33, 3) := by decide +kernel
theorem dX3_listChoices_37 : decode cX3_listChoices 37 = .ok (.getfield 71, 3) := by decide +kernel
theorem dX3_listChoices_40 : decode cX3_listChoices 40 = .ok (.iload 4, 2) := by decide +kernel
theorem dX3_listChoices_42 : decode cX3_listChoices 42 = .ok (.iaload, 1) := by decide +kernel
theorem dX3_listChoices_43 : decode cX3_listChoices 43 = .ok (.iload_n 1, 1) := by decide +kernel
theorem dX3_listChoices_44 : decode cX3_listChoices 44 = .ok (.if_icmp .ne 35, 3) := by decide +kernel
theorem dX3_listChoices_47 : decode cX3_listChoices 47 = .ok (.iload_n 3, 1) := by decide +kernel
theorem dX3_listChoices_48 : decode cX3_listChoices 48 = .ok (.iload 5, 2) := by decide +kernel
theorem dX3_listChoices_50 : decode cX3_listChoices 50 = .ok (.iand, 1) := by decide +kernel
theorem dX3_listChoices_51 : decode cX3_listChoices 51 = .ok (.ifCond .ne 28, 3) := by decide +kernel
theorem dX3_listChoices_54 : decode cX3_listChoices 54 = .ok (.iload_n 2, 1) := by decide +kernel
theorem dX3_listChoices_55 : decode cX3_listChoices 55 = .ok (.iconst 4, 1) := by decide +kernel
theorem dX3_listChoices_56 : decode cX3_listChoices 56 = .ok (.if_icmp .ge 23, 3) := by decide +kernel
theorem dX3_listChoices_59 : decode cX3_listChoices 59 = .ok (.iload_n 3, 1) := by decide +kernel
theorem dX3_listChoices_60 : decode cX3_listChoices 60 = .ok (.iload 5, 2) := by decide +kernel
theorem dX3_listChoices_62 : decode cX3_listChoices 62 = .ok (.ior, 1) := by decide +kernel
theorem dX3_listChoices_63 : decode cX3_listChoices 63 = .ok (.istore_n 3, 1) := by decide +kernel
theorem dX3_listChoices_64 : decode cX3_listChoices 64 = .ok (.aload_n 0, 1) := by decide +kernel
theorem dX3_listChoices_65 : decode cX3_listChoices 65 = .ok (.getfield 24, 3) := by decide +kernel
theorem dX3_listChoices_68 : decode cX3_listChoices 68 = .ok (.iload_n 1, 1) := by decide +kernel
theorem dX3_listChoices_69 : decode cX3_listChoices 69 = .ok (.iconst 4, 1) := by decide +kernel
theorem dX3_listChoices_70 : decode cX3_listChoices 70 = .ok (.imul, 1) := by decide +kernel
theorem dX3_listChoices_71 : decode cX3_listChoices 71 = .ok (.iload_n 2, 1) := by decide +kernel
theorem dX3_listChoices_72 : decode cX3_listChoices 72 = .ok (.iadd, 1) := by decide +kernel
theorem dX3_listChoices_73 : decode cX3_listChoices 73 = .ok (.iload 4, 2) := by decide +kernel
theorem dX3_listChoices_75 : decode cX3_listChoices 75 = .ok (.iastore, 1) := by decide +kernel
theorem dX3_listChoices_76 : decode cX3_listChoices 76 = .ok (.iinc 2 1, 3) := by decide +kernel
theorem dX3_listChoices_79 : decode cX3_listChoices 79 = .ok (.iinc 4 1, 3) := by decide +kernel
theorem dX3_listChoices_82 : decode cX3_listChoices 82 = .ok (.goto (-75), 3) := by decide +kernel
theorem dX3_listChoices_85 : decode cX3_listChoices 85 = .ok (.aload_n 0, 1) := by decide +kernel
theorem dX3_listChoices_86 : decode cX3_listChoices 86 = .ok (.getfield 27, 3) := by decide +kernel
theorem dX3_listChoices_89 : decode cX3_listChoices 89 = .ok (.iload_n 1, 1) := by decide +kernel
theorem dX3_listChoices_90 : decode cX3_listChoices 90 = .ok (.iload_n 2, 1) := by decide +kernel
theorem dX3_listChoices_91 : decode cX3_listChoices 91 = .ok (.iastore, 1) := by decide +kernel
theorem dX3_listChoices_92 : decode cX3_listChoices 92 = .ok (.return_, 1) := by decide +kernel
theorem dX3_mostBetter_0 : decode cX3_mostBetter 0 = .ok (.iconst 0, 1) := by decide +kernel
theorem dX3_mostBetter_1 : decode cX3_mostBetter 1 = .ok (.istore_n 3, 1) := by decide +kernel
theorem dX3_mostBetter_2 : decode cX3_mostBetter 2 = .ok (.iconst 0, 1) := by decide +kernel
theorem dX3_mostBetter_3 : decode cX3_mostBetter 3 = .ok (.istore 4, 2) := by decide +kernel
theorem dX3_mostBetter_5 : decode cX3_mostBetter 5 = .ok (.iload 4, 2) := by decide +kernel
theorem dX3_mostBetter_7 : decode cX3_mostBetter 7 = .ok (.aload_n 0, 1) := by decide +kernel
theorem dX3_mostBetter_8 : decode cX3_mostBetter 8 = .ok (.getfield 27, 3) := by decide +kernel
theorem dX3_mostBetter_11 : decode cX3_mostBetter 11 = .ok (.iload_n 1, 1) := by decide +kernel
theorem dX3_mostBetter_12 : decode cX3_mostBetter 12 = .ok (.iaload, 1) := by decide +kernel
theorem dX3_mostBetter_13 : decode cX3_mostBetter 13 = .ok (.if_icmp .ge 72, 3) := by decide +kernel
theorem dX3_mostBetter_16 : decode cX3_mostBetter 16 = .ok (.iconst 0, 1) := by decide +kernel
theorem dX3_mostBetter_17 : decode cX3_mostBetter 17 = .ok (.istore 5, 2) := by decide +kernel
theorem dX3_mostBetter_19 : decode cX3_mostBetter 19 = .ok (.iload 5, 2) := by decide +kernel
theorem dX3_mostBetter_21 : decode cX3_mostBetter 21 = .ok (.aload_n 0, 1) := by decide +kernel
theorem dX3_mostBetter_22 : decode cX3_mostBetter 22 = .ok (.getfield 27, 3) := by decide +kernel
theorem dX3_mostBetter_25 : decode cX3_mostBetter 25 = .ok (.iload_n 2, 1) := by decide +kernel
theorem dX3_mostBetter_26 : decode cX3_mostBetter 26 = .ok (.iaload, 1) := by decide +kernel
theorem dX3_mostBetter_27 : decode cX3_mostBetter 27 = .ok (.if_icmp .ge 52, 3) := by decide +kernel
theorem dX3_mostBetter_30 : decode cX3_mostBetter 30 = .ok (.aload_n 0, 1) := by decide +kernel
theorem dX3_mostBetter_31 : decode cX3_mostBetter 31 = .ok (.getfield 24, 3) := by decide +kernel
theorem dX3_mostBetter_34 : decode cX3_mostBetter 34 = .ok (.iload_n 1, 1) := by decide +kernel
theorem dX3_mostBetter_35 : decode cX3_mostBetter 35 = .ok (.iconst 4, 1) := by decide +kernel
theorem dX3_mostBetter_36 : decode cX3_mostBetter 36 = .ok (.imul, 1) := by decide +kernel
theorem dX3_mostBetter_37 : decode cX3_mostBetter 37 = .ok (.iload 4, 2) := by decide +kernel
theorem dX3_mostBetter_39 : decode cX3_mostBetter 39 = .ok (.iadd, 1) := by decide +kernel
theorem dX3_mostBetter_40 : decode cX3_mostBetter 40 = .ok (.iaload, 1) := by decide +kernel
theorem dX3_mostBetter_41 : decode cX3_mostBetter 41 = .ok (.istore 6, 2) := by decide +kernel
theorem dX3_mostBetter_43 : decode cX3_mostBetter 43 = .ok (.aload_n 0, 1) := by decide +kernel
theorem dX3_mostBetter_44 : decode cX3_mostBetter 44 = .ok (.getfield 24, 3) := by decide +kernel
theorem dX3_mostBetter_47 : decode cX3_mostBetter 47 = .ok (.iload_n 2, 1) := by decide +kernel
theorem dX3_mostBetter_48 : decode cX3_mostBetter 48 = .ok (.iconst 4, 1) := by decide +kernel
theorem dX3_mostBetter_49 : decode cX3_mostBetter 49 = .ok (.imul, 1) := by decide +kernel
theorem dX3_mostBetter_50 : decode cX3_mostBetter 50 = .ok (.iload 5, 2) := by decide +kernel
theorem dX3_mostBetter_52 : decode cX3_mostBetter 52 = .ok (.iadd, 1) := by decide +kernel
theorem dX3_mostBetter_53 : decode cX3_mostBetter 53 = .ok (.iaload, 1) := by decide +kernel
theorem dX3_mostBetter_54 : decode cX3_mostBetter 54 = .ok (.istore 7, 2) := by decide +kernel
theorem dX3_mostBetter_56 : decode cX3_mostBetter 56 = .ok (.iload_n 3, 1) := by decide +kernel
theorem dX3_mostBetter_57 : decode cX3_mostBetter 57 = .ok (.aload_n 0, 1) := by decide +kernel
theorem dX3_mostBetter_58 : decode cX3_mostBetter 58 = .ok (.getfield 33, 3) := by decide +kernel
theorem dX3_mostBetter_61 : decode cX3_mostBetter 61 = .ok (.iload_n 1, 1) := by decide +kernel
theorem dX3_mostBetter_62 : decode cX3_mostBetter 62 = .ok (.iload 6, 2) := by decide +kernel
theorem dX3_mostBetter_64 : decode cX3_mostBetter 64 = .ok (.iload 7, 2) := by decide +kernel
theorem dX3_mostBetter_66 : decode cX3_mostBetter 66 = .ok (.invokevirtual 74, 3) := by decide +kernel
theorem dX3_mostBetter_69 : decode cX3_mostBetter 69 = .ok (.invokestatic 78, 3) := by decide +kernel
theorem dX3_mostBetter_72 : decode cX3_mostBetter 72 = .ok (.istore_n 3, 1) := by decide +kernel
theorem dX3_mostBetter_73 : decode cX3_mostBetter 73 = .ok (.iinc 5 1, 3) := by decide +kernel
theorem dX3_mostBetter_76 : decode cX3_mostBetter 76 = .ok (.goto (-57), 3) := by decide +kernel
theorem dX3_mostBetter_79 : decode cX3_mostBetter 79 = .ok (.iinc 4 1, 3) := by decide +kernel
theorem dX3_mostBetter_82 : decode cX3_mostBetter 82 = .ok (.goto (-77), 3) := by decide +kernel
theorem dX3_mostBetter_85 : decode cX3_mostBetter 85 = .ok (.iload_n 3, 1) := by decide +kernel
theorem dX3_mostBetter_86 : decode cX3_mostBetter 86 = .ok (.ireturn, 1) := by decide +kernel
theorem dX3_chooseGiver_0 : decode cX3_chooseGiver 0 = .ok (.iload_n 1, 1) := by decide +kernel
theorem dX3_chooseGiver_1 : decode cX3_chooseGiver 1 = .ok (.aload_n 0, 1) := by decide +kernel
theorem dX3_chooseGiver_2 : decode cX3_chooseGiver 2 = .ok (.getfield 49, 3) := by decide +kernel
theorem dX3_chooseGiver_5 : decode cX3_chooseGiver 5 = .ok (.if_icmp .lt 10, 3) := by decide +kernel
theorem dX3_chooseGiver_8 : decode cX3_chooseGiver 8 = .ok (.aload_n 0, 1) := by decide +kernel
theorem dX3_chooseGiver_9 : decode cX3_chooseGiver 9 = .ok (.iconst 0, 1) := by decide +kernel
theorem dX3_chooseGiver_10 : decode cX3_chooseGiver 10 = .ok (.iload_n 3, 1) := by decide +kernel
theorem dX3_chooseGiver_11 : decode cX3_chooseGiver 11 = .ok (.invokevirtual 83, 3) := by decide +kernel
theorem dX3_chooseGiver_14 : decode cX3_chooseGiver 14 = .ok (.return_, 1) := by decide +kernel
theorem dX3_chooseGiver_15 : decode cX3_chooseGiver 15 = .ok (.iload_n 2, 1) := by decide +kernel
theorem dX3_chooseGiver_16 : decode cX3_chooseGiver 16 = .ok (.iload_n 1, 1) := by decide +kernel
theorem dX3_chooseGiver_17 : decode cX3_chooseGiver 17 = .ok (.ishr, 1) := by decide +kernel
theorem dX3_chooseGiver_18 : decode cX3_chooseGiver 18 = .ok (.iconst 1, 1) := by decide +kernel
theorem dX3_chooseGiver_19 : decode cX3_chooseGiver 19 = .ok (.iand, 1) := by decide +kernel
theorem dX3_chooseGiver_20 : decode cX3_chooseGiver 20 = .ok (.ifCond .ne 23, 3) := by decide +kernel
theorem dX3_chooseGiver_23 : decode cX3_chooseGiver 23 = .ok (.aload_n 0, 1) := by decide +kernel
theorem dX3_chooseGiver_24 : decode cX3_chooseGiver 24 = .ok (.getfield 9, 3) := by decide +kernel
theorem dX3_chooseGiver_27 : decode cX3_chooseGiver 27 = .ok (.iload_n 1, 1) := by decide +kernel
theorem dX3_chooseGiver_28 : decode cX3_chooseGiver 28 = .ok (.iload_n 1, 1) := by decide +kernel
theorem dX3_chooseGiver_29 : decode cX3_chooseGiver 29 = .ok (.iastore, 1) := by decide +kernel
theorem dX3_chooseGiver_30 : decode cX3_chooseGiver 30 = .ok (.aload_n 0, 1) := by decide +kernel
theorem dX3_chooseGiver_31 : decode cX3_chooseGiver 31 = .ok (.iload_n 1, 1) := by decide +kernel
theorem dX3_chooseGiver_32 : decode cX3_chooseGiver 32 = .ok (.iconst 1, 1) := by decide +kernel
theorem dX3_chooseGiver_33 : decode cX3_chooseGiver 33 = .ok (.iadd, 1) := by decide +kernel
theorem dX3_chooseGiver_34 : decode cX3_chooseGiver 34 = .ok (.iload_n 2, 1) := by decide +kernel
theorem dX3_chooseGiver_35 : decode cX3_chooseGiver 35 = .ok (.iconst 1, 1) := by decide +kernel
theorem dX3_chooseGiver_36 : decode cX3_chooseGiver 36 = .ok (.iload_n 1, 1) := by decide +kernel
theorem dX3_chooseGiver_37 : decode cX3_chooseGiver 37 = .ok (.ishl, 1) := by decide +kernel
theorem dX3_chooseGiver_38 : decode cX3_chooseGiver 38 = .ok (.ior, 1) := by decide +kernel
theorem dX3_chooseGiver_39 : decode cX3_chooseGiver 39 = .ok (.iload_n 3, 1) := by decide +kernel
theorem dX3_chooseGiver_40 : decode cX3_chooseGiver 40 = .ok (.invokevirtual 61, 3) := by decide +kernel
theorem dX3_chooseGiver_43 : decode cX3_chooseGiver 43 = .ok (.iconst 0, 1) := by decide +kernel
theorem dX3_chooseGiver_44 : decode cX3_chooseGiver 44 = .ok (.istore 4, 2) := by decide +kernel
theorem dX3_chooseGiver_46 : decode cX3_chooseGiver 46 = .ok (.iload 4, 2) := by decide +kernel
theorem dX3_chooseGiver_48 : decode cX3_chooseGiver 48 = .ok (.aload_n 0, 1) := by decide +kernel
theorem dX3_chooseGiver_49 : decode cX3_chooseGiver 49 = .ok (.getfield 49, 3) := by decide +kernel
theorem dX3_chooseGiver_52 : decode cX3_chooseGiver 52 = .ok (.if_icmp .ge 67, 3) := by decide +kernel
theorem dX3_chooseGiver_55 : decode cX3_chooseGiver 55 = .ok (.aload_n 0, 1) := by decide +kernel
theorem dX3_chooseGiver_56 : decode cX3_chooseGiver 56 = .ok (.getfield 30, 3) := by decide +kernel
theorem dX3_chooseGiver_59 : decode cX3_chooseGiver 59 = .ok (.iload_n 1, 1) := by decide +kernel
theorem dX3_chooseGiver_60 : decode cX3_chooseGiver 60 = .ok (.iconst 5, 1) := by decide +kernel
theorem dX3_chooseGiver_61 : decode cX3_chooseGiver 61 = .ok (.imul, 1) := by decide +kernel
theorem dX3_chooseGiver_62 : decode cX3_chooseGiver 62 = .ok (.iload 4, 2) := by decide +kernel
theorem dX3_chooseGiver_64 : decode cX3_chooseGiver 64 = .ok (.iadd, 1) := by decide +kernel
theorem dX3_chooseGiver_65 : decode cX3_chooseGiver 65 = .ok (.iaload, 1) := by decide +kernel
theorem dX3_chooseGiver_66 : decode cX3_chooseGiver 66 = .ok (.istore 5, 2) := by decide +kernel
theorem dX3_chooseGiver_68 : decode cX3_chooseGiver 68 = .ok (.iload 4, 2) := by decide +kernel
theorem dX3_chooseGiver_70 : decode cX3_chooseGiver 70 = .ok (.iload_n 1, 1) := by decide +kernel
theorem dX3_chooseGiver_71 : decode cX3_chooseGiver 71 = .ok (.if_icmp .eq 42, 3) := by decide +kernel
theorem dX3_chooseGiver_74 : decode cX3_chooseGiver 74 = .ok (.iload_n 2, 1) := by decide +kernel
theorem dX3_chooseGiver_75 : decode cX3_chooseGiver 75 = .ok (.iload 4, 2) := by decide +kernel
theorem dX3_chooseGiver_77 : decode cX3_chooseGiver 77 = .ok (.ishr, 1) := by decide +kernel
theorem dX3_chooseGiver_78 : decode cX3_chooseGiver 78 = .ok (.iconst 1, 1) := by decide +kernel
theorem dX3_chooseGiver_79 : decode cX3_chooseGiver 79 = .ok (.iand, 1) := by decide +kernel
theorem dX3_chooseGiver_80 : decode cX3_chooseGiver 80 = .ok (.ifCond .ne 33, 3) := by decide +kernel
theorem dX3_chooseGiver_83 : decode cX3_chooseGiver 83 = .ok (.iload 5, 2) := by decide +kernel
theorem dX3_chooseGiver_85 : decode cX3_chooseGiver 85 = .ok (.ifCond .le 28, 3) := by decide +kernel
theorem dX3_chooseGiver_88 : decode cX3_chooseGiver 88 = .ok (.aload_n 0, 1) := by decide +kernel
theorem dX3_chooseGiver_89 : decode cX3_chooseGiver 89 = .ok (.getfield 9, 3) := by decide +kernel
theorem dX3_chooseGiver_92 : decode cX3_chooseGiver 92 = .ok (.iload_n 1, 1) := by decide +kernel
theorem dX3_chooseGiver_93 : decode cX3_chooseGiver 93 = .ok (.iload 4, 2) := by decide +kernel
theorem dX3_chooseGiver_95 : decode cX3_chooseGiver 95 = .ok (.iastore, 1) := by decide +kernel
theorem dX3_chooseGiver_96 : decode cX3_chooseGiver 96 = .ok (.aload_n 0, 1) := by decide +kernel
theorem dX3_chooseGiver_97 : decode cX3_chooseGiver 97 = .ok (.iload_n 1, 1) := by decide +kernel
theorem dX3_chooseGiver_98 : decode cX3_chooseGiver 98 = .ok (.iconst 1, 1) := by decide +kernel
theorem dX3_chooseGiver_99 : decode cX3_chooseGiver 99 = .ok (.iadd, 1) := by decide +kernel
theorem dX3_chooseGiver_100 : decode cX3_chooseGiver 100 = .ok (.iload_n 2, 1) := by decide +kernel
theorem dX3_chooseGiver_101 : decode cX3_chooseGiver 101 = .ok (.iconst 1, 1) := by decide +kernel
theorem dX3_chooseGiver_102 : decode cX3_chooseGiver 102 = .ok (.iload 4, 2) := by decide +kernel
theorem dX3_chooseGiver_104 : decode cX3_chooseGiver 104 = .ok (.ishl, 1) := by decide +kernel
theorem dX3_chooseGiver_105 : decode cX3_chooseGiver 105 = .ok (.ior, 1) := by decide +kernel
theorem dX3_chooseGiver_106 : decode cX3_chooseGiver 106 = .ok (.iload_n 3, 1) := by decide +kernel
theorem dX3_chooseGiver_107 : decode cX3_chooseGiver 107 = .ok (.iload 5, 2) := by decide +kernel
theorem dX3_chooseGiver_109 : decode cX3_chooseGiver 109 = .ok (.iadd, 1) := by decide +kernel
theorem dX3_chooseGiver_110 : decode cX3_chooseGiver 110 = .ok (.invokevirtual 61, 3) := by decide +kernel
theorem dX3_chooseGiver_113 : decode cX3_chooseGiver 113 = .ok (.iinc 4 1, 3) := by decide +kernel
theorem dX3_chooseGiver_116 : decode cX3_chooseGiver 116 = .ok (.goto (-70), 3) := by decide +kernel
theorem dX3_chooseGiver_119 : decode cX3_chooseGiver 119 = .ok (.return_, 1) := by decide +kernel
theorem dX3_chooseThrown_0 : decode cX3_chooseThrown 0 = .ok (.iload_n 2, 1) := by decide +kernel
theorem dX3_chooseThrown_1 : decode cX3_chooseThrown 1 = .ok (.aload_n 0, 1) := by decide +kernel
theorem dX3_chooseThrown_2 : decode cX3_chooseThrown 2 = .ok (.getfield 50, 3) := by decide +kernel
theorem dX3_chooseThrown_5 : decode cX3_chooseThrown 5 = .ok (.if_icmp .gt 4, 3) := by decide +kernel
theorem dX3_chooseThrown_8 : decode cX3_chooseThrown 8 = .ok (.return_, 1) := by decide +kernel
theorem dX3_chooseThrown_9 : decode cX3_chooseThrown 9 = .ok (.iload_n 1, 1) := by decide +kernel
theorem dX3_chooseThrown_10 : decode cX3_chooseThrown 10 = .ok (.aload_n 0, 1) := by decide +kernel
theorem dX3_chooseThrown_11 : decode cX3_chooseThrown 11 = .ok (.getfield 49, 3) := by decide +kernel
theorem dX3_chooseThrown_14 : decode cX3_chooseThrown 14 = .ok (.if_icmp .lt 9, 3) := by decide +kernel
theorem dX3_chooseThrown_17 : decode cX3_chooseThrown 17 = .ok (.aload_n 0, 1) := by decide +kernel
theorem dX3_chooseThrown_18 : decode cX3_chooseThrown 18 = .ok (.iload_n 2, 1) := by decide +kernel
theorem dX3_chooseThrown_19 : decode cX3_chooseThrown 19 = .ok (.invokevirtual 87, 3) := by decide +kernel
theorem dX3_chooseThrown_22 : decode cX3_chooseThrown 22 = .ok (.return_, 1) := by decide +kernel
theorem dX3_chooseThrown_23 : decode cX3_chooseThrown 23 = .ok (.aload_n 0, 1) := by decide +kernel
theorem dX3_chooseThrown_24 : decode cX3_chooseThrown 24 = .ok (.getfield 9, 3) := by decide +kernel
theorem dX3_chooseThrown_27 : decode cX3_chooseThrown 27 = .ok (.iload_n 1, 1) := by decide +kernel
theorem dX3_chooseThrown_28 : decode cX3_chooseThrown 28 = .ok (.iaload, 1) := by decide +kernel
theorem dX3_chooseThrown_29 : decode cX3_chooseThrown 29 = .ok (.iload_n 1, 1) := by decide +kernel
theorem dX3_chooseThrown_30 : decode cX3_chooseThrown 30 = .ok (.if_icmp .ne 19, 3) := by decide +kernel
theorem dX3_chooseThrown_33 : decode cX3_chooseThrown 33 = .ok (.aload_n 0, 1) := by decide +kernel
theorem dX3_chooseThrown_34 : decode cX3_chooseThrown 34 = .ok (.getfield 15, 3) := by decide +kernel
theorem dX3_chooseThrown_37 : decode cX3_chooseThrown 37 = .ok (.iload_n 1, 1) := by decide +kernel
theorem dX3_chooseThrown_38 : decode cX3_chooseThrown 38 = .ok (.iconst (-1), 1) := by decide +kernel
theorem dX3_chooseThrown_39 : decode cX3_chooseThrown 39 = .ok (.iastore, 1) := by decide +kernel
theorem dX3_chooseThrown_40 : decode cX3_chooseThrown 40 = .ok (.aload_n 0, 1) := by decide +kernel
theorem dX3_chooseThrown_41 : decode cX3_chooseThrown 41 = .ok (.iload_n 1, 1) := by decide +kernel
theorem dX3_chooseThrown_42 : decode cX3_chooseThrown 42 = .ok (.iconst 1, 1) := by decide +kernel
theorem dX3_chooseThrown_43 : decode cX3_chooseThrown 43 = .ok (.iadd, 1) := by decide +kernel
theorem dX3_chooseThrown_44 : decode cX3_chooseThrown 44 = .ok (.iload_n 2, 1) := by decide +kernel
theorem dX3_chooseThrown_45 : decode cX3_chooseThrown 45 = .ok (.invokevirtual 83, 3) := by decide +kernel
theorem dX3_chooseThrown_48 : decode cX3_chooseThrown 48 = .ok (.return_, 1) := by decide +kernel
theorem dX3_chooseThrown_49 : decode cX3_chooseThrown 49 = .ok (.iconst 0, 1) := by decide +kernel
theorem dX3_chooseThrown_50 : decode cX3_chooseThrown 50 = .ok (.istore_n 3, 1) := by decide +kernel
theorem dX3_chooseThrown_51 : decode cX3_chooseThrown 51 = .ok (.iload_n 3, 1) := by decide +kernel
theorem dX3_chooseThrown_52 : decode cX3_chooseThrown 52 = .ok (.aload_n 0, 1) := by decide +kernel
theorem dX3_chooseThrown_53 : decode cX3_chooseThrown 53 = .ok (.getfield 27, 3) := by decide +kernel
theorem dX3_chooseThrown_56 : decode cX3_chooseThrown 56 = .ok (.iload_n 1, 1) := by decide +kernel
theorem dX3_chooseThrown_57 : decode cX3_chooseThrown 57 = .ok (.iaload, 1) := by decide +kernel
theorem dX3_chooseThrown_58 : decode cX3_chooseThrown 58 = .ok (.if_icmp .ge 49, 3) := by decide +kernel
theorem dX3_chooseThrown_61 : decode cX3_chooseThrown 61 = .ok (.aload_n 0, 1) := by decide +kernel
theorem dX3_chooseThrown_62 : decode cX3_chooseThrown 62 = .ok (.getfield 15, 3) := by decide +kernel
theorem dX3_chooseThrown_65 : decode cX3_chooseThrown 65 = .ok (.iload_n 1, 1) := by decide +kernel
theorem dX3_chooseThrown_66 : decode cX3_chooseThrown 66 = .ok (.aload_n 0, 1) := by decide +kernel
theorem dX3_chooseThrown_67 : decode cX3_chooseThrown 67 = .ok (.getfield 24, 3) := by decide +kernel
theorem dX3_chooseThrown_70 : decode cX3_chooseThrown 70 = .ok (.iload_n 1, 1) := by decide +kernel
theorem dX3_chooseThrown_71 : decode cX3_chooseThrown 71 = .ok (.iconst 4, 1) := by decide +kernel
theorem dX3_chooseThrown_72 : decode cX3_chooseThrown 72 = .ok (.imul, 1) := by decide +kernel
theorem dX3_chooseThrown_73 : decode cX3_chooseThrown 73 = .ok (.iload_n 3, 1) := by decide +kernel
theorem dX3_chooseThrown_74 : decode cX3_chooseThrown 74 = .ok (.iadd, 1) := by decide +kernel
theorem dX3_chooseThrown_75 : decode cX3_chooseThrown 75 = .ok (.iaload, 1) := by decide +kernel
theorem dX3_chooseThrown_76 : decode cX3_chooseThrown 76 = .ok (.iastore, 1) := by decide +kernel
theorem dX3_chooseThrown_77 : decode cX3_chooseThrown 77 = .ok (.aload_n 0, 1) := by decide +kernel
theorem dX3_chooseThrown_78 : decode cX3_chooseThrown 78 = .ok (.iload_n 1, 1) := by decide +kernel
theorem dX3_chooseThrown_79 : decode cX3_chooseThrown 79 = .ok (.invokevirtual 90, 3) := by decide +kernel
theorem dX3_chooseThrown_82 : decode cX3_chooseThrown 82 = .ok (.istore 4, 2) := by decide +kernel
theorem dX3_chooseThrown_84 : decode cX3_chooseThrown 84 = .ok (.iload 4, 2) := by decide +kernel
theorem dX3_chooseThrown_86 : decode cX3_chooseThrown 86 = .ok (.iconst (-1), 1) := by decide +kernel
theorem dX3_chooseThrown_87 : decode cX3_chooseThrown 87 = .ok (.if_icmp .eq 14, 3) := by decide +kernel
theorem dX3_chooseThrown_90 : decode cX3_chooseThrown 90 = .ok (.aload_n 0, 1) := by decide +kernel
theorem dX3_chooseThrown_91 : decode cX3_chooseThrown 91 = .ok (.iload_n 1, 1) := by decide +kernel
theorem dX3_chooseThrown_92 : decode cX3_chooseThrown 92 = .ok (.iconst 1, 1) := by decide +kernel
theorem dX3_chooseThrown_93 : decode cX3_chooseThrown 93 = .ok (.iadd, 1) := by decide +kernel
theorem dX3_chooseThrown_94 : decode cX3_chooseThrown 94 = .ok (.iload_n 2, 1) := by decide +kernel
theorem dX3_chooseThrown_95 : decode cX3_chooseThrown 95 = .ok (.iload 4, 2) := by decide +kernel
theorem dX3_chooseThrown_97 : decode cX3_chooseThrown 97 = .ok (.isub, 1) := by decide +kernel
theorem dX3_chooseThrown_98 : decode cX3_chooseThrown 98 = .ok (.invokevirtual 83, 3) := by decide +kernel
theorem dX3_chooseThrown_101 : decode cX3_chooseThrown 101 = .ok (.iinc 3 1, 3) := by decide +kernel
theorem dX3_chooseThrown_104 : decode cX3_chooseThrown 104 = .ok (.goto (-53), 3) := by decide +kernel
theorem dX3_chooseThrown_107 : decode cX3_chooseThrown 107 = .ok (.return_, 1) := by decide +kernel
theorem dX3_hopeLostBy_0 : decode cX3_hopeLostBy 0 = .ok (.iconst 0, 1) := by decide +kernel
theorem dX3_hopeLostBy_1 : decode cX3_hopeLostBy 1 = .ok (.istore_n 2, 1) := by decide +kernel
theorem dX3_hopeLostBy_2 : decode cX3_hopeLostBy 2 = .ok (.iconst 0, 1) := by decide +kernel
theorem dX3_hopeLostBy_3 : decode cX3_hopeLostBy 3 = .ok (.istore_n 3, 1) := by decide +kernel
theorem dX3_hopeLostBy_4 : decode cX3_hopeLostBy 4 = .ok (.iload_n 3, 1) := by decide +kernel
theorem dX3_hopeLostBy_5 : decode cX3_hopeLostBy 5 = .ok (.iload_n 1, 1) := by decide +kernel
theorem dX3_hopeLostBy_6 : decode cX3_hopeLostBy 6 = .ok (.if_icmp .gt 99, 3) := by decide +kernel
theorem dX3_hopeLostBy_9 : decode cX3_hopeLostBy 9 = .ok (.aload_n 0, 1) := by decide +kernel
theorem dX3_hopeLostBy_10 : decode cX3_hopeLostBy 10 = .ok (.getfield 9, 3) := by decide +kernel
theorem dX3_hopeLostBy_13 : decode cX3_hopeLostBy 13 = .ok (.iload_n 3, 1) := by decide +kernel
theorem dX3_hopeLostBy_14 : decode cX3_hopeLostBy 14 = .ok (.iaload, 1) := by decide +kernel
theorem dX3_hopeLostBy_15 : decode cX3_hopeLostBy 15 = .ok (.istore 4, 2) := by decide +kernel
theorem dX3_hopeLostBy_17 : decode cX3_hopeLostBy 17 = .ok (.iload 4, 2) := by decide +kernel
theorem dX3_hopeLostBy_19 : decode cX3_hopeLostBy 19 = .ok (.iload_n 3, 1) := by decide +kernel
theorem dX3_hopeLostBy_20 : decode cX3_hopeLostBy 20 = .ok (.if_icmp .eq 24, 3) := by decide +kernel
theorem dX3_hopeLostBy_23 : decode cX3_hopeLostBy 23 = .ok (.iload 4, 2) := by decide +kernel
theorem dX3_hopeLostBy_25 : decode cX3_hopeLostBy 25 = .ok (.iload_n 1, 1) := by decide +kernel
theorem dX3_hopeLostBy_26 : decode cX3_hopeLostBy 26 = .ok (.if_icmp .gt 18, 3) := by decide +kernel
theorem dX3_hopeLostBy_29 : decode cX3_hopeLostBy 29 = .ok (.iload_n 3, 1) := by decide +kernel
theorem dX3_hopeLostBy_30 : decode cX3_hopeLostBy 30 = .ok (.iload_n 1, 1) := by decide +kernel
theorem dX3_hopeLostBy_31 : decode cX3_hopeLostBy 31 = .ok (.if_icmp .eq 9, 3) := by decide +kernel
theorem dX3_hopeLostBy_34 : decode cX3_hopeLostBy 34 = .ok (.iload 4, 2) := by decide +kernel
theorem dX3_hopeLostBy_36 : decode cX3_hopeLostBy 36 = .ok (.iload_n 1, 1) := by decide +kernel
theorem dX3_hopeLostBy_37 : decode cX3_hopeLostBy 37 = .ok (.if_icmp .ne 7, 3) := by decide +kernel
theorem dX3_hopeLostBy_40 : decode cX3_hopeLostBy 40 = .ok (.iconst 1, 1) := by decide +kernel
theorem dX3_hopeLostBy_41 : decode cX3_hopeLostBy 41 = .ok (.goto 4, 3) := by decide +kernel
theorem dX3_hopeLostBy_44 : decode cX3_hopeLostBy 44 = .ok (.iconst 0, 1) := by decide +kernel
theorem dX3_hopeLostBy_45 : decode cX3_hopeLostBy 45 = .ok (.istore 5, 2) := by decide +kernel
theorem dX3_hopeLostBy_47 : decode cX3_hopeLostBy 47 = .ok (.iload 5, 2) := by decide +kernel
theorem dX3_hopeLostBy_49 : decode cX3_hopeLostBy 49 = .ok (.ifCond .eq 50, 3) := by decide +kernel
theorem dX3_hopeLostBy_52 : decode cX3_hopeLostBy 52 = .ok (.aload_n 0, 1) := by decide +kernel
theorem dX3_hopeLostBy_53 : decode cX3_hopeLostBy 53 = .ok (.getfield 33, 3) := by decide +kernel
theorem dX3_hopeLostBy_56 : decode cX3_hopeLostBy 56 = .ok (.iload_n 3, 1) := by decide +kernel
theorem dX3_hopeLostBy_57 : decode cX3_hopeLostBy 57 = .ok (.aload_n 0, 1) := by decide +kernel
theorem dX3_hopeLostBy_58 : decode cX3_hopeLostBy 58 = .ok (.getfield 15, 3) := by decide +kernel
theorem dX3_hopeLostBy_61 : decode cX3_hopeLostBy 61 = .ok (.iload_n 3, 1) := by decide +kernel
theorem dX3_hopeLostBy_62 : decode cX3_hopeLostBy 62 = .ok (.iaload, 1) := by decide +kernel
theorem dX3_hopeLostBy_63 : decode cX3_hopeLostBy 63 = .ok (.aload_n 0, 1) := by decide +kernel
theorem dX3_hopeLostBy_64 : decode cX3_hopeLostBy 64 = .ok (.getfield 15, 3) := by decide +kernel
theorem dX3_hopeLostBy_67 : decode cX3_hopeLostBy 67 = .ok (.iload 4, 2) := by decide +kernel
theorem dX3_hopeLostBy_69 : decode cX3_hopeLostBy 69 = .ok (.iaload, 1) := by decide +kernel
theorem dX3_hopeLostBy_70 : decode cX3_hopeLostBy 70 = .ok (.invokevirtual 74, 3) := by decide +kernel
theorem dX3_hopeLostBy_73 : decode cX3_hopeLostBy 73 = .ok (.istore 6, 2) := by decide +kernel
theorem dX3_hopeLostBy_75 : decode cX3_hopeLostBy 75 = .ok (.iload 6, 2) := by decide +kernel
theorem dX3_hopeLostBy_77 : decode cX3_hopeLostBy 77 = .ok (.ifCond .gt 5, 3) := by decide +kernel
theorem dX3_hopeLostBy_80 : decode cX3_hopeLostBy 80 = .ok (.iconst (-1), 1) := by decide +kernel
theorem dX3_hopeLostBy_81 : decode cX3_hopeLostBy 81 = .ok (.ireturn, 1) := by decide +kernel
theorem dX3_hopeLostBy_82 : decode cX3_hopeLostBy 82 = .ok (.iload_n 2, 1) := by decide +kernel
theorem dX3_hopeLostBy_83 : decode cX3_hopeLostBy 83 = .ok (.aload_n 0, 1) := by decide +kernel
theorem dX3_hopeLostBy_84 : decode cX3_hopeLostBy 84 = .ok (.getfield 30, 3) := by decide +kernel
theorem dX3_hopeLostBy_87 : decode cX3_hopeLostBy 87 = .ok (.iload_n 3, 1) := by decide +kernel
theorem dX3_hopeLostBy_88 : decode cX3_hopeLostBy 88 = .ok (.iconst 5, 1) := by decide +kernel
theorem dX3_hopeLostBy_89 : decode cX3_hopeLostBy 89 = .ok (.imul, 1) := by decide +kernel
theorem dX3_hopeLostBy_90 : decode cX3_hopeLostBy 90 = .ok (.iload 4, 2) := by decide +kernel
theorem dX3_hopeLostBy_92 : decode cX3_hopeLostBy 92 = .ok (.iadd, 1) := by decide +kernel
theorem dX3_hopeLostBy_93 : decode cX3_hopeLostBy 93 = .ok (.iaload, 1) := by decide +kernel
theorem dX3_hopeLostBy_94 : decode cX3_hopeLostBy 94 = .ok (.iload 6, 2) := by decide +kernel
theorem dX3_hopeLostBy_96 : decode cX3_hopeLostBy 96 = .ok (.isub, 1) := by decide +kernel
theorem dX3_hopeLostBy_97 : decode cX3_hopeLostBy 97 = .ok (.iadd, 1) := by decide +kernel
theorem dX3_hopeLostBy_98 : decode cX3_hopeLostBy 98 = .ok (.istore_n 2, 1) := by decide +kernel
theorem dX3_hopeLostBy_99 : decode cX3_hopeLostBy 99 = .ok (.iinc 3 1, 3) := by decide +kernel
theorem dX3_hopeLostBy_102 : decode cX3_hopeLostBy 102 = .ok (.goto (-98), 3) := by decide +kernel
theorem dX3_hopeLostBy_105 : decode cX3_hopeLostBy 105 = .ok (.iload_n 2, 1) := by decide +kernel
theorem dX3_hopeLostBy_106 : decode cX3_hopeLostBy 106 = .ok (.ireturn, 1) := by decide +kernel
theorem dX3_remember_0 : decode cX3_remember 0 = .ok (.aload_n 0, 1) := by decide +kernel
theorem dX3_remember_1 : decode cX3_remember 1 = .ok (.iload_n 1, 1) := by decide +kernel
theorem dX3_remember_2 : decode cX3_remember 2 = .ok (.putfield 50, 3) := by decide +kernel
theorem dX3_remember_5 : decode cX3_remember 5 = .ok (.aload_n 0, 1) := by decide +kernel
theorem dX3_remember_6 : decode cX3_remember 6 = .ok (.getfield 9, 3) := by decide +kernel
theorem dX3_remember_9 : decode cX3_remember 9 = .ok (.iconst 0, 1) := by decide +kernel
theorem dX3_remember_10 : decode cX3_remember 10 = .ok (.aload_n 0, 1) := by decide +kernel
theorem dX3_remember_11 : decode cX3_remember 11 = .ok (.getfield 18, 3) := by decide +kernel
theorem dX3_remember_14 : decode cX3_remember 14 = .ok (.iconst 0, 1) := by decide +kernel
theorem dX3_remember_15 : decode cX3_remember 15 = .ok (.iconst 5, 1) := by decide +kernel
theorem dX3_remember_16 : decode cX3_remember 16 = .ok (.invokestatic 94, 3) := by decide +kernel
theorem dX3_remember_19 : decode cX3_remember 19 = .ok (.aload_n 0, 1) := by decide +kernel
theorem dX3_remember_20 : decode cX3_remember 20 = .ok (.getfield 15, 3) := by decide +kernel
theorem dX3_remember_23 : decode cX3_remember 23 = .ok (.iconst 0, 1) := by decide +kernel
theorem dX3_remember_24 : decode cX3_remember 24 = .ok (.aload_n 0, 1) := by decide +kernel
theorem dX3_remember_25 : decode cX3_remember 25 = .ok (.getfield 21, 3) := by decide +kernel
theorem dX3_remember_28 : decode cX3_remember 28 = .ok (.iconst 0, 1) := by decide +kernel
theorem dX3_remember_29 : decode cX3_remember 29 = .ok (.iconst 5, 1) := by decide +kernel
theorem dX3_remember_30 : decode cX3_remember 30 = .ok (.invokestatic 94, 3) := by decide +kernel
theorem dX3_remember_33 : decode cX3_remember 33 = .ok (.return_, 1) := by decide +kernel
theorem dX4_init_0 : decode cX4_init 0 = .ok (.aload_n 0, 1) := by decide +kernel
theorem dX4_init_1 : decode cX4_init 1 = .ok (.invokespecial 3, 3) := by decide +kernel
theorem dX4_init_4 : decode cX4_init 4 = .ok (.aload_n 0, 1) := by decide +kernel
theorem dX4_init_5 : decode cX4_init 5 = .ok (.iconst 5, 1) := by decide +kernel
theorem dX4_init_6 : decode cX4_init 6 = .ok (.newarray .int, 2) := by decide +kernel
theorem dX4_init_8 : decode cX4_init 8 = .ok (.putfield 9, 3) := by decide +kernel
theorem dX4_init_11 : decode cX4_init 11 = .ok (.aload_n 0, 1) := by decide +kernel
theorem dX4_init_12 : decode cX4_init 12 = .ok (.bipush 20, 2) := by decide +kernel
theorem dX4_init_14 : decode cX4_init 14 = .ok (.newarray .int, 2) := by decide +kernel
theorem dX4_init_16 : decode cX4_init 16 = .ok (.putfield 15, 3) := by decide +kernel
theorem dX4_init_19 : decode cX4_init 19 = .ok (.aload_n 0, 1) := by decide +kernel
theorem dX4_init_20 : decode cX4_init 20 = .ok (.bipush 20, 2) := by decide +kernel
theorem dX4_init_22 : decode cX4_init 22 = .ok (.newarray .int, 2) := by decide +kernel
theorem dX4_init_24 : decode cX4_init 24 = .ok (.putfield 18, 3) := by decide +kernel
theorem dX4_init_27 : decode cX4_init 27 = .ok (.aload_n 0, 1) := by decide +kernel
theorem dX4_init_28 : decode cX4_init 28 = .ok (.bipush 30, 2) := by decide +kernel
theorem dX4_init_30 : decode cX4_init 30 = .ok (.newarray .int, 2) := by decide +kernel
theorem dX4_init_32 : decode cX4_init 32 = .ok (.putfield 21, 3) := by decide +kernel
theorem dX4_init_35 : decode cX4_init 35 = .ok (.return_, 1) := by decide +kernel
theorem dX4_clear_0 : decode cX4_clear 0 = .ok (.aload_n 0, 1) := by decide +kernel
theorem dX4_clear_1 : decode cX4_clear 1 = .ok (.iconst 0, 1) := by decide +kernel
theorem dX4_clear_2 : decode cX4_clear 2 = .ok (.putfield 24, 3) := by decide +kernel
theorem dX4_clear_5 : decode cX4_clear 5 = .ok (.aload_n 0, 1) := by decide +kernel
theorem dX4_clear_6 : decode cX4_clear 6 = .ok (.iconst 0, 1) := by decide +kernel
theorem dX4_clear_7 : decode cX4_clear 7 = .ok (.putfield 28, 3) := by decide +kernel
theorem dX4_clear_10 : decode cX4_clear 10 = .ok (.aload_n 0, 1) := by decide +kernel
theorem dX4_clear_11 : decode cX4_clear 11 = .ok (.iconst 0, 1) := by decide +kernel
theorem dX4_clear_12 : decode cX4_clear 12 = .ok (.putfield 31, 3) := by decide +kernel
theorem dX4_clear_15 : decode cX4_clear 15 = .ok (.aload_n 0, 1) := by decide +kernel
theorem dX4_clear_16 : decode cX4_clear 16 = .ok (.getfield 21, 3) := by decide +kernel
theorem dX4_clear_19 : decode cX4_clear 19 = .ok (.iconst 0, 1) := by decide +kernel
theorem dX4_clear_20 : decode cX4_clear 20 = .ok (.invokestatic 34, 3) := by decide +kernel
theorem dX4_clear_23 : decode cX4_clear 23 = .ok (.return_, 1) := by decide +kernel
theorem dX4_copyFrom_0 : decode cX4_copyFrom 0 = .ok (.aload_n 0, 1) := by decide +kernel
theorem dX4_copyFrom_1 : decode cX4_copyFrom 1 = .ok (.aload_n 1, 1) := by decide +kernel
theorem dX4_copyFrom_2 : decode cX4_copyFrom 2 = .ok (.getfield 24, 3) := by decide +kernel
theorem dX4_copyFrom_5 : decode cX4_copyFrom 5 = .ok (.putfield 24, 3) := by decide +kernel
theorem dX4_copyFrom_8 : decode cX4_copyFrom 8 = .ok (.aload_n 0, 1) := by decide +kernel
theorem dX4_copyFrom_9 : decode cX4_copyFrom 9 = .ok (.aload_n 1, 1) := by decide +kernel
theorem dX4_copyFrom_10 : decode cX4_copyFrom 10 = .ok (.getfield 28, 3) := by decide +kernel
theorem dX4_copyFrom_13 : decode cX4_copyFrom 13 = .ok (.putfield 28, 3) := by decide +kernel
theorem dX4_copyFrom_16 : decode cX4_copyFrom 16 = .ok (.aload_n 0, 1) := by decide +kernel
theorem dX4_copyFrom_17 : decode cX4_copyFrom 17 = .ok (.aload_n 1, 1) := by decide +kernel
theorem dX4_copyFrom_18 : decode cX4_copyFrom 18 = .ok (.getfield 31, 3) := by decide +kernel
theorem dX4_copyFrom_21 : decode cX4_copyFrom 21 = .ok (.putfield 31, 3) := by decide +kernel
theorem dX4_copyFrom_24 : decode cX4_copyFrom 24 = .ok (.aload_n 1, 1) := by decide +kernel
theorem dX4_copyFrom_25 : decode cX4_copyFrom 25 = .ok (.getfield 9, 3) := by decide +kernel
theorem dX4_copyFrom_28 : decode cX4_copyFrom 28 = .ok (.iconst 0, 1) := by decide +kernel
theorem dX4_copyFrom_29 : decode cX4_copyFrom 29 = .ok (.aload_n 0, 1) := by decide +kernel
theorem dX4_copyFrom_30 : decode cX4_copyFrom 30 = .ok (.getfield 9, 3) := by decide +kernel
theorem dX4_copyFrom_33 : decode cX4_copyFrom 33 = .ok (.iconst 0, 1) := by decide +kernel
theorem dX4_copyFrom_34 : decode cX4_copyFrom 34 = .ok (.iconst 5, 1) := by decide +kernel
theorem dX4_copyFrom_35 : decode cX4_copyFrom 35 = .ok (.invokestatic 40, 3) := by decide +kernel
theorem dX4_copyFrom_38 : decode cX4_copyFrom 38 = .ok (.aload_n 1, 1) := by decide +kernel
theorem dX4_copyFrom_39 : decode cX4_copyFrom 39 = .ok (.getfield 15, 3) := by decide +kernel
theorem dX4_copyFrom_42 : decode cX4_copyFrom 42 = .ok (.iconst 0, 1) := by decide +kernel
theorem dX4_copyFrom_43 : decode cX4_copyFrom 43 = .ok (.aload_n 0, 1) := by decide +kernel
theorem dX4_copyFrom_44 : decode cX4_copyFrom 44 = .ok (.getfield 15, 3) := by decide +kernel
theorem dX4_copyFrom_47 : decode cX4_copyFrom 47 = .ok (.iconst 0, 1) := by decide +kernel
theorem dX4_copyFrom_48 : decode cX4_copyFrom 48 = .ok (.bipush 20, 2) := by decide +kernel
theorem dX4_copyFrom_50 : decode cX4_copyFrom 50 = .ok (.invokestatic 40, 3) := by decide +kernel
theorem dX4_copyFrom_53 : decode cX4_copyFrom 53 = .ok (.aload_n 1, 1) := by decide +kernel
theorem dX4_copyFrom_54 : decode cX4_copyFrom 54 = .ok (.getfield 18, 3) := by decide +kernel
theorem dX4_copyFrom_57 : decode cX4_copyFrom 57 = .ok (.iconst 0, 1) := by decide +kernel
theorem dX4_copyFrom_58 : decode cX4_copyFrom 58 = .ok (.aload_n 0, 1) := by decide +kernel
theorem dX4_copyFrom_59 : decode cX4_copyFrom 59 = .ok (.getfield 18, 3) := by decide +kernel
theorem dX4_copyFrom_62 : decode cX4_copyFrom 62 = .ok (.iconst 0, 1) := by decide +kernel
theorem dX4_copyFrom_63 : decode cX4_copyFrom 63 = .ok (.bipush 20, 2) := by decide +kernel
theorem dX4_copyFrom_65 : decode cX4_copyFrom 65 = .ok (.invokestatic 40, 3) := by decide +kernel
theorem dX4_copyFrom_68 : decode cX4_copyFrom 68 = .ok (.aload_n 1, 1) := by decide +kernel
theorem dX4_copyFrom_69 : decode cX4_copyFrom 69 = .ok (.getfield 21, 3) := by decide +kernel
theorem dX4_copyFrom_72 : decode cX4_copyFrom 72 = .ok (.iconst 0, 1) := by decide +kernel
theorem dX4_copyFrom_73 : decode cX4_copyFrom 73 = .ok (.aload_n 0, 1) := by decide +kernel
theorem dX4_copyFrom_74 : decode cX4_copyFrom 74 = .ok (.getfield 21, 3) := by decide +kernel
theorem dX4_copyFrom_77 : decode cX4_copyFrom 77 = .ok (.iconst 0, 1) := by decide +kernel
theorem dX4_copyFrom_78 : decode cX4_copyFrom 78 = .ok (.bipush 30, 2) := by decide +kernel
theorem dX4_copyFrom_80 : decode cX4_copyFrom 80 = .ok (.invokestatic 40, 3) := by decide +kernel
theorem dX4_copyFrom_83 : decode cX4_copyFrom 83 = .ok (.return_, 1) := by decide +kernel
theorem dX4_isHouse_0 : decode cX4_isHouse 0 = .ok (.iload_n 1, 1) := by decide +kernel
theorem dX4_isHouse_1 : decode cX4_isHouse 1 = .ok (.ifCond .lt 15, 3) := by decide +kernel
theorem dX4_isHouse_4 : decode cX4_isHouse 4 = .ok (.iload_n 1, 1) := by decide +kernel
theorem dX4_isHouse_5 : decode cX4_isHouse 5 = .ok (.aload_n 0, 1) := by decide +kernel
theorem dX4_isHouse_6 : decode cX4_isHouse 6 = .ok (.getfield 28, 3) := by decide +kernel
theorem dX4_isHouse_9 : decode cX4_isHouse 9 = .ok (.if_icmp .ge 7, 3) := by decide +kernel
theorem dX4_isHouse_12 : decode cX4_isHouse 12 = .ok (.iconst 1, 1) := by decide +kernel
theorem dX4_isHouse_13 : decode cX4_isHouse 13 = .ok (.goto 4, 3) := by decide +kernel
theorem dX4_isHouse_16 : decode cX4_isHouse 16 = .ok (.iconst 0, 1) := by decide +kernel
theorem dX4_isHouse_17 : decode cX4_isHouse 17 = .ok (.ireturn, 1) := by decide +kernel
theorem dX4_isSort_0 : decode cX4_isSort 0 = .ok (.iload_n 1, 1) := by decide +kernel
theorem dX4_isSort_1 : decode cX4_isSort 1 = .ok (.ifCond .lt 15, 3) := by decide +kernel
theorem dX4_isSort_4 : decode cX4_isSort 4 = .ok (.iload_n 1, 1) := by decide +kernel
theorem dX4_isSort_5 : decode cX4_isSort 5 = .ok (.aload_n 0, 1) := by decide +kernel
theorem dX4_isSort_6 : decode cX4_isSort 6 = .ok (.getfield 24, 3) := by decide +kernel
theorem dX4_isSort_9 : decode cX4_isSort 9 = .ok (.if_icmp .ge 7, 3) := by decide +kernel
theorem dX4_isSort_12 : decode cX4_isSort 12 = .ok (.iconst 1, 1) := by decide +kernel
theorem dX4_isSort_13 : decode cX4_isSort 13 = .ok (.goto 4, 3) := by decide +kernel
theorem dX4_isSort_16 : decode cX4_isSort 16 = .ok (.iconst 0, 1) := by decide +kernel
theorem dX4_isSort_17 : decode cX4_isSort 17 = .ok (.ireturn, 1) := by decide +kernel
theorem dX4_worthOf_0 : decode cX4_worthOf 0 = .ok (.aload_n 0, 1) := by decide +kernel
theorem dX4_worthOf_1 : decode cX4_worthOf 1 = .ok (.getfield 21, 3) := by decide +kernel
theorem dX4_worthOf_4 : decode cX4_worthOf 4 = .ok (.iload_n 1, 1) := by decide +kernel
theorem dX4_worthOf_5 : decode cX4_worthOf 5 = .ok (.bipush 6, 2) := by decide +kernel
theorem dX4_worthOf_7 : decode cX4_worthOf 7 = .ok (.imul, 1) := by decide +kernel
theorem dX4_worthOf_8 : decode cX4_worthOf 8 = .ok (.iload_n 2, 1) := by decide +kernel
theorem dX4_worthOf_9 : decode cX4_worthOf 9 = .ok (.iadd, 1) := by decide +kernel
theorem dX4_worthOf_10 : decode cX4_worthOf 10 = .ok (.iaload, 1) := by decide +kernel
theorem dX4_worthOf_11 : decode cX4_worthOf 11 = .ok (.ireturn, 1) := by decide +kernel
theorem dX4_stillMissing_0 : decode cX4_stillMissing 0 = .ok (.aload_n 0, 1) := by decide +kernel
theorem dX4_stillMissing_1 : decode cX4_stillMissing 1 = .ok (.getfield 24, 3) := by decide +kernel
theorem dX4_stillMissing_4 : decode cX4_stillMissing 4 = .ok (.ifCond .le 21, 3) := by decide +kernel
theorem dX4_stillMissing_7 : decode cX4_stillMissing 7 = .ok (.lload_n 1, 1) := by decide +kernel
theorem dX4_stillMissing_8 : decode cX4_stillMissing 8 = .ok (.aload_n 0, 1) := by decide +kernel
theorem dX4_stillMissing_9 : decode cX4_stillMissing 9 = .ok (.getfield 24, 3) := by decide +kernel
theorem dX4_stillMissing_12 : decode cX4_stillMissing 12 = .ok (.iconst 1, 1) := by decide +kernel
theorem dX4_stillMissing_13 : decode cX4_stillMissing 13 = .ok (.isub, 1) := by decide +kernel
theorem dX4_stillMissing_14 : decode cX4_stillMissing 14 = .ok (.i2l, 1) := by decide +kernel
theorem dX4_stillMissing_15 : decode cX4_stillMissing 15 = .ok (.lmul, 1) := by decide +kernel
theorem dX4_stillMissing_16 : decode cX4_stillMissing 16 = .ok (.aload_n 0, 1) := by decide +kernel
theorem dX4_stillMissing_17 : decode cX4_stillMissing 17 = .ok (.getfield 24, 3) := by decide +kernel
theorem dX4_stillMissing_20 : decode cX4_stillMissing 20 = .ok (.i2l, 1) := by decide +kernel
theorem dX4_stillMissing_21 : decode cX4_stillMissing 21 = .ok (.ldiv, 1) := by decide +kernel
theorem dX4_stillMissing_22 : decode cX4_stillMissing 22 = .ok (.goto 4, 3) := by decide +kernel
theorem dX4_stillMissing_25 : decode cX4_stillMissing 25 = .ok (.lload_n 1, 1) := by decide +kernel
theorem dX4_stillMissing_26 : decode cX4_stillMissing 26 = .ok (.lreturn, 1) := by decide +kernel
theorem dX5_init_0 : decode cX5_init 0 = .ok (.aload_n 0, 1) := by decide +kernel
theorem dX5_init_1 : decode cX5_init 1 = .ok (.invokespecial 3, 3) := by decide +kernel
theorem dX5_init_4 : decode cX5_init 4 = .ok (.aload_n 0, 1) := by decide +kernel
theorem dX5_init_5 : decode cX5_init 5 = .ok (.bipush 32, 2) := by decide +kernel
theorem dX5_init_7 : decode cX5_init 7 = .ok (.newarray .int, 2) := by decide +kernel
theorem dX5_init_9 : decode cX5_init 9 = .ok (.putfield 9, 3) := by decide +kernel
theorem dX5_init_12 : decode cX5_init 12 = .ok (.aload_n 0, 1) := by decide +kernel
theorem dX5_init_13 : decode cX5_init 13 = .ok (.bipush 32, 2) := by decide +kernel
theorem dX5_init_15 : decode cX5_init 15 = .ok (.newarray .int, 2) := by decide +kernel
theorem dX5_init_17 : decode cX5_init 17 = .ok (.putfield 15, 3) := by decide +kernel
theorem dX5_init_20 : decode cX5_init 20 = .ok (.aload_n 0, 1) := by decide +kernel
theorem dX5_init_21 : decode cX5_init 21 = .ok (.bipush 32, 2) := by decide +kernel
theorem dX5_init_23 : decode cX5_init 23 = .ok (.newarray .int, 2) := by decide +kernel
theorem dX5_init_25 : decode cX5_init 25 = .ok (.putfield 18, 3) := by decide +kernel
theorem dX5_init_28 : decode cX5_init 28 = .ok (.aload_n 0, 1) := by decide +kernel
theorem dX5_init_29 : decode cX5_init 29 = .ok (.bipush 32, 2) := by decide +kernel
theorem dX5_init_31 : decode cX5_init 31 = .ok (.newarray .int, 2) := by decide +kernel
theorem dX5_init_33 : decode cX5_init 33 = .ok (.putfield 21, 3) := by decide +kernel
theorem dX5_init_36 : decode cX5_init 36 = .ok (.aload_n 0, 1) := by decide +kernel
theorem dX5_init_37 : decode cX5_init 37 = .ok (.sipush 640, 3) := by decide +kernel
theorem dX5_init_40 : decode cX5_init 40 = .ok (.newarray .int, 2) := by decide +kernel
theorem dX5_init_42 : decode cX5_init 42 = .ok (.putfield 24, 3) := by decide +kernel
theorem dX5_init_45 : decode cX5_init 45 = .ok (.aload_n 0, 1) := by decide +kernel
theorem dX5_init_46 : decode cX5_init 46 = .ok (.iconst 5, 1) := by decide +kernel
theorem dX5_init_47 : decode cX5_init 47 = .ok (.newarray .int, 2) := by decide +kernel
theorem dX5_init_49 : decode cX5_init 49 = .ok (.putfield 27, 3) := by decide +kernel
theorem dX5_init_52 : decode cX5_init 52 = .ok (.aload_n 0, 1) := by decide +kernel
theorem dX5_init_53 : decode cX5_init 53 = .ok (.bipush 30, 2) := by decide +kernel
theorem dX5_init_55 : decode cX5_init 55 = .ok (.newarray .int, 2) := by decide +kernel
theorem dX5_init_57 : decode cX5_init 57 = .ok (.putfield 30, 3) := by decide +kernel
theorem dX5_init_60 : decode cX5_init 60 = .ok (.aload_n 0, 1) := by decide +kernel
theorem dX5_init_61 : decode cX5_init 61 = .ok (.aload_n 1, 1) := by decide +kernel
theorem dX5_init_62 : decode cX5_init 62 = .ok (.putfield 33, 3) := by decide +kernel
theorem dX5_init_65 : decode cX5_init 65 = .ok (.return_, 1) := by decide +kernel
theorem dX5_layOut_0 : decode cX5_layOut 0 = .ok (.aload_n 0, 1) := by decide +kernel
theorem dX5_layOut_1 : decode cX5_layOut 1 = .ok (.iconst 0, 1) := by decide +kernel
theorem dX5_layOut_2 : decode cX5_layOut 2 = .ok (.putfield 37, 3) := by decide +kernel
theorem dX5_layOut_5 : decode cX5_layOut 5 = .ok (.aload_n 0, 1) := by decide +kernel
theorem dX5_layOut_6 : decode cX5_layOut 6 = .ok (.iconst 0, 1) := by decide +kernel
theorem dX5_layOut_7 : decode cX5_layOut 7 = .ok (.putfield 41, 3) := by decide +kernel
theorem dX5_layOut_10 : decode cX5_layOut 10 = .ok (.aload_n 0, 1) := by decide +kernel
theorem dX5_layOut_11 : decode cX5_layOut 11 = .ok (.getfield 27, 3) := by decide +kernel
theorem dX5_layOut_14 : decode cX5_layOut 14 = .ok (.iconst 0, 1) := by decide +kernel
theorem dX5_layOut_15 : decode cX5_layOut 15 = .ok (.invokestatic 44, 3) := by decide +kernel
theorem dX5_layOut_18 : decode cX5_layOut 18 = .ok (.aload_n 0, 1) := by decide +kernel
theorem dX5_layOut_19 : decode cX5_layOut 19 = .ok (.getfield 30, 3) := by decide +kernel
theorem dX5_layOut_22 : decode cX5_layOut 22 = .ok (.iconst 0, 1) := by decide +kernel
theorem dX5_layOut_23 : decode cX5_layOut 23 = .ok (.invokestatic 44, 3) := by decide +kernel
theorem dX5_layOut_26 : decode cX5_layOut 26 = .ok (.iconst 0, 1) := by decide +kernel
theorem dX5_layOut_27 : decode cX5_layOut 27 = .ok (.istore_n 1, 1) := by decide +kernel
theorem dX5_layOut_28 : decode cX5_layOut 28 = .ok (.iload_n 1, 1) := by decide +kernel
theorem dX5_layOut_29 : decode cX5_layOut 29 = .ok (.aload_n 0, 1) := by decide +kernel
theorem dX5_layOut_30 : decode cX5_layOut 30 = .ok (.getfield 33, 3) := by decide +kernel
theorem dX5_layOut_33 : decode cX5_layOut 33 = .ok (.getfield 50, 3) := by decide +kernel
theorem dX5_layOut_36 : decode cX5_layOut 36 = .ok (.if_icmp .ge 32, 3) := by decide +kernel
theorem dX5_layOut_39 : decode cX5_layOut 39 = .ok (.aload_n 0, 1) := by decide +kernel
theorem dX5_layOut_40 : decode cX5_layOut 40 = .ok (.aload_n 0, 1) := by decide +kernel
theorem dX5_layOut_41 : decode cX5_layOut 41 = .ok (.getfield 33, 3) := by decide +kernel
theorem dX5_layOut_44 : decode cX5_layOut 44 = .ok (.getfield 55, 3) := by decide +kernel
theorem dX5_layOut_47 : decode cX5_layOut 47 = .ok (.iload_n 1, 1) := by decide +kernel
theorem dX5_layOut_48 : decode cX5_layOut 48 = .ok (.iaload, 1) := by decide +kernel
theorem dX5_layOut_49 : decode cX5_layOut 49 = .ok (.aload_n 0, 1) := by decide +kernel
theorem dX5_layOut_50 : decode cX5_layOut 50 = .ok (.getfield 33, 3) := by decide +kernel
theorem dX5_layOut_53 : decode cX5_layOut 53 = .ok (.getfield 58, 3) := by decide +kernel
theorem dX5_layOut_56 : decode cX5_layOut 56 = .ok (.iload_n 1, 1) := by decide +kernel
theorem dX5_layOut_57 : decode cX5_layOut 57 = .ok (.iaload, 1) := by decide +kernel
theorem dX5_layOut_58 : decode cX5_layOut 58 = .ok (.invokevirtual 61, 3) := by decide +kernel
theorem dX5_layOut_61 : decode cX5_layOut 61 = .ok (.pop, 1) := by decide +kernel
theorem dX5_layOut_62 : decode cX5_layOut 62 = .ok (.iinc 1 1, 3) := by decide +kernel
theorem dX5_layOut_65 : decode cX5_layOut 65 = .ok (.goto (-37), 3) := by decide +kernel
theorem dX5_layOut_68 : decode cX5_layOut 68 = .ok (.return_, 1) := by decide +kernel
theorem dX5_copyFrom_0 : decode cX5_copyFrom 0 = .ok (.aload_n 0, 1) := by decide +kernel
theorem dX5_copyFrom_1 : decode cX5_copyFrom 1 = .ok (.aload_n 1, 1) := by decide +kernel
theorem dX5_copyFrom_2 : decode cX5_copyFrom 2 = .ok (.getfield 37, 3) := by decide +kernel
theorem dX5_copyFrom_5 : decode cX5_copyFrom 5 = .ok (.putfield 37, 3) := by decide +kernel
theorem dX5_copyFrom_8 : decode cX5_copyFrom 8 = .ok (.aload_n 0, 1) := by decide +kernel
theorem dX5_copyFrom_9 : decode cX5_copyFrom 9 = .ok (.aload_n 1, 1) := by decide +kernel
theorem dX5_copyFrom_10 : decode cX5_copyFrom 10 = .ok (.getfield 41, 3) := by decide +kernel
theorem dX5_copyFrom_13 : decode cX5_copyFrom 13 = .ok (.putfield 41, 3) := by decide +kernel
theorem dX5_copyFrom_16 : decode cX5_copyFrom 16 = .ok (.aload_n 0, 1) := by decide +kernel
theorem dX5_copyFrom_17 : decode cX5_copyFrom 17 = .ok (.aload_n 1, 1) := by decide +kernel
theorem dX5_copyFrom_18 : decode cX5_copyFrom 18 = .ok (.getfield 65, 3) := by decide +kernel
theorem dX5_copyFrom_21 : decode cX5_copyFrom 21 = .ok (.putfield 65, 3) := by decide +kernel
theorem dX5_copyFrom_24 : decode cX5_copyFrom 24 = .ok (.aload_n 1, 1) := by decide +kernel
theorem dX5_copyFrom_25 : decode cX5_copyFrom 25 = .ok (.getfield 9, 3) := by decide +kernel
theorem dX5_copyFrom_28 : decode cX5_copyFrom 28 = .ok (.iconst 0, 1) := by decide +kernel
theorem dX5_copyFrom_29 : decode cX5_copyFrom 29 = .ok (.aload_n 0, 1) := by decide +kernel
theorem dX5_copyFrom_30 : decode cX5_copyFrom 30 = .ok (.getfield 9, 3) := by decide +kernel
theorem dX5_copyFrom_33 : decode cX5_copyFrom 33 = .ok (.iconst 0, 1) := by decide +kernel
theorem dX5_copyFrom_34 : decode cX5_copyFrom 34 = .ok (.bipush 32, 2) := by decide +kernel
theorem dX5_copyFrom_36 : decode cX5_copyFrom 36 = .ok (.invokestatic 68, 3) := by decide +kernel
theorem dX5_copyFrom_39 : decode cX5_copyFrom 39 = .ok (.aload_n 1, 1) := by decide +kernel
theorem dX5_copyFrom_40 : decode cX5_copyFrom 40 = .ok (.getfield 15, 3) := by decide +kernel
theorem dX5_copyFrom_43 : decode cX5_copyFrom 43 = .ok (.iconst 0, 1) := by decide +kernel
theorem dX5_copyFrom_44 : decode cX5_copyFrom 44 = .ok (.aload_n 0, 1) := by decide +kernel
theorem dX5_copyFrom_45 : decode cX5_copyFrom 45 = .ok (.getfield 15, 3) := by decide +kernel
theorem dX5_copyFrom_48 : decode cX5_copyFrom 48 = .ok (.iconst 0, 1) := by decide +kernel
theorem dX5_copyFrom_49 : decode cX5_copyFrom 49 = .ok (.bipush 32, 2) := by decide +kernel
theorem dX5_copyFrom_51 : decode cX5_copyFrom 51 = .ok (.invokestatic 68, 3) := by decide +kernel
theorem dX5_copyFrom_54 : decode cX5_copyFrom 54 = .ok (.aload_n 1, 1) := by decide +kernel
theorem dX5_copyFrom_55 : decode cX5_copyFrom 55 = .ok (.getfield 18, 3) := by decide +kernel
theorem dX5_copyFrom_58 : decode cX5_copyFrom 58 = .ok (.iconst 0, 1) := by decide +kernel
theorem dX5_copyFrom_59 : decode cX5_copyFrom 59 = .ok (.aload_n 0, 1) := by decide +kernel
theorem dX5_copyFrom_60 : decode cX5_copyFrom 60 = .ok (.getfield 18, 3) := by decide +kernel
theorem dX5_copyFrom_63 : decode cX5_copyFrom 63 = .ok (.iconst 0, 1) := by decide +kernel
theorem dX5_copyFrom_64 : decode cX5_copyFrom 64 = .ok (.bipush 32, 2) := by decide +kernel
theorem dX5_copyFrom_66 : decode cX5_copyFrom 66 = .ok (.invokestatic 68, 3) := by decide +kernel
theorem dX5_copyFrom_69 : decode cX5_copyFrom 69 = .ok (.aload_n 1, 1) := by decide +kernel
theorem dX5_copyFrom_70 : decode cX5_copyFrom 70 = .ok (.getfield 21, 3) := by decide +kernel
theorem dX5_copyFrom_73 : decode cX5_copyFrom 73 = .ok (.iconst 0, 1) := by decide +kernel
theorem dX5_copyFrom_74 : decode cX5_copyFrom 74 = .ok (.aload_n 0, 1) := by decide +kernel
theorem dX5_copyFrom_75 : decode cX5_copyFrom 75 = .ok (.getfield 21, 3) := by decide +kernel
theorem dX5_copyFrom_78 : decode cX5_copyFrom 78 = .ok (.iconst 0, 1) := by decide +kernel
theorem dX5_copyFrom_79 : decode cX5_copyFrom 79 = .ok (.bipush 32, 2) := by decide +kernel
theorem dX5_copyFrom_81 : decode cX5_copyFrom 81 = .ok (.invokestatic 68, 3) := by decide +kernel
theorem dX5_copyFrom_84 : decode cX5_copyFrom 84 = .ok (.aload_n 1, 1) := by decide +kernel
theorem dX5_copyFrom_85 : decode cX5_copyFrom 85 = .ok (.getfield 24, 3) := by decide +kernel
theorem dX5_copyFrom_88 : decode cX5_copyFrom 88 = .ok (.iconst 0, 1) := by decide +kernel
theorem dX5_copyFrom_89 : decode cX5_copyFrom 89 = .ok (.aload_n 0, 1) := by decide +kernel
theorem dX5_copyFrom_90 : decode cX5_copyFrom 90 = .ok (.getfield 24, 3) := by decide +kernel
theorem dX5_copyFrom_93 : decode cX5_copyFrom 93 = .ok (.iconst 0, 1) := by decide +kernel
theorem dX5_copyFrom_94 : decode cX5_copyFrom 94 = .ok (.sipush 640, 3) := by decide +kernel
theorem dX5_copyFrom_97 : decode cX5_copyFrom 97 = .ok (.invokestatic 68, 3) := by decide +kernel
theorem dX5_copyFrom_100 : decode cX5_copyFrom 100 = .ok (.aload_n 1, 1) := by decide +kernel
theorem dX5_copyFrom_101 : decode cX5_copyFrom 101 = .ok (.getfield 27, 3) := by decide +kernel
theorem dX5_copyFrom_104 : decode cX5_copyFrom 104 = .ok (.iconst 0, 1) := by decide +kernel
theorem dX5_copyFrom_105 : decode cX5_copyFrom 105 = .ok (.aload_n 0, 1) := by decide +kernel
theorem dX5_copyFrom_106 : decode cX5_copyFrom 106 = .ok (.getfield 27, 3) := by decide +kernel
theorem dX5_copyFrom_109 : decode cX5_copyFrom 109 = .ok (.iconst 0, 1) := by decide +kernel
theorem dX5_copyFrom_110 : decode cX5_copyFrom 110 = .ok (.iconst 5, 1) := by decide +kernel
theorem dX5_copyFrom_111 : decode cX5_copyFrom 111 = .ok (.invokestatic 68, 3) := by decide +kernel
theorem dX5_copyFrom_114 : decode cX5_copyFrom 114 = .ok (.aload_n 1, 1) := by decide +kernel
theorem dX5_copyFrom_115 : decode cX5_copyFrom 115 = .ok (.getfield 30, 3) := by decide +kernel
theorem dX5_copyFrom_118 : decode cX5_copyFrom 118 = .ok (.iconst 0, 1) := by decide +kernel
theorem dX5_copyFrom_119 : decode cX5_copyFrom 119 = .ok (.aload_n 0, 1) := by decide +kernel
theorem dX5_copyFrom_120 : decode cX5_copyFrom 120 = .ok (.getfield 30, 3) := by decide +kernel
theorem dX5_copyFrom_123 : decode cX5_copyFrom 123 = .ok (.iconst 0, 1) := by decide +kernel
theorem dX5_copyFrom_124 : decode cX5_copyFrom 124 = .ok (.bipush 30, 2) := by decide +kernel
theorem dX5_copyFrom_126 : decode cX5_copyFrom 126 = .ok (.invokestatic 68, 3) := by decide +kernel
theorem dX5_copyFrom_129 : decode cX5_copyFrom 129 = .ok (.return_, 1) := by decide +kernel
theorem dX5_isPart_0 : decode cX5_isPart 0 = .ok (.iload_n 1, 1) := by decide +kernel
theorem dX5_isPart_1 : decode cX5_isPart 1 = .ok (.ifCond .lt 15, 3) := by decide +kernel
theorem dX5_isPart_4 : decode cX5_isPart 4 = .ok (.iload_n 1, 1) := by decide +kernel
theorem dX5_isPart_5 : decode cX5_isPart 5 = .ok (.aload_n 0, 1) := by decide +kernel
theorem dX5_isPart_6 : decode cX5_isPart 6 = .ok (.getfield 37, 3) := by decide +kernel
theorem dX5_isPart_9 : decode cX5_isPart 9 = .ok (.if_icmp .ge 7, 3) := by decide +kernel
theorem dX5_isPart_12 : decode cX5_isPart 12 = .ok (.iconst 1, 1) := by decide +kernel
theorem dX5_isPart_13 : decode cX5_isPart 13 = .ok (.goto 4, 3) := by decide +kernel
theorem dX5_isPart_16 : decode cX5_isPart 16 = .ok (.iconst 0, 1) := by decide +kernel
theorem dX5_isPart_17 : decode cX5_isPart 17 = .ok (.ireturn, 1) := by decide +kernel
theorem dX5_lies_0 : decode cX5_lies 0 = .ok (.aload_n 0, 1) := by decide +kernel
theorem dX5_lies_1 : decode cX5_lies 1 = .ok (.getfield 15, 3) := by decide +kernel
theorem dX5_lies_4 : decode cX5_lies 4 = .ok (.iload_n 1, 1) := by decide +kernel
theorem dX5_lies_5 : decode cX5_lies 5 = .ok (.iaload, 1) := by decide +kernel
theorem dX5_lies_6 : decode cX5_lies 6 = .ok (.iconst (-1), 1) := by decide +kernel
theorem dX5_lies_7 : decode cX5_lies 7 = .ok (.if_icmp .ne 7, 3) := by decide +kernel
theorem dX5_lies_10 : decode cX5_lies 10 = .ok (.iconst 1, 1) := by decide +kernel
theorem dX5_lies_11 : decode cX5_lies 11 = .ok (.goto 4, 3) := by decide +kernel
theorem dX5_lies_14 : decode cX5_lies 14 = .ok (.iconst 0, 1) := by decide +kernel
theorem dX5_lies_15 : decode cX5_lies 15 = .ok (.ireturn, 1) := by decide +kernel
theorem dX5_mayTake_0 : decode cX5_mayTake 0 = .ok (.aload_n 0, 1) := by decide +kernel
theorem dX5_mayTake_1 : decode cX5_mayTake 1 = .ok (.getfield 27, 3) := by decide +kernel
theorem dX5_mayTake_4 : decode cX5_mayTake 4 = .ok (.iload_n 1, 1) := by decide +kernel
theorem dX5_mayTake_5 : decode cX5_mayTake 5 = .ok (.iaload, 1) := by decide +kernel
theorem dX5_mayTake_6 : decode cX5_mayTake 6 = .ok (.iconst 4, 1) := by decide +kernel
theorem dX5_mayTake_7 : decode cX5_mayTake 7 = .ok (.if_icmp .ge 25, 3) := by decide +kernel
theorem dX5_mayTake_10 : decode cX5_mayTake 10 = .ok (.aload_n 0, 1) := by decide +kernel
theorem dX5_mayTake_11 : decode cX5_mayTake 11 = .ok (.iload_n 2, 1) := by decide +kernel
theorem dX5_mayTake_12 : decode cX5_mayTake 12 = .ok (.invokevirtual 74, 3) := by decide +kernel
theorem dX5_mayTake_15 : decode cX5_mayTake 15 = .ok (.ifCond .eq 17, 3) := by decide +kernel
theorem dX5_mayTake_18 : decode cX5_mayTake 18 = .ok (.aload_n 0, 1) := by decide +kernel
theorem dX5_mayTake_19 : decode cX5_mayTake 19 = .ok (.getfield 18, 3) := by decide +kernel
theorem dX5_mayTake_22 : decode cX5_mayTake 22 = .ok (.iload_n 2, 1) := by decide +kernel
theorem dX5_mayTake_23 : decode cX5_mayTake 23 = .ok (.iaload, 1) := by decide +kernel
theorem dX5_mayTake_24 : decode cX5_mayTake 24 = .ok (.iload_n 1, 1) := by decide +kernel
theorem dX5_mayTake_25 : decode cX5_mayTake 25 = .ok (.if_icmp .eq 7, 3) := by decide +kernel
theorem dX5_mayTake_28 : decode cX5_mayTake 28 = .ok (.iconst 1, 1) := by decide +kernel
theorem dX5_mayTake_29 : decode cX5_mayTake 29 = .ok (.goto 4, 3) := by decide +kernel
theorem dX5_mayTake_32 : decode cX5_mayTake 32 = .ok (.iconst 0, 1) := by decide +kernel
theorem dX5_mayTake_33 : decode cX5_mayTake 33 = .ok (.ireturn, 1) := by decide +kernel
theorem dX5_addPart_0 : decode cX5_addPart 0 = .ok (.aload_n 0, 1) := by decide +kernel
theorem dX5_addPart_1 : decode cX5_addPart 1 = .ok (.getfield 37, 3) := by decide +kernel
theorem dX5_addPart_4 : decode cX5_addPart 4 = .ok (.bipush 32, 2) := by decide +kernel
theorem dX5_addPart_6 : decode cX5_addPart 6 = .ok (.if_icmp .lt 5, 3) := by decide +kernel
theorem dX5_addPart_9 : decode cX5_addPart 9 = .ok (.iconst 0, 1) := by decide +kernel
theorem dX5_addPart_10 : decode cX5_addPart 10 = .ok (.ireturn, 1) := by decide +kernel
theorem dX5_addPart_11 : decode cX5_addPart 11 = .ok (.aload_n 0, 1) := by decide +kernel
theorem dX5_addPart_12 : decode cX5_addPart 12 = .ok (.getfield 37, 3) := by decide +kernel
theorem dX5_addPart_15 : decode cX5_addPart 15 = .ok (.istore_n 3, 1) := by decide +kernel
theorem dX5_addPart_16 : decode cX5_addPart 16 = .ok (.aload_n 0, 1) := by decide +kernel
theorem dX5_addPart_17 : decode cX5_addPart 17 = .ok (.dup, 1) := by decide +kernel
theorem dX5_addPart_18 : decode cX5_addPart 18 = .ok (.getfield 37, 3) := by decide +kernel
theorem dX5_addPart_21 : decode cX5_addPart 21 = .ok (.iconst 1, 1) := by decide +kernel
theorem dX5_addPart_22 : decode cX5_addPart 22 = .ok (.iadd, 1) := by decide +kernel
theorem dX5_addPart_23 : decode cX5_addPart 23 = .ok (.putfield 37, 3) := by decide +kernel
theorem dX5_addPart_26 : decode cX5_addPart 26 = .ok (.aload_n 0, 1) := by decide +kernel
theorem dX5_addPart_27 : decode cX5_addPart 27 = .ok (.getfield 9, 3) := by decide +kernel
theorem dX5_addPart_30 : decode cX5_addPart 30 = .ok (.iload_n 3, 1) := by decide +kernel
theorem dX5_addPart_31 : decode cX5_addPart 31 = .ok (.iload_n 1, 1) := by decide +kernel
theorem dX5_addPart_32 : decode cX5_addPart 32 = .ok (.iastore, 1) := by decide +kernel
theorem dX5_addPart_33 : decode cX5_addPart 33 = .ok (.aload_n 0, 1) := by decide +kernel
theorem dX5_addPart_34 : decode cX5_addPart 34 = .ok (.getfield 15, 3) := by decide +kernel
theorem dX5_addPart_37 : decode cX5_addPart 37 = .ok (.iload_n 3, 1) := by decide +kernel
theorem dX5_addPart_38 : decode cX5_addPart 38 = .ok (.iconst (-1), 1) := by decide +kernel
theorem dX5_addPart_39 : decode cX5_addPart 39 = .ok (.iastore, 1) := by decide +kernel
theorem dX5_addPart_40 : decode cX5_addPart 40 = .ok (.aload_n 0, 1) := by decide +kernel
theorem dX5_addPart_41 : decode cX5_addPart 41 = .ok (.getfield 18, 3) := by decide +kernel
theorem dX5_addPart_44 : decode cX5_addPart 44 = .ok (.iload_n 3, 1) := by decide +kernel
theorem dX5_addPart_45 : decode cX5_addPart 45 = .ok (.iconst (-1), 1) := by decide +kernel
theorem dX5_addPart_46 : decode cX5_addPart 46 = .ok (.iastore, 1) := by decide +kernel
theorem dX5_addPart_47 : decode cX5_addPart 47 = .ok (.aload_n 0, 1) := by decide +kernel
theorem dX5_addPart_48 : decode cX5_addPart 48 = .ok (.getfield 21, 3) := by decide +kernel
theorem dX5_addPart_51 : decode cX5_addPart 51 = .ok (.iload_n 3, 1) := by decide +kernel
theorem dX5_addPart_52 : decode cX5_addPart 52 = .ok (.iconst 0, 1) := by decide +kernel
theorem dX5_addPart_53 : decode cX5_addPart 53 = .ok (.iastore, 1) := by decide +kernel
theorem dX5_addPart_54 : decode cX5_addPart 54 = .ok (.iload_n 2, 1) := by decide +kernel
theorem dX5_addPart_55 : decode cX5_addPart 55 = .ok (.iconst (-1), 1) := by decide +kernel
theorem dX5_addPart_56 : decode cX5_addPart 56 = .ok (.if_icmp .eq 9, 3) := by decide +kernel
theorem dX5_addPart_59 : decode cX5_addPart 59 = .ok (.aload_n 0, 1) := by decide +kernel
theorem dX5_addPart_60 : decode cX5_addPart 60 = .ok (.iload_n 2, 1) := by decide +kernel
theorem dX5_addPart_61 : decode cX5_addPart 61 = .ok (.iload_n 3, 1) := by decide +kernel
theorem dX5_addPart_62 : decode cX5_addPart 62 = .ok (.invokevirtual 78, 3) := by decide +kernel
theorem dX5_addPart_65 : decode cX5_addPart 65 = .ok (.iconst 1, 1) := by decide +kernel
theorem dX5_addPart_66 : decode cX5_addPart 66 = .ok (.ireturn, 1) := by decide +kernel
theorem dX5_throwOut_0 : decode cX5_throwOut 0 = .ok (.aload_n 0, 1) := by decide +kernel
theorem dX5_throwOut_1 : decode cX5_throwOut 1 = .ok (.getfield 15, 3) := by decide +kernel
theorem dX5_throwOut_4 : decode cX5_throwOut 4 = .ok (.iload_n 2, 1) := by decide +kernel
theorem dX5_throwOut_5 : decode cX5_throwOut 5 = .ok (.iaload, 1) := by decide +kernel
theorem dX5_throwOut_6 : decode cX5_throwOut 6 = .ok (.iload_n 1, 1) := by decide +kernel
theorem dX5_throwOut_7 : decode cX5_throwOut 7 = .ok (.if_icmp .eq 5, 3) := by decide +kernel
theorem dX5_throwOut_10 : decode cX5_throwOut 10 = .ok (.iconst 0, 1) := by decide +kernel
theorem dX5_throwOut_11 : decode cX5_throwOut 11 = .ok (.ireturn, 1) := by decide +kernel
theorem dX5_throwOut_12 : decode cX5_throwOut 12 = .ok (.aload_n 0, 1) := by decide +kernel
theorem dX5_throwOut_13 : decode cX5_throwOut 13 = .ok (.getfield 15, 3) := by decide +kernel
theorem dX5_throwOut_16 : decode cX5_throwOut 16 = .ok (.iload_n 2, 1) := by decide +kernel
theorem dX5_throwOut_17 : decode cX5_throwOut 17 = .ok (.iconst (-1), 1) := by decide +kernel
theorem dX5_throwOut_18 : decode cX5_throwOut 18 = .ok (.iastore, 1) := by decide +kernel
theorem dX5_throwOut_19 : decode cX5_throwOut 19 = .ok (.aload_n 0, 1) := by decide +kernel
theorem dX5_throwOut_20 : decode cX5_throwOut 20 = .ok (.getfield 18, 3) := by decide +kernel
theorem dX5_throwOut_23 : decode cX5_throwOut 23 = .ok (.iload_n 2, 1) := by decide +kernel
theorem dX5_throwOut_24 : decode cX5_throwOut 24 = .ok (.iload_n 1, 1) := by decide +kernel
theorem dX5_throwOut_25 : decode cX5_throwOut 25 = .ok (.iastore, 1) := by decide +kernel
theorem dX5_throwOut_26 : decode cX5_throwOut 26 = .ok (.aload_n 0, 1) := by decide +kernel
theorem dX5_throwOut_27 : decode cX5_throwOut 27 = .ok (.getfield 27, 3) := by decide +kernel
theorem dX5_throwOut_30 : decode cX5_throwOut 30 = .ok (.iload_n 1, 1) := by decide +kernel
theorem dX5_throwOut_31 : decode cX5_throwOut 31 = .ok (.dup2, 1) := by decide +kernel
theorem dX5_throwOut_32 : decode cX5_throwOut 32 = .ok (.iaload, 1) := by decide +kernel
theorem dX5_throwOut_33 : decode cX5_throwOut 33 = .ok (.iconst 1, 1) := by decide +kernel
theorem dX5_throwOut_34 : decode cX5_throwOut 34 = .ok (.isub, 1) := by decide +kernel
theorem dX5_throwOut_35 : decode cX5_throwOut 35 = .ok (.iastore, 1) := by decide +kernel
theorem dX5_throwOut_36 : decode cX5_throwOut 36 = .ok (.aload_n 0, 1) := by decide +kernel
theorem dX5_throwOut_37 : decode cX5_throwOut 37 = .ok (.getfield 30, 3) := by decide +kernel
theorem dX5_throwOut_40 : decode cX5_throwOut 40 = .ok (.iload_n 1, 1) := by decide +kernel
theorem dX5_throwOut_41 : decode cX5_throwOut 41 = .ok (.bipush 6, 2) := by decide +kernel
theorem dX5_throwOut_43 : decode cX5_throwOut 43 = .ok (.imul, 1) := by decide +kernel
theorem dX5_throwOut_44 : decode cX5_throwOut 44 = .ok (.aload_n 0, 1) := by decide +kernel
theorem dX5_throwOut_45 : decode cX5_throwOut 45 = .ok (.getfield 9, 3) := by decide +kernel
theorem dX5_throwOut_48 : decode cX5_throwOut 48 = .ok (.iload_n 2, 1) := by decide +kernel
theorem dX5_throwOut_49 : decode cX5_throwOut 49 = .ok (.iaload, 1) := by decide +kernel
theorem dX5_throwOut_50 : decode cX5_throwOut 50 = .ok (.iadd, 1) := by decide +kernel
theorem dX5_throwOut_51 : decode cX5_throwOut 51 = .ok (.dup2, 1) := by decide +kernel
theorem dX5_throwOut_52 : decode cX5_throwOut 52 = .ok (.iaload, 1) := by decide +kernel
theorem dX5_throwOut_53 : decode cX5_throwOut 53 = .ok (.iconst 1, 1) := by decide +kernel
theorem dX5_throwOut_54 : decode cX5_throwOut 54 = .ok (.isub, 1) := by decide +kernel
theorem dX5_throwOut_55 : decode cX5_throwOut 55 = .ok (.iastore, 1) := by decide +kernel
theorem dX5_throwOut_56 : decode cX5_throwOut 56 = .ok (.aload_n 0, 1) := by decide +kernel
theorem dX5_throwOut_57 : decode cX5_throwOut 57 = .ok (.dup, 1) := by decide +kernel
theorem dX5_throwOut_58 : decode cX5_throwOut 58 = .ok (.getfield 82, 3) := by decide +kernel
theorem dX5_throwOut_61 : decode cX5_throwOut 61 = .ok (.iconst 1, 1) := by decide +kernel
theorem dX5_throwOut_62 : decode cX5_throwOut 62 = .ok (.iadd, 1) := by decide +kernel
theorem dX5_throwOut_63 : decode cX5_throwOut 63 = .ok (.putfield 82, 3) := by decide +kernel
theorem dX5_throwOut_66 : decode cX5_throwOut 66 = .ok (.iconst 1, 1) := by decide +kernel
theorem dX5_throwOut_67 : decode cX5_throwOut 67 = .ok (.ireturn, 1) := by decide +kernel
theorem dX5_carryHome_0 : decode cX5_carryHome 0 = .ok (.aload_n 0, 1) := by decide +kernel
theorem dX5_carryHome_1 : decode cX5_carryHome 1 = .ok (.iload_n 1, 1) := by decide +kernel
theorem dX5_carryHome_2 : decode cX5_carryHome 2 = .ok (.iload_n 2, 1) := by decide +kernel
theorem dX5_carryHome_3 : decode cX5_carryHome 3 = .ok (.invokevirtual 85, 3) := by decide +kernel
theorem dX5_carryHome_6 : decode cX5_carryHome 6 = .ok (.ifCond .ne 5, 3) := by decide +kernel
theorem dX5_carryHome_9 : decode cX5_carryHome 9 = .ok (.iconst 0, 1) := by decide +kernel
theorem dX5_carryHome_10 : decode cX5_carryHome 10 = .ok (.ireturn, 1) := by decide +kernel
theorem dX5_carryHome_11 : decode cX5_carryHome 11 = .ok (.aload_n 0, 1) := by decide +kernel
theorem dX5_carryHome_12 : decode cX5_carryHome 12 = .ok (.iload_n 1, 1) := by decide +kernel
theorem dX5_carryHome_13 : decode cX5_carryHome 13 = .ok (.iload_n 2, 1) := by decide +kernel
theorem dX5_carryHome_14 : decode cX5_carryHome 14 = .ok (.invokevirtual 78, 3) := by decide +kernel
theorem dX5_carryHome_17 : decode cX5_carryHome 17 = .ok (.aload_n 0, 1) := by decide +kernel
theorem dX5_carryHome_18 : decode cX5_carryHome 18 = .ok (.dup, 1) := by decide +kernel
theorem dX5_carryHome_19 : decode cX5_carryHome 19 = .ok (.getfield 82, 3) := by decide +kernel
theorem dX5_carryHome_22 : decode cX5_carryHome 22 = .ok (.iconst 1, 1) := by decide +kernel
theorem dX5_carryHome_23 : decode cX5_carryHome 23 = .ok (.iadd, 1) := by decide +kernel
theorem dX5_carryHome_24 : decode cX5_carryHome 24 = .ok (.putfield 82, 3) := by decide +kernel
theorem dX5_carryHome_27 : decode cX5_carryHome 27 = .ok (.iconst 1, 1) := by decide +kernel
theorem dX5_carryHome_28 : decode cX5_carryHome 28 = .ok (.ireturn, 1) := by decide +kernel
theorem dX5_handOver_0 : decode cX5_handOver 0 = .ok (.aload_n 0, 1) := by decide +kernel
theorem dX5_handOver_1 : decode cX5_handOver 1 = .ok (.getfield 15, 3) := by decide +kernel
theorem dX5_handOver_4 : decode cX5_handOver 4 = .ok (.iload_n 2, 1) := by decide +kernel
theorem dX5_handOver_5 : decode cX5_handOver 5 = .ok (.iload_n 1, 1) := by decide +kernel
theorem dX5_handOver_6 : decode cX5_handOver 6 = .ok (.iastore, 1) := by decide +kernel
theorem dX5_handOver_7 : decode cX5_handOver 7 = .ok (.aload_n 0, 1) := by decide +kernel
theorem dX5_handOver_8 : decode cX5_handOver 8 = .ok (.getfield 18, 3) := by decide +kernel
theorem dX5_handOver_11 : decode cX5_handOver 11 = .ok (.iload_n 2, 1) := by decide +kernel
theorem dX5_handOver_12 : decode cX5_handOver 12 = .ok (.iconst (-1), 1) := by decide +kernel
theorem dX5_handOver_13 : decode cX5_handOver 13 = .ok (.iastore, 1) := by decide +kernel
theorem dX5_handOver_14 : decode cX5_handOver 14 = .ok (.aload_n 0, 1) := by decide +kernel
theorem dX5_handOver_15 : decode cX5_handOver 15 = .ok (.getfield 27, 3) := by decide +kernel
theorem dX5_handOver_18 : decode cX5_handOver 18 = .ok (.iload_n 1, 1) := by decide +kernel
theorem dX5_handOver_19 : decode cX5_handOver 19 = .ok (.dup2, 1) := by decide +kernel
theorem dX5_handOver_20 : decode cX5_handOver 20 = .ok (.iaload, 1) := by decide +kernel
theorem dX5_handOver_21 : decode cX5_handOver 21 = .ok (.iconst 1, 1) := by decide +kernel
theorem dX5_handOver_22 : decode cX5_handOver 22 = .ok (.iadd, 1) := by decide +kernel
theorem dX5_handOver_23 : decode cX5_handOver 23 = .ok (.iastore, 1) := by decide +kernel
theorem dX5_handOver_24 : decode cX5_handOver 24 = .ok (.aload_n 0, 1) := by decide +kernel
theorem dX5_handOver_25 : decode cX5_handOver 25 = .ok (.getfield 30, 3) := by decide +kernel
theorem dX5_handOver_28 : decode cX5_handOver 28 = .ok (.iload_n 1, 1) := by decide +kernel
theorem dX5_handOver_29 : decode cX5_handOver 29 = .ok (.bipush 6, 2) := by decide +kernel
theorem dX5_handOver_31 : decode cX5_handOver 31 = .ok (.imul, 1) := by decide +kernel
theorem dX5_handOver_32 : decode cX5_handOver 32 = .ok (.aload_n 0, 1) := by decide +kernel
theorem dX5_handOver_33 : decode cX5_handOver 33 = .ok (.getfield 9, 3) := by decide +kernel
theorem dX5_handOver_36 : decode cX5_handOver 36 = .ok (.iload_n 2, 1) := by decide +kernel
theorem dX5_handOver_37 : decode cX5_handOver 37 = .ok (.iaload, 1) := by decide +kernel
theorem dX5_handOver_38 : decode cX5_handOver 38 = .ok (.iadd, 1) := by decide +kernel
theorem dX5_handOver_39 : decode cX5_handOver 39 = .ok (.dup2, 1) := by decide +kernel
theorem dX5_handOver_40 : decode cX5_handOver 40 = .ok (.iaload, 1) := by decide +kernel
theorem dX5_handOver_41 : decode cX5_handOver 41 = .ok (.iconst 1, 1) := by decide +kernel
theorem dX5_handOver_42 : decode cX5_handOver 42 = .ok (.iadd, 1) := by decide +kernel
theorem dX5_handOver_43 : decode cX5_handOver 43 = .ok (.iastore, 1) := by decide +kernel
theorem dX5_handOver_44 : decode cX5_handOver 44 = .ok (.aload_n 0, 1) := by decide +kernel
theorem dX5_handOver_45 : decode cX5_handOver 45 = .ok (.getfield 21, 3) := by decide +kernel
theorem dX5_handOver_48 : decode cX5_handOver 48 = .ok (.iload_n 2, 1) := by decide +kernel
theorem dX5_handOver_49 : decode cX5_handOver 49 = .ok (.iaload, 1) := by decide +kernel
theorem dX5_handOver_50 : decode cX5_handOver 50 = .ok (.bipush 20, 2) := by decide +kernel
theorem dX5_handOver_52 : decode cX5_handOver 52 = .ok (.if_icmp .ge 30, 3) := by decide +kernel
theorem dX5_handOver_55 : decode cX5_handOver 55 = .ok (.aload_n 0, 1) := by decide +kernel
theorem dX5_handOver_56 : decode cX5_handOver 56 = .ok (.getfield 24, 3) := by decide +kernel
theorem dX5_handOver_59 : decode cX5_handOver 59 = .ok (.iload_n 2, 1) := by decide +kernel
theorem dX5_handOver_60 : decode cX5_handOver 60 = .ok (.bipush 20, 2) := by decide +kernel
theorem dX5_handOver_62 : decode cX5_handOver 62 = .ok (.imul, 1) := by decide +kernel
theorem dX5_handOver_63 : decode cX5_handOver 63 = .ok (.aload_n 0, 1) := by decide +kernel
theorem dX5_handOver_64 : decode cX5_handOver 64 = .ok (.getfield 21, 3) := by decide +kernel
theorem dX5_handOver_67 : decode cX5_handOver 67 = .ok (.iload_n 2, 1) := by decide +kernel
theorem dX5_handOver_68 : decode cX5_handOver 68 = .ok (.iaload, 1) := by decide +kernel
theorem dX5_handOver_69 : decode cX5_handOver 69 = .ok (.iadd, 1) := by decide +kernel
theorem dX5_handOver_70 : decode cX5_handOver 70 = .ok (.iload_n 1, 1) := by decide +kernel
theorem dX5_handOver_71 : decode cX5_handOver 71 = .ok (.iastore, 1) := by decide +kernel
theorem dX5_handOver_72 : decode cX5_handOver 72 = .ok (.aload_n 0, 1) := by decide +kernel
theorem dX5_handOver_73 : decode cX5_handOver 73 = .ok (.getfield 21, 3) := by decide +kernel
theorem dX5_handOver_76 : decode cX5_handOver 76 = .ok (.iload_n 2, 1) := by decide +kernel
theorem dX5_handOver_77 : decode cX5_handOver 77 = .ok (.dup2, 1) := by decide +kernel
theorem dX5_handOver_78 : decode cX5_handOver 78 = .ok (.iaload, 1) := by decide +kernel
theorem dX5_handOver_79 : decode cX5_handOver 79 = .ok (.iconst 1, 1) := by decide +kernel
theorem dX5_handOver_80 : decode cX5_handOver 80 = .ok (.iadd, 1) := by decide +kernel
theorem dX5_handOver_81 : decode cX5_handOver 81 = .ok (.iastore, 1) := by decide +kernel
theorem dX5_handOver_82 : decode cX5_handOver 82 = .ok (.return_, 1) := by decide +kernel
theorem dX5_gainOf_0 : decode cX5_gainOf 0 = .ok (.aload_n 0, 1) := by decide +kernel
theorem dX5_gainOf_1 : decode cX5_gainOf 1 = .ok (.getfield 30, 3) := by decide +kernel
theorem dX5_gainOf_4 : decode cX5_gainOf 4 = .ok (.iload_n 1, 1) := by decide +kernel
theorem dX5_gainOf_5 : decode cX5_gainOf 5 = .ok (.bipush 6, 2) := by decide +kernel
theorem dX5_gainOf_7 : decode cX5_gainOf 7 = .ok (.imul, 1) := by decide +kernel
theorem dX5_gainOf_8 : decode cX5_gainOf 8 = .ok (.iload_n 2, 1) := by decide +kernel
theorem dX5_gainOf_9 : decode cX5_gainOf 9 = .ok (.iadd, 1) := by decide +kernel
theorem dX5_gainOf_10 : decode cX5_gainOf 10 = .ok (.iaload, 1) := by decide +kernel
theorem dX5_gainOf_11 : decode cX5_gainOf 11 = .ok (.ifCond .ne 15, 3) := by decide +kernel
theorem dX5_gainOf_14 : decode cX5_gainOf 14 = .ok (.aload_n 0, 1) := by decide +kernel
theorem dX5_gainOf_15 : decode cX5_gainOf 15 = .ok (.getfield 33, 3) := by decide +kernel
theorem dX5_gainOf_18 : decode cX5_gainOf 18 = .ok (.iload_n 1, 1) := by decide +kernel
theorem dX5_gainOf_19 : decode cX5_gainOf 19 = .ok (.iload_n 2, 1) := by decide +kernel
theorem dX5_gainOf_20 : decode cX5_gainOf 20 = .ok (.invokevirtual 88, 3) := by decide +kernel
theorem dX5_gainOf_23 : decode cX5_gainOf 23 = .ok (.goto 4, 3) := by decide +kernel
theorem dX5_gainOf_26 : decode cX5_gainOf 26 = .ok (.iconst 0, 1) := by decide +kernel
theorem dX5_gainOf_27 : decode cX5_gainOf 27 = .ok (.ireturn, 1) := by decide +kernel
theorem dX5_lossOf_0 : decode cX5_lossOf 0 = .ok (.aload_n 0, 1) := by decide +kernel
theorem dX5_lossOf_1 : decode cX5_lossOf 1 = .ok (.getfield 30, 3) := by decide +kernel
theorem dX5_lossOf_4 : decode cX5_lossOf 4 = .ok (.iload_n 1, 1) := by decide +kernel
theorem dX5_lossOf_5 : decode cX5_lossOf 5 = .ok (.bipush 6, 2) := by decide +kernel
theorem dX5_lossOf_7 : decode cX5_lossOf 7 = .ok (.imul, 1) := by decide +kernel
theorem dX5_lossOf_8 : decode cX5_lossOf 8 = .ok (.iload_n 2, 1) := by decide +kernel
theorem dX5_lossOf_9 : decode cX5_lossOf 9 = .ok (.iadd, 1) := by decide +kernel
theorem dX5_lossOf_10 : decode cX5_lossOf 10 = .ok (.iaload, 1) := by decide +kernel
theorem dX5_lossOf_11 : decode cX5_lossOf 11 = .ok (.iconst 1, 1) := by decide +kernel
theorem dX5_lossOf_12 : decode cX5_lossOf 12 = .ok (.if_icmp .ne 15, 3) := by decide +kernel
theorem dX5_lossOf_15 : decode cX5_lossOf 15 = .ok (.aload_n 0, 1) := by decide +kernel
theorem dX5_lossOf_16 : decode cX5_lossOf 16 = .ok (.getfield 33, 3) := by decide +kernel
theorem dX5_lossOf_19 : decode cX5_lossOf 19 = .ok (.iload_n 1, 1) := by decide +kernel
theorem dX5_lossOf_20 : decode cX5_lossOf 20 = .ok (.iload_n 2, 1) := by decide +kernel
theorem dX5_lossOf_21 : decode cX5_lossOf 21 = .ok (.invokevirtual 88, 3) := by decide +kernel
theorem dX5_lossOf_24 : decode cX5_lossOf 24 = .ok (.goto 4, 3) := by decide +kernel
theorem dX5_lossOf_27 : decode cX5_lossOf 27 = .ok (.iconst 0, 1) := by decide +kernel
theorem dX5_lossOf_28 : decode cX5_lossOf 28 = .ok (.ireturn, 1) := by decide +kernel
theorem dX5_betterBy_0 : decode cX5_betterBy 0 = .ok (.aload_n 0, 1) := by decide +kernel
theorem dX5_betterBy_1 : decode cX5_betterBy 1 = .ok (.getfield 9, 3) := by decide +kernel
theorem dX5_betterBy_4 : decode cX5_betterBy 4 = .ok (.iload_n 2, 1) := by decide +kernel
theorem dX5_betterBy_5 : decode cX5_betterBy 5 = .ok (.iaload, 1) := by decide +kernel
theorem dX5_betterBy_6 : decode cX5_betterBy 6 = .ok (.aload_n 0, 1) := by decide +kernel
theorem dX5_betterBy_7 : decode cX5_betterBy 7 = .ok (.getfield 9, 3) := by decide +kernel
theorem dX5_betterBy_10 : decode cX5_betterBy 10 = .ok (.iload_n 3, 1) := by decide +kernel
theorem dX5_betterBy_11 : decode cX5_betterBy 11 = .ok (.iaload, 1) := by decide +kernel
theorem dX5_betterBy_12 : decode cX5_betterBy 12 = .ok (.if_icmp .ne 7, 3) := by decide +kernel
theorem dX5_betterBy_15 : decode cX5_betterBy 15 = .ok (.iconst 0, 1) := by decide +kernel
theorem dX5_betterBy_16 : decode cX5_betterBy 16 = .ok (.goto 26, 3) := by decide +kernel
theorem dX5_betterBy_19 : decode cX5_betterBy 19 = .ok (.aload_n 0, 1) := by decide +kernel
theorem dX5_betterBy_20 : decode cX5_betterBy 20 = .ok (.iload_n 1, 1) := by decide +kernel
theorem dX5_betterBy_21 : decode cX5_betterBy 21 = .ok (.aload_n 0, 1) := by decide +kernel
theorem dX5_betterBy_22 : decode cX5_betterBy 22 = .ok (.getfield 9, 3) := by decide +kernel
theorem dX5_betterBy_25 : decode cX5_betterBy 25 = .ok (.iload_n 3, 1) := by decide +kernel
theorem dX5_betterBy_26 : decode cX5_betterBy 26 = .ok (.iaload, 1) := by decide +kernel
theorem dX5_betterBy_27 : decode cX5_betterBy 27 = .ok (.invokevirtual 92, 3) := by decide +kernel
theorem dX5_betterBy_30 : decode cX5_betterBy 30 = .ok (.aload_n 0, 1) := by decide +kernel
theorem dX5_betterBy_31 : decode cX5_betterBy 31 = .ok (.iload_n 1, 1) := by decide +kernel
theorem dX5_betterBy_32 : decode cX5_betterBy 32 = .ok (.aload_n 0, 1) := by decide +kernel
theorem dX5_betterBy_33 : decode cX5_betterBy 33 = .ok (.getfield 9, 3) := by decide +kernel
theorem dX5_betterBy_36 : decode cX5_betterBy 36 = .ok (.iload_n 2, 1) := by decide +kernel
theorem dX5_betterBy_37 : decode cX5_betterBy 37 = .ok (.iaload, 1) := by decide +kernel
theorem dX5_betterBy_38 : decode cX5_betterBy 38 = .ok (.invokevirtual 95, 3) := by decide +kernel
theorem dX5_betterBy_41 : decode cX5_betterBy 41 = .ok (.isub, 1) := by decide +kernel
theorem dX5_betterBy_42 : decode cX5_betterBy 42 = .ok (.ireturn, 1) := by decide +kernel
theorem dX5_wealthOf_0 : decode cX5_wealthOf 0 = .ok (.iconst 0, 1) := by decide +kernel
theorem dX5_wealthOf_1 : decode cX5_wealthOf 1 = .ok (.istore_n 2, 1) := by decide +kernel
theorem dX5_wealthOf_2 : decode cX5_wealthOf 2 = .ok (.iconst 0, 1) := by decide +kernel
theorem dX5_wealthOf_3 : decode cX5_wealthOf 3 = .ok (.istore_n 3, 1) := by decide +kernel
theorem dX5_wealthOf_4 : decode cX5_wealthOf 4 = .ok (.iload_n 3, 1) := by decide +kernel
theorem dX5_wealthOf_5 : decode cX5_wealthOf 5 = .ok (.aload_n 0, 1) := by decide +kernel
theorem dX5_wealthOf_6 : decode cX5_wealthOf 6 = .ok (.getfield 33, 3) := by decide +kernel
theorem dX5_wealthOf_9 : decode cX5_wealthOf 9 = .ok (.getfield 98, 3) := by decide +kernel
theorem dX5_wealthOf_12 : decode cX5_wealthOf 12 = .ok (.if_icmp .ge 35, 3) := by decide +kernel
theorem dX5_wealthOf_15 : decode cX5_wealthOf 15 = .ok (.aload_n 0, 1) := by decide +kernel
theorem dX5_wealthOf_16 : decode cX5_wealthOf 16 = .ok (.getfield 30, 3) := by decide +kernel
theorem dX5_wealthOf_19 : decode cX5_wealthOf 19 = .ok (.iload_n 1, 1) := by decide +kernel
theorem dX5_wealthOf_20 : decode cX5_wealthOf 20 = .ok (.bipush 6, 2) := by decide +kernel
theorem dX5_wealthOf_22 : decode cX5_wealthOf 22 = .ok (.imul, 1) := by decide +kernel
theorem dX5_wealthOf_23 : decode cX5_wealthOf 23 = .ok (.iload_n 3, 1) := by decide +kernel
theorem dX5_wealthOf_24 : decode cX5_wealthOf 24 = .ok (.iadd, 1) := by decide +kernel
theorem dX5_wealthOf_25 : decode cX5_wealthOf 25 = .ok (.iaload, 1) := by decide +kernel
theorem dX5_wealthOf_26 : decode cX5_wealthOf 26 = .ok (.ifCond .le 15, 3) := by decide +kernel
theorem dX5_wealthOf_29 : decode cX5_wealthOf 29 = .ok (.iload_n 2, 1) := by decide +kernel
theorem dX5_wealthOf_30 : decode cX5_wealthOf 30 = .ok (.aload_n 0, 1) := by decide +kernel
theorem dX5_wealthOf_31 : decode cX5_wealthOf 31 = .ok (.getfield 33, 3) := by decide +kernel
theorem dX5_wealthOf_34 : decode cX5_wealthOf 34 = .ok (.iload_n 1, 1) := by decide +kernel
theorem dX5_wealthOf_35 : decode cX5_wealthOf 35 = .ok (.iload_n 3, 1) := by decide +kernel
theorem dX5_wealthOf_36 : decode cX5_wealthOf 36 = .ok (.invokevirtual 88, 3) := by decide +kernel
theorem dX5_wealthOf_39 : decode cX5_wealthOf 39 = .ok (.iadd, 1) := by decide +kernel
theorem dX5_wealthOf_40 : decode cX5_wealthOf 40 = .ok (.istore_n 2, 1) := by decide +kernel
theorem dX5_wealthOf_41 : decode cX5_wealthOf 41 = .ok (.iinc 3 1, 3) := by decide +kernel
theorem dX5_wealthOf_44 : decode cX5_wealthOf 44 = .ok (.goto (-40), 3) := by decide +kernel
theorem dX5_wealthOf_47 : decode cX5_wealthOf 47 = .ok (.iload_n 2, 1) := by decide +kernel
theorem dX5_wealthOf_48 : decode cX5_wealthOf 48 = .ok (.ireturn, 1) := by decide +kernel
theorem dX5_sortsHad_0 : decode cX5_sortsHad 0 = .ok (.iconst 0, 1) := by decide +kernel
theorem dX5_sortsHad_1 : decode cX5_sortsHad 1 = .ok (.istore_n 2, 1) := by decide +kernel
theorem dX5_sortsHad_2 : decode cX5_sortsHad 2 = .ok (.iconst 0, 1) := by decide +kernel
theorem dX5_sortsHad_3 : decode cX5_sortsHad 3 = .ok (.istore_n 3, 1) := by decide +kernel
theorem dX5_sortsHad_4 : decode cX5_sortsHad 4 = .ok (.iload_n 3, 1) := by decide +kernel
theorem dX5_sortsHad_5 : decode cX5_sortsHad 5 = .ok (.aload_n 0, 1) := by decide +kernel
theorem dX5_sortsHad_6 : decode cX5_sortsHad 6 = .ok (.getfield 33, 3) := by decide +kernel
theorem dX5_sortsHad_9 : decode cX5_sortsHad 9 = .ok (.getfield 98, 3) := by decide +kernel
theorem dX5_sortsHad_12 : decode cX5_sortsHad 12 = .ok (.if_icmp .ge 29, 3) := by decide +kernel
theorem dX5_sortsHad_15 : decode cX5_sortsHad 15 = .ok (.aload_n 0, 1) := by decide +kernel
theorem dX5_sortsHad_16 : decode cX5_sortsHad 16 = .ok (.getfield 30, 3) := by decide +kernel
theorem dX5_sortsHad_19 : decode cX5_sortsHad 19 = .ok (.iload_n 1, 1) := by decide +kernel
theorem dX5_sortsHad_20 : decode cX5_sortsHad 20 = .ok (.bipush 6, 2) := by decide +kernel
theorem dX5_sortsHad_22 : decode cX5_sortsHad 22 = .ok (.imul, 1) := by decide +kernel
theorem dX5_sortsHad_23 : decode cX5_sortsHad 23 = .ok (.iload_n 3, 1) := by decide +kernel
theorem dX5_sortsHad_24 : decode cX5_sortsHad 24 = .ok (.iadd, 1) := by decide +kernel
theorem dX5_sortsHad_25 : decode cX5_sortsHad 25 = .ok (.iaload, 1) := by decide +kernel
theorem dX5_sortsHad_26 : decode cX5_sortsHad 26 = .ok (.ifCond .le 9, 3) := by decide +kernel
theorem dX5_sortsHad_29 : decode cX5_sortsHad 29 = .ok (.iload_n 2, 1) := by decide +kernel
theorem dX5_sortsHad_30 : decode cX5_sortsHad 30 = .ok (.iconst 1, 1) := by decide +kernel
theorem dX5_sortsHad_31 : decode cX5_sortsHad 31 = .ok (.iload_n 3, 1) := by decide +kernel
theorem dX5_sortsHad_32 : decode cX5_sortsHad 32 = .ok (.ishl, 1) := by decide +kernel
theorem dX5_sortsHad_33 : decode cX5_sortsHad 33 = .ok (.ior, 1) := by decide +kernel
theorem dX5_sortsHad_34 : decode cX5_sortsHad 34 = .ok (.istore_n 2, 1) := by decide +kernel
theorem dX5_sortsHad_35 : decode cX5_sortsHad 35 = .ok (.iinc 3 1, 3) := by decide +kernel
theorem dX5_sortsHad_38 : decode cX5_sortsHad 38 = .ok (.goto (-34), 3) := by decide +kernel
theorem dX5_sortsHad_41 : decode cX5_sortsHad 41 = .ok (.iload_n 2, 1) := by decide +kernel
theorem dX5_sortsHad_42 : decode cX5_sortsHad 42 = .ok (.ireturn, 1) := by decide +kernel
theorem dX5_poorHouses_0 : decode cX5_poorHouses 0 = .ok (.iconst 0, 1) := by decide +kernel
theorem dX5_poorHouses_1 : decode cX5_poorHouses 1 = .ok (.istore_n 1, 1) := by decide +kernel
theorem dX5_poorHouses_2 : decode cX5_poorHouses 2 = .ok (.iconst 0, 1) := by decide +kernel
theorem dX5_poorHouses_3 : decode cX5_poorHouses 3 = .ok (.istore_n 2, 1) := by decide +kernel
theorem dX5_poorHouses_4 : decode cX5_poorHouses 4 = .ok (.iload_n 2, 1) := by decide +kernel
theorem dX5_poorHouses_5 : decode cX5_poorHouses 5 = .ok (.aload_n 0, 1) := by decide +kernel
theorem dX5_poorHouses_6 : decode cX5_poorHouses 6 = .ok (.getfield 33, 3) := by decide +kernel
theorem dX5_poorHouses_9 : decode cX5_poorHouses 9 = .ok (.getfield 101, 3) := by decide +kernel
theorem dX5_poorHouses_12 : decode cX5_poorHouses 12 = .ok (.if_icmp .ge 24, 3) := by decide +kernel
theorem dX5_poorHouses_15 : decode cX5_poorHouses 15 = .ok (.aload_n 0, 1) := by decide +kernel
theorem dX5_poorHouses_16 : decode cX5_poorHouses 16 = .ok (.getfield 27, 3) := by decide +kernel
theorem dX5_poorHouses_19 : decode cX5_poorHouses 19 = .ok (.iload_n 2, 1) := by decide +kernel
theorem dX5_poorHouses_20 : decode cX5_poorHouses 20 = .ok (.iaload, 1) := by decide +kernel
theorem dX5_poorHouses_21 : decode cX5_poorHouses 21 = .ok (.ifCond .ne 9, 3) := by decide +kernel
theorem dX5_poorHouses_24 : decode cX5_poorHouses 24 = .ok (.iload_n 1, 1) := by decide +kernel
theorem dX5_poorHouses_25 : decode cX5_poorHouses 25 = .ok (.iconst 1, 1) := by decide +kernel
theorem dX5_poorHouses_26 : decode cX5_poorHouses 26 = .ok (.iload_n 2, 1) := by decide +kernel
theorem dX5_poorHouses_27 : decode cX5_poorHouses 27 = .ok (.ishl, 1) := by decide +kernel
theorem dX5_poorHouses_28 : decode cX5_poorHouses 28 = .ok (.ior, 1) := by decide +kernel
theorem dX5_poorHouses_29 : decode cX5_poorHouses 29 = .ok (.istore_n 1, 1) := by decide +kernel
theorem dX5_poorHouses_30 : decode cX5_poorHouses 30 = .ok (.iinc 2 1, 3) := by decide +kernel
theorem dX5_poorHouses_33 : decode cX5_poorHouses 33 = .ok (.goto (-29), 3) := by decide +kernel
theorem dX5_poorHouses_36 : decode cX5_poorHouses 36 = .ok (.iload_n 1, 1) := by decide +kernel
theorem dX5_poorHouses_37 : decode cX5_poorHouses 37 = .ok (.ireturn, 1) := by decide +kernel
theorem dX5_countLying_0 : decode cX5_countLying 0 = .ok (.iconst 0, 1) := by decide +kernel
theorem dX5_countLying_1 : decode cX5_countLying 1 = .ok (.istore_n 1, 1) := by decide +kernel
theorem dX5_countLying_2 : decode cX5_countLying 2 = .ok (.iconst 0, 1) := by decide +kernel
theorem dX5_countLying_3 : decode cX5_countLying 3 = .ok (.istore_n 2, 1) := by decide +kernel
theorem dX5_countLying_4 : decode cX5_countLying 4 = .ok (.iload_n 2, 1) := by decide +kernel
theorem dX5_countLying_5 : decode cX5_countLying 5 = .ok (.aload_n 0, 1) := by decide +kernel
theorem dX5_countLying_6 : decode cX5_countLying 6 = .ok (.getfield 37, 3) := by decide +kernel
theorem dX5_countLying_9 : decode cX5_countLying 9 = .ok (.if_icmp .ge 20, 3) := by decide +kernel
theorem dX5_countLying_12 : decode cX5_countLying 12 = .ok (.aload_n 0, 1) := by decide +kernel
theorem dX5_countLying_13 : decode cX5_countLying 13 = .ok (.iload_n 2, 1) := by decide +kernel
theorem dX5_countLying_14 : decode cX5_countLying 14 = .ok (.invokevirtual 74, 3) := by decide +kernel
theorem dX5_countLying_17 : decode cX5_countLying 17 = .ok (.ifCond .eq 6, 3) := by decide +kernel
theorem dX5_countLying_20 : decode cX5_countLying 20 = .ok (.iinc 1 1, 3) := by decide +kernel
theorem dX5_countLying_23 : decode cX5_countLying 23 = .ok (.iinc 2 1, 3) := by decide +kernel
theorem dX5_countLying_26 : decode cX5_countLying 26 = .ok (.goto (-22), 3) := by decide +kernel
theorem dX5_countLying_29 : decode cX5_countLying 29 = .ok (.iload_n 1, 1) := by decide +kernel
theorem dX5_countLying_30 : decode cX5_countLying 30 = .ok (.ireturn, 1) := by decide +kernel
theorem dX5_countInYard_0 : decode cX5_countInYard 0 = .ok (.iconst 0, 1) := by decide +kernel
theorem dX5_countInYard_1 : decode cX5_countInYard 1 = .ok (.istore_n 2, 1) := by decide +kernel
theorem dX5_countInYard_2 : decode cX5_countInYard 2 = .ok (.iconst 0, 1) := by decide +kernel
theorem dX5_countInYard_3 : decode cX5_countInYard 3 = .ok (.istore_n 3, 1) := by decide +kernel
theorem dX5_countInYard_4 : decode cX5_countInYard 4 = .ok (.iload_n 3, 1) := by decide +kernel
theorem dX5_countInYard_5 : decode cX5_countInYard 5 = .ok (.aload_n 0, 1) := by decide +kernel
theorem dX5_countInYard_6 : decode cX5_countInYard 6 = .ok (.getfield 37, 3) := by decide +kernel
theorem dX5_countInYard_9 : decode cX5_countInYard 9 = .ok (.if_icmp .ge 22, 3) := by decide +kernel
theorem dX5_countInYard_12 : decode cX5_countInYard 12 = .ok (.aload_n 0, 1) := by decide +kernel
theorem dX5_countInYard_13 : decode cX5_countInYard 13 = .ok (.getfield 18, 3) := by decide +kernel
theorem dX5_countInYard_16 : decode cX5_countInYard 16 = .ok (.iload_n 3, 1) := by decide +kernel
theorem dX5_countInYard_17 : decode cX5_countInYard 17 = .ok (.iaload, 1) := by decide +kernel
theorem dX5_countInYard_18 : decode cX5_countInYard 18 = .ok (.iload_n 1, 1) := by decide +kernel
theorem dX5_countInYard_19 : decode cX5_countInYard 19 = .ok (.if_icmp .ne 6, 3) := by decide +kernel
theorem dX5_countInYard_22 : decode cX5_countInYard 22 = .ok (.iinc 2 1, 3) := by decide +kernel
theorem dX5_countInYard_25 : decode cX5_countInYard 25 = .ok (.iinc 3 1, 3) := by decide +kernel
theorem dX5_countInYard_28 : decode cX5_countInYard 28 = .ok (.goto (-24), 3) := by decide +kernel
theorem dX5_countInYard_31 : decode cX5_countInYard 31 = .ok (.iload_n 2, 1) := by decide +kernel
theorem dX5_countInYard_32 : decode cX5_countInYard 32 = .ok (.ireturn, 1) := by decide +kernel
theorem dX5_firstAt_0 : decode cX5_firstAt 0 = .ok (.aload_n 0, 1) := by decide +kernel
theorem dX5_firstAt_1 : decode cX5_firstAt 1 = .ok (.getfield 18, 3) := by decide +kernel
theorem dX5_firstAt_4 : decode cX5_firstAt 4 = .ok (.iload_n 1, 1) := by decide +kernel
theorem dX5_firstAt_5 : decode cX5_firstAt 5 = .ok (.iaload, 1) := by decide +kernel
theorem dX5_firstAt_6 : decode cX5_firstAt 6 = .ok (.iconst (-1), 1) := by decide +kernel
theorem dX5_firstAt_7 : decode cX5_firstAt 7 = .ok (.if_icmp .ne 8, 3) := by decide +kernel
theorem dX5_firstAt_10 : decode cX5_firstAt 10 = .ok (.bipush 50, 2) := by decide +kernel
theorem dX5_firstAt_12 : decode cX5_firstAt 12 = .ok (.goto 17, 3) := by decide +kernel
theorem dX5_firstAt_15 : decode cX5_firstAt 15 = .ok (.aload_n 0, 1) := by decide +kernel
theorem dX5_firstAt_16 : decode cX5_firstAt 16 = .ok (.getfield 33, 3) := by decide +kernel
theorem dX5_firstAt_19 : decode cX5_firstAt 19 = .ok (.getfield 104, 3) := by decide +kernel
theorem dX5_firstAt_22 : decode cX5_firstAt 22 = .ok (.aload_n 0, 1) := by decide +kernel
theorem dX5_firstAt_23 : decode cX5_firstAt 23 = .ok (.getfield 18, 3) := by decide +kernel
theorem dX5_firstAt_26 : decode cX5_firstAt 26 = .ok (.iload_n 1, 1) := by decide +kernel
theorem dX5_firstAt_27 : decode cX5_firstAt 27 = .ok (.iaload, 1) := by decide +kernel
theorem dX5_firstAt_28 : decode cX5_firstAt 28 = .ok (.iaload, 1) := by decide +kernel
theorem dX5_firstAt_29 : decode cX5_firstAt 29 = .ok (.istore_n 2, 1) := by decide +kernel
theorem dX5_firstAt_30 : decode cX5_firstAt 30 = .ok (.iconst (-1), 1) := by decide +kernel
theorem dX5_firstAt_31 : decode cX5_firstAt 31 = .ok (.istore_n 3, 1) := by decide +kernel
theorem dX5_firstAt_32 : decode cX5_firstAt 32 = .ok (.iconst 0, 1) := by decide +kernel
theorem dX5_firstAt_33 : decode cX5_firstAt 33 = .ok (.istore 4, 2) := by decide +kernel
theorem dX5_firstAt_35 : decode cX5_firstAt 35 = .ok (.iconst 0, 1) := by decide +kernel
theorem dX5_firstAt_36 : decode cX5_firstAt 36 = .ok (.istore 5, 2) := by decide +kernel
theorem dX5_firstAt_38 : decode cX5_firstAt 38 = .ok (.iconst 0, 1) := by decide +kernel
theorem dX5_firstAt_39 : decode cX5_firstAt 39 = .ok (.istore 6, 2) := by decide +kernel
theorem dX5_firstAt_41 : decode cX5_firstAt 41 = .ok (.iload 6, 2) := by decide +kernel
theorem dX5_firstAt_43 : decode cX5_firstAt 43 = .ok (.aload_n 0, 1) := by decide +kernel
theorem dX5_firstAt_44 : decode cX5_firstAt 44 = .ok (.getfield 33, 3) := by decide +kernel
theorem dX5_firstAt_47 : decode cX5_firstAt 47 = .ok (.getfield 101, 3) := by decide +kernel
theorem dX5_firstAt_50 : decode cX5_firstAt 50 = .ok (.if_icmp .ge 104, 3) := by decide +kernel
theorem dX5_firstAt_53 : decode cX5_firstAt 53 = .ok (.aload_n 0, 1) := by decide +kernel
theorem dX5_firstAt_54 : decode cX5_firstAt 54 = .ok (.iload 6, 2) := by decide +kernel
theorem dX5_firstAt_56 : decode cX5_firstAt 56 = .ok (.aload_n 0, 1) := by decide +kernel
theorem dX5_firstAt_57 : decode cX5_firstAt 57 = .ok (.getfield 9, 3) := by decide +kernel
theorem dX5_firstAt_60 : decode cX5_firstAt 60 = .ok (.iload_n 1, 1) := by decide +kernel
theorem dX5_firstAt_61 : decode cX5_firstAt 61 = .ok (.iaload, 1) := by decide +kernel
theorem dX5_firstAt_62 : decode cX5_firstAt 62 = .ok (.invokevirtual 92, 3) := by decide +kernel
theorem dX5_firstAt_65 : decode cX5_firstAt 65 = .ok (.istore 7, 2) := by decide +kernel
theorem dX5_firstAt_67 : decode cX5_firstAt 67 = .ok (.aload_n 0, 1) := by decide +kernel
theorem dX5_firstAt_68 : decode cX5_firstAt 68 = .ok (.getfield 33, 3) := by decide +kernel
theorem dX5_firstAt_71 : decode cX5_firstAt 71 = .ok (.getfield 104, 3) := by decide +kernel
theorem dX5_firstAt_74 : decode cX5_firstAt 74 = .ok (.iload 6, 2) := by decide +kernel
theorem dX5_firstAt_76 : decode cX5_firstAt 76 = .ok (.iaload, 1) := by decide +kernel
theorem dX5_firstAt_77 : decode cX5_firstAt 77 = .ok (.iload_n 2, 1) := by decide +kernel
theorem dX5_firstAt_78 : decode cX5_firstAt 78 = .ok (.isub, 1) := by decide +kernel
theorem dX5_firstAt_79 : decode cX5_firstAt 79 = .ok (.invokestatic 107, 3) := by decide +kernel
theorem dX5_firstAt_82 : decode cX5_firstAt 82 = .ok (.istore 8, 2) := by decide +kernel
theorem dX5_firstAt_84 : decode cX5_firstAt 84 = .ok (.iload_n 3, 1) := by decide +kernel
theorem dX5_firstAt_85 : decode cX5_firstAt 85 = .ok (.iconst (-1), 1) := by decide +kernel
theorem dX5_firstAt_86 : decode cX5_firstAt 86 = .ok (.if_icmp .eq 24, 3) := by decide +kernel
theorem dX5_firstAt_89 : decode cX5_firstAt 89 = .ok (.iload 8, 2) := by decide +kernel
theorem dX5_firstAt_91 : decode cX5_firstAt 91 = .ok (.iload 4, 2) := by decide +kernel
theorem dX5_firstAt_93 : decode cX5_firstAt 93 = .ok (.if_icmp .lt 17, 3) := by decide +kernel
theorem dX5_firstAt_96 : decode cX5_firstAt 96 = .ok (.iload 8, 2) := by decide +kernel
theorem dX5_firstAt_98 : decode cX5_firstAt 98 = .ok (.iload 4, 2) := by decide +kernel
theorem dX5_firstAt_100 : decode cX5_firstAt 100 = .ok (.if_icmp .ne 14, 3) := by decide +kernel
theorem dX5_firstAt_103 : decode cX5_firstAt 103 = .ok (.iload 7, 2) := by decide +kernel
theorem dX5_firstAt_105 : decode cX5_firstAt 105 = .ok (.iload 5, 2) := by decide +kernel
theorem dX5_firstAt_107 : decode cX5_firstAt 107 = .ok (.if_icmp .le 7, 3) := by decide +kernel
theorem dX5_firstAt_110 : decode cX5_firstAt 110 = .ok (.iconst 1, 1) := by decide +kernel
theorem dX5_firstAt_111 : decode cX5_firstAt 111 = .ok (.goto 4, 3) := by decide +kernel
theorem dX5_firstAt_114 : decode cX5_firstAt 114 = .ok (.iconst 0, 1) := by decide +kernel
theorem dX5_firstAt_115 : decode cX5_firstAt 115 = .ok (.istore 9, 2) := by decide +kernel
theorem dX5_firstAt_117 : decode cX5_firstAt 117 = .ok (.iload 7, 2) := by decide +kernel
theorem dX5_firstAt_119 : decode cX5_firstAt 119 = .ok (.ifCond .le 29, 3) := by decide +kernel
theorem dX5_firstAt_122 : decode cX5_firstAt 122 = .ok (.aload_n 0, 1) := by decide +kernel
theorem dX5_firstAt_123 : decode cX5_firstAt 123 = .ok (.iload 6, 2) := by decide +kernel
theorem dX5_firstAt_125 : decode cX5_firstAt 125 = .ok (.iload_n 1, 1) := by decide +kernel
theorem dX5_firstAt_126 : decode cX5_firstAt 126 = .ok (.invokevirtual 85, 3) := by decide +kernel
theorem dX5_firstAt_129 : decode cX5_firstAt 129 = .ok (.ifCond .eq 19, 3) := by decide +kernel
theorem dX5_firstAt_132 : decode cX5_firstAt 132 = .ok (.iload 9, 2) := by decide +kernel
theorem dX5_firstAt_134 : decode cX5_firstAt 134 = .ok (.ifCond .eq 14, 3) := by decide +kernel
theorem dX5_firstAt_137 : decode cX5_firstAt 137 = .ok (.iload 6, 2) := by decide +kernel
theorem dX5_firstAt_139 : decode cX5_firstAt 139 = .ok (.istore_n 3, 1) := by decide +kernel
theorem dX5_firstAt_140 : decode cX5_firstAt 140 = .ok (.iload 8, 2) := by decide +kernel
theorem dX5_firstAt_142 : decode cX5_firstAt 142 = .ok (.istore 4, 2) := by decide +kernel
theorem dX5_firstAt_144 : decode cX5_firstAt 144 = .ok (.iload 7, 2) := by decide +kernel
theorem dX5_firstAt_146 : decode cX5_firstAt 146 = .ok (.istore 5, 2) := by decide +kernel
theorem dX5_firstAt_148 : decode cX5_firstAt 148 = .ok (.iinc 6 1, 3) := by decide +kernel
theorem dX5_firstAt_151 : decode cX5_firstAt 151 = .ok (.goto (-110), 3) := by decide +kernel
theorem dX5_firstAt_154 : decode cX5_firstAt 154 = .ok (.iload_n 3, 1) := by decide +kernel
theorem dX5_firstAt_155 : decode cX5_firstAt 155 = .ok (.ireturn, 1) := by decide +kernel
theorem dX5_partToTake_0 : decode cX5_partToTake 0 = .ok (.iconst (-1), 1) := by decide +kernel
theorem dX5_partToTake_1 : decode cX5_partToTake 1 = .ok (.istore_n 2, 1) := by decide +kernel
theorem dX5_partToTake_2 : decode cX5_partToTake 2 = .ok (.iconst 0, 1) := by decide +kernel
theorem dX5_partToTake_3 : decode cX5_partToTake 3 = .ok (.istore_n 3, 1) := by decide +kernel
theorem dX5_partToTake_4 : decode cX5_partToTake 4 = .ok (.iconst 0, 1) := by decide +kernel
theorem dX5_partToTake_5 : decode cX5_partToTake 5 = .ok (.istore 4, 2) := by decide +kernel
theorem dX5_partToTake_7 : decode cX5_partToTake 7 = .ok (.iload 4, 2) := by decide +kernel
theorem dX5_partToTake_9 : decode cX5_partToTake 9 = .ok (.aload_n 0, 1) := by decide +kernel
theorem dX5_partToTake_10 : decode cX5_partToTake 10 = .ok (.getfield 37, 3) := by decide +kernel
theorem dX5_partToTake_13 : decode cX5_partToTake 13 = .ok (.if_icmp .ge 51, 3) := by decide +kernel
theorem dX5_partToTake_16 : decode cX5_partToTake 16 = .ok (.aload_n 0, 1) := by decide +kernel
theorem dX5_partToTake_17 : decode cX5_partToTake 17 = .ok (.iload_n 1, 1) := by decide +kernel
theorem dX5_partToTake_18 : decode cX5_partToTake 18 = .ok (.iload 4, 2) := by decide +kernel
theorem dX5_partToTake_20 : decode cX5_partToTake 20 = .ok (.invokevirtual 85, 3) := by decide +kernel
theorem dX5_partToTake_23 : decode cX5_partToTake 23 = .ok (.ifCond .eq 35, 3) := by decide +kernel
theorem dX5_partToTake_26 : decode cX5_partToTake 26 = .ok (.aload_n 0, 1) := by decide +kernel
theorem dX5_partToTake_27 : decode cX5_partToTake 27 = .ok (.iload_n 1, 1) := by decide +kernel
theorem dX5_partToTake_28 : decode cX5_partToTake 28 = .ok (.aload_n 0, 1) := by decide +kernel
theorem dX5_partToTake_29 : decode cX5_partToTake 29 = .ok (.getfield 9, 3) := by decide +kernel
theorem dX5_partToTake_32 : decode cX5_partToTake 32 = .ok (.iload 4, 2) := by decide +kernel
theorem dX5_partToTake_34 : decode cX5_partToTake 34 = .ok (.iaload, 1) := by decide +kernel
theorem dX5_partToTake_35 : decode cX5_partToTake 35 = .ok (.invokevirtual 92, 3) := by decide +kernel
theorem dX5_partToTake_38 : decode cX5_partToTake 38 = .ok (.iload_n 3, 1) := by decide +kernel
theorem dX5_partToTake_39 : decode cX5_partToTake 39 = .ok (.if_icmp .le 19, 3) := by decide +kernel
theorem dX5_partToTake_42 : decode cX5_partToTake 42 = .ok (.iload 4, 2) := by decide +kernel
theorem dX5_partToTake_44 : decode cX5_partToTake 44 = .ok (.istore_n 2, 1) := by decide +kernel
theorem dX5_partToTake_45 : decode cX5_partToTake 45 = .ok (.aload_n 0, 1) := by decide +kernel
theorem dX5_partToTake_46 : decode cX5_partToTake 46 = .ok (.iload_n 1, 1) := by decide +kernel
theorem dX5_partToTake_47 : decode cX5_partToTake 47 = .ok (.aload_n 0, 1) := by decide +kernel
theorem dX5_partToTake_48 : decode cX5_partToTake 48 = .ok (.getfield 9, 3) := by decide +kernel
theorem dX5_partToTake_51 : decode cX5_partToTake 51 = .ok (.iload 4, 2) := by decide +kernel
theorem dX5_partToTake_53 : decode cX5_partToTake 53 = .ok (.iaload, 1) := by decide +kernel
theorem dX5_partToTake_54 : decode cX5_partToTake 54 = .ok (.invokevirtual 92, 3) := by decide +kernel
theorem dX5_partToTake_57 : decode cX5_partToTake 57 = .ok (.istore_n 3, 1) := by decide +kernel
theorem dX5_partToTake_58 : decode cX5_partToTake 58 = .ok (.iinc 4 1, 3) := by decide +kernel
theorem dX5_partToTake_61 : decode cX5_partToTake 61 = .ok (.goto (-54), 3) := by decide +kernel
theorem dX5_partToTake_64 : decode cX5_partToTake 64 = .ok (.iload_n 2, 1) := by decide +kernel
theorem dX5_partToTake_65 : decode cX5_partToTake 65 = .ok (.ireturn, 1) := by decide +kernel
theorem dX5_greatestGain_0 : decode cX5_greatestGain 0 = .ok (.aload_n 0, 1) := by decide +kernel
theorem dX5_greatestGain_1 : decode cX5_greatestGain 1 = .ok (.iload_n 1, 1) := by decide +kernel
theorem dX5_greatestGain_2 : decode cX5_greatestGain 2 = .ok (.invokevirtual 113, 3) := by decide +kernel
theorem dX5_greatestGain_5 : decode cX5_greatestGain 5 = .ok (.istore_n 2, 1) := by decide +kernel
theorem dX5_greatestGain_6 : decode cX5_greatestGain 6 = .ok (.iload_n 2, 1) := by decide +kernel
theorem dX5_greatestGain_7 : decode cX5_greatestGain 7 = .ok (.iconst (-1), 1) := by decide +kernel
theorem dX5_greatestGain_8 : decode cX5_greatestGain 8 = .ok (.if_icmp .ne 7, 3) := by decide +kernel
theorem dX5_greatestGain_11 : decode cX5_greatestGain 11 = .ok (.iconst 0, 1) := by decide +kernel
theorem dX5_greatestGain_12 : decode cX5_greatestGain 12 = .ok (.goto 14, 3) := by decide +kernel
theorem dX5_greatestGain_15 : decode cX5_greatestGain 15 = .ok (.aload_n 0, 1) := by decide +kernel
theorem dX5_greatestGain_16 : decode cX5_greatestGain 16 = .ok (.iload_n 1, 1) := by decide +kernel
theorem dX5_greatestGain_17 : decode cX5_greatestGain 17 = .ok (.aload_n 0, 1) := by decide +kernel
theorem dX5_greatestGain_18 : decode cX5_greatestGain 18 = .ok (.getfield 9, 3) := by decide +kernel
theorem dX5_greatestGain_21 : decode cX5_greatestGain 21 = .ok (.iload_n 2, 1) := by decide +kernel
theorem dX5_greatestGain_22 : decode cX5_greatestGain 22 = .ok (.iaload, 1) := by decide +kernel
theorem dX5_greatestGain_23 : decode cX5_greatestGain 23 = .ok (.invokevirtual 92, 3) := by decide +kernel
theorem dX5_greatestGain_26 : decode cX5_greatestGain 26 = .ok (.ireturn, 1) := by decide +kernel
theorem dX5_liveWeeks_0 : decode cX5_liveWeeks 0 = .ok (.iconst 0, 1) := by decide +kernel
theorem dX5_liveWeeks_1 : decode cX5_liveWeeks 1 = .ok (.istore_n 3, 1) := by decide +kernel
theorem dX5_liveWeeks_2 : decode cX5_liveWeeks 2 = .ok (.iconst 0, 1) := by decide +kernel
theorem dX5_liveWeeks_3 : decode cX5_liveWeeks 3 = .ok (.istore 4, 2) := by decide +kernel
theorem dX5_liveWeeks_5 : decode cX5_liveWeeks 5 = .ok (.iload 4, 2) := by decide +kernel
theorem dX5_liveWeeks_7 : decode cX5_liveWeeks 7 = .ok (.iload_n 1, 1) := by decide +kernel
theorem dX5_liveWeeks_8 : decode cX5_liveWeeks 8 = .ok (.if_icmp .ge 64, 3) := by decide +kernel
theorem dX5_liveWeeks_11 : decode cX5_liveWeeks 11 = .ok (.iload_n 2, 1) := by decide +kernel
theorem dX5_liveWeeks_12 : decode cX5_liveWeeks 12 = .ok (.ifCond .eq 14, 3) := by decide +kernel
theorem dX5_liveWeeks_15 : decode cX5_liveWeeks 15 = .ok (.aload_n 0, 1) := by decide +kernel
theorem dX5_liveWeeks_16 : decode cX5_liveWeeks 16 = .ok (.invokevirtual 116, 3) := by decide +kernel
theorem dX5_liveWeeks_19 : decode cX5_liveWeeks 19 = .ok (.ifCond .eq 7, 3) := by decide +kernel
theorem dX5_liveWeeks_22 : decode cX5_liveWeeks 22 = .ok (.iconst 1, 1) := by decide +kernel
theorem dX5_liveWeeks_23 : decode cX5_liveWeeks 23 = .ok (.goto 4, 3) := by decide +kernel
theorem dX5_liveWeeks_26 : decode cX5_liveWeeks 26 = .ok (.iconst 0, 1) := by decide +kernel
theorem dX5_liveWeeks_27 : decode cX5_liveWeeks 27 = .ok (.istore 5, 2) := by decide +kernel
theorem dX5_liveWeeks_29 : decode cX5_liveWeeks 29 = .ok (.iload_n 3, 1) := by decide +kernel
theorem dX5_liveWeeks_30 : decode cX5_liveWeeks 30 = .ok (.aload_n 0, 1) := by decide +kernel
theorem dX5_liveWeeks_31 : decode cX5_liveWeeks 31 = .ok (.invokevirtual 120, 3) := by decide +kernel
theorem dX5_liveWeeks_34 : decode cX5_liveWeeks 34 = .ok (.iadd, 1) := by decide +kernel
theorem dX5_liveWeeks_35 : decode cX5_liveWeeks 35 = .ok (.istore_n 3, 1) := by decide +kernel
theorem dX5_liveWeeks_36 : decode cX5_liveWeeks 36 = .ok (.aload_n 0, 1) := by decide +kernel
theorem dX5_liveWeeks_37 : decode cX5_liveWeeks 37 = .ok (.getfield 82, 3) := by decide +kernel
theorem dX5_liveWeeks_40 : decode cX5_liveWeeks 40 = .ok (.ifCond .ne 26, 3) := by decide +kernel
theorem dX5_liveWeeks_43 : decode cX5_liveWeeks 43 = .ok (.iload 5, 2) := by decide +kernel
theorem dX5_liveWeeks_45 : decode cX5_liveWeeks 45 = .ok (.ifCond .ne 21, 3) := by decide +kernel
theorem dX5_liveWeeks_48 : decode cX5_liveWeeks 48 = .ok (.aload_n 0, 1) := by decide +kernel
theorem dX5_liveWeeks_49 : decode cX5_liveWeeks 49 = .ok (.dup, 1) := by decide +kernel
theorem dX5_liveWeeks_50 : decode cX5_liveWeeks 50 = .ok (.getfield 41, 3) := by decide +kernel
theorem dX5_liveWeeks_53 : decode cX5_liveWeeks 53 = .ok (.iload_n 1, 1) := by decide +kernel
theorem dX5_liveWeeks_54 : decode cX5_liveWeeks 54 = .ok (.iconst 1, 1) := by decide +kernel
theorem dX5_liveWeeks_55 : decode cX5_liveWeeks 55 = .ok (.isub, 1) := by decide +kernel
theorem dX5_liveWeeks_56 : decode cX5_liveWeeks 56 = .ok (.iload 4, 2) := by decide +kernel
theorem dX5_liveWeeks_58 : decode cX5_liveWeeks 58 = .ok (.isub, 1) := by decide +kernel
theorem dX5_liveWeeks_59 : decode cX5_liveWeeks 59 = .ok (.iadd, 1) := by decide +kernel
theorem dX5_liveWeeks_60 : decode cX5_liveWeeks 60 = .ok (.putfield 41, 3) := by decide +kernel
theorem dX5_liveWeeks_63 : decode cX5_liveWeeks 63 = .ok (.goto 9, 3) := by decide +kernel
theorem dX5_liveWeeks_66 : decode cX5_liveWeeks 66 = .ok (.iinc 4 1, 3) := by decide +kernel
theorem dX5_liveWeeks_69 : decode cX5_liveWeeks 69 = .ok (.goto (-64), 3) := by decide +kernel
theorem dX5_liveWeeks_72 : decode cX5_liveWeeks 72 = .ok (.iload_n 3, 1) := by decide +kernel
theorem dX5_liveWeeks_73 : decode cX5_liveWeeks 73 = .ok (.ireturn, 1) := by decide +kernel
theorem dX5_liveWeek_0 : decode cX5_liveWeek 0 = .ok (.iconst 0, 1) := by decide +kernel
theorem dX5_liveWeek_1 : decode cX5_liveWeek 1 = .ok (.istore_n 1, 1) := by decide +kernel
theorem dX5_liveWeek_2 : decode cX5_liveWeek 2 = .ok (.aload_n 0, 1) := by decide +kernel
theorem dX5_liveWeek_3 : decode cX5_liveWeek 3 = .ok (.iconst 0, 1) := by decide +kernel
theorem dX5_liveWeek_4 : decode cX5_liveWeek 4 = .ok (.putfield 82, 3) := by decide +kernel
theorem dX5_liveWeek_7 : decode cX5_liveWeek 7 = .ok (.iconst 0, 1) := by decide +kernel
theorem dX5_liveWeek_8 : decode cX5_liveWeek 8 = .ok (.istore_n 2, 1) := by decide +kernel
theorem dX5_liveWeek_9 : decode cX5_liveWeek 9 = .ok (.iload_n 2, 1) := by decide +kernel
theorem dX5_liveWeek_10 : decode cX5_liveWeek 10 = .ok (.aload_n 0, 1) := by decide +kernel
theorem dX5_liveWeek_11 : decode cX5_liveWeek 11 = .ok (.getfield 33, 3) := by decide +kernel
theorem dX5_liveWeek_14 : decode cX5_liveWeek 14 = .ok (.getfield 101, 3) := by decide +kernel
theorem dX5_liveWeek_17 : decode cX5_liveWeek 17 = .ok (.if_icmp .ge 37, 3) := by decide +kernel
theorem dX5_liveWeek_20 : decode cX5_liveWeek 20 = .ok (.aload_n 0, 1) := by decide +kernel
theorem dX5_liveWeek_21 : decode cX5_liveWeek 21 = .ok (.iload_n 2, 1) := by decide +kernel
theorem dX5_liveWeek_22 : decode cX5_liveWeek 22 = .ok (.invokevirtual 113, 3) := by decide +kernel
theorem dX5_liveWeek_25 : decode cX5_liveWeek 25 = .ok (.istore_n 3, 1) := by decide +kernel
theorem dX5_liveWeek_26 : decode cX5_liveWeek 26 = .ok (.iload_n 3, 1) := by decide +kernel
theorem dX5_liveWeek_27 : decode cX5_liveWeek 27 = .ok (.iconst (-1), 1) := by decide +kernel
theorem dX5_liveWeek_28 : decode cX5_liveWeek 28 = .ok (.if_icmp .eq 15, 3) := by decide +kernel
theorem dX5_liveWeek_31 : decode cX5_liveWeek 31 = .ok (.aload_n 0, 1) := by decide +kernel
theorem dX5_liveWeek_32 : decode cX5_liveWeek 32 = .ok (.iload_n 2, 1) := by decide +kernel
theorem dX5_liveWeek_33 : decode cX5_liveWeek 33 = .ok (.iload_n 3, 1) := by decide +kernel
theorem dX5_liveWeek_34 : decode cX5_liveWeek 34 = .ok (.invokevirtual 124, 3) := by decide +kernel
theorem dX5_liveWeek_37 : decode cX5_liveWeek 37 = .ok (.ifCond .eq 6, 3) := by decide +kernel
theorem dX5_liveWeek_40 : decode cX5_liveWeek 40 = .ok (.iinc 1 1, 3) := by decide +kernel
theorem dX5_liveWeek_43 : decode cX5_liveWeek 43 = .ok (.aload_n 0, 1) := by decide +kernel
theorem dX5_liveWeek_44 : decode cX5_liveWeek 44 = .ok (.iload_n 2, 1) := by decide +kernel
theorem dX5_liveWeek_45 : decode cX5_liveWeek 45 = .ok (.invokevirtual 127, 3) := by decide +kernel
theorem dX5_liveWeek_48 : decode cX5_liveWeek 48 = .ok (.iinc 2 1, 3) := by decide +kernel
theorem dX5_liveWeek_51 : decode cX5_liveWeek 51 = .ok (.goto (-42), 3) := by decide +kernel
theorem dX5_liveWeek_54 : decode cX5_liveWeek 54 = .ok (.aload_n 0, 1) := by decide +kernel
theorem dX5_liveWeek_55 : decode cX5_liveWeek 55 = .ok (.dup, 1) := by decide +kernel
theorem dX5_liveWeek_56 : decode cX5_liveWeek 56 = .ok (.getfield 41, 3) := by decide +kernel
theorem dX5_liveWeek_59 : decode cX5_liveWeek 59 = .ok (.iconst 1, 1) := by decide +kernel
theorem dX5_liveWeek_60 : decode cX5_liveWeek 60 = .ok (.iadd, 1) := by decide +kernel
theorem dX5_liveWeek_61 : decode cX5_liveWeek 61 = .ok (.putfield 41, 3) := by decide +kernel
theorem dX5_liveWeek_64 : decode cX5_liveWeek 64 = .ok (.iload_n 1, 1) := by decide +kernel
theorem dX5_liveWeek_65 : decode cX5_liveWeek 65 = .ok (.ireturn, 1) := by decide +kernel
theorem dX5_throwSpare_0 : decode cX5_throwSpare 0 = .ok (.iconst 0, 1) := by decide +kernel
theorem dX5_throwSpare_1 : decode cX5_throwSpare 1 = .ok (.istore_n 2, 1) := by decide +kernel
theorem dX5_throwSpare_2 : decode cX5_throwSpare 2 = .ok (.iload_n 2, 1) := by decide +kernel
theorem dX5_throwSpare_3 : decode cX5_throwSpare 3 = .ok (.aload_n 0, 1) := by decide +kernel
theorem dX5_throwSpare_4 : decode cX5_throwSpare 4 = .ok (.getfield 37, 3) := by decide +kernel
theorem dX5_throwSpare_7 : decode cX5_throwSpare 7 = .ok (.if_icmp .ge 40, 3) := by decide +kernel
theorem dX5_throwSpare_10 : decode cX5_throwSpare 10 = .ok (.aload_n 0, 1) := by decide +kernel
theorem dX5_throwSpare_11 : decode cX5_throwSpare 11 = .ok (.getfield 15, 3) := by decide +kernel
theorem dX5_throwSpare_14 : decode cX5_throwSpare 14 = .ok (.iload_n 2, 1) := by decide +kernel
theorem dX5_throwSpare_15 : decode cX5_throwSpare 15 = .ok (.iaload, 1) := by decide +kernel
theorem dX5_throwSpare_16 : decode cX5_throwSpare 16 = .ok (.iload_n 1, 1) := by decide +kernel
theorem dX5_throwSpare_17 : decode cX5_throwSpare 17 = .ok (.if_icmp .ne 24, 3) := by decide +kernel
theorem dX5_throwSpare_20 : decode cX5_throwSpare 20 = .ok (.aload_n 0, 1) := by decide +kernel
theorem dX5_throwSpare_21 : decode cX5_throwSpare 21 = .ok (.iload_n 1, 1) := by decide +kernel
theorem dX5_throwSpare_22 : decode cX5_throwSpare 22 = .ok (.aload_n 0, 1) := by decide +kernel
theorem dX5_throwSpare_23 : decode cX5_throwSpare 23 = .ok (.getfield 9, 3) := by decide +kernel
theorem dX5_throwSpare_26 : decode cX5_throwSpare 26 = .ok (.iload_n 2, 1) := by decide +kernel
theorem dX5_throwSpare_27 : decode cX5_throwSpare 27 = .ok (.iaload, 1) := by decide +kernel
theorem dX5_throwSpare_28 : decode cX5_throwSpare 28 = .ok (.invokevirtual 95, 3) := by decide +kernel
theorem dX5_throwSpare_31 : decode cX5_throwSpare 31 = .ok (.ifCond .ne 10, 3) := by decide +kernel
theorem dX5_throwSpare_34 : decode cX5_throwSpare 34 = .ok (.aload_n 0, 1) := by decide +kernel
theorem dX5_throwSpare_35 : decode cX5_throwSpare 35 = .ok (.iload_n 1, 1) := by decide +kernel
theorem dX5_throwSpare_36 : decode cX5_throwSpare 36 = .ok (.iload_n 2, 1) := by decide +kernel
theorem dX5_throwSpare_37 : decode cX5_throwSpare 37 = .ok (.invokevirtual 131, 3) := by decide +kernel
theorem dX5_throwSpare_40 : decode cX5_throwSpare 40 = .ok (.pop, 1) := by decide +kernel
theorem dX5_throwSpare_41 : decode cX5_throwSpare 41 = .ok (.iinc 2 1, 3) := by decide +kernel
theorem dX5_throwSpare_44 : decode cX5_throwSpare 44 = .ok (.goto (-42), 3) := by decide +kernel
theorem dX5_throwSpare_47 : decode cX5_throwSpare 47 = .ok (.return_, 1) := by decide +kernel
theorem dX5_comeByDraw_0 : decode cX5_comeByDraw 0 = .ok (.aload_n 0, 1) := by decide +kernel
theorem dX5_comeByDraw_1 : decode cX5_comeByDraw 1 = .ok (.getfield 37, 3) := by decide +kernel
theorem dX5_comeByDraw_4 : decode cX5_comeByDraw 4 = .ok (.bipush 32, 2) := by decide +kernel
theorem dX5_comeByDraw_6 : decode cX5_comeByDraw 6 = .ok (.if_icmp .ge 26, 3) := by decide +kernel
theorem dX5_comeByDraw_9 : decode cX5_comeByDraw 9 = .ok (.aload_n 0, 1) := by decide +kernel
theorem dX5_comeByDraw_10 : decode cX5_comeByDraw 10 = .ok (.aload_n 0, 1) := by decide +kernel
theorem dX5_comeByDraw_11 : decode cX5_comeByDraw 11 = .ok (.aload_n 0, 1) := by decide +kernel
theorem dX5_comeByDraw_12 : decode cX5_comeByDraw 12 = .ok (.getfield 33, 3) := by decide +kernel
theorem dX5_comeByDraw_15 : decode cX5_comeByDraw 15 = .ok (.getfield 98, 3) := by decide +kernel
theorem dX5_comeByDraw_18 : decode cX5_comeByDraw 18 = .ok (.invokevirtual 134, 3) := by decide +kernel
theorem dX5_comeByDraw_21 : decode cX5_comeByDraw 21 = .ok (.iconst (-1), 1) := by decide +kernel
theorem dX5_comeByDraw_22 : decode cX5_comeByDraw 22 = .ok (.invokevirtual 61, 3) := by decide +kernel
theorem dX5_comeByDraw_25 : decode cX5_comeByDraw 25 = .ok (.ifCond .eq 7, 3) := by decide +kernel
theorem dX5_comeByDraw_28 : decode cX5_comeByDraw 28 = .ok (.iconst 1, 1) := by decide +kernel
theorem dX5_comeByDraw_29 : decode cX5_comeByDraw 29 = .ok (.goto 4, 3) := by decide +kernel
theorem dX5_comeByDraw_32 : decode cX5_comeByDraw 32 = .ok (.iconst 0, 1) := by decide +kernel
theorem dX5_comeByDraw_33 : decode cX5_comeByDraw 33 = .ok (.ireturn, 1) := by decide +kernel
theorem dX5_draw_0 : decode cX5_draw 0 = .ok (.aload_n 0, 1) := by decide +kernel
theorem dX5_draw_1 : decode cX5_draw 1 = .ok (.aload_n 0, 1) := by decide +kernel
theorem dX5_draw_2 : decode cX5_draw 2 = .ok (.getfield 65, 3) := by decide +kernel
theorem dX5_draw_5 : decode cX5_draw 5 = .ok (.i2l, 1) := by decide +kernel
theorem dX5_draw_6 : decode cX5_draw 6 = .ok (.ldc2_w 137, 3) := by decide +kernel
theorem dX5_draw_9 : decode cX5_draw 9 = .ok (.lmul, 1) := by decide +kernel
theorem dX5_draw_10 : decode cX5_draw 10 = .ok (.ldc2_w 139, 3) := by decide +kernel
theorem dX5_draw_13 : decode cX5_draw 13 = .ok (.ladd, 1) := by decide +kernel
theorem dX5_draw_14 : decode cX5_draw 14 = .ok (.ldc2_w 141, 3) := by decide +kernel
theorem dX5_draw_17 : decode cX5_draw 17 = .ok (.land, 1) := by decide +kernel
theorem dX5_draw_18 : decode cX5_draw 18 = .ok (.l2i, 1) := by decide +kernel
theorem dX5_draw_19 : decode cX5_draw 19 = .ok (.putfield 65, 3) := by decide +kernel
theorem dX5_draw_22 : decode cX5_draw 22 = .ok (.iload_n 1, 1) := by decide +kernel
theorem dX5_draw_23 : decode cX5_draw 23 = .ok (.ifCond .le 15, 3) := by decide +kernel
theorem dX5_draw_26 : decode cX5_draw 26 = .ok (.aload_n 0, 1) := by decide +kernel
theorem dX5_draw_27 : decode cX5_draw 27 = .ok (.getfield 65, 3) := by decide +kernel
theorem dX5_draw_30 : decode cX5_draw 30 = .ok (.ldc 143, 2) := by decide +kernel
theorem dX5_draw_32 : decode cX5_draw 32 = .ok (.idiv, 1) := by decide +kernel
theorem dX5_draw_33 : decode cX5_draw 33 = .ok (.iload_n 1, 1) := by decide +kernel
theorem dX5_draw_34 : decode cX5_draw 34 = .ok (.irem, 1) := by decide +kernel
theorem dX5_draw_35 : decode cX5_draw 35 = .ok (.goto 4, 3) := by decide +kernel
theorem dX5_draw_38 : decode cX5_draw 38 = .ok (.iconst 0, 1) := by decide +kernel
theorem dX5_draw_39 : decode cX5_draw 39 = .ok (.ireturn, 1) := by decide +kernel
