theorem dX0_init_0 : decode cX0_init 0 = .ok (.aload_n 0, 1) := by decide +kernel
theorem dX0_init_1 : decode cX0_init 1 = .ok (.invokespecial 3, 3) := by decide +kernel
theorem dX0_init_4 : decode cX0_init 4 = .ok (.aload_n 0, 1) := by decide +kernel
theorem dX0_init_5 : decode cX0_init 5 = .ok (.iconst 0, 1) := by decide +kernel
theorem dX0_init_6 : decode cX0_init 6 = .ok (.putfield 9, 3) := by decide +kernel
theorem dX0_init_9 : decode cX0_init 9 = .ok (.aload_n 0, 1) := by decide +kernel
theorem dX0_init_10 : decode cX0_init 10 = .ok (.bipush 40, 2) := by decide +kernel
theorem dX0_init_12 : decode cX0_init 12 = .ok (.newarray .int, 2) := by decide +kernel
theorem dX0_init_14 : decode cX0_init 14 = .ok (.putfield 15, 3) := by decide +kernel
theorem dX0_init_17 : decode cX0_init 17 = .ok (.aload_n 0, 1) := by decide +kernel
theorem dX0_init_18 : decode cX0_init 18 = .ok (.bipush 40, 2) := by decide +kernel
theorem dX0_init_20 : decode cX0_init 20 = .ok (.newarray .int, 2) := by decide +kernel
theorem dX0_init_22 : decode cX0_init 22 = .ok (.putfield 19, 3) := by decide +kernel
theorem dX0_init_25 : decode cX0_init 25 = .ok (.aload_n 0, 1) := by decide +kernel
theorem dX0_init_26 : decode cX0_init 26 = .ok (.iconst 4, 1) := by decide +kernel
theorem dX0_init_27 : decode cX0_init 27 = .ok (.newarray .int, 2) := by decide +kernel
theorem dX0_init_29 : decode cX0_init 29 = .ok (.putfield 22, 3) := by decide +kernel
theorem dX0_init_32 : decode cX0_init 32 = .ok (.aload_n 0, 1) := by decide +kernel
theorem dX0_init_33 : decode cX0_init 33 = .ok (.iconst 4, 1) := by decide +kernel
theorem dX0_init_34 : decode cX0_init 34 = .ok (.newarray .int, 2) := by decide +kernel
theorem dX0_init_36 : decode cX0_init 36 = .ok (.putfield 25, 3) := by decide +kernel
theorem dX0_init_39 : decode cX0_init 39 = .ok (.aload_n 0, 1) := by decide +kernel
theorem dX0_init_40 : decode cX0_init 40 = .ok (.aload_n 1, 1) := by decide +kernel
theorem dX0_init_41 : decode cX0_init 41 = .ok (.putfield 28, 3) := by decide +kernel
theorem dX0_init_44 : decode cX0_init 44 = .ok (.return_, 1) := by decide +kernel
theorem dX0_append_0 : decode cX0_append 0 = .ok (.aload_n 0, 1) := by decide +kernel
theorem dX0_append_1 : decode cX0_append 1 = .ok (.getfield 9, 3) := by decide +kernel
theorem dX0_append_4 : decode cX0_append 4 = .ok (.bipush 40, 2) := by decide +kernel
theorem dX0_append_6 : decode cX0_append 6 = .ok (.if_icmp .ge 33, 3) := by decide +kernel
theorem dX0_append_9 : decode cX0_append 9 = .ok (.aload_n 0, 1) := by decide +kernel
theorem dX0_append_10 : decode cX0_append 10 = .ok (.getfield 15, 3) := by decide +kernel
theorem dX0_append_13 : decode cX0_append 13 = .ok (.aload_n 0, 1) := by decide +kernel
theorem dX0_append_14 : decode cX0_append 14 = .ok (.getfield 9, 3) := by decide +kernel
theorem dX0_append_17 : decode cX0_append 17 = .ok (.iload_n 1, 1) := by decide +kernel
theorem dX0_append_18 : decode cX0_append 18 = .ok (.iastore, 1) := by decide +kernel
theorem dX0_append_19 : decode cX0_append 19 = .ok (.aload_n 0, 1) := by decide +kernel
theorem dX0_append_20 : decode cX0_append 20 = .ok (.getfield 19, 3) := by decide +kernel
theorem dX0_append_23 : decode cX0_append 23 = .ok (.aload_n 0, 1) := by decide +kernel
theorem dX0_append_24 : decode cX0_append 24 = .ok (.getfield 9, 3) := by decide +kernel
theorem dX0_append_27 : decode cX0_append 27 = .ok (.iload_n 2, 1) := by decide +kernel
theorem dX0_append_28 : decode cX0_append 28 = .ok (.iastore, 1) := by decide +kernel
theorem dX0_append_29 : decode cX0_append 29 = .ok (.aload_n 0, 1) := by decide +kernel
theorem dX0_append_30 : decode cX0_append 30 = .ok (.dup, 1) := by decide +kernel
theorem dX0_append_31 : decode cX0_append 31 = .ok (.getfield 9, 3) := by decide +kernel
theorem dX0_append_34 : decode cX0_append 34 = .ok (.iconst 1, 1) := by decide +kernel
theorem dX0_append_35 : decode cX0_append 35 = .ok (.iadd, 1) := by decide +kernel
theorem dX0_append_36 : decode cX0_append 36 = .ok (.putfield 9, 3) := by decide +kernel
theorem dX0_append_39 : decode cX0_append 39 = .ok (.return_, 1) := by decide +kernel
theorem dX0_firstWrong_0 : decode cX0_firstWrong 0 = .ok (.aload_n 0, 1) := by decide +kernel
theorem dX0_firstWrong_1 : decode cX0_firstWrong 1 = .ok (.getfield 28, 3) := by decide +kernel
theorem dX0_firstWrong_4 : decode cX0_firstWrong 4 = .ok (.getfield 32, 3) := by decide +kernel
theorem dX0_firstWrong_7 : decode cX0_firstWrong 7 = .ok (.iconst 0, 1) := by decide +kernel
theorem dX0_firstWrong_8 : decode cX0_firstWrong 8 = .ok (.aload_n 0, 1) := by decide +kernel
theorem dX0_firstWrong_9 : decode cX0_firstWrong 9 = .ok (.getfield 22, 3) := by decide +kernel
theorem dX0_firstWrong_12 : decode cX0_firstWrong 12 = .ok (.iconst 0, 1) := by decide +kernel
theorem dX0_firstWrong_13 : decode cX0_firstWrong 13 = .ok (.iconst 4, 1) := by decide +kernel
theorem dX0_firstWrong_14 : decode cX0_firstWrong 14 = .ok (.invokestatic 35, 3) := by decide +kernel
theorem dX0_firstWrong_17 : decode cX0_firstWrong 17 = .ok (.aload_n 0, 1) := by decide +kernel
theorem dX0_firstWrong_18 : decode cX0_firstWrong 18 = .ok (.getfield 25, 3) := by decide +kernel
theorem dX0_firstWrong_21 : decode cX0_firstWrong 21 = .ok (.aload_n 0, 1) := by decide +kernel
theorem dX0_firstWrong_22 : decode cX0_firstWrong 22 = .ok (.getfield 28, 3) := by decide +kernel
theorem dX0_firstWrong_25 : decode cX0_firstWrong 25 = .ok (.getfield 41, 3) := by decide +kernel
theorem dX0_firstWrong_28 : decode cX0_firstWrong 28 = .ok (.invokestatic 44, 3) := by decide +kernel
theorem dX0_firstWrong_31 : decode cX0_firstWrong 31 = .ok (.iconst 0, 1) := by decide +kernel
theorem dX0_firstWrong_32 : decode cX0_firstWrong 32 = .ok (.istore_n 1, 1) := by decide +kernel
theorem dX0_firstWrong_33 : decode cX0_firstWrong 33 = .ok (.iload_n 1, 1) := by decide +kernel
theorem dX0_firstWrong_34 : decode cX0_firstWrong 34 = .ok (.aload_n 0, 1) := by decide +kernel
theorem dX0_firstWrong_35 : decode cX0_firstWrong 35 = .ok (.getfield 9, 3) := by decide +kernel
theorem dX0_firstWrong_38 : decode cX0_firstWrong 38 = .ok (.if_icmp .ge 75, 3) := by decide +kernel
theorem dX0_firstWrong_41 : decode cX0_firstWrong 41 = .ok (.aload_n 0, 1) := by decide +kernel
theorem dX0_firstWrong_42 : decode cX0_firstWrong 42 = .ok (.getfield 15, 3) := by decide +kernel
theorem dX0_firstWrong_45 : decode cX0_firstWrong 45 = .ok (.iload_n 1, 1) := by decide +kernel
theorem dX0_firstWrong_46 : decode cX0_firstWrong 46 = .ok (.iaload, 1) := by decide +kernel
theorem dX0_firstWrong_47 : decode cX0_firstWrong 47 = .ok (.istore_n 2, 1) := by decide +kernel
theorem dX0_firstWrong_48 : decode cX0_firstWrong 48 = .ok (.aload_n 0, 1) := by decide +kernel
theorem dX0_firstWrong_49 : decode cX0_firstWrong 49 = .ok (.getfield 25, 3) := by decide +kernel
theorem dX0_firstWrong_52 : decode cX0_firstWrong 52 = .ok (.iload_n 2, 1) := by decide +kernel
theorem dX0_firstWrong_53 : decode cX0_firstWrong 53 = .ok (.dup2, 1) := by decide +kernel
theorem dX0_firstWrong_54 : decode cX0_firstWrong 54 = .ok (.iaload, 1) := by decide +kernel
theorem dX0_firstWrong_55 : decode cX0_firstWrong 55 = .ok (.iconst 1, 1) := by decide +kernel
theorem dX0_firstWrong_56 : decode cX0_firstWrong 56 = .ok (.iadd, 1) := by decide +kernel
theorem dX0_firstWrong_57 : decode cX0_firstWrong 57 = .ok (.iastore, 1) := by decide +kernel
theorem dX0_firstWrong_58 : decode cX0_firstWrong 58 = .ok (.aload_n 0, 1) := by decide +kernel
theorem dX0_firstWrong_59 : decode cX0_firstWrong 59 = .ok (.getfield 28, 3) := by decide +kernel
theorem dX0_firstWrong_62 : decode cX0_firstWrong 62 = .ok (.aload_n 0, 1) := by decide +kernel
theorem dX0_firstWrong_63 : decode cX0_firstWrong 63 = .ok (.getfield 22, 3) := by decide +kernel
theorem dX0_firstWrong_66 : decode cX0_firstWrong 66 = .ok (.iload_n 2, 1) := by decide +kernel
theorem dX0_firstWrong_67 : decode cX0_firstWrong 67 = .ok (.iaload, 1) := by decide +kernel
theorem dX0_firstWrong_68 : decode cX0_firstWrong 68 = .ok (.aload_n 0, 1) := by decide +kernel
theorem dX0_firstWrong_69 : decode cX0_firstWrong 69 = .ok (.getfield 19, 3) := by decide +kernel
theorem dX0_firstWrong_72 : decode cX0_firstWrong 72 = .ok (.iload_n 1, 1) := by decide +kernel
theorem dX0_firstWrong_73 : decode cX0_firstWrong 73 = .ok (.iaload, 1) := by decide +kernel
theorem dX0_firstWrong_74 : decode cX0_firstWrong 74 = .ok (.aload_n 0, 1) := by decide +kernel
theorem dX0_firstWrong_75 : decode cX0_firstWrong 75 = .ok (.getfield 28, 3) := by decide +kernel
theorem dX0_firstWrong_78 : decode cX0_firstWrong 78 = .ok (.getfield 50, 3) := by decide +kernel
theorem dX0_firstWrong_81 : decode cX0_firstWrong 81 = .ok (.iload_n 2, 1) := by decide +kernel
theorem dX0_firstWrong_82 : decode cX0_firstWrong 82 = .ok (.iaload, 1) := by decide +kernel
theorem dX0_firstWrong_83 : decode cX0_firstWrong 83 = .ok (.aload_n 0, 1) := by decide +kernel
theorem dX0_firstWrong_84 : decode cX0_firstWrong 84 = .ok (.getfield 25, 3) := by decide +kernel
theorem dX0_firstWrong_87 : decode cX0_firstWrong 87 = .ok (.iload_n 2, 1) := by decide +kernel
theorem dX0_firstWrong_88 : decode cX0_firstWrong 88 = .ok (.iaload, 1) := by decide +kernel
theorem dX0_firstWrong_89 : decode cX0_firstWrong 89 = .ok (.invokevirtual 53, 3) := by decide +kernel
theorem dX0_firstWrong_92 : decode cX0_firstWrong 92 = .ok (.istore_n 3, 1) := by decide +kernel
theorem dX0_firstWrong_93 : decode cX0_firstWrong 93 = .ok (.iload_n 3, 1) := by decide +kernel
theorem dX0_firstWrong_94 : decode cX0_firstWrong 94 = .ok (.iconst (-1), 1) := by decide +kernel
theorem dX0_firstWrong_95 : decode cX0_firstWrong 95 = .ok (.if_icmp .ne 5, 3) := by decide +kernel
theorem dX0_firstWrong_98 : decode cX0_firstWrong 98 = .ok (.iload_n 1, 1) := by decide +kernel
theorem dX0_firstWrong_99 : decode cX0_firstWrong 99 = .ok (.ireturn, 1) := by decide +kernel
theorem dX0_firstWrong_100 : decode cX0_firstWrong 100 = .ok (.aload_n 0, 1) := by decide +kernel
theorem dX0_firstWrong_101 : decode cX0_firstWrong 101 = .ok (.getfield 22, 3) := by decide +kernel
theorem dX0_firstWrong_104 : decode cX0_firstWrong 104 = .ok (.iload_n 2, 1) := by decide +kernel
theorem dX0_firstWrong_105 : decode cX0_firstWrong 105 = .ok (.iload_n 3, 1) := by decide +kernel
theorem dX0_firstWrong_106 : decode cX0_firstWrong 106 = .ok (.iastore, 1) := by decide +kernel
theorem dX0_firstWrong_107 : decode cX0_firstWrong 107 = .ok (.iinc 1 1, 3) := by decide +kernel
theorem dX0_firstWrong_110 : decode cX0_firstWrong 110 = .ok (.goto (-77), 3) := by decide +kernel
theorem dX0_firstWrong_113 : decode cX0_firstWrong 113 = .ok (.iconst (-1), 1) := by decide +kernel
theorem dX0_firstWrong_114 : decode cX0_firstWrong 114 = .ok (.ireturn, 1) := by decide +kernel
theorem dX1_init_0 : decode cX1_init 0 = .ok (.aload_n 0, 1) := by decide +kernel
theorem dX1_init_1 : decode cX1_init 1 = .ok (.invokespecial 3, 3) := by decide +kernel
theorem dX1_init_4 : decode cX1_init 4 = .ok (.aload_n 0, 1) := by decide +kernel
theorem dX1_init_5 : decode cX1_init 5 = .ok (.iconst (-1), 1) := by decide +kernel
theorem dX1_init_6 : decode cX1_init 6 = .ok (.putfield 9, 3) := by decide +kernel
theorem dX1_init_9 : decode cX1_init 9 = .ok (.aload_n 0, 1) := by decide +kernel
theorem dX1_init_10 : decode cX1_init 10 = .ok (.iconst 0, 1) := by decide +kernel
theorem dX1_init_11 : decode cX1_init 11 = .ok (.putfield 15, 3) := by decide +kernel
theorem dX1_init_14 : decode cX1_init 14 = .ok (.aload_n 0, 1) := by decide +kernel
theorem dX1_init_15 : decode cX1_init 15 = .ok (.bipush 20, 2) := by decide +kernel
theorem dX1_init_17 : decode cX1_init 17 = .ok (.newarray .int, 2) := by decide +kernel
theorem dX1_init_19 : decode cX1_init 19 = .ok (.putfield 18, 3) := by decide +kernel
theorem dX1_init_22 : decode cX1_init 22 = .ok (.aload_n 0, 1) := by decide +kernel
theorem dX1_init_23 : decode cX1_init 23 = .ok (.bipush 20, 2) := by decide +kernel
theorem dX1_init_25 : decode cX1_init 25 = .ok (.newarray .int, 2) := by decide +kernel
theorem dX1_init_27 : decode cX1_init 27 = .ok (.putfield 22, 3) := by decide +kernel
theorem dX1_init_30 : decode cX1_init 30 = .ok (.aload_n 0, 1) := by decide +kernel
theorem dX1_init_31 : decode cX1_init 31 = .ok (.aload_n 1, 1) := by decide +kernel
theorem dX1_init_32 : decode cX1_init 32 = .ok (.putfield 25, 3) := by decide +kernel
theorem dX1_init_35 : decode cX1_init 35 = .ok (.aload_n 0, 1) := by decide +kernel
theorem dX1_init_36 : decode cX1_init 36 = .ok (.aload_n 2, 1) := by decide +kernel
theorem dX1_init_37 : decode cX1_init 37 = .ok (.putfield 29, 3) := by decide +kernel
theorem dX1_init_40 : decode cX1_init 40 = .ok (.return_, 1) := by decide +kernel
theorem dX1_forget_0 : decode cX1_forget 0 = .ok (.aload_n 0, 1) := by decide +kernel
theorem dX1_forget_1 : decode cX1_forget 1 = .ok (.iconst (-1), 1) := by decide +kernel
theorem dX1_forget_2 : decode cX1_forget 2 = .ok (.putfield 9, 3) := by decide +kernel
theorem dX1_forget_5 : decode cX1_forget 5 = .ok (.aload_n 0, 1) := by decide +kernel
theorem dX1_forget_6 : decode cX1_forget 6 = .ok (.iconst 0, 1) := by decide +kernel
theorem dX1_forget_7 : decode cX1_forget 7 = .ok (.putfield 15, 3) := by decide +kernel
theorem dX1_forget_10 : decode cX1_forget 10 = .ok (.return_, 1) := by decide +kernel
theorem dX1_beginAt_0 : decode cX1_beginAt 0 = .ok (.aload_n 0, 1) := by decide +kernel
theorem dX1_beginAt_1 : decode cX1_beginAt 1 = .ok (.iload_n 1, 1) := by decide +kernel
theorem dX1_beginAt_2 : decode cX1_beginAt 2 = .ok (.putfield 9, 3) := by decide +kernel
theorem dX1_beginAt_5 : decode cX1_beginAt 5 = .ok (.aload_n 0, 1) := by decide +kernel
theorem dX1_beginAt_6 : decode cX1_beginAt 6 = .ok (.iconst 0, 1) := by decide +kernel
theorem dX1_beginAt_7 : decode cX1_beginAt 7 = .ok (.putfield 15, 3) := by decide +kernel
theorem dX1_beginAt_10 : decode cX1_beginAt 10 = .ok (.return_, 1) := by decide +kernel
theorem dX1_append_0 : decode cX1_append 0 = .ok (.aload_n 0, 1) := by decide +kernel
theorem dX1_append_1 : decode cX1_append 1 = .ok (.getfield 15, 3) := by decide +kernel
theorem dX1_append_4 : decode cX1_append 4 = .ok (.bipush 20, 2) := by decide +kernel
theorem dX1_append_6 : decode cX1_append 6 = .ok (.if_icmp .ge 33, 3) := by decide +kernel
theorem dX1_append_9 : decode cX1_append 9 = .ok (.aload_n 0, 1) := by decide +kernel
theorem dX1_append_10 : decode cX1_append 10 = .ok (.getfield 18, 3) := by decide +kernel
theorem dX1_append_13 : decode cX1_append 13 = .ok (.aload_n 0, 1) := by decide +kernel
theorem dX1_append_14 : decode cX1_append 14 = .ok (.getfield 15, 3) := by decide +kernel
theorem dX1_append_17 : decode cX1_append 17 = .ok (.iload_n 1, 1) := by decide +kernel
theorem dX1_append_18 : decode cX1_append 18 = .ok (.iastore, 1) := by decide +kernel
theorem dX1_append_19 : decode cX1_append 19 = .ok (.aload_n 0, 1) := by decide +kernel
theorem dX1_append_20 : decode cX1_append 20 = .ok (.getfield 22, 3) := by decide +kernel
theorem dX1_append_23 : decode cX1_append 23 = .ok (.aload_n 0, 1) := by decide +kernel
theorem dX1_append_24 : decode cX1_append 24 = .ok (.getfield 15, 3) := by decide +kernel
theorem dX1_append_27 : decode cX1_append 27 = .ok (.iload_n 2, 1) := by decide +kernel
theorem dX1_append_28 : decode cX1_append 28 = .ok (.iastore, 1) := by decide +kernel
theorem dX1_append_29 : decode cX1_append 29 = .ok (.aload_n 0, 1) := by decide +kernel
theorem dX1_append_30 : decode cX1_append 30 = .ok (.dup, 1) := by decide +kernel
theorem dX1_append_31 : decode cX1_append 31 = .ok (.getfield 15, 3) := by decide +kernel
theorem dX1_append_34 : decode cX1_append 34 = .ok (.iconst 1, 1) := by decide +kernel
theorem dX1_append_35 : decode cX1_append 35 = .ok (.iadd, 1) := by decide +kernel
theorem dX1_append_36 : decode cX1_append 36 = .ok (.putfield 15, 3) := by decide +kernel
theorem dX1_append_39 : decode cX1_append 39 = .ok (.return_, 1) := by decide +kernel
theorem dX1_lengthsThatFit_0 : decode cX1_lengthsThatFit 0 = .ok (.iconst 0, 1) := by decide +kernel
theorem dX1_lengthsThatFit_1 : decode cX1_lengthsThatFit 1 = .ok (.istore_n 1, 1) := by decide +kernel
theorem dX1_lengthsThatFit_2 : decode cX1_lengthsThatFit 2 = .ok (.iconst 0, 1) := by decide +kernel
theorem dX1_lengthsThatFit_3 : decode cX1_lengthsThatFit 3 = .ok (.istore_n 2, 1) := by decide +kernel
theorem dX1_lengthsThatFit_4 : decode cX1_lengthsThatFit 4 = .ok (.iload_n 2, 1) := by decide +kernel
theorem dX1_lengthsThatFit_5 : decode cX1_lengthsThatFit 5 = .ok (.bipush 6, 2) := by decide +kernel
theorem dX1_lengthsThatFit_7 : decode cX1_lengthsThatFit 7 = .ok (.if_icmp .gt 27, 3) := by decide +kernel
theorem dX1_lengthsThatFit_10 : decode cX1_lengthsThatFit 10 = .ok (.iload_n 1, 1) := by decide +kernel
theorem dX1_lengthsThatFit_11 : decode cX1_lengthsThatFit 11 = .ok (.aload_n 0, 1) := by decide +kernel
theorem dX1_lengthsThatFit_12 : decode cX1_lengthsThatFit 12 = .ok (.iload_n 2, 1) := by decide +kernel
theorem dX1_lengthsThatFit_13 : decode cX1_lengthsThatFit 13 = .ok (.invokevirtual 33, 3) := by decide +kernel
theorem dX1_lengthsThatFit_16 : decode cX1_lengthsThatFit 16 = .ok (.ifCond .eq 9, 3) := by decide +kernel
theorem dX1_lengthsThatFit_19 : decode cX1_lengthsThatFit 19 = .ok (.iconst 1, 1) := by decide +kernel
theorem dX1_lengthsThatFit_20 : decode cX1_lengthsThatFit 20 = .ok (.iload_n 2, 1) := by decide +kernel
theorem dX1_lengthsThatFit_21 : decode cX1_lengthsThatFit 21 = .ok (.ishl, 1) := by decide +kernel
theorem dX1_lengthsThatFit_22 : decode cX1_lengthsThatFit 22 = .ok (.goto 4, 3) := by decide +kernel
theorem dX1_lengthsThatFit_25 : decode cX1_lengthsThatFit 25 = .ok (.iconst 0, 1) := by decide +kernel
theorem dX1_lengthsThatFit_26 : decode cX1_lengthsThatFit 26 = .ok (.ior, 1) := by decide +kernel
theorem dX1_lengthsThatFit_27 : decode cX1_lengthsThatFit 27 = .ok (.istore_n 1, 1) := by decide +kernel
theorem dX1_lengthsThatFit_28 : decode cX1_lengthsThatFit 28 = .ok (.iinc 2 1, 3) := by decide +kernel
theorem dX1_lengthsThatFit_31 : decode cX1_lengthsThatFit 31 = .ok (.goto (-27), 3) := by decide +kernel
theorem dX1_lengthsThatFit_34 : decode cX1_lengthsThatFit 34 = .ok (.iload_n 1, 1) := by decide +kernel
theorem dX1_lengthsThatFit_35 : decode cX1_lengthsThatFit 35 = .ok (.ireturn, 1) := by decide +kernel
theorem dX1_canBeAll_0 : decode cX1_canBeAll 0 = .ok (.lconst 1, 1) := by decide +kernel
theorem dX1_canBeAll_1 : decode cX1_canBeAll 1 = .ok (.aload_n 0, 1) := by decide +kernel
theorem dX1_canBeAll_2 : decode cX1_canBeAll 2 = .ok (.getfield 9, 3) := by decide +kernel
theorem dX1_canBeAll_5 : decode cX1_canBeAll 5 = .ok (.lshl, 1) := by decide +kernel
theorem dX1_canBeAll_6 : decode cX1_canBeAll 6 = .ok (.aload_n 0, 1) := by decide +kernel
theorem dX1_canBeAll_7 : decode cX1_canBeAll 7 = .ok (.iconst 0, 1) := by decide +kernel
theorem dX1_canBeAll_8 : decode cX1_canBeAll 8 = .ok (.invokevirtual 37, 3) := by decide +kernel
theorem dX1_canBeAll_11 : decode cX1_canBeAll 11 = .ok (.land, 1) := by decide +kernel
theorem dX1_canBeAll_12 : decode cX1_canBeAll 12 = .ok (.lstore_n 2, 1) := by decide +kernel
theorem dX1_canBeAll_13 : decode cX1_canBeAll 13 = .ok (.iconst 1, 1) := by decide +kernel
theorem dX1_canBeAll_14 : decode cX1_canBeAll 14 = .ok (.istore 4, 2) := by decide +kernel
theorem dX1_canBeAll_16 : decode cX1_canBeAll 16 = .ok (.iload 4, 2) := by decide +kernel
theorem dX1_canBeAll_18 : decode cX1_canBeAll 18 = .ok (.bipush 40, 2) := by decide +kernel
theorem dX1_canBeAll_20 : decode cX1_canBeAll 20 = .ok (.if_icmp .gt 68, 3) := by decide +kernel
theorem dX1_canBeAll_23 : decode cX1_canBeAll 23 = .ok (.lload_n 2, 1) := by decide +kernel
theorem dX1_canBeAll_24 : decode cX1_canBeAll 24 = .ok (.lconst 0, 1) := by decide +kernel
theorem dX1_canBeAll_25 : decode cX1_canBeAll 25 = .ok (.lcmp, 1) := by decide +kernel
theorem dX1_canBeAll_26 : decode cX1_canBeAll 26 = .ok (.ifCond .eq 62, 3) := by decide +kernel
theorem dX1_canBeAll_29 : decode cX1_canBeAll 29 = .ok (.aload_n 0, 1) := by decide +kernel
theorem dX1_canBeAll_30 : decode cX1_canBeAll 30 = .ok (.getfield 25, 3) := by decide +kernel
theorem dX1_canBeAll_33 : decode cX1_canBeAll 33 = .ok (.iload_n 1, 1) := by decide +kernel
theorem dX1_canBeAll_34 : decode cX1_canBeAll 34 = .ok (.aload_n 0, 1) := by decide +kernel
theorem dX1_canBeAll_35 : decode cX1_canBeAll 35 = .ok (.getfield 25, 3) := by decide +kernel
theorem dX1_canBeAll_38 : decode cX1_canBeAll 38 = .ok (.aload_n 0, 1) := by decide +kernel
theorem dX1_canBeAll_39 : decode cX1_canBeAll 39 = .ok (.getfield 29, 3) := by decide +kernel
theorem dX1_canBeAll_42 : decode cX1_canBeAll 42 = .ok (.getfield 41, 3) := by decide +kernel
theorem dX1_canBeAll_45 : decode cX1_canBeAll 45 = .ok (.iload 4, 2) := by decide +kernel
theorem dX1_canBeAll_47 : decode cX1_canBeAll 47 = .ok (.iadd, 1) := by decide +kernel
theorem dX1_canBeAll_48 : decode cX1_canBeAll 48 = .ok (.invokevirtual 46, 3) := by decide +kernel
theorem dX1_canBeAll_51 : decode cX1_canBeAll 51 = .ok (.invokevirtual 52, 3) := by decide +kernel
theorem dX1_canBeAll_54 : decode cX1_canBeAll 54 = .ok (.aload_n 0, 1) := by decide +kernel
theorem dX1_canBeAll_55 : decode cX1_canBeAll 55 = .ok (.getfield 29, 3) := by decide +kernel
theorem dX1_canBeAll_58 : decode cX1_canBeAll 58 = .ok (.getfield 56, 3) := by decide +kernel
theorem dX1_canBeAll_61 : decode cX1_canBeAll 61 = .ok (.lor, 1) := by decide +kernel
theorem dX1_canBeAll_62 : decode cX1_canBeAll 62 = .ok (.lstore 5, 2) := by decide +kernel
theorem dX1_canBeAll_64 : decode cX1_canBeAll 64 = .ok (.aload_n 0, 1) := by decide +kernel
theorem dX1_canBeAll_65 : decode cX1_canBeAll 65 = .ok (.getfield 25, 3) := by decide +kernel
theorem dX1_canBeAll_68 : decode cX1_canBeAll 68 = .ok (.lload_n 2, 1) := by decide +kernel
theorem dX1_canBeAll_69 : decode cX1_canBeAll 69 = .ok (.lload 5, 2) := by decide +kernel
theorem dX1_canBeAll_71 : decode cX1_canBeAll 71 = .ok (.invokevirtual 60, 3) := by decide +kernel
theorem dX1_canBeAll_74 : decode cX1_canBeAll 74 = .ok (.aload_n 0, 1) := by decide +kernel
theorem dX1_canBeAll_75 : decode cX1_canBeAll 75 = .ok (.iload 4, 2) := by decide +kernel
theorem dX1_canBeAll_77 : decode cX1_canBeAll 77 = .ok (.invokevirtual 37, 3) := by decide +kernel
theorem dX1_canBeAll_80 : decode cX1_canBeAll 80 = .ok (.land, 1) := by decide +kernel
theorem dX1_canBeAll_81 : decode cX1_canBeAll 81 = .ok (.lstore_n 2, 1) := by decide +kernel
theorem dX1_canBeAll_82 : decode cX1_canBeAll 82 = .ok (.iinc 4 1, 3) := by decide +kernel
theorem dX1_canBeAll_85 : decode cX1_canBeAll 85 = .ok (.goto (-69), 3) := by decide +kernel
theorem dX1_canBeAll_88 : decode cX1_canBeAll 88 = .ok (.lload_n 2, 1) := by decide +kernel
theorem dX1_canBeAll_89 : decode cX1_canBeAll 89 = .ok (.lconst 0, 1) := by decide +kernel
theorem dX1_canBeAll_90 : decode cX1_canBeAll 90 = .ok (.lcmp, 1) := by decide +kernel
theorem dX1_canBeAll_91 : decode cX1_canBeAll 91 = .ok (.ifCond .eq 7, 3) := by decide +kernel
theorem dX1_canBeAll_94 : decode cX1_canBeAll 94 = .ok (.iconst 1, 1) := by decide +kernel
theorem dX1_canBeAll_95 : decode cX1_canBeAll 95 = .ok (.goto 4, 3) := by decide +kernel
theorem dX1_canBeAll_98 : decode cX1_canBeAll 98 = .ok (.iconst 0, 1) := by decide +kernel
theorem dX1_canBeAll_99 : decode cX1_canBeAll 99 = .ok (.ireturn, 1) := by decide +kernel
theorem dX1_seenAt_0 : decode cX1_seenAt 0 = .ok (.aload_n 0, 1) := by decide +kernel
theorem dX1_seenAt_1 : decode cX1_seenAt 1 = .ok (.getfield 25, 3) := by decide +kernel
theorem dX1_seenAt_4 : decode cX1_seenAt 4 = .ok (.getfield 64, 3) := by decide +kernel
theorem dX1_seenAt_7 : decode cX1_seenAt 7 = .ok (.lstore_n 2, 1) := by decide +kernel
theorem dX1_seenAt_8 : decode cX1_seenAt 8 = .ok (.iconst 0, 1) := by decide +kernel
theorem dX1_seenAt_9 : decode cX1_seenAt 9 = .ok (.istore 4, 2) := by decide +kernel
theorem dX1_seenAt_11 : decode cX1_seenAt 11 = .ok (.iload 4, 2) := by decide +kernel
theorem dX1_seenAt_13 : decode cX1_seenAt 13 = .ok (.aload_n 0, 1) := by decide +kernel
theorem dX1_seenAt_14 : decode cX1_seenAt 14 = .ok (.getfield 15, 3) := by decide +kernel
theorem dX1_seenAt_17 : decode cX1_seenAt 17 = .ok (.if_icmp .ge 32, 3) := by decide +kernel
theorem dX1_seenAt_20 : decode cX1_seenAt 20 = .ok (.aload_n 0, 1) := by decide +kernel
theorem dX1_seenAt_21 : decode cX1_seenAt 21 = .ok (.getfield 22, 3) := by decide +kernel
theorem dX1_seenAt_24 : decode cX1_seenAt 24 = .ok (.iload 4, 2) := by decide +kernel
theorem dX1_seenAt_26 : decode cX1_seenAt 26 = .ok (.iaload, 1) := by decide +kernel
theorem dX1_seenAt_27 : decode cX1_seenAt 27 = .ok (.iload_n 1, 1) := by decide +kernel
theorem dX1_seenAt_28 : decode cX1_seenAt 28 = .ok (.if_icmp .ne 15, 3) := by decide +kernel
theorem dX1_seenAt_31 : decode cX1_seenAt 31 = .ok (.lload_n 2, 1) := by decide +kernel
theorem dX1_seenAt_32 : decode cX1_seenAt 32 = .ok (.lconst 1, 1) := by decide +kernel
theorem dX1_seenAt_33 : decode cX1_seenAt 33 = .ok (.aload_n 0, 1) := by decide +kernel
theorem dX1_seenAt_34 : decode cX1_seenAt 34 = .ok (.getfield 18, 3) := by decide +kernel
theorem dX1_seenAt_37 : decode cX1_seenAt 37 = .ok (.iload 4, 2) := by decide +kernel
theorem dX1_seenAt_39 : decode cX1_seenAt 39 = .ok (.iaload, 1) := by decide +kernel
theorem dX1_seenAt_40 : decode cX1_seenAt 40 = .ok (.lshl, 1) := by decide +kernel
theorem dX1_seenAt_41 : decode cX1_seenAt 41 = .ok (.land, 1) := by decide +kernel
theorem dX1_seenAt_42 : decode cX1_seenAt 42 = .ok (.lstore_n 2, 1) := by decide +kernel
theorem dX1_seenAt_43 : decode cX1_seenAt 43 = .ok (.iinc 4 1, 3) := by decide +kernel
theorem dX1_seenAt_46 : decode cX1_seenAt 46 = .ok (.goto (-35), 3) := by decide +kernel
theorem dX1_seenAt_49 : decode cX1_seenAt 49 = .ok (.lload_n 2, 1) := by decide +kernel
theorem dX1_seenAt_50 : decode cX1_seenAt 50 = .ok (.lreturn, 1) := by decide +kernel
theorem dX2_init_0 : decode cX2_init 0 = .ok (.aload_n 0, 1) := by decide +kernel
theorem dX2_init_1 : decode cX2_init 1 = .ok (.invokespecial 3, 3) := by decide +kernel
theorem dX2_init_4 : decode cX2_init 4 = .ok (.aload_n 0, 1) := by decide +kernel
theorem dX2_init_5 : decode cX2_init 5 = .ok (.iconst 0, 1) := by decide +kernel
theorem dX2_init_6 : decode cX2_init 6 = .ok (.putfield 9, 3) := by decide +kernel
theorem dX2_init_9 : decode cX2_init 9 = .ok (.aload_n 0, 1) := by decide +kernel
theorem dX2_init_10 : decode cX2_init 10 = .ok (.iconst 0, 1) := by decide +kernel
theorem dX2_init_11 : decode cX2_init 11 = .ok (.putfield 15, 3) := by decide +kernel
theorem dX2_init_14 : decode cX2_init 14 = .ok (.aload_n 0, 1) := by decide +kernel
theorem dX2_init_15 : decode cX2_init 15 = .ok (.iconst 1, 1) := by decide +kernel
theorem dX2_init_16 : decode cX2_init 16 = .ok (.putfield 18, 3) := by decide +kernel
theorem dX2_init_19 : decode cX2_init 19 = .ok (.aload_n 0, 1) := by decide +kernel
theorem dX2_init_20 : decode cX2_init 20 = .ok (.iconst 0, 1) := by decide +kernel
theorem dX2_init_21 : decode cX2_init 21 = .ok (.putfield 21, 3) := by decide +kernel
theorem dX2_init_24 : decode cX2_init 24 = .ok (.aload_n 0, 1) := by decide +kernel
theorem dX2_init_25 : decode cX2_init 25 = .ok (.iconst 0, 1) := by decide +kernel
theorem dX2_init_26 : decode cX2_init 26 = .ok (.putfield 24, 3) := by decide +kernel
theorem dX2_init_29 : decode cX2_init 29 = .ok (.aload_n 0, 1) := by decide +kernel
theorem dX2_init_30 : decode cX2_init 30 = .ok (.iconst 0, 1) := by decide +kernel
theorem dX2_init_31 : decode cX2_init 31 = .ok (.putfield 27, 3) := by decide +kernel
theorem dX2_init_34 : decode cX2_init 34 = .ok (.aload_n 0, 1) := by decide +kernel
theorem dX2_init_35 : decode cX2_init 35 = .ok (.lconst 0, 1) := by decide +kernel
theorem dX2_init_36 : decode cX2_init 36 = .ok (.putfield 30, 3) := by decide +kernel
theorem dX2_init_39 : decode cX2_init 39 = .ok (.aload_n 0, 1) := by decide +kernel
theorem dX2_init_40 : decode cX2_init 40 = .ok (.lconst 0, 1) := by decide +kernel
theorem dX2_init_41 : decode cX2_init 41 = .ok (.putfield 34, 3) := by decide +kernel
theorem dX2_init_44 : decode cX2_init 44 = .ok (.aload_n 0, 1) := by decide +kernel
theorem dX2_init_45 : decode cX2_init 45 = .ok (.lconst 0, 1) := by decide +kernel
theorem dX2_init_46 : decode cX2_init 46 = .ok (.putfield 37, 3) := by decide +kernel
theorem dX2_init_49 : decode cX2_init 49 = .ok (.aload_n 0, 1) := by decide +kernel
theorem dX2_init_50 : decode cX2_init 50 = .ok (.bipush 36, 2) := by decide +kernel
theorem dX2_init_52 : decode cX2_init 52 = .ok (.newarray .int, 2) := by decide +kernel
theorem dX2_init_54 : decode cX2_init 54 = .ok (.putfield 40, 3) := by decide +kernel
theorem dX2_init_57 : decode cX2_init 57 = .ok (.aload_n 0, 1) := by decide +kernel
theorem dX2_init_58 : decode cX2_init 58 = .ok (.bipush 6, 2) := by decide +kernel
theorem dX2_init_60 : decode cX2_init 60 = .ok (.newarray .int, 2) := by decide +kernel
theorem dX2_init_62 : decode cX2_init 62 = .ok (.putfield 44, 3) := by decide +kernel
theorem dX2_init_65 : decode cX2_init 65 = .ok (.aload_n 0, 1) := by decide +kernel
theorem dX2_init_66 : decode cX2_init 66 = .ok (.iconst 4, 1) := by decide +kernel
theorem dX2_init_67 : decode cX2_init 67 = .ok (.newarray .int, 2) := by decide +kernel
theorem dX2_init_69 : decode cX2_init 69 = .ok (.putfield 47, 3) := by decide +kernel
theorem dX2_init_72 : decode cX2_init 72 = .ok (.aload_n 0, 1) := by decide +kernel
theorem dX2_init_73 : decode cX2_init 73 = .ok (.iconst 4, 1) := by decide +kernel
theorem dX2_init_74 : decode cX2_init 74 = .ok (.newarray .int, 2) := by decide +kernel
theorem dX2_init_76 : decode cX2_init 76 = .ok (.putfield 50, 3) := by decide +kernel
theorem dX2_init_79 : decode cX2_init 79 = .ok (.aload_n 0, 1) := by decide +kernel
theorem dX2_init_80 : decode cX2_init 80 = .ok (.iconst 4, 1) := by decide +kernel
theorem dX2_init_81 : decode cX2_init 81 = .ok (.newarray .int, 2) := by decide +kernel
theorem dX2_init_83 : decode cX2_init 83 = .ok (.putfield 53, 3) := by decide +kernel
theorem dX2_init_86 : decode cX2_init 86 = .ok (.aload_n 0, 1) := by decide +kernel
theorem dX2_init_87 : decode cX2_init 87 = .ok (.bipush 48, 2) := by decide +kernel
theorem dX2_init_89 : decode cX2_init 89 = .ok (.newarray .long, 2) := by decide +kernel
theorem dX2_init_91 : decode cX2_init 91 = .ok (.putfield 56, 3) := by decide +kernel
theorem dX2_init_94 : decode cX2_init 94 = .ok (.aload_n 0, 1) := by decide +kernel
theorem dX2_init_95 : decode cX2_init 95 = .ok (.getfield 44, 3) := by decide +kernel
theorem dX2_init_98 : decode cX2_init 98 = .ok (.iconst 0, 1) := by decide +kernel
theorem dX2_init_99 : decode cX2_init 99 = .ok (.iconst 5, 1) := by decide +kernel
theorem dX2_init_100 : decode cX2_init 100 = .ok (.iastore, 1) := by decide +kernel
theorem dX2_init_101 : decode cX2_init 101 = .ok (.return_, 1) := by decide +kernel
theorem dX2_clear_0 : decode cX2_clear 0 = .ok (.aload_n 0, 1) := by decide +kernel
theorem dX2_clear_1 : decode cX2_clear 1 = .ok (.iconst 0, 1) := by decide +kernel
theorem dX2_clear_2 : decode cX2_clear 2 = .ok (.putfield 9, 3) := by decide +kernel
theorem dX2_clear_5 : decode cX2_clear 5 = .ok (.aload_n 0, 1) := by decide +kernel
theorem dX2_clear_6 : decode cX2_clear 6 = .ok (.iconst 0, 1) := by decide +kernel
theorem dX2_clear_7 : decode cX2_clear 7 = .ok (.putfield 15, 3) := by decide +kernel
theorem dX2_clear_10 : decode cX2_clear 10 = .ok (.aload_n 0, 1) := by decide +kernel
theorem dX2_clear_11 : decode cX2_clear 11 = .ok (.iconst 1, 1) := by decide +kernel
theorem dX2_clear_12 : decode cX2_clear 12 = .ok (.putfield 18, 3) := by decide +kernel
theorem dX2_clear_15 : decode cX2_clear 15 = .ok (.aload_n 0, 1) := by decide +kernel
theorem dX2_clear_16 : decode cX2_clear 16 = .ok (.getfield 44, 3) := by decide +kernel
theorem dX2_clear_19 : decode cX2_clear 19 = .ok (.iconst 0, 1) := by decide +kernel
theorem dX2_clear_20 : decode cX2_clear 20 = .ok (.iconst 5, 1) := by decide +kernel
theorem dX2_clear_21 : decode cX2_clear 21 = .ok (.iastore, 1) := by decide +kernel
theorem dX2_clear_22 : decode cX2_clear 22 = .ok (.aload_n 0, 1) := by decide +kernel
theorem dX2_clear_23 : decode cX2_clear 23 = .ok (.iconst 0, 1) := by decide +kernel
theorem dX2_clear_24 : decode cX2_clear 24 = .ok (.putfield 21, 3) := by decide +kernel
theorem dX2_clear_27 : decode cX2_clear 27 = .ok (.aload_n 0, 1) := by decide +kernel
theorem dX2_clear_28 : decode cX2_clear 28 = .ok (.iconst 0, 1) := by decide +kernel
theorem dX2_clear_29 : decode cX2_clear 29 = .ok (.putfield 24, 3) := by decide +kernel
theorem dX2_clear_32 : decode cX2_clear 32 = .ok (.aload_n 0, 1) := by decide +kernel
theorem dX2_clear_33 : decode cX2_clear 33 = .ok (.iconst 0, 1) := by decide +kernel
theorem dX2_clear_34 : decode cX2_clear 34 = .ok (.putfield 27, 3) := by decide +kernel
theorem dX2_clear_37 : decode cX2_clear 37 = .ok (.aload_n 0, 1) := by decide +kernel
theorem dX2_clear_38 : decode cX2_clear 38 = .ok (.getfield 40, 3) := by decide +kernel
theorem dX2_clear_41 : decode cX2_clear 41 = .ok (.iconst 0, 1) := by decide +kernel
theorem dX2_clear_42 : decode cX2_clear 42 = .ok (.invokestatic 60, 3) := by decide +kernel
theorem dX2_clear_45 : decode cX2_clear 45 = .ok (.return_, 1) := by decide +kernel
theorem dX2_become_0 : decode cX2_become 0 = .ok (.aload_n 0, 1) := by decide +kernel
theorem dX2_become_1 : decode cX2_become 1 = .ok (.aload_n 1, 1) := by decide +kernel
theorem dX2_become_2 : decode cX2_become 2 = .ok (.getfield 9, 3) := by decide +kernel
theorem dX2_become_5 : decode cX2_become 5 = .ok (.putfield 9, 3) := by decide +kernel
theorem dX2_become_8 : decode cX2_become 8 = .ok (.aload_n 0, 1) := by decide +kernel
theorem dX2_become_9 : decode cX2_become 9 = .ok (.aload_n 1, 1) := by decide +kernel
theorem dX2_become_10 : decode cX2_become 10 = .ok (.getfield 15, 3) := by decide +kernel
theorem dX2_become_13 : decode cX2_become 13 = .ok (.putfield 15, 3) := by decide +kernel
theorem dX2_become_16 : decode cX2_become 16 = .ok (.aload_n 0, 1) := by decide +kernel
theorem dX2_become_17 : decode cX2_become 17 = .ok (.aload_n 1, 1) := by decide +kernel
theorem dX2_become_18 : decode cX2_become 18 = .ok (.getfield 18, 3) := by decide +kernel
theorem dX2_become_21 : decode cX2_become 21 = .ok (.putfield 18, 3) := by decide +kernel
theorem dX2_become_24 : decode cX2_become 24 = .ok (.aload_n 0, 1) := by decide +kernel
theorem dX2_become_25 : decode cX2_become 25 = .ok (.aload_n 1, 1) := by decide +kernel
theorem dX2_become_26 : decode cX2_become 26 = .ok (.getfield 21, 3) := by decide +kernel
theorem dX2_become_29 : decode cX2_become 29 = .ok (.putfield 21, 3) := by decide +kernel
theorem dX2_become_32 : decode cX2_become 32 = .ok (.aload_n 0, 1) := by decide +kernel
theorem dX2_become_33 : decode cX2_become 33 = .ok (.aload_n 1, 1) := by decide +kernel
theorem dX2_become_34 : decode cX2_become 34 = .ok (.getfield 24, 3) := by decide +kernel
theorem dX2_become_37 : decode cX2_become 37 = .ok (.putfield 24, 3) := by decide +kernel
theorem dX2_become_40 : decode cX2_become 40 = .ok (.aload_n 0, 1) := by decide +kernel
theorem dX2_become_41 : decode cX2_become 41 = .ok (.aload_n 1, 1) := by decide +kernel
theorem dX2_become_42 : decode cX2_become 42 = .ok (.getfield 27, 3) := by decide +kernel
theorem dX2_become_45 : decode cX2_become 45 = .ok (.putfield 27, 3) := by decide +kernel
theorem dX2_become_48 : decode cX2_become 48 = .ok (.aload_n 1, 1) := by decide +kernel
theorem dX2_become_49 : decode cX2_become 49 = .ok (.getfield 40, 3) := by decide +kernel
theorem dX2_become_52 : decode cX2_become 52 = .ok (.iconst 0, 1) := by decide +kernel
theorem dX2_become_53 : decode cX2_become 53 = .ok (.aload_n 0, 1) := by decide +kernel
theorem dX2_become_54 : decode cX2_become 54 = .ok (.getfield 40, 3) := by decide +kernel
theorem dX2_become_57 : decode cX2_become 57 = .ok (.iconst 0, 1) := by decide +kernel
theorem dX2_become_58 : decode cX2_become 58 = .ok (.bipush 36, 2) := by decide +kernel
theorem dX2_become_60 : decode cX2_become 60 = .ok (.invokestatic 66, 3) := by decide +kernel
theorem dX2_become_63 : decode cX2_become 63 = .ok (.aload_n 1, 1) := by decide +kernel
theorem dX2_become_64 : decode cX2_become 64 = .ok (.getfield 44, 3) := by decide +kernel
theorem dX2_become_67 : decode cX2_become 67 = .ok (.iconst 0, 1) := by decide +kernel
theorem dX2_become_68 : decode cX2_become 68 = .ok (.aload_n 0, 1) := by decide +kernel
theorem dX2_become_69 : decode cX2_become 69 = .ok (.getfield 44, 3) := by decide +kernel
theorem dX2_become_72 : decode cX2_become 72 = .ok (.iconst 0, 1) := by decide +kernel
theorem dX2_become_73 : decode cX2_become 73 = .ok (.bipush 6, 2) := by decide +kernel
theorem dX2_become_75 : decode cX2_become 75 = .ok (.invokestatic 66, 3) := by decide +kernel
theorem dX2_become_78 : decode cX2_become 78 = .ok (.aload_n 1, 1) := by decide +kernel
theorem dX2_become_79 : decode cX2_become 79 = .ok (.getfield 47, 3) := by decide +kernel
theorem dX2_become_82 : decode cX2_become 82 = .ok (.iconst 0, 1) := by decide +kernel
theorem dX2_become_83 : decode cX2_become 83 = .ok (.aload_n 0, 1) := by decide +kernel
theorem dX2_become_84 : decode cX2_become 84 = .ok (.getfield 47, 3) := by decide +kernel
theorem dX2_become_87 : decode cX2_become 87 = .ok (.iconst 0, 1) := by decide +kernel
theorem dX2_become_88 : decode cX2_become 88 = .ok (.iconst 4, 1) := by decide +kernel
theorem dX2_become_89 : decode cX2_become 89 = .ok (.invokestatic 66, 3) := by decide +kernel
theorem dX2_become_92 : decode cX2_become 92 = .ok (.aload_n 1, 1) := by decide +kernel
theorem dX2_become_93 : decode cX2_become 93 = .ok (.getfield 50, 3) := by decide +kernel
theorem dX2_become_96 : decode cX2_become 96 = .ok (.iconst 0, 1) := by decide +kernel
theorem dX2_become_97 : decode cX2_become 97 = .ok (.aload_n 0, 1) := by decide +kernel
theorem dX2_become_98 : decode cX2_become 98 = .ok (.getfield 50, 3) := by decide +kernel
theorem dX2_become_101 : decode cX2_become 101 = .ok (.iconst 0, 1) := by decide +kernel
theorem dX2_become_102 : decode cX2_become 102 = .ok (.iconst 4, 1) := by decide +kernel
theorem dX2_become_103 : decode cX2_become 103 = .ok (.invokestatic 66, 3) := by decide +kernel
theorem dX2_become_106 : decode cX2_become 106 = .ok (.aload_n 1, 1) := by decide +kernel
theorem dX2_become_107 : decode cX2_become 107 = .ok (.getfield 53, 3) := by decide +kernel
theorem dX2_become_110 : decode cX2_become 110 = .ok (.iconst 0, 1) := by decide +kernel
theorem dX2_become_111 : decode cX2_become 111 = .ok (.aload_n 0, 1) := by decide +kernel
theorem dX2_become_112 : decode cX2_become 112 = .ok (.getfield 53, 3) := by decide +kernel
theorem dX2_become_115 : decode cX2_become 115 = .ok (.iconst 0, 1) := by decide +kernel
theorem dX2_become_116 : decode cX2_become 116 = .ok (.iconst 4, 1) := by decide +kernel
theorem dX2_become_117 : decode cX2_become 117 = .ok (.invokestatic 66, 3) := by decide +kernel
theorem dX2_become_120 : decode cX2_become 120 = .ok (.aload_n 0, 1) := by decide +kernel
theorem dX2_become_121 : decode cX2_become 121 = .ok (.invokevirtual 72, 3) := by decide +kernel
theorem dX2_become_124 : decode cX2_become 124 = .ok (.return_, 1) := by decide +kernel
theorem dX2_survey_0 : decode cX2_survey 0 = .ok (.aload_n 0, 1) := by decide +kernel
theorem dX2_survey_1 : decode cX2_survey 1 = .ok (.lconst 0, 1) := by decide +kernel
theorem dX2_survey_2 : decode cX2_survey 2 = .ok (.putfield 30, 3) := by decide +kernel
theorem dX2_survey_5 : decode cX2_survey 5 = .ok (.aload_n 0, 1) := by decide +kernel
theorem dX2_survey_6 : decode cX2_survey 6 = .ok (.lconst 0, 1) := by decide +kernel
theorem dX2_survey_7 : decode cX2_survey 7 = .ok (.putfield 34, 3) := by decide +kernel
theorem dX2_survey_10 : decode cX2_survey 10 = .ok (.aload_n 0, 1) := by decide +kernel
theorem dX2_survey_11 : decode cX2_survey 11 = .ok (.lconst 0, 1) := by decide +kernel
theorem dX2_survey_12 : decode cX2_survey 12 = .ok (.putfield 37, 3) := by decide +kernel
theorem dX2_survey_15 : decode cX2_survey 15 = .ok (.iconst 0, 1) := by decide +kernel
theorem dX2_survey_16 : decode cX2_survey 16 = .ok (.istore_n 1, 1) := by decide +kernel
theorem dX2_survey_17 : decode cX2_survey 17 = .ok (.iload_n 1, 1) := by decide +kernel
theorem dX2_survey_18 : decode cX2_survey 18 = .ok (.aload_n 0, 1) := by decide +kernel
theorem dX2_survey_19 : decode cX2_survey 19 = .ok (.invokevirtual 75, 3) := by decide +kernel
theorem dX2_survey_22 : decode cX2_survey 22 = .ok (.if_icmp .ge 74, 3) := by decide +kernel
theorem dX2_survey_25 : decode cX2_survey 25 = .ok (.lconst 1, 1) := by decide +kernel
theorem dX2_survey_26 : decode cX2_survey 26 = .ok (.iload_n 1, 1) := by decide +kernel
theorem dX2_survey_27 : decode cX2_survey 27 = .ok (.lshl, 1) := by decide +kernel
theorem dX2_survey_28 : decode cX2_survey 28 = .ok (.lstore_n 2, 1) := by decide +kernel
theorem dX2_survey_29 : decode cX2_survey 29 = .ok (.aload_n 0, 1) := by decide +kernel
theorem dX2_survey_30 : decode cX2_survey 30 = .ok (.iload_n 1, 1) := by decide +kernel
theorem dX2_survey_31 : decode cX2_survey 31 = .ok (.invokevirtual 79, 3) := by decide +kernel
theorem dX2_survey_34 : decode cX2_survey 34 = .ok (.istore 4, 2) := by decide +kernel
theorem dX2_survey_36 : decode cX2_survey 36 = .ok (.aload_n 0, 1) := by decide +kernel
theorem dX2_survey_37 : decode cX2_survey 37 = .ok (.dup, 1) := by decide +kernel
theorem dX2_survey_38 : decode cX2_survey 38 = .ok (.getfield 30, 3) := by decide +kernel
theorem dX2_survey_41 : decode cX2_survey 41 = .ok (.lload_n 2, 1) := by decide +kernel
theorem dX2_survey_42 : decode cX2_survey 42 = .ok (.lor, 1) := by decide +kernel
theorem dX2_survey_43 : decode cX2_survey 43 = .ok (.putfield 30, 3) := by decide +kernel
theorem dX2_survey_46 : decode cX2_survey 46 = .ok (.aload_n 0, 1) := by decide +kernel
theorem dX2_survey_47 : decode cX2_survey 47 = .ok (.dup, 1) := by decide +kernel
theorem dX2_survey_48 : decode cX2_survey 48 = .ok (.getfield 34, 3) := by decide +kernel
theorem dX2_survey_51 : decode cX2_survey 51 = .ok (.iload 4, 2) := by decide +kernel
theorem dX2_survey_53 : decode cX2_survey 53 = .ok (.ifCond .le 7, 3) := by decide +kernel
theorem dX2_survey_56 : decode cX2_survey 56 = .ok (.lload_n 2, 1) := by decide +kernel
theorem dX2_survey_57 : decode cX2_survey 57 = .ok (.goto 4, 3) := by decide +kernel
theorem dX2_survey_60 : decode cX2_survey 60 = .ok (.lconst 0, 1) := by decide +kernel
theorem dX2_survey_61 : decode cX2_survey 61 = .ok (.lor, 1) := by decide +kernel
theorem dX2_survey_62 : decode cX2_survey 62 = .ok (.putfield 34, 3) := by decide +kernel
theorem dX2_survey_65 : decode cX2_survey 65 = .ok (.aload_n 0, 1) := by decide +kernel
theorem dX2_survey_66 : decode cX2_survey 66 = .ok (.dup, 1) := by decide +kernel
theorem dX2_survey_67 : decode cX2_survey 67 = .ok (.getfield 37, 3) := by decide +kernel
theorem dX2_survey_70 : decode cX2_survey 70 = .ok (.iload 4, 2) := by decide +kernel
theorem dX2_survey_72 : decode cX2_survey 72 = .ok (.aload_n 0, 1) := by decide +kernel
theorem dX2_survey_73 : decode cX2_survey 73 = .ok (.getfield 9, 3) := by decide +kernel
theorem dX2_survey_76 : decode cX2_survey 76 = .ok (.iconst 1, 1) := by decide +kernel
theorem dX2_survey_77 : decode cX2_survey 77 = .ok (.isub, 1) := by decide +kernel
theorem dX2_survey_78 : decode cX2_survey 78 = .ok (.if_icmp .ge 7, 3) := by decide +kernel
theorem dX2_survey_81 : decode cX2_survey 81 = .ok (.lload_n 2, 1) := by decide +kernel
theorem dX2_survey_82 : decode cX2_survey 82 = .ok (.goto 4, 3) := by decide +kernel
theorem dX2_survey_85 : decode cX2_survey 85 = .ok (.lconst 0, 1) := by decide +kernel
theorem dX2_survey_86 : decode cX2_survey 86 = .ok (.lor, 1) := by decide +kernel
theorem dX2_survey_87 : decode cX2_survey 87 = .ok (.putfield 37, 3) := by decide +kernel
theorem dX2_survey_90 : decode cX2_survey 90 = .ok (.iinc 1 1, 3) := by decide +kernel
theorem dX2_survey_93 : decode cX2_survey 93 = .ok (.goto (-76), 3) := by decide +kernel
theorem dX2_survey_96 : decode cX2_survey 96 = .ok (.iconst 0, 1) := by decide +kernel
theorem dX2_survey_97 : decode cX2_survey 97 = .ok (.istore_n 1, 1) := by decide +kernel
theorem dX2_survey_98 : decode cX2_survey 98 = .ok (.iload_n 1, 1) := by decide +kernel
theorem dX2_survey_99 : decode cX2_survey 99 = .ok (.bipush 7, 2) := by decide +kernel
theorem dX2_survey_101 : decode cX2_survey 101 = .ok (.if_icmp .gt 42, 3) := by decide +kernel
theorem dX2_survey_104 : decode cX2_survey 104 = .ok (.iconst 0, 1) := by decide +kernel
theorem dX2_survey_105 : decode cX2_survey 105 = .ok (.istore_n 2, 1) := by decide +kernel
theorem dX2_survey_106 : decode cX2_survey 106 = .ok (.iload_n 2, 1) := by decide +kernel
theorem dX2_survey_107 : decode cX2_survey 107 = .ok (.aload_n 0, 1) := by decide +kernel
theorem dX2_survey_108 : decode cX2_survey 108 = .ok (.getfield 18, 3) := by decide +kernel
theorem dX2_survey_111 : decode cX2_survey 111 = .ok (.if_icmp .ge 26, 3) := by decide +kernel
theorem dX2_survey_114 : decode cX2_survey 114 = .ok (.aload_n 0, 1) := by decide +kernel
theorem dX2_survey_115 : decode cX2_survey 115 = .ok (.getfield 56, 3) := by decide +kernel
theorem dX2_survey_118 : decode cX2_survey 118 = .ok (.iload_n 1, 1) := by decide +kernel
theorem dX2_survey_119 : decode cX2_survey 119 = .ok (.bipush 6, 2) := by decide +kernel
theorem dX2_survey_121 : decode cX2_survey 121 = .ok (.imul, 1) := by decide +kernel
theorem dX2_survey_122 : decode cX2_survey 122 = .ok (.iload_n 2, 1) := by decide +kernel
theorem dX2_survey_123 : decode cX2_survey 123 = .ok (.iadd, 1) := by decide +kernel
theorem dX2_survey_124 : decode cX2_survey 124 = .ok (.aload_n 0, 1) := by decide +kernel
theorem dX2_survey_125 : decode cX2_survey 125 = .ok (.iload_n 1, 1) := by decide +kernel
theorem dX2_survey_126 : decode cX2_survey 126 = .ok (.iload_n 2, 1) := by decide +kernel
theorem dX2_survey_127 : decode cX2_survey 127 = .ok (.invokevirtual 83, 3) := by decide +kernel
theorem dX2_survey_130 : decode cX2_survey 130 = .ok (.lastore, 1) := by decide +kernel
theorem dX2_survey_131 : decode cX2_survey 131 = .ok (.iinc 2 1, 3) := by decide +kernel
theorem dX2_survey_134 : decode cX2_survey 134 = .ok (.goto (-28), 3) := by decide +kernel
theorem dX2_survey_137 : decode cX2_survey 137 = .ok (.iinc 1 1, 3) := by decide +kernel
theorem dX2_survey_140 : decode cX2_survey 140 = .ok (.goto (-42), 3) := by decide +kernel
theorem dX2_survey_143 : decode cX2_survey 143 = .ok (.return_, 1) := by decide +kernel
theorem dX2_cellsNoDeeper_0 : decode cX2_cellsNoDeeper 0 = .ok (.lconst 0, 1) := by decide +kernel
theorem dX2_cellsNoDeeper_1 : decode cX2_cellsNoDeeper 1 = .ok (.lstore_n 3, 1) := by decide +kernel
theorem dX2_cellsNoDeeper_2 : decode cX2_cellsNoDeeper 2 = .ok (.iconst 0, 1) := by decide +kernel
theorem dX2_cellsNoDeeper_3 : decode cX2_cellsNoDeeper 3 = .ok (.istore 5, 2) := by decide +kernel
theorem dX2_cellsNoDeeper_5 : decode cX2_cellsNoDeeper 5 = .ok (.iload 5, 2) := by decide +kernel
theorem dX2_cellsNoDeeper_7 : decode cX2_cellsNoDeeper 7 = .ok (.aload_n 0, 1) := by decide +kernel
theorem dX2_cellsNoDeeper_8 : decode cX2_cellsNoDeeper 8 = .ok (.invokevirtual 75, 3) := by decide +kernel
theorem dX2_cellsNoDeeper_11 : decode cX2_cellsNoDeeper 11 = .ok (.if_icmp .ge 27, 3) := by decide +kernel
theorem dX2_cellsNoDeeper_14 : decode cX2_cellsNoDeeper 14 = .ok (.aload_n 0, 1) := by decide +kernel
theorem dX2_cellsNoDeeper_15 : decode cX2_cellsNoDeeper 15 = .ok (.iload 5, 2) := by decide +kernel
theorem dX2_cellsNoDeeper_17 : decode cX2_cellsNoDeeper 17 = .ok (.iload_n 2, 1) := by decide +kernel
theorem dX2_cellsNoDeeper_18 : decode cX2_cellsNoDeeper 18 = .ok (.invokevirtual 87, 3) := by decide +kernel
theorem dX2_cellsNoDeeper_21 : decode cX2_cellsNoDeeper 21 = .ok (.iload_n 1, 1) := by decide +kernel
theorem dX2_cellsNoDeeper_22 : decode cX2_cellsNoDeeper 22 = .ok (.if_icmp .gt 10, 3) := by decide +kernel
theorem dX2_cellsNoDeeper_25 : decode cX2_cellsNoDeeper 25 = .ok (.lload_n 3, 1) := by decide +kernel
theorem dX2_cellsNoDeeper_26 : decode cX2_cellsNoDeeper 26 = .ok (.lconst 1, 1) := by decide +kernel
theorem dX2_cellsNoDeeper_27 : decode cX2_cellsNoDeeper 27 = .ok (.iload 5, 2) := by decide +kernel
theorem dX2_cellsNoDeeper_29 : decode cX2_cellsNoDeeper 29 = .ok (.lshl, 1) := by decide +kernel
theorem dX2_cellsNoDeeper_30 : decode cX2_cellsNoDeeper 30 = .ok (.lor, 1) := by decide +kernel
theorem dX2_cellsNoDeeper_31 : decode cX2_cellsNoDeeper 31 = .ok (.lstore_n 3, 1) := by decide +kernel
theorem dX2_cellsNoDeeper_32 : decode cX2_cellsNoDeeper 32 = .ok (.iinc 5 1, 3) := by decide +kernel
theorem dX2_cellsNoDeeper_35 : decode cX2_cellsNoDeeper 35 = .ok (.goto (-30), 3) := by decide +kernel
theorem dX2_cellsNoDeeper_38 : decode cX2_cellsNoDeeper 38 = .ok (.lload_n 3, 1) := by decide +kernel
theorem dX2_cellsNoDeeper_39 : decode cX2_cellsNoDeeper 39 = .ok (.lreturn, 1) := by decide +kernel
theorem dX2_cells_0 : decode cX2_cells 0 = .ok (.aload_n 0, 1) := by decide +kernel
theorem dX2_cells_1 : decode cX2_cells 1 = .ok (.getfield 9, 3) := by decide +kernel
theorem dX2_cells_4 : decode cX2_cells 4 = .ok (.aload_n 0, 1) := by decide +kernel
theorem dX2_cells_5 : decode cX2_cells 5 = .ok (.getfield 15, 3) := by decide +kernel
theorem dX2_cells_8 : decode cX2_cells 8 = .ok (.imul, 1) := by decide +kernel
theorem dX2_cells_9 : decode cX2_cells 9 = .ok (.ireturn, 1) := by decide +kernel
theorem dX2_isCell_0 : decode cX2_isCell 0 = .ok (.iload_n 1, 1) := by decide +kernel
theorem dX2_isCell_1 : decode cX2_isCell 1 = .ok (.ifCond .lt 27, 3) := by decide +kernel
theorem dX2_isCell_4 : decode cX2_isCell 4 = .ok (.iload_n 1, 1) := by decide +kernel
theorem dX2_isCell_5 : decode cX2_isCell 5 = .ok (.aload_n 0, 1) := by decide +kernel
theorem dX2_isCell_6 : decode cX2_isCell 6 = .ok (.getfield 9, 3) := by decide +kernel
theorem dX2_isCell_9 : decode cX2_isCell 9 = .ok (.if_icmp .ge 19, 3) := by decide +kernel
theorem dX2_isCell_12 : decode cX2_isCell 12 = .ok (.iload_n 2, 1) := by decide +kernel
theorem dX2_isCell_13 : decode cX2_isCell 13 = .ok (.ifCond .lt 15, 3) := by decide +kernel
theorem dX2_isCell_16 : decode cX2_isCell 16 = .ok (.iload_n 2, 1) := by decide +kernel
theorem dX2_isCell_17 : decode cX2_isCell 17 = .ok (.aload_n 0, 1) := by decide +kernel
theorem dX2_isCell_18 : decode cX2_isCell 18 = .ok (.getfield 15, 3) := by decide +kernel
theorem dX2_isCell_21 : decode cX2_isCell 21 = .ok (.if_icmp .ge 7, 3) := by decide +kernel
theorem dX2_isCell_24 : decode cX2_isCell 24 = .ok (.iconst 1, 1) := by decide +kernel
theorem dX2_isCell_25 : decode cX2_isCell 25 = .ok (.goto 4, 3) := by decide +kernel
theorem dX2_isCell_28 : decode cX2_isCell 28 = .ok (.iconst 0, 1) := by decide +kernel
theorem dX2_isCell_29 : decode cX2_isCell 29 = .ok (.ireturn, 1) := by decide +kernel
theorem dX2_isMan_0 : decode cX2_isMan 0 = .ok (.iload_n 1, 1) := by decide +kernel
theorem dX2_isMan_1 : decode cX2_isMan 1 = .ok (.ifCond .lt 15, 3) := by decide +kernel
theorem dX2_isMan_4 : decode cX2_isMan 4 = .ok (.iload_n 1, 1) := by decide +kernel
theorem dX2_isMan_5 : decode cX2_isMan 5 = .ok (.aload_n 0, 1) := by decide +kernel
theorem dX2_isMan_6 : decode cX2_isMan 6 = .ok (.getfield 21, 3) := by decide +kernel
theorem dX2_isMan_9 : decode cX2_isMan 9 = .ok (.if_icmp .ge 7, 3) := by decide +kernel
theorem dX2_isMan_12 : decode cX2_isMan 12 = .ok (.iconst 1, 1) := by decide +kernel
theorem dX2_isMan_13 : decode cX2_isMan 13 = .ok (.goto 4, 3) := by decide +kernel
theorem dX2_isMan_16 : decode cX2_isMan 16 = .ok (.iconst 0, 1) := by decide +kernel
theorem dX2_isMan_17 : decode cX2_isMan 17 = .ok (.ireturn, 1) := by decide +kernel
theorem dX2_isNews_0 : decode cX2_isNews 0 = .ok (.iload_n 1, 1) := by decide +kernel
theorem dX2_isNews_1 : decode cX2_isNews 1 = .ok (.ifCond .lt 15, 3) := by decide +kernel
theorem dX2_isNews_4 : decode cX2_isNews 4 = .ok (.iload_n 1, 1) := by decide +kernel
theorem dX2_isNews_5 : decode cX2_isNews 5 = .ok (.aload_n 0, 1) := by decide +kernel
theorem dX2_isNews_6 : decode cX2_isNews 6 = .ok (.getfield 24, 3) := by decide +kernel
theorem dX2_isNews_9 : decode cX2_isNews 9 = .ok (.if_icmp .ge 7, 3) := by decide +kernel
theorem dX2_isNews_12 : decode cX2_isNews 12 = .ok (.iconst 1, 1) := by decide +kernel
theorem dX2_isNews_13 : decode cX2_isNews 13 = .ok (.goto 4, 3) := by decide +kernel
theorem dX2_isNews_16 : decode cX2_isNews 16 = .ok (.iconst 0, 1) := by decide +kernel
theorem dX2_isNews_17 : decode cX2_isNews 17 = .ok (.ireturn, 1) := by decide +kernel
theorem dX2_cellOf_0 : decode cX2_cellOf 0 = .ok (.iload_n 2, 1) := by decide +kernel
theorem dX2_cellOf_1 : decode cX2_cellOf 1 = .ok (.aload_n 0, 1) := by decide +kernel
theorem dX2_cellOf_2 : decode cX2_cellOf 2 = .ok (.getfield 9, 3) := by decide +kernel
theorem dX2_cellOf_5 : decode cX2_cellOf 5 = .ok (.imul, 1) := by decide +kernel
theorem dX2_cellOf_6 : decode cX2_cellOf 6 = .ok (.iload_n 1, 1) := by decide +kernel
theorem dX2_cellOf_7 : decode cX2_cellOf 7 = .ok (.iadd, 1) := by decide +kernel
theorem dX2_cellOf_8 : decode cX2_cellOf 8 = .ok (.ireturn, 1) := by decide +kernel
theorem dX2_columnOf_0 : decode cX2_columnOf 0 = .ok (.aload_n 0, 1) := by decide +kernel
theorem dX2_columnOf_1 : decode cX2_columnOf 1 = .ok (.getfield 9, 3) := by decide +kernel
theorem dX2_columnOf_4 : decode cX2_columnOf 4 = .ok (.ifCond .le 12, 3) := by decide +kernel
theorem dX2_columnOf_7 : decode cX2_columnOf 7 = .ok (.iload_n 1, 1) := by decide +kernel
theorem dX2_columnOf_8 : decode cX2_columnOf 8 = .ok (.aload_n 0, 1) := by decide +kernel
theorem dX2_columnOf_9 : decode cX2_columnOf 9 = .ok (.getfield 9, 3) := by decide +kernel
theorem dX2_columnOf_12 : decode cX2_columnOf 12 = .ok (.irem, 1) := by decide +kernel
theorem dX2_columnOf_13 : decode cX2_columnOf 13 = .ok (.goto 4, 3) := by decide +kernel
theorem dX2_columnOf_16 : decode cX2_columnOf 16 = .ok (.iconst 0, 1) := by decide +kernel
theorem dX2_columnOf_17 : decode cX2_columnOf 17 = .ok (.ireturn, 1) := by decide +kernel
theorem dX2_rowOf_0 : decode cX2_rowOf 0 = .ok (.aload_n 0, 1) := by decide +kernel
theorem dX2_rowOf_1 : decode cX2_rowOf 1 = .ok (.getfield 9, 3) := by decide +kernel
theorem dX2_rowOf_4 : decode cX2_rowOf 4 = .ok (.ifCond .le 12, 3) := by decide +kernel
theorem dX2_rowOf_7 : decode cX2_rowOf 7 = .ok (.iload_n 1, 1) := by decide +kernel
theorem dX2_rowOf_8 : decode cX2_rowOf 8 = .ok (.aload_n 0, 1) := by decide +kernel
theorem dX2_rowOf_9 : decode cX2_rowOf 9 = .ok (.getfield 9, 3) := by decide +kernel
theorem dX2_rowOf_12 : decode cX2_rowOf 12 = .ok (.idiv, 1) := by decide +kernel
theorem dX2_rowOf_13 : decode cX2_rowOf 13 = .ok (.goto 4, 3) := by decide +kernel
theorem dX2_rowOf_16 : decode cX2_rowOf 16 = .ok (.iconst 0, 1) := by decide +kernel
theorem dX2_rowOf_17 : decode cX2_rowOf 17 = .ok (.ireturn, 1) := by decide +kernel
theorem dX2_nameOf_0 : decode cX2_nameOf 0 = .ok (.bipush 10, 2) := by decide +kernel
theorem dX2_nameOf_2 : decode cX2_nameOf 2 = .ok (.aload_n 0, 1) := by decide +kernel
theorem dX2_nameOf_3 : decode cX2_nameOf 3 = .ok (.iload_n 1, 1) := by decide +kernel
theorem dX2_nameOf_4 : decode cX2_nameOf 4 = .ok (.invokevirtual 79, 3) := by decide +kernel
theorem dX2_nameOf_7 : decode cX2_nameOf 7 = .ok (.imul, 1) := by decide +kernel
theorem dX2_nameOf_8 : decode cX2_nameOf 8 = .ok (.aload_n 0, 1) := by decide +kernel
theorem dX2_nameOf_9 : decode cX2_nameOf 9 = .ok (.iload_n 1, 1) := by decide +kernel
theorem dX2_nameOf_10 : decode cX2_nameOf 10 = .ok (.invokevirtual 91, 3) := by decide +kernel
theorem dX2_nameOf_13 : decode cX2_nameOf 13 = .ok (.iadd, 1) := by decide +kernel
theorem dX2_nameOf_14 : decode cX2_nameOf 14 = .ok (.ireturn, 1) := by decide +kernel
theorem dX2_nameOfNth_0 : decode cX2_nameOfNth 0 = .ok (.iload_n 3, 1) := by decide +kernel
theorem dX2_nameOfNth_1 : decode cX2_nameOfNth 1 = .ok (.istore 4, 2) := by decide +kernel
theorem dX2_nameOfNth_3 : decode cX2_nameOfNth 3 = .ok (.iconst 0, 1) := by decide +kernel
theorem dX2_nameOfNth_4 : decode cX2_nameOfNth 4 = .ok (.istore 5, 2) := by decide +kernel
theorem dX2_nameOfNth_6 : decode cX2_nameOfNth 6 = .ok (.iload 5, 2) := by decide +kernel
theorem dX2_nameOfNth_8 : decode cX2_nameOfNth 8 = .ok (.aload_n 0, 1) := by decide +kernel
theorem dX2_nameOfNth_9 : decode cX2_nameOfNth 9 = .ok (.invokevirtual 75, 3) := by decide +kernel
theorem dX2_nameOfNth_12 : decode cX2_nameOfNth 12 = .ok (.if_icmp .ge 33, 3) := by decide +kernel
theorem dX2_nameOfNth_15 : decode cX2_nameOfNth 15 = .ok (.lload_n 1, 1) := by decide +kernel
theorem dX2_nameOfNth_16 : decode cX2_nameOfNth 16 = .ok (.iload 5, 2) := by decide +kernel
theorem dX2_nameOfNth_18 : decode cX2_nameOfNth 18 = .ok (.invokestatic 94, 3) := by decide +kernel
theorem dX2_nameOfNth_21 : decode cX2_nameOfNth 21 = .ok (.ifCond .eq 18, 3) := by decide +kernel
theorem dX2_nameOfNth_24 : decode cX2_nameOfNth 24 = .ok (.iload 4, 2) := by decide +kernel
theorem dX2_nameOfNth_26 : decode cX2_nameOfNth 26 = .ok (.ifCond .ne 10, 3) := by decide +kernel
theorem dX2_nameOfNth_29 : decode cX2_nameOfNth 29 = .ok (.aload_n 0, 1) := by decide +kernel
theorem dX2_nameOfNth_30 : decode cX2_nameOfNth 30 = .ok (.iload 5, 2) := by decide +kernel
theorem dX2_nameOfNth_32 : decode cX2_nameOfNth 32 = .ok (.invokevirtual 98, 3) := by decide +kernel
theorem dX2_nameOfNth_35 : decode cX2_nameOfNth 35 = .ok (.ireturn, 1) := by decide +kernel
theorem dX2_nameOfNth_36 : decode cX2_nameOfNth 36 = .ok (.iinc 4 (-1), 3) := by decide +kernel
theorem dX2_nameOfNth_39 : decode cX2_nameOfNth 39 = .ok (.iinc 5 1, 3) := by decide +kernel
theorem dX2_nameOfNth_42 : decode cX2_nameOfNth 42 = .ok (.goto (-36), 3) := by decide +kernel
theorem dX2_nameOfNth_45 : decode cX2_nameOfNth 45 = .ok (.iconst (-1), 1) := by decide +kernel
theorem dX2_nameOfNth_46 : decode cX2_nameOfNth 46 = .ok (.ireturn, 1) := by decide +kernel
theorem dX2_tideOf_0 : decode cX2_tideOf 0 = .ok (.aload_n 0, 1) := by decide +kernel
theorem dX2_tideOf_1 : decode cX2_tideOf 1 = .ok (.getfield 18, 3) := by decide +kernel
theorem dX2_tideOf_4 : decode cX2_tideOf 4 = .ok (.ifCond .le 16, 3) := by decide +kernel
theorem dX2_tideOf_7 : decode cX2_tideOf 7 = .ok (.iload_n 1, 1) := by decide +kernel
theorem dX2_tideOf_8 : decode cX2_tideOf 8 = .ok (.ifCond .le 12, 3) := by decide +kernel
theorem dX2_tideOf_11 : decode cX2_tideOf 11 = .ok (.iload_n 1, 1) := by decide +kernel
theorem dX2_tideOf_12 : decode cX2_tideOf 12 = .ok (.aload_n 0, 1) := by decide +kernel
theorem dX2_tideOf_13 : decode cX2_tideOf 13 = .ok (.getfield 18, 3) := by decide +kernel
theorem dX2_tideOf_16 : decode cX2_tideOf 16 = .ok (.irem, 1) := by decide +kernel
theorem dX2_tideOf_17 : decode cX2_tideOf 17 = .ok (.goto 4, 3) := by decide +kernel
theorem dX2_tideOf_20 : decode cX2_tideOf 20 = .ok (.iconst 0, 1) := by decide +kernel
theorem dX2_tideOf_21 : decode cX2_tideOf 21 = .ok (.ireturn, 1) := by decide +kernel
theorem dX2_waterOn_0 : decode cX2_waterOn 0 = .ok (.aload_n 0, 1) := by decide +kernel
theorem dX2_waterOn_1 : decode cX2_waterOn 1 = .ok (.iload_n 2, 1) := by decide +kernel
theorem dX2_waterOn_2 : decode cX2_waterOn 2 = .ok (.invokevirtual 101, 3) := by decide +kernel
theorem dX2_waterOn_5 : decode cX2_waterOn 5 = .ok (.istore_n 3, 1) := by decide +kernel
theorem dX2_waterOn_6 : decode cX2_waterOn 6 = .ok (.iload_n 1, 1) := by decide +kernel
theorem dX2_waterOn_7 : decode cX2_waterOn 7 = .ok (.ifCond .lt 21, 3) := by decide +kernel
theorem dX2_waterOn_10 : decode cX2_waterOn 10 = .ok (.iload_n 1, 1) := by decide +kernel
theorem dX2_waterOn_11 : decode cX2_waterOn 11 = .ok (.aload_n 0, 1) := by decide +kernel
theorem dX2_waterOn_12 : decode cX2_waterOn 12 = .ok (.getfield 40, 3) := by decide +kernel
theorem dX2_waterOn_15 : decode cX2_waterOn 15 = .ok (.arraylength, 1) := by decide +kernel
theorem dX2_waterOn_16 : decode cX2_waterOn 16 = .ok (.if_icmp .ge 12, 3) := by decide +kernel
theorem dX2_waterOn_19 : decode cX2_waterOn 19 = .ok (.iload_n 3, 1) := by decide +kernel
theorem dX2_waterOn_20 : decode cX2_waterOn 20 = .ok (.aload_n 0, 1) := by decide +kernel
theorem dX2_waterOn_21 : decode cX2_waterOn 21 = .ok (.getfield 44, 3) := by decide +kernel
theorem dX2_waterOn_24 : decode cX2_waterOn 24 = .ok (.arraylength, 1) := by decide +kernel
theorem dX2_waterOn_25 : decode cX2_waterOn 25 = .ok (.if_icmp .lt 5, 3) := by decide +kernel
theorem dX2_waterOn_28 : decode cX2_waterOn 28 = .ok (.iconst 0, 1) := by decide +kernel
theorem dX2_waterOn_29 : decode cX2_waterOn 29 = .ok (.ireturn, 1) := by decide +kernel
theorem dX2_waterOn_30 : decode cX2_waterOn 30 = .ok (.aload_n 0, 1) := by decide +kernel
theorem dX2_waterOn_31 : decode cX2_waterOn 31 = .ok (.getfield 40, 3) := by decide +kernel
theorem dX2_waterOn_34 : decode cX2_waterOn 34 = .ok (.iload_n 1, 1) := by decide +kernel
theorem dX2_waterOn_35 : decode cX2_waterOn 35 = .ok (.iaload, 1) := by decide +kernel
theorem dX2_waterOn_36 : decode cX2_waterOn 36 = .ok (.aload_n 0, 1) := by decide +kernel
theorem dX2_waterOn_37 : decode cX2_waterOn 37 = .ok (.getfield 44, 3) := by decide +kernel
theorem dX2_waterOn_40 : decode cX2_waterOn 40 = .ok (.iload_n 3, 1) := by decide +kernel
theorem dX2_waterOn_41 : decode cX2_waterOn 41 = .ok (.iaload, 1) := by decide +kernel
theorem dX2_waterOn_42 : decode cX2_waterOn 42 = .ok (.iadd, 1) := by decide +kernel
theorem dX2_waterOn_43 : decode cX2_waterOn 43 = .ok (.iconst 5, 1) := by decide +kernel
theorem dX2_waterOn_44 : decode cX2_waterOn 44 = .ok (.isub, 1) := by decide +kernel
theorem dX2_waterOn_45 : decode cX2_waterOn 45 = .ok (.istore 4, 2) := by decide +kernel
theorem dX2_waterOn_47 : decode cX2_waterOn 47 = .ok (.iload 4, 2) := by decide +kernel
theorem dX2_waterOn_49 : decode cX2_waterOn 49 = .ok (.ifCond .ge 7, 3) := by decide +kernel
theorem dX2_waterOn_52 : decode cX2_waterOn 52 = .ok (.iconst 0, 1) := by decide +kernel
theorem dX2_waterOn_53 : decode cX2_waterOn 53 = .ok (.goto 5, 3) := by decide +kernel
theorem dX2_waterOn_56 : decode cX2_waterOn 56 = .ok (.iload 4, 2) := by decide +kernel
theorem dX2_waterOn_58 : decode cX2_waterOn 58 = .ok (.ireturn, 1) := by decide +kernel
theorem dX2_cellsFor_0 : decode cX2_cellsFor 0 = .ok (.iload_n 1, 1) := by decide +kernel
theorem dX2_cellsFor_1 : decode cX2_cellsFor 1 = .ok (.bipush 6, 2) := by decide +kernel
theorem dX2_cellsFor_3 : decode cX2_cellsFor 3 = .ok (.imul, 1) := by decide +kernel
theorem dX2_cellsFor_4 : decode cX2_cellsFor 4 = .ok (.iload_n 2, 1) := by decide +kernel
theorem dX2_cellsFor_5 : decode cX2_cellsFor 5 = .ok (.iadd, 1) := by decide +kernel
theorem dX2_cellsFor_6 : decode cX2_cellsFor 6 = .ok (.istore_n 3, 1) := by decide +kernel
theorem dX2_cellsFor_7 : decode cX2_cellsFor 7 = .ok (.iload_n 3, 1) := by decide +kernel
theorem dX2_cellsFor_8 : decode cX2_cellsFor 8 = .ok (.ifCond .lt 21, 3) := by decide +kernel
theorem dX2_cellsFor_11 : decode cX2_cellsFor 11 = .ok (.iload_n 3, 1) := by decide +kernel
theorem dX2_cellsFor_12 : decode cX2_cellsFor 12 = .ok (.aload_n 0, 1) := by decide +kernel
theorem dX2_cellsFor_13 : decode cX2_cellsFor 13 = .ok (.getfield 56, 3) := by decide +kernel
theorem dX2_cellsFor_16 : decode cX2_cellsFor 16 = .ok (.arraylength, 1) := by decide +kernel
theorem dX2_cellsFor_17 : decode cX2_cellsFor 17 = .ok (.if_icmp .ge 12, 3) := by decide +kernel
theorem dX2_cellsFor_20 : decode cX2_cellsFor 20 = .ok (.aload_n 0, 1) := by decide +kernel
theorem dX2_cellsFor_21 : decode cX2_cellsFor 21 = .ok (.getfield 56, 3) := by decide +kernel
theorem dX2_cellsFor_24 : decode cX2_cellsFor 24 = .ok (.iload_n 3, 1) := by decide +kernel
theorem dX2_cellsFor_25 : decode cX2_cellsFor 25 = .ok (.laload, 1) := by decide +kernel
theorem dX2_cellsFor_26 : decode cX2_cellsFor 26 = .ok (.goto 4, 3) := by decide +kernel
theorem dX2_cellsFor_29 : decode cX2_cellsFor 29 = .ok (.lconst 0, 1) := by decide +kernel
theorem dX2_cellsFor_30 : decode cX2_cellsFor 30 = .ok (.lreturn, 1) := by decide +kernel
theorem dX2_spread_0 : decode cX2_spread 0 = .ok (.lload_n 1, 1) := by decide +kernel
theorem dX2_spread_1 : decode cX2_spread 1 = .ok (.aload_n 0, 1) := by decide +kernel
theorem dX2_spread_2 : decode cX2_spread 2 = .ok (.getfield 9, 3) := by decide +kernel
theorem dX2_spread_5 : decode cX2_spread 5 = .ok (.lushr, 1) := by decide +kernel
theorem dX2_spread_6 : decode cX2_spread 6 = .ok (.lload_n 1, 1) := by decide +kernel
theorem dX2_spread_7 : decode cX2_spread 7 = .ok (.aload_n 0, 1) := by decide +kernel
theorem dX2_spread_8 : decode cX2_spread 8 = .ok (.getfield 9, 3) := by decide +kernel
theorem dX2_spread_11 : decode cX2_spread 11 = .ok (.lshl, 1) := by decide +kernel
theorem dX2_spread_12 : decode cX2_spread 12 = .ok (.lor, 1) := by decide +kernel
theorem dX2_spread_13 : decode cX2_spread 13 = .ok (.lload_n 1, 1) := by decide +kernel
theorem dX2_spread_14 : decode cX2_spread 14 = .ok (.aload_n 0, 1) := by decide +kernel
theorem dX2_spread_15 : decode cX2_spread 15 = .ok (.getfield 37, 3) := by decide +kernel
theorem dX2_spread_18 : decode cX2_spread 18 = .ok (.land, 1) := by decide +kernel
theorem dX2_spread_19 : decode cX2_spread 19 = .ok (.iconst 1, 1) := by decide +kernel
theorem dX2_spread_20 : decode cX2_spread 20 = .ok (.lshl, 1) := by decide +kernel
theorem dX2_spread_21 : decode cX2_spread 21 = .ok (.lor, 1) := by decide +kernel
theorem dX2_spread_22 : decode cX2_spread 22 = .ok (.lload_n 1, 1) := by decide +kernel
theorem dX2_spread_23 : decode cX2_spread 23 = .ok (.aload_n 0, 1) := by decide +kernel
theorem dX2_spread_24 : decode cX2_spread 24 = .ok (.getfield 34, 3) := by decide +kernel
theorem dX2_spread_27 : decode cX2_spread 27 = .ok (.land, 1) := by decide +kernel
theorem dX2_spread_28 : decode cX2_spread 28 = .ok (.iconst 1, 1) := by decide +kernel
theorem dX2_spread_29 : decode cX2_spread 29 = .ok (.lushr, 1) := by decide +kernel
theorem dX2_spread_30 : decode cX2_spread 30 = .ok (.lor, 1) := by decide +kernel
theorem dX2_spread_31 : decode cX2_spread 31 = .ok (.lstore 5, 2) := by decide +kernel
theorem dX2_spread_33 : decode cX2_spread 33 = .ok (.lload_n 1, 1) := by decide +kernel
theorem dX2_spread_34 : decode cX2_spread 34 = .ok (.lload 5, 2) := by decide +kernel
theorem dX2_spread_36 : decode cX2_spread 36 = .ok (.lload_n 3, 1) := by decide +kernel
theorem dX2_spread_37 : decode cX2_spread 37 = .ok (.land, 1) := by decide +kernel
theorem dX2_spread_38 : decode cX2_spread 38 = .ok (.lor, 1) := by decide +kernel
theorem dX2_spread_39 : decode cX2_spread 39 = .ok (.lreturn, 1) := by decide +kernel
theorem dX2_beside_0 : decode cX2_beside 0 = .ok (.aload_n 0, 1) := by decide +kernel
theorem dX2_beside_1 : decode cX2_beside 1 = .ok (.iload_n 1, 1) := by decide +kernel
theorem dX2_beside_2 : decode cX2_beside 2 = .ok (.invokevirtual 79, 3) := by decide +kernel
theorem dX2_beside_5 : decode cX2_beside 5 = .ok (.istore_n 3, 1) := by decide +kernel
theorem dX2_beside_6 : decode cX2_beside 6 = .ok (.aload_n 0, 1) := by decide +kernel
theorem dX2_beside_7 : decode cX2_beside 7 = .ok (.iload_n 1, 1) := by decide +kernel
theorem dX2_beside_8 : decode cX2_beside 8 = .ok (.invokevirtual 91, 3) := by decide +kernel
theorem dX2_beside_11 : decode cX2_beside 11 = .ok (.istore 4, 2) := by decide +kernel
theorem dX2_beside_13 : decode cX2_beside 13 = .ok (.iload_n 2, 1) := by decide +kernel
theorem dX2_beside_14 : decode cX2_beside 14 = .ok (.tableswitch 54 1 4 #[30, 36, 42, 48], 30) := by decide +kernel
theorem dX2_beside_44 : decode cX2_beside 44 = .ok (.iinc 4 (-1), 3) := by decide +kernel
theorem dX2_beside_47 : decode cX2_beside 47 = .ok (.goto 21, 3) := by decide +kernel
theorem dX2_beside_50 : decode cX2_beside 50 = .ok (.iinc 3 1, 3) := by decide +kernel
theorem dX2_beside_53 : decode cX2_beside 53 = .ok (.goto 15, 3) := by decide +kernel
theorem dX2_beside_56 : decode cX2_beside 56 = .ok (.iinc 4 1, 3) := by decide +kernel
theorem dX2_beside_59 : decode cX2_beside 59 = .ok (.goto 9, 3) := by decide +kernel
theorem dX2_beside_62 : decode cX2_beside 62 = .ok (.iinc 3 (-1), 3) := by decide +kernel
theorem dX2_beside_65 : decode cX2_beside 65 = .ok (.goto 3, 3) := by decide +kernel
theorem dX2_beside_68 : decode cX2_beside 68 = .ok (.aload_n 0, 1) := by decide +kernel
theorem dX2_beside_69 : decode cX2_beside 69 = .ok (.iload_n 3, 1) := by decide +kernel
theorem dX2_beside_70 : decode cX2_beside 70 = .ok (.iload 4, 2) := by decide +kernel
theorem dX2_beside_72 : decode cX2_beside 72 = .ok (.invokevirtual 104, 3) := by decide +kernel
theorem dX2_beside_75 : decode cX2_beside 75 = .ok (.ifCond .eq 13, 3) := by decide +kernel
theorem dX2_beside_78 : decode cX2_beside 78 = .ok (.aload_n 0, 1) := by decide +kernel
theorem dX2_beside_79 : decode cX2_beside 79 = .ok (.iload_n 3, 1) := by decide +kernel
theorem dX2_beside_80 : decode cX2_beside 80 = .ok (.iload 4, 2) := by decide +kernel
theorem dX2_beside_82 : decode cX2_beside 82 = .ok (.invokevirtual 108, 3) := by decide +kernel
theorem dX2_beside_85 : decode cX2_beside 85 = .ok (.goto 4, 3) := by decide +kernel
theorem dX2_beside_88 : decode cX2_beside 88 = .ok (.iconst (-1), 1) := by decide +kernel
theorem dX2_beside_89 : decode cX2_beside 89 = .ok (.ireturn, 1) := by decide +kernel
theorem dX3_init_0 : decode cX3_init 0 = .ok (.aload_n 0, 1) := by decide +kernel
theorem dX3_init_1 : decode cX3_init 1 = .ok (.invokespecial 3, 3) := by decide +kernel
theorem dX3_init_4 : decode cX3_init 4 = .ok (.aload_n 0, 1) := by decide +kernel
theorem dX3_init_5 : decode cX3_init 5 = .ok (.new 9, 3) := by decide +kernel
theorem dX3_init_8 : decode cX3_init 8 = .ok (.dup, 1) := by decide +kernel
theorem dX3_init_9 : decode cX3_init 9 = .ok (.invokespecial 11, 3) := by decide +kernel
theorem dX3_init_12 : decode cX3_init 12 = .ok (.putfield 12, 3) := by decide +kernel
theorem dX3_init_15 : decode cX3_init 15 = .ok (.aload_n 0, 1) := by decide +kernel
theorem dX3_init_16 : decode cX3_init 16 = .ok (.iconst 0, 1) := by decide +kernel
theorem dX3_init_17 : decode cX3_init 17 = .ok (.putfield 18, 3) := by decide +kernel
theorem dX3_init_20 : decode cX3_init 20 = .ok (.aload_n 0, 1) := by decide +kernel
theorem dX3_init_21 : decode cX3_init 21 = .ok (.iconst (-1), 1) := by decide +kernel
theorem dX3_init_22 : decode cX3_init 22 = .ok (.putfield 22, 3) := by decide +kernel
theorem dX3_init_25 : decode cX3_init 25 = .ok (.aload_n 0, 1) := by decide +kernel
theorem dX3_init_26 : decode cX3_init 26 = .ok (.iconst 0, 1) := by decide +kernel
theorem dX3_init_27 : decode cX3_init 27 = .ok (.putfield 25, 3) := by decide +kernel
theorem dX3_init_30 : decode cX3_init 30 = .ok (.aload_n 0, 1) := by decide +kernel
theorem dX3_init_31 : decode cX3_init 31 = .ok (.iconst 0, 1) := by decide +kernel
theorem dX3_init_32 : decode cX3_init 32 = .ok (.putfield 28, 3) := by decide +kernel
theorem dX3_init_35 : decode cX3_init 35 = .ok (.aload_n 0, 1) := by decide +kernel
theorem dX3_init_36 : decode cX3_init 36 = .ok (.iconst 0, 1) := by decide +kernel
theorem dX3_init_37 : decode cX3_init 37 = .ok (.putfield 31, 3) := by decide +kernel
theorem dX3_init_40 : decode cX3_init 40 = .ok (.aload_n 0, 1) := by decide +kernel
theorem dX3_init_41 : decode cX3_init 41 = .ok (.iconst 0, 1) := by decide +kernel
theorem dX3_init_42 : decode cX3_init 42 = .ok (.putfield 34, 3) := by decide +kernel
theorem dX3_init_45 : decode cX3_init 45 = .ok (.aload_n 0, 1) := by decide +kernel
theorem dX3_init_46 : decode cX3_init 46 = .ok (.iconst 0, 1) := by decide +kernel
theorem dX3_init_47 : decode cX3_init 47 = .ok (.putfield 38, 3) := by decide +kernel
theorem dX3_init_50 : decode cX3_init 50 = .ok (.aload_n 0, 1) := by decide +kernel
theorem dX3_init_51 : decode cX3_init 51 = .ok (.aload_n 1, 1) := by decide +kernel
theorem dX3_init_52 : decode cX3_init 52 = .ok (.putfield 41, 3) := by decide +kernel
theorem dX3_init_55 : decode cX3_init 55 = .ok (.return_, 1) := by decide +kernel
theorem dX3_read_0 : decode cX3_read 0 = .ok (.aload_n 0, 1) := by decide +kernel
theorem dX3_read_1 : decode cX3_read 1 = .ok (.getfield 12, 3) := by decide +kernel
theorem dX3_read_4 : decode cX3_read 4 = .ok (.invokevirtual 45, 3) := by decide +kernel
theorem dX3_read_7 : decode cX3_read 7 = .ok (.aload_n 0, 1) := by decide +kernel
theorem dX3_read_8 : decode cX3_read 8 = .ok (.iconst 0, 1) := by decide +kernel
theorem dX3_read_9 : decode cX3_read 9 = .ok (.putfield 18, 3) := by decide +kernel
theorem dX3_read_12 : decode cX3_read 12 = .ok (.aload_n 0, 1) := by decide +kernel
theorem dX3_read_13 : decode cX3_read 13 = .ok (.iconst (-1), 1) := by decide +kernel
theorem dX3_read_14 : decode cX3_read 14 = .ok (.putfield 22, 3) := by decide +kernel
theorem dX3_read_17 : decode cX3_read 17 = .ok (.aload_n 0, 1) := by decide +kernel
theorem dX3_read_18 : decode cX3_read 18 = .ok (.iconst 0, 1) := by decide +kernel
theorem dX3_read_19 : decode cX3_read 19 = .ok (.putfield 25, 3) := by decide +kernel
theorem dX3_read_22 : decode cX3_read 22 = .ok (.aload_n 0, 1) := by decide +kernel
theorem dX3_read_23 : decode cX3_read 23 = .ok (.iconst 0, 1) := by decide +kernel
theorem dX3_read_24 : decode cX3_read 24 = .ok (.putfield 31, 3) := by decide +kernel
theorem dX3_read_27 : decode cX3_read 27 = .ok (.aload_n 0, 1) := by decide +kernel
theorem dX3_read_28 : decode cX3_read 28 = .ok (.iconst 0, 1) := by decide +kernel
theorem dX3_read_29 : decode cX3_read 29 = .ok (.putfield 34, 3) := by decide +kernel
theorem dX3_read_32 : decode cX3_read 32 = .ok (.aload_n 0, 1) := by decide +kernel
theorem dX3_read_33 : decode cX3_read 33 = .ok (.iconst 0, 1) := by decide +kernel
theorem dX3_read_34 : decode cX3_read 34 = .ok (.putfield 38, 3) := by decide +kernel
theorem dX3_read_37 : decode cX3_read 37 = .ok (.aload_n 0, 1) := by decide +kernel
theorem dX3_read_38 : decode cX3_read 38 = .ok (.invokevirtual 48, 3) := by decide +kernel
theorem dX3_read_41 : decode cX3_read 41 = .ok (.aload_n 0, 1) := by decide +kernel
theorem dX3_read_42 : decode cX3_read 42 = .ok (.getfield 25, 3) := by decide +kernel
theorem dX3_read_45 : decode cX3_read 45 = .ok (.aload_n 0, 1) := by decide +kernel
theorem dX3_read_46 : decode cX3_read 46 = .ok (.getfield 41, 3) := by decide +kernel
theorem dX3_read_49 : decode cX3_read 49 = .ok (.getfield 51, 3) := by decide +kernel
theorem dX3_read_52 : decode cX3_read 52 = .ok (.if_icmp .ge 55, 3) := by decide +kernel
theorem dX3_read_55 : decode cX3_read 55 = .ok (.aload_n 0, 1) := by decide +kernel
theorem dX3_read_56 : decode cX3_read 56 = .ok (.invokevirtual 56, 3) := by decide +kernel
theorem dX3_read_59 : decode cX3_read 59 = .ok (.aload_n 0, 1) := by decide +kernel
theorem dX3_read_60 : decode cX3_read 60 = .ok (.invokevirtual 48, 3) := by decide +kernel
theorem dX3_read_63 : decode cX3_read 63 = .ok (.iconst 0, 1) := by decide +kernel
theorem dX3_read_64 : decode cX3_read 64 = .ok (.istore_n 1, 1) := by decide +kernel
theorem dX3_read_65 : decode cX3_read 65 = .ok (.iload_n 1, 1) := by decide +kernel
theorem dX3_read_66 : decode cX3_read 66 = .ok (.sipush 500, 3) := by decide +kernel
theorem dX3_read_69 : decode cX3_read 69 = .ok (.if_icmp .ge 38, 3) := by decide +kernel
theorem dX3_read_72 : decode cX3_read 72 = .ok (.aload_n 0, 1) := by decide +kernel
theorem dX3_read_73 : decode cX3_read 73 = .ok (.invokevirtual 59, 3) := by decide +kernel
theorem dX3_read_76 : decode cX3_read 76 = .ok (.ifCond .ne 31, 3) := by decide +kernel
theorem dX3_read_79 : decode cX3_read 79 = .ok (.aload_n 0, 1) := by decide +kernel
theorem dX3_read_80 : decode cX3_read 80 = .ok (.getfield 25, 3) := by decide +kernel
theorem dX3_read_83 : decode cX3_read 83 = .ok (.aload_n 0, 1) := by decide +kernel
theorem dX3_read_84 : decode cX3_read 84 = .ok (.getfield 41, 3) := by decide +kernel
theorem dX3_read_87 : decode cX3_read 87 = .ok (.getfield 51, 3) := by decide +kernel
theorem dX3_read_90 : decode cX3_read 90 = .ok (.if_icmp .ge 17, 3) := by decide +kernel
theorem dX3_read_93 : decode cX3_read 93 = .ok (.aload_n 0, 1) := by decide +kernel
theorem dX3_read_94 : decode cX3_read 94 = .ok (.invokevirtual 63, 3) := by decide +kernel
theorem dX3_read_97 : decode cX3_read 97 = .ok (.aload_n 0, 1) := by decide +kernel
theorem dX3_read_98 : decode cX3_read 98 = .ok (.invokevirtual 48, 3) := by decide +kernel
theorem dX3_read_101 : decode cX3_read 101 = .ok (.iinc 1 1, 3) := by decide +kernel
theorem dX3_read_104 : decode cX3_read 104 = .ok (.goto (-39), 3) := by decide +kernel
theorem dX3_read_107 : decode cX3_read 107 = .ok (.aload_n 0, 1) := by decide +kernel
theorem dX3_read_108 : decode cX3_read 108 = .ok (.invokevirtual 59, 3) := by decide +kernel
theorem dX3_read_111 : decode cX3_read 111 = .ok (.ifCond .ne 7, 3) := by decide +kernel
theorem dX3_read_114 : decode cX3_read 114 = .ok (.iconst 1, 1) := by decide +kernel
theorem dX3_read_115 : decode cX3_read 115 = .ok (.goto 4, 3) := by decide +kernel
theorem dX3_read_118 : decode cX3_read 118 = .ok (.iconst 0, 1) := by decide +kernel
theorem dX3_read_119 : decode cX3_read 119 = .ok (.ireturn, 1) := by decide +kernel
theorem dX3_failed_0 : decode cX3_failed 0 = .ok (.aload_n 0, 1) := by decide +kernel
theorem dX3_failed_1 : decode cX3_failed 1 = .ok (.getfield 18, 3) := by decide +kernel
theorem dX3_failed_4 : decode cX3_failed 4 = .ok (.ifCond .eq 7, 3) := by decide +kernel
theorem dX3_failed_7 : decode cX3_failed 7 = .ok (.iconst 1, 1) := by decide +kernel
theorem dX3_failed_8 : decode cX3_failed 8 = .ok (.goto 4, 3) := by decide +kernel
theorem dX3_failed_11 : decode cX3_failed 11 = .ok (.iconst 0, 1) := by decide +kernel
theorem dX3_failed_12 : decode cX3_failed 12 = .ok (.ireturn, 1) := by decide +kernel
theorem dX3_fail_0 : decode cX3_fail 0 = .ok (.aload_n 0, 1) := by decide +kernel
theorem dX3_fail_1 : decode cX3_fail 1 = .ok (.getfield 18, 3) := by decide +kernel
theorem dX3_fail_4 : decode cX3_fail 4 = .ok (.ifCond .ne 13, 3) := by decide +kernel
theorem dX3_fail_7 : decode cX3_fail 7 = .ok (.aload_n 0, 1) := by decide +kernel
theorem dX3_fail_8 : decode cX3_fail 8 = .ok (.iload_n 1, 1) := by decide +kernel
theorem dX3_fail_9 : decode cX3_fail 9 = .ok (.putfield 18, 3) := by decide +kernel
theorem dX3_fail_12 : decode cX3_fail 12 = .ok (.aload_n 0, 1) := by decide +kernel
theorem dX3_fail_13 : decode cX3_fail 13 = .ok (.iload_n 2, 1) := by decide +kernel
theorem dX3_fail_14 : decode cX3_fail 14 = .ok (.putfield 22, 3) := by decide +kernel
theorem dX3_fail_17 : decode cX3_fail 17 = .ok (.return_, 1) := by decide +kernel
theorem dX3_readLand_0 : decode cX3_readLand 0 = .ok (.aload_n 0, 1) := by decide +kernel
theorem dX3_readLand_1 : decode cX3_readLand 1 = .ok (.invokevirtual 66, 3) := by decide +kernel
theorem dX3_readLand_4 : decode cX3_readLand 4 = .ok (.aload_n 0, 1) := by decide +kernel
theorem dX3_readLand_5 : decode cX3_readLand 5 = .ok (.ldc 69, 2) := by decide +kernel
theorem dX3_readLand_7 : decode cX3_readLand 7 = .ok (.invokevirtual 71, 3) := by decide +kernel
theorem dX3_readLand_10 : decode cX3_readLand 10 = .ok (.ifCond .ne 12, 3) := by decide +kernel
theorem dX3_readLand_13 : decode cX3_readLand 13 = .ok (.aload_n 0, 1) := by decide +kernel
theorem dX3_readLand_14 : decode cX3_readLand 14 = .ok (.iconst 1, 1) := by decide +kernel
theorem dX3_readLand_15 : decode cX3_readLand 15 = .ok (.aload_n 0, 1) := by decide +kernel
theorem dX3_readLand_16 : decode cX3_readLand 16 = .ok (.getfield 28, 3) := by decide +kernel
theorem dX3_readLand_19 : decode cX3_readLand 19 = .ok (.invokevirtual 75, 3) := by decide +kernel
theorem dX3_readLand_22 : decode cX3_readLand 22 = .ok (.aload_n 0, 1) := by decide +kernel
theorem dX3_readLand_23 : decode cX3_readLand 23 = .ok (.iconst 1, 1) := by decide +kernel
theorem dX3_readLand_24 : decode cX3_readLand 24 = .ok (.bipush 9, 2) := by decide +kernel
theorem dX3_readLand_26 : decode cX3_readLand 26 = .ok (.invokevirtual 79, 3) := by decide +kernel
theorem dX3_readLand_29 : decode cX3_readLand 29 = .ok (.istore_n 1, 1) := by decide +kernel
theorem dX3_readLand_30 : decode cX3_readLand 30 = .ok (.iload_n 1, 1) := by decide +kernel
theorem dX3_readLand_31 : decode cX3_readLand 31 = .ok (.ifCond .le 15, 3) := by decide +kernel
theorem dX3_readLand_34 : decode cX3_readLand 34 = .ok (.bipush 9, 2) := by decide +kernel
theorem dX3_readLand_36 : decode cX3_readLand 36 = .ok (.bipush 36, 2) := by decide +kernel
theorem dX3_readLand_38 : decode cX3_readLand 38 = .ok (.iload_n 1, 1) := by decide +kernel
theorem dX3_readLand_39 : decode cX3_readLand 39 = .ok (.idiv, 1) := by decide +kernel
theorem dX3_readLand_40 : decode cX3_readLand 40 = .ok (.invokestatic 83, 3) := by decide +kernel
theorem dX3_readLand_43 : decode cX3_readLand 43 = .ok (.goto 5, 3) := by decide +kernel
theorem dX3_readLand_46 : decode cX3_readLand 46 = .ok (.bipush 9, 2) := by decide +kernel
theorem dX3_readLand_48 : decode cX3_readLand 48 = .ok (.istore_n 2, 1) := by decide +kernel
theorem dX3_readLand_49 : decode cX3_readLand 49 = .ok (.aload_n 0, 1) := by decide +kernel
theorem dX3_readLand_50 : decode cX3_readLand 50 = .ok (.iconst 1, 1) := by decide +kernel
theorem dX3_readLand_51 : decode cX3_readLand 51 = .ok (.iload_n 2, 1) := by decide +kernel
theorem dX3_readLand_52 : decode cX3_readLand 52 = .ok (.invokevirtual 79, 3) := by decide +kernel
theorem dX3_readLand_55 : decode cX3_readLand 55 = .ok (.istore_n 3, 1) := by decide +kernel
theorem dX3_readLand_56 : decode cX3_readLand 56 = .ok (.aload_n 0, 1) := by decide +kernel
theorem dX3_readLand_57 : decode cX3_readLand 57 = .ok (.bipush 59, 2) := by decide +kernel
theorem dX3_readLand_59 : decode cX3_readLand 59 = .ok (.invokevirtual 88, 3) := by decide +kernel
theorem dX3_readLand_62 : decode cX3_readLand 62 = .ok (.aload_n 0, 1) := by decide +kernel
theorem dX3_readLand_63 : decode cX3_readLand 63 = .ok (.invokevirtual 59, 3) := by decide +kernel
theorem dX3_readLand_66 : decode cX3_readLand 66 = .ok (.ifCond .ne 19, 3) := by decide +kernel
theorem dX3_readLand_69 : decode cX3_readLand 69 = .ok (.aload_n 0, 1) := by decide +kernel
theorem dX3_readLand_70 : decode cX3_readLand 70 = .ok (.getfield 12, 3) := by decide +kernel
theorem dX3_readLand_73 : decode cX3_readLand 73 = .ok (.iload_n 1, 1) := by decide +kernel
theorem dX3_readLand_74 : decode cX3_readLand 74 = .ok (.putfield 92, 3) := by decide +kernel
theorem dX3_readLand_77 : decode cX3_readLand 77 = .ok (.aload_n 0, 1) := by decide +kernel
theorem dX3_readLand_78 : decode cX3_readLand 78 = .ok (.getfield 12, 3) := by decide +kernel
theorem dX3_readLand_81 : decode cX3_readLand 81 = .ok (.iload_n 3, 1) := by decide +kernel
theorem dX3_readLand_82 : decode cX3_readLand 82 = .ok (.putfield 95, 3) := by decide +kernel
theorem dX3_readLand_85 : decode cX3_readLand 85 = .ok (.return_, 1) := by decide +kernel
theorem dX3_readStatement_0 : decode cX3_readStatement 0 = .ok (.aload_n 0, 1) := by decide +kernel
theorem dX3_readStatement_1 : decode cX3_readStatement 1 = .ok (.invokevirtual 66, 3) := by decide +kernel
theorem dX3_readStatement_4 : decode cX3_readStatement 4 = .ok (.aload_n 0, 1) := by decide +kernel
theorem dX3_readStatement_5 : decode cX3_readStatement 5 = .ok (.ldc 98, 2) := by decide +kernel
theorem dX3_readStatement_7 : decode cX3_readStatement 7 = .ok (.invokevirtual 71, 3) := by decide +kernel
theorem dX3_readStatement_10 : decode cX3_readStatement 10 = .ok (.ifCond .eq 10, 3) := by decide +kernel
theorem dX3_readStatement_13 : decode cX3_readStatement 13 = .ok (.aload_n 0, 1) := by decide +kernel
theorem dX3_readStatement_14 : decode cX3_readStatement 14 = .ok (.invokevirtual 100, 3) := by decide +kernel
theorem dX3_readStatement_17 : decode cX3_readStatement 17 = .ok (.goto 89, 3) := by decide +kernel
theorem dX3_readStatement_20 : decode cX3_readStatement 20 = .ok (.aload_n 0, 1) := by decide +kernel
theorem dX3_readStatement_21 : decode cX3_readStatement 21 = .ok (.ldc 103, 2) := by decide +kernel
theorem dX3_readStatement_23 : decode cX3_readStatement 23 = .ok (.invokevirtual 71, 3) := by decide +kernel
theorem dX3_readStatement_26 : decode cX3_readStatement 26 = .ok (.ifCond .eq 10, 3) := by decide +kernel
theorem dX3_readStatement_29 : decode cX3_readStatement 29 = .ok (.aload_n 0, 1) := by decide +kernel
theorem dX3_readStatement_30 : decode cX3_readStatement 30 = .ok (.invokevirtual 105, 3) := by decide +kernel
theorem dX3_readStatement_33 : decode cX3_readStatement 33 = .ok (.goto 73, 3) := by decide +kernel
theorem dX3_readStatement_36 : decode cX3_readStatement 36 = .ok (.aload_n 0, 1) := by decide +kernel
theorem dX3_readStatement_37 : decode cX3_readStatement 37 = .ok (.ldc 108, 2) := by decide +kernel
theorem dX3_readStatement_39 : decode cX3_readStatement 39 = .ok (.invokevirtual 71, 3) := by decide +kernel
theorem dX3_readStatement_42 : decode cX3_readStatement 42 = .ok (.ifCond .eq 10, 3) := by decide +kernel
theorem dX3_readStatement_45 : decode cX3_readStatement 45 = .ok (.aload_n 0, 1) := by decide +kernel
theorem dX3_readStatement_46 : decode cX3_readStatement 46 = .ok (.invokevirtual 110, 3) := by decide +kernel
theorem dX3_readStatement_49 : decode cX3_readStatement 49 = .ok (.goto 57, 3) := by decide +kernel
theorem dX3_readStatement_52 : decode cX3_readStatement 52 = .ok (.aload_n 0, 1) := by decide +kernel
theorem dX3_readStatement_53 : decode cX3_readStatement 53 = .ok (.ldc 113, 2) := by decide +kernel
theorem dX3_readStatement_55 : decode cX3_readStatement 55 = .ok (.invokevirtual 71, 3) := by decide +kernel
theorem dX3_readStatement_58 : decode cX3_readStatement 58 = .ok (.ifCond .eq 10, 3) := by decide +kernel
theorem dX3_readStatement_61 : decode cX3_readStatement 61 = .ok (.aload_n 0, 1) := by decide +kernel
theorem dX3_readStatement_62 : decode cX3_readStatement 62 = .ok (.invokevirtual 115, 3) := by decide +kernel
theorem dX3_readStatement_65 : decode cX3_readStatement 65 = .ok (.goto 41, 3) := by decide +kernel
theorem dX3_readStatement_68 : decode cX3_readStatement 68 = .ok (.aload_n 0, 1) := by decide +kernel
theorem dX3_readStatement_69 : decode cX3_readStatement 69 = .ok (.ldc 118, 2) := by decide +kernel
theorem dX3_readStatement_71 : decode cX3_readStatement 71 = .ok (.invokevirtual 71, 3) := by decide +kernel
theorem dX3_readStatement_74 : decode cX3_readStatement 74 = .ok (.ifCond .eq 10, 3) := by decide +kernel
theorem dX3_readStatement_77 : decode cX3_readStatement 77 = .ok (.aload_n 0, 1) := by decide +kernel
theorem dX3_readStatement_78 : decode cX3_readStatement 78 = .ok (.invokevirtual 120, 3) := by decide +kernel
theorem dX3_readStatement_81 : decode cX3_readStatement 81 = .ok (.goto 25, 3) := by decide +kernel
theorem dX3_readStatement_84 : decode cX3_readStatement 84 = .ok (.aload_n 0, 1) := by decide +kernel
theorem dX3_readStatement_85 : decode cX3_readStatement 85 = .ok (.aload_n 0, 1) := by decide +kernel
theorem dX3_readStatement_86 : decode cX3_readStatement 86 = .ok (.ldc 69, 2) := by decide +kernel
theorem dX3_readStatement_88 : decode cX3_readStatement 88 = .ok (.invokevirtual 71, 3) := by decide +kernel
theorem dX3_readStatement_91 : decode cX3_readStatement 91 = .ok (.ifCond .eq 7, 3) := by decide +kernel
theorem dX3_readStatement_94 : decode cX3_readStatement 94 = .ok (.iconst 3, 1) := by decide +kernel
theorem dX3_readStatement_95 : decode cX3_readStatement 95 = .ok (.goto 4, 3) := by decide +kernel
theorem dX3_readStatement_98 : decode cX3_readStatement 98 = .ok (.iconst 1, 1) := by decide +kernel
theorem dX3_readStatement_99 : decode cX3_readStatement 99 = .ok (.aload_n 0, 1) := by decide +kernel
theorem dX3_readStatement_100 : decode cX3_readStatement 100 = .ok (.getfield 28, 3) := by decide +kernel
theorem dX3_readStatement_103 : decode cX3_readStatement 103 = .ok (.invokevirtual 75, 3) := by decide +kernel
theorem dX3_readStatement_106 : decode cX3_readStatement 106 = .ok (.return_, 1) := by decide +kernel
theorem dX3_readRow_0 : decode cX3_readRow 0 = .ok (.aload_n 0, 1) := by decide +kernel
theorem dX3_readRow_1 : decode cX3_readRow 1 = .ok (.invokevirtual 48, 3) := by decide +kernel
theorem dX3_readRow_4 : decode cX3_readRow 4 = .ok (.aload_n 0, 1) := by decide +kernel
theorem dX3_readRow_5 : decode cX3_readRow 5 = .ok (.getfield 25, 3) := by decide +kernel
theorem dX3_readRow_8 : decode cX3_readRow 8 = .ok (.istore_n 1, 1) := by decide +kernel
theorem dX3_readRow_9 : decode cX3_readRow 9 = .ok (.aload_n 0, 1) := by decide +kernel
theorem dX3_readRow_10 : decode cX3_readRow 10 = .ok (.iconst 0, 1) := by decide +kernel
theorem dX3_readRow_11 : decode cX3_readRow 11 = .ok (.aload_n 0, 1) := by decide +kernel
theorem dX3_readRow_12 : decode cX3_readRow 12 = .ok (.getfield 12, 3) := by decide +kernel
theorem dX3_readRow_15 : decode cX3_readRow 15 = .ok (.getfield 95, 3) := by decide +kernel
theorem dX3_readRow_18 : decode cX3_readRow 18 = .ok (.iconst 1, 1) := by decide +kernel
theorem dX3_readRow_19 : decode cX3_readRow 19 = .ok (.isub, 1) := by decide +kernel
theorem dX3_readRow_20 : decode cX3_readRow 20 = .ok (.invokevirtual 79, 3) := by decide +kernel
theorem dX3_readRow_23 : decode cX3_readRow 23 = .ok (.istore_n 2, 1) := by decide +kernel
theorem dX3_readRow_24 : decode cX3_readRow 24 = .ok (.aload_n 0, 1) := by decide +kernel
theorem dX3_readRow_25 : decode cX3_readRow 25 = .ok (.getfield 31, 3) := by decide +kernel
theorem dX3_readRow_28 : decode cX3_readRow 28 = .ok (.i2l, 1) := by decide +kernel
theorem dX3_readRow_29 : decode cX3_readRow 29 = .ok (.iload_n 2, 1) := by decide +kernel
theorem dX3_readRow_30 : decode cX3_readRow 30 = .ok (.invokestatic 123, 3) := by decide +kernel
theorem dX3_readRow_33 : decode cX3_readRow 33 = .ok (.ifCond .eq 9, 3) := by decide +kernel
theorem dX3_readRow_36 : decode cX3_readRow 36 = .ok (.aload_n 0, 1) := by decide +kernel
theorem dX3_readRow_37 : decode cX3_readRow 37 = .ok (.iconst 4, 1) := by decide +kernel
theorem dX3_readRow_38 : decode cX3_readRow 38 = .ok (.iload_n 1, 1) := by decide +kernel
theorem dX3_readRow_39 : decode cX3_readRow 39 = .ok (.invokevirtual 75, 3) := by decide +kernel
theorem dX3_readRow_42 : decode cX3_readRow 42 = .ok (.aload_n 0, 1) := by decide +kernel
theorem dX3_readRow_43 : decode cX3_readRow 43 = .ok (.dup, 1) := by decide +kernel
theorem dX3_readRow_44 : decode cX3_readRow 44 = .ok (.getfield 31, 3) := by decide +kernel
theorem dX3_readRow_47 : decode cX3_readRow 47 = .ok (.iconst 1, 1) := by decide +kernel
theorem dX3_readRow_48 : decode cX3_readRow 48 = .ok (.iload_n 2, 1) := by decide +kernel
theorem dX3_readRow_49 : decode cX3_readRow 49 = .ok (.ishl, 1) := by decide +kernel
theorem dX3_readRow_50 : decode cX3_readRow 50 = .ok (.ior, 1) := by decide +kernel
theorem dX3_readRow_51 : decode cX3_readRow 51 = .ok (.putfield 31, 3) := by decide +kernel
theorem dX3_readRow_54 : decode cX3_readRow 54 = .ok (.iconst 0, 1) := by decide +kernel
theorem dX3_readRow_55 : decode cX3_readRow 55 = .ok (.istore_n 3, 1) := by decide +kernel
theorem dX3_readRow_56 : decode cX3_readRow 56 = .ok (.iload_n 3, 1) := by decide +kernel
theorem dX3_readRow_57 : decode cX3_readRow 57 = .ok (.aload_n 0, 1) := by decide +kernel
theorem dX3_readRow_58 : decode cX3_readRow 58 = .ok (.getfield 12, 3) := by decide +kernel
theorem dX3_readRow_61 : decode cX3_readRow 61 = .ok (.getfield 92, 3) := by decide +kernel
theorem dX3_readRow_64 : decode cX3_readRow 64 = .ok (.if_icmp .ge 50, 3) := by decide +kernel
theorem dX3_readRow_67 : decode cX3_readRow 67 = .ok (.aload_n 0, 1) := by decide +kernel
theorem dX3_readRow_68 : decode cX3_readRow 68 = .ok (.invokevirtual 59, 3) := by decide +kernel
theorem dX3_readRow_71 : decode cX3_readRow 71 = .ok (.ifCond .ne 43, 3) := by decide +kernel
theorem dX3_readRow_74 : decode cX3_readRow 74 = .ok (.iload_n 3, 1) := by decide +kernel
theorem dX3_readRow_75 : decode cX3_readRow 75 = .ok (.ifCond .le 9, 3) := by decide +kernel
theorem dX3_readRow_78 : decode cX3_readRow 78 = .ok (.aload_n 0, 1) := by decide +kernel
theorem dX3_readRow_79 : decode cX3_readRow 79 = .ok (.bipush 44, 2) := by decide +kernel
theorem dX3_readRow_81 : decode cX3_readRow 81 = .ok (.invokevirtual 88, 3) := by decide +kernel
theorem dX3_readRow_84 : decode cX3_readRow 84 = .ok (.aload_n 0, 1) := by decide +kernel
theorem dX3_readRow_85 : decode cX3_readRow 85 = .ok (.getfield 12, 3) := by decide +kernel
theorem dX3_readRow_88 : decode cX3_readRow 88 = .ok (.getfield 127, 3) := by decide +kernel
theorem dX3_readRow_91 : decode cX3_readRow 91 = .ok (.aload_n 0, 1) := by decide +kernel
theorem dX3_readRow_92 : decode cX3_readRow 92 = .ok (.getfield 12, 3) := by decide +kernel
theorem dX3_readRow_95 : decode cX3_readRow 95 = .ok (.iload_n 3, 1) := by decide +kernel
theorem dX3_readRow_96 : decode cX3_readRow 96 = .ok (.iload_n 2, 1) := by decide +kernel
theorem dX3_readRow_97 : decode cX3_readRow 97 = .ok (.invokevirtual 131, 3) := by decide +kernel
theorem dX3_readRow_100 : decode cX3_readRow 100 = .ok (.aload_n 0, 1) := by decide +kernel
theorem dX3_readRow_101 : decode cX3_readRow 101 = .ok (.iconst 0, 1) := by decide +kernel
theorem dX3_readRow_102 : decode cX3_readRow 102 = .ok (.bipush 9, 2) := by decide +kernel
theorem dX3_readRow_104 : decode cX3_readRow 104 = .ok (.invokevirtual 79, 3) := by decide +kernel
theorem dX3_readRow_107 : decode cX3_readRow 107 = .ok (.iastore, 1) := by decide +kernel
theorem dX3_readRow_108 : decode cX3_readRow 108 = .ok (.iinc 3 1, 3) := by decide +kernel
theorem dX3_readRow_111 : decode cX3_readRow 111 = .ok (.goto (-55), 3) := by decide +kernel
theorem dX3_readRow_114 : decode cX3_readRow 114 = .ok (.aload_n 0, 1) := by decide +kernel
theorem dX3_readRow_115 : decode cX3_readRow 115 = .ok (.bipush 59, 2) := by decide +kernel
theorem dX3_readRow_117 : decode cX3_readRow 117 = .ok (.invokevirtual 88, 3) := by decide +kernel
theorem dX3_readRow_120 : decode cX3_readRow 120 = .ok (.return_, 1) := by decide +kernel
theorem dX3_readTide_0 : decode cX3_readTide 0 = .ok (.aload_n 0, 1) := by decide +kernel
theorem dX3_readTide_1 : decode cX3_readTide 1 = .ok (.getfield 34, 3) := by decide +kernel
theorem dX3_readTide_4 : decode cX3_readTide 4 = .ok (.ifCond .eq 12, 3) := by decide +kernel
theorem dX3_readTide_7 : decode cX3_readTide 7 = .ok (.aload_n 0, 1) := by decide +kernel
theorem dX3_readTide_8 : decode cX3_readTide 8 = .ok (.iconst 3, 1) := by decide +kernel
theorem dX3_readTide_9 : decode cX3_readTide 9 = .ok (.aload_n 0, 1) := by decide +kernel
theorem dX3_readTide_10 : decode cX3_readTide 10 = .ok (.getfield 28, 3) := by decide +kernel
theorem dX3_readTide_13 : decode cX3_readTide 13 = .ok (.invokevirtual 75, 3) := by decide +kernel
theorem dX3_readTide_16 : decode cX3_readTide 16 = .ok (.aload_n 0, 1) := by decide +kernel
theorem dX3_readTide_17 : decode cX3_readTide 17 = .ok (.iconst 1, 1) := by decide +kernel
theorem dX3_readTide_18 : decode cX3_readTide 18 = .ok (.putfield 34, 3) := by decide +kernel
theorem dX3_readTide_21 : decode cX3_readTide 21 = .ok (.aload_n 0, 1) := by decide +kernel
theorem dX3_readTide_22 : decode cX3_readTide 22 = .ok (.getfield 12, 3) := by decide +kernel
theorem dX3_readTide_25 : decode cX3_readTide 25 = .ok (.getfield 134, 3) := by decide +kernel
theorem dX3_readTide_28 : decode cX3_readTide 28 = .ok (.iconst 0, 1) := by decide +kernel
theorem dX3_readTide_29 : decode cX3_readTide 29 = .ok (.aload_n 0, 1) := by decide +kernel
theorem dX3_readTide_30 : decode cX3_readTide 30 = .ok (.iconst 0, 1) := by decide +kernel
theorem dX3_readTide_31 : decode cX3_readTide 31 = .ok (.bipush 9, 2) := by decide +kernel
theorem dX3_readTide_33 : decode cX3_readTide 33 = .ok (.invokevirtual 79, 3) := by decide +kernel
theorem dX3_readTide_36 : decode cX3_readTide 36 = .ok (.iastore, 1) := by decide +kernel
theorem dX3_readTide_37 : decode cX3_readTide 37 = .ok (.iconst 1, 1) := by decide +kernel
theorem dX3_readTide_38 : decode cX3_readTide 38 = .ok (.istore_n 1, 1) := by decide +kernel
theorem dX3_readTide_39 : decode cX3_readTide 39 = .ok (.iload_n 1, 1) := by decide +kernel
theorem dX3_readTide_40 : decode cX3_readTide 40 = .ok (.bipush 6, 2) := by decide +kernel
theorem dX3_readTide_42 : decode cX3_readTide 42 = .ok (.if_icmp .ge 47, 3) := by decide +kernel
theorem dX3_readTide_45 : decode cX3_readTide 45 = .ok (.aload_n 0, 1) := by decide +kernel
theorem dX3_readTide_46 : decode cX3_readTide 46 = .ok (.invokevirtual 59, 3) := by decide +kernel
theorem dX3_readTide_49 : decode cX3_readTide 49 = .ok (.ifCond .ne 40, 3) := by decide +kernel
theorem dX3_readTide_52 : decode cX3_readTide 52 = .ok (.aload_n 0, 1) := by decide +kernel
theorem dX3_readTide_53 : decode cX3_readTide 53 = .ok (.bipush 44, 2) := by decide +kernel
theorem dX3_readTide_55 : decode cX3_readTide 55 = .ok (.invokevirtual 136, 3) := by decide +kernel
theorem dX3_readTide_58 : decode cX3_readTide 58 = .ok (.ifCond .eq 31, 3) := by decide +kernel
theorem dX3_readTide_61 : decode cX3_readTide 61 = .ok (.aload_n 0, 1) := by decide +kernel
theorem dX3_readTide_62 : decode cX3_readTide 62 = .ok (.bipush 44, 2) := by decide +kernel
theorem dX3_readTide_64 : decode cX3_readTide 64 = .ok (.invokevirtual 88, 3) := by decide +kernel
theorem dX3_readTide_67 : decode cX3_readTide 67 = .ok (.aload_n 0, 1) := by decide +kernel
theorem dX3_readTide_68 : decode cX3_readTide 68 = .ok (.getfield 12, 3) := by decide +kernel
theorem dX3_readTide_71 : decode cX3_readTide 71 = .ok (.getfield 134, 3) := by decide +kernel
theorem dX3_readTide_74 : decode cX3_readTide 74 = .ok (.iload_n 1, 1) := by decide +kernel
theorem dX3_readTide_75 : decode cX3_readTide 75 = .ok (.aload_n 0, 1) := by decide +kernel
theorem dX3_readTide_76 : decode cX3_readTide 76 = .ok (.iconst 0, 1) := by decide +kernel
theorem dX3_readTide_77 : decode cX3_readTide 77 = .ok (.bipush 9, 2) := by decide +kernel
theorem dX3_readTide_79 : decode cX3_readTide 79 = .ok (.invokevirtual 79, 3) := by decide +kernel
theorem dX3_readTide_82 : decode cX3_readTide 82 = .ok (.iastore, 1) := by decide +kernel
theorem dX3_readTide_83 : decode cX3_readTide 83 = .ok (.iinc 1 1, 3) := by decide +kernel
theorem dX3_readTide_86 : decode cX3_readTide 86 = .ok (.goto (-47), 3) := by decide +kernel
theorem dX3_readTide_89 : decode cX3_readTide 89 = .ok (.aload_n 0, 1) := by decide +kernel
theorem dX3_readTide_90 : decode cX3_readTide 90 = .ok (.bipush 59, 2) := by decide +kernel
theorem dX3_readTide_92 : decode cX3_readTide 92 = .ok (.invokevirtual 88, 3) := by decide +kernel
theorem dX3_readTide_95 : decode cX3_readTide 95 = .ok (.aload_n 0, 1) := by decide +kernel
theorem dX3_readTide_96 : decode cX3_readTide 96 = .ok (.getfield 12, 3) := by decide +kernel
theorem dX3_readTide_99 : decode cX3_readTide 99 = .ok (.iload_n 1, 1) := by decide +kernel
theorem dX3_readTide_100 : decode cX3_readTide 100 = .ok (.putfield 140, 3) := by decide +kernel
theorem dX3_readTide_103 : decode cX3_readTide 103 = .ok (.return_, 1) := by decide +kernel
theorem dX3_readMan_0 : decode cX3_readMan 0 = .ok (.aload_n 0, 1) := by decide +kernel
theorem dX3_readMan_1 : decode cX3_readMan 1 = .ok (.getfield 12, 3) := by decide +kernel
theorem dX3_readMan_4 : decode cX3_readMan 4 = .ok (.getfield 143, 3) := by decide +kernel
theorem dX3_readMan_7 : decode cX3_readMan 7 = .ok (.iconst 4, 1) := by decide +kernel
theorem dX3_readMan_8 : decode cX3_readMan 8 = .ok (.if_icmp .lt 12, 3) := by decide +kernel
theorem dX3_readMan_11 : decode cX3_readMan 11 = .ok (.aload_n 0, 1) := by decide +kernel
theorem dX3_readMan_12 : decode cX3_readMan 12 = .ok (.iconst 3, 1) := by decide +kernel
theorem dX3_readMan_13 : decode cX3_readMan 13 = .ok (.aload_n 0, 1) := by decide +kernel
theorem dX3_readMan_14 : decode cX3_readMan 14 = .ok (.getfield 28, 3) := by decide +kernel
theorem dX3_readMan_17 : decode cX3_readMan 17 = .ok (.invokevirtual 75, 3) := by decide +kernel
theorem dX3_readMan_20 : decode cX3_readMan 20 = .ok (.aload_n 0, 1) := by decide +kernel
theorem dX3_readMan_21 : decode cX3_readMan 21 = .ok (.invokevirtual 146, 3) := by decide +kernel
theorem dX3_readMan_24 : decode cX3_readMan 24 = .ok (.istore_n 1, 1) := by decide +kernel
theorem dX3_readMan_25 : decode cX3_readMan 25 = .ok (.aload_n 0, 1) := by decide +kernel
theorem dX3_readMan_26 : decode cX3_readMan 26 = .ok (.iconst 0, 1) := by decide +kernel
theorem dX3_readMan_27 : decode cX3_readMan 27 = .ok (.bipush 6, 2) := by decide +kernel
theorem dX3_readMan_29 : decode cX3_readMan 29 = .ok (.invokevirtual 79, 3) := by decide +kernel
theorem dX3_readMan_32 : decode cX3_readMan 32 = .ok (.istore_n 2, 1) := by decide +kernel
theorem dX3_readMan_33 : decode cX3_readMan 33 = .ok (.aload_n 0, 1) := by decide +kernel
theorem dX3_readMan_34 : decode cX3_readMan 34 = .ok (.bipush 59, 2) := by decide +kernel
theorem dX3_readMan_36 : decode cX3_readMan 36 = .ok (.invokevirtual 88, 3) := by decide +kernel
theorem dX3_readMan_39 : decode cX3_readMan 39 = .ok (.aload_n 0, 1) := by decide +kernel
theorem dX3_readMan_40 : decode cX3_readMan 40 = .ok (.invokevirtual 59, 3) := by decide +kernel
theorem dX3_readMan_43 : decode cX3_readMan 43 = .ok (.ifCond .ne 48, 3) := by decide +kernel
theorem dX3_readMan_46 : decode cX3_readMan 46 = .ok (.aload_n 0, 1) := by decide +kernel
theorem dX3_readMan_47 : decode cX3_readMan 47 = .ok (.getfield 12, 3) := by decide +kernel
theorem dX3_readMan_50 : decode cX3_readMan 50 = .ok (.getfield 150, 3) := by decide +kernel
theorem dX3_readMan_53 : decode cX3_readMan 53 = .ok (.aload_n 0, 1) := by decide +kernel
theorem dX3_readMan_54 : decode cX3_readMan 54 = .ok (.getfield 12, 3) := by decide +kernel
theorem dX3_readMan_57 : decode cX3_readMan 57 = .ok (.getfield 143, 3) := by decide +kernel
theorem dX3_readMan_60 : decode cX3_readMan 60 = .ok (.iload_n 1, 1) := by decide +kernel
theorem dX3_readMan_61 : decode cX3_readMan 61 = .ok (.iastore, 1) := by decide +kernel
theorem dX3_readMan_62 : decode cX3_readMan 62 = .ok (.aload_n 0, 1) := by decide +kernel
theorem dX3_readMan_63 : decode cX3_readMan 63 = .ok (.getfield 12, 3) := by decide +kernel
theorem dX3_readMan_66 : decode cX3_readMan 66 = .ok (.getfield 153, 3) := by decide +kernel
theorem dX3_readMan_69 : decode cX3_readMan 69 = .ok (.aload_n 0, 1) := by decide +kernel
theorem dX3_readMan_70 : decode cX3_readMan 70 = .ok (.getfield 12, 3) := by decide +kernel
theorem dX3_readMan_73 : decode cX3_readMan 73 = .ok (.getfield 143, 3) := by decide +kernel
theorem dX3_readMan_76 : decode cX3_readMan 76 = .ok (.iload_n 2, 1) := by decide +kernel
theorem dX3_readMan_77 : decode cX3_readMan 77 = .ok (.iastore, 1) := by decide +kernel
theorem dX3_readMan_78 : decode cX3_readMan 78 = .ok (.aload_n 0, 1) := by decide +kernel
theorem dX3_readMan_79 : decode cX3_readMan 79 = .ok (.getfield 12, 3) := by decide +kernel
theorem dX3_readMan_82 : decode cX3_readMan 82 = .ok (.dup, 1) := by decide +kernel
theorem dX3_readMan_83 : decode cX3_readMan 83 = .ok (.getfield 143, 3) := by decide +kernel
theorem dX3_readMan_86 : decode cX3_readMan 86 = .ok (.iconst 1, 1) := by decide +kernel
theorem dX3_readMan_87 : decode cX3_readMan 87 = .ok (.iadd, 1) := by decide +kernel
theorem dX3_readMan_88 : decode cX3_readMan 88 = .ok (.putfield 143, 3) := by decide +kernel
theorem dX3_readMan_91 : decode cX3_readMan 91 = .ok (.return_, 1) := by decide +kernel
theorem dX3_readNews_0 : decode cX3_readNews 0 = .ok (.aload_n 0, 1) := by decide +kernel
theorem dX3_readNews_1 : decode cX3_readNews 1 = .ok (.getfield 12, 3) := by decide +kernel
theorem dX3_readNews_4 : decode cX3_readNews 4 = .ok (.getfield 156, 3) := by decide +kernel
theorem dX3_readNews_7 : decode cX3_readNews 7 = .ok (.iconst 4, 1) := by decide +kernel
theorem dX3_readNews_8 : decode cX3_readNews 8 = .ok (.if_icmp .lt 12, 3) := by decide +kernel
theorem dX3_readNews_11 : decode cX3_readNews 11 = .ok (.aload_n 0, 1) := by decide +kernel
theorem dX3_readNews_12 : decode cX3_readNews 12 = .ok (.iconst 3, 1) := by decide +kernel
theorem dX3_readNews_13 : decode cX3_readNews 13 = .ok (.aload_n 0, 1) := by decide +kernel
theorem dX3_readNews_14 : decode cX3_readNews 14 = .ok (.getfield 28, 3) := by decide +kernel
theorem dX3_readNews_17 : decode cX3_readNews 17 = .ok (.invokevirtual 75, 3) := by decide +kernel
theorem dX3_readNews_20 : decode cX3_readNews 20 = .ok (.aload_n 0, 1) := by decide +kernel
theorem dX3_readNews_21 : decode cX3_readNews 21 = .ok (.invokevirtual 146, 3) := by decide +kernel
theorem dX3_readNews_24 : decode cX3_readNews 24 = .ok (.istore_n 1, 1) := by decide +kernel
theorem dX3_readNews_25 : decode cX3_readNews 25 = .ok (.aload_n 0, 1) := by decide +kernel
theorem dX3_readNews_26 : decode cX3_readNews 26 = .ok (.bipush 59, 2) := by decide +kernel
theorem dX3_readNews_28 : decode cX3_readNews 28 = .ok (.invokevirtual 88, 3) := by decide +kernel
theorem dX3_readNews_31 : decode cX3_readNews 31 = .ok (.aload_n 0, 1) := by decide +kernel
theorem dX3_readNews_32 : decode cX3_readNews 32 = .ok (.invokevirtual 59, 3) := by decide +kernel
theorem dX3_readNews_35 : decode cX3_readNews 35 = .ok (.ifCond .ne 32, 3) := by decide +kernel
theorem dX3_readNews_38 : decode cX3_readNews 38 = .ok (.aload_n 0, 1) := by decide +kernel
theorem dX3_readNews_39 : decode cX3_readNews 39 = .ok (.getfield 12, 3) := by decide +kernel
theorem dX3_readNews_42 : decode cX3_readNews 42 = .ok (.getfield 158, 3) := by decide +kernel
theorem dX3_readNews_45 : decode cX3_readNews 45 = .ok (.aload_n 0, 1) := by decide +kernel
theorem dX3_readNews_46 : decode cX3_readNews 46 = .ok (.getfield 12, 3) := by decide +kernel
theorem dX3_readNews_49 : decode cX3_readNews 49 = .ok (.getfield 156, 3) := by decide +kernel
theorem dX3_readNews_52 : decode cX3_readNews 52 = .ok (.iload_n 1, 1) := by decide +kernel
theorem dX3_readNews_53 : decode cX3_readNews 53 = .ok (.iastore, 1) := by decide +kernel
theorem dX3_readNews_54 : decode cX3_readNews 54 = .ok (.aload_n 0, 1) := by decide +kernel
theorem dX3_readNews_55 : decode cX3_readNews 55 = .ok (.getfield 12, 3) := by decide +kernel
theorem dX3_readNews_58 : decode cX3_readNews 58 = .ok (.dup, 1) := by decide +kernel
theorem dX3_readNews_59 : decode cX3_readNews 59 = .ok (.getfield 156, 3) := by decide +kernel
theorem dX3_readNews_62 : decode cX3_readNews 62 = .ok (.iconst 1, 1) := by decide +kernel
theorem dX3_readNews_63 : decode cX3_readNews 63 = .ok (.iadd, 1) := by decide +kernel
theorem dX3_readNews_64 : decode cX3_readNews 64 = .ok (.putfield 156, 3) := by decide +kernel
theorem dX3_readNews_67 : decode cX3_readNews 67 = .ok (.return_, 1) := by decide +kernel
theorem dX3_readCastle_0 : decode cX3_readCastle 0 = .ok (.aload_n 0, 1) := by decide +kernel
theorem dX3_readCastle_1 : decode cX3_readCastle 1 = .ok (.getfield 38, 3) := by decide +kernel
theorem dX3_readCastle_4 : decode cX3_readCastle 4 = .ok (.ifCond .eq 12, 3) := by decide +kernel
theorem dX3_readCastle_7 : decode cX3_readCastle 7 = .ok (.aload_n 0, 1) := by decide +kernel
theorem dX3_readCastle_8 : decode cX3_readCastle 8 = .ok (.iconst 3, 1) := by decide +kernel
theorem dX3_readCastle_9 : decode cX3_readCastle 9 = .ok (.aload_n 0, 1) := by decide +kernel
theorem dX3_readCastle_10 : decode cX3_readCastle 10 = .ok (.getfield 28, 3) := by decide +kernel
theorem dX3_readCastle_13 : decode cX3_readCastle 13 = .ok (.invokevirtual 75, 3) := by decide +kernel
theorem dX3_readCastle_16 : decode cX3_readCastle 16 = .ok (.aload_n 0, 1) := by decide +kernel
theorem dX3_readCastle_17 : decode cX3_readCastle 17 = .ok (.iconst 1, 1) := by decide +kernel
theorem dX3_readCastle_18 : decode cX3_readCastle 18 = .ok (.putfield 38, 3) := by decide +kernel
theorem dX3_readCastle_21 : decode cX3_readCastle 21 = .ok (.aload_n 0, 1) := by decide +kernel
theorem dX3_readCastle_22 : decode cX3_readCastle 22 = .ok (.getfield 12, 3) := by decide +kernel
theorem dX3_readCastle_25 : decode cX3_readCastle 25 = .ok (.aload_n 0, 1) := by decide +kernel
theorem dX3_readCastle_26 : decode cX3_readCastle 26 = .ok (.invokevirtual 146, 3) := by decide +kernel
theorem dX3_readCastle_29 : decode cX3_readCastle 29 = .ok (.putfield 161, 3) := by decide +kernel
theorem dX3_readCastle_32 : decode cX3_readCastle 32 = .ok (.aload_n 0, 1) := by decide +kernel
theorem dX3_readCastle_33 : decode cX3_readCastle 33 = .ok (.bipush 59, 2) := by decide +kernel
theorem dX3_readCastle_35 : decode cX3_readCastle 35 = .ok (.invokevirtual 88, 3) := by decide +kernel
theorem dX3_readCastle_38 : decode cX3_readCastle 38 = .ok (.return_, 1) := by decide +kernel
theorem dX3_takeCell_0 : decode cX3_takeCell 0 = .ok (.aload_n 0, 1) := by decide +kernel
theorem dX3_takeCell_1 : decode cX3_takeCell 1 = .ok (.iconst 0, 1) := by decide +kernel
theorem dX3_takeCell_2 : decode cX3_takeCell 2 = .ok (.aload_n 0, 1) := by decide +kernel
theorem dX3_takeCell_3 : decode cX3_takeCell 3 = .ok (.getfield 12, 3) := by decide +kernel
theorem dX3_takeCell_6 : decode cX3_takeCell 6 = .ok (.getfield 92, 3) := by decide +kernel
theorem dX3_takeCell_9 : decode cX3_takeCell 9 = .ok (.iconst 1, 1) := by decide +kernel
theorem dX3_takeCell_10 : decode cX3_takeCell 10 = .ok (.isub, 1) := by decide +kernel
theorem dX3_takeCell_11 : decode cX3_takeCell 11 = .ok (.invokevirtual 79, 3) := by decide +kernel
theorem dX3_takeCell_14 : decode cX3_takeCell 14 = .ok (.istore_n 1, 1) := by decide +kernel
theorem dX3_takeCell_15 : decode cX3_takeCell 15 = .ok (.aload_n 0, 1) := by decide +kernel
theorem dX3_takeCell_16 : decode cX3_takeCell 16 = .ok (.iconst 0, 1) := by decide +kernel
theorem dX3_takeCell_17 : decode cX3_takeCell 17 = .ok (.aload_n 0, 1) := by decide +kernel
theorem dX3_takeCell_18 : decode cX3_takeCell 18 = .ok (.getfield 12, 3) := by decide +kernel
theorem dX3_takeCell_21 : decode cX3_takeCell 21 = .ok (.getfield 95, 3) := by decide +kernel
theorem dX3_takeCell_24 : decode cX3_takeCell 24 = .ok (.iconst 1, 1) := by decide +kernel
theorem dX3_takeCell_25 : decode cX3_takeCell 25 = .ok (.isub, 1) := by decide +kernel
theorem dX3_takeCell_26 : decode cX3_takeCell 26 = .ok (.invokevirtual 79, 3) := by decide +kernel
theorem dX3_takeCell_29 : decode cX3_takeCell 29 = .ok (.istore_n 2, 1) := by decide +kernel
theorem dX3_takeCell_30 : decode cX3_takeCell 30 = .ok (.aload_n 0, 1) := by decide +kernel
theorem dX3_takeCell_31 : decode cX3_takeCell 31 = .ok (.getfield 12, 3) := by decide +kernel
theorem dX3_takeCell_34 : decode cX3_takeCell 34 = .ok (.iload_n 1, 1) := by decide +kernel
theorem dX3_takeCell_35 : decode cX3_takeCell 35 = .ok (.iload_n 2, 1) := by decide +kernel
theorem dX3_takeCell_36 : decode cX3_takeCell 36 = .ok (.invokevirtual 131, 3) := by decide +kernel
theorem dX3_takeCell_39 : decode cX3_takeCell 39 = .ok (.ireturn, 1) := by decide +kernel
theorem dX3_skipBlanks_0 : decode cX3_skipBlanks 0 = .ok (.aload_n 0, 1) := by decide +kernel
theorem dX3_skipBlanks_1 : decode cX3_skipBlanks 1 = .ok (.getfield 25, 3) := by decide +kernel
theorem dX3_skipBlanks_4 : decode cX3_skipBlanks 4 = .ok (.aload_n 0, 1) := by decide +kernel
theorem dX3_skipBlanks_5 : decode cX3_skipBlanks 5 = .ok (.getfield 41, 3) := by decide +kernel
theorem dX3_skipBlanks_8 : decode cX3_skipBlanks 8 = .ok (.getfield 51, 3) := by decide +kernel
theorem dX3_skipBlanks_11 : decode cX3_skipBlanks 11 = .ok (.if_icmp .ge 48, 3) := by decide +kernel
theorem dX3_skipBlanks_14 : decode cX3_skipBlanks 14 = .ok (.aload_n 0, 1) := by decide +kernel
theorem dX3_skipBlanks_15 : decode cX3_skipBlanks 15 = .ok (.getfield 25, 3) := by decide +kernel
theorem dX3_skipBlanks_18 : decode cX3_skipBlanks 18 = .ok (.aload_n 0, 1) := by decide +kernel
theorem dX3_skipBlanks_19 : decode cX3_skipBlanks 19 = .ok (.getfield 41, 3) := by decide +kernel
theorem dX3_skipBlanks_22 : decode cX3_skipBlanks 22 = .ok (.getfield 163, 3) := by decide +kernel
theorem dX3_skipBlanks_25 : decode cX3_skipBlanks 25 = .ok (.arraylength, 1) := by decide +kernel
theorem dX3_skipBlanks_26 : decode cX3_skipBlanks 26 = .ok (.if_icmp .ge 33, 3) := by decide +kernel
theorem dX3_skipBlanks_29 : decode cX3_skipBlanks 29 = .ok (.aload_n 0, 1) := by decide +kernel
theorem dX3_skipBlanks_30 : decode cX3_skipBlanks 30 = .ok (.getfield 41, 3) := by decide +kernel
theorem dX3_skipBlanks_33 : decode cX3_skipBlanks 33 = .ok (.getfield 163, 3) := by decide +kernel
theorem dX3_skipBlanks_36 : decode cX3_skipBlanks 36 = .ok (.aload_n 0, 1) := by decide +kernel
theorem dX3_skipBlanks_37 : decode cX3_skipBlanks 37 = .ok (.getfield 25, 3) := by decide +kernel
theorem dX3_skipBlanks_40 : decode cX3_skipBlanks 40 = .ok (.baload, 1) := by decide +kernel
theorem dX3_skipBlanks_41 : decode cX3_skipBlanks 41 = .ok (.bipush 32, 2) := by decide +kernel
theorem dX3_skipBlanks_43 : decode cX3_skipBlanks 43 = .ok (.if_icmp .ne 16, 3) := by decide +kernel
theorem dX3_skipBlanks_46 : decode cX3_skipBlanks 46 = .ok (.aload_n 0, 1) := by decide +kernel
theorem dX3_skipBlanks_47 : decode cX3_skipBlanks 47 = .ok (.dup, 1) := by decide +kernel
theorem dX3_skipBlanks_48 : decode cX3_skipBlanks 48 = .ok (.getfield 25, 3) := by decide +kernel
theorem dX3_skipBlanks_51 : decode cX3_skipBlanks 51 = .ok (.iconst 1, 1) := by decide +kernel
theorem dX3_skipBlanks_52 : decode cX3_skipBlanks 52 = .ok (.iadd, 1) := by decide +kernel
theorem dX3_skipBlanks_53 : decode cX3_skipBlanks 53 = .ok (.putfield 25, 3) := by decide +kernel
theorem dX3_skipBlanks_56 : decode cX3_skipBlanks 56 = .ok (.goto (-56), 3) := by decide +kernel
theorem dX3_skipBlanks_59 : decode cX3_skipBlanks 59 = .ok (.return_, 1) := by decide +kernel
theorem dX3_nextIs_0 : decode cX3_nextIs 0 = .ok (.aload_n 0, 1) := by decide +kernel
theorem dX3_nextIs_1 : decode cX3_nextIs 1 = .ok (.invokevirtual 48, 3) := by decide +kernel
theorem dX3_nextIs_4 : decode cX3_nextIs 4 = .ok (.aload_n 0, 1) := by decide +kernel
theorem dX3_nextIs_5 : decode cX3_nextIs 5 = .ok (.getfield 41, 3) := by decide +kernel
theorem dX3_nextIs_8 : decode cX3_nextIs 8 = .ok (.aload_n 0, 1) := by decide +kernel
theorem dX3_nextIs_9 : decode cX3_nextIs 9 = .ok (.getfield 25, 3) := by decide +kernel
theorem dX3_nextIs_12 : decode cX3_nextIs 12 = .ok (.invokevirtual 167, 3) := by decide +kernel
theorem dX3_nextIs_15 : decode cX3_nextIs 15 = .ok (.iload_n 1, 1) := by decide +kernel
theorem dX3_nextIs_16 : decode cX3_nextIs 16 = .ok (.if_icmp .ne 7, 3) := by decide +kernel
theorem dX3_nextIs_19 : decode cX3_nextIs 19 = .ok (.iconst 1, 1) := by decide +kernel
theorem dX3_nextIs_20 : decode cX3_nextIs 20 = .ok (.goto 4, 3) := by decide +kernel
theorem dX3_nextIs_23 : decode cX3_nextIs 23 = .ok (.iconst 0, 1) := by decide +kernel
theorem dX3_nextIs_24 : decode cX3_nextIs 24 = .ok (.ireturn, 1) := by decide +kernel
theorem dX3_takeSign_0 : decode cX3_takeSign 0 = .ok (.aload_n 0, 1) := by decide +kernel
theorem dX3_takeSign_1 : decode cX3_takeSign 1 = .ok (.invokevirtual 48, 3) := by decide +kernel
theorem dX3_takeSign_4 : decode cX3_takeSign 4 = .ok (.aload_n 0, 1) := by decide +kernel
theorem dX3_takeSign_5 : decode cX3_takeSign 5 = .ok (.getfield 41, 3) := by decide +kernel
theorem dX3_takeSign_8 : decode cX3_takeSign 8 = .ok (.aload_n 0, 1) := by decide +kernel
theorem dX3_takeSign_9 : decode cX3_takeSign 9 = .ok (.getfield 25, 3) := by decide +kernel
theorem dX3_takeSign_12 : decode cX3_takeSign 12 = .ok (.invokevirtual 167, 3) := by decide +kernel
theorem dX3_takeSign_15 : decode cX3_takeSign 15 = .ok (.iload_n 1, 1) := by decide +kernel
theorem dX3_takeSign_16 : decode cX3_takeSign 16 = .ok (.if_icmp .ne 16, 3) := by decide +kernel
theorem dX3_takeSign_19 : decode cX3_takeSign 19 = .ok (.aload_n 0, 1) := by decide +kernel
theorem dX3_takeSign_20 : decode cX3_takeSign 20 = .ok (.dup, 1) := by decide +kernel
theorem dX3_takeSign_21 : decode cX3_takeSign 21 = .ok (.getfield 25, 3) := by decide +kernel
theorem dX3_takeSign_24 : decode cX3_takeSign 24 = .ok (.iconst 1, 1) := by decide +kernel
theorem dX3_takeSign_25 : decode cX3_takeSign 25 = .ok (.iadd, 1) := by decide +kernel
theorem dX3_takeSign_26 : decode cX3_takeSign 26 = .ok (.putfield 25, 3) := by decide +kernel
theorem dX3_takeSign_29 : decode cX3_takeSign 29 = .ok (.goto 12, 3) := by decide +kernel
theorem dX3_takeSign_32 : decode cX3_takeSign 32 = .ok (.aload_n 0, 1) := by decide +kernel
theorem dX3_takeSign_33 : decode cX3_takeSign 33 = .ok (.iconst 1, 1) := by decide +kernel
theorem dX3_takeSign_34 : decode cX3_takeSign 34 = .ok (.aload_n 0, 1) := by decide +kernel
theorem dX3_takeSign_35 : decode cX3_takeSign 35 = .ok (.getfield 25, 3) := by decide +kernel
theorem dX3_takeSign_38 : decode cX3_takeSign 38 = .ok (.invokevirtual 75, 3) := by decide +kernel
theorem dX3_takeSign_41 : decode cX3_takeSign 41 = .ok (.return_, 1) := by decide +kernel
theorem dX3_takeWord_0 : decode cX3_takeWord 0 = .ok (.aload_n 0, 1) := by decide +kernel
theorem dX3_takeWord_1 : decode cX3_takeWord 1 = .ok (.invokevirtual 48, 3) := by decide +kernel
theorem dX3_takeWord_4 : decode cX3_takeWord 4 = .ok (.aload_n 0, 1) := by decide +kernel
theorem dX3_takeWord_5 : decode cX3_takeWord 5 = .ok (.aload_n 0, 1) := by decide +kernel
theorem dX3_takeWord_6 : decode cX3_takeWord 6 = .ok (.getfield 25, 3) := by decide +kernel
theorem dX3_takeWord_9 : decode cX3_takeWord 9 = .ok (.putfield 28, 3) := by decide +kernel
theorem dX3_takeWord_12 : decode cX3_takeWord 12 = .ok (.aload_n 0, 1) := by decide +kernel
theorem dX3_takeWord_13 : decode cX3_takeWord 13 = .ok (.getfield 25, 3) := by decide +kernel
theorem dX3_takeWord_16 : decode cX3_takeWord 16 = .ok (.aload_n 0, 1) := by decide +kernel
theorem dX3_takeWord_17 : decode cX3_takeWord 17 = .ok (.getfield 41, 3) := by decide +kernel
theorem dX3_takeWord_20 : decode cX3_takeWord 20 = .ok (.getfield 51, 3) := by decide +kernel
theorem dX3_takeWord_23 : decode cX3_takeWord 23 = .ok (.if_icmp .ge 33, 3) := by decide +kernel
theorem dX3_takeWord_26 : decode cX3_takeWord 26 = .ok (.aload_n 0, 1) := by decide +kernel
theorem dX3_takeWord_27 : decode cX3_takeWord 27 = .ok (.getfield 41, 3) := by decide +kernel
theorem dX3_takeWord_30 : decode cX3_takeWord 30 = .ok (.aload_n 0, 1) := by decide +kernel
theorem dX3_takeWord_31 : decode cX3_takeWord 31 = .ok (.getfield 25, 3) := by decide +kernel
theorem dX3_takeWord_34 : decode cX3_takeWord 34 = .ok (.invokevirtual 167, 3) := by decide +kernel
theorem dX3_takeWord_37 : decode cX3_takeWord 37 = .ok (.invokestatic 171, 3) := by decide +kernel
theorem dX3_takeWord_40 : decode cX3_takeWord 40 = .ok (.ifCond .eq 16, 3) := by decide +kernel
theorem dX3_takeWord_43 : decode cX3_takeWord 43 = .ok (.aload_n 0, 1) := by decide +kernel
theorem dX3_takeWord_44 : decode cX3_takeWord 44 = .ok (.dup, 1) := by decide +kernel
theorem dX3_takeWord_45 : decode cX3_takeWord 45 = .ok (.getfield 25, 3) := by decide +kernel
theorem dX3_takeWord_48 : decode cX3_takeWord 48 = .ok (.iconst 1, 1) := by decide +kernel
theorem dX3_takeWord_49 : decode cX3_takeWord 49 = .ok (.iadd, 1) := by decide +kernel
theorem dX3_takeWord_50 : decode cX3_takeWord 50 = .ok (.putfield 25, 3) := by decide +kernel
theorem dX3_takeWord_53 : decode cX3_takeWord 53 = .ok (.goto (-41), 3) := by decide +kernel
theorem dX3_takeWord_56 : decode cX3_takeWord 56 = .ok (.return_, 1) := by decide +kernel
theorem dX3_wordIs_0 : decode cX3_wordIs 0 = .ok (.aload_n 0, 1) := by decide +kernel
theorem dX3_wordIs_1 : decode cX3_wordIs 1 = .ok (.getfield 25, 3) := by decide +kernel
theorem dX3_wordIs_4 : decode cX3_wordIs 4 = .ok (.aload_n 0, 1) := by decide +kernel
theorem dX3_wordIs_5 : decode cX3_wordIs 5 = .ok (.getfield 28, 3) := by decide +kernel
theorem dX3_wordIs_8 : decode cX3_wordIs 8 = .ok (.isub, 1) := by decide +kernel
theorem dX3_wordIs_9 : decode cX3_wordIs 9 = .ok (.aload_n 1, 1) := by decide +kernel
theorem dX3_wordIs_10 : decode cX3_wordIs 10 = .ok (.invokevirtual 175, 3) := by decide +kernel
theorem dX3_wordIs_13 : decode cX3_wordIs 13 = .ok (.if_icmp .eq 5, 3) := by decide +kernel
theorem dX3_wordIs_16 : decode cX3_wordIs 16 = .ok (.iconst 0, 1) := by decide +kernel
theorem dX3_wordIs_17 : decode cX3_wordIs 17 = .ok (.ireturn, 1) := by decide +kernel
theorem dX3_wordIs_18 : decode cX3_wordIs 18 = .ok (.iconst 0, 1) := by decide +kernel
theorem dX3_wordIs_19 : decode cX3_wordIs 19 = .ok (.istore_n 2, 1) := by decide +kernel
theorem dX3_wordIs_20 : decode cX3_wordIs 20 = .ok (.iload_n 2, 1) := by decide +kernel
theorem dX3_wordIs_21 : decode cX3_wordIs 21 = .ok (.aload_n 1, 1) := by decide +kernel
theorem dX3_wordIs_22 : decode cX3_wordIs 22 = .ok (.invokevirtual 175, 3) := by decide +kernel
theorem dX3_wordIs_25 : decode cX3_wordIs 25 = .ok (.if_icmp .ge 32, 3) := by decide +kernel
theorem dX3_wordIs_28 : decode cX3_wordIs 28 = .ok (.aload_n 0, 1) := by decide +kernel
theorem dX3_wordIs_29 : decode cX3_wordIs 29 = .ok (.getfield 41, 3) := by decide +kernel
theorem dX3_wordIs_32 : decode cX3_wordIs 32 = .ok (.aload_n 0, 1) := by decide +kernel
theorem dX3_wordIs_33 : decode cX3_wordIs 33 = .ok (.getfield 28, 3) := by decide +kernel
theorem dX3_wordIs_36 : decode cX3_wordIs 36 = .ok (.iload_n 2, 1) := by decide +kernel
theorem dX3_wordIs_37 : decode cX3_wordIs 37 = .ok (.iadd, 1) := by decide +kernel
theorem dX3_wordIs_38 : decode cX3_wordIs 38 = .ok (.invokevirtual 167, 3) := by decide +kernel
theorem dX3_wordIs_41 : decode cX3_wordIs 41 = .ok (.aload_n 1, 1) := by decide +kernel
theorem dX3_wordIs_42 : decode cX3_wordIs 42 = .ok (.iload_n 2, 1) := by decide +kernel
theorem dX3_wordIs_43 : decode cX3_wordIs 43 = .ok (.invokevirtual 179, 3) := by decide +kernel
theorem dX3_wordIs_46 : decode cX3_wordIs 46 = .ok (.if_icmp .eq 5, 3) := by decide +kernel
theorem dX3_wordIs_49 : decode cX3_wordIs 49 = .ok (.iconst 0, 1) := by decide +kernel
theorem dX3_wordIs_50 : decode cX3_wordIs 50 = .ok (.ireturn, 1) := by decide +kernel
theorem dX3_wordIs_51 : decode cX3_wordIs 51 = .ok (.iinc 2 1, 3) := by decide +kernel
theorem dX3_wordIs_54 : decode cX3_wordIs 54 = .ok (.goto (-34), 3) := by decide +kernel
theorem dX3_wordIs_57 : decode cX3_wordIs 57 = .ok (.iconst 1, 1) := by decide +kernel
theorem dX3_wordIs_58 : decode cX3_wordIs 58 = .ok (.ireturn, 1) := by decide +kernel
theorem dX3_takeNumber_0 : decode cX3_takeNumber 0 = .ok (.aload_n 0, 1) := by decide +kernel
theorem dX3_takeNumber_1 : decode cX3_takeNumber 1 = .ok (.invokevirtual 48, 3) := by decide +kernel
theorem dX3_takeNumber_4 : decode cX3_takeNumber 4 = .ok (.aload_n 0, 1) := by decide +kernel
theorem dX3_takeNumber_5 : decode cX3_takeNumber 5 = .ok (.getfield 25, 3) := by decide +kernel
theorem dX3_takeNumber_8 : decode cX3_takeNumber 8 = .ok (.istore_n 3, 1) := by decide +kernel
theorem dX3_takeNumber_9 : decode cX3_takeNumber 9 = .ok (.iconst 0, 1) := by decide +kernel
theorem dX3_takeNumber_10 : decode cX3_takeNumber 10 = .ok (.istore 4, 2) := by decide +kernel
theorem dX3_takeNumber_12 : decode cX3_takeNumber 12 = .ok (.aload_n 0, 1) := by decide +kernel
theorem dX3_takeNumber_13 : decode cX3_takeNumber 13 = .ok (.getfield 25, 3) := by decide +kernel
theorem dX3_takeNumber_16 : decode cX3_takeNumber 16 = .ok (.aload_n 0, 1) := by decide +kernel
theorem dX3_takeNumber_17 : decode cX3_takeNumber 17 = .ok (.getfield 41, 3) := by decide +kernel
theorem dX3_takeNumber_20 : decode cX3_takeNumber 20 = .ok (.getfield 51, 3) := by decide +kernel
theorem dX3_takeNumber_23 : decode cX3_takeNumber 23 = .ok (.if_icmp .ge 70, 3) := by decide +kernel
theorem dX3_takeNumber_26 : decode cX3_takeNumber 26 = .ok (.aload_n 0, 1) := by decide +kernel
theorem dX3_takeNumber_27 : decode cX3_takeNumber 27 = .ok (.getfield 41, 3) := by decide +kernel
theorem dX3_takeNumber_30 : decode cX3_takeNumber 30 = .ok (.aload_n 0, 1) := by decide +kernel
theorem dX3_takeNumber_31 : decode cX3_takeNumber 31 = .ok (.getfield 25, 3) := by decide +kernel
theorem dX3_takeNumber_34 : decode cX3_takeNumber 34 = .ok (.invokevirtual 167, 3) := by decide +kernel
theorem dX3_takeNumber_37 : decode cX3_takeNumber 37 = .ok (.invokestatic 183, 3) := by decide +kernel
theorem dX3_takeNumber_40 : decode cX3_takeNumber 40 = .ok (.ifCond .eq 53, 3) := by decide +kernel
theorem dX3_takeNumber_43 : decode cX3_takeNumber 43 = .ok (.aload_n 0, 1) := by decide +kernel
theorem dX3_takeNumber_44 : decode cX3_takeNumber 44 = .ok (.getfield 25, 3) := by decide +kernel
theorem dX3_takeNumber_47 : decode cX3_takeNumber 47 = .ok (.iload_n 3, 1) := by decide +kernel
theorem dX3_takeNumber_48 : decode cX3_takeNumber 48 = .ok (.isub, 1) := by decide +kernel
theorem dX3_takeNumber_49 : decode cX3_takeNumber 49 = .ok (.iconst 3, 1) := by decide +kernel
theorem dX3_takeNumber_50 : decode cX3_takeNumber 50 = .ok (.if_icmp .ge 26, 3) := by decide +kernel
theorem dX3_takeNumber_53 : decode cX3_takeNumber 53 = .ok (.iload 4, 2) := by decide +kernel
theorem dX3_takeNumber_55 : decode cX3_takeNumber 55 = .ok (.bipush 10, 2) := by decide +kernel
theorem dX3_takeNumber_57 : decode cX3_takeNumber 57 = .ok (.imul, 1) := by decide +kernel
theorem dX3_takeNumber_58 : decode cX3_takeNumber 58 = .ok (.aload_n 0, 1) := by decide +kernel
theorem dX3_takeNumber_59 : decode cX3_takeNumber 59 = .ok (.getfield 41, 3) := by decide +kernel
theorem dX3_takeNumber_62 : decode cX3_takeNumber 62 = .ok (.aload_n 0, 1) := by decide +kernel
theorem dX3_takeNumber_63 : decode cX3_takeNumber 63 = .ok (.getfield 25, 3) := by decide +kernel
theorem dX3_takeNumber_66 : decode cX3_takeNumber 66 = .ok (.invokevirtual 167, 3) := by decide +kernel
theorem dX3_takeNumber_69 : decode cX3_takeNumber 69 = .ok (.iadd, 1) := by decide +kernel
theorem dX3_takeNumber_70 : decode cX3_takeNumber 70 = .ok (.bipush 48, 2) := by decide +kernel
theorem dX3_takeNumber_72 : decode cX3_takeNumber 72 = .ok (.isub, 1) := by decide +kernel
theorem dX3_takeNumber_73 : decode cX3_takeNumber 73 = .ok (.goto 5, 3) := by decide +kernel
theorem dX3_takeNumber_76 : decode cX3_takeNumber 76 = .ok (.iload 4, 2) := by decide +kernel
theorem dX3_takeNumber_78 : decode cX3_takeNumber 78 = .ok (.istore 4, 2) := by decide +kernel
theorem dX3_takeNumber_80 : decode cX3_takeNumber 80 = .ok (.aload_n 0, 1) := by decide +kernel
theorem dX3_takeNumber_81 : decode cX3_takeNumber 81 = .ok (.dup, 1) := by decide +kernel
theorem dX3_takeNumber_82 : decode cX3_takeNumber 82 = .ok (.getfield 25, 3) := by decide +kernel
theorem dX3_takeNumber_85 : decode cX3_takeNumber 85 = .ok (.iconst 1, 1) := by decide +kernel
theorem dX3_takeNumber_86 : decode cX3_takeNumber 86 = .ok (.iadd, 1) := by decide +kernel
theorem dX3_takeNumber_87 : decode cX3_takeNumber 87 = .ok (.putfield 25, 3) := by decide +kernel
theorem dX3_takeNumber_90 : decode cX3_takeNumber 90 = .ok (.goto (-78), 3) := by decide +kernel
theorem dX3_takeNumber_93 : decode cX3_takeNumber 93 = .ok (.aload_n 0, 1) := by decide +kernel
theorem dX3_takeNumber_94 : decode cX3_takeNumber 94 = .ok (.getfield 25, 3) := by decide +kernel
theorem dX3_takeNumber_97 : decode cX3_takeNumber 97 = .ok (.iload_n 3, 1) := by decide +kernel
theorem dX3_takeNumber_98 : decode cX3_takeNumber 98 = .ok (.if_icmp .ne 12, 3) := by decide +kernel
theorem dX3_takeNumber_101 : decode cX3_takeNumber 101 = .ok (.aload_n 0, 1) := by decide +kernel
theorem dX3_takeNumber_102 : decode cX3_takeNumber 102 = .ok (.iconst 1, 1) := by decide +kernel
theorem dX3_takeNumber_103 : decode cX3_takeNumber 103 = .ok (.iload_n 3, 1) := by decide +kernel
theorem dX3_takeNumber_104 : decode cX3_takeNumber 104 = .ok (.invokevirtual 75, 3) := by decide +kernel
theorem dX3_takeNumber_107 : decode cX3_takeNumber 107 = .ok (.goto 31, 3) := by decide +kernel
theorem dX3_takeNumber_110 : decode cX3_takeNumber 110 = .ok (.aload_n 0, 1) := by decide +kernel
theorem dX3_takeNumber_111 : decode cX3_takeNumber 111 = .ok (.getfield 25, 3) := by decide +kernel
theorem dX3_takeNumber_114 : decode cX3_takeNumber 114 = .ok (.iload_n 3, 1) := by decide +kernel
theorem dX3_takeNumber_115 : decode cX3_takeNumber 115 = .ok (.isub, 1) := by decide +kernel
theorem dX3_takeNumber_116 : decode cX3_takeNumber 116 = .ok (.iconst 3, 1) := by decide +kernel
theorem dX3_takeNumber_117 : decode cX3_takeNumber 117 = .ok (.if_icmp .gt 15, 3) := by decide +kernel
theorem dX3_takeNumber_120 : decode cX3_takeNumber 120 = .ok (.iload 4, 2) := by decide +kernel
theorem dX3_takeNumber_122 : decode cX3_takeNumber 122 = .ok (.iload_n 1, 1) := by decide +kernel
theorem dX3_takeNumber_123 : decode cX3_takeNumber 123 = .ok (.if_icmp .lt 9, 3) := by decide +kernel
theorem dX3_takeNumber_126 : decode cX3_takeNumber 126 = .ok (.iload 4, 2) := by decide +kernel
theorem dX3_takeNumber_128 : decode cX3_takeNumber 128 = .ok (.iload_n 2, 1) := by decide +kernel
theorem dX3_takeNumber_129 : decode cX3_takeNumber 129 = .ok (.if_icmp .le 9, 3) := by decide +kernel
theorem dX3_takeNumber_132 : decode cX3_takeNumber 132 = .ok (.aload_n 0, 1) := by decide +kernel
theorem dX3_takeNumber_133 : decode cX3_takeNumber 133 = .ok (.iconst 2, 1) := by decide +kernel
theorem dX3_takeNumber_134 : decode cX3_takeNumber 134 = .ok (.iload_n 3, 1) := by decide +kernel
theorem dX3_takeNumber_135 : decode cX3_takeNumber 135 = .ok (.invokevirtual 75, 3) := by decide +kernel
theorem dX3_takeNumber_138 : decode cX3_takeNumber 138 = .ok (.aload_n 0, 1) := by decide +kernel
theorem dX3_takeNumber_139 : decode cX3_takeNumber 139 = .ok (.invokevirtual 59, 3) := by decide +kernel
theorem dX3_takeNumber_142 : decode cX3_takeNumber 142 = .ok (.ifCond .eq 11, 3) := by decide +kernel
theorem dX3_takeNumber_145 : decode cX3_takeNumber 145 = .ok (.iconst 0, 1) := by decide +kernel
theorem dX3_takeNumber_146 : decode cX3_takeNumber 146 = .ok (.iload_n 1, 1) := by decide +kernel
theorem dX3_takeNumber_147 : decode cX3_takeNumber 147 = .ok (.invokestatic 186, 3) := by decide +kernel
theorem dX3_takeNumber_150 : decode cX3_takeNumber 150 = .ok (.goto 5, 3) := by decide +kernel
theorem dX3_takeNumber_153 : decode cX3_takeNumber 153 = .ok (.iload 4, 2) := by decide +kernel
theorem dX3_takeNumber_155 : decode cX3_takeNumber 155 = .ok (.ireturn, 1) := by decide +kernel
theorem dX3_isLetter_0 : decode cX3_isLetter 0 = .ok (.iload_n 0, 1) := by decide +kernel
theorem dX3_isLetter_1 : decode cX3_isLetter 1 = .ok (.bipush 97, 2) := by decide +kernel
theorem dX3_isLetter_3 : decode cX3_isLetter 3 = .ok (.if_icmp .lt 13, 3) := by decide +kernel
theorem dX3_isLetter_6 : decode cX3_isLetter 6 = .ok (.iload_n 0, 1) := by decide +kernel
theorem dX3_isLetter_7 : decode cX3_isLetter 7 = .ok (.bipush 122, 2) := by decide +kernel
theorem dX3_isLetter_9 : decode cX3_isLetter 9 = .ok (.if_icmp .gt 7, 3) := by decide +kernel
theorem dX3_isLetter_12 : decode cX3_isLetter 12 = .ok (.iconst 1, 1) := by decide +kernel
theorem dX3_isLetter_13 : decode cX3_isLetter 13 = .ok (.goto 4, 3) := by decide +kernel
theorem dX3_isLetter_16 : decode cX3_isLetter 16 = .ok (.iconst 0, 1) := by decide +kernel
theorem dX3_isLetter_17 : decode cX3_isLetter 17 = .ok (.ireturn, 1) := by decide +kernel
theorem dX3_isFigure_0 : decode cX3_isFigure 0 = .ok (.iload_n 0, 1) := by decide +kernel
theorem dX3_isFigure_1 : decode cX3_isFigure 1 = .ok (.bipush 48, 2) := by decide +kernel
theorem dX3_isFigure_3 : decode cX3_isFigure 3 = .ok (.if_icmp .lt 13, 3) := by decide +kernel
theorem dX3_isFigure_6 : decode cX3_isFigure 6 = .ok (.iload_n 0, 1) := by decide +kernel
theorem dX3_isFigure_7 : decode cX3_isFigure 7 = .ok (.bipush 57, 2) := by decide +kernel
theorem dX3_isFigure_9 : decode cX3_isFigure 9 = .ok (.if_icmp .gt 7, 3) := by decide +kernel
theorem dX3_isFigure_12 : decode cX3_isFigure 12 = .ok (.iconst 1, 1) := by decide +kernel
theorem dX3_isFigure_13 : decode cX3_isFigure 13 = .ok (.goto 4, 3) := by decide +kernel
theorem dX3_isFigure_16 : decode cX3_isFigure 16 = .ok (.iconst 0, 1) := by decide +kernel
theorem dX3_isFigure_17 : decode cX3_isFigure 17 = .ok (.ireturn, 1) := by decide +kernel
theorem dX4_init_0 : decode cX4_init 0 = .ok (.aload_n 0, 1) := by decide +kernel
theorem dX4_init_1 : decode cX4_init 1 = .ok (.invokespecial 3, 3) := by decide +kernel
theorem dX4_init_4 : decode cX4_init 4 = .ok (.aload_n 0, 1) := by decide +kernel
theorem dX4_init_5 : decode cX4_init 5 = .ok (.iconst 4, 1) := by decide +kernel
theorem dX4_init_6 : decode cX4_init 6 = .ok (.newarray .int, 2) := by decide +kernel
theorem dX4_init_8 : decode cX4_init 8 = .ok (.putfield 9, 3) := by decide +kernel
theorem dX4_init_11 : decode cX4_init 11 = .ok (.aload_n 0, 1) := by decide +kernel
theorem dX4_init_12 : decode cX4_init 12 = .ok (.lconst 0, 1) := by decide +kernel
theorem dX4_init_13 : decode cX4_init 13 = .ok (.putfield 15, 3) := by decide +kernel
theorem dX4_init_16 : decode cX4_init 16 = .ok (.aload_n 0, 1) := by decide +kernel
theorem dX4_init_17 : decode cX4_init 17 = .ok (.iconst 4, 1) := by decide +kernel
theorem dX4_init_18 : decode cX4_init 18 = .ok (.newarray .long, 2) := by decide +kernel
theorem dX4_init_20 : decode cX4_init 20 = .ok (.putfield 19, 3) := by decide +kernel
theorem dX4_init_23 : decode cX4_init 23 = .ok (.aload_n 0, 1) := by decide +kernel
theorem dX4_init_24 : decode cX4_init 24 = .ok (.iconst 4, 1) := by decide +kernel
theorem dX4_init_25 : decode cX4_init 25 = .ok (.newarray .long, 2) := by decide +kernel
theorem dX4_init_27 : decode cX4_init 27 = .ok (.putfield 23, 3) := by decide +kernel
theorem dX4_init_30 : decode cX4_init 30 = .ok (.aload_n 0, 1) := by decide +kernel
theorem dX4_init_31 : decode cX4_init 31 = .ok (.iconst 4, 1) := by decide +kernel
theorem dX4_init_32 : decode cX4_init 32 = .ok (.newarray .int, 2) := by decide +kernel
theorem dX4_init_34 : decode cX4_init 34 = .ok (.putfield 26, 3) := by decide +kernel
theorem dX4_init_37 : decode cX4_init 37 = .ok (.aload_n 0, 1) := by decide +kernel
theorem dX4_init_38 : decode cX4_init 38 = .ok (.iconst 4, 1) := by decide +kernel
theorem dX4_init_39 : decode cX4_init 39 = .ok (.newarray .int, 2) := by decide +kernel
theorem dX4_init_41 : decode cX4_init 41 = .ok (.putfield 29, 3) := by decide +kernel
theorem dX4_init_44 : decode cX4_init 44 = .ok (.aload_n 0, 1) := by decide +kernel
theorem dX4_init_45 : decode cX4_init 45 = .ok (.iconst (-1), 1) := by decide +kernel
theorem dX4_init_46 : decode cX4_init 46 = .ok (.putfield 32, 3) := by decide +kernel
theorem dX4_init_49 : decode cX4_init 49 = .ok (.aload_n 0, 1) := by decide +kernel
theorem dX4_init_50 : decode cX4_init 50 = .ok (.iconst (-1), 1) := by decide +kernel
theorem dX4_init_51 : decode cX4_init 51 = .ok (.putfield 36, 3) := by decide +kernel
theorem dX4_init_54 : decode cX4_init 54 = .ok (.aload_n 0, 1) := by decide +kernel
theorem dX4_init_55 : decode cX4_init 55 = .ok (.iconst (-1), 1) := by decide +kernel
theorem dX4_init_56 : decode cX4_init 56 = .ok (.putfield 39, 3) := by decide +kernel
theorem dX4_init_59 : decode cX4_init 59 = .ok (.aload_n 0, 1) := by decide +kernel
theorem dX4_init_60 : decode cX4_init 60 = .ok (.aload_n 1, 1) := by decide +kernel
theorem dX4_init_61 : decode cX4_init 61 = .ok (.putfield 42, 3) := by decide +kernel
theorem dX4_init_64 : decode cX4_init 64 = .ok (.aload_n 0, 1) := by decide +kernel
theorem dX4_init_65 : decode cX4_init 65 = .ok (.aload_n 2, 1) := by decide +kernel
theorem dX4_init_66 : decode cX4_init 66 = .ok (.putfield 46, 3) := by decide +kernel
theorem dX4_init_69 : decode cX4_init 69 = .ok (.return_, 1) := by decide +kernel
theorem dX4_takeAsItIs_0 : decode cX4_takeAsItIs 0 = .ok (.aload_n 0, 1) := by decide +kernel
theorem dX4_takeAsItIs_1 : decode cX4_takeAsItIs 1 = .ok (.getfield 46, 3) := by decide +kernel
theorem dX4_takeAsItIs_4 : decode cX4_takeAsItIs 4 = .ok (.getfield 50, 3) := by decide +kernel
theorem dX4_takeAsItIs_7 : decode cX4_takeAsItIs 7 = .ok (.iconst 0, 1) := by decide +kernel
theorem dX4_takeAsItIs_8 : decode cX4_takeAsItIs 8 = .ok (.aload_n 0, 1) := by decide +kernel
theorem dX4_takeAsItIs_9 : decode cX4_takeAsItIs 9 = .ok (.getfield 9, 3) := by decide +kernel
theorem dX4_takeAsItIs_12 : decode cX4_takeAsItIs 12 = .ok (.iconst 0, 1) := by decide +kernel
theorem dX4_takeAsItIs_13 : decode cX4_takeAsItIs 13 = .ok (.iconst 4, 1) := by decide +kernel
