theorem dX4_takeAsItIs_14 : decode cX4_takeAsItIs 14 = .ok (.invokestatic 55, 3) := by decide +kernel
theorem dX4_takeAsItIs_17 : decode cX4_takeAsItIs 17 = .ok (.aload_n 0, 1) := by decide +kernel
theorem dX4_takeAsItIs_18 : decode cX4_takeAsItIs 18 = .ok (.aload_n 0, 1) := by decide +kernel
theorem dX4_takeAsItIs_19 : decode cX4_takeAsItIs 19 = .ok (.getfield 46, 3) := by decide +kernel
theorem dX4_takeAsItIs_22 : decode cX4_takeAsItIs 22 = .ok (.getfield 61, 3) := by decide +kernel
theorem dX4_takeAsItIs_25 : decode cX4_takeAsItIs 25 = .ok (.putfield 15, 3) := by decide +kernel
theorem dX4_takeAsItIs_28 : decode cX4_takeAsItIs 28 = .ok (.return_, 1) := by decide +kernel
theorem dX4_anHourOn_0 : decode cX4_anHourOn 0 = .ok (.aload_n 0, 1) := by decide +kernel
theorem dX4_anHourOn_1 : decode cX4_anHourOn 1 = .ok (.getfield 42, 3) := by decide +kernel
theorem dX4_anHourOn_4 : decode cX4_anHourOn 4 = .ok (.lload_n 2, 1) := by decide +kernel
theorem dX4_anHourOn_5 : decode cX4_anHourOn 5 = .ok (.aload_n 0, 1) := by decide +kernel
theorem dX4_anHourOn_6 : decode cX4_anHourOn 6 = .ok (.getfield 42, 3) := by decide +kernel
theorem dX4_anHourOn_9 : decode cX4_anHourOn 9 = .ok (.aload_n 0, 1) := by decide +kernel
theorem dX4_anHourOn_10 : decode cX4_anHourOn 10 = .ok (.getfield 9, 3) := by decide +kernel
theorem dX4_anHourOn_13 : decode cX4_anHourOn 13 = .ok (.iload_n 1, 1) := by decide +kernel
theorem dX4_anHourOn_14 : decode cX4_anHourOn 14 = .ok (.iaload, 1) := by decide +kernel
theorem dX4_anHourOn_15 : decode cX4_anHourOn 15 = .ok (.aload_n 0, 1) := by decide +kernel
theorem dX4_anHourOn_16 : decode cX4_anHourOn 16 = .ok (.getfield 42, 3) := by decide +kernel
theorem dX4_anHourOn_19 : decode cX4_anHourOn 19 = .ok (.aload_n 0, 1) := by decide +kernel
theorem dX4_anHourOn_20 : decode cX4_anHourOn 20 = .ok (.getfield 46, 3) := by decide +kernel
theorem dX4_anHourOn_23 : decode cX4_anHourOn 23 = .ok (.getfield 62, 3) := by decide +kernel
theorem dX4_anHourOn_26 : decode cX4_anHourOn 26 = .ok (.iload 4, 2) := by decide +kernel
theorem dX4_anHourOn_28 : decode cX4_anHourOn 28 = .ok (.iadd, 1) := by decide +kernel
theorem dX4_anHourOn_29 : decode cX4_anHourOn 29 = .ok (.invokevirtual 65, 3) := by decide +kernel
theorem dX4_anHourOn_32 : decode cX4_anHourOn 32 = .ok (.invokevirtual 71, 3) := by decide +kernel
theorem dX4_anHourOn_35 : decode cX4_anHourOn 35 = .ok (.aload_n 0, 1) := by decide +kernel
theorem dX4_anHourOn_36 : decode cX4_anHourOn 36 = .ok (.getfield 15, 3) := by decide +kernel
theorem dX4_anHourOn_39 : decode cX4_anHourOn 39 = .ok (.lor, 1) := by decide +kernel
theorem dX4_anHourOn_40 : decode cX4_anHourOn 40 = .ok (.invokevirtual 75, 3) := by decide +kernel
theorem dX4_anHourOn_43 : decode cX4_anHourOn 43 = .ok (.lreturn, 1) := by decide +kernel
theorem dX4_hoursToBe_0 : decode cX4_hoursToBe 0 = .ok (.lconst 1, 1) := by decide +kernel
theorem dX4_hoursToBe_1 : decode cX4_hoursToBe 1 = .ok (.aload_n 0, 1) := by decide +kernel
theorem dX4_hoursToBe_2 : decode cX4_hoursToBe 2 = .ok (.getfield 46, 3) := by decide +kernel
theorem dX4_hoursToBe_5 : decode cX4_hoursToBe 5 = .ok (.getfield 79, 3) := by decide +kernel
theorem dX4_hoursToBe_8 : decode cX4_hoursToBe 8 = .ok (.iload_n 1, 1) := by decide +kernel
theorem dX4_hoursToBe_9 : decode cX4_hoursToBe 9 = .ok (.iaload, 1) := by decide +kernel
theorem dX4_hoursToBe_10 : decode cX4_hoursToBe 10 = .ok (.lshl, 1) := by decide +kernel
theorem dX4_hoursToBe_11 : decode cX4_hoursToBe 11 = .ok (.lstore_n 3, 1) := by decide +kernel
theorem dX4_hoursToBe_12 : decode cX4_hoursToBe 12 = .ok (.iconst 0, 1) := by decide +kernel
theorem dX4_hoursToBe_13 : decode cX4_hoursToBe 13 = .ok (.istore 5, 2) := by decide +kernel
theorem dX4_hoursToBe_15 : decode cX4_hoursToBe 15 = .ok (.iload 5, 2) := by decide +kernel
theorem dX4_hoursToBe_17 : decode cX4_hoursToBe 17 = .ok (.bipush 40, 2) := by decide +kernel
theorem dX4_hoursToBe_19 : decode cX4_hoursToBe 19 = .ok (.if_icmp .gt 31, 3) := by decide +kernel
theorem dX4_hoursToBe_22 : decode cX4_hoursToBe 22 = .ok (.lload_n 3, 1) := by decide +kernel
theorem dX4_hoursToBe_23 : decode cX4_hoursToBe 23 = .ok (.iload_n 2, 1) := by decide +kernel
theorem dX4_hoursToBe_24 : decode cX4_hoursToBe 24 = .ok (.invokestatic 82, 3) := by decide +kernel
theorem dX4_hoursToBe_27 : decode cX4_hoursToBe 27 = .ok (.ifCond .eq 6, 3) := by decide +kernel
theorem dX4_hoursToBe_30 : decode cX4_hoursToBe 30 = .ok (.iload 5, 2) := by decide +kernel
theorem dX4_hoursToBe_32 : decode cX4_hoursToBe 32 = .ok (.ireturn, 1) := by decide +kernel
theorem dX4_hoursToBe_33 : decode cX4_hoursToBe 33 = .ok (.aload_n 0, 1) := by decide +kernel
theorem dX4_hoursToBe_34 : decode cX4_hoursToBe 34 = .ok (.iload_n 1, 1) := by decide +kernel
theorem dX4_hoursToBe_35 : decode cX4_hoursToBe 35 = .ok (.lload_n 3, 1) := by decide +kernel
theorem dX4_hoursToBe_36 : decode cX4_hoursToBe 36 = .ok (.iload 5, 2) := by decide +kernel
theorem dX4_hoursToBe_38 : decode cX4_hoursToBe 38 = .ok (.iconst 1, 1) := by decide +kernel
theorem dX4_hoursToBe_39 : decode cX4_hoursToBe 39 = .ok (.iadd, 1) := by decide +kernel
theorem dX4_hoursToBe_40 : decode cX4_hoursToBe 40 = .ok (.invokevirtual 86, 3) := by decide +kernel
theorem dX4_hoursToBe_43 : decode cX4_hoursToBe 43 = .ok (.lstore_n 3, 1) := by decide +kernel
theorem dX4_hoursToBe_44 : decode cX4_hoursToBe 44 = .ok (.iinc 5 1, 3) := by decide +kernel
theorem dX4_hoursToBe_47 : decode cX4_hoursToBe 47 = .ok (.goto (-32), 3) := by decide +kernel
theorem dX4_hoursToBe_50 : decode cX4_hoursToBe 50 = .ok (.iconst (-1), 1) := by decide +kernel
theorem dX4_hoursToBe_51 : decode cX4_hoursToBe 51 = .ok (.ireturn, 1) := by decide +kernel
theorem dX4_cellsOf_0 : decode cX4_cellsOf 0 = .ok (.lconst 1, 1) := by decide +kernel
theorem dX4_cellsOf_1 : decode cX4_cellsOf 1 = .ok (.aload_n 0, 1) := by decide +kernel
theorem dX4_cellsOf_2 : decode cX4_cellsOf 2 = .ok (.getfield 46, 3) := by decide +kernel
theorem dX4_cellsOf_5 : decode cX4_cellsOf 5 = .ok (.getfield 79, 3) := by decide +kernel
theorem dX4_cellsOf_8 : decode cX4_cellsOf 8 = .ok (.iload_n 1, 1) := by decide +kernel
theorem dX4_cellsOf_9 : decode cX4_cellsOf 9 = .ok (.iaload, 1) := by decide +kernel
theorem dX4_cellsOf_10 : decode cX4_cellsOf 10 = .ok (.lshl, 1) := by decide +kernel
theorem dX4_cellsOf_11 : decode cX4_cellsOf 11 = .ok (.lstore_n 2, 1) := by decide +kernel
theorem dX4_cellsOf_12 : decode cX4_cellsOf 12 = .ok (.iconst 1, 1) := by decide +kernel
theorem dX4_cellsOf_13 : decode cX4_cellsOf 13 = .ok (.istore 4, 2) := by decide +kernel
theorem dX4_cellsOf_15 : decode cX4_cellsOf 15 = .ok (.iload 4, 2) := by decide +kernel
theorem dX4_cellsOf_17 : decode cX4_cellsOf 17 = .ok (.bipush 40, 2) := by decide +kernel
theorem dX4_cellsOf_19 : decode cX4_cellsOf 19 = .ok (.if_icmp .gt 18, 3) := by decide +kernel
theorem dX4_cellsOf_22 : decode cX4_cellsOf 22 = .ok (.aload_n 0, 1) := by decide +kernel
theorem dX4_cellsOf_23 : decode cX4_cellsOf 23 = .ok (.iload_n 1, 1) := by decide +kernel
theorem dX4_cellsOf_24 : decode cX4_cellsOf 24 = .ok (.lload_n 2, 1) := by decide +kernel
theorem dX4_cellsOf_25 : decode cX4_cellsOf 25 = .ok (.iload 4, 2) := by decide +kernel
theorem dX4_cellsOf_27 : decode cX4_cellsOf 27 = .ok (.invokevirtual 86, 3) := by decide +kernel
theorem dX4_cellsOf_30 : decode cX4_cellsOf 30 = .ok (.lstore_n 2, 1) := by decide +kernel
theorem dX4_cellsOf_31 : decode cX4_cellsOf 31 = .ok (.iinc 4 1, 3) := by decide +kernel
theorem dX4_cellsOf_34 : decode cX4_cellsOf 34 = .ok (.goto (-19), 3) := by decide +kernel
theorem dX4_cellsOf_37 : decode cX4_cellsOf 37 = .ok (.lload_n 2, 1) := by decide +kernel
theorem dX4_cellsOf_38 : decode cX4_cellsOf 38 = .ok (.lreturn, 1) := by decide +kernel
theorem dX4_cellsOfOthers_0 : decode cX4_cellsOfOthers 0 = .ok (.lconst 0, 1) := by decide +kernel
theorem dX4_cellsOfOthers_1 : decode cX4_cellsOfOthers 1 = .ok (.lstore_n 2, 1) := by decide +kernel
theorem dX4_cellsOfOthers_2 : decode cX4_cellsOfOthers 2 = .ok (.iconst 0, 1) := by decide +kernel
theorem dX4_cellsOfOthers_3 : decode cX4_cellsOfOthers 3 = .ok (.istore 4, 2) := by decide +kernel
theorem dX4_cellsOfOthers_5 : decode cX4_cellsOfOthers 5 = .ok (.iload 4, 2) := by decide +kernel
theorem dX4_cellsOfOthers_7 : decode cX4_cellsOfOthers 7 = .ok (.aload_n 0, 1) := by decide +kernel
theorem dX4_cellsOfOthers_8 : decode cX4_cellsOfOthers 8 = .ok (.getfield 42, 3) := by decide +kernel
theorem dX4_cellsOfOthers_11 : decode cX4_cellsOfOthers 11 = .ok (.getfield 90, 3) := by decide +kernel
theorem dX4_cellsOfOthers_14 : decode cX4_cellsOfOthers 14 = .ok (.if_icmp .ge 28, 3) := by decide +kernel
theorem dX4_cellsOfOthers_17 : decode cX4_cellsOfOthers 17 = .ok (.lload_n 2, 1) := by decide +kernel
theorem dX4_cellsOfOthers_18 : decode cX4_cellsOfOthers 18 = .ok (.iload 4, 2) := by decide +kernel
theorem dX4_cellsOfOthers_20 : decode cX4_cellsOfOthers 20 = .ok (.iload_n 1, 1) := by decide +kernel
theorem dX4_cellsOfOthers_21 : decode cX4_cellsOfOthers 21 = .ok (.if_icmp .ne 7, 3) := by decide +kernel
theorem dX4_cellsOfOthers_24 : decode cX4_cellsOfOthers 24 = .ok (.lconst 0, 1) := by decide +kernel
theorem dX4_cellsOfOthers_25 : decode cX4_cellsOfOthers 25 = .ok (.goto 9, 3) := by decide +kernel
theorem dX4_cellsOfOthers_28 : decode cX4_cellsOfOthers 28 = .ok (.aload_n 0, 1) := by decide +kernel
theorem dX4_cellsOfOthers_29 : decode cX4_cellsOfOthers 29 = .ok (.iload 4, 2) := by decide +kernel
theorem dX4_cellsOfOthers_31 : decode cX4_cellsOfOthers 31 = .ok (.invokevirtual 93, 3) := by decide +kernel
theorem dX4_cellsOfOthers_34 : decode cX4_cellsOfOthers 34 = .ok (.lor, 1) := by decide +kernel
theorem dX4_cellsOfOthers_35 : decode cX4_cellsOfOthers 35 = .ok (.lstore_n 2, 1) := by decide +kernel
theorem dX4_cellsOfOthers_36 : decode cX4_cellsOfOthers 36 = .ok (.iinc 4 1, 3) := by decide +kernel
theorem dX4_cellsOfOthers_39 : decode cX4_cellsOfOthers 39 = .ok (.goto (-34), 3) := by decide +kernel
theorem dX4_cellsOfOthers_42 : decode cX4_cellsOfOthers 42 = .ok (.lload_n 2, 1) := by decide +kernel
theorem dX4_cellsOfOthers_43 : decode cX4_cellsOfOthers 43 = .ok (.lreturn, 1) := by decide +kernel
theorem dX4_beginWith_0 : decode cX4_beginWith 0 = .ok (.iconst 0, 1) := by decide +kernel
theorem dX4_beginWith_1 : decode cX4_beginWith 1 = .ok (.istore_n 2, 1) := by decide +kernel
theorem dX4_beginWith_2 : decode cX4_beginWith 2 = .ok (.iload_n 2, 1) := by decide +kernel
theorem dX4_beginWith_3 : decode cX4_beginWith 3 = .ok (.aload_n 0, 1) := by decide +kernel
theorem dX4_beginWith_4 : decode cX4_beginWith 4 = .ok (.getfield 42, 3) := by decide +kernel
theorem dX4_beginWith_7 : decode cX4_beginWith 7 = .ok (.getfield 90, 3) := by decide +kernel
theorem dX4_beginWith_10 : decode cX4_beginWith 10 = .ok (.if_icmp .ge 59, 3) := by decide +kernel
theorem dX4_beginWith_13 : decode cX4_beginWith 13 = .ok (.aload_n 0, 1) := by decide +kernel
theorem dX4_beginWith_14 : decode cX4_beginWith 14 = .ok (.getfield 19, 3) := by decide +kernel
theorem dX4_beginWith_17 : decode cX4_beginWith 17 = .ok (.iload_n 2, 1) := by decide +kernel
theorem dX4_beginWith_18 : decode cX4_beginWith 18 = .ok (.lconst 1, 1) := by decide +kernel
theorem dX4_beginWith_19 : decode cX4_beginWith 19 = .ok (.aload_n 0, 1) := by decide +kernel
theorem dX4_beginWith_20 : decode cX4_beginWith 20 = .ok (.getfield 46, 3) := by decide +kernel
theorem dX4_beginWith_23 : decode cX4_beginWith 23 = .ok (.getfield 79, 3) := by decide +kernel
theorem dX4_beginWith_26 : decode cX4_beginWith 26 = .ok (.iload_n 2, 1) := by decide +kernel
theorem dX4_beginWith_27 : decode cX4_beginWith 27 = .ok (.iaload, 1) := by decide +kernel
theorem dX4_beginWith_28 : decode cX4_beginWith 28 = .ok (.lshl, 1) := by decide +kernel
theorem dX4_beginWith_29 : decode cX4_beginWith 29 = .ok (.lastore, 1) := by decide +kernel
theorem dX4_beginWith_30 : decode cX4_beginWith 30 = .ok (.aload_n 0, 1) := by decide +kernel
theorem dX4_beginWith_31 : decode cX4_beginWith 31 = .ok (.getfield 23, 3) := by decide +kernel
theorem dX4_beginWith_34 : decode cX4_beginWith 34 = .ok (.iload_n 2, 1) := by decide +kernel
theorem dX4_beginWith_35 : decode cX4_beginWith 35 = .ok (.aload_n 0, 1) := by decide +kernel
theorem dX4_beginWith_36 : decode cX4_beginWith 36 = .ok (.getfield 46, 3) := by decide +kernel
theorem dX4_beginWith_39 : decode cX4_beginWith 39 = .ok (.getfield 97, 3) := by decide +kernel
theorem dX4_beginWith_42 : decode cX4_beginWith 42 = .ok (.iload_n 2, 1) := by decide +kernel
theorem dX4_beginWith_43 : decode cX4_beginWith 43 = .ok (.iaload, 1) := by decide +kernel
theorem dX4_beginWith_44 : decode cX4_beginWith 44 = .ok (.i2l, 1) := by decide +kernel
theorem dX4_beginWith_45 : decode cX4_beginWith 45 = .ok (.iload_n 1, 1) := by decide +kernel
theorem dX4_beginWith_46 : decode cX4_beginWith 46 = .ok (.invokestatic 82, 3) := by decide +kernel
theorem dX4_beginWith_49 : decode cX4_beginWith 49 = .ok (.ifCond .eq 12, 3) := by decide +kernel
theorem dX4_beginWith_52 : decode cX4_beginWith 52 = .ok (.aload_n 0, 1) := by decide +kernel
theorem dX4_beginWith_53 : decode cX4_beginWith 53 = .ok (.getfield 19, 3) := by decide +kernel
theorem dX4_beginWith_56 : decode cX4_beginWith 56 = .ok (.iload_n 2, 1) := by decide +kernel
theorem dX4_beginWith_57 : decode cX4_beginWith 57 = .ok (.laload, 1) := by decide +kernel
theorem dX4_beginWith_58 : decode cX4_beginWith 58 = .ok (.goto 4, 3) := by decide +kernel
theorem dX4_beginWith_61 : decode cX4_beginWith 61 = .ok (.lconst 0, 1) := by decide +kernel
theorem dX4_beginWith_62 : decode cX4_beginWith 62 = .ok (.lastore, 1) := by decide +kernel
theorem dX4_beginWith_63 : decode cX4_beginWith 63 = .ok (.iinc 2 1, 3) := by decide +kernel
theorem dX4_beginWith_66 : decode cX4_beginWith 66 = .ok (.goto (-64), 3) := by decide +kernel
theorem dX4_beginWith_69 : decode cX4_beginWith 69 = .ok (.aload_n 0, 1) := by decide +kernel
theorem dX4_beginWith_70 : decode cX4_beginWith 70 = .ok (.iload_n 1, 1) := by decide +kernel
theorem dX4_beginWith_71 : decode cX4_beginWith 71 = .ok (.invokevirtual 100, 3) := by decide +kernel
theorem dX4_beginWith_74 : decode cX4_beginWith 74 = .ok (.return_, 1) := by decide +kernel
theorem dX4_goOnWith_0 : decode cX4_goOnWith 0 = .ok (.aload_n 0, 1) := by decide +kernel
theorem dX4_goOnWith_1 : decode cX4_goOnWith 1 = .ok (.getfield 42, 3) := by decide +kernel
theorem dX4_goOnWith_4 : decode cX4_goOnWith 4 = .ok (.aload_n 0, 1) := by decide +kernel
theorem dX4_goOnWith_5 : decode cX4_goOnWith 5 = .ok (.getfield 46, 3) := by decide +kernel
theorem dX4_goOnWith_8 : decode cX4_goOnWith 8 = .ok (.getfield 62, 3) := by decide +kernel
theorem dX4_goOnWith_11 : decode cX4_goOnWith 11 = .ok (.iload_n 2, 1) := by decide +kernel
theorem dX4_goOnWith_12 : decode cX4_goOnWith 12 = .ok (.iadd, 1) := by decide +kernel
theorem dX4_goOnWith_13 : decode cX4_goOnWith 13 = .ok (.invokevirtual 65, 3) := by decide +kernel
theorem dX4_goOnWith_16 : decode cX4_goOnWith 16 = .ok (.istore_n 3, 1) := by decide +kernel
theorem dX4_goOnWith_17 : decode cX4_goOnWith 17 = .ok (.iconst 0, 1) := by decide +kernel
theorem dX4_goOnWith_18 : decode cX4_goOnWith 18 = .ok (.istore 4, 2) := by decide +kernel
theorem dX4_goOnWith_20 : decode cX4_goOnWith 20 = .ok (.iload 4, 2) := by decide +kernel
theorem dX4_goOnWith_22 : decode cX4_goOnWith 22 = .ok (.aload_n 0, 1) := by decide +kernel
theorem dX4_goOnWith_23 : decode cX4_goOnWith 23 = .ok (.getfield 42, 3) := by decide +kernel
theorem dX4_goOnWith_26 : decode cX4_goOnWith 26 = .ok (.getfield 90, 3) := by decide +kernel
theorem dX4_goOnWith_29 : decode cX4_goOnWith 29 = .ok (.if_icmp .ge 77, 3) := by decide +kernel
theorem dX4_goOnWith_32 : decode cX4_goOnWith 32 = .ok (.aload_n 0, 1) := by decide +kernel
theorem dX4_goOnWith_33 : decode cX4_goOnWith 33 = .ok (.getfield 42, 3) := by decide +kernel
theorem dX4_goOnWith_36 : decode cX4_goOnWith 36 = .ok (.aload_n 0, 1) := by decide +kernel
theorem dX4_goOnWith_37 : decode cX4_goOnWith 37 = .ok (.getfield 9, 3) := by decide +kernel
theorem dX4_goOnWith_40 : decode cX4_goOnWith 40 = .ok (.iload 4, 2) := by decide +kernel
theorem dX4_goOnWith_42 : decode cX4_goOnWith 42 = .ok (.iaload, 1) := by decide +kernel
theorem dX4_goOnWith_43 : decode cX4_goOnWith 43 = .ok (.iload_n 3, 1) := by decide +kernel
theorem dX4_goOnWith_44 : decode cX4_goOnWith 44 = .ok (.invokevirtual 71, 3) := by decide +kernel
theorem dX4_goOnWith_47 : decode cX4_goOnWith 47 = .ok (.aload_n 0, 1) := by decide +kernel
theorem dX4_goOnWith_48 : decode cX4_goOnWith 48 = .ok (.getfield 15, 3) := by decide +kernel
theorem dX4_goOnWith_51 : decode cX4_goOnWith 51 = .ok (.lor, 1) := by decide +kernel
theorem dX4_goOnWith_52 : decode cX4_goOnWith 52 = .ok (.lstore 5, 2) := by decide +kernel
theorem dX4_goOnWith_54 : decode cX4_goOnWith 54 = .ok (.aload_n 0, 1) := by decide +kernel
theorem dX4_goOnWith_55 : decode cX4_goOnWith 55 = .ok (.getfield 19, 3) := by decide +kernel
theorem dX4_goOnWith_58 : decode cX4_goOnWith 58 = .ok (.iload 4, 2) := by decide +kernel
theorem dX4_goOnWith_60 : decode cX4_goOnWith 60 = .ok (.aload_n 0, 1) := by decide +kernel
theorem dX4_goOnWith_61 : decode cX4_goOnWith 61 = .ok (.getfield 42, 3) := by decide +kernel
theorem dX4_goOnWith_64 : decode cX4_goOnWith 64 = .ok (.aload_n 0, 1) := by decide +kernel
theorem dX4_goOnWith_65 : decode cX4_goOnWith 65 = .ok (.getfield 19, 3) := by decide +kernel
theorem dX4_goOnWith_68 : decode cX4_goOnWith 68 = .ok (.iload 4, 2) := by decide +kernel
theorem dX4_goOnWith_70 : decode cX4_goOnWith 70 = .ok (.laload, 1) := by decide +kernel
theorem dX4_goOnWith_71 : decode cX4_goOnWith 71 = .ok (.lload 5, 2) := by decide +kernel
theorem dX4_goOnWith_73 : decode cX4_goOnWith 73 = .ok (.invokevirtual 75, 3) := by decide +kernel
theorem dX4_goOnWith_76 : decode cX4_goOnWith 76 = .ok (.lastore, 1) := by decide +kernel
theorem dX4_goOnWith_77 : decode cX4_goOnWith 77 = .ok (.aload_n 0, 1) := by decide +kernel
theorem dX4_goOnWith_78 : decode cX4_goOnWith 78 = .ok (.getfield 23, 3) := by decide +kernel
theorem dX4_goOnWith_81 : decode cX4_goOnWith 81 = .ok (.iload 4, 2) := by decide +kernel
theorem dX4_goOnWith_83 : decode cX4_goOnWith 83 = .ok (.aload_n 0, 1) := by decide +kernel
theorem dX4_goOnWith_84 : decode cX4_goOnWith 84 = .ok (.getfield 42, 3) := by decide +kernel
theorem dX4_goOnWith_87 : decode cX4_goOnWith 87 = .ok (.aload_n 0, 1) := by decide +kernel
theorem dX4_goOnWith_88 : decode cX4_goOnWith 88 = .ok (.getfield 23, 3) := by decide +kernel
theorem dX4_goOnWith_91 : decode cX4_goOnWith 91 = .ok (.iload 4, 2) := by decide +kernel
theorem dX4_goOnWith_93 : decode cX4_goOnWith 93 = .ok (.laload, 1) := by decide +kernel
theorem dX4_goOnWith_94 : decode cX4_goOnWith 94 = .ok (.lload 5, 2) := by decide +kernel
theorem dX4_goOnWith_96 : decode cX4_goOnWith 96 = .ok (.invokevirtual 75, 3) := by decide +kernel
theorem dX4_goOnWith_99 : decode cX4_goOnWith 99 = .ok (.lastore, 1) := by decide +kernel
theorem dX4_goOnWith_100 : decode cX4_goOnWith 100 = .ok (.iinc 4 1, 3) := by decide +kernel
theorem dX4_goOnWith_103 : decode cX4_goOnWith 103 = .ok (.goto (-83), 3) := by decide +kernel
theorem dX4_goOnWith_106 : decode cX4_goOnWith 106 = .ok (.aload_n 0, 1) := by decide +kernel
theorem dX4_goOnWith_107 : decode cX4_goOnWith 107 = .ok (.iload_n 1, 1) := by decide +kernel
theorem dX4_goOnWith_108 : decode cX4_goOnWith 108 = .ok (.invokevirtual 100, 3) := by decide +kernel
theorem dX4_goOnWith_111 : decode cX4_goOnWith 111 = .ok (.return_, 1) := by decide +kernel
theorem dX4_meet_0 : decode cX4_meet 0 = .ok (.lconst 1, 1) := by decide +kernel
theorem dX4_meet_1 : decode cX4_meet 1 = .ok (.aload_n 0, 1) := by decide +kernel
theorem dX4_meet_2 : decode cX4_meet 2 = .ok (.getfield 42, 3) := by decide +kernel
theorem dX4_meet_5 : decode cX4_meet 5 = .ok (.getfield 104, 3) := by decide +kernel
theorem dX4_meet_8 : decode cX4_meet 8 = .ok (.iload_n 1, 1) := by decide +kernel
theorem dX4_meet_9 : decode cX4_meet 9 = .ok (.iaload, 1) := by decide +kernel
theorem dX4_meet_10 : decode cX4_meet 10 = .ok (.lshl, 1) := by decide +kernel
theorem dX4_meet_11 : decode cX4_meet 11 = .ok (.lstore_n 2, 1) := by decide +kernel
theorem dX4_meet_12 : decode cX4_meet 12 = .ok (.iconst 0, 1) := by decide +kernel
theorem dX4_meet_13 : decode cX4_meet 13 = .ok (.istore 4, 2) := by decide +kernel
theorem dX4_meet_15 : decode cX4_meet 15 = .ok (.iload 4, 2) := by decide +kernel
theorem dX4_meet_17 : decode cX4_meet 17 = .ok (.aload_n 0, 1) := by decide +kernel
theorem dX4_meet_18 : decode cX4_meet 18 = .ok (.getfield 42, 3) := by decide +kernel
theorem dX4_meet_21 : decode cX4_meet 21 = .ok (.getfield 90, 3) := by decide +kernel
theorem dX4_meet_24 : decode cX4_meet 24 = .ok (.if_icmp .ge 19, 3) := by decide +kernel
theorem dX4_meet_27 : decode cX4_meet 27 = .ok (.lload_n 2, 1) := by decide +kernel
theorem dX4_meet_28 : decode cX4_meet 28 = .ok (.aload_n 0, 1) := by decide +kernel
theorem dX4_meet_29 : decode cX4_meet 29 = .ok (.getfield 23, 3) := by decide +kernel
theorem dX4_meet_32 : decode cX4_meet 32 = .ok (.iload 4, 2) := by decide +kernel
theorem dX4_meet_34 : decode cX4_meet 34 = .ok (.laload, 1) := by decide +kernel
theorem dX4_meet_35 : decode cX4_meet 35 = .ok (.lor, 1) := by decide +kernel
theorem dX4_meet_36 : decode cX4_meet 36 = .ok (.lstore_n 2, 1) := by decide +kernel
theorem dX4_meet_37 : decode cX4_meet 37 = .ok (.iinc 4 1, 3) := by decide +kernel
theorem dX4_meet_40 : decode cX4_meet 40 = .ok (.goto (-25), 3) := by decide +kernel
theorem dX4_meet_43 : decode cX4_meet 43 = .ok (.iconst 0, 1) := by decide +kernel
theorem dX4_meet_44 : decode cX4_meet 44 = .ok (.istore 4, 2) := by decide +kernel
theorem dX4_meet_46 : decode cX4_meet 46 = .ok (.iload 4, 2) := by decide +kernel
theorem dX4_meet_48 : decode cX4_meet 48 = .ok (.aload_n 0, 1) := by decide +kernel
theorem dX4_meet_49 : decode cX4_meet 49 = .ok (.getfield 42, 3) := by decide +kernel
theorem dX4_meet_52 : decode cX4_meet 52 = .ok (.getfield 90, 3) := by decide +kernel
theorem dX4_meet_55 : decode cX4_meet 55 = .ok (.if_icmp .ge 28, 3) := by decide +kernel
theorem dX4_meet_58 : decode cX4_meet 58 = .ok (.aload_n 0, 1) := by decide +kernel
theorem dX4_meet_59 : decode cX4_meet 59 = .ok (.getfield 23, 3) := by decide +kernel
theorem dX4_meet_62 : decode cX4_meet 62 = .ok (.iload 4, 2) := by decide +kernel
theorem dX4_meet_64 : decode cX4_meet 64 = .ok (.dup2, 1) := by decide +kernel
theorem dX4_meet_65 : decode cX4_meet 65 = .ok (.laload, 1) := by decide +kernel
theorem dX4_meet_66 : decode cX4_meet 66 = .ok (.aload_n 0, 1) := by decide +kernel
theorem dX4_meet_67 : decode cX4_meet 67 = .ok (.getfield 19, 3) := by decide +kernel
theorem dX4_meet_70 : decode cX4_meet 70 = .ok (.iload 4, 2) := by decide +kernel
theorem dX4_meet_72 : decode cX4_meet 72 = .ok (.laload, 1) := by decide +kernel
theorem dX4_meet_73 : decode cX4_meet 73 = .ok (.lload_n 2, 1) := by decide +kernel
theorem dX4_meet_74 : decode cX4_meet 74 = .ok (.land, 1) := by decide +kernel
theorem dX4_meet_75 : decode cX4_meet 75 = .ok (.lor, 1) := by decide +kernel
theorem dX4_meet_76 : decode cX4_meet 76 = .ok (.lastore, 1) := by decide +kernel
theorem dX4_meet_77 : decode cX4_meet 77 = .ok (.iinc 4 1, 3) := by decide +kernel
theorem dX4_meet_80 : decode cX4_meet 80 = .ok (.goto (-34), 3) := by decide +kernel
theorem dX4_meet_83 : decode cX4_meet 83 = .ok (.return_, 1) := by decide +kernel
theorem dX4_hoursToHear_0 : decode cX4_hoursToHear 0 = .ok (.aload_n 0, 1) := by decide +kernel
theorem dX4_hoursToHear_1 : decode cX4_hoursToHear 1 = .ok (.iload_n 2, 1) := by decide +kernel
theorem dX4_hoursToHear_2 : decode cX4_hoursToHear 2 = .ok (.invokevirtual 107, 3) := by decide +kernel
theorem dX4_hoursToHear_5 : decode cX4_hoursToHear 5 = .ok (.iconst 0, 1) := by decide +kernel
theorem dX4_hoursToHear_6 : decode cX4_hoursToHear 6 = .ok (.istore_n 3, 1) := by decide +kernel
theorem dX4_hoursToHear_7 : decode cX4_hoursToHear 7 = .ok (.iload_n 3, 1) := by decide +kernel
theorem dX4_hoursToHear_8 : decode cX4_hoursToHear 8 = .ok (.bipush 40, 2) := by decide +kernel
theorem dX4_hoursToHear_10 : decode cX4_hoursToHear 10 = .ok (.if_icmp .gt 30, 3) := by decide +kernel
theorem dX4_hoursToHear_13 : decode cX4_hoursToHear 13 = .ok (.aload_n 0, 1) := by decide +kernel
theorem dX4_hoursToHear_14 : decode cX4_hoursToHear 14 = .ok (.getfield 23, 3) := by decide +kernel
theorem dX4_hoursToHear_17 : decode cX4_hoursToHear 17 = .ok (.iload_n 1, 1) := by decide +kernel
theorem dX4_hoursToHear_18 : decode cX4_hoursToHear 18 = .ok (.laload, 1) := by decide +kernel
theorem dX4_hoursToHear_19 : decode cX4_hoursToHear 19 = .ok (.lconst 0, 1) := by decide +kernel
theorem dX4_hoursToHear_20 : decode cX4_hoursToHear 20 = .ok (.lcmp, 1) := by decide +kernel
theorem dX4_hoursToHear_21 : decode cX4_hoursToHear 21 = .ok (.ifCond .eq 5, 3) := by decide +kernel
theorem dX4_hoursToHear_24 : decode cX4_hoursToHear 24 = .ok (.iload_n 3, 1) := by decide +kernel
theorem dX4_hoursToHear_25 : decode cX4_hoursToHear 25 = .ok (.ireturn, 1) := by decide +kernel
theorem dX4_hoursToHear_26 : decode cX4_hoursToHear 26 = .ok (.aload_n 0, 1) := by decide +kernel
theorem dX4_hoursToHear_27 : decode cX4_hoursToHear 27 = .ok (.iload_n 2, 1) := by decide +kernel
theorem dX4_hoursToHear_28 : decode cX4_hoursToHear 28 = .ok (.iload_n 3, 1) := by decide +kernel
theorem dX4_hoursToHear_29 : decode cX4_hoursToHear 29 = .ok (.iconst 1, 1) := by decide +kernel
theorem dX4_hoursToHear_30 : decode cX4_hoursToHear 30 = .ok (.iadd, 1) := by decide +kernel
theorem dX4_hoursToHear_31 : decode cX4_hoursToHear 31 = .ok (.invokevirtual 110, 3) := by decide +kernel
theorem dX4_hoursToHear_34 : decode cX4_hoursToHear 34 = .ok (.iinc 3 1, 3) := by decide +kernel
theorem dX4_hoursToHear_37 : decode cX4_hoursToHear 37 = .ok (.goto (-30), 3) := by decide +kernel
theorem dX4_hoursToHear_40 : decode cX4_hoursToHear 40 = .ok (.iconst (-1), 1) := by decide +kernel
theorem dX4_hoursToHear_41 : decode cX4_hoursToHear 41 = .ok (.ireturn, 1) := by decide +kernel
theorem dX4_hoursToCastle_0 : decode cX4_hoursToCastle 0 = .ok (.aload_n 0, 1) := by decide +kernel
theorem dX4_hoursToCastle_1 : decode cX4_hoursToCastle 1 = .ok (.iload_n 1, 1) := by decide +kernel
theorem dX4_hoursToCastle_2 : decode cX4_hoursToCastle 2 = .ok (.invokevirtual 107, 3) := by decide +kernel
theorem dX4_hoursToCastle_5 : decode cX4_hoursToCastle 5 = .ok (.iconst 0, 1) := by decide +kernel
theorem dX4_hoursToCastle_6 : decode cX4_hoursToCastle 6 = .ok (.istore_n 3, 1) := by decide +kernel
theorem dX4_hoursToCastle_7 : decode cX4_hoursToCastle 7 = .ok (.iload_n 3, 1) := by decide +kernel
theorem dX4_hoursToCastle_8 : decode cX4_hoursToCastle 8 = .ok (.iload_n 2, 1) := by decide +kernel
theorem dX4_hoursToCastle_9 : decode cX4_hoursToCastle 9 = .ok (.if_icmp .gt 29, 3) := by decide +kernel
theorem dX4_hoursToCastle_12 : decode cX4_hoursToCastle 12 = .ok (.iload_n 3, 1) := by decide +kernel
theorem dX4_hoursToCastle_13 : decode cX4_hoursToCastle 13 = .ok (.ifCond .le 9, 3) := by decide +kernel
theorem dX4_hoursToCastle_16 : decode cX4_hoursToCastle 16 = .ok (.aload_n 0, 1) := by decide +kernel
theorem dX4_hoursToCastle_17 : decode cX4_hoursToCastle 17 = .ok (.iload_n 1, 1) := by decide +kernel
theorem dX4_hoursToCastle_18 : decode cX4_hoursToCastle 18 = .ok (.iload_n 3, 1) := by decide +kernel
theorem dX4_hoursToCastle_19 : decode cX4_hoursToCastle 19 = .ok (.invokevirtual 110, 3) := by decide +kernel
theorem dX4_hoursToCastle_22 : decode cX4_hoursToCastle 22 = .ok (.aload_n 0, 1) := by decide +kernel
theorem dX4_hoursToCastle_23 : decode cX4_hoursToCastle 23 = .ok (.invokevirtual 114, 3) := by decide +kernel
theorem dX4_hoursToCastle_26 : decode cX4_hoursToCastle 26 = .ok (.iconst (-1), 1) := by decide +kernel
theorem dX4_hoursToCastle_27 : decode cX4_hoursToCastle 27 = .ok (.if_icmp .eq 5, 3) := by decide +kernel
theorem dX4_hoursToCastle_30 : decode cX4_hoursToCastle 30 = .ok (.iload_n 3, 1) := by decide +kernel
theorem dX4_hoursToCastle_31 : decode cX4_hoursToCastle 31 = .ok (.ireturn, 1) := by decide +kernel
theorem dX4_hoursToCastle_32 : decode cX4_hoursToCastle 32 = .ok (.iinc 3 1, 3) := by decide +kernel
theorem dX4_hoursToCastle_35 : decode cX4_hoursToCastle 35 = .ok (.goto (-28), 3) := by decide +kernel
theorem dX4_hoursToCastle_38 : decode cX4_hoursToCastle 38 = .ok (.iconst (-1), 1) := by decide +kernel
theorem dX4_hoursToCastle_39 : decode cX4_hoursToCastle 39 = .ok (.ireturn, 1) := by decide +kernel
theorem dX4_bearer_0 : decode cX4_bearer 0 = .ok (.iconst 0, 1) := by decide +kernel
theorem dX4_bearer_1 : decode cX4_bearer 1 = .ok (.istore_n 1, 1) := by decide +kernel
theorem dX4_bearer_2 : decode cX4_bearer 2 = .ok (.iload_n 1, 1) := by decide +kernel
theorem dX4_bearer_3 : decode cX4_bearer 3 = .ok (.aload_n 0, 1) := by decide +kernel
theorem dX4_bearer_4 : decode cX4_bearer 4 = .ok (.getfield 42, 3) := by decide +kernel
theorem dX4_bearer_7 : decode cX4_bearer 7 = .ok (.getfield 90, 3) := by decide +kernel
theorem dX4_bearer_10 : decode cX4_bearer 10 = .ok (.if_icmp .ge 30, 3) := by decide +kernel
theorem dX4_bearer_13 : decode cX4_bearer 13 = .ok (.aload_n 0, 1) := by decide +kernel
theorem dX4_bearer_14 : decode cX4_bearer 14 = .ok (.getfield 23, 3) := by decide +kernel
theorem dX4_bearer_17 : decode cX4_bearer 17 = .ok (.iload_n 1, 1) := by decide +kernel
theorem dX4_bearer_18 : decode cX4_bearer 18 = .ok (.laload, 1) := by decide +kernel
theorem dX4_bearer_19 : decode cX4_bearer 19 = .ok (.aload_n 0, 1) := by decide +kernel
theorem dX4_bearer_20 : decode cX4_bearer 20 = .ok (.getfield 42, 3) := by decide +kernel
theorem dX4_bearer_23 : decode cX4_bearer 23 = .ok (.getfield 118, 3) := by decide +kernel
theorem dX4_bearer_26 : decode cX4_bearer 26 = .ok (.invokestatic 82, 3) := by decide +kernel
theorem dX4_bearer_29 : decode cX4_bearer 29 = .ok (.ifCond .eq 5, 3) := by decide +kernel
theorem dX4_bearer_32 : decode cX4_bearer 32 = .ok (.iload_n 1, 1) := by decide +kernel
theorem dX4_bearer_33 : decode cX4_bearer 33 = .ok (.ireturn, 1) := by decide +kernel
theorem dX4_bearer_34 : decode cX4_bearer 34 = .ok (.iinc 1 1, 3) := by decide +kernel
theorem dX4_bearer_37 : decode cX4_bearer 37 = .ok (.goto (-35), 3) := by decide +kernel
theorem dX4_bearer_40 : decode cX4_bearer 40 = .ok (.iconst (-1), 1) := by decide +kernel
theorem dX4_bearer_41 : decode cX4_bearer 41 = .ok (.ireturn, 1) := by decide +kernel
theorem dX4_worthOfInch_0 : decode cX4_worthOfInch 0 = .ok (.aload_n 0, 1) := by decide +kernel
theorem dX4_worthOfInch_1 : decode cX4_worthOfInch 1 = .ok (.invokevirtual 121, 3) := by decide +kernel
theorem dX4_worthOfInch_4 : decode cX4_worthOfInch 4 = .ok (.aload_n 0, 1) := by decide +kernel
theorem dX4_worthOfInch_5 : decode cX4_worthOfInch 5 = .ok (.iload_n 1, 1) := by decide +kernel
theorem dX4_worthOfInch_6 : decode cX4_worthOfInch 6 = .ok (.bipush 40, 2) := by decide +kernel
theorem dX4_worthOfInch_8 : decode cX4_worthOfInch 8 = .ok (.invokevirtual 124, 3) := by decide +kernel
theorem dX4_worthOfInch_11 : decode cX4_worthOfInch 11 = .ok (.invokestatic 128, 3) := by decide +kernel
theorem dX4_worthOfInch_14 : decode cX4_worthOfInch 14 = .ok (.istore_n 3, 1) := by decide +kernel
theorem dX4_worthOfInch_15 : decode cX4_worthOfInch 15 = .ok (.aload_n 0, 1) := by decide +kernel
theorem dX4_worthOfInch_16 : decode cX4_worthOfInch 16 = .ok (.getfield 9, 3) := by decide +kernel
theorem dX4_worthOfInch_19 : decode cX4_worthOfInch 19 = .ok (.iload_n 2, 1) := by decide +kernel
theorem dX4_worthOfInch_20 : decode cX4_worthOfInch 20 = .ok (.dup2, 1) := by decide +kernel
theorem dX4_worthOfInch_21 : decode cX4_worthOfInch 21 = .ok (.iaload, 1) := by decide +kernel
theorem dX4_worthOfInch_22 : decode cX4_worthOfInch 22 = .ok (.iconst 1, 1) := by decide +kernel
theorem dX4_worthOfInch_23 : decode cX4_worthOfInch 23 = .ok (.iadd, 1) := by decide +kernel
theorem dX4_worthOfInch_24 : decode cX4_worthOfInch 24 = .ok (.iastore, 1) := by decide +kernel
theorem dX4_worthOfInch_25 : decode cX4_worthOfInch 25 = .ok (.iload_n 3, 1) := by decide +kernel
theorem dX4_worthOfInch_26 : decode cX4_worthOfInch 26 = .ok (.aload_n 0, 1) := by decide +kernel
theorem dX4_worthOfInch_27 : decode cX4_worthOfInch 27 = .ok (.iload_n 1, 1) := by decide +kernel
theorem dX4_worthOfInch_28 : decode cX4_worthOfInch 28 = .ok (.bipush 40, 2) := by decide +kernel
theorem dX4_worthOfInch_30 : decode cX4_worthOfInch 30 = .ok (.invokevirtual 124, 3) := by decide +kernel
theorem dX4_worthOfInch_33 : decode cX4_worthOfInch 33 = .ok (.invokestatic 128, 3) := by decide +kernel
theorem dX4_worthOfInch_36 : decode cX4_worthOfInch 36 = .ok (.isub, 1) := by decide +kernel
theorem dX4_worthOfInch_37 : decode cX4_worthOfInch 37 = .ok (.ireturn, 1) := by decide +kernel
theorem dX4_countNone_0 : decode cX4_countNone 0 = .ok (.iload_n 0, 1) := by decide +kernel
theorem dX4_countNone_1 : decode cX4_countNone 1 = .ok (.iconst (-1), 1) := by decide +kernel
theorem dX4_countNone_2 : decode cX4_countNone 2 = .ok (.if_icmp .ne 8, 3) := by decide +kernel
theorem dX4_countNone_5 : decode cX4_countNone 5 = .ok (.bipush 41, 2) := by decide +kernel
theorem dX4_countNone_7 : decode cX4_countNone 7 = .ok (.goto 4, 3) := by decide +kernel
theorem dX4_countNone_10 : decode cX4_countNone 10 = .ok (.iload_n 0, 1) := by decide +kernel
theorem dX4_countNone_11 : decode cX4_countNone 11 = .ok (.ireturn, 1) := by decide +kernel
theorem dX4_findBestStake_0 : decode cX4_findBestStake 0 = .ok (.aload_n 0, 1) := by decide +kernel
theorem dX4_findBestStake_1 : decode cX4_findBestStake 1 = .ok (.invokevirtual 121, 3) := by decide +kernel
theorem dX4_findBestStake_4 : decode cX4_findBestStake 4 = .ok (.aload_n 0, 1) := by decide +kernel
theorem dX4_findBestStake_5 : decode cX4_findBestStake 5 = .ok (.iconst (-1), 1) := by decide +kernel
theorem dX4_findBestStake_6 : decode cX4_findBestStake 6 = .ok (.putfield 36, 3) := by decide +kernel
theorem dX4_findBestStake_9 : decode cX4_findBestStake 9 = .ok (.aload_n 0, 1) := by decide +kernel
theorem dX4_findBestStake_10 : decode cX4_findBestStake 10 = .ok (.bipush 41, 2) := by decide +kernel
theorem dX4_findBestStake_12 : decode cX4_findBestStake 12 = .ok (.putfield 39, 3) := by decide +kernel
theorem dX4_findBestStake_15 : decode cX4_findBestStake 15 = .ok (.iconst 0, 1) := by decide +kernel
theorem dX4_findBestStake_16 : decode cX4_findBestStake 16 = .ok (.istore_n 2, 1) := by decide +kernel
theorem dX4_findBestStake_17 : decode cX4_findBestStake 17 = .ok (.iload_n 2, 1) := by decide +kernel
theorem dX4_findBestStake_18 : decode cX4_findBestStake 18 = .ok (.aload_n 0, 1) := by decide +kernel
theorem dX4_findBestStake_19 : decode cX4_findBestStake 19 = .ok (.getfield 42, 3) := by decide +kernel
theorem dX4_findBestStake_22 : decode cX4_findBestStake 22 = .ok (.invokevirtual 131, 3) := by decide +kernel
theorem dX4_findBestStake_25 : decode cX4_findBestStake 25 = .ok (.if_icmp .ge 58, 3) := by decide +kernel
theorem dX4_findBestStake_28 : decode cX4_findBestStake 28 = .ok (.aload_n 0, 1) := by decide +kernel
theorem dX4_findBestStake_29 : decode cX4_findBestStake 29 = .ok (.getfield 39, 3) := by decide +kernel
theorem dX4_findBestStake_32 : decode cX4_findBestStake 32 = .ok (.ifCond .le 51, 3) := by decide +kernel
theorem dX4_findBestStake_35 : decode cX4_findBestStake 35 = .ok (.aload_n 0, 1) := by decide +kernel
theorem dX4_findBestStake_36 : decode cX4_findBestStake 36 = .ok (.aload_n 0, 1) := by decide +kernel
theorem dX4_findBestStake_37 : decode cX4_findBestStake 37 = .ok (.getfield 46, 3) := by decide +kernel
theorem dX4_findBestStake_40 : decode cX4_findBestStake 40 = .ok (.getfield 61, 3) := by decide +kernel
theorem dX4_findBestStake_43 : decode cX4_findBestStake 43 = .ok (.lconst 1, 1) := by decide +kernel
theorem dX4_findBestStake_44 : decode cX4_findBestStake 44 = .ok (.iload_n 2, 1) := by decide +kernel
theorem dX4_findBestStake_45 : decode cX4_findBestStake 45 = .ok (.lshl, 1) := by decide +kernel
theorem dX4_findBestStake_46 : decode cX4_findBestStake 46 = .ok (.lor, 1) := by decide +kernel
theorem dX4_findBestStake_47 : decode cX4_findBestStake 47 = .ok (.putfield 15, 3) := by decide +kernel
theorem dX4_findBestStake_50 : decode cX4_findBestStake 50 = .ok (.aload_n 0, 1) := by decide +kernel
theorem dX4_findBestStake_51 : decode cX4_findBestStake 51 = .ok (.iload_n 1, 1) := by decide +kernel
theorem dX4_findBestStake_52 : decode cX4_findBestStake 52 = .ok (.aload_n 0, 1) := by decide +kernel
theorem dX4_findBestStake_53 : decode cX4_findBestStake 53 = .ok (.getfield 39, 3) := by decide +kernel
theorem dX4_findBestStake_56 : decode cX4_findBestStake 56 = .ok (.iconst 1, 1) := by decide +kernel
theorem dX4_findBestStake_57 : decode cX4_findBestStake 57 = .ok (.isub, 1) := by decide +kernel
theorem dX4_findBestStake_58 : decode cX4_findBestStake 58 = .ok (.invokevirtual 124, 3) := by decide +kernel
theorem dX4_findBestStake_61 : decode cX4_findBestStake 61 = .ok (.istore_n 3, 1) := by decide +kernel
theorem dX4_findBestStake_62 : decode cX4_findBestStake 62 = .ok (.iload_n 3, 1) := by decide +kernel
theorem dX4_findBestStake_63 : decode cX4_findBestStake 63 = .ok (.iconst (-1), 1) := by decide +kernel
theorem dX4_findBestStake_64 : decode cX4_findBestStake 64 = .ok (.if_icmp .eq 13, 3) := by decide +kernel
theorem dX4_findBestStake_67 : decode cX4_findBestStake 67 = .ok (.aload_n 0, 1) := by decide +kernel
theorem dX4_findBestStake_68 : decode cX4_findBestStake 68 = .ok (.iload_n 2, 1) := by decide +kernel
theorem dX4_findBestStake_69 : decode cX4_findBestStake 69 = .ok (.putfield 36, 3) := by decide +kernel
theorem dX4_findBestStake_72 : decode cX4_findBestStake 72 = .ok (.aload_n 0, 1) := by decide +kernel
theorem dX4_findBestStake_73 : decode cX4_findBestStake 73 = .ok (.iload_n 3, 1) := by decide +kernel
theorem dX4_findBestStake_74 : decode cX4_findBestStake 74 = .ok (.putfield 39, 3) := by decide +kernel
theorem dX4_findBestStake_77 : decode cX4_findBestStake 77 = .ok (.iinc 2 1, 3) := by decide +kernel
theorem dX4_findBestStake_80 : decode cX4_findBestStake 80 = .ok (.goto (-63), 3) := by decide +kernel
theorem dX4_findBestStake_83 : decode cX4_findBestStake 83 = .ok (.return_, 1) := by decide +kernel
theorem dX4_leastCuts_0 : decode cX4_leastCuts 0 = .ok (.aload_n 0, 1) := by decide +kernel
theorem dX4_leastCuts_1 : decode cX4_leastCuts 1 = .ok (.invokevirtual 121, 3) := by decide +kernel
theorem dX4_leastCuts_4 : decode cX4_leastCuts 4 = .ok (.aload_n 0, 1) := by decide +kernel
theorem dX4_leastCuts_5 : decode cX4_leastCuts 5 = .ok (.iconst (-1), 1) := by decide +kernel
theorem dX4_leastCuts_6 : decode cX4_leastCuts 6 = .ok (.putfield 32, 3) := by decide +kernel
theorem dX4_leastCuts_9 : decode cX4_leastCuts 9 = .ok (.aload_n 0, 1) := by decide +kernel
theorem dX4_leastCuts_10 : decode cX4_leastCuts 10 = .ok (.getfield 9, 3) := by decide +kernel
theorem dX4_leastCuts_13 : decode cX4_leastCuts 13 = .ok (.iconst 0, 1) := by decide +kernel
theorem dX4_leastCuts_14 : decode cX4_leastCuts 14 = .ok (.invokestatic 134, 3) := by decide +kernel
theorem dX4_leastCuts_17 : decode cX4_leastCuts 17 = .ok (.aload_n 0, 1) := by decide +kernel
theorem dX4_leastCuts_18 : decode cX4_leastCuts 18 = .ok (.iload_n 1, 1) := by decide +kernel
theorem dX4_leastCuts_19 : decode cX4_leastCuts 19 = .ok (.iload_n 2, 1) := by decide +kernel
theorem dX4_leastCuts_20 : decode cX4_leastCuts 20 = .ok (.invokevirtual 124, 3) := by decide +kernel
theorem dX4_leastCuts_23 : decode cX4_leastCuts 23 = .ok (.iconst (-1), 1) := by decide +kernel
theorem dX4_leastCuts_24 : decode cX4_leastCuts 24 = .ok (.if_icmp .ne 11, 3) := by decide +kernel
theorem dX4_leastCuts_27 : decode cX4_leastCuts 27 = .ok (.aload_n 0, 1) := by decide +kernel
theorem dX4_leastCuts_28 : decode cX4_leastCuts 28 = .ok (.iload_n 1, 1) := by decide +kernel
theorem dX4_leastCuts_29 : decode cX4_leastCuts 29 = .ok (.iload_n 2, 1) := by decide +kernel
theorem dX4_leastCuts_30 : decode cX4_leastCuts 30 = .ok (.iconst 0, 1) := by decide +kernel
theorem dX4_leastCuts_31 : decode cX4_leastCuts 31 = .ok (.iconst 0, 1) := by decide +kernel
theorem dX4_leastCuts_32 : decode cX4_leastCuts 32 = .ok (.invokevirtual 140, 3) := by decide +kernel
theorem dX4_leastCuts_35 : decode cX4_leastCuts 35 = .ok (.aload_n 0, 1) := by decide +kernel
theorem dX4_leastCuts_36 : decode cX4_leastCuts 36 = .ok (.getfield 32, 3) := by decide +kernel
theorem dX4_leastCuts_39 : decode cX4_leastCuts 39 = .ok (.ireturn, 1) := by decide +kernel
theorem dX4_tryCuts_0 : decode cX4_tryCuts 0 = .ok (.iload_n 3, 1) := by decide +kernel
theorem dX4_tryCuts_1 : decode cX4_tryCuts 1 = .ok (.aload_n 0, 1) := by decide +kernel
theorem dX4_tryCuts_2 : decode cX4_tryCuts 2 = .ok (.getfield 42, 3) := by decide +kernel
theorem dX4_tryCuts_5 : decode cX4_tryCuts 5 = .ok (.getfield 90, 3) := by decide +kernel
theorem dX4_tryCuts_8 : decode cX4_tryCuts 8 = .ok (.if_icmp .ge 8, 3) := by decide +kernel
theorem dX4_tryCuts_11 : decode cX4_tryCuts 11 = .ok (.iload_n 3, 1) := by decide +kernel
theorem dX4_tryCuts_12 : decode cX4_tryCuts 12 = .ok (.iconst 4, 1) := by decide +kernel
theorem dX4_tryCuts_13 : decode cX4_tryCuts 13 = .ok (.if_icmp .lt 24, 3) := by decide +kernel
theorem dX4_tryCuts_16 : decode cX4_tryCuts 16 = .ok (.aload_n 0, 1) := by decide +kernel
theorem dX4_tryCuts_17 : decode cX4_tryCuts 17 = .ok (.iload 4, 2) := by decide +kernel
theorem dX4_tryCuts_19 : decode cX4_tryCuts 19 = .ok (.putfield 32, 3) := by decide +kernel
theorem dX4_tryCuts_22 : decode cX4_tryCuts 22 = .ok (.aload_n 0, 1) := by decide +kernel
theorem dX4_tryCuts_23 : decode cX4_tryCuts 23 = .ok (.getfield 26, 3) := by decide +kernel
theorem dX4_tryCuts_26 : decode cX4_tryCuts 26 = .ok (.iconst 0, 1) := by decide +kernel
theorem dX4_tryCuts_27 : decode cX4_tryCuts 27 = .ok (.aload_n 0, 1) := by decide +kernel
theorem dX4_tryCuts_28 : decode cX4_tryCuts 28 = .ok (.getfield 29, 3) := by decide +kernel
theorem dX4_tryCuts_31 : decode cX4_tryCuts 31 = .ok (.iconst 0, 1) := by decide +kernel
theorem dX4_tryCuts_32 : decode cX4_tryCuts 32 = .ok (.iconst 4, 1) := by decide +kernel
theorem dX4_tryCuts_33 : decode cX4_tryCuts 33 = .ok (.invokestatic 55, 3) := by decide +kernel
theorem dX4_tryCuts_36 : decode cX4_tryCuts 36 = .ok (.return_, 1) := by decide +kernel
theorem dX4_tryCuts_37 : decode cX4_tryCuts 37 = .ok (.iconst 0, 1) := by decide +kernel
theorem dX4_tryCuts_38 : decode cX4_tryCuts 38 = .ok (.istore 5, 2) := by decide +kernel
theorem dX4_tryCuts_40 : decode cX4_tryCuts 40 = .ok (.iload 5, 2) := by decide +kernel
theorem dX4_tryCuts_42 : decode cX4_tryCuts 42 = .ok (.aload_n 0, 1) := by decide +kernel
theorem dX4_tryCuts_43 : decode cX4_tryCuts 43 = .ok (.getfield 46, 3) := by decide +kernel
theorem dX4_tryCuts_46 : decode cX4_tryCuts 46 = .ok (.getfield 50, 3) := by decide +kernel
theorem dX4_tryCuts_49 : decode cX4_tryCuts 49 = .ok (.iload_n 3, 1) := by decide +kernel
theorem dX4_tryCuts_50 : decode cX4_tryCuts 50 = .ok (.iaload, 1) := by decide +kernel
theorem dX4_tryCuts_51 : decode cX4_tryCuts 51 = .ok (.if_icmp .gt 82, 3) := by decide +kernel
theorem dX4_tryCuts_54 : decode cX4_tryCuts 54 = .ok (.aload_n 0, 1) := by decide +kernel
theorem dX4_tryCuts_55 : decode cX4_tryCuts 55 = .ok (.getfield 32, 3) := by decide +kernel
theorem dX4_tryCuts_58 : decode cX4_tryCuts 58 = .ok (.iconst (-1), 1) := by decide +kernel
theorem dX4_tryCuts_59 : decode cX4_tryCuts 59 = .ok (.if_icmp .eq 18, 3) := by decide +kernel
theorem dX4_tryCuts_62 : decode cX4_tryCuts 62 = .ok (.iload 4, 2) := by decide +kernel
theorem dX4_tryCuts_64 : decode cX4_tryCuts 64 = .ok (.iload 5, 2) := by decide +kernel
theorem dX4_tryCuts_66 : decode cX4_tryCuts 66 = .ok (.iadd, 1) := by decide +kernel
theorem dX4_tryCuts_67 : decode cX4_tryCuts 67 = .ok (.aload_n 0, 1) := by decide +kernel
theorem dX4_tryCuts_68 : decode cX4_tryCuts 68 = .ok (.getfield 32, 3) := by decide +kernel
theorem dX4_tryCuts_71 : decode cX4_tryCuts 71 = .ok (.if_icmp .lt 6, 3) := by decide +kernel
theorem dX4_tryCuts_74 : decode cX4_tryCuts 74 = .ok (.goto 59, 3) := by decide +kernel
theorem dX4_tryCuts_77 : decode cX4_tryCuts 77 = .ok (.aload_n 0, 1) := by decide +kernel
theorem dX4_tryCuts_78 : decode cX4_tryCuts 78 = .ok (.getfield 26, 3) := by decide +kernel
theorem dX4_tryCuts_81 : decode cX4_tryCuts 81 = .ok (.iload_n 3, 1) := by decide +kernel
theorem dX4_tryCuts_82 : decode cX4_tryCuts 82 = .ok (.iload 5, 2) := by decide +kernel
theorem dX4_tryCuts_84 : decode cX4_tryCuts 84 = .ok (.iastore, 1) := by decide +kernel
theorem dX4_tryCuts_85 : decode cX4_tryCuts 85 = .ok (.aload_n 0, 1) := by decide +kernel
theorem dX4_tryCuts_86 : decode cX4_tryCuts 86 = .ok (.getfield 9, 3) := by decide +kernel
theorem dX4_tryCuts_89 : decode cX4_tryCuts 89 = .ok (.iload_n 3, 1) := by decide +kernel
theorem dX4_tryCuts_90 : decode cX4_tryCuts 90 = .ok (.aload_n 0, 1) := by decide +kernel
theorem dX4_tryCuts_91 : decode cX4_tryCuts 91 = .ok (.getfield 46, 3) := by decide +kernel
theorem dX4_tryCuts_94 : decode cX4_tryCuts 94 = .ok (.getfield 50, 3) := by decide +kernel
theorem dX4_tryCuts_97 : decode cX4_tryCuts 97 = .ok (.iload_n 3, 1) := by decide +kernel
theorem dX4_tryCuts_98 : decode cX4_tryCuts 98 = .ok (.iaload, 1) := by decide +kernel
theorem dX4_tryCuts_99 : decode cX4_tryCuts 99 = .ok (.iload 5, 2) := by decide +kernel
theorem dX4_tryCuts_101 : decode cX4_tryCuts 101 = .ok (.isub, 1) := by decide +kernel
theorem dX4_tryCuts_102 : decode cX4_tryCuts 102 = .ok (.iastore, 1) := by decide +kernel
theorem dX4_tryCuts_103 : decode cX4_tryCuts 103 = .ok (.aload_n 0, 1) := by decide +kernel
theorem dX4_tryCuts_104 : decode cX4_tryCuts 104 = .ok (.iload_n 1, 1) := by decide +kernel
theorem dX4_tryCuts_105 : decode cX4_tryCuts 105 = .ok (.iload_n 2, 1) := by decide +kernel
theorem dX4_tryCuts_106 : decode cX4_tryCuts 106 = .ok (.invokevirtual 124, 3) := by decide +kernel
theorem dX4_tryCuts_109 : decode cX4_tryCuts 109 = .ok (.iconst (-1), 1) := by decide +kernel
theorem dX4_tryCuts_110 : decode cX4_tryCuts 110 = .ok (.if_icmp .ne 17, 3) := by decide +kernel
theorem dX4_tryCuts_113 : decode cX4_tryCuts 113 = .ok (.aload_n 0, 1) := by decide +kernel
theorem dX4_tryCuts_114 : decode cX4_tryCuts 114 = .ok (.iload_n 1, 1) := by decide +kernel
theorem dX4_tryCuts_115 : decode cX4_tryCuts 115 = .ok (.iload_n 2, 1) := by decide +kernel
theorem dX4_tryCuts_116 : decode cX4_tryCuts 116 = .ok (.iload_n 3, 1) := by decide +kernel
theorem dX4_tryCuts_117 : decode cX4_tryCuts 117 = .ok (.iconst 1, 1) := by decide +kernel
theorem dX4_tryCuts_118 : decode cX4_tryCuts 118 = .ok (.iadd, 1) := by decide +kernel
theorem dX4_tryCuts_119 : decode cX4_tryCuts 119 = .ok (.iload 4, 2) := by decide +kernel
theorem dX4_tryCuts_121 : decode cX4_tryCuts 121 = .ok (.iload 5, 2) := by decide +kernel
theorem dX4_tryCuts_123 : decode cX4_tryCuts 123 = .ok (.iadd, 1) := by decide +kernel
theorem dX4_tryCuts_124 : decode cX4_tryCuts 124 = .ok (.invokevirtual 140, 3) := by decide +kernel
theorem dX4_tryCuts_127 : decode cX4_tryCuts 127 = .ok (.iinc 5 1, 3) := by decide +kernel
theorem dX4_tryCuts_130 : decode cX4_tryCuts 130 = .ok (.goto (-90), 3) := by decide +kernel
theorem dX4_tryCuts_133 : decode cX4_tryCuts 133 = .ok (.aload_n 0, 1) := by decide +kernel
theorem dX4_tryCuts_134 : decode cX4_tryCuts 134 = .ok (.getfield 9, 3) := by decide +kernel
theorem dX4_tryCuts_137 : decode cX4_tryCuts 137 = .ok (.iload_n 3, 1) := by decide +kernel
theorem dX4_tryCuts_138 : decode cX4_tryCuts 138 = .ok (.iconst 0, 1) := by decide +kernel
theorem dX4_tryCuts_139 : decode cX4_tryCuts 139 = .ok (.iastore, 1) := by decide +kernel
theorem dX4_tryCuts_140 : decode cX4_tryCuts 140 = .ok (.return_, 1) := by decide +kernel
theorem dX5_init_0 : decode cX5_init 0 = .ok (.aload_n 0, 1) := by decide +kernel
theorem dX5_init_1 : decode cX5_init 1 = .ok (.invokespecial 3, 3) := by decide +kernel
theorem dX5_init_4 : decode cX5_init 4 = .ok (.aload_n 0, 1) := by decide +kernel
theorem dX5_init_5 : decode cX5_init 5 = .ok (.iconst 0, 1) := by decide +kernel
theorem dX5_init_6 : decode cX5_init 6 = .ok (.putfield 9, 3) := by decide +kernel
theorem dX5_init_9 : decode cX5_init 9 = .ok (.aload_n 0, 1) := by decide +kernel
theorem dX5_init_10 : decode cX5_init 10 = .ok (.iconst 0, 1) := by decide +kernel
theorem dX5_init_11 : decode cX5_init 11 = .ok (.putfield 15, 3) := by decide +kernel
theorem dX5_init_14 : decode cX5_init 14 = .ok (.aload_n 0, 1) := by decide +kernel
theorem dX5_init_15 : decode cX5_init 15 = .ok (.lconst 0, 1) := by decide +kernel
theorem dX5_init_16 : decode cX5_init 16 = .ok (.putfield 18, 3) := by decide +kernel
theorem dX5_init_19 : decode cX5_init 19 = .ok (.aload_n 0, 1) := by decide +kernel
theorem dX5_init_20 : decode cX5_init 20 = .ok (.iconst 4, 1) := by decide +kernel
theorem dX5_init_21 : decode cX5_init 21 = .ok (.newarray .int, 2) := by decide +kernel
theorem dX5_init_23 : decode cX5_init 23 = .ok (.putfield 22, 3) := by decide +kernel
theorem dX5_init_26 : decode cX5_init 26 = .ok (.aload_n 0, 1) := by decide +kernel
theorem dX5_init_27 : decode cX5_init 27 = .ok (.iconst 4, 1) := by decide +kernel
theorem dX5_init_28 : decode cX5_init 28 = .ok (.newarray .int, 2) := by decide +kernel
theorem dX5_init_30 : decode cX5_init 30 = .ok (.putfield 26, 3) := by decide +kernel
theorem dX5_init_33 : decode cX5_init 33 = .ok (.aload_n 0, 1) := by decide +kernel
theorem dX5_init_34 : decode cX5_init 34 = .ok (.iconst 4, 1) := by decide +kernel
theorem dX5_init_35 : decode cX5_init 35 = .ok (.newarray .int, 2) := by decide +kernel
theorem dX5_init_37 : decode cX5_init 37 = .ok (.putfield 29, 3) := by decide +kernel
theorem dX5_init_40 : decode cX5_init 40 = .ok (.aload_n 0, 1) := by decide +kernel
theorem dX5_init_41 : decode cX5_init 41 = .ok (.iconst 4, 1) := by decide +kernel
theorem dX5_init_42 : decode cX5_init 42 = .ok (.newarray .int, 2) := by decide +kernel
theorem dX5_init_44 : decode cX5_init 44 = .ok (.putfield 32, 3) := by decide +kernel
theorem dX5_init_47 : decode cX5_init 47 = .ok (.aload_n 0, 1) := by decide +kernel
theorem dX5_init_48 : decode cX5_init 48 = .ok (.iconst 4, 1) := by decide +kernel
theorem dX5_init_49 : decode cX5_init 49 = .ok (.newarray .int, 2) := by decide +kernel
theorem dX5_init_51 : decode cX5_init 51 = .ok (.putfield 35, 3) := by decide +kernel
theorem dX5_init_54 : decode cX5_init 54 = .ok (.aload_n 0, 1) := by decide +kernel
theorem dX5_init_55 : decode cX5_init 55 = .ok (.aload_n 1, 1) := by decide +kernel
theorem dX5_init_56 : decode cX5_init 56 = .ok (.putfield 38, 3) := by decide +kernel
theorem dX5_init_59 : decode cX5_init 59 = .ok (.return_, 1) := by decide +kernel
theorem dX5_begin_0 : decode cX5_begin 0 = .ok (.aload_n 0, 1) := by decide +kernel
theorem dX5_begin_1 : decode cX5_begin 1 = .ok (.iconst 0, 1) := by decide +kernel
theorem dX5_begin_2 : decode cX5_begin 2 = .ok (.putfield 9, 3) := by decide +kernel
theorem dX5_begin_5 : decode cX5_begin 5 = .ok (.aload_n 0, 1) := by decide +kernel
theorem dX5_begin_6 : decode cX5_begin 6 = .ok (.lconst 0, 1) := by decide +kernel
theorem dX5_begin_7 : decode cX5_begin 7 = .ok (.putfield 18, 3) := by decide +kernel
theorem dX5_begin_10 : decode cX5_begin 10 = .ok (.aload_n 0, 1) := by decide +kernel
theorem dX5_begin_11 : decode cX5_begin 11 = .ok (.getfield 38, 3) := by decide +kernel
theorem dX5_begin_14 : decode cX5_begin 14 = .ok (.getfield 42, 3) := by decide +kernel
theorem dX5_begin_17 : decode cX5_begin 17 = .ok (.iconst 0, 1) := by decide +kernel
theorem dX5_begin_18 : decode cX5_begin 18 = .ok (.aload_n 0, 1) := by decide +kernel
theorem dX5_begin_19 : decode cX5_begin 19 = .ok (.getfield 22, 3) := by decide +kernel
theorem dX5_begin_22 : decode cX5_begin 22 = .ok (.iconst 0, 1) := by decide +kernel
theorem dX5_begin_23 : decode cX5_begin 23 = .ok (.iconst 4, 1) := by decide +kernel
theorem dX5_begin_24 : decode cX5_begin 24 = .ok (.invokestatic 47, 3) := by decide +kernel
theorem dX5_begin_27 : decode cX5_begin 27 = .ok (.aload_n 0, 1) := by decide +kernel
theorem dX5_begin_28 : decode cX5_begin 28 = .ok (.getfield 38, 3) := by decide +kernel
theorem dX5_begin_31 : decode cX5_begin 31 = .ok (.getfield 53, 3) := by decide +kernel
theorem dX5_begin_34 : decode cX5_begin 34 = .ok (.iconst 0, 1) := by decide +kernel
theorem dX5_begin_35 : decode cX5_begin 35 = .ok (.aload_n 0, 1) := by decide +kernel
theorem dX5_begin_36 : decode cX5_begin 36 = .ok (.getfield 26, 3) := by decide +kernel
theorem dX5_begin_39 : decode cX5_begin 39 = .ok (.iconst 0, 1) := by decide +kernel
theorem dX5_begin_40 : decode cX5_begin 40 = .ok (.iconst 4, 1) := by decide +kernel
theorem dX5_begin_41 : decode cX5_begin 41 = .ok (.invokestatic 47, 3) := by decide +kernel
theorem dX5_begin_44 : decode cX5_begin 44 = .ok (.aload_n 0, 1) := by decide +kernel
theorem dX5_begin_45 : decode cX5_begin 45 = .ok (.getfield 29, 3) := by decide +kernel
theorem dX5_begin_48 : decode cX5_begin 48 = .ok (.iconst 0, 1) := by decide +kernel
theorem dX5_begin_49 : decode cX5_begin 49 = .ok (.invokestatic 56, 3) := by decide +kernel
theorem dX5_begin_52 : decode cX5_begin 52 = .ok (.aload_n 0, 1) := by decide +kernel
theorem dX5_begin_53 : decode cX5_begin 53 = .ok (.getfield 32, 3) := by decide +kernel
theorem dX5_begin_56 : decode cX5_begin 56 = .ok (.iconst 0, 1) := by decide +kernel
theorem dX5_begin_57 : decode cX5_begin 57 = .ok (.invokestatic 56, 3) := by decide +kernel
theorem dX5_begin_60 : decode cX5_begin 60 = .ok (.aload_n 0, 1) := by decide +kernel
theorem dX5_begin_61 : decode cX5_begin 61 = .ok (.getfield 35, 3) := by decide +kernel
theorem dX5_begin_64 : decode cX5_begin 64 = .ok (.iconst 0, 1) := by decide +kernel
theorem dX5_begin_65 : decode cX5_begin 65 = .ok (.invokestatic 56, 3) := by decide +kernel
theorem dX5_begin_68 : decode cX5_begin 68 = .ok (.aload_n 0, 1) := by decide +kernel
theorem dX5_begin_69 : decode cX5_begin 69 = .ok (.invokevirtual 62, 3) := by decide +kernel
theorem dX5_begin_72 : decode cX5_begin 72 = .ok (.return_, 1) := by decide +kernel
theorem dX5_become_0 : decode cX5_become 0 = .ok (.aload_n 0, 1) := by decide +kernel
theorem dX5_become_1 : decode cX5_become 1 = .ok (.aload_n 1, 1) := by decide +kernel
theorem dX5_become_2 : decode cX5_become 2 = .ok (.getfield 9, 3) := by decide +kernel
theorem dX5_become_5 : decode cX5_become 5 = .ok (.putfield 9, 3) := by decide +kernel
theorem dX5_become_8 : decode cX5_become 8 = .ok (.aload_n 0, 1) := by decide +kernel
theorem dX5_become_9 : decode cX5_become 9 = .ok (.aload_n 1, 1) := by decide +kernel
theorem dX5_become_10 : decode cX5_become 10 = .ok (.getfield 15, 3) := by decide +kernel
theorem dX5_become_13 : decode cX5_become 13 = .ok (.putfield 15, 3) := by decide +kernel
theorem dX5_become_16 : decode cX5_become 16 = .ok (.aload_n 0, 1) := by decide +kernel
theorem dX5_become_17 : decode cX5_become 17 = .ok (.aload_n 1, 1) := by decide +kernel
theorem dX5_become_18 : decode cX5_become 18 = .ok (.getfield 18, 3) := by decide +kernel
theorem dX5_become_21 : decode cX5_become 21 = .ok (.putfield 18, 3) := by decide +kernel
theorem dX5_become_24 : decode cX5_become 24 = .ok (.aload_n 1, 1) := by decide +kernel
theorem dX5_become_25 : decode cX5_become 25 = .ok (.getfield 22, 3) := by decide +kernel
theorem dX5_become_28 : decode cX5_become 28 = .ok (.iconst 0, 1) := by decide +kernel
theorem dX5_become_29 : decode cX5_become 29 = .ok (.aload_n 0, 1) := by decide +kernel
theorem dX5_become_30 : decode cX5_become 30 = .ok (.getfield 22, 3) := by decide +kernel
theorem dX5_become_33 : decode cX5_become 33 = .ok (.iconst 0, 1) := by decide +kernel
theorem dX5_become_34 : decode cX5_become 34 = .ok (.iconst 4, 1) := by decide +kernel
theorem dX5_become_35 : decode cX5_become 35 = .ok (.invokestatic 47, 3) := by decide +kernel
theorem dX5_become_38 : decode cX5_become 38 = .ok (.aload_n 1, 1) := by decide +kernel
theorem dX5_become_39 : decode cX5_become 39 = .ok (.getfield 26, 3) := by decide +kernel
theorem dX5_become_42 : decode cX5_become 42 = .ok (.iconst 0, 1) := by decide +kernel
theorem dX5_become_43 : decode cX5_become 43 = .ok (.aload_n 0, 1) := by decide +kernel
theorem dX5_become_44 : decode cX5_become 44 = .ok (.getfield 26, 3) := by decide +kernel
theorem dX5_become_47 : decode cX5_become 47 = .ok (.iconst 0, 1) := by decide +kernel
theorem dX5_become_48 : decode cX5_become 48 = .ok (.iconst 4, 1) := by decide +kernel
theorem dX5_become_49 : decode cX5_become 49 = .ok (.invokestatic 47, 3) := by decide +kernel
theorem dX5_become_52 : decode cX5_become 52 = .ok (.aload_n 1, 1) := by decide +kernel
theorem dX5_become_53 : decode cX5_become 53 = .ok (.getfield 29, 3) := by decide +kernel
theorem dX5_become_56 : decode cX5_become 56 = .ok (.iconst 0, 1) := by decide +kernel
theorem dX5_become_57 : decode cX5_become 57 = .ok (.aload_n 0, 1) := by decide +kernel
theorem dX5_become_58 : decode cX5_become 58 = .ok (.getfield 29, 3) := by decide +kernel
theorem dX5_become_61 : decode cX5_become 61 = .ok (.iconst 0, 1) := by decide +kernel
theorem dX5_become_62 : decode cX5_become 62 = .ok (.iconst 4, 1) := by decide +kernel
theorem dX5_become_63 : decode cX5_become 63 = .ok (.invokestatic 47, 3) := by decide +kernel
theorem dX5_become_66 : decode cX5_become 66 = .ok (.aload_n 1, 1) := by decide +kernel
theorem dX5_become_67 : decode cX5_become 67 = .ok (.getfield 32, 3) := by decide +kernel
theorem dX5_become_70 : decode cX5_become 70 = .ok (.iconst 0, 1) := by decide +kernel
theorem dX5_become_71 : decode cX5_become 71 = .ok (.aload_n 0, 1) := by decide +kernel
theorem dX5_become_72 : decode cX5_become 72 = .ok (.getfield 32, 3) := by decide +kernel
theorem dX5_become_75 : decode cX5_become 75 = .ok (.iconst 0, 1) := by decide +kernel
theorem dX5_become_76 : decode cX5_become 76 = .ok (.iconst 4, 1) := by decide +kernel
theorem dX5_become_77 : decode cX5_become 77 = .ok (.invokestatic 47, 3) := by decide +kernel
theorem dX5_become_80 : decode cX5_become 80 = .ok (.aload_n 1, 1) := by decide +kernel
theorem dX5_become_81 : decode cX5_become 81 = .ok (.getfield 35, 3) := by decide +kernel
theorem dX5_become_84 : decode cX5_become 84 = .ok (.iconst 0, 1) := by decide +kernel
theorem dX5_become_85 : decode cX5_become 85 = .ok (.aload_n 0, 1) := by decide +kernel
theorem dX5_become_86 : decode cX5_become 86 = .ok (.getfield 35, 3) := by decide +kernel
theorem dX5_become_89 : decode cX5_become 89 = .ok (.iconst 0, 1) := by decide +kernel
theorem dX5_become_90 : decode cX5_become 90 = .ok (.iconst 4, 1) := by decide +kernel
theorem dX5_become_91 : decode cX5_become 91 = .ok (.invokestatic 47, 3) := by decide +kernel
theorem dX5_become_94 : decode cX5_become 94 = .ok (.return_, 1) := by decide +kernel
theorem dX5_depthOf_0 : decode cX5_depthOf 0 = .ok (.aload_n 0, 1) := by decide +kernel
theorem dX5_depthOf_1 : decode cX5_depthOf 1 = .ok (.getfield 18, 3) := by decide +kernel
theorem dX5_depthOf_4 : decode cX5_depthOf 4 = .ok (.iload_n 1, 1) := by decide +kernel
theorem dX5_depthOf_5 : decode cX5_depthOf 5 = .ok (.invokestatic 65, 3) := by decide +kernel
theorem dX5_depthOf_8 : decode cX5_depthOf 8 = .ok (.ifCond .eq 7, 3) := by decide +kernel
theorem dX5_depthOf_11 : decode cX5_depthOf 11 = .ok (.iconst 0, 1) := by decide +kernel
theorem dX5_depthOf_12 : decode cX5_depthOf 12 = .ok (.goto 12, 3) := by decide +kernel
theorem dX5_depthOf_15 : decode cX5_depthOf 15 = .ok (.aload_n 0, 1) := by decide +kernel
theorem dX5_depthOf_16 : decode cX5_depthOf 16 = .ok (.getfield 38, 3) := by decide +kernel
theorem dX5_depthOf_19 : decode cX5_depthOf 19 = .ok (.iload_n 1, 1) := by decide +kernel
theorem dX5_depthOf_20 : decode cX5_depthOf 20 = .ok (.iload_n 2, 1) := by decide +kernel
theorem dX5_depthOf_21 : decode cX5_depthOf 21 = .ok (.invokevirtual 69, 3) := by decide +kernel
theorem dX5_depthOf_24 : decode cX5_depthOf 24 = .ok (.ireturn, 1) := by decide +kernel
theorem dX5_isWet_0 : decode cX5_isWet 0 = .ok (.aload_n 0, 1) := by decide +kernel
theorem dX5_isWet_1 : decode cX5_isWet 1 = .ok (.aload_n 0, 1) := by decide +kernel
theorem dX5_isWet_2 : decode cX5_isWet 2 = .ok (.getfield 22, 3) := by decide +kernel
theorem dX5_isWet_5 : decode cX5_isWet 5 = .ok (.iload_n 1, 1) := by decide +kernel
theorem dX5_isWet_6 : decode cX5_isWet 6 = .ok (.iaload, 1) := by decide +kernel
theorem dX5_isWet_7 : decode cX5_isWet 7 = .ok (.aload_n 0, 1) := by decide +kernel
theorem dX5_isWet_8 : decode cX5_isWet 8 = .ok (.getfield 9, 3) := by decide +kernel
theorem dX5_isWet_11 : decode cX5_isWet 11 = .ok (.invokevirtual 73, 3) := by decide +kernel
theorem dX5_isWet_14 : decode cX5_isWet 14 = .ok (.aload_n 0, 1) := by decide +kernel
theorem dX5_isWet_15 : decode cX5_isWet 15 = .ok (.getfield 26, 3) := by decide +kernel
theorem dX5_isWet_18 : decode cX5_isWet 18 = .ok (.iload_n 1, 1) := by decide +kernel
theorem dX5_isWet_19 : decode cX5_isWet 19 = .ok (.iaload, 1) := by decide +kernel
theorem dX5_isWet_20 : decode cX5_isWet 20 = .ok (.if_icmp .le 7, 3) := by decide +kernel
theorem dX5_isWet_23 : decode cX5_isWet 23 = .ok (.iconst 1, 1) := by decide +kernel
theorem dX5_isWet_24 : decode cX5_isWet 24 = .ok (.goto 4, 3) := by decide +kernel
theorem dX5_isWet_27 : decode cX5_isWet 27 = .ok (.iconst 0, 1) := by decide +kernel
theorem dX5_isWet_28 : decode cX5_isWet 28 = .ok (.ireturn, 1) := by decide +kernel
theorem dX5_wayLeads_0 : decode cX5_wayLeads 0 = .ok (.iload_n 2, 1) := by decide +kernel
theorem dX5_wayLeads_1 : decode cX5_wayLeads 1 = .ok (.ifCond .ne 5, 3) := by decide +kernel
theorem dX5_wayLeads_4 : decode cX5_wayLeads 4 = .ok (.iload_n 1, 1) := by decide +kernel
theorem dX5_wayLeads_5 : decode cX5_wayLeads 5 = .ok (.ireturn, 1) := by decide +kernel
theorem dX5_wayLeads_6 : decode cX5_wayLeads 6 = .ok (.aload_n 0, 1) := by decide +kernel
theorem dX5_wayLeads_7 : decode cX5_wayLeads 7 = .ok (.getfield 38, 3) := by decide +kernel
theorem dX5_wayLeads_10 : decode cX5_wayLeads 10 = .ok (.iload_n 1, 1) := by decide +kernel
theorem dX5_wayLeads_11 : decode cX5_wayLeads 11 = .ok (.iload_n 2, 1) := by decide +kernel
theorem dX5_wayLeads_12 : decode cX5_wayLeads 12 = .ok (.invokevirtual 76, 3) := by decide +kernel
theorem dX5_wayLeads_15 : decode cX5_wayLeads 15 = .ok (.istore 5, 2) := by decide +kernel
theorem dX5_wayLeads_17 : decode cX5_wayLeads 17 = .ok (.iload 5, 2) := by decide +kernel
theorem dX5_wayLeads_19 : decode cX5_wayLeads 19 = .ok (.iconst (-1), 1) := by decide +kernel
theorem dX5_wayLeads_20 : decode cX5_wayLeads 20 = .ok (.if_icmp .eq 20, 3) := by decide +kernel
theorem dX5_wayLeads_23 : decode cX5_wayLeads 23 = .ok (.aload_n 0, 1) := by decide +kernel
theorem dX5_wayLeads_24 : decode cX5_wayLeads 24 = .ok (.iload 5, 2) := by decide +kernel
theorem dX5_wayLeads_26 : decode cX5_wayLeads 26 = .ok (.iload 4, 2) := by decide +kernel
theorem dX5_wayLeads_28 : decode cX5_wayLeads 28 = .ok (.invokevirtual 73, 3) := by decide +kernel
theorem dX5_wayLeads_31 : decode cX5_wayLeads 31 = .ok (.iload_n 3, 1) := by decide +kernel
theorem dX5_wayLeads_32 : decode cX5_wayLeads 32 = .ok (.if_icmp .gt 8, 3) := by decide +kernel
theorem dX5_wayLeads_35 : decode cX5_wayLeads 35 = .ok (.iload 5, 2) := by decide +kernel
theorem dX5_wayLeads_37 : decode cX5_wayLeads 37 = .ok (.goto 4, 3) := by decide +kernel
theorem dX5_wayLeads_40 : decode cX5_wayLeads 40 = .ok (.iconst (-1), 1) := by decide +kernel
theorem dX5_wayLeads_41 : decode cX5_wayLeads 41 = .ok (.ireturn, 1) := by decide +kernel
theorem dX5_passAnHour_0 : decode cX5_passAnHour 0 = .ok (.aload_n 0, 1) := by decide +kernel
theorem dX5_passAnHour_1 : decode cX5_passAnHour 1 = .ok (.dup, 1) := by decide +kernel
theorem dX5_passAnHour_2 : decode cX5_passAnHour 2 = .ok (.getfield 9, 3) := by decide +kernel
theorem dX5_passAnHour_5 : decode cX5_passAnHour 5 = .ok (.iconst 1, 1) := by decide +kernel
theorem dX5_passAnHour_6 : decode cX5_passAnHour 6 = .ok (.iadd, 1) := by decide +kernel
theorem dX5_passAnHour_7 : decode cX5_passAnHour 7 = .ok (.putfield 9, 3) := by decide +kernel
theorem dX5_passAnHour_10 : decode cX5_passAnHour 10 = .ok (.iconst 0, 1) := by decide +kernel
theorem dX5_passAnHour_11 : decode cX5_passAnHour 11 = .ok (.istore_n 1, 1) := by decide +kernel
theorem dX5_passAnHour_12 : decode cX5_passAnHour 12 = .ok (.iload_n 1, 1) := by decide +kernel
theorem dX5_passAnHour_13 : decode cX5_passAnHour 13 = .ok (.aload_n 0, 1) := by decide +kernel
theorem dX5_passAnHour_14 : decode cX5_passAnHour 14 = .ok (.getfield 38, 3) := by decide +kernel
theorem dX5_passAnHour_17 : decode cX5_passAnHour 17 = .ok (.getfield 79, 3) := by decide +kernel
theorem dX5_passAnHour_20 : decode cX5_passAnHour 20 = .ok (.if_icmp .ge 57, 3) := by decide +kernel
theorem dX5_passAnHour_23 : decode cX5_passAnHour 23 = .ok (.aload_n 0, 1) := by decide +kernel
theorem dX5_passAnHour_24 : decode cX5_passAnHour 24 = .ok (.aload_n 0, 1) := by decide +kernel
theorem dX5_passAnHour_25 : decode cX5_passAnHour 25 = .ok (.getfield 22, 3) := by decide +kernel
theorem dX5_passAnHour_28 : decode cX5_passAnHour 28 = .ok (.iload_n 1, 1) := by decide +kernel
theorem dX5_passAnHour_29 : decode cX5_passAnHour 29 = .ok (.iaload, 1) := by decide +kernel
theorem dX5_passAnHour_30 : decode cX5_passAnHour 30 = .ok (.aload_n 0, 1) := by decide +kernel
theorem dX5_passAnHour_31 : decode cX5_passAnHour 31 = .ok (.getfield 35, 3) := by decide +kernel
theorem dX5_passAnHour_34 : decode cX5_passAnHour 34 = .ok (.iload_n 1, 1) := by decide +kernel
theorem dX5_passAnHour_35 : decode cX5_passAnHour 35 = .ok (.iaload, 1) := by decide +kernel
theorem dX5_passAnHour_36 : decode cX5_passAnHour 36 = .ok (.aload_n 0, 1) := by decide +kernel
theorem dX5_passAnHour_37 : decode cX5_passAnHour 37 = .ok (.getfield 26, 3) := by decide +kernel
theorem dX5_passAnHour_40 : decode cX5_passAnHour 40 = .ok (.iload_n 1, 1) := by decide +kernel
theorem dX5_passAnHour_41 : decode cX5_passAnHour 41 = .ok (.iaload, 1) := by decide +kernel
theorem dX5_passAnHour_42 : decode cX5_passAnHour 42 = .ok (.aload_n 0, 1) := by decide +kernel
theorem dX5_passAnHour_43 : decode cX5_passAnHour 43 = .ok (.getfield 9, 3) := by decide +kernel
theorem dX5_passAnHour_46 : decode cX5_passAnHour 46 = .ok (.invokevirtual 82, 3) := by decide +kernel
theorem dX5_passAnHour_49 : decode cX5_passAnHour 49 = .ok (.istore_n 2, 1) := by decide +kernel
theorem dX5_passAnHour_50 : decode cX5_passAnHour 50 = .ok (.aload_n 0, 1) := by decide +kernel
theorem dX5_passAnHour_51 : decode cX5_passAnHour 51 = .ok (.getfield 22, 3) := by decide +kernel
theorem dX5_passAnHour_54 : decode cX5_passAnHour 54 = .ok (.iload_n 1, 1) := by decide +kernel
theorem dX5_passAnHour_55 : decode cX5_passAnHour 55 = .ok (.iload_n 2, 1) := by decide +kernel
theorem dX5_passAnHour_56 : decode cX5_passAnHour 56 = .ok (.iconst (-1), 1) := by decide +kernel
theorem dX5_passAnHour_57 : decode cX5_passAnHour 57 = .ok (.if_icmp .ne 12, 3) := by decide +kernel
theorem dX5_passAnHour_60 : decode cX5_passAnHour 60 = .ok (.aload_n 0, 1) := by decide +kernel
theorem dX5_passAnHour_61 : decode cX5_passAnHour 61 = .ok (.getfield 22, 3) := by decide +kernel
theorem dX5_passAnHour_64 : decode cX5_passAnHour 64 = .ok (.iload_n 1, 1) := by decide +kernel
theorem dX5_passAnHour_65 : decode cX5_passAnHour 65 = .ok (.iaload, 1) := by decide +kernel
theorem dX5_passAnHour_66 : decode cX5_passAnHour 66 = .ok (.goto 4, 3) := by decide +kernel
theorem dX5_passAnHour_69 : decode cX5_passAnHour 69 = .ok (.iload_n 2, 1) := by decide +kernel
theorem dX5_passAnHour_70 : decode cX5_passAnHour 70 = .ok (.iastore, 1) := by decide +kernel
theorem dX5_passAnHour_71 : decode cX5_passAnHour 71 = .ok (.iinc 1 1, 3) := by decide +kernel
theorem dX5_passAnHour_74 : decode cX5_passAnHour 74 = .ok (.goto (-62), 3) := by decide +kernel
theorem dX5_passAnHour_77 : decode cX5_passAnHour 77 = .ok (.aload_n 0, 1) := by decide +kernel
theorem dX5_passAnHour_78 : decode cX5_passAnHour 78 = .ok (.invokevirtual 62, 3) := by decide +kernel
theorem dX5_passAnHour_81 : decode cX5_passAnHour 81 = .ok (.iconst 0, 1) := by decide +kernel
theorem dX5_passAnHour_82 : decode cX5_passAnHour 82 = .ok (.istore_n 1, 1) := by decide +kernel
theorem dX5_passAnHour_83 : decode cX5_passAnHour 83 = .ok (.iload_n 1, 1) := by decide +kernel
theorem dX5_passAnHour_84 : decode cX5_passAnHour 84 = .ok (.aload_n 0, 1) := by decide +kernel
theorem dX5_passAnHour_85 : decode cX5_passAnHour 85 = .ok (.getfield 38, 3) := by decide +kernel
theorem dX5_passAnHour_88 : decode cX5_passAnHour 88 = .ok (.getfield 79, 3) := by decide +kernel
theorem dX5_passAnHour_91 : decode cX5_passAnHour 91 = .ok (.if_icmp .ge 31, 3) := by decide +kernel
theorem dX5_passAnHour_94 : decode cX5_passAnHour 94 = .ok (.aload_n 0, 1) := by decide +kernel
theorem dX5_passAnHour_95 : decode cX5_passAnHour 95 = .ok (.getfield 32, 3) := by decide +kernel
theorem dX5_passAnHour_98 : decode cX5_passAnHour 98 = .ok (.iload_n 1, 1) := by decide +kernel
theorem dX5_passAnHour_99 : decode cX5_passAnHour 99 = .ok (.dup2, 1) := by decide +kernel
theorem dX5_passAnHour_100 : decode cX5_passAnHour 100 = .ok (.iaload, 1) := by decide +kernel
theorem dX5_passAnHour_101 : decode cX5_passAnHour 101 = .ok (.aload_n 0, 1) := by decide +kernel
theorem dX5_passAnHour_102 : decode cX5_passAnHour 102 = .ok (.iload_n 1, 1) := by decide +kernel
theorem dX5_passAnHour_103 : decode cX5_passAnHour 103 = .ok (.invokevirtual 86, 3) := by decide +kernel
theorem dX5_passAnHour_106 : decode cX5_passAnHour 106 = .ok (.ifCond .eq 7, 3) := by decide +kernel
theorem dX5_passAnHour_109 : decode cX5_passAnHour 109 = .ok (.iconst 1, 1) := by decide +kernel
theorem dX5_passAnHour_110 : decode cX5_passAnHour 110 = .ok (.goto 4, 3) := by decide +kernel
theorem dX5_passAnHour_113 : decode cX5_passAnHour 113 = .ok (.iconst 0, 1) := by decide +kernel
theorem dX5_passAnHour_114 : decode cX5_passAnHour 114 = .ok (.iadd, 1) := by decide +kernel
theorem dX5_passAnHour_115 : decode cX5_passAnHour 115 = .ok (.iastore, 1) := by decide +kernel
theorem dX5_passAnHour_116 : decode cX5_passAnHour 116 = .ok (.iinc 1 1, 3) := by decide +kernel
theorem dX5_passAnHour_119 : decode cX5_passAnHour 119 = .ok (.goto (-36), 3) := by decide +kernel
theorem dX5_passAnHour_122 : decode cX5_passAnHour 122 = .ok (.return_, 1) := by decide +kernel
theorem dX5_hearAndShare_0 : decode cX5_hearAndShare 0 = .ok (.iconst 0, 1) := by decide +kernel
theorem dX5_hearAndShare_1 : decode cX5_hearAndShare 1 = .ok (.istore_n 1, 1) := by decide +kernel
theorem dX5_hearAndShare_2 : decode cX5_hearAndShare 2 = .ok (.iload_n 1, 1) := by decide +kernel
theorem dX5_hearAndShare_3 : decode cX5_hearAndShare 3 = .ok (.aload_n 0, 1) := by decide +kernel
theorem dX5_hearAndShare_4 : decode cX5_hearAndShare 4 = .ok (.getfield 38, 3) := by decide +kernel
theorem dX5_hearAndShare_7 : decode cX5_hearAndShare 7 = .ok (.getfield 79, 3) := by decide +kernel
theorem dX5_hearAndShare_10 : decode cX5_hearAndShare 10 = .ok (.if_icmp .ge 58, 3) := by decide +kernel
theorem dX5_hearAndShare_13 : decode cX5_hearAndShare 13 = .ok (.iconst 0, 1) := by decide +kernel
theorem dX5_hearAndShare_14 : decode cX5_hearAndShare 14 = .ok (.istore_n 2, 1) := by decide +kernel
theorem dX5_hearAndShare_15 : decode cX5_hearAndShare 15 = .ok (.iload_n 2, 1) := by decide +kernel
theorem dX5_hearAndShare_16 : decode cX5_hearAndShare 16 = .ok (.aload_n 0, 1) := by decide +kernel
theorem dX5_hearAndShare_17 : decode cX5_hearAndShare 17 = .ok (.getfield 38, 3) := by decide +kernel
theorem dX5_hearAndShare_20 : decode cX5_hearAndShare 20 = .ok (.getfield 90, 3) := by decide +kernel
theorem dX5_hearAndShare_23 : decode cX5_hearAndShare 23 = .ok (.if_icmp .ge 39, 3) := by decide +kernel
theorem dX5_hearAndShare_26 : decode cX5_hearAndShare 26 = .ok (.aload_n 0, 1) := by decide +kernel
theorem dX5_hearAndShare_27 : decode cX5_hearAndShare 27 = .ok (.getfield 22, 3) := by decide +kernel
theorem dX5_hearAndShare_30 : decode cX5_hearAndShare 30 = .ok (.iload_n 1, 1) := by decide +kernel
theorem dX5_hearAndShare_31 : decode cX5_hearAndShare 31 = .ok (.iaload, 1) := by decide +kernel
theorem dX5_hearAndShare_32 : decode cX5_hearAndShare 32 = .ok (.aload_n 0, 1) := by decide +kernel
theorem dX5_hearAndShare_33 : decode cX5_hearAndShare 33 = .ok (.getfield 38, 3) := by decide +kernel
theorem dX5_hearAndShare_36 : decode cX5_hearAndShare 36 = .ok (.getfield 93, 3) := by decide +kernel
theorem dX5_hearAndShare_39 : decode cX5_hearAndShare 39 = .ok (.iload_n 2, 1) := by decide +kernel
theorem dX5_hearAndShare_40 : decode cX5_hearAndShare 40 = .ok (.iaload, 1) := by decide +kernel
theorem dX5_hearAndShare_41 : decode cX5_hearAndShare 41 = .ok (.if_icmp .ne 15, 3) := by decide +kernel
theorem dX5_hearAndShare_44 : decode cX5_hearAndShare 44 = .ok (.aload_n 0, 1) := by decide +kernel
theorem dX5_hearAndShare_45 : decode cX5_hearAndShare 45 = .ok (.getfield 29, 3) := by decide +kernel
theorem dX5_hearAndShare_48 : decode cX5_hearAndShare 48 = .ok (.iload_n 1, 1) := by decide +kernel
theorem dX5_hearAndShare_49 : decode cX5_hearAndShare 49 = .ok (.dup2, 1) := by decide +kernel
theorem dX5_hearAndShare_50 : decode cX5_hearAndShare 50 = .ok (.iaload, 1) := by decide +kernel
theorem dX5_hearAndShare_51 : decode cX5_hearAndShare 51 = .ok (.iconst 1, 1) := by decide +kernel
theorem dX5_hearAndShare_52 : decode cX5_hearAndShare 52 = .ok (.iload_n 2, 1) := by decide +kernel
theorem dX5_hearAndShare_53 : decode cX5_hearAndShare 53 = .ok (.ishl, 1) := by decide +kernel
theorem dX5_hearAndShare_54 : decode cX5_hearAndShare 54 = .ok (.ior, 1) := by decide +kernel
theorem dX5_hearAndShare_55 : decode cX5_hearAndShare 55 = .ok (.iastore, 1) := by decide +kernel
theorem dX5_hearAndShare_56 : decode cX5_hearAndShare 56 = .ok (.iinc 2 1, 3) := by decide +kernel
theorem dX5_hearAndShare_59 : decode cX5_hearAndShare 59 = .ok (.goto (-44), 3) := by decide +kernel
theorem dX5_hearAndShare_62 : decode cX5_hearAndShare 62 = .ok (.iinc 1 1, 3) := by decide +kernel
theorem dX5_hearAndShare_65 : decode cX5_hearAndShare 65 = .ok (.goto (-63), 3) := by decide +kernel
theorem dX5_hearAndShare_68 : decode cX5_hearAndShare 68 = .ok (.iconst 0, 1) := by decide +kernel
theorem dX5_hearAndShare_69 : decode cX5_hearAndShare 69 = .ok (.istore_n 1, 1) := by decide +kernel
theorem dX5_hearAndShare_70 : decode cX5_hearAndShare 70 = .ok (.iload_n 1, 1) := by decide +kernel
theorem dX5_hearAndShare_71 : decode cX5_hearAndShare 71 = .ok (.aload_n 0, 1) := by decide +kernel
theorem dX5_hearAndShare_72 : decode cX5_hearAndShare 72 = .ok (.getfield 38, 3) := by decide +kernel
theorem dX5_hearAndShare_75 : decode cX5_hearAndShare 75 = .ok (.getfield 79, 3) := by decide +kernel
theorem dX5_hearAndShare_78 : decode cX5_hearAndShare 78 = .ok (.if_icmp .ge 25, 3) := by decide +kernel
theorem dX5_hearAndShare_81 : decode cX5_hearAndShare 81 = .ok (.aload_n 0, 1) := by decide +kernel
theorem dX5_hearAndShare_82 : decode cX5_hearAndShare 82 = .ok (.getfield 29, 3) := by decide +kernel
theorem dX5_hearAndShare_85 : decode cX5_hearAndShare 85 = .ok (.iload_n 1, 1) := by decide +kernel
theorem dX5_hearAndShare_86 : decode cX5_hearAndShare 86 = .ok (.aload_n 0, 1) := by decide +kernel
theorem dX5_hearAndShare_87 : decode cX5_hearAndShare 87 = .ok (.aload_n 0, 1) := by decide +kernel
theorem dX5_hearAndShare_88 : decode cX5_hearAndShare 88 = .ok (.getfield 22, 3) := by decide +kernel
theorem dX5_hearAndShare_91 : decode cX5_hearAndShare 91 = .ok (.iload_n 1, 1) := by decide +kernel
theorem dX5_hearAndShare_92 : decode cX5_hearAndShare 92 = .ok (.iaload, 1) := by decide +kernel
theorem dX5_hearAndShare_93 : decode cX5_hearAndShare 93 = .ok (.invokevirtual 96, 3) := by decide +kernel
theorem dX5_hearAndShare_96 : decode cX5_hearAndShare 96 = .ok (.iastore, 1) := by decide +kernel
theorem dX5_hearAndShare_97 : decode cX5_hearAndShare 97 = .ok (.iinc 1 1, 3) := by decide +kernel
theorem dX5_hearAndShare_100 : decode cX5_hearAndShare 100 = .ok (.goto (-30), 3) := by decide +kernel
theorem dX5_hearAndShare_103 : decode cX5_hearAndShare 103 = .ok (.return_, 1) := by decide +kernel
theorem dX5_knownAt_0 : decode cX5_knownAt 0 = .ok (.iconst 0, 1) := by decide +kernel
theorem dX5_knownAt_1 : decode cX5_knownAt 1 = .ok (.istore_n 2, 1) := by decide +kernel
theorem dX5_knownAt_2 : decode cX5_knownAt 2 = .ok (.iconst 0, 1) := by decide +kernel
theorem dX5_knownAt_3 : decode cX5_knownAt 3 = .ok (.istore_n 3, 1) := by decide +kernel
theorem dX5_knownAt_4 : decode cX5_knownAt 4 = .ok (.iload_n 3, 1) := by decide +kernel
theorem dX5_knownAt_5 : decode cX5_knownAt 5 = .ok (.aload_n 0, 1) := by decide +kernel
theorem dX5_knownAt_6 : decode cX5_knownAt 6 = .ok (.getfield 38, 3) := by decide +kernel
theorem dX5_knownAt_9 : decode cX5_knownAt 9 = .ok (.getfield 79, 3) := by decide +kernel
theorem dX5_knownAt_12 : decode cX5_knownAt 12 = .ok (.if_icmp .ge 28, 3) := by decide +kernel
theorem dX5_knownAt_15 : decode cX5_knownAt 15 = .ok (.aload_n 0, 1) := by decide +kernel
theorem dX5_knownAt_16 : decode cX5_knownAt 16 = .ok (.getfield 22, 3) := by decide +kernel
theorem dX5_knownAt_19 : decode cX5_knownAt 19 = .ok (.iload_n 3, 1) := by decide +kernel
theorem dX5_knownAt_20 : decode cX5_knownAt 20 = .ok (.iaload, 1) := by decide +kernel
theorem dX5_knownAt_21 : decode cX5_knownAt 21 = .ok (.iload_n 1, 1) := by decide +kernel
theorem dX5_knownAt_22 : decode cX5_knownAt 22 = .ok (.if_icmp .ne 12, 3) := by decide +kernel
theorem dX5_knownAt_25 : decode cX5_knownAt 25 = .ok (.iload_n 2, 1) := by decide +kernel
theorem dX5_knownAt_26 : decode cX5_knownAt 26 = .ok (.aload_n 0, 1) := by decide +kernel
theorem dX5_knownAt_27 : decode cX5_knownAt 27 = .ok (.getfield 29, 3) := by decide +kernel
theorem dX5_knownAt_30 : decode cX5_knownAt 30 = .ok (.iload_n 3, 1) := by decide +kernel
theorem dX5_knownAt_31 : decode cX5_knownAt 31 = .ok (.iaload, 1) := by decide +kernel
theorem dX5_knownAt_32 : decode cX5_knownAt 32 = .ok (.ior, 1) := by decide +kernel
theorem dX5_knownAt_33 : decode cX5_knownAt 33 = .ok (.istore_n 2, 1) := by decide +kernel
theorem dX5_knownAt_34 : decode cX5_knownAt 34 = .ok (.iinc 3 1, 3) := by decide +kernel
theorem dX5_knownAt_37 : decode cX5_knownAt 37 = .ok (.goto (-33), 3) := by decide +kernel
theorem dX5_knownAt_40 : decode cX5_knownAt 40 = .ok (.iload_n 2, 1) := by decide +kernel
theorem dX5_knownAt_41 : decode cX5_knownAt 41 = .ok (.ireturn, 1) := by decide +kernel
theorem dX5_orderByDraws_0 : decode cX5_orderByDraws 0 = .ok (.iconst 0, 1) := by decide +kernel
theorem dX5_orderByDraws_1 : decode cX5_orderByDraws 1 = .ok (.istore_n 1, 1) := by decide +kernel
theorem dX5_orderByDraws_2 : decode cX5_orderByDraws 2 = .ok (.iload_n 1, 1) := by decide +kernel
theorem dX5_orderByDraws_3 : decode cX5_orderByDraws 3 = .ok (.aload_n 0, 1) := by decide +kernel
theorem dX5_orderByDraws_4 : decode cX5_orderByDraws 4 = .ok (.getfield 38, 3) := by decide +kernel
theorem dX5_orderByDraws_7 : decode cX5_orderByDraws 7 = .ok (.getfield 79, 3) := by decide +kernel
theorem dX5_orderByDraws_10 : decode cX5_orderByDraws 10 = .ok (.if_icmp .ge 46, 3) := by decide +kernel
theorem dX5_orderByDraws_13 : decode cX5_orderByDraws 13 = .ok (.aload_n 0, 1) := by decide +kernel
theorem dX5_orderByDraws_14 : decode cX5_orderByDraws 14 = .ok (.aload_n 0, 1) := by decide +kernel
theorem dX5_orderByDraws_15 : decode cX5_orderByDraws 15 = .ok (.getfield 15, 3) := by decide +kernel
theorem dX5_orderByDraws_18 : decode cX5_orderByDraws 18 = .ok (.i2l, 1) := by decide +kernel
theorem dX5_orderByDraws_19 : decode cX5_orderByDraws 19 = .ok (.ldc2_w 100, 3) := by decide +kernel
theorem dX5_orderByDraws_22 : decode cX5_orderByDraws 22 = .ok (.lmul, 1) := by decide +kernel
theorem dX5_orderByDraws_23 : decode cX5_orderByDraws 23 = .ok (.ldc2_w 102, 3) := by decide +kernel
theorem dX5_orderByDraws_26 : decode cX5_orderByDraws 26 = .ok (.ladd, 1) := by decide +kernel
theorem dX5_orderByDraws_27 : decode cX5_orderByDraws 27 = .ok (.ldc2_w 104, 3) := by decide +kernel
theorem dX5_orderByDraws_30 : decode cX5_orderByDraws 30 = .ok (.land, 1) := by decide +kernel
theorem dX5_orderByDraws_31 : decode cX5_orderByDraws 31 = .ok (.l2i, 1) := by decide +kernel
theorem dX5_orderByDraws_32 : decode cX5_orderByDraws 32 = .ok (.putfield 15, 3) := by decide +kernel
theorem dX5_orderByDraws_35 : decode cX5_orderByDraws 35 = .ok (.aload_n 0, 1) := by decide +kernel
theorem dX5_orderByDraws_36 : decode cX5_orderByDraws 36 = .ok (.getfield 35, 3) := by decide +kernel
theorem dX5_orderByDraws_39 : decode cX5_orderByDraws 39 = .ok (.iload_n 1, 1) := by decide +kernel
theorem dX5_orderByDraws_40 : decode cX5_orderByDraws 40 = .ok (.aload_n 0, 1) := by decide +kernel
theorem dX5_orderByDraws_41 : decode cX5_orderByDraws 41 = .ok (.getfield 15, 3) := by decide +kernel
theorem dX5_orderByDraws_44 : decode cX5_orderByDraws 44 = .ok (.ldc 106, 2) := by decide +kernel
theorem dX5_orderByDraws_46 : decode cX5_orderByDraws 46 = .ok (.idiv, 1) := by decide +kernel
theorem dX5_orderByDraws_47 : decode cX5_orderByDraws 47 = .ok (.iconst 5, 1) := by decide +kernel
theorem dX5_orderByDraws_48 : decode cX5_orderByDraws 48 = .ok (.irem, 1) := by decide +kernel
theorem dX5_orderByDraws_49 : decode cX5_orderByDraws 49 = .ok (.iastore, 1) := by decide +kernel
theorem dX5_orderByDraws_50 : decode cX5_orderByDraws 50 = .ok (.iinc 1 1, 3) := by decide +kernel
theorem dX5_orderByDraws_53 : decode cX5_orderByDraws 53 = .ok (.goto (-51), 3) := by decide +kernel
theorem dX5_orderByDraws_56 : decode cX5_orderByDraws 56 = .ok (.return_, 1) := by decide +kernel
theorem dX6_init_0 : decode cX6_init 0 = .ok (.aload_n 0, 1) := by decide +kernel
theorem dX6_init_1 : decode cX6_init 1 = .ok (.invokespecial 3, 3) := by decide +kernel
theorem dX6_init_4 : decode cX6_init 4 = .ok (.aload_n 0, 1) := by decide +kernel
theorem dX6_init_5 : decode cX6_init 5 = .ok (.sipush 500, 3) := by decide +kernel
theorem dX6_init_8 : decode cX6_init 8 = .ok (.newarray .byte, 2) := by decide +kernel
theorem dX6_init_10 : decode cX6_init 10 = .ok (.putfield 9, 3) := by decide +kernel
theorem dX6_init_13 : decode cX6_init 13 = .ok (.aload_n 0, 1) := by decide +kernel
theorem dX6_init_14 : decode cX6_init 14 = .ok (.iconst 0, 1) := by decide +kernel
theorem dX6_init_15 : decode cX6_init 15 = .ok (.putfield 15, 3) := by decide +kernel
theorem dX6_init_18 : decode cX6_init 18 = .ok (.return_, 1) := by decide +kernel
theorem dX6_append_0 : decode cX6_append 0 = .ok (.iload_n 1, 1) := by decide +kernel
theorem dX6_append_1 : decode cX6_append 1 = .ok (.iconst 1, 1) := by decide +kernel
theorem dX6_append_2 : decode cX6_append 2 = .ok (.isub, 1) := by decide +kernel
theorem dX6_append_3 : decode cX6_append 3 = .ok (.istore 4, 2) := by decide +kernel
theorem dX6_append_5 : decode cX6_append 5 = .ok (.iload 4, 2) := by decide +kernel
theorem dX6_append_7 : decode cX6_append 7 = .ok (.ifCond .lt 49, 3) := by decide +kernel
theorem dX6_append_10 : decode cX6_append 10 = .ok (.aload_n 0, 1) := by decide +kernel
theorem dX6_append_11 : decode cX6_append 11 = .ok (.getfield 15, 3) := by decide +kernel
theorem dX6_append_14 : decode cX6_append 14 = .ok (.aload_n 0, 1) := by decide +kernel
theorem dX6_append_15 : decode cX6_append 15 = .ok (.getfield 9, 3) := by decide +kernel
theorem dX6_append_18 : decode cX6_append 18 = .ok (.arraylength, 1) := by decide +kernel
theorem dX6_append_19 : decode cX6_append 19 = .ok (.if_icmp .ge 37, 3) := by decide +kernel
theorem dX6_append_22 : decode cX6_append 22 = .ok (.aload_n 0, 1) := by decide +kernel
theorem dX6_append_23 : decode cX6_append 23 = .ok (.getfield 9, 3) := by decide +kernel
theorem dX6_append_26 : decode cX6_append 26 = .ok (.aload_n 0, 1) := by decide +kernel
theorem dX6_append_27 : decode cX6_append 27 = .ok (.getfield 15, 3) := by decide +kernel
theorem dX6_append_30 : decode cX6_append 30 = .ok (.lload_n 2, 1) := by decide +kernel
theorem dX6_append_31 : decode cX6_append 31 = .ok (.bipush 8, 2) := by decide +kernel
theorem dX6_append_33 : decode cX6_append 33 = .ok (.iload 4, 2) := by decide +kernel
theorem dX6_append_35 : decode cX6_append 35 = .ok (.imul, 1) := by decide +kernel
theorem dX6_append_36 : decode cX6_append 36 = .ok (.lushr, 1) := by decide +kernel
theorem dX6_append_37 : decode cX6_append 37 = .ok (.l2i, 1) := by decide +kernel
theorem dX6_append_38 : decode cX6_append 38 = .ok (.i2b, 1) := by decide +kernel
theorem dX6_append_39 : decode cX6_append 39 = .ok (.bastore, 1) := by decide +kernel
theorem dX6_append_40 : decode cX6_append 40 = .ok (.aload_n 0, 1) := by decide +kernel
theorem dX6_append_41 : decode cX6_append 41 = .ok (.dup, 1) := by decide +kernel
theorem dX6_append_42 : decode cX6_append 42 = .ok (.getfield 15, 3) := by decide +kernel
theorem dX6_append_45 : decode cX6_append 45 = .ok (.iconst 1, 1) := by decide +kernel
theorem dX6_append_46 : decode cX6_append 46 = .ok (.iadd, 1) := by decide +kernel
theorem dX6_append_47 : decode cX6_append 47 = .ok (.putfield 15, 3) := by decide +kernel
theorem dX6_append_50 : decode cX6_append 50 = .ok (.iinc 4 (-1), 3) := by decide +kernel
theorem dX6_append_53 : decode cX6_append 53 = .ok (.goto (-48), 3) := by decide +kernel
theorem dX6_append_56 : decode cX6_append 56 = .ok (.return_, 1) := by decide +kernel
theorem dX6_byteAt_0 : decode cX6_byteAt 0 = .ok (.iload_n 1, 1) := by decide +kernel
theorem dX6_byteAt_1 : decode cX6_byteAt 1 = .ok (.ifCond .lt 33, 3) := by decide +kernel
theorem dX6_byteAt_4 : decode cX6_byteAt 4 = .ok (.iload_n 1, 1) := by decide +kernel
theorem dX6_byteAt_5 : decode cX6_byteAt 5 = .ok (.aload_n 0, 1) := by decide +kernel
theorem dX6_byteAt_6 : decode cX6_byteAt 6 = .ok (.getfield 15, 3) := by decide +kernel
theorem dX6_byteAt_9 : decode cX6_byteAt 9 = .ok (.if_icmp .ge 25, 3) := by decide +kernel
theorem dX6_byteAt_12 : decode cX6_byteAt 12 = .ok (.iload_n 1, 1) := by decide +kernel
theorem dX6_byteAt_13 : decode cX6_byteAt 13 = .ok (.aload_n 0, 1) := by decide +kernel
theorem dX6_byteAt_14 : decode cX6_byteAt 14 = .ok (.getfield 9, 3) := by decide +kernel
theorem dX6_byteAt_17 : decode cX6_byteAt 17 = .ok (.arraylength, 1) := by decide +kernel
theorem dX6_byteAt_18 : decode cX6_byteAt 18 = .ok (.if_icmp .ge 16, 3) := by decide +kernel
theorem dX6_byteAt_21 : decode cX6_byteAt 21 = .ok (.aload_n 0, 1) := by decide +kernel
theorem dX6_byteAt_22 : decode cX6_byteAt 22 = .ok (.getfield 9, 3) := by decide +kernel
theorem dX6_byteAt_25 : decode cX6_byteAt 25 = .ok (.iload_n 1, 1) := by decide +kernel
theorem dX6_byteAt_26 : decode cX6_byteAt 26 = .ok (.baload, 1) := by decide +kernel
theorem dX6_byteAt_27 : decode cX6_byteAt 27 = .ok (.sipush 255, 3) := by decide +kernel
theorem dX6_byteAt_30 : decode cX6_byteAt 30 = .ok (.iand, 1) := by decide +kernel
theorem dX6_byteAt_31 : decode cX6_byteAt 31 = .ok (.goto 4, 3) := by decide +kernel
theorem dX6_byteAt_34 : decode cX6_byteAt 34 = .ok (.iconst (-1), 1) := by decide +kernel
theorem dX6_byteAt_35 : decode cX6_byteAt 35 = .ok (.ireturn, 1) := by decide +kernel
theorem dX7_init_0 : decode cX7_init 0 = .ok (.aload_n 0, 1) := by decide +kernel
theorem dX7_init_1 : decode cX7_init 1 = .ok (.invokespecial 3, 3) := by decide +kernel
theorem dX7_init_4 : decode cX7_init 4 = .ok (.aload_n 0, 1) := by decide +kernel
theorem dX7_init_5 : decode cX7_init 5 = .ok (.new 9, 3) := by decide +kernel
theorem dX7_init_8 : decode cX7_init 8 = .ok (.dup, 1) := by decide +kernel
theorem dX7_init_9 : decode cX7_init 9 = .ok (.invokespecial 11, 3) := by decide +kernel
theorem dX7_init_12 : decode cX7_init 12 = .ok (.putfield 12, 3) := by decide +kernel
theorem dX7_init_15 : decode cX7_init 15 = .ok (.aload_n 0, 1) := by decide +kernel
theorem dX7_init_16 : decode cX7_init 16 = .ok (.new 16, 3) := by decide +kernel
theorem dX7_init_19 : decode cX7_init 19 = .ok (.dup, 1) := by decide +kernel
theorem dX7_init_20 : decode cX7_init 20 = .ok (.invokespecial 18, 3) := by decide +kernel
theorem dX7_init_23 : decode cX7_init 23 = .ok (.putfield 19, 3) := by decide +kernel
theorem dX7_init_26 : decode cX7_init 26 = .ok (.aload_n 0, 1) := by decide +kernel
theorem dX7_init_27 : decode cX7_init 27 = .ok (.new 23, 3) := by decide +kernel
theorem dX7_init_30 : decode cX7_init 30 = .ok (.dup, 1) := by decide +kernel
theorem dX7_init_31 : decode cX7_init 31 = .ok (.aload_n 0, 1) := by decide +kernel
theorem dX7_init_32 : decode cX7_init 32 = .ok (.getfield 12, 3) := by decide +kernel
theorem dX7_init_35 : decode cX7_init 35 = .ok (.invokespecial 25, 3) := by decide +kernel
theorem dX7_init_38 : decode cX7_init 38 = .ok (.putfield 28, 3) := by decide +kernel
theorem dX7_init_41 : decode cX7_init 41 = .ok (.aload_n 0, 1) := by decide +kernel
theorem dX7_init_42 : decode cX7_init 42 = .ok (.new 32, 3) := by decide +kernel
theorem dX7_init_45 : decode cX7_init 45 = .ok (.dup, 1) := by decide +kernel
theorem dX7_init_46 : decode cX7_init 46 = .ok (.aload_n 0, 1) := by decide +kernel
theorem dX7_init_47 : decode cX7_init 47 = .ok (.getfield 19, 3) := by decide +kernel
theorem dX7_init_50 : decode cX7_init 50 = .ok (.invokespecial 34, 3) := by decide +kernel
theorem dX7_init_53 : decode cX7_init 53 = .ok (.putfield 37, 3) := by decide +kernel
theorem dX7_init_56 : decode cX7_init 56 = .ok (.aload_n 0, 1) := by decide +kernel
theorem dX7_init_57 : decode cX7_init 57 = .ok (.new 41, 3) := by decide +kernel
theorem dX7_init_60 : decode cX7_init 60 = .ok (.dup, 1) := by decide +kernel
theorem dX7_init_61 : decode cX7_init 61 = .ok (.aload_n 0, 1) := by decide +kernel
theorem dX7_init_62 : decode cX7_init 62 = .ok (.getfield 19, 3) := by decide +kernel
theorem dX7_init_65 : decode cX7_init 65 = .ok (.aload_n 0, 1) := by decide +kernel
theorem dX7_init_66 : decode cX7_init 66 = .ok (.getfield 37, 3) := by decide +kernel
theorem dX7_init_69 : decode cX7_init 69 = .ok (.invokespecial 43, 3) := by decide +kernel
theorem dX7_init_72 : decode cX7_init 72 = .ok (.putfield 46, 3) := by decide +kernel
theorem dX7_init_75 : decode cX7_init 75 = .ok (.aload_n 0, 1) := by decide +kernel
theorem dX7_init_76 : decode cX7_init 76 = .ok (.new 50, 3) := by decide +kernel
theorem dX7_init_79 : decode cX7_init 79 = .ok (.dup, 1) := by decide +kernel
theorem dX7_init_80 : decode cX7_init 80 = .ok (.aload_n 0, 1) := by decide +kernel
theorem dX7_init_81 : decode cX7_init 81 = .ok (.getfield 19, 3) := by decide +kernel
theorem dX7_init_84 : decode cX7_init 84 = .ok (.aload_n 0, 1) := by decide +kernel
theorem dX7_init_85 : decode cX7_init 85 = .ok (.getfield 37, 3) := by decide +kernel
theorem dX7_init_88 : decode cX7_init 88 = .ok (.invokespecial 52, 3) := by decide +kernel
theorem dX7_init_91 : decode cX7_init 91 = .ok (.putfield 53, 3) := by decide +kernel
theorem dX7_init_94 : decode cX7_init 94 = .ok (.aload_n 0, 1) := by decide +kernel
theorem dX7_init_95 : decode cX7_init 95 = .ok (.new 57, 3) := by decide +kernel
theorem dX7_init_98 : decode cX7_init 98 = .ok (.dup, 1) := by decide +kernel
theorem dX7_init_99 : decode cX7_init 99 = .ok (.aload_n 0, 1) := by decide +kernel
theorem dX7_init_100 : decode cX7_init 100 = .ok (.getfield 37, 3) := by decide +kernel
theorem dX7_init_103 : decode cX7_init 103 = .ok (.invokespecial 59, 3) := by decide +kernel
theorem dX7_init_106 : decode cX7_init 106 = .ok (.putfield 62, 3) := by decide +kernel
theorem dX7_init_109 : decode cX7_init 109 = .ok (.aload_n 0, 1) := by decide +kernel
theorem dX7_init_110 : decode cX7_init 110 = .ok (.iconst 2, 1) := by decide +kernel
theorem dX7_init_111 : decode cX7_init 111 = .ok (.anewarray 32, 3) := by decide +kernel
theorem dX7_init_114 : decode cX7_init 114 = .ok (.putfield 66, 3) := by decide +kernel
theorem dX7_init_117 : decode cX7_init 117 = .ok (.aload_n 0, 1) := by decide +kernel
theorem dX7_init_118 : decode cX7_init 118 = .ok (.iconst 2, 1) := by decide +kernel
theorem dX7_init_119 : decode cX7_init 119 = .ok (.newarray .boolean, 2) := by decide +kernel
theorem dX7_init_121 : decode cX7_init 121 = .ok (.putfield 70, 3) := by decide +kernel
theorem dX7_init_124 : decode cX7_init 124 = .ok (.iconst 0, 1) := by decide +kernel
theorem dX7_init_125 : decode cX7_init 125 = .ok (.istore_n 1, 1) := by decide +kernel
theorem dX7_init_126 : decode cX7_init 126 = .ok (.iload_n 1, 1) := by decide +kernel
theorem dX7_init_127 : decode cX7_init 127 = .ok (.aload_n 0, 1) := by decide +kernel
theorem dX7_init_128 : decode cX7_init 128 = .ok (.getfield 66, 3) := by decide +kernel
theorem dX7_init_131 : decode cX7_init 131 = .ok (.arraylength, 1) := by decide +kernel
theorem dX7_init_132 : decode cX7_init 132 = .ok (.if_icmp .ge 26, 3) := by decide +kernel
theorem dX7_init_135 : decode cX7_init 135 = .ok (.aload_n 0, 1) := by decide +kernel
theorem dX7_init_136 : decode cX7_init 136 = .ok (.getfield 66, 3) := by decide +kernel
theorem dX7_init_139 : decode cX7_init 139 = .ok (.iload_n 1, 1) := by decide +kernel
theorem dX7_init_140 : decode cX7_init 140 = .ok (.new 32, 3) := by decide +kernel
theorem dX7_init_143 : decode cX7_init 143 = .ok (.dup, 1) := by decide +kernel
theorem dX7_init_144 : decode cX7_init 144 = .ok (.aload_n 0, 1) := by decide +kernel
theorem dX7_init_145 : decode cX7_init 145 = .ok (.getfield 19, 3) := by decide +kernel
theorem dX7_init_148 : decode cX7_init 148 = .ok (.invokespecial 34, 3) := by decide +kernel
theorem dX7_init_151 : decode cX7_init 151 = .ok (.aastore, 1) := by decide +kernel
theorem dX7_init_152 : decode cX7_init 152 = .ok (.iinc 1 1, 3) := by decide +kernel
theorem dX7_init_155 : decode cX7_init 155 = .ok (.goto (-29), 3) := by decide +kernel
theorem dX7_init_158 : decode cX7_init 158 = .ok (.return_, 1) := by decide +kernel
theorem dX7_feed_0 : decode cX7_feed 0 = .ok (.iload_n 1, 1) := by decide +kernel
theorem dX7_feed_1 : decode cX7_feed 1 = .ok (.iconst 1, 1) := by decide +kernel
theorem dX7_feed_2 : decode cX7_feed 2 = .ok (.if_icmp .lt 9, 3) := by decide +kernel
theorem dX7_feed_5 : decode cX7_feed 5 = .ok (.iload_n 1, 1) := by decide +kernel
theorem dX7_feed_6 : decode cX7_feed 6 = .ok (.bipush 8, 2) := by decide +kernel
theorem dX7_feed_8 : decode cX7_feed 8 = .ok (.if_icmp .le 6, 3) := by decide +kernel
theorem dX7_feed_11 : decode cX7_feed 11 = .ok (.ldc 74, 2) := by decide +kernel
theorem dX7_feed_13 : decode cX7_feed 13 = .ok (.ireturn, 1) := by decide +kernel
theorem dX7_feed_14 : decode cX7_feed 14 = .ok (.aload_n 0, 1) := by decide +kernel
theorem dX7_feed_15 : decode cX7_feed 15 = .ok (.getfield 12, 3) := by decide +kernel
theorem dX7_feed_18 : decode cX7_feed 18 = .ok (.getfield 75, 3) := by decide +kernel
theorem dX7_feed_21 : decode cX7_feed 21 = .ok (.iload_n 1, 1) := by decide +kernel
theorem dX7_feed_22 : decode cX7_feed 22 = .ok (.iadd, 1) := by decide +kernel
theorem dX7_feed_23 : decode cX7_feed 23 = .ok (.sipush 500, 3) := by decide +kernel
theorem dX7_feed_26 : decode cX7_feed 26 = .ok (.if_icmp .le 6, 3) := by decide +kernel
theorem dX7_feed_29 : decode cX7_feed 29 = .ok (.ldc 79, 2) := by decide +kernel
theorem dX7_feed_31 : decode cX7_feed 31 = .ok (.ireturn, 1) := by decide +kernel
theorem dX7_feed_32 : decode cX7_feed 32 = .ok (.aload_n 0, 1) := by decide +kernel
theorem dX7_feed_33 : decode cX7_feed 33 = .ok (.getfield 12, 3) := by decide +kernel
theorem dX7_feed_36 : decode cX7_feed 36 = .ok (.iload_n 1, 1) := by decide +kernel
theorem dX7_feed_37 : decode cX7_feed 37 = .ok (.lload_n 2, 1) := by decide +kernel
theorem dX7_feed_38 : decode cX7_feed 38 = .ok (.invokevirtual 80, 3) := by decide +kernel
theorem dX7_feed_41 : decode cX7_feed 41 = .ok (.aload_n 0, 1) := by decide +kernel
theorem dX7_feed_42 : decode cX7_feed 42 = .ok (.getfield 12, 3) := by decide +kernel
theorem dX7_feed_45 : decode cX7_feed 45 = .ok (.getfield 75, 3) := by decide +kernel
theorem dX7_feed_48 : decode cX7_feed 48 = .ok (.ireturn, 1) := by decide +kernel
theorem dX7_province_0 : decode cX7_province 0 = .ok (.aload_n 0, 1) := by decide +kernel
theorem dX7_province_1 : decode cX7_province 1 = .ok (.getfield 28, 3) := by decide +kernel
theorem dX7_province_4 : decode cX7_province 4 = .ok (.invokevirtual 84, 3) := by decide +kernel
theorem dX7_province_7 : decode cX7_province 7 = .ok (.istore_n 1, 1) := by decide +kernel
theorem dX7_province_8 : decode cX7_province 8 = .ok (.aload_n 0, 1) := by decide +kernel
theorem dX7_province_9 : decode cX7_province 9 = .ok (.getfield 12, 3) := by decide +kernel
theorem dX7_province_12 : decode cX7_province 12 = .ok (.iconst 0, 1) := by decide +kernel
theorem dX7_province_13 : decode cX7_province 13 = .ok (.putfield 75, 3) := by decide +kernel
theorem dX7_province_16 : decode cX7_province 16 = .ok (.iload_n 1, 1) := by decide +kernel
theorem dX7_province_17 : decode cX7_province 17 = .ok (.ifCond .ne 14, 3) := by decide +kernel
theorem dX7_province_20 : decode cX7_province 20 = .ok (.bipush (-10), 2) := by decide +kernel
theorem dX7_province_22 : decode cX7_province 22 = .ok (.aload_n 0, 1) := by decide +kernel
theorem dX7_province_23 : decode cX7_province 23 = .ok (.getfield 28, 3) := by decide +kernel
theorem dX7_province_26 : decode cX7_province 26 = .ok (.getfield 88, 3) := by decide +kernel
theorem dX7_province_29 : decode cX7_province 29 = .ok (.isub, 1) := by decide +kernel
theorem dX7_province_30 : decode cX7_province 30 = .ok (.ireturn, 1) := by decide +kernel
theorem dX7_province_31 : decode cX7_province 31 = .ok (.aload_n 0, 1) := by decide +kernel
theorem dX7_province_32 : decode cX7_province 32 = .ok (.getfield 19, 3) := by decide +kernel
theorem dX7_province_35 : decode cX7_province 35 = .ok (.aload_n 0, 1) := by decide +kernel
theorem dX7_province_36 : decode cX7_province 36 = .ok (.getfield 28, 3) := by decide +kernel
theorem dX7_province_39 : decode cX7_province 39 = .ok (.getfield 91, 3) := by decide +kernel
theorem dX7_province_42 : decode cX7_province 42 = .ok (.invokevirtual 94, 3) := by decide +kernel
theorem dX7_province_45 : decode cX7_province 45 = .ok (.aload_n 0, 1) := by decide +kernel
theorem dX7_province_46 : decode cX7_province 46 = .ok (.getfield 37, 3) := by decide +kernel
theorem dX7_province_49 : decode cX7_province 49 = .ok (.invokevirtual 97, 3) := by decide +kernel
theorem dX7_province_52 : decode cX7_province 52 = .ok (.aload_n 0, 1) := by decide +kernel
theorem dX7_province_53 : decode cX7_province 53 = .ok (.getfield 53, 3) := by decide +kernel
theorem dX7_province_56 : decode cX7_province 56 = .ok (.invokevirtual 100, 3) := by decide +kernel
theorem dX7_province_59 : decode cX7_province 59 = .ok (.aload_n 0, 1) := by decide +kernel
theorem dX7_province_60 : decode cX7_province 60 = .ok (.getfield 62, 3) := by decide +kernel
theorem dX7_province_63 : decode cX7_province 63 = .ok (.iconst 0, 1) := by decide +kernel
theorem dX7_province_64 : decode cX7_province 64 = .ok (.putfield 103, 3) := by decide +kernel
theorem dX7_province_67 : decode cX7_province 67 = .ok (.iconst 0, 1) := by decide +kernel
theorem dX7_province_68 : decode cX7_province 68 = .ok (.istore_n 2, 1) := by decide +kernel
theorem dX7_province_69 : decode cX7_province 69 = .ok (.iload_n 2, 1) := by decide +kernel
theorem dX7_province_70 : decode cX7_province 70 = .ok (.aload_n 0, 1) := by decide +kernel
theorem dX7_province_71 : decode cX7_province 71 = .ok (.getfield 70, 3) := by decide +kernel
theorem dX7_province_74 : decode cX7_province 74 = .ok (.arraylength, 1) := by decide +kernel
theorem dX7_province_75 : decode cX7_province 75 = .ok (.if_icmp .ge 16, 3) := by decide +kernel
theorem dX7_province_78 : decode cX7_province 78 = .ok (.aload_n 0, 1) := by decide +kernel
theorem dX7_province_79 : decode cX7_province 79 = .ok (.getfield 70, 3) := by decide +kernel
theorem dX7_province_82 : decode cX7_province 82 = .ok (.iload_n 2, 1) := by decide +kernel
theorem dX7_province_83 : decode cX7_province 83 = .ok (.iconst 0, 1) := by decide +kernel
theorem dX7_province_84 : decode cX7_province 84 = .ok (.bastore, 1) := by decide +kernel
theorem dX7_province_85 : decode cX7_province 85 = .ok (.iinc 2 1, 3) := by decide +kernel
theorem dX7_province_88 : decode cX7_province 88 = .ok (.goto (-19), 3) := by decide +kernel
theorem dX7_province_91 : decode cX7_province 91 = .ok (.aload_n 0, 1) := by decide +kernel
theorem dX7_province_92 : decode cX7_province 92 = .ok (.getfield 19, 3) := by decide +kernel
theorem dX7_province_95 : decode cX7_province 95 = .ok (.invokevirtual 106, 3) := by decide +kernel
theorem dX7_province_98 : decode cX7_province 98 = .ok (.ireturn, 1) := by decide +kernel
theorem dX7_fault_0 : decode cX7_fault 0 = .ok (.aload_n 0, 1) := by decide +kernel
theorem dX7_fault_1 : decode cX7_fault 1 = .ok (.getfield 28, 3) := by decide +kernel
theorem dX7_fault_4 : decode cX7_fault 4 = .ok (.getfield 110, 3) := by decide +kernel
theorem dX7_fault_7 : decode cX7_fault 7 = .ok (.ireturn, 1) := by decide +kernel
theorem dX7_told_0 : decode cX7_told 0 = .ok (.iload_n 1, 1) := by decide +kernel
theorem dX7_told_1 : decode cX7_told 1 = .ok (.tableswitch 161 0 10 #[59, 67, 75, 83, 91, 99, 107, 115, 130, 138, 146], 59) := by decide +kernel
theorem dX7_told_60 : decode cX7_told 60 = .ok (.aload_n 0, 1) := by decide +kernel
theorem dX7_told_61 : decode cX7_told 61 = .ok (.getfield 19, 3) := by decide +kernel
theorem dX7_told_64 : decode cX7_told 64 = .ok (.getfield 113, 3) := by decide +kernel
theorem dX7_told_67 : decode cX7_told 67 = .ok (.ireturn, 1) := by decide +kernel
theorem dX7_told_68 : decode cX7_told 68 = .ok (.aload_n 0, 1) := by decide +kernel
theorem dX7_told_69 : decode cX7_told 69 = .ok (.getfield 19, 3) := by decide +kernel
theorem dX7_told_72 : decode cX7_told 72 = .ok (.getfield 116, 3) := by decide +kernel
theorem dX7_told_75 : decode cX7_told 75 = .ok (.ireturn, 1) := by decide +kernel
theorem dX7_told_76 : decode cX7_told 76 = .ok (.aload_n 0, 1) := by decide +kernel
theorem dX7_told_77 : decode cX7_told 77 = .ok (.getfield 19, 3) := by decide +kernel
theorem dX7_told_80 : decode cX7_told 80 = .ok (.getfield 119, 3) := by decide +kernel
theorem dX7_told_83 : decode cX7_told 83 = .ok (.ireturn, 1) := by decide +kernel
theorem dX7_told_84 : decode cX7_told 84 = .ok (.aload_n 0, 1) := by decide +kernel
theorem dX7_told_85 : decode cX7_told 85 = .ok (.getfield 19, 3) := by decide +kernel
theorem dX7_told_88 : decode cX7_told 88 = .ok (.getfield 122, 3) := by decide +kernel
theorem dX7_told_91 : decode cX7_told 91 = .ok (.ireturn, 1) := by decide +kernel
theorem dX7_told_92 : decode cX7_told 92 = .ok (.aload_n 0, 1) := by decide +kernel
theorem dX7_told_93 : decode cX7_told 93 = .ok (.getfield 19, 3) := by decide +kernel
theorem dX7_told_96 : decode cX7_told 96 = .ok (.getfield 125, 3) := by decide +kernel
theorem dX7_told_99 : decode cX7_told 99 = .ok (.ireturn, 1) := by decide +kernel
theorem dX7_told_100 : decode cX7_told 100 = .ok (.aload_n 0, 1) := by decide +kernel
theorem dX7_told_101 : decode cX7_told 101 = .ok (.getfield 12, 3) := by decide +kernel
theorem dX7_told_104 : decode cX7_told 104 = .ok (.getfield 75, 3) := by decide +kernel
theorem dX7_told_107 : decode cX7_told 107 = .ok (.ireturn, 1) := by decide +kernel
theorem dX7_told_108 : decode cX7_told 108 = .ok (.aload_n 0, 1) := by decide +kernel
theorem dX7_told_109 : decode cX7_told 109 = .ok (.getfield 37, 3) := by decide +kernel
theorem dX7_told_112 : decode cX7_told 112 = .ok (.getfield 128, 3) := by decide +kernel
theorem dX7_told_115 : decode cX7_told 115 = .ok (.ireturn, 1) := by decide +kernel
theorem dX7_told_116 : decode cX7_told 116 = .ok (.aload_n 0, 1) := by decide +kernel
theorem dX7_told_117 : decode cX7_told 117 = .ok (.getfield 19, 3) := by decide +kernel
theorem dX7_told_120 : decode cX7_told 120 = .ok (.aload_n 0, 1) := by decide +kernel
theorem dX7_told_121 : decode cX7_told 121 = .ok (.getfield 19, 3) := by decide +kernel
theorem dX7_told_124 : decode cX7_told 124 = .ok (.getfield 131, 3) := by decide +kernel
theorem dX7_told_127 : decode cX7_told 127 = .ok (.invokevirtual 134, 3) := by decide +kernel
theorem dX7_told_130 : decode cX7_told 130 = .ok (.ireturn, 1) := by decide +kernel
theorem dX7_told_131 : decode cX7_told 131 = .ok (.aload_n 0, 1) := by decide +kernel
theorem dX7_told_132 : decode cX7_told 132 = .ok (.getfield 53, 3) := by decide +kernel
theorem dX7_told_135 : decode cX7_told 135 = .ok (.getfield 138, 3) := by decide +kernel
theorem dX7_told_138 : decode cX7_told 138 = .ok (.ireturn, 1) := by decide +kernel
theorem dX7_told_139 : decode cX7_told 139 = .ok (.aload_n 0, 1) := by decide +kernel
theorem dX7_told_140 : decode cX7_told 140 = .ok (.getfield 62, 3) := by decide +kernel
theorem dX7_told_143 : decode cX7_told 143 = .ok (.getfield 103, 3) := by decide +kernel
theorem dX7_told_146 : decode cX7_told 146 = .ok (.ireturn, 1) := by decide +kernel
theorem dX7_told_147 : decode cX7_told 147 = .ok (.aload_n 0, 1) := by decide +kernel
theorem dX7_told_148 : decode cX7_told 148 = .ok (.getfield 37, 3) := by decide +kernel
theorem dX7_told_151 : decode cX7_told 151 = .ok (.aload_n 0, 1) := by decide +kernel
theorem dX7_told_152 : decode cX7_told 152 = .ok (.getfield 19, 3) := by decide +kernel
theorem dX7_told_155 : decode cX7_told 155 = .ok (.getfield 131, 3) := by decide +kernel
theorem dX7_told_158 : decode cX7_told 158 = .ok (.invokevirtual 139, 3) := by decide +kernel
theorem dX7_told_161 : decode cX7_told 161 = .ok (.ireturn, 1) := by decide +kernel
theorem dX7_told_162 : decode cX7_told 162 = .ok (.ldc 74, 2) := by decide +kernel
theorem dX7_told_164 : decode cX7_told 164 = .ok (.ireturn, 1) := by decide +kernel
theorem dX7_depth_0 : decode cX7_depth 0 = .ok (.aload_n 0, 1) := by decide +kernel
theorem dX7_depth_1 : decode cX7_depth 1 = .ok (.getfield 19, 3) := by decide +kernel
theorem dX7_depth_4 : decode cX7_depth 4 = .ok (.iload_n 1, 1) := by decide +kernel
theorem dX7_depth_5 : decode cX7_depth 5 = .ok (.iload_n 2, 1) := by decide +kernel
theorem dX7_depth_6 : decode cX7_depth 6 = .ok (.invokevirtual 142, 3) := by decide +kernel
theorem dX7_depth_9 : decode cX7_depth 9 = .ok (.ifCond .ne 6, 3) := by decide +kernel
theorem dX7_depth_12 : decode cX7_depth 12 = .ok (.ldc 146, 2) := by decide +kernel
theorem dX7_depth_14 : decode cX7_depth 14 = .ok (.ireturn, 1) := by decide +kernel
theorem dX7_depth_15 : decode cX7_depth 15 = .ok (.iload_n 3, 1) := by decide +kernel
theorem dX7_depth_16 : decode cX7_depth 16 = .ok (.ifCond .lt 9, 3) := by decide +kernel
theorem dX7_depth_19 : decode cX7_depth 19 = .ok (.iload_n 3, 1) := by decide +kernel
theorem dX7_depth_20 : decode cX7_depth 20 = .ok (.bipush 99, 2) := by decide +kernel
theorem dX7_depth_22 : decode cX7_depth 22 = .ok (.if_icmp .le 6, 3) := by decide +kernel
theorem dX7_depth_25 : decode cX7_depth 25 = .ok (.ldc 74, 2) := by decide +kernel
theorem dX7_depth_27 : decode cX7_depth 27 = .ok (.ireturn, 1) := by decide +kernel
theorem dX7_depth_28 : decode cX7_depth 28 = .ok (.aload_n 0, 1) := by decide +kernel
theorem dX7_depth_29 : decode cX7_depth 29 = .ok (.getfield 37, 3) := by decide +kernel
theorem dX7_depth_32 : decode cX7_depth 32 = .ok (.aload_n 0, 1) := by decide +kernel
theorem dX7_depth_33 : decode cX7_depth 33 = .ok (.getfield 19, 3) := by decide +kernel
theorem dX7_depth_36 : decode cX7_depth 36 = .ok (.iload_n 1, 1) := by decide +kernel
theorem dX7_depth_37 : decode cX7_depth 37 = .ok (.iload_n 2, 1) := by decide +kernel
theorem dX7_depth_38 : decode cX7_depth 38 = .ok (.invokevirtual 147, 3) := by decide +kernel
theorem dX7_depth_41 : decode cX7_depth 41 = .ok (.aload_n 0, 1) := by decide +kernel
theorem dX7_depth_42 : decode cX7_depth 42 = .ok (.getfield 37, 3) := by decide +kernel
theorem dX7_depth_45 : decode cX7_depth 45 = .ok (.getfield 128, 3) := by decide +kernel
theorem dX7_depth_48 : decode cX7_depth 48 = .ok (.iload_n 3, 1) := by decide +kernel
theorem dX7_depth_49 : decode cX7_depth 49 = .ok (.iadd, 1) := by decide +kernel
theorem dX7_depth_50 : decode cX7_depth 50 = .ok (.invokevirtual 151, 3) := by decide +kernel
theorem dX7_depth_53 : decode cX7_depth 53 = .ok (.ireturn, 1) := by decide +kernel
theorem dX7_man_0 : decode cX7_man 0 = .ok (.aload_n 0, 1) := by decide +kernel
theorem dX7_man_1 : decode cX7_man 1 = .ok (.getfield 19, 3) := by decide +kernel
theorem dX7_man_4 : decode cX7_man 4 = .ok (.iload_n 1, 1) := by decide +kernel
theorem dX7_man_5 : decode cX7_man 5 = .ok (.invokevirtual 154, 3) := by decide +kernel
theorem dX7_man_8 : decode cX7_man 8 = .ok (.ifCond .ne 6, 3) := by decide +kernel
theorem dX7_man_11 : decode cX7_man 11 = .ok (.ldc 146, 2) := by decide +kernel
theorem dX7_man_13 : decode cX7_man 13 = .ok (.ireturn, 1) := by decide +kernel
theorem dX7_man_14 : decode cX7_man 14 = .ok (.iload_n 2, 1) := by decide +kernel
theorem dX7_man_15 : decode cX7_man 15 = .ok (.tableswitch 132 0 6 #[41, 58, 75, 85, 95, 105, 122], 41) := by decide +kernel
theorem dX7_man_56 : decode cX7_man 56 = .ok (.aload_n 0, 1) := by decide +kernel
theorem dX7_man_57 : decode cX7_man 57 = .ok (.getfield 19, 3) := by decide +kernel
theorem dX7_man_60 : decode cX7_man 60 = .ok (.aload_n 0, 1) := by decide +kernel
theorem dX7_man_61 : decode cX7_man 61 = .ok (.getfield 37, 3) := by decide +kernel
theorem dX7_man_64 : decode cX7_man 64 = .ok (.getfield 158, 3) := by decide +kernel
theorem dX7_man_67 : decode cX7_man 67 = .ok (.iload_n 1, 1) := by decide +kernel
theorem dX7_man_68 : decode cX7_man 68 = .ok (.iaload, 1) := by decide +kernel
theorem dX7_man_69 : decode cX7_man 69 = .ok (.invokevirtual 162, 3) := by decide +kernel
theorem dX7_man_72 : decode cX7_man 72 = .ok (.ireturn, 1) := by decide +kernel
theorem dX7_man_73 : decode cX7_man 73 = .ok (.aload_n 0, 1) := by decide +kernel
theorem dX7_man_74 : decode cX7_man 74 = .ok (.getfield 19, 3) := by decide +kernel
theorem dX7_man_77 : decode cX7_man 77 = .ok (.aload_n 0, 1) := by decide +kernel
theorem dX7_man_78 : decode cX7_man 78 = .ok (.getfield 37, 3) := by decide +kernel
theorem dX7_man_81 : decode cX7_man 81 = .ok (.getfield 158, 3) := by decide +kernel
theorem dX7_man_84 : decode cX7_man 84 = .ok (.iload_n 1, 1) := by decide +kernel
theorem dX7_man_85 : decode cX7_man 85 = .ok (.iaload, 1) := by decide +kernel
theorem dX7_man_86 : decode cX7_man 86 = .ok (.invokevirtual 165, 3) := by decide +kernel
theorem dX7_man_89 : decode cX7_man 89 = .ok (.ireturn, 1) := by decide +kernel
theorem dX7_man_90 : decode cX7_man 90 = .ok (.aload_n 0, 1) := by decide +kernel
theorem dX7_man_91 : decode cX7_man 91 = .ok (.getfield 37, 3) := by decide +kernel
theorem dX7_man_94 : decode cX7_man 94 = .ok (.getfield 168, 3) := by decide +kernel
theorem dX7_man_97 : decode cX7_man 97 = .ok (.iload_n 1, 1) := by decide +kernel
theorem dX7_man_98 : decode cX7_man 98 = .ok (.iaload, 1) := by decide +kernel
theorem dX7_man_99 : decode cX7_man 99 = .ok (.ireturn, 1) := by decide +kernel
theorem dX7_man_100 : decode cX7_man 100 = .ok (.aload_n 0, 1) := by decide +kernel
theorem dX7_man_101 : decode cX7_man 101 = .ok (.getfield 37, 3) := by decide +kernel
theorem dX7_man_104 : decode cX7_man 104 = .ok (.getfield 171, 3) := by decide +kernel
theorem dX7_man_107 : decode cX7_man 107 = .ok (.iload_n 1, 1) := by decide +kernel
theorem dX7_man_108 : decode cX7_man 108 = .ok (.iaload, 1) := by decide +kernel
theorem dX7_man_109 : decode cX7_man 109 = .ok (.ireturn, 1) := by decide +kernel
theorem dX7_man_110 : decode cX7_man 110 = .ok (.aload_n 0, 1) := by decide +kernel
theorem dX7_man_111 : decode cX7_man 111 = .ok (.getfield 37, 3) := by decide +kernel
theorem dX7_man_114 : decode cX7_man 114 = .ok (.getfield 174, 3) := by decide +kernel
theorem dX7_man_117 : decode cX7_man 117 = .ok (.iload_n 1, 1) := by decide +kernel
theorem dX7_man_118 : decode cX7_man 118 = .ok (.iaload, 1) := by decide +kernel
theorem dX7_man_119 : decode cX7_man 119 = .ok (.ireturn, 1) := by decide +kernel
theorem dX7_man_120 : decode cX7_man 120 = .ok (.aload_n 0, 1) := by decide +kernel
theorem dX7_man_121 : decode cX7_man 121 = .ok (.getfield 37, 3) := by decide +kernel
theorem dX7_man_124 : decode cX7_man 124 = .ok (.iload_n 1, 1) := by decide +kernel
theorem dX7_man_125 : decode cX7_man 125 = .ok (.invokevirtual 177, 3) := by decide +kernel
theorem dX7_man_128 : decode cX7_man 128 = .ok (.ifCond .eq 7, 3) := by decide +kernel
theorem dX7_man_131 : decode cX7_man 131 = .ok (.iconst 1, 1) := by decide +kernel
theorem dX7_man_132 : decode cX7_man 132 = .ok (.goto 4, 3) := by decide +kernel
theorem dX7_man_135 : decode cX7_man 135 = .ok (.iconst 0, 1) := by decide +kernel
theorem dX7_man_136 : decode cX7_man 136 = .ok (.ireturn, 1) := by decide +kernel
theorem dX7_man_137 : decode cX7_man 137 = .ok (.aload_n 0, 1) := by decide +kernel
theorem dX7_man_138 : decode cX7_man 138 = .ok (.getfield 37, 3) := by decide +kernel
theorem dX7_man_141 : decode cX7_man 141 = .ok (.getfield 180, 3) := by decide +kernel
theorem dX7_man_144 : decode cX7_man 144 = .ok (.iload_n 1, 1) := by decide +kernel
theorem dX7_man_145 : decode cX7_man 145 = .ok (.iaload, 1) := by decide +kernel
theorem dX7_man_146 : decode cX7_man 146 = .ok (.ireturn, 1) := by decide +kernel
theorem dX7_man_147 : decode cX7_man 147 = .ok (.ldc 74, 2) := by decide +kernel
theorem dX7_man_149 : decode cX7_man 149 = .ok (.ireturn, 1) := by decide +kernel
theorem dX7_order_0 : decode cX7_order 0 = .ok (.aload_n 0, 1) := by decide +kernel
theorem dX7_order_1 : decode cX7_order 1 = .ok (.getfield 19, 3) := by decide +kernel
theorem dX7_order_4 : decode cX7_order 4 = .ok (.iload_n 1, 1) := by decide +kernel
theorem dX7_order_5 : decode cX7_order 5 = .ok (.invokevirtual 154, 3) := by decide +kernel
theorem dX7_order_8 : decode cX7_order 8 = .ok (.ifCond .ne 6, 3) := by decide +kernel
theorem dX7_order_11 : decode cX7_order 11 = .ok (.ldc 146, 2) := by decide +kernel
theorem dX7_order_13 : decode cX7_order 13 = .ok (.ireturn, 1) := by decide +kernel
theorem dX7_order_14 : decode cX7_order 14 = .ok (.iload_n 2, 1) := by decide +kernel
theorem dX7_order_15 : decode cX7_order 15 = .ok (.invokestatic 183, 3) := by decide +kernel
theorem dX7_order_18 : decode cX7_order 18 = .ok (.ifCond .ne 6, 3) := by decide +kernel
theorem dX7_order_21 : decode cX7_order 21 = .ok (.ldc 74, 2) := by decide +kernel
theorem dX7_order_23 : decode cX7_order 23 = .ok (.ireturn, 1) := by decide +kernel
theorem dX7_order_24 : decode cX7_order 24 = .ok (.aload_n 0, 1) := by decide +kernel
theorem dX7_order_25 : decode cX7_order 25 = .ok (.getfield 37, 3) := by decide +kernel
theorem dX7_order_28 : decode cX7_order 28 = .ok (.getfield 180, 3) := by decide +kernel
theorem dX7_order_31 : decode cX7_order 31 = .ok (.iload_n 1, 1) := by decide +kernel
theorem dX7_order_32 : decode cX7_order 32 = .ok (.iaload, 1) := by decide +kernel
theorem dX7_order_33 : decode cX7_order 33 = .ok (.istore_n 3, 1) := by decide +kernel
theorem dX7_order_34 : decode cX7_order 34 = .ok (.aload_n 0, 1) := by decide +kernel
theorem dX7_order_35 : decode cX7_order 35 = .ok (.getfield 37, 3) := by decide +kernel
theorem dX7_order_38 : decode cX7_order 38 = .ok (.getfield 180, 3) := by decide +kernel
theorem dX7_order_41 : decode cX7_order 41 = .ok (.iload_n 1, 1) := by decide +kernel
theorem dX7_order_42 : decode cX7_order 42 = .ok (.iload_n 2, 1) := by decide +kernel
theorem dX7_order_43 : decode cX7_order 43 = .ok (.iastore, 1) := by decide +kernel
theorem dX7_order_44 : decode cX7_order 44 = .ok (.iload_n 3, 1) := by decide +kernel
theorem dX7_order_45 : decode cX7_order 45 = .ok (.ireturn, 1) := by decide +kernel
theorem dX7_hour_0 : decode cX7_hour 0 = .ok (.aload_n 0, 1) := by decide +kernel
theorem dX7_hour_1 : decode cX7_hour 1 = .ok (.iload_n 1, 1) := by decide +kernel
theorem dX7_hour_2 : decode cX7_hour 2 = .ok (.iconst 0, 1) := by decide +kernel
theorem dX7_hour_3 : decode cX7_hour 3 = .ok (.invokevirtual 186, 3) := by decide +kernel
theorem dX7_hour_6 : decode cX7_hour 6 = .ok (.ireturn, 1) := by decide +kernel
theorem dX7_drift_0 : decode cX7_drift 0 = .ok (.aload_n 0, 1) := by decide +kernel
theorem dX7_drift_1 : decode cX7_drift 1 = .ok (.iload_n 1, 1) := by decide +kernel
theorem dX7_drift_2 : decode cX7_drift 2 = .ok (.iconst 1, 1) := by decide +kernel
theorem dX7_drift_3 : decode cX7_drift 3 = .ok (.invokevirtual 186, 3) := by decide +kernel
theorem dX7_drift_6 : decode cX7_drift 6 = .ok (.ireturn, 1) := by decide +kernel
theorem dX7_saw_0 : decode cX7_saw 0 = .ok (.aload_n 0, 1) := by decide +kernel
theorem dX7_saw_1 : decode cX7_saw 1 = .ok (.getfield 19, 3) := by decide +kernel
theorem dX7_saw_4 : decode cX7_saw 4 = .ok (.iload_n 1, 1) := by decide +kernel
theorem dX7_saw_5 : decode cX7_saw 5 = .ok (.invokevirtual 154, 3) := by decide +kernel
theorem dX7_saw_8 : decode cX7_saw 8 = .ok (.ifCond .ne 6, 3) := by decide +kernel
theorem dX7_saw_11 : decode cX7_saw 11 = .ok (.ldc 146, 2) := by decide +kernel
theorem dX7_saw_13 : decode cX7_saw 13 = .ok (.ireturn, 1) := by decide +kernel
theorem dX7_saw_14 : decode cX7_saw 14 = .ok (.iload_n 2, 1) := by decide +kernel
theorem dX7_saw_15 : decode cX7_saw 15 = .ok (.ifCond .lt 9, 3) := by decide +kernel
theorem dX7_saw_18 : decode cX7_saw 18 = .ok (.iload_n 2, 1) := by decide +kernel
theorem dX7_saw_19 : decode cX7_saw 19 = .ok (.bipush 6, 2) := by decide +kernel
theorem dX7_saw_21 : decode cX7_saw 21 = .ok (.if_icmp .le 6, 3) := by decide +kernel
theorem dX7_saw_24 : decode cX7_saw 24 = .ok (.ldc 74, 2) := by decide +kernel
theorem dX7_saw_26 : decode cX7_saw 26 = .ok (.ireturn, 1) := by decide +kernel
theorem dX7_saw_27 : decode cX7_saw 27 = .ok (.aload_n 0, 1) := by decide +kernel
theorem dX7_saw_28 : decode cX7_saw 28 = .ok (.getfield 37, 3) := by decide +kernel
theorem dX7_saw_31 : decode cX7_saw 31 = .ok (.getfield 168, 3) := by decide +kernel
theorem dX7_saw_34 : decode cX7_saw 34 = .ok (.iload_n 1, 1) := by decide +kernel
theorem dX7_saw_35 : decode cX7_saw 35 = .ok (.iaload, 1) := by decide +kernel
theorem dX7_saw_36 : decode cX7_saw 36 = .ok (.istore_n 3, 1) := by decide +kernel
theorem dX7_saw_37 : decode cX7_saw 37 = .ok (.aload_n 0, 1) := by decide +kernel
theorem dX7_saw_38 : decode cX7_saw 38 = .ok (.getfield 37, 3) := by decide +kernel
theorem dX7_saw_41 : decode cX7_saw 41 = .ok (.getfield 168, 3) := by decide +kernel
theorem dX7_saw_44 : decode cX7_saw 44 = .ok (.iload_n 1, 1) := by decide +kernel
theorem dX7_saw_45 : decode cX7_saw 45 = .ok (.iload_n 2, 1) := by decide +kernel
theorem dX7_saw_46 : decode cX7_saw 46 = .ok (.iastore, 1) := by decide +kernel
theorem dX7_saw_47 : decode cX7_saw 47 = .ok (.iload_n 3, 1) := by decide +kernel
theorem dX7_saw_48 : decode cX7_saw 48 = .ok (.ireturn, 1) := by decide +kernel
theorem dX7_stake_0 : decode cX7_stake 0 = .ok (.aload_n 0, 1) := by decide +kernel
theorem dX7_stake_1 : decode cX7_stake 1 = .ok (.getfield 19, 3) := by decide +kernel
theorem dX7_stake_4 : decode cX7_stake 4 = .ok (.iload_n 1, 1) := by decide +kernel
theorem dX7_stake_5 : decode cX7_stake 5 = .ok (.iload_n 2, 1) := by decide +kernel
theorem dX7_stake_6 : decode cX7_stake 6 = .ok (.invokevirtual 142, 3) := by decide +kernel
theorem dX7_stake_9 : decode cX7_stake 9 = .ok (.ifCond .ne 6, 3) := by decide +kernel
theorem dX7_stake_12 : decode cX7_stake 12 = .ok (.ldc 146, 2) := by decide +kernel
theorem dX7_stake_14 : decode cX7_stake 14 = .ok (.ireturn, 1) := by decide +kernel
theorem dX7_stake_15 : decode cX7_stake 15 = .ok (.aload_n 0, 1) := by decide +kernel
theorem dX7_stake_16 : decode cX7_stake 16 = .ok (.getfield 19, 3) := by decide +kernel
theorem dX7_stake_19 : decode cX7_stake 19 = .ok (.iload_n 1, 1) := by decide +kernel
theorem dX7_stake_20 : decode cX7_stake 20 = .ok (.iload_n 2, 1) := by decide +kernel
theorem dX7_stake_21 : decode cX7_stake 21 = .ok (.invokevirtual 147, 3) := by decide +kernel
theorem dX7_stake_24 : decode cX7_stake 24 = .ok (.istore 4, 2) := by decide +kernel
theorem dX7_stake_26 : decode cX7_stake 26 = .ok (.aload_n 0, 1) := by decide +kernel
theorem dX7_stake_27 : decode cX7_stake 27 = .ok (.getfield 37, 3) := by decide +kernel
theorem dX7_stake_30 : decode cX7_stake 30 = .ok (.getfield 190, 3) := by decide +kernel
theorem dX7_stake_33 : decode cX7_stake 33 = .ok (.iload 4, 2) := by decide +kernel
theorem dX7_stake_35 : decode cX7_stake 35 = .ok (.invokestatic 194, 3) := by decide +kernel
theorem dX7_stake_38 : decode cX7_stake 38 = .ok (.istore 5, 2) := by decide +kernel
theorem dX7_stake_40 : decode cX7_stake 40 = .ok (.aload_n 0, 1) := by decide +kernel
theorem dX7_stake_41 : decode cX7_stake 41 = .ok (.getfield 37, 3) := by decide +kernel
theorem dX7_stake_44 : decode cX7_stake 44 = .ok (.iload_n 3, 1) := by decide +kernel
theorem dX7_stake_45 : decode cX7_stake 45 = .ok (.ifCond .eq 18, 3) := by decide +kernel
theorem dX7_stake_48 : decode cX7_stake 48 = .ok (.aload_n 0, 1) := by decide +kernel
theorem dX7_stake_49 : decode cX7_stake 49 = .ok (.getfield 37, 3) := by decide +kernel
theorem dX7_stake_52 : decode cX7_stake 52 = .ok (.getfield 190, 3) := by decide +kernel
theorem dX7_stake_55 : decode cX7_stake 55 = .ok (.lconst 1, 1) := by decide +kernel
theorem dX7_stake_56 : decode cX7_stake 56 = .ok (.iload 4, 2) := by decide +kernel
theorem dX7_stake_58 : decode cX7_stake 58 = .ok (.lshl, 1) := by decide +kernel
theorem dX7_stake_59 : decode cX7_stake 59 = .ok (.lor, 1) := by decide +kernel
theorem dX7_stake_60 : decode cX7_stake 60 = .ok (.goto 19, 3) := by decide +kernel
theorem dX7_stake_63 : decode cX7_stake 63 = .ok (.aload_n 0, 1) := by decide +kernel
theorem dX7_stake_64 : decode cX7_stake 64 = .ok (.getfield 37, 3) := by decide +kernel
theorem dX7_stake_67 : decode cX7_stake 67 = .ok (.getfield 190, 3) := by decide +kernel
theorem dX7_stake_70 : decode cX7_stake 70 = .ok (.lconst 1, 1) := by decide +kernel
theorem dX7_stake_71 : decode cX7_stake 71 = .ok (.iload 4, 2) := by decide +kernel
theorem dX7_stake_73 : decode cX7_stake 73 = .ok (.lshl, 1) := by decide +kernel
theorem dX7_stake_74 : decode cX7_stake 74 = .ok (.ldc2_w 198, 3) := by decide +kernel
theorem dX7_stake_77 : decode cX7_stake 77 = .ok (.lxor, 1) := by decide +kernel
theorem dX7_stake_78 : decode cX7_stake 78 = .ok (.land, 1) := by decide +kernel
theorem dX7_stake_79 : decode cX7_stake 79 = .ok (.putfield 190, 3) := by decide +kernel
theorem dX7_stake_82 : decode cX7_stake 82 = .ok (.iload 5, 2) := by decide +kernel
theorem dX7_stake_84 : decode cX7_stake 84 = .ok (.ifCond .eq 7, 3) := by decide +kernel
theorem dX7_stake_87 : decode cX7_stake 87 = .ok (.iconst 1, 1) := by decide +kernel
theorem dX7_stake_88 : decode cX7_stake 88 = .ok (.goto 4, 3) := by decide +kernel
theorem dX7_stake_91 : decode cX7_stake 91 = .ok (.iconst 0, 1) := by decide +kernel
theorem dX7_stake_92 : decode cX7_stake 92 = .ok (.ireturn, 1) := by decide +kernel
theorem dX7_canBe_0 : decode cX7_canBe 0 = .ok (.aload_n 0, 1) := by decide +kernel
theorem dX7_canBe_1 : decode cX7_canBe 1 = .ok (.getfield 19, 3) := by decide +kernel
theorem dX7_canBe_4 : decode cX7_canBe 4 = .ok (.iload_n 1, 1) := by decide +kernel
theorem dX7_canBe_5 : decode cX7_canBe 5 = .ok (.invokevirtual 154, 3) := by decide +kernel
theorem dX7_canBe_8 : decode cX7_canBe 8 = .ok (.ifCond .eq 15, 3) := by decide +kernel
theorem dX7_canBe_11 : decode cX7_canBe 11 = .ok (.aload_n 0, 1) := by decide +kernel
theorem dX7_canBe_12 : decode cX7_canBe 12 = .ok (.getfield 19, 3) := by decide +kernel
theorem dX7_canBe_15 : decode cX7_canBe 15 = .ok (.iload_n 2, 1) := by decide +kernel
theorem dX7_canBe_16 : decode cX7_canBe 16 = .ok (.iload_n 3, 1) := by decide +kernel
theorem dX7_canBe_17 : decode cX7_canBe 17 = .ok (.invokevirtual 142, 3) := by decide +kernel
theorem dX7_canBe_20 : decode cX7_canBe 20 = .ok (.ifCond .ne 6, 3) := by decide +kernel
theorem dX7_canBe_23 : decode cX7_canBe 23 = .ok (.ldc 146, 2) := by decide +kernel
theorem dX7_canBe_25 : decode cX7_canBe 25 = .ok (.ireturn, 1) := by decide +kernel
theorem dX7_canBe_26 : decode cX7_canBe 26 = .ok (.aload_n 0, 1) := by decide +kernel
theorem dX7_canBe_27 : decode cX7_canBe 27 = .ok (.getfield 46, 3) := by decide +kernel
theorem dX7_canBe_30 : decode cX7_canBe 30 = .ok (.invokevirtual 200, 3) := by decide +kernel
theorem dX7_canBe_33 : decode cX7_canBe 33 = .ok (.aload_n 0, 1) := by decide +kernel
theorem dX7_canBe_34 : decode cX7_canBe 34 = .ok (.getfield 46, 3) := by decide +kernel
theorem dX7_canBe_37 : decode cX7_canBe 37 = .ok (.iload_n 1, 1) := by decide +kernel
theorem dX7_canBe_38 : decode cX7_canBe 38 = .ok (.aload_n 0, 1) := by decide +kernel
theorem dX7_canBe_39 : decode cX7_canBe 39 = .ok (.getfield 19, 3) := by decide +kernel
theorem dX7_canBe_42 : decode cX7_canBe 42 = .ok (.iload_n 2, 1) := by decide +kernel
theorem dX7_canBe_43 : decode cX7_canBe 43 = .ok (.iload_n 3, 1) := by decide +kernel
theorem dX7_canBe_44 : decode cX7_canBe 44 = .ok (.invokevirtual 147, 3) := by decide +kernel
theorem dX7_canBe_47 : decode cX7_canBe 47 = .ok (.invokevirtual 203, 3) := by decide +kernel
theorem dX7_canBe_50 : decode cX7_canBe 50 = .ok (.ireturn, 1) := by decide +kernel
theorem dX7_canHear_0 : decode cX7_canHear 0 = .ok (.aload_n 0, 1) := by decide +kernel
theorem dX7_canHear_1 : decode cX7_canHear 1 = .ok (.getfield 19, 3) := by decide +kernel
theorem dX7_canHear_4 : decode cX7_canHear 4 = .ok (.iload_n 1, 1) := by decide +kernel
theorem dX7_canHear_5 : decode cX7_canHear 5 = .ok (.invokevirtual 154, 3) := by decide +kernel
theorem dX7_canHear_8 : decode cX7_canHear 8 = .ok (.ifCond .eq 14, 3) := by decide +kernel
theorem dX7_canHear_11 : decode cX7_canHear 11 = .ok (.aload_n 0, 1) := by decide +kernel
theorem dX7_canHear_12 : decode cX7_canHear 12 = .ok (.getfield 19, 3) := by decide +kernel
theorem dX7_canHear_15 : decode cX7_canHear 15 = .ok (.iload_n 2, 1) := by decide +kernel
theorem dX7_canHear_16 : decode cX7_canHear 16 = .ok (.invokevirtual 206, 3) := by decide +kernel
theorem dX7_canHear_19 : decode cX7_canHear 19 = .ok (.ifCond .ne 6, 3) := by decide +kernel
theorem dX7_canHear_22 : decode cX7_canHear 22 = .ok (.ldc 146, 2) := by decide +kernel
theorem dX7_canHear_24 : decode cX7_canHear 24 = .ok (.ireturn, 1) := by decide +kernel
theorem dX7_canHear_25 : decode cX7_canHear 25 = .ok (.aload_n 0, 1) := by decide +kernel
theorem dX7_canHear_26 : decode cX7_canHear 26 = .ok (.getfield 46, 3) := by decide +kernel
theorem dX7_canHear_29 : decode cX7_canHear 29 = .ok (.invokevirtual 200, 3) := by decide +kernel
theorem dX7_canHear_32 : decode cX7_canHear 32 = .ok (.aload_n 0, 1) := by decide +kernel
theorem dX7_canHear_33 : decode cX7_canHear 33 = .ok (.getfield 46, 3) := by decide +kernel
theorem dX7_canHear_36 : decode cX7_canHear 36 = .ok (.iload_n 1, 1) := by decide +kernel
theorem dX7_canHear_37 : decode cX7_canHear 37 = .ok (.iload_n 2, 1) := by decide +kernel
theorem dX7_canHear_38 : decode cX7_canHear 38 = .ok (.invokevirtual 209, 3) := by decide +kernel
theorem dX7_canHear_41 : decode cX7_canHear 41 = .ok (.ireturn, 1) := by decide +kernel
theorem dX7_first_0 : decode cX7_first 0 = .ok (.aload_n 0, 1) := by decide +kernel
theorem dX7_first_1 : decode cX7_first 1 = .ok (.getfield 19, 3) := by decide +kernel
theorem dX7_first_4 : decode cX7_first 4 = .ok (.iload_n 1, 1) := by decide +kernel
theorem dX7_first_5 : decode cX7_first 5 = .ok (.invokevirtual 206, 3) := by decide +kernel
theorem dX7_first_8 : decode cX7_first 8 = .ok (.ifCond .ne 6, 3) := by decide +kernel
theorem dX7_first_11 : decode cX7_first 11 = .ok (.ldc 146, 2) := by decide +kernel
theorem dX7_first_13 : decode cX7_first 13 = .ok (.ireturn, 1) := by decide +kernel
theorem dX7_first_14 : decode cX7_first 14 = .ok (.iload_n 2, 1) := by decide +kernel
theorem dX7_first_15 : decode cX7_first 15 = .ok (.ifCond .lt 8, 3) := by decide +kernel
theorem dX7_first_18 : decode cX7_first 18 = .ok (.iload_n 2, 1) := by decide +kernel
theorem dX7_first_19 : decode cX7_first 19 = .ok (.iconst 1, 1) := by decide +kernel
theorem dX7_first_20 : decode cX7_first 20 = .ok (.if_icmp .le 6, 3) := by decide +kernel
theorem dX7_first_23 : decode cX7_first 23 = .ok (.ldc 74, 2) := by decide +kernel
theorem dX7_first_25 : decode cX7_first 25 = .ok (.ireturn, 1) := by decide +kernel
theorem dX7_first_26 : decode cX7_first 26 = .ok (.aload_n 0, 1) := by decide +kernel
theorem dX7_first_27 : decode cX7_first 27 = .ok (.getfield 46, 3) := by decide +kernel
theorem dX7_first_30 : decode cX7_first 30 = .ok (.invokevirtual 200, 3) := by decide +kernel
theorem dX7_first_33 : decode cX7_first 33 = .ok (.aload_n 0, 1) := by decide +kernel
theorem dX7_first_34 : decode cX7_first 34 = .ok (.getfield 46, 3) := by decide +kernel
theorem dX7_first_37 : decode cX7_first 37 = .ok (.iload_n 1, 1) := by decide +kernel
theorem dX7_first_38 : decode cX7_first 38 = .ok (.bipush 40, 2) := by decide +kernel
theorem dX7_first_40 : decode cX7_first 40 = .ok (.invokevirtual 212, 3) := by decide +kernel
theorem dX7_first_43 : decode cX7_first 43 = .ok (.istore_n 3, 1) := by decide +kernel
theorem dX7_first_44 : decode cX7_first 44 = .ok (.iload_n 2, 1) := by decide +kernel
theorem dX7_first_45 : decode cX7_first 45 = .ok (.ifCond .ne 7, 3) := by decide +kernel
theorem dX7_first_48 : decode cX7_first 48 = .ok (.iload_n 3, 1) := by decide +kernel
theorem dX7_first_49 : decode cX7_first 49 = .ok (.goto 10, 3) := by decide +kernel
theorem dX7_first_52 : decode cX7_first 52 = .ok (.aload_n 0, 1) := by decide +kernel
theorem dX7_first_53 : decode cX7_first 53 = .ok (.getfield 46, 3) := by decide +kernel
theorem dX7_first_56 : decode cX7_first 56 = .ok (.invokevirtual 215, 3) := by decide +kernel
theorem dX7_first_59 : decode cX7_first 59 = .ok (.ireturn, 1) := by decide +kernel
theorem dX7_sawed_0 : decode cX7_sawed 0 = .ok (.aload_n 0, 1) := by decide +kernel
theorem dX7_sawed_1 : decode cX7_sawed 1 = .ok (.getfield 19, 3) := by decide +kernel
theorem dX7_sawed_4 : decode cX7_sawed 4 = .ok (.iload_n 1, 1) := by decide +kernel
theorem dX7_sawed_5 : decode cX7_sawed 5 = .ok (.invokevirtual 206, 3) := by decide +kernel
theorem dX7_sawed_8 : decode cX7_sawed 8 = .ok (.ifCond .eq 19, 3) := by decide +kernel
theorem dX7_sawed_11 : decode cX7_sawed 11 = .ok (.iload_n 3, 1) := by decide +kernel
theorem dX7_sawed_12 : decode cX7_sawed 12 = .ok (.iconst (-1), 1) := by decide +kernel
theorem dX7_sawed_13 : decode cX7_sawed 13 = .ok (.if_icmp .eq 17, 3) := by decide +kernel
theorem dX7_sawed_16 : decode cX7_sawed 16 = .ok (.aload_n 0, 1) := by decide +kernel
theorem dX7_sawed_17 : decode cX7_sawed 17 = .ok (.getfield 19, 3) := by decide +kernel
theorem dX7_sawed_20 : decode cX7_sawed 20 = .ok (.iload_n 3, 1) := by decide +kernel
theorem dX7_sawed_21 : decode cX7_sawed 21 = .ok (.invokevirtual 154, 3) := by decide +kernel
theorem dX7_sawed_24 : decode cX7_sawed 24 = .ok (.ifCond .ne 6, 3) := by decide +kernel
theorem dX7_sawed_27 : decode cX7_sawed 27 = .ok (.ldc 146, 2) := by decide +kernel
theorem dX7_sawed_29 : decode cX7_sawed 29 = .ok (.ireturn, 1) := by decide +kernel
theorem dX7_sawed_30 : decode cX7_sawed 30 = .ok (.iload_n 2, 1) := by decide +kernel
theorem dX7_sawed_31 : decode cX7_sawed 31 = .ok (.ifCond .lt 9, 3) := by decide +kernel
theorem dX7_sawed_34 : decode cX7_sawed 34 = .ok (.iload_n 2, 1) := by decide +kernel
theorem dX7_sawed_35 : decode cX7_sawed 35 = .ok (.bipush 20, 2) := by decide +kernel
theorem dX7_sawed_37 : decode cX7_sawed 37 = .ok (.if_icmp .le 6, 3) := by decide +kernel
theorem dX7_sawed_40 : decode cX7_sawed 40 = .ok (.ldc 74, 2) := by decide +kernel
theorem dX7_sawed_42 : decode cX7_sawed 42 = .ok (.ireturn, 1) := by decide +kernel
theorem dX7_sawed_43 : decode cX7_sawed 43 = .ok (.aload_n 0, 1) := by decide +kernel
theorem dX7_sawed_44 : decode cX7_sawed 44 = .ok (.getfield 46, 3) := by decide +kernel
theorem dX7_sawed_47 : decode cX7_sawed 47 = .ok (.iload_n 1, 1) := by decide +kernel
theorem dX7_sawed_48 : decode cX7_sawed 48 = .ok (.iload_n 2, 1) := by decide +kernel
theorem dX7_sawed_49 : decode cX7_sawed 49 = .ok (.invokevirtual 218, 3) := by decide +kernel
theorem dX7_sawed_52 : decode cX7_sawed 52 = .ok (.istore 4, 2) := by decide +kernel
theorem dX7_sawed_54 : decode cX7_sawed 54 = .ok (.iload 4, 2) := by decide +kernel
theorem dX7_sawed_56 : decode cX7_sawed 56 = .ok (.iconst (-1), 1) := by decide +kernel
theorem dX7_sawed_57 : decode cX7_sawed 57 = .ok (.if_icmp .eq 8, 3) := by decide +kernel
theorem dX7_sawed_60 : decode cX7_sawed 60 = .ok (.iload_n 3, 1) := by decide +kernel
theorem dX7_sawed_61 : decode cX7_sawed 61 = .ok (.iconst (-1), 1) := by decide +kernel
theorem dX7_sawed_62 : decode cX7_sawed 62 = .ok (.if_icmp .ne 6, 3) := by decide +kernel
theorem dX7_sawed_65 : decode cX7_sawed 65 = .ok (.iload 4, 2) := by decide +kernel
theorem dX7_sawed_67 : decode cX7_sawed 67 = .ok (.ireturn, 1) := by decide +kernel
theorem dX7_sawed_68 : decode cX7_sawed 68 = .ok (.aload_n 0, 1) := by decide +kernel
theorem dX7_sawed_69 : decode cX7_sawed 69 = .ok (.getfield 46, 3) := by decide +kernel
theorem dX7_sawed_72 : decode cX7_sawed 72 = .ok (.getfield 221, 3) := by decide +kernel
theorem dX7_sawed_75 : decode cX7_sawed 75 = .ok (.iload_n 3, 1) := by decide +kernel
theorem dX7_sawed_76 : decode cX7_sawed 76 = .ok (.iaload, 1) := by decide +kernel
theorem dX7_sawed_77 : decode cX7_sawed 77 = .ok (.ireturn, 1) := by decide +kernel
theorem dX7_bestStake_0 : decode cX7_bestStake 0 = .ok (.aload_n 0, 1) := by decide +kernel
theorem dX7_bestStake_1 : decode cX7_bestStake 1 = .ok (.getfield 19, 3) := by decide +kernel
theorem dX7_bestStake_4 : decode cX7_bestStake 4 = .ok (.iload_n 1, 1) := by decide +kernel
theorem dX7_bestStake_5 : decode cX7_bestStake 5 = .ok (.invokevirtual 206, 3) := by decide +kernel
theorem dX7_bestStake_8 : decode cX7_bestStake 8 = .ok (.ifCond .ne 6, 3) := by decide +kernel
theorem dX7_bestStake_11 : decode cX7_bestStake 11 = .ok (.ldc 146, 2) := by decide +kernel
theorem dX7_bestStake_13 : decode cX7_bestStake 13 = .ok (.ireturn, 1) := by decide +kernel
theorem dX7_bestStake_14 : decode cX7_bestStake 14 = .ok (.iload_n 2, 1) := by decide +kernel
theorem dX7_bestStake_15 : decode cX7_bestStake 15 = .ok (.ifCond .lt 8, 3) := by decide +kernel
theorem dX7_bestStake_18 : decode cX7_bestStake 18 = .ok (.iload_n 2, 1) := by decide +kernel
theorem dX7_bestStake_19 : decode cX7_bestStake 19 = .ok (.iconst 1, 1) := by decide +kernel
theorem dX7_bestStake_20 : decode cX7_bestStake 20 = .ok (.if_icmp .le 6, 3) := by decide +kernel
theorem dX7_bestStake_23 : decode cX7_bestStake 23 = .ok (.ldc 74, 2) := by decide +kernel
theorem dX7_bestStake_25 : decode cX7_bestStake 25 = .ok (.ireturn, 1) := by decide +kernel
theorem dX7_bestStake_26 : decode cX7_bestStake 26 = .ok (.aload_n 0, 1) := by decide +kernel
theorem dX7_bestStake_27 : decode cX7_bestStake 27 = .ok (.getfield 19, 3) := by decide +kernel
theorem dX7_bestStake_30 : decode cX7_bestStake 30 = .ok (.invokevirtual 106, 3) := by decide +kernel
theorem dX7_bestStake_33 : decode cX7_bestStake 33 = .ok (.ifCond .ne 6, 3) := by decide +kernel
theorem dX7_bestStake_36 : decode cX7_bestStake 36 = .ok (.ldc 224, 2) := by decide +kernel
theorem dX7_bestStake_38 : decode cX7_bestStake 38 = .ok (.ireturn, 1) := by decide +kernel
theorem dX7_bestStake_39 : decode cX7_bestStake 39 = .ok (.aload_n 0, 1) := by decide +kernel
theorem dX7_bestStake_40 : decode cX7_bestStake 40 = .ok (.getfield 46, 3) := by decide +kernel
theorem dX7_bestStake_43 : decode cX7_bestStake 43 = .ok (.iload_n 1, 1) := by decide +kernel
theorem dX7_bestStake_44 : decode cX7_bestStake 44 = .ok (.invokevirtual 225, 3) := by decide +kernel
