theorem dX7_bestStake_47 : decode cX7_bestStake 47 = .ok (.aload_n 0, 1) := by decide +kernel
theorem dX7_bestStake_48 : decode cX7_bestStake 48 = .ok (.getfield 46, 3) := by decide +kernel
theorem dX7_bestStake_51 : decode cX7_bestStake 51 = .ok (.getfield 229, 3) := by decide +kernel
theorem dX7_bestStake_54 : decode cX7_bestStake 54 = .ok (.iconst (-1), 1) := by decide +kernel
theorem dX7_bestStake_55 : decode cX7_bestStake 55 = .ok (.if_icmp .ne 5, 3) := by decide +kernel
theorem dX7_bestStake_58 : decode cX7_bestStake 58 = .ok (.iconst (-1), 1) := by decide +kernel
theorem dX7_bestStake_59 : decode cX7_bestStake 59 = .ok (.ireturn, 1) := by decide +kernel
theorem dX7_bestStake_60 : decode cX7_bestStake 60 = .ok (.iload_n 2, 1) := by decide +kernel
theorem dX7_bestStake_61 : decode cX7_bestStake 61 = .ok (.ifCond .ne 20, 3) := by decide +kernel
theorem dX7_bestStake_64 : decode cX7_bestStake 64 = .ok (.aload_n 0, 1) := by decide +kernel
theorem dX7_bestStake_65 : decode cX7_bestStake 65 = .ok (.getfield 19, 3) := by decide +kernel
theorem dX7_bestStake_68 : decode cX7_bestStake 68 = .ok (.aload_n 0, 1) := by decide +kernel
theorem dX7_bestStake_69 : decode cX7_bestStake 69 = .ok (.getfield 46, 3) := by decide +kernel
theorem dX7_bestStake_72 : decode cX7_bestStake 72 = .ok (.getfield 229, 3) := by decide +kernel
theorem dX7_bestStake_75 : decode cX7_bestStake 75 = .ok (.invokevirtual 134, 3) := by decide +kernel
theorem dX7_bestStake_78 : decode cX7_bestStake 78 = .ok (.goto 10, 3) := by decide +kernel
theorem dX7_bestStake_81 : decode cX7_bestStake 81 = .ok (.aload_n 0, 1) := by decide +kernel
theorem dX7_bestStake_82 : decode cX7_bestStake 82 = .ok (.getfield 46, 3) := by decide +kernel
theorem dX7_bestStake_85 : decode cX7_bestStake 85 = .ok (.getfield 232, 3) := by decide +kernel
theorem dX7_bestStake_88 : decode cX7_bestStake 88 = .ok (.ireturn, 1) := by decide +kernel
theorem dX7_inch_0 : decode cX7_inch 0 = .ok (.aload_n 0, 1) := by decide +kernel
theorem dX7_inch_1 : decode cX7_inch 1 = .ok (.getfield 19, 3) := by decide +kernel
theorem dX7_inch_4 : decode cX7_inch 4 = .ok (.iload_n 1, 1) := by decide +kernel
theorem dX7_inch_5 : decode cX7_inch 5 = .ok (.invokevirtual 206, 3) := by decide +kernel
theorem dX7_inch_8 : decode cX7_inch 8 = .ok (.ifCond .eq 14, 3) := by decide +kernel
theorem dX7_inch_11 : decode cX7_inch 11 = .ok (.aload_n 0, 1) := by decide +kernel
theorem dX7_inch_12 : decode cX7_inch 12 = .ok (.getfield 19, 3) := by decide +kernel
theorem dX7_inch_15 : decode cX7_inch 15 = .ok (.iload_n 2, 1) := by decide +kernel
theorem dX7_inch_16 : decode cX7_inch 16 = .ok (.invokevirtual 154, 3) := by decide +kernel
theorem dX7_inch_19 : decode cX7_inch 19 = .ok (.ifCond .ne 6, 3) := by decide +kernel
theorem dX7_inch_22 : decode cX7_inch 22 = .ok (.ldc 146, 2) := by decide +kernel
theorem dX7_inch_24 : decode cX7_inch 24 = .ok (.ireturn, 1) := by decide +kernel
theorem dX7_inch_25 : decode cX7_inch 25 = .ok (.aload_n 0, 1) := by decide +kernel
theorem dX7_inch_26 : decode cX7_inch 26 = .ok (.getfield 46, 3) := by decide +kernel
theorem dX7_inch_29 : decode cX7_inch 29 = .ok (.iload_n 1, 1) := by decide +kernel
theorem dX7_inch_30 : decode cX7_inch 30 = .ok (.iload_n 2, 1) := by decide +kernel
theorem dX7_inch_31 : decode cX7_inch 31 = .ok (.invokevirtual 235, 3) := by decide +kernel
theorem dX7_inch_34 : decode cX7_inch 34 = .ok (.ireturn, 1) := by decide +kernel
theorem dX7_nobody_0 : decode cX7_nobody 0 = .ok (.aload_n 0, 1) := by decide +kernel
theorem dX7_nobody_1 : decode cX7_nobody 1 = .ok (.getfield 46, 3) := by decide +kernel
theorem dX7_nobody_4 : decode cX7_nobody 4 = .ok (.invokevirtual 200, 3) := by decide +kernel
theorem dX7_nobody_7 : decode cX7_nobody 7 = .ok (.aload_n 0, 1) := by decide +kernel
theorem dX7_nobody_8 : decode cX7_nobody 8 = .ok (.getfield 19, 3) := by decide +kernel
theorem dX7_nobody_11 : decode cX7_nobody 11 = .ok (.getfield 238, 3) := by decide +kernel
theorem dX7_nobody_14 : decode cX7_nobody 14 = .ok (.aload_n 0, 1) := by decide +kernel
theorem dX7_nobody_15 : decode cX7_nobody 15 = .ok (.getfield 46, 3) := by decide +kernel
theorem dX7_nobody_18 : decode cX7_nobody 18 = .ok (.iconst (-1), 1) := by decide +kernel
theorem dX7_nobody_19 : decode cX7_nobody 19 = .ok (.invokevirtual 241, 3) := by decide +kernel
theorem dX7_nobody_22 : decode cX7_nobody 22 = .ok (.ldc2_w 198, 3) := by decide +kernel
theorem dX7_nobody_25 : decode cX7_nobody 25 = .ok (.lxor, 1) := by decide +kernel
theorem dX7_nobody_26 : decode cX7_nobody 26 = .ok (.land, 1) := by decide +kernel
theorem dX7_nobody_27 : decode cX7_nobody 27 = .ok (.lstore_n 2, 1) := by decide +kernel
theorem dX7_nobody_28 : decode cX7_nobody 28 = .ok (.iload_n 1, 1) := by decide +kernel
theorem dX7_nobody_29 : decode cX7_nobody 29 = .ok (.iconst (-1), 1) := by decide +kernel
theorem dX7_nobody_30 : decode cX7_nobody 30 = .ok (.if_icmp .ne 8, 3) := by decide +kernel
theorem dX7_nobody_33 : decode cX7_nobody 33 = .ok (.lload_n 2, 1) := by decide +kernel
theorem dX7_nobody_34 : decode cX7_nobody 34 = .ok (.invokestatic 245, 3) := by decide +kernel
theorem dX7_nobody_37 : decode cX7_nobody 37 = .ok (.ireturn, 1) := by decide +kernel
theorem dX7_nobody_38 : decode cX7_nobody 38 = .ok (.iload_n 1, 1) := by decide +kernel
theorem dX7_nobody_39 : decode cX7_nobody 39 = .ok (.ifCond .ge 7, 3) := by decide +kernel
theorem dX7_nobody_42 : decode cX7_nobody 42 = .ok (.iconst (-1), 1) := by decide +kernel
theorem dX7_nobody_43 : decode cX7_nobody 43 = .ok (.goto 12, 3) := by decide +kernel
theorem dX7_nobody_46 : decode cX7_nobody 46 = .ok (.aload_n 0, 1) := by decide +kernel
theorem dX7_nobody_47 : decode cX7_nobody 47 = .ok (.getfield 19, 3) := by decide +kernel
theorem dX7_nobody_50 : decode cX7_nobody 50 = .ok (.lload_n 2, 1) := by decide +kernel
theorem dX7_nobody_51 : decode cX7_nobody 51 = .ok (.iload_n 1, 1) := by decide +kernel
theorem dX7_nobody_52 : decode cX7_nobody 52 = .ok (.invokevirtual 251, 3) := by decide +kernel
theorem dX7_nobody_55 : decode cX7_nobody 55 = .ok (.ireturn, 1) := by decide +kernel
theorem dX7_alone_0 : decode cX7_alone 0 = .ok (.aload_n 0, 1) := by decide +kernel
theorem dX7_alone_1 : decode cX7_alone 1 = .ok (.getfield 19, 3) := by decide +kernel
theorem dX7_alone_4 : decode cX7_alone 4 = .ok (.iload_n 1, 1) := by decide +kernel
theorem dX7_alone_5 : decode cX7_alone 5 = .ok (.invokevirtual 154, 3) := by decide +kernel
theorem dX7_alone_8 : decode cX7_alone 8 = .ok (.ifCond .ne 6, 3) := by decide +kernel
theorem dX7_alone_11 : decode cX7_alone 11 = .ok (.ldc 146, 2) := by decide +kernel
theorem dX7_alone_13 : decode cX7_alone 13 = .ok (.ireturn, 1) := by decide +kernel
theorem dX7_alone_14 : decode cX7_alone 14 = .ok (.aload_n 0, 1) := by decide +kernel
theorem dX7_alone_15 : decode cX7_alone 15 = .ok (.getfield 46, 3) := by decide +kernel
theorem dX7_alone_18 : decode cX7_alone 18 = .ok (.invokevirtual 200, 3) := by decide +kernel
theorem dX7_alone_21 : decode cX7_alone 21 = .ok (.aload_n 0, 1) := by decide +kernel
theorem dX7_alone_22 : decode cX7_alone 22 = .ok (.getfield 46, 3) := by decide +kernel
theorem dX7_alone_25 : decode cX7_alone 25 = .ok (.iload_n 1, 1) := by decide +kernel
theorem dX7_alone_26 : decode cX7_alone 26 = .ok (.invokevirtual 255, 3) := by decide +kernel
theorem dX7_alone_29 : decode cX7_alone 29 = .ok (.aload_n 0, 1) := by decide +kernel
theorem dX7_alone_30 : decode cX7_alone 30 = .ok (.getfield 46, 3) := by decide +kernel
theorem dX7_alone_33 : decode cX7_alone 33 = .ok (.iload_n 1, 1) := by decide +kernel
theorem dX7_alone_34 : decode cX7_alone 34 = .ok (.invokevirtual 241, 3) := by decide +kernel
theorem dX7_alone_37 : decode cX7_alone 37 = .ok (.ldc2_w 198, 3) := by decide +kernel
theorem dX7_alone_40 : decode cX7_alone 40 = .ok (.lxor, 1) := by decide +kernel
theorem dX7_alone_41 : decode cX7_alone 41 = .ok (.land, 1) := by decide +kernel
theorem dX7_alone_42 : decode cX7_alone 42 = .ok (.invokestatic 245, 3) := by decide +kernel
theorem dX7_alone_45 : decode cX7_alone 45 = .ok (.ireturn, 1) := by decide +kernel
theorem dX7_track_0 : decode cX7_track 0 = .ok (.aload_n 0, 1) := by decide +kernel
theorem dX7_track_1 : decode cX7_track 1 = .ok (.getfield 19, 3) := by decide +kernel
theorem dX7_track_4 : decode cX7_track 4 = .ok (.iload_n 1, 1) := by decide +kernel
theorem dX7_track_5 : decode cX7_track 5 = .ok (.iload_n 2, 1) := by decide +kernel
theorem dX7_track_6 : decode cX7_track 6 = .ok (.invokevirtual 142, 3) := by decide +kernel
theorem dX7_track_9 : decode cX7_track 9 = .ok (.ifCond .ne 6, 3) := by decide +kernel
theorem dX7_track_12 : decode cX7_track 12 = .ok (.ldc 146, 2) := by decide +kernel
theorem dX7_track_14 : decode cX7_track 14 = .ok (.ireturn, 1) := by decide +kernel
theorem dX7_track_15 : decode cX7_track 15 = .ok (.aload_n 0, 1) := by decide +kernel
theorem dX7_track_16 : decode cX7_track 16 = .ok (.getfield 53, 3) := by decide +kernel
theorem dX7_track_19 : decode cX7_track 19 = .ok (.getfield 138, 3) := by decide +kernel
theorem dX7_track_22 : decode cX7_track 22 = .ok (.istore_n 3, 1) := by decide +kernel
theorem dX7_track_23 : decode cX7_track 23 = .ok (.aload_n 0, 1) := by decide +kernel
theorem dX7_track_24 : decode cX7_track 24 = .ok (.getfield 53, 3) := by decide +kernel
theorem dX7_track_27 : decode cX7_track 27 = .ok (.aload_n 0, 1) := by decide +kernel
theorem dX7_track_28 : decode cX7_track 28 = .ok (.getfield 19, 3) := by decide +kernel
theorem dX7_track_31 : decode cX7_track 31 = .ok (.iload_n 1, 1) := by decide +kernel
theorem dX7_track_32 : decode cX7_track 32 = .ok (.iload_n 2, 1) := by decide +kernel
theorem dX7_track_33 : decode cX7_track 33 = .ok (.invokevirtual 147, 3) := by decide +kernel
theorem dX7_track_36 : decode cX7_track 36 = .ok (.invokevirtual 258, 3) := by decide +kernel
theorem dX7_track_39 : decode cX7_track 39 = .ok (.iload_n 3, 1) := by decide +kernel
theorem dX7_track_40 : decode cX7_track 40 = .ok (.ireturn, 1) := by decide +kernel
theorem dX7_see_0 : decode cX7_see 0 = .ok (.aload_n 0, 1) := by decide +kernel
theorem dX7_see_1 : decode cX7_see 1 = .ok (.getfield 19, 3) := by decide +kernel
theorem dX7_see_4 : decode cX7_see 4 = .ok (.iload_n 1, 1) := by decide +kernel
theorem dX7_see_5 : decode cX7_see 5 = .ok (.iload_n 2, 1) := by decide +kernel
theorem dX7_see_6 : decode cX7_see 6 = .ok (.invokevirtual 142, 3) := by decide +kernel
theorem dX7_see_9 : decode cX7_see 9 = .ok (.ifCond .ne 6, 3) := by decide +kernel
theorem dX7_see_12 : decode cX7_see 12 = .ok (.ldc 146, 2) := by decide +kernel
theorem dX7_see_14 : decode cX7_see 14 = .ok (.ireturn, 1) := by decide +kernel
theorem dX7_see_15 : decode cX7_see 15 = .ok (.iload_n 3, 1) := by decide +kernel
theorem dX7_see_16 : decode cX7_see 16 = .ok (.ifCond .lt 9, 3) := by decide +kernel
theorem dX7_see_19 : decode cX7_see 19 = .ok (.iload_n 3, 1) := by decide +kernel
theorem dX7_see_20 : decode cX7_see 20 = .ok (.bipush 40, 2) := by decide +kernel
theorem dX7_see_22 : decode cX7_see 22 = .ok (.if_icmp .le 6, 3) := by decide +kernel
theorem dX7_see_25 : decode cX7_see 25 = .ok (.ldc 74, 2) := by decide +kernel
theorem dX7_see_27 : decode cX7_see 27 = .ok (.ireturn, 1) := by decide +kernel
theorem dX7_see_28 : decode cX7_see 28 = .ok (.aload_n 0, 1) := by decide +kernel
theorem dX7_see_29 : decode cX7_see 29 = .ok (.getfield 53, 3) := by decide +kernel
theorem dX7_see_32 : decode cX7_see 32 = .ok (.getfield 138, 3) := by decide +kernel
theorem dX7_see_35 : decode cX7_see 35 = .ok (.bipush 20, 2) := by decide +kernel
theorem dX7_see_37 : decode cX7_see 37 = .ok (.if_icmp .lt 6, 3) := by decide +kernel
theorem dX7_see_40 : decode cX7_see 40 = .ok (.ldc 79, 2) := by decide +kernel
theorem dX7_see_42 : decode cX7_see 42 = .ok (.ireturn, 1) := by decide +kernel
theorem dX7_see_43 : decode cX7_see 43 = .ok (.aload_n 0, 1) := by decide +kernel
theorem dX7_see_44 : decode cX7_see 44 = .ok (.getfield 53, 3) := by decide +kernel
theorem dX7_see_47 : decode cX7_see 47 = .ok (.aload_n 0, 1) := by decide +kernel
theorem dX7_see_48 : decode cX7_see 48 = .ok (.getfield 19, 3) := by decide +kernel
theorem dX7_see_51 : decode cX7_see 51 = .ok (.iload_n 1, 1) := by decide +kernel
theorem dX7_see_52 : decode cX7_see 52 = .ok (.iload_n 2, 1) := by decide +kernel
theorem dX7_see_53 : decode cX7_see 53 = .ok (.invokevirtual 147, 3) := by decide +kernel
theorem dX7_see_56 : decode cX7_see 56 = .ok (.iload_n 3, 1) := by decide +kernel
theorem dX7_see_57 : decode cX7_see 57 = .ok (.invokevirtual 261, 3) := by decide +kernel
theorem dX7_see_60 : decode cX7_see 60 = .ok (.aload_n 0, 1) := by decide +kernel
theorem dX7_see_61 : decode cX7_see 61 = .ok (.getfield 53, 3) := by decide +kernel
theorem dX7_see_64 : decode cX7_see 64 = .ok (.getfield 138, 3) := by decide +kernel
theorem dX7_see_67 : decode cX7_see 67 = .ok (.ireturn, 1) := by decide +kernel
theorem dX7_fits_0 : decode cX7_fits 0 = .ok (.aload_n 0, 1) := by decide +kernel
theorem dX7_fits_1 : decode cX7_fits 1 = .ok (.getfield 53, 3) := by decide +kernel
theorem dX7_fits_4 : decode cX7_fits 4 = .ok (.getfield 264, 3) := by decide +kernel
theorem dX7_fits_7 : decode cX7_fits 7 = .ok (.iconst (-1), 1) := by decide +kernel
theorem dX7_fits_8 : decode cX7_fits 8 = .ok (.if_icmp .ne 8, 3) := by decide +kernel
theorem dX7_fits_11 : decode cX7_fits 11 = .ok (.ldc 224, 2) := by decide +kernel
theorem dX7_fits_13 : decode cX7_fits 13 = .ok (.goto 10, 3) := by decide +kernel
theorem dX7_fits_16 : decode cX7_fits 16 = .ok (.aload_n 0, 1) := by decide +kernel
theorem dX7_fits_17 : decode cX7_fits 17 = .ok (.getfield 53, 3) := by decide +kernel
theorem dX7_fits_20 : decode cX7_fits 20 = .ok (.invokevirtual 266, 3) := by decide +kernel
theorem dX7_fits_23 : decode cX7_fits 23 = .ok (.ireturn, 1) := by decide +kernel
theorem dX7_write_0 : decode cX7_write 0 = .ok (.aload_n 0, 1) := by decide +kernel
theorem dX7_write_1 : decode cX7_write 1 = .ok (.getfield 19, 3) := by decide +kernel
theorem dX7_write_4 : decode cX7_write 4 = .ok (.iload_n 1, 1) := by decide +kernel
theorem dX7_write_5 : decode cX7_write 5 = .ok (.invokevirtual 154, 3) := by decide +kernel
theorem dX7_write_8 : decode cX7_write 8 = .ok (.ifCond .ne 6, 3) := by decide +kernel
theorem dX7_write_11 : decode cX7_write 11 = .ok (.ldc 146, 2) := by decide +kernel
theorem dX7_write_13 : decode cX7_write 13 = .ok (.ireturn, 1) := by decide +kernel
theorem dX7_write_14 : decode cX7_write 14 = .ok (.iload_n 2, 1) := by decide +kernel
theorem dX7_write_15 : decode cX7_write 15 = .ok (.invokestatic 183, 3) := by decide +kernel
theorem dX7_write_18 : decode cX7_write 18 = .ok (.ifCond .ne 6, 3) := by decide +kernel
theorem dX7_write_21 : decode cX7_write 21 = .ok (.ldc 74, 2) := by decide +kernel
theorem dX7_write_23 : decode cX7_write 23 = .ok (.ireturn, 1) := by decide +kernel
theorem dX7_write_24 : decode cX7_write 24 = .ok (.aload_n 0, 1) := by decide +kernel
theorem dX7_write_25 : decode cX7_write 25 = .ok (.getfield 62, 3) := by decide +kernel
theorem dX7_write_28 : decode cX7_write 28 = .ok (.getfield 103, 3) := by decide +kernel
theorem dX7_write_31 : decode cX7_write 31 = .ok (.bipush 40, 2) := by decide +kernel
theorem dX7_write_33 : decode cX7_write 33 = .ok (.if_icmp .lt 6, 3) := by decide +kernel
theorem dX7_write_36 : decode cX7_write 36 = .ok (.ldc 79, 2) := by decide +kernel
theorem dX7_write_38 : decode cX7_write 38 = .ok (.ireturn, 1) := by decide +kernel
theorem dX7_write_39 : decode cX7_write 39 = .ok (.aload_n 0, 1) := by decide +kernel
theorem dX7_write_40 : decode cX7_write 40 = .ok (.getfield 62, 3) := by decide +kernel
theorem dX7_write_43 : decode cX7_write 43 = .ok (.iload_n 1, 1) := by decide +kernel
theorem dX7_write_44 : decode cX7_write 44 = .ok (.iload_n 2, 1) := by decide +kernel
theorem dX7_write_45 : decode cX7_write 45 = .ok (.invokevirtual 269, 3) := by decide +kernel
theorem dX7_write_48 : decode cX7_write 48 = .ok (.aload_n 0, 1) := by decide +kernel
theorem dX7_write_49 : decode cX7_write 49 = .ok (.getfield 62, 3) := by decide +kernel
theorem dX7_write_52 : decode cX7_write 52 = .ok (.getfield 103, 3) := by decide +kernel
theorem dX7_write_55 : decode cX7_write 55 = .ok (.ireturn, 1) := by decide +kernel
theorem dX7_tear_0 : decode cX7_tear 0 = .ok (.aload_n 0, 1) := by decide +kernel
theorem dX7_tear_1 : decode cX7_tear 1 = .ok (.getfield 62, 3) := by decide +kernel
theorem dX7_tear_4 : decode cX7_tear 4 = .ok (.getfield 103, 3) := by decide +kernel
theorem dX7_tear_7 : decode cX7_tear 7 = .ok (.istore_n 1, 1) := by decide +kernel
theorem dX7_tear_8 : decode cX7_tear 8 = .ok (.aload_n 0, 1) := by decide +kernel
theorem dX7_tear_9 : decode cX7_tear 9 = .ok (.getfield 62, 3) := by decide +kernel
theorem dX7_tear_12 : decode cX7_tear 12 = .ok (.iconst 0, 1) := by decide +kernel
theorem dX7_tear_13 : decode cX7_tear 13 = .ok (.putfield 103, 3) := by decide +kernel
theorem dX7_tear_16 : decode cX7_tear 16 = .ok (.iload_n 1, 1) := by decide +kernel
theorem dX7_tear_17 : decode cX7_tear 17 = .ok (.ireturn, 1) := by decide +kernel
theorem dX7_judge_0 : decode cX7_judge 0 = .ok (.aload_n 0, 1) := by decide +kernel
theorem dX7_judge_1 : decode cX7_judge 1 = .ok (.getfield 62, 3) := by decide +kernel
theorem dX7_judge_4 : decode cX7_judge 4 = .ok (.invokevirtual 270, 3) := by decide +kernel
theorem dX7_judge_7 : decode cX7_judge 7 = .ok (.ireturn, 1) := by decide +kernel
theorem dX7_seed_0 : decode cX7_seed 0 = .ok (.iload_n 1, 1) := by decide +kernel
theorem dX7_seed_1 : decode cX7_seed 1 = .ok (.ifCond .ge 6, 3) := by decide +kernel
theorem dX7_seed_4 : decode cX7_seed 4 = .ok (.ldc 74, 2) := by decide +kernel
theorem dX7_seed_6 : decode cX7_seed 6 = .ok (.ireturn, 1) := by decide +kernel
theorem dX7_seed_7 : decode cX7_seed 7 = .ok (.aload_n 0, 1) := by decide +kernel
theorem dX7_seed_8 : decode cX7_seed 8 = .ok (.getfield 37, 3) := by decide +kernel
theorem dX7_seed_11 : decode cX7_seed 11 = .ok (.getfield 273, 3) := by decide +kernel
theorem dX7_seed_14 : decode cX7_seed 14 = .ok (.istore_n 2, 1) := by decide +kernel
theorem dX7_seed_15 : decode cX7_seed 15 = .ok (.aload_n 0, 1) := by decide +kernel
theorem dX7_seed_16 : decode cX7_seed 16 = .ok (.getfield 37, 3) := by decide +kernel
theorem dX7_seed_19 : decode cX7_seed 19 = .ok (.iload_n 1, 1) := by decide +kernel
theorem dX7_seed_20 : decode cX7_seed 20 = .ok (.putfield 273, 3) := by decide +kernel
theorem dX7_seed_23 : decode cX7_seed 23 = .ok (.iload_n 2, 1) := by decide +kernel
theorem dX7_seed_24 : decode cX7_seed 24 = .ok (.ireturn, 1) := by decide +kernel
theorem dX7_keep_0 : decode cX7_keep 0 = .ok (.iload_n 1, 1) := by decide +kernel
theorem dX7_keep_1 : decode cX7_keep 1 = .ok (.invokestatic 276, 3) := by decide +kernel
theorem dX7_keep_4 : decode cX7_keep 4 = .ok (.ifCond .ne 6, 3) := by decide +kernel
theorem dX7_keep_7 : decode cX7_keep 7 = .ok (.ldc 146, 2) := by decide +kernel
theorem dX7_keep_9 : decode cX7_keep 9 = .ok (.ireturn, 1) := by decide +kernel
theorem dX7_keep_10 : decode cX7_keep 10 = .ok (.aload_n 0, 1) := by decide +kernel
theorem dX7_keep_11 : decode cX7_keep 11 = .ok (.getfield 66, 3) := by decide +kernel
theorem dX7_keep_14 : decode cX7_keep 14 = .ok (.iload_n 1, 1) := by decide +kernel
theorem dX7_keep_15 : decode cX7_keep 15 = .ok (.aaload, 1) := by decide +kernel
theorem dX7_keep_16 : decode cX7_keep 16 = .ok (.aload_n 0, 1) := by decide +kernel
theorem dX7_keep_17 : decode cX7_keep 17 = .ok (.getfield 37, 3) := by decide +kernel
theorem dX7_keep_20 : decode cX7_keep 20 = .ok (.invokevirtual 279, 3) := by decide +kernel
theorem dX7_keep_23 : decode cX7_keep 23 = .ok (.aload_n 0, 1) := by decide +kernel
theorem dX7_keep_24 : decode cX7_keep 24 = .ok (.getfield 70, 3) := by decide +kernel
theorem dX7_keep_27 : decode cX7_keep 27 = .ok (.iload_n 1, 1) := by decide +kernel
theorem dX7_keep_28 : decode cX7_keep 28 = .ok (.iconst 1, 1) := by decide +kernel
theorem dX7_keep_29 : decode cX7_keep 29 = .ok (.bastore, 1) := by decide +kernel
theorem dX7_keep_30 : decode cX7_keep 30 = .ok (.iconst 1, 1) := by decide +kernel
theorem dX7_keep_31 : decode cX7_keep 31 = .ok (.ireturn, 1) := by decide +kernel
theorem dX7_goBack_0 : decode cX7_goBack 0 = .ok (.iload_n 1, 1) := by decide +kernel
theorem dX7_goBack_1 : decode cX7_goBack 1 = .ok (.invokestatic 276, 3) := by decide +kernel
theorem dX7_goBack_4 : decode cX7_goBack 4 = .ok (.ifCond .ne 6, 3) := by decide +kernel
theorem dX7_goBack_7 : decode cX7_goBack 7 = .ok (.ldc 146, 2) := by decide +kernel
theorem dX7_goBack_9 : decode cX7_goBack 9 = .ok (.ireturn, 1) := by decide +kernel
theorem dX7_goBack_10 : decode cX7_goBack 10 = .ok (.aload_n 0, 1) := by decide +kernel
theorem dX7_goBack_11 : decode cX7_goBack 11 = .ok (.getfield 70, 3) := by decide +kernel
theorem dX7_goBack_14 : decode cX7_goBack 14 = .ok (.iload_n 1, 1) := by decide +kernel
theorem dX7_goBack_15 : decode cX7_goBack 15 = .ok (.baload, 1) := by decide +kernel
theorem dX7_goBack_16 : decode cX7_goBack 16 = .ok (.ifCond .ne 6, 3) := by decide +kernel
theorem dX7_goBack_19 : decode cX7_goBack 19 = .ok (.ldc 224, 2) := by decide +kernel
theorem dX7_goBack_21 : decode cX7_goBack 21 = .ok (.ireturn, 1) := by decide +kernel
theorem dX7_goBack_22 : decode cX7_goBack 22 = .ok (.aload_n 0, 1) := by decide +kernel
theorem dX7_goBack_23 : decode cX7_goBack 23 = .ok (.getfield 37, 3) := by decide +kernel
theorem dX7_goBack_26 : decode cX7_goBack 26 = .ok (.aload_n 0, 1) := by decide +kernel
theorem dX7_goBack_27 : decode cX7_goBack 27 = .ok (.getfield 66, 3) := by decide +kernel
theorem dX7_goBack_30 : decode cX7_goBack 30 = .ok (.iload_n 1, 1) := by decide +kernel
theorem dX7_goBack_31 : decode cX7_goBack 31 = .ok (.aaload, 1) := by decide +kernel
theorem dX7_goBack_32 : decode cX7_goBack 32 = .ok (.invokevirtual 279, 3) := by decide +kernel
theorem dX7_goBack_35 : decode cX7_goBack 35 = .ok (.iconst 1, 1) := by decide +kernel
theorem dX7_goBack_36 : decode cX7_goBack 36 = .ok (.ireturn, 1) := by decide +kernel
theorem dX7_letPass_0 : decode cX7_letPass 0 = .ok (.iload_n 1, 1) := by decide +kernel
theorem dX7_letPass_1 : decode cX7_letPass 1 = .ok (.iconst 1, 1) := by decide +kernel
theorem dX7_letPass_2 : decode cX7_letPass 2 = .ok (.if_icmp .lt 9, 3) := by decide +kernel
theorem dX7_letPass_5 : decode cX7_letPass 5 = .ok (.iload_n 1, 1) := by decide +kernel
theorem dX7_letPass_6 : decode cX7_letPass 6 = .ok (.bipush 99, 2) := by decide +kernel
theorem dX7_letPass_8 : decode cX7_letPass 8 = .ok (.if_icmp .le 6, 3) := by decide +kernel
theorem dX7_letPass_11 : decode cX7_letPass 11 = .ok (.ldc 74, 2) := by decide +kernel
theorem dX7_letPass_13 : decode cX7_letPass 13 = .ok (.ireturn, 1) := by decide +kernel
theorem dX7_letPass_14 : decode cX7_letPass 14 = .ok (.aload_n 0, 1) := by decide +kernel
theorem dX7_letPass_15 : decode cX7_letPass 15 = .ok (.getfield 19, 3) := by decide +kernel
theorem dX7_letPass_18 : decode cX7_letPass 18 = .ok (.invokevirtual 106, 3) := by decide +kernel
theorem dX7_letPass_21 : decode cX7_letPass 21 = .ok (.ifCond .ne 6, 3) := by decide +kernel
theorem dX7_letPass_24 : decode cX7_letPass 24 = .ok (.ldc 224, 2) := by decide +kernel
theorem dX7_letPass_26 : decode cX7_letPass 26 = .ok (.ireturn, 1) := by decide +kernel
theorem dX7_letPass_27 : decode cX7_letPass 27 = .ok (.iconst 0, 1) := by decide +kernel
theorem dX7_letPass_28 : decode cX7_letPass 28 = .ok (.istore_n 3, 1) := by decide +kernel
theorem dX7_letPass_29 : decode cX7_letPass 29 = .ok (.iload_n 3, 1) := by decide +kernel
theorem dX7_letPass_30 : decode cX7_letPass 30 = .ok (.iload_n 1, 1) := by decide +kernel
theorem dX7_letPass_31 : decode cX7_letPass 31 = .ok (.if_icmp .ge 27, 3) := by decide +kernel
theorem dX7_letPass_34 : decode cX7_letPass 34 = .ok (.iload_n 2, 1) := by decide +kernel
theorem dX7_letPass_35 : decode cX7_letPass 35 = .ok (.ifCond .eq 10, 3) := by decide +kernel
theorem dX7_letPass_38 : decode cX7_letPass 38 = .ok (.aload_n 0, 1) := by decide +kernel
theorem dX7_letPass_39 : decode cX7_letPass 39 = .ok (.getfield 37, 3) := by decide +kernel
theorem dX7_letPass_42 : decode cX7_letPass 42 = .ok (.invokevirtual 281, 3) := by decide +kernel
theorem dX7_letPass_45 : decode cX7_letPass 45 = .ok (.aload_n 0, 1) := by decide +kernel
theorem dX7_letPass_46 : decode cX7_letPass 46 = .ok (.getfield 37, 3) := by decide +kernel
theorem dX7_letPass_49 : decode cX7_letPass 49 = .ok (.invokevirtual 284, 3) := by decide +kernel
theorem dX7_letPass_52 : decode cX7_letPass 52 = .ok (.iinc 3 1, 3) := by decide +kernel
theorem dX7_letPass_55 : decode cX7_letPass 55 = .ok (.goto (-26), 3) := by decide +kernel
theorem dX7_letPass_58 : decode cX7_letPass 58 = .ok (.aload_n 0, 1) := by decide +kernel
theorem dX7_letPass_59 : decode cX7_letPass 59 = .ok (.getfield 37, 3) := by decide +kernel
theorem dX7_letPass_62 : decode cX7_letPass 62 = .ok (.getfield 128, 3) := by decide +kernel
theorem dX7_letPass_65 : decode cX7_letPass 65 = .ok (.ireturn, 1) := by decide +kernel
theorem dX7_has_0 : decode cX7_has 0 = .ok (.lload_n 0, 1) := by decide +kernel
theorem dX7_has_1 : decode cX7_has 1 = .ok (.iload_n 2, 1) := by decide +kernel
theorem dX7_has_2 : decode cX7_has 2 = .ok (.lshr, 1) := by decide +kernel
theorem dX7_has_3 : decode cX7_has 3 = .ok (.lconst 1, 1) := by decide +kernel
theorem dX7_has_4 : decode cX7_has 4 = .ok (.land, 1) := by decide +kernel
theorem dX7_has_5 : decode cX7_has 5 = .ok (.lconst 0, 1) := by decide +kernel
theorem dX7_has_6 : decode cX7_has 6 = .ok (.lcmp, 1) := by decide +kernel
theorem dX7_has_7 : decode cX7_has 7 = .ok (.ifCond .eq 7, 3) := by decide +kernel
theorem dX7_has_10 : decode cX7_has 10 = .ok (.iconst 1, 1) := by decide +kernel
theorem dX7_has_11 : decode cX7_has 11 = .ok (.goto 4, 3) := by decide +kernel
theorem dX7_has_14 : decode cX7_has 14 = .ok (.iconst 0, 1) := by decide +kernel
theorem dX7_has_15 : decode cX7_has 15 = .ok (.ireturn, 1) := by decide +kernel
theorem dX7_isWay_0 : decode cX7_isWay 0 = .ok (.iload_n 0, 1) := by decide +kernel
theorem dX7_isWay_1 : decode cX7_isWay 1 = .ok (.ifCond .lt 12, 3) := by decide +kernel
theorem dX7_isWay_4 : decode cX7_isWay 4 = .ok (.iload_n 0, 1) := by decide +kernel
theorem dX7_isWay_5 : decode cX7_isWay 5 = .ok (.iconst 4, 1) := by decide +kernel
theorem dX7_isWay_6 : decode cX7_isWay 6 = .ok (.if_icmp .gt 7, 3) := by decide +kernel
theorem dX7_isWay_9 : decode cX7_isWay 9 = .ok (.iconst 1, 1) := by decide +kernel
theorem dX7_isWay_10 : decode cX7_isWay 10 = .ok (.goto 4, 3) := by decide +kernel
theorem dX7_isWay_13 : decode cX7_isWay 13 = .ok (.iconst 0, 1) := by decide +kernel
theorem dX7_isWay_14 : decode cX7_isWay 14 = .ok (.ireturn, 1) := by decide +kernel
theorem dX7_isImage_0 : decode cX7_isImage 0 = .ok (.iload_n 0, 1) := by decide +kernel
theorem dX7_isImage_1 : decode cX7_isImage 1 = .ok (.ifCond .lt 12, 3) := by decide +kernel
theorem dX7_isImage_4 : decode cX7_isImage 4 = .ok (.iload_n 0, 1) := by decide +kernel
theorem dX7_isImage_5 : decode cX7_isImage 5 = .ok (.iconst 2, 1) := by decide +kernel
theorem dX7_isImage_6 : decode cX7_isImage 6 = .ok (.if_icmp .ge 7, 3) := by decide +kernel
theorem dX7_isImage_9 : decode cX7_isImage 9 = .ok (.iconst 1, 1) := by decide +kernel
theorem dX7_isImage_10 : decode cX7_isImage 10 = .ok (.goto 4, 3) := by decide +kernel
theorem dX7_isImage_13 : decode cX7_isImage 13 = .ok (.iconst 0, 1) := by decide +kernel
theorem dX7_isImage_14 : decode cX7_isImage 14 = .ok (.ireturn, 1) := by decide +kernel
theorem dX8_in_0 : decode cX8_in 0 = .ok (.lload_n 0, 1) := by decide +kernel
theorem dX8_in_1 : decode cX8_in 1 = .ok (.lload_n 2, 1) := by decide +kernel
theorem dX8_in_2 : decode cX8_in 2 = .ok (.lcmp, 1) := by decide +kernel
theorem dX8_in_3 : decode cX8_in 3 = .ok (.ifCond .lt 14, 3) := by decide +kernel
theorem dX8_in_6 : decode cX8_in 6 = .ok (.lload_n 0, 1) := by decide +kernel
theorem dX8_in_7 : decode cX8_in 7 = .ok (.lload 4, 2) := by decide +kernel
theorem dX8_in_9 : decode cX8_in 9 = .ok (.lcmp, 1) := by decide +kernel
theorem dX8_in_10 : decode cX8_in 10 = .ok (.ifCond .gt 7, 3) := by decide +kernel
theorem dX8_in_13 : decode cX8_in 13 = .ok (.iconst 1, 1) := by decide +kernel
theorem dX8_in_14 : decode cX8_in 14 = .ok (.goto 4, 3) := by decide +kernel
theorem dX8_in_17 : decode cX8_in 17 = .ok (.iconst 0, 1) := by decide +kernel
theorem dX8_in_18 : decode cX8_in 18 = .ok (.ireturn, 1) := by decide +kernel
theorem dX8_init_0 : decode cX8_init 0 = .ok (.aload_n 0, 1) := by decide +kernel
theorem dX8_init_1 : decode cX8_init 1 = .ok (.invokespecial 1, 3) := by decide +kernel
theorem dX8_init_4 : decode cX8_init 4 = .ok (.aload_n 0, 1) := by decide +kernel
theorem dX8_init_5 : decode cX8_init 5 = .ok (.bipush 36, 2) := by decide +kernel
theorem dX8_init_7 : decode cX8_init 7 = .ok (.newarray .int, 2) := by decide +kernel
theorem dX8_init_9 : decode cX8_init 9 = .ok (.putfield 7, 3) := by decide +kernel
theorem dX8_init_12 : decode cX8_init 12 = .ok (.aload_n 0, 1) := by decide +kernel
theorem dX8_init_13 : decode cX8_init 13 = .ok (.bipush 6, 2) := by decide +kernel
theorem dX8_init_15 : decode cX8_init 15 = .ok (.newarray .int, 2) := by decide +kernel
theorem dX8_init_17 : decode cX8_init 17 = .ok (.putfield 13, 3) := by decide +kernel
theorem dX8_init_20 : decode cX8_init 20 = .ok (.aload_n 0, 1) := by decide +kernel
theorem dX8_init_21 : decode cX8_init 21 = .ok (.iconst 4, 1) := by decide +kernel
theorem dX8_init_22 : decode cX8_init 22 = .ok (.newarray .int, 2) := by decide +kernel
theorem dX8_init_24 : decode cX8_init 24 = .ok (.putfield 16, 3) := by decide +kernel
theorem dX8_init_27 : decode cX8_init 27 = .ok (.aload_n 0, 1) := by decide +kernel
theorem dX8_init_28 : decode cX8_init 28 = .ok (.bipush 62, 2) := by decide +kernel
theorem dX8_init_30 : decode cX8_init 30 = .ok (.newarray .int, 2) := by decide +kernel
theorem dX8_init_32 : decode cX8_init 32 = .ok (.putfield 19, 3) := by decide +kernel
theorem dX8_init_35 : decode cX8_init 35 = .ok (.aload_n 0, 1) := by decide +kernel
theorem dX8_init_36 : decode cX8_init 36 = .ok (.bipush 124, 2) := by decide +kernel
theorem dX8_init_38 : decode cX8_init 38 = .ok (.newarray .int, 2) := by decide +kernel
theorem dX8_init_40 : decode cX8_init 40 = .ok (.putfield 22, 3) := by decide +kernel
theorem dX8_init_43 : decode cX8_init 43 = .ok (.aload_n 0, 1) := by decide +kernel
theorem dX8_init_44 : decode cX8_init 44 = .ok (.iconst 2, 1) := by decide +kernel
theorem dX8_init_45 : decode cX8_init 45 = .ok (.newarray .boolean, 2) := by decide +kernel
theorem dX8_init_47 : decode cX8_init 47 = .ok (.putfield 25, 3) := by decide +kernel
theorem dX8_init_50 : decode cX8_init 50 = .ok (.aload_n 0, 1) := by decide +kernel
theorem dX8_init_51 : decode cX8_init 51 = .ok (.bipush 40, 2) := by decide +kernel
theorem dX8_init_53 : decode cX8_init 53 = .ok (.newarray .int, 2) := by decide +kernel
theorem dX8_init_55 : decode cX8_init 55 = .ok (.putfield 29, 3) := by decide +kernel
theorem dX8_init_58 : decode cX8_init 58 = .ok (.aload_n 0, 1) := by decide +kernel
theorem dX8_init_59 : decode cX8_init 59 = .ok (.bipush 80, 2) := by decide +kernel
theorem dX8_init_61 : decode cX8_init 61 = .ok (.newarray .int, 2) := by decide +kernel
theorem dX8_init_63 : decode cX8_init 63 = .ok (.putfield 32, 3) := by decide +kernel
theorem dX8_init_66 : decode cX8_init 66 = .ok (.aload_n 0, 1) := by decide +kernel
theorem dX8_init_67 : decode cX8_init 67 = .ok (.sipush 500, 3) := by decide +kernel
theorem dX8_init_70 : decode cX8_init 70 = .ok (.newarray .int, 2) := by decide +kernel
theorem dX8_init_72 : decode cX8_init 72 = .ok (.putfield 35, 3) := by decide +kernel
theorem dX8_init_75 : decode cX8_init 75 = .ok (.aload_n 0, 1) := by decide +kernel
theorem dX8_init_76 : decode cX8_init 76 = .ok (.bipush 36, 2) := by decide +kernel
theorem dX8_init_78 : decode cX8_init 78 = .ok (.newarray .int, 2) := by decide +kernel
theorem dX8_init_80 : decode cX8_init 80 = .ok (.putfield 38, 3) := by decide +kernel
theorem dX8_init_83 : decode cX8_init 83 = .ok (.aload_n 0, 1) := by decide +kernel
theorem dX8_init_84 : decode cX8_init 84 = .ok (.bipush 6, 2) := by decide +kernel
theorem dX8_init_86 : decode cX8_init 86 = .ok (.newarray .int, 2) := by decide +kernel
theorem dX8_init_88 : decode cX8_init 88 = .ok (.putfield 41, 3) := by decide +kernel
theorem dX8_init_91 : decode cX8_init 91 = .ok (.aload_n 0, 1) := by decide +kernel
theorem dX8_init_92 : decode cX8_init 92 = .ok (.bipush 12, 2) := by decide +kernel
theorem dX8_init_94 : decode cX8_init 94 = .ok (.newarray .int, 2) := by decide +kernel
theorem dX8_init_96 : decode cX8_init 96 = .ok (.putfield 44, 3) := by decide +kernel
theorem dX8_init_99 : decode cX8_init 99 = .ok (.aload_n 0, 1) := by decide +kernel
theorem dX8_init_100 : decode cX8_init 100 = .ok (.iconst 4, 1) := by decide +kernel
theorem dX8_init_101 : decode cX8_init 101 = .ok (.newarray .int, 2) := by decide +kernel
theorem dX8_init_103 : decode cX8_init 103 = .ok (.putfield 47, 3) := by decide +kernel
theorem dX8_init_106 : decode cX8_init 106 = .ok (.aload_n 0, 1) := by decide +kernel
theorem dX8_init_107 : decode cX8_init 107 = .ok (.iconst 4, 1) := by decide +kernel
theorem dX8_init_108 : decode cX8_init 108 = .ok (.newarray .long, 2) := by decide +kernel
theorem dX8_init_110 : decode cX8_init 110 = .ok (.putfield 50, 3) := by decide +kernel
theorem dX8_init_113 : decode cX8_init 113 = .ok (.aload_n 0, 1) := by decide +kernel
theorem dX8_init_114 : decode cX8_init 114 = .ok (.iconst 4, 1) := by decide +kernel
theorem dX8_init_115 : decode cX8_init 115 = .ok (.newarray .long, 2) := by decide +kernel
theorem dX8_init_117 : decode cX8_init 117 = .ok (.putfield 54, 3) := by decide +kernel
theorem dX8_init_120 : decode cX8_init 120 = .ok (.aload_n 0, 1) := by decide +kernel
theorem dX8_init_121 : decode cX8_init 121 = .ok (.iconst 4, 1) := by decide +kernel
theorem dX8_init_122 : decode cX8_init 122 = .ok (.newarray .int, 2) := by decide +kernel
theorem dX8_init_124 : decode cX8_init 124 = .ok (.putfield 57, 3) := by decide +kernel
theorem dX8_init_127 : decode cX8_init 127 = .ok (.aload_n 0, 1) := by decide +kernel
theorem dX8_init_128 : decode cX8_init 128 = .ok (.iconst 4, 1) := by decide +kernel
theorem dX8_init_129 : decode cX8_init 129 = .ok (.newarray .int, 2) := by decide +kernel
theorem dX8_init_131 : decode cX8_init 131 = .ok (.putfield 60, 3) := by decide +kernel
theorem dX8_init_134 : decode cX8_init 134 = .ok (.aload_n 0, 1) := by decide +kernel
theorem dX8_init_135 : decode cX8_init 135 = .ok (.iconst 4, 1) := by decide +kernel
theorem dX8_init_136 : decode cX8_init 136 = .ok (.newarray .int, 2) := by decide +kernel
theorem dX8_init_138 : decode cX8_init 138 = .ok (.putfield 63, 3) := by decide +kernel
theorem dX8_init_141 : decode cX8_init 141 = .ok (.aload_n 0, 1) := by decide +kernel
theorem dX8_init_142 : decode cX8_init 142 = .ok (.iconst 4, 1) := by decide +kernel
theorem dX8_init_143 : decode cX8_init 143 = .ok (.newarray .int, 2) := by decide +kernel
theorem dX8_init_145 : decode cX8_init 145 = .ok (.putfield 66, 3) := by decide +kernel
theorem dX8_init_148 : decode cX8_init 148 = .ok (.aload_n 0, 1) := by decide +kernel
theorem dX8_init_149 : decode cX8_init 149 = .ok (.iconst 1, 1) := by decide +kernel
theorem dX8_init_150 : decode cX8_init 150 = .ok (.putfield 69, 3) := by decide +kernel
theorem dX8_init_153 : decode cX8_init 153 = .ok (.aload_n 0, 1) := by decide +kernel
theorem dX8_init_154 : decode cX8_init 154 = .ok (.getfield 13, 3) := by decide +kernel
theorem dX8_init_157 : decode cX8_init 157 = .ok (.iconst 0, 1) := by decide +kernel
theorem dX8_init_158 : decode cX8_init 158 = .ok (.iconst 5, 1) := by decide +kernel
theorem dX8_init_159 : decode cX8_init 159 = .ok (.iastore, 1) := by decide +kernel
theorem dX8_init_160 : decode cX8_init 160 = .ok (.aload_n 0, 1) := by decide +kernel
theorem dX8_init_161 : decode cX8_init 161 = .ok (.iconst (-1), 1) := by decide +kernel
theorem dX8_init_162 : decode cX8_init 162 = .ok (.putfield 73, 3) := by decide +kernel
theorem dX8_init_165 : decode cX8_init 165 = .ok (.return_, 1) := by decide +kernel
theorem dX8_cell_0 : decode cX8_cell 0 = .ok (.iload_n 1, 1) := by decide +kernel
theorem dX8_cell_1 : decode cX8_cell 1 = .ok (.i2l, 1) := by decide +kernel
theorem dX8_cell_2 : decode cX8_cell 2 = .ok (.lconst 0, 1) := by decide +kernel
theorem dX8_cell_3 : decode cX8_cell 3 = .ok (.aload_n 0, 1) := by decide +kernel
theorem dX8_cell_4 : decode cX8_cell 4 = .ok (.getfield 76, 3) := by decide +kernel
theorem dX8_cell_7 : decode cX8_cell 7 = .ok (.iconst 1, 1) := by decide +kernel
theorem dX8_cell_8 : decode cX8_cell 8 = .ok (.isub, 1) := by decide +kernel
theorem dX8_cell_9 : decode cX8_cell 9 = .ok (.i2l, 1) := by decide +kernel
theorem dX8_cell_10 : decode cX8_cell 10 = .ok (.invokestatic 79, 3) := by decide +kernel
theorem dX8_cell_13 : decode cX8_cell 13 = .ok (.ifCond .eq 30, 3) := by decide +kernel
theorem dX8_cell_16 : decode cX8_cell 16 = .ok (.iload_n 2, 1) := by decide +kernel
theorem dX8_cell_17 : decode cX8_cell 17 = .ok (.i2l, 1) := by decide +kernel
theorem dX8_cell_18 : decode cX8_cell 18 = .ok (.lconst 0, 1) := by decide +kernel
theorem dX8_cell_19 : decode cX8_cell 19 = .ok (.aload_n 0, 1) := by decide +kernel
theorem dX8_cell_20 : decode cX8_cell 20 = .ok (.getfield 83, 3) := by decide +kernel
theorem dX8_cell_23 : decode cX8_cell 23 = .ok (.iconst 1, 1) := by decide +kernel
theorem dX8_cell_24 : decode cX8_cell 24 = .ok (.isub, 1) := by decide +kernel
theorem dX8_cell_25 : decode cX8_cell 25 = .ok (.i2l, 1) := by decide +kernel
theorem dX8_cell_26 : decode cX8_cell 26 = .ok (.invokestatic 79, 3) := by decide +kernel
theorem dX8_cell_29 : decode cX8_cell 29 = .ok (.ifCond .eq 14, 3) := by decide +kernel
theorem dX8_cell_32 : decode cX8_cell 32 = .ok (.aload_n 0, 1) := by decide +kernel
theorem dX8_cell_33 : decode cX8_cell 33 = .ok (.getfield 76, 3) := by decide +kernel
theorem dX8_cell_36 : decode cX8_cell 36 = .ok (.iload_n 2, 1) := by decide +kernel
theorem dX8_cell_37 : decode cX8_cell 37 = .ok (.imul, 1) := by decide +kernel
theorem dX8_cell_38 : decode cX8_cell 38 = .ok (.iload_n 1, 1) := by decide +kernel
theorem dX8_cell_39 : decode cX8_cell 39 = .ok (.iadd, 1) := by decide +kernel
theorem dX8_cell_40 : decode cX8_cell 40 = .ok (.goto 4, 3) := by decide +kernel
theorem dX8_cell_43 : decode cX8_cell 43 = .ok (.iconst (-1), 1) := by decide +kernel
theorem dX8_cell_44 : decode cX8_cell 44 = .ok (.ireturn, 1) := by decide +kernel
theorem dX8_isMan_0 : decode cX8_isMan 0 = .ok (.iload_n 1, 1) := by decide +kernel
theorem dX8_isMan_1 : decode cX8_isMan 1 = .ok (.i2l, 1) := by decide +kernel
theorem dX8_isMan_2 : decode cX8_isMan 2 = .ok (.lconst 0, 1) := by decide +kernel
theorem dX8_isMan_3 : decode cX8_isMan 3 = .ok (.aload_n 0, 1) := by decide +kernel
theorem dX8_isMan_4 : decode cX8_isMan 4 = .ok (.getfield 86, 3) := by decide +kernel
theorem dX8_isMan_7 : decode cX8_isMan 7 = .ok (.iconst 1, 1) := by decide +kernel
theorem dX8_isMan_8 : decode cX8_isMan 8 = .ok (.isub, 1) := by decide +kernel
theorem dX8_isMan_9 : decode cX8_isMan 9 = .ok (.i2l, 1) := by decide +kernel
theorem dX8_isMan_10 : decode cX8_isMan 10 = .ok (.invokestatic 79, 3) := by decide +kernel
theorem dX8_isMan_13 : decode cX8_isMan 13 = .ok (.ireturn, 1) := by decide +kernel
theorem dX8_isNews_0 : decode cX8_isNews 0 = .ok (.iload_n 1, 1) := by decide +kernel
theorem dX8_isNews_1 : decode cX8_isNews 1 = .ok (.i2l, 1) := by decide +kernel
theorem dX8_isNews_2 : decode cX8_isNews 2 = .ok (.lconst 0, 1) := by decide +kernel
theorem dX8_isNews_3 : decode cX8_isNews 3 = .ok (.aload_n 0, 1) := by decide +kernel
theorem dX8_isNews_4 : decode cX8_isNews 4 = .ok (.getfield 89, 3) := by decide +kernel
theorem dX8_isNews_7 : decode cX8_isNews 7 = .ok (.iconst 1, 1) := by decide +kernel
theorem dX8_isNews_8 : decode cX8_isNews 8 = .ok (.isub, 1) := by decide +kernel
theorem dX8_isNews_9 : decode cX8_isNews 9 = .ok (.i2l, 1) := by decide +kernel
theorem dX8_isNews_10 : decode cX8_isNews 10 = .ok (.invokestatic 79, 3) := by decide +kernel
theorem dX8_isNews_13 : decode cX8_isNews 13 = .ok (.ireturn, 1) := by decide +kernel
theorem dX8_codeOf_0 : decode cX8_codeOf 0 = .ok (.bipush 10, 2) := by decide +kernel
theorem dX8_codeOf_2 : decode cX8_codeOf 2 = .ok (.iload_n 1, 1) := by decide +kernel
theorem dX8_codeOf_3 : decode cX8_codeOf 3 = .ok (.aload_n 0, 1) := by decide +kernel
theorem dX8_codeOf_4 : decode cX8_codeOf 4 = .ok (.getfield 76, 3) := by decide +kernel
theorem dX8_codeOf_7 : decode cX8_codeOf 7 = .ok (.irem, 1) := by decide +kernel
theorem dX8_codeOf_8 : decode cX8_codeOf 8 = .ok (.imul, 1) := by decide +kernel
theorem dX8_codeOf_9 : decode cX8_codeOf 9 = .ok (.iload_n 1, 1) := by decide +kernel
theorem dX8_codeOf_10 : decode cX8_codeOf 10 = .ok (.aload_n 0, 1) := by decide +kernel
theorem dX8_codeOf_11 : decode cX8_codeOf 11 = .ok (.getfield 76, 3) := by decide +kernel
theorem dX8_codeOf_14 : decode cX8_codeOf 14 = .ok (.idiv, 1) := by decide +kernel
theorem dX8_codeOf_15 : decode cX8_codeOf 15 = .ok (.iadd, 1) := by decide +kernel
theorem dX8_codeOf_16 : decode cX8_codeOf 16 = .ok (.ireturn, 1) := by decide +kernel
theorem dX8_feed_0 : decode cX8_feed 0 = .ok (.iload_n 1, 1) := by decide +kernel
theorem dX8_feed_1 : decode cX8_feed 1 = .ok (.i2l, 1) := by decide +kernel
theorem dX8_feed_2 : decode cX8_feed 2 = .ok (.lconst 1, 1) := by decide +kernel
theorem dX8_feed_3 : decode cX8_feed 3 = .ok (.ldc2_w 92, 3) := by decide +kernel
theorem dX8_feed_6 : decode cX8_feed 6 = .ok (.invokestatic 79, 3) := by decide +kernel
theorem dX8_feed_9 : decode cX8_feed 9 = .ok (.ifCond .ne 6, 3) := by decide +kernel
theorem dX8_feed_12 : decode cX8_feed 12 = .ok (.ldc 94, 2) := by decide +kernel
theorem dX8_feed_14 : decode cX8_feed 14 = .ok (.ireturn, 1) := by decide +kernel
theorem dX8_feed_15 : decode cX8_feed 15 = .ok (.aload_n 0, 1) := by decide +kernel
theorem dX8_feed_16 : decode cX8_feed 16 = .ok (.getfield 95, 3) := by decide +kernel
theorem dX8_feed_19 : decode cX8_feed 19 = .ok (.iload_n 1, 1) := by decide +kernel
theorem dX8_feed_20 : decode cX8_feed 20 = .ok (.iadd, 1) := by decide +kernel
theorem dX8_feed_21 : decode cX8_feed 21 = .ok (.sipush 500, 3) := by decide +kernel
theorem dX8_feed_24 : decode cX8_feed 24 = .ok (.if_icmp .le 6, 3) := by decide +kernel
theorem dX8_feed_27 : decode cX8_feed 27 = .ok (.ldc 98, 2) := by decide +kernel
theorem dX8_feed_29 : decode cX8_feed 29 = .ok (.ireturn, 1) := by decide +kernel
theorem dX8_feed_30 : decode cX8_feed 30 = .ok (.iload_n 1, 1) := by decide +kernel
theorem dX8_feed_31 : decode cX8_feed 31 = .ok (.iconst 1, 1) := by decide +kernel
theorem dX8_feed_32 : decode cX8_feed 32 = .ok (.isub, 1) := by decide +kernel
theorem dX8_feed_33 : decode cX8_feed 33 = .ok (.istore 4, 2) := by decide +kernel
theorem dX8_feed_35 : decode cX8_feed 35 = .ok (.iload 4, 2) := by decide +kernel
theorem dX8_feed_37 : decode cX8_feed 37 = .ok (.ifCond .lt 40, 3) := by decide +kernel
theorem dX8_feed_40 : decode cX8_feed 40 = .ok (.aload_n 0, 1) := by decide +kernel
theorem dX8_feed_41 : decode cX8_feed 41 = .ok (.getfield 35, 3) := by decide +kernel
theorem dX8_feed_44 : decode cX8_feed 44 = .ok (.aload_n 0, 1) := by decide +kernel
theorem dX8_feed_45 : decode cX8_feed 45 = .ok (.getfield 95, 3) := by decide +kernel
theorem dX8_feed_48 : decode cX8_feed 48 = .ok (.lload_n 2, 1) := by decide +kernel
theorem dX8_feed_49 : decode cX8_feed 49 = .ok (.bipush 8, 2) := by decide +kernel
theorem dX8_feed_51 : decode cX8_feed 51 = .ok (.iload 4, 2) := by decide +kernel
theorem dX8_feed_53 : decode cX8_feed 53 = .ok (.imul, 1) := by decide +kernel
theorem dX8_feed_54 : decode cX8_feed 54 = .ok (.lshr, 1) := by decide +kernel
theorem dX8_feed_55 : decode cX8_feed 55 = .ok (.ldc2_w 99, 3) := by decide +kernel
theorem dX8_feed_58 : decode cX8_feed 58 = .ok (.land, 1) := by decide +kernel
theorem dX8_feed_59 : decode cX8_feed 59 = .ok (.l2i, 1) := by decide +kernel
theorem dX8_feed_60 : decode cX8_feed 60 = .ok (.iastore, 1) := by decide +kernel
theorem dX8_feed_61 : decode cX8_feed 61 = .ok (.aload_n 0, 1) := by decide +kernel
theorem dX8_feed_62 : decode cX8_feed 62 = .ok (.dup, 1) := by decide +kernel
theorem dX8_feed_63 : decode cX8_feed 63 = .ok (.getfield 95, 3) := by decide +kernel
theorem dX8_feed_66 : decode cX8_feed 66 = .ok (.iconst 1, 1) := by decide +kernel
theorem dX8_feed_67 : decode cX8_feed 67 = .ok (.iadd, 1) := by decide +kernel
theorem dX8_feed_68 : decode cX8_feed 68 = .ok (.putfield 95, 3) := by decide +kernel
theorem dX8_feed_71 : decode cX8_feed 71 = .ok (.iinc 4 (-1), 3) := by decide +kernel
theorem dX8_feed_74 : decode cX8_feed 74 = .ok (.goto (-39), 3) := by decide +kernel
theorem dX8_feed_77 : decode cX8_feed 77 = .ok (.aload_n 0, 1) := by decide +kernel
theorem dX8_feed_78 : decode cX8_feed 78 = .ok (.getfield 95, 3) := by decide +kernel
theorem dX8_feed_81 : decode cX8_feed 81 = .ok (.ireturn, 1) := by decide +kernel
theorem dX8_isAt_0 : decode cX8_isAt 0 = .ok (.aload_n 0, 1) := by decide +kernel
theorem dX8_isAt_1 : decode cX8_isAt 1 = .ok (.getfield 101, 3) := by decide +kernel
theorem dX8_isAt_4 : decode cX8_isAt 4 = .ok (.aload_n 0, 1) := by decide +kernel
theorem dX8_isAt_5 : decode cX8_isAt 5 = .ok (.getfield 95, 3) := by decide +kernel
theorem dX8_isAt_8 : decode cX8_isAt 8 = .ok (.if_icmp .ge 27, 3) := by decide +kernel
theorem dX8_isAt_11 : decode cX8_isAt 11 = .ok (.aload_n 0, 1) := by decide +kernel
theorem dX8_isAt_12 : decode cX8_isAt 12 = .ok (.getfield 35, 3) := by decide +kernel
theorem dX8_isAt_15 : decode cX8_isAt 15 = .ok (.aload_n 0, 1) := by decide +kernel
theorem dX8_isAt_16 : decode cX8_isAt 16 = .ok (.getfield 101, 3) := by decide +kernel
theorem dX8_isAt_19 : decode cX8_isAt 19 = .ok (.iaload, 1) := by decide +kernel
theorem dX8_isAt_20 : decode cX8_isAt 20 = .ok (.i2l, 1) := by decide +kernel
theorem dX8_isAt_21 : decode cX8_isAt 21 = .ok (.iload_n 1, 1) := by decide +kernel
theorem dX8_isAt_22 : decode cX8_isAt 22 = .ok (.i2l, 1) := by decide +kernel
theorem dX8_isAt_23 : decode cX8_isAt 23 = .ok (.iload_n 2, 1) := by decide +kernel
theorem dX8_isAt_24 : decode cX8_isAt 24 = .ok (.i2l, 1) := by decide +kernel
theorem dX8_isAt_25 : decode cX8_isAt 25 = .ok (.invokestatic 79, 3) := by decide +kernel
theorem dX8_isAt_28 : decode cX8_isAt 28 = .ok (.ifCond .eq 7, 3) := by decide +kernel
theorem dX8_isAt_31 : decode cX8_isAt 31 = .ok (.iconst 1, 1) := by decide +kernel
theorem dX8_isAt_32 : decode cX8_isAt 32 = .ok (.goto 4, 3) := by decide +kernel
theorem dX8_isAt_35 : decode cX8_isAt 35 = .ok (.iconst 0, 1) := by decide +kernel
theorem dX8_isAt_36 : decode cX8_isAt 36 = .ok (.ireturn, 1) := by decide +kernel
theorem dX8_verbOf_0 : decode cX8_verbOf 0 = .ok (.lload_n 0, 1) := by decide +kernel
theorem dX8_verbOf_1 : decode cX8_verbOf 1 = .ok (.ldc2_w 104, 3) := by decide +kernel
theorem dX8_verbOf_4 : decode cX8_verbOf 4 = .ok (.lcmp, 1) := by decide +kernel
theorem dX8_verbOf_5 : decode cX8_verbOf 5 = .ok (.ifCond .ne 7, 3) := by decide +kernel
theorem dX8_verbOf_8 : decode cX8_verbOf 8 = .ok (.iconst 0, 1) := by decide +kernel
theorem dX8_verbOf_9 : decode cX8_verbOf 9 = .ok (.goto 28, 3) := by decide +kernel
theorem dX8_verbOf_12 : decode cX8_verbOf 12 = .ok (.lload_n 0, 1) := by decide +kernel
theorem dX8_verbOf_13 : decode cX8_verbOf 13 = .ok (.ldc2_w 106, 3) := by decide +kernel
theorem dX8_verbOf_16 : decode cX8_verbOf 16 = .ok (.lcmp, 1) := by decide +kernel
theorem dX8_verbOf_17 : decode cX8_verbOf 17 = .ok (.ifCond .ne 7, 3) := by decide +kernel
theorem dX8_verbOf_20 : decode cX8_verbOf 20 = .ok (.iconst 1, 1) := by decide +kernel
theorem dX8_verbOf_21 : decode cX8_verbOf 21 = .ok (.goto 16, 3) := by decide +kernel
theorem dX8_verbOf_24 : decode cX8_verbOf 24 = .ok (.lload_n 0, 1) := by decide +kernel
theorem dX8_verbOf_25 : decode cX8_verbOf 25 = .ok (.ldc2_w 108, 3) := by decide +kernel
theorem dX8_verbOf_28 : decode cX8_verbOf 28 = .ok (.lcmp, 1) := by decide +kernel
theorem dX8_verbOf_29 : decode cX8_verbOf 29 = .ok (.ifCond .ne 7, 3) := by decide +kernel
theorem dX8_verbOf_32 : decode cX8_verbOf 32 = .ok (.iconst 2, 1) := by decide +kernel
theorem dX8_verbOf_33 : decode cX8_verbOf 33 = .ok (.goto 4, 3) := by decide +kernel
theorem dX8_verbOf_36 : decode cX8_verbOf 36 = .ok (.iconst (-1), 1) := by decide +kernel
theorem dX8_verbOf_37 : decode cX8_verbOf 37 = .ok (.istore_n 2, 1) := by decide +kernel
theorem dX8_verbOf_38 : decode cX8_verbOf 38 = .ok (.lload_n 0, 1) := by decide +kernel
theorem dX8_verbOf_39 : decode cX8_verbOf 39 = .ok (.ldc2_w 110, 3) := by decide +kernel
theorem dX8_verbOf_42 : decode cX8_verbOf 42 = .ok (.lcmp, 1) := by decide +kernel
theorem dX8_verbOf_43 : decode cX8_verbOf 43 = .ok (.ifCond .ne 7, 3) := by decide +kernel
theorem dX8_verbOf_46 : decode cX8_verbOf 46 = .ok (.iconst 3, 1) := by decide +kernel
theorem dX8_verbOf_47 : decode cX8_verbOf 47 = .ok (.goto 28, 3) := by decide +kernel
theorem dX8_verbOf_50 : decode cX8_verbOf 50 = .ok (.lload_n 0, 1) := by decide +kernel
theorem dX8_verbOf_51 : decode cX8_verbOf 51 = .ok (.ldc2_w 112, 3) := by decide +kernel
theorem dX8_verbOf_54 : decode cX8_verbOf 54 = .ok (.lcmp, 1) := by decide +kernel
theorem dX8_verbOf_55 : decode cX8_verbOf 55 = .ok (.ifCond .ne 7, 3) := by decide +kernel
theorem dX8_verbOf_58 : decode cX8_verbOf 58 = .ok (.iconst 4, 1) := by decide +kernel
theorem dX8_verbOf_59 : decode cX8_verbOf 59 = .ok (.goto 16, 3) := by decide +kernel
theorem dX8_verbOf_62 : decode cX8_verbOf 62 = .ok (.lload_n 0, 1) := by decide +kernel
theorem dX8_verbOf_63 : decode cX8_verbOf 63 = .ok (.ldc2_w 114, 3) := by decide +kernel
theorem dX8_verbOf_66 : decode cX8_verbOf 66 = .ok (.lcmp, 1) := by decide +kernel
theorem dX8_verbOf_67 : decode cX8_verbOf 67 = .ok (.ifCond .ne 7, 3) := by decide +kernel
theorem dX8_verbOf_70 : decode cX8_verbOf 70 = .ok (.iconst 5, 1) := by decide +kernel
theorem dX8_verbOf_71 : decode cX8_verbOf 71 = .ok (.goto 4, 3) := by decide +kernel
theorem dX8_verbOf_74 : decode cX8_verbOf 74 = .ok (.iconst (-1), 1) := by decide +kernel
theorem dX8_verbOf_75 : decode cX8_verbOf 75 = .ok (.istore_n 3, 1) := by decide +kernel
theorem dX8_verbOf_76 : decode cX8_verbOf 76 = .ok (.iload_n 2, 1) := by decide +kernel
theorem dX8_verbOf_77 : decode cX8_verbOf 77 = .ok (.iconst (-1), 1) := by decide +kernel
theorem dX8_verbOf_78 : decode cX8_verbOf 78 = .ok (.if_icmp .eq 7, 3) := by decide +kernel
theorem dX8_verbOf_81 : decode cX8_verbOf 81 = .ok (.iload_n 2, 1) := by decide +kernel
theorem dX8_verbOf_82 : decode cX8_verbOf 82 = .ok (.goto 4, 3) := by decide +kernel
theorem dX8_verbOf_85 : decode cX8_verbOf 85 = .ok (.iload_n 3, 1) := by decide +kernel
theorem dX8_verbOf_86 : decode cX8_verbOf 86 = .ok (.ireturn, 1) := by decide +kernel
theorem dX8_scans_0 : decode cX8_scans 0 = .ok (.aload_n 0, 1) := by decide +kernel
theorem dX8_scans_1 : decode cX8_scans 1 = .ok (.bipush 32, 2) := by decide +kernel
theorem dX8_scans_3 : decode cX8_scans 3 = .ok (.bipush 32, 2) := by decide +kernel
theorem dX8_scans_5 : decode cX8_scans 5 = .ok (.invokevirtual 116, 3) := by decide +kernel
theorem dX8_scans_8 : decode cX8_scans 8 = .ok (.ifCond .eq 16, 3) := by decide +kernel
theorem dX8_scans_11 : decode cX8_scans 11 = .ok (.aload_n 0, 1) := by decide +kernel
theorem dX8_scans_12 : decode cX8_scans 12 = .ok (.dup, 1) := by decide +kernel
theorem dX8_scans_13 : decode cX8_scans 13 = .ok (.getfield 101, 3) := by decide +kernel
theorem dX8_scans_16 : decode cX8_scans 16 = .ok (.iconst 1, 1) := by decide +kernel
theorem dX8_scans_17 : decode cX8_scans 17 = .ok (.iadd, 1) := by decide +kernel
theorem dX8_scans_18 : decode cX8_scans 18 = .ok (.putfield 101, 3) := by decide +kernel
theorem dX8_scans_21 : decode cX8_scans 21 = .ok (.goto (-21), 3) := by decide +kernel
theorem dX8_scans_24 : decode cX8_scans 24 = .ok (.aload_n 0, 1) := by decide +kernel
theorem dX8_scans_25 : decode cX8_scans 25 = .ok (.aload_n 0, 1) := by decide +kernel
theorem dX8_scans_26 : decode cX8_scans 26 = .ok (.getfield 101, 3) := by decide +kernel
theorem dX8_scans_29 : decode cX8_scans 29 = .ok (.putfield 120, 3) := by decide +kernel
theorem dX8_scans_32 : decode cX8_scans 32 = .ok (.aload_n 0, 1) := by decide +kernel
theorem dX8_scans_33 : decode cX8_scans 33 = .ok (.getfield 101, 3) := by decide +kernel
theorem dX8_scans_36 : decode cX8_scans 36 = .ok (.aload_n 0, 1) := by decide +kernel
theorem dX8_scans_37 : decode cX8_scans 37 = .ok (.getfield 95, 3) := by decide +kernel
theorem dX8_scans_40 : decode cX8_scans 40 = .ok (.if_icmp .ne 9, 3) := by decide +kernel
theorem dX8_scans_43 : decode cX8_scans 43 = .ok (.aload_n 0, 1) := by decide +kernel
theorem dX8_scans_44 : decode cX8_scans 44 = .ok (.iconst 0, 1) := by decide +kernel
theorem dX8_scans_45 : decode cX8_scans 45 = .ok (.putfield 123, 3) := by decide +kernel
theorem dX8_scans_48 : decode cX8_scans 48 = .ok (.return_, 1) := by decide +kernel
theorem dX8_scans_49 : decode cX8_scans 49 = .ok (.aload_n 0, 1) := by decide +kernel
theorem dX8_scans_50 : decode cX8_scans 50 = .ok (.bipush 97, 2) := by decide +kernel
theorem dX8_scans_52 : decode cX8_scans 52 = .ok (.bipush 122, 2) := by decide +kernel
theorem dX8_scans_54 : decode cX8_scans 54 = .ok (.invokevirtual 116, 3) := by decide +kernel
theorem dX8_scans_57 : decode cX8_scans 57 = .ok (.ifCond .eq 108, 3) := by decide +kernel
theorem dX8_scans_60 : decode cX8_scans 60 = .ok (.lconst 0, 1) := by decide +kernel
theorem dX8_scans_61 : decode cX8_scans 61 = .ok (.lstore_n 1, 1) := by decide +kernel
theorem dX8_scans_62 : decode cX8_scans 62 = .ok (.aload_n 0, 1) := by decide +kernel
theorem dX8_scans_63 : decode cX8_scans 63 = .ok (.bipush 97, 2) := by decide +kernel
theorem dX8_scans_65 : decode cX8_scans 65 = .ok (.bipush 122, 2) := by decide +kernel
theorem dX8_scans_67 : decode cX8_scans 67 = .ok (.invokevirtual 116, 3) := by decide +kernel
theorem dX8_scans_70 : decode cX8_scans 70 = .ok (.ifCond .eq 58, 3) := by decide +kernel
theorem dX8_scans_73 : decode cX8_scans 73 = .ok (.aload_n 0, 1) := by decide +kernel
theorem dX8_scans_74 : decode cX8_scans 74 = .ok (.getfield 101, 3) := by decide +kernel
theorem dX8_scans_77 : decode cX8_scans 77 = .ok (.aload_n 0, 1) := by decide +kernel
theorem dX8_scans_78 : decode cX8_scans 78 = .ok (.getfield 120, 3) := by decide +kernel
theorem dX8_scans_81 : decode cX8_scans 81 = .ok (.isub, 1) := by decide +kernel
theorem dX8_scans_82 : decode cX8_scans 82 = .ok (.iconst 5, 1) := by decide +kernel
theorem dX8_scans_83 : decode cX8_scans 83 = .ok (.if_icmp .le 9, 3) := by decide +kernel
theorem dX8_scans_86 : decode cX8_scans 86 = .ok (.ldc2_w 126, 3) := by decide +kernel
theorem dX8_scans_89 : decode cX8_scans 89 = .ok (.goto 25, 3) := by decide +kernel
theorem dX8_scans_92 : decode cX8_scans 92 = .ok (.ldc2_w 128, 3) := by decide +kernel
theorem dX8_scans_95 : decode cX8_scans 95 = .ok (.lload_n 1, 1) := by decide +kernel
theorem dX8_scans_96 : decode cX8_scans 96 = .ok (.lmul, 1) := by decide +kernel
theorem dX8_scans_97 : decode cX8_scans 97 = .ok (.aload_n 0, 1) := by decide +kernel
theorem dX8_scans_98 : decode cX8_scans 98 = .ok (.getfield 35, 3) := by decide +kernel
theorem dX8_scans_101 : decode cX8_scans 101 = .ok (.aload_n 0, 1) := by decide +kernel
theorem dX8_scans_102 : decode cX8_scans 102 = .ok (.getfield 101, 3) := by decide +kernel
theorem dX8_scans_105 : decode cX8_scans 105 = .ok (.iaload, 1) := by decide +kernel
theorem dX8_scans_106 : decode cX8_scans 106 = .ok (.i2l, 1) := by decide +kernel
theorem dX8_scans_107 : decode cX8_scans 107 = .ok (.ladd, 1) := by decide +kernel
theorem dX8_scans_108 : decode cX8_scans 108 = .ok (.ldc2_w 130, 3) := by decide +kernel
theorem dX8_scans_111 : decode cX8_scans 111 = .ok (.lsub, 1) := by decide +kernel
theorem dX8_scans_112 : decode cX8_scans 112 = .ok (.lconst 1, 1) := by decide +kernel
theorem dX8_scans_113 : decode cX8_scans 113 = .ok (.ladd, 1) := by decide +kernel
theorem dX8_scans_114 : decode cX8_scans 114 = .ok (.lstore_n 1, 1) := by decide +kernel
theorem dX8_scans_115 : decode cX8_scans 115 = .ok (.aload_n 0, 1) := by decide +kernel
theorem dX8_scans_116 : decode cX8_scans 116 = .ok (.dup, 1) := by decide +kernel
theorem dX8_scans_117 : decode cX8_scans 117 = .ok (.getfield 101, 3) := by decide +kernel
theorem dX8_scans_120 : decode cX8_scans 120 = .ok (.iconst 1, 1) := by decide +kernel
theorem dX8_scans_121 : decode cX8_scans 121 = .ok (.iadd, 1) := by decide +kernel
theorem dX8_scans_122 : decode cX8_scans 122 = .ok (.putfield 101, 3) := by decide +kernel
theorem dX8_scans_125 : decode cX8_scans 125 = .ok (.goto (-63), 3) := by decide +kernel
theorem dX8_scans_128 : decode cX8_scans 128 = .ok (.aload_n 0, 1) := by decide +kernel
theorem dX8_scans_129 : decode cX8_scans 129 = .ok (.aload_n 0, 1) := by decide +kernel
theorem dX8_scans_130 : decode cX8_scans 130 = .ok (.getfield 101, 3) := by decide +kernel
theorem dX8_scans_133 : decode cX8_scans 133 = .ok (.aload_n 0, 1) := by decide +kernel
theorem dX8_scans_134 : decode cX8_scans 134 = .ok (.getfield 120, 3) := by decide +kernel
theorem dX8_scans_137 : decode cX8_scans 137 = .ok (.isub, 1) := by decide +kernel
theorem dX8_scans_138 : decode cX8_scans 138 = .ok (.bipush 6, 2) := by decide +kernel
theorem dX8_scans_140 : decode cX8_scans 140 = .ok (.if_icmp .gt 11, 3) := by decide +kernel
theorem dX8_scans_143 : decode cX8_scans 143 = .ok (.lload_n 1, 1) := by decide +kernel
theorem dX8_scans_144 : decode cX8_scans 144 = .ok (.invokestatic 132, 3) := by decide +kernel
theorem dX8_scans_147 : decode cX8_scans 147 = .ok (.iconst (-1), 1) := by decide +kernel
theorem dX8_scans_148 : decode cX8_scans 148 = .ok (.if_icmp .ne 7, 3) := by decide +kernel
theorem dX8_scans_151 : decode cX8_scans 151 = .ok (.iconst 1, 1) := by decide +kernel
theorem dX8_scans_152 : decode cX8_scans 152 = .ok (.goto 9, 3) := by decide +kernel
theorem dX8_scans_155 : decode cX8_scans 155 = .ok (.iconst 5, 1) := by decide +kernel
theorem dX8_scans_156 : decode cX8_scans 156 = .ok (.lload_n 1, 1) := by decide +kernel
theorem dX8_scans_157 : decode cX8_scans 157 = .ok (.invokestatic 132, 3) := by decide +kernel
theorem dX8_scans_160 : decode cX8_scans 160 = .ok (.iadd, 1) := by decide +kernel
theorem dX8_scans_161 : decode cX8_scans 161 = .ok (.putfield 123, 3) := by decide +kernel
theorem dX8_scans_164 : decode cX8_scans 164 = .ok (.return_, 1) := by decide +kernel
theorem dX8_scans_165 : decode cX8_scans 165 = .ok (.aload_n 0, 1) := by decide +kernel
theorem dX8_scans_166 : decode cX8_scans 166 = .ok (.bipush 48, 2) := by decide +kernel
theorem dX8_scans_168 : decode cX8_scans 168 = .ok (.bipush 57, 2) := by decide +kernel
theorem dX8_scans_170 : decode cX8_scans 170 = .ok (.invokevirtual 116, 3) := by decide +kernel
theorem dX8_scans_173 : decode cX8_scans 173 = .ok (.ifCond .eq 81, 3) := by decide +kernel
theorem dX8_scans_176 : decode cX8_scans 176 = .ok (.aload_n 0, 1) := by decide +kernel
theorem dX8_scans_177 : decode cX8_scans 177 = .ok (.iconst 0, 1) := by decide +kernel
theorem dX8_scans_178 : decode cX8_scans 178 = .ok (.putfield 136, 3) := by decide +kernel
theorem dX8_scans_181 : decode cX8_scans 181 = .ok (.aload_n 0, 1) := by decide +kernel
theorem dX8_scans_182 : decode cX8_scans 182 = .ok (.bipush 48, 2) := by decide +kernel
theorem dX8_scans_184 : decode cX8_scans 184 = .ok (.bipush 57, 2) := by decide +kernel
theorem dX8_scans_186 : decode cX8_scans 186 = .ok (.invokevirtual 116, 3) := by decide +kernel
theorem dX8_scans_189 : decode cX8_scans 189 = .ok (.ifCond .eq 59, 3) := by decide +kernel
theorem dX8_scans_192 : decode cX8_scans 192 = .ok (.aload_n 0, 1) := by decide +kernel
theorem dX8_scans_193 : decode cX8_scans 193 = .ok (.aload_n 0, 1) := by decide +kernel
theorem dX8_scans_194 : decode cX8_scans 194 = .ok (.getfield 101, 3) := by decide +kernel
theorem dX8_scans_197 : decode cX8_scans 197 = .ok (.aload_n 0, 1) := by decide +kernel
theorem dX8_scans_198 : decode cX8_scans 198 = .ok (.getfield 120, 3) := by decide +kernel
theorem dX8_scans_201 : decode cX8_scans 201 = .ok (.isub, 1) := by decide +kernel
theorem dX8_scans_202 : decode cX8_scans 202 = .ok (.iconst 3, 1) := by decide +kernel
theorem dX8_scans_203 : decode cX8_scans 203 = .ok (.if_icmp .ge 26, 3) := by decide +kernel
theorem dX8_scans_206 : decode cX8_scans 206 = .ok (.bipush 10, 2) := by decide +kernel
theorem dX8_scans_208 : decode cX8_scans 208 = .ok (.aload_n 0, 1) := by decide +kernel
theorem dX8_scans_209 : decode cX8_scans 209 = .ok (.getfield 136, 3) := by decide +kernel
theorem dX8_scans_212 : decode cX8_scans 212 = .ok (.imul, 1) := by decide +kernel
theorem dX8_scans_213 : decode cX8_scans 213 = .ok (.aload_n 0, 1) := by decide +kernel
theorem dX8_scans_214 : decode cX8_scans 214 = .ok (.getfield 35, 3) := by decide +kernel
theorem dX8_scans_217 : decode cX8_scans 217 = .ok (.aload_n 0, 1) := by decide +kernel
theorem dX8_scans_218 : decode cX8_scans 218 = .ok (.getfield 101, 3) := by decide +kernel
theorem dX8_scans_221 : decode cX8_scans 221 = .ok (.iaload, 1) := by decide +kernel
theorem dX8_scans_222 : decode cX8_scans 222 = .ok (.iadd, 1) := by decide +kernel
theorem dX8_scans_223 : decode cX8_scans 223 = .ok (.bipush 48, 2) := by decide +kernel
theorem dX8_scans_225 : decode cX8_scans 225 = .ok (.isub, 1) := by decide +kernel
theorem dX8_scans_226 : decode cX8_scans 226 = .ok (.goto 6, 3) := by decide +kernel
theorem dX8_scans_229 : decode cX8_scans 229 = .ok (.sipush 9999, 3) := by decide +kernel
theorem dX8_scans_232 : decode cX8_scans 232 = .ok (.putfield 136, 3) := by decide +kernel
theorem dX8_scans_235 : decode cX8_scans 235 = .ok (.aload_n 0, 1) := by decide +kernel
theorem dX8_scans_236 : decode cX8_scans 236 = .ok (.dup, 1) := by decide +kernel
theorem dX8_scans_237 : decode cX8_scans 237 = .ok (.getfield 101, 3) := by decide +kernel
theorem dX8_scans_240 : decode cX8_scans 240 = .ok (.iconst 1, 1) := by decide +kernel
theorem dX8_scans_241 : decode cX8_scans 241 = .ok (.iadd, 1) := by decide +kernel
theorem dX8_scans_242 : decode cX8_scans 242 = .ok (.putfield 101, 3) := by decide +kernel
theorem dX8_scans_245 : decode cX8_scans 245 = .ok (.goto (-64), 3) := by decide +kernel
theorem dX8_scans_248 : decode cX8_scans 248 = .ok (.aload_n 0, 1) := by decide +kernel
theorem dX8_scans_249 : decode cX8_scans 249 = .ok (.iconst 2, 1) := by decide +kernel
theorem dX8_scans_250 : decode cX8_scans 250 = .ok (.putfield 123, 3) := by decide +kernel
theorem dX8_scans_253 : decode cX8_scans 253 = .ok (.return_, 1) := by decide +kernel
theorem dX8_scans_254 : decode cX8_scans 254 = .ok (.aload_n 0, 1) := by decide +kernel
theorem dX8_scans_255 : decode cX8_scans 255 = .ok (.aload_n 0, 1) := by decide +kernel
theorem dX8_scans_256 : decode cX8_scans 256 = .ok (.bipush 59, 2) := by decide +kernel
theorem dX8_scans_258 : decode cX8_scans 258 = .ok (.bipush 59, 2) := by decide +kernel
theorem dX8_scans_260 : decode cX8_scans 260 = .ok (.invokevirtual 116, 3) := by decide +kernel
theorem dX8_scans_263 : decode cX8_scans 263 = .ok (.ifCond .eq 7, 3) := by decide +kernel
theorem dX8_scans_266 : decode cX8_scans 266 = .ok (.iconst 3, 1) := by decide +kernel
theorem dX8_scans_267 : decode cX8_scans 267 = .ok (.goto 19, 3) := by decide +kernel
theorem dX8_scans_270 : decode cX8_scans 270 = .ok (.aload_n 0, 1) := by decide +kernel
theorem dX8_scans_271 : decode cX8_scans 271 = .ok (.bipush 44, 2) := by decide +kernel
theorem dX8_scans_273 : decode cX8_scans 273 = .ok (.bipush 44, 2) := by decide +kernel
theorem dX8_scans_275 : decode cX8_scans 275 = .ok (.invokevirtual 116, 3) := by decide +kernel
theorem dX8_scans_278 : decode cX8_scans 278 = .ok (.ifCond .eq 7, 3) := by decide +kernel
theorem dX8_scans_281 : decode cX8_scans 281 = .ok (.iconst 4, 1) := by decide +kernel
theorem dX8_scans_282 : decode cX8_scans 282 = .ok (.goto 4, 3) := by decide +kernel
theorem dX8_scans_285 : decode cX8_scans 285 = .ok (.iconst 1, 1) := by decide +kernel
theorem dX8_scans_286 : decode cX8_scans 286 = .ok (.putfield 123, 3) := by decide +kernel
theorem dX8_scans_289 : decode cX8_scans 289 = .ok (.aload_n 0, 1) := by decide +kernel
theorem dX8_scans_290 : decode cX8_scans 290 = .ok (.dup, 1) := by decide +kernel
theorem dX8_scans_291 : decode cX8_scans 291 = .ok (.getfield 101, 3) := by decide +kernel
theorem dX8_scans_294 : decode cX8_scans 294 = .ok (.iconst 1, 1) := by decide +kernel
theorem dX8_scans_295 : decode cX8_scans 295 = .ok (.iadd, 1) := by decide +kernel
theorem dX8_scans_296 : decode cX8_scans 296 = .ok (.putfield 101, 3) := by decide +kernel
theorem dX8_scans_299 : decode cX8_scans 299 = .ok (.return_, 1) := by decide +kernel
theorem dX8_faults_0 : decode cX8_faults 0 = .ok (.aload_n 0, 1) := by decide +kernel
theorem dX8_faults_1 : decode cX8_faults 1 = .ok (.iload_n 1, 1) := by decide +kernel
theorem dX8_faults_2 : decode cX8_faults 2 = .ok (.putfield 139, 3) := by decide +kernel
theorem dX8_faults_5 : decode cX8_faults 5 = .ok (.iconst 0, 1) := by decide +kernel
theorem dX8_faults_6 : decode cX8_faults 6 = .ok (.ireturn, 1) := by decide +kernel
theorem dX8_takes_0 : decode cX8_takes 0 = .ok (.aload_n 0, 1) := by decide +kernel
theorem dX8_takes_1 : decode cX8_takes 1 = .ok (.getfield 123, 3) := by decide +kernel
theorem dX8_takes_4 : decode cX8_takes 4 = .ok (.iconst 2, 1) := by decide +kernel
theorem dX8_takes_5 : decode cX8_takes 5 = .ok (.if_icmp .eq 9, 3) := by decide +kernel
theorem dX8_takes_8 : decode cX8_takes 8 = .ok (.aload_n 0, 1) := by decide +kernel
theorem dX8_takes_9 : decode cX8_takes 9 = .ok (.iconst 1, 1) := by decide +kernel
theorem dX8_takes_10 : decode cX8_takes 10 = .ok (.invokevirtual 142, 3) := by decide +kernel
theorem dX8_takes_13 : decode cX8_takes 13 = .ok (.ireturn, 1) := by decide +kernel
theorem dX8_takes_14 : decode cX8_takes 14 = .ok (.aload_n 0, 1) := by decide +kernel
theorem dX8_takes_15 : decode cX8_takes 15 = .ok (.getfield 136, 3) := by decide +kernel
theorem dX8_takes_18 : decode cX8_takes 18 = .ok (.i2l, 1) := by decide +kernel
theorem dX8_takes_19 : decode cX8_takes 19 = .ok (.iload_n 1, 1) := by decide +kernel
theorem dX8_takes_20 : decode cX8_takes 20 = .ok (.i2l, 1) := by decide +kernel
theorem dX8_takes_21 : decode cX8_takes 21 = .ok (.iload_n 2, 1) := by decide +kernel
theorem dX8_takes_22 : decode cX8_takes 22 = .ok (.i2l, 1) := by decide +kernel
theorem dX8_takes_23 : decode cX8_takes 23 = .ok (.invokestatic 79, 3) := by decide +kernel
theorem dX8_takes_26 : decode cX8_takes 26 = .ok (.ifCond .ne 9, 3) := by decide +kernel
theorem dX8_takes_29 : decode cX8_takes 29 = .ok (.aload_n 0, 1) := by decide +kernel
theorem dX8_takes_30 : decode cX8_takes 30 = .ok (.iconst 2, 1) := by decide +kernel
theorem dX8_takes_31 : decode cX8_takes 31 = .ok (.invokevirtual 142, 3) := by decide +kernel
theorem dX8_takes_34 : decode cX8_takes 34 = .ok (.ireturn, 1) := by decide +kernel
theorem dX8_takes_35 : decode cX8_takes 35 = .ok (.aload_n 0, 1) := by decide +kernel
theorem dX8_takes_36 : decode cX8_takes 36 = .ok (.aload_n 0, 1) := by decide +kernel
theorem dX8_takes_37 : decode cX8_takes 37 = .ok (.getfield 136, 3) := by decide +kernel
theorem dX8_takes_40 : decode cX8_takes 40 = .ok (.putfield 146, 3) := by decide +kernel
theorem dX8_takes_43 : decode cX8_takes 43 = .ok (.aload_n 0, 1) := by decide +kernel
theorem dX8_takes_44 : decode cX8_takes 44 = .ok (.invokevirtual 149, 3) := by decide +kernel
theorem dX8_takes_47 : decode cX8_takes 47 = .ok (.iconst 1, 1) := by decide +kernel
theorem dX8_takes_48 : decode cX8_takes 48 = .ok (.ireturn, 1) := by decide +kernel
theorem dX8_signs_0 : decode cX8_signs 0 = .ok (.aload_n 0, 1) := by decide +kernel
theorem dX8_signs_1 : decode cX8_signs 1 = .ok (.getfield 123, 3) := by decide +kernel
theorem dX8_signs_4 : decode cX8_signs 4 = .ok (.iload_n 1, 1) := by decide +kernel
theorem dX8_signs_5 : decode cX8_signs 5 = .ok (.if_icmp .eq 9, 3) := by decide +kernel
theorem dX8_signs_8 : decode cX8_signs 8 = .ok (.aload_n 0, 1) := by decide +kernel
theorem dX8_signs_9 : decode cX8_signs 9 = .ok (.iconst 1, 1) := by decide +kernel
theorem dX8_signs_10 : decode cX8_signs 10 = .ok (.invokevirtual 142, 3) := by decide +kernel
theorem dX8_signs_13 : decode cX8_signs 13 = .ok (.ireturn, 1) := by decide +kernel
theorem dX8_signs_14 : decode cX8_signs 14 = .ok (.aload_n 0, 1) := by decide +kernel
theorem dX8_signs_15 : decode cX8_signs 15 = .ok (.invokevirtual 149, 3) := by decide +kernel
theorem dX8_signs_18 : decode cX8_signs 18 = .ok (.iconst 1, 1) := by decide +kernel
theorem dX8_signs_19 : decode cX8_signs 19 = .ok (.ireturn, 1) := by decide +kernel
theorem dX8_land_0 : decode cX8_land 0 = .ok (.aload_n 0, 1) := by decide +kernel
theorem dX8_land_1 : decode cX8_land 1 = .ok (.iconst 1, 1) := by decide +kernel
theorem dX8_land_2 : decode cX8_land 2 = .ok (.bipush 9, 2) := by decide +kernel
theorem dX8_land_4 : decode cX8_land 4 = .ok (.invokevirtual 152, 3) := by decide +kernel
theorem dX8_land_7 : decode cX8_land 7 = .ok (.ifCond .ne 5, 3) := by decide +kernel
theorem dX8_land_10 : decode cX8_land 10 = .ok (.iconst 0, 1) := by decide +kernel
theorem dX8_land_11 : decode cX8_land 11 = .ok (.ireturn, 1) := by decide +kernel
theorem dX8_land_12 : decode cX8_land 12 = .ok (.aload_n 0, 1) := by decide +kernel
theorem dX8_land_13 : decode cX8_land 13 = .ok (.aload_n 0, 1) := by decide +kernel
theorem dX8_land_14 : decode cX8_land 14 = .ok (.getfield 146, 3) := by decide +kernel
theorem dX8_land_17 : decode cX8_land 17 = .ok (.putfield 155, 3) := by decide +kernel
theorem dX8_land_20 : decode cX8_land 20 = .ok (.aload_n 0, 1) := by decide +kernel
theorem dX8_land_21 : decode cX8_land 21 = .ok (.getfield 123, 3) := by decide +kernel
theorem dX8_land_24 : decode cX8_land 24 = .ok (.iconst 2, 1) := by decide +kernel
theorem dX8_land_25 : decode cX8_land 25 = .ok (.if_icmp .ne 38, 3) := by decide +kernel
theorem dX8_land_28 : decode cX8_land 28 = .ok (.aload_n 0, 1) := by decide +kernel
theorem dX8_land_29 : decode cX8_land 29 = .ok (.getfield 136, 3) := by decide +kernel
theorem dX8_land_32 : decode cX8_land 32 = .ok (.i2l, 1) := by decide +kernel
theorem dX8_land_33 : decode cX8_land 33 = .ok (.lconst 1, 1) := by decide +kernel
theorem dX8_land_34 : decode cX8_land 34 = .ok (.ldc2_w 158, 3) := by decide +kernel
theorem dX8_land_37 : decode cX8_land 37 = .ok (.invokestatic 79, 3) := by decide +kernel
theorem dX8_land_40 : decode cX8_land 40 = .ok (.ifCond .eq 23, 3) := by decide +kernel
theorem dX8_land_43 : decode cX8_land 43 = .ok (.aload_n 0, 1) := by decide +kernel
theorem dX8_land_44 : decode cX8_land 44 = .ok (.getfield 155, 3) := by decide +kernel
theorem dX8_land_47 : decode cX8_land 47 = .ok (.aload_n 0, 1) := by decide +kernel
theorem dX8_land_48 : decode cX8_land 48 = .ok (.getfield 136, 3) := by decide +kernel
theorem dX8_land_51 : decode cX8_land 51 = .ok (.imul, 1) := by decide +kernel
theorem dX8_land_52 : decode cX8_land 52 = .ok (.bipush 36, 2) := by decide +kernel
theorem dX8_land_54 : decode cX8_land 54 = .ok (.if_icmp .le 9, 3) := by decide +kernel
theorem dX8_land_57 : decode cX8_land 57 = .ok (.aload_n 0, 1) := by decide +kernel
theorem dX8_land_58 : decode cX8_land 58 = .ok (.iconst 2, 1) := by decide +kernel
theorem dX8_land_59 : decode cX8_land 59 = .ok (.invokevirtual 142, 3) := by decide +kernel
theorem dX8_land_62 : decode cX8_land 62 = .ok (.ireturn, 1) := by decide +kernel
theorem dX8_land_63 : decode cX8_land 63 = .ok (.aload_n 0, 1) := by decide +kernel
theorem dX8_land_64 : decode cX8_land 64 = .ok (.iconst 1, 1) := by decide +kernel
theorem dX8_land_65 : decode cX8_land 65 = .ok (.bipush 9, 2) := by decide +kernel
theorem dX8_land_67 : decode cX8_land 67 = .ok (.invokevirtual 152, 3) := by decide +kernel
theorem dX8_land_70 : decode cX8_land 70 = .ok (.ifCond .ne 5, 3) := by decide +kernel
theorem dX8_land_73 : decode cX8_land 73 = .ok (.iconst 0, 1) := by decide +kernel
theorem dX8_land_74 : decode cX8_land 74 = .ok (.ireturn, 1) := by decide +kernel
theorem dX8_land_75 : decode cX8_land 75 = .ok (.aload_n 0, 1) := by decide +kernel
theorem dX8_land_76 : decode cX8_land 76 = .ok (.aload_n 0, 1) := by decide +kernel
theorem dX8_land_77 : decode cX8_land 77 = .ok (.getfield 146, 3) := by decide +kernel
theorem dX8_land_80 : decode cX8_land 80 = .ok (.putfield 160, 3) := by decide +kernel
theorem dX8_land_83 : decode cX8_land 83 = .ok (.aload_n 0, 1) := by decide +kernel
theorem dX8_land_84 : decode cX8_land 84 = .ok (.iconst 3, 1) := by decide +kernel
theorem dX8_land_85 : decode cX8_land 85 = .ok (.invokevirtual 163, 3) := by decide +kernel
theorem dX8_land_88 : decode cX8_land 88 = .ok (.ireturn, 1) := by decide +kernel
theorem dX8_row_0 : decode cX8_row 0 = .ok (.aload_n 0, 1) := by decide +kernel
theorem dX8_row_1 : decode cX8_row 1 = .ok (.getfield 123, 3) := by decide +kernel
theorem dX8_row_4 : decode cX8_row 4 = .ok (.iconst 2, 1) := by decide +kernel
theorem dX8_row_5 : decode cX8_row 5 = .ok (.if_icmp .ne 43, 3) := by decide +kernel
theorem dX8_row_8 : decode cX8_row 8 = .ok (.aload_n 0, 1) := by decide +kernel
theorem dX8_row_9 : decode cX8_row 9 = .ok (.getfield 136, 3) := by decide +kernel
theorem dX8_row_12 : decode cX8_row 12 = .ok (.i2l, 1) := by decide +kernel
theorem dX8_row_13 : decode cX8_row 13 = .ok (.lconst 0, 1) := by decide +kernel
theorem dX8_row_14 : decode cX8_row 14 = .ok (.aload_n 0, 1) := by decide +kernel
theorem dX8_row_15 : decode cX8_row 15 = .ok (.getfield 160, 3) := by decide +kernel
theorem dX8_row_18 : decode cX8_row 18 = .ok (.iconst 1, 1) := by decide +kernel
theorem dX8_row_19 : decode cX8_row 19 = .ok (.isub, 1) := by decide +kernel
theorem dX8_row_20 : decode cX8_row 20 = .ok (.i2l, 1) := by decide +kernel
theorem dX8_row_21 : decode cX8_row 21 = .ok (.invokestatic 79, 3) := by decide +kernel
theorem dX8_row_24 : decode cX8_row 24 = .ok (.ifCond .eq 24, 3) := by decide +kernel
theorem dX8_row_27 : decode cX8_row 27 = .ok (.aload_n 0, 1) := by decide +kernel
theorem dX8_row_28 : decode cX8_row 28 = .ok (.getfield 166, 3) := by decide +kernel
theorem dX8_row_31 : decode cX8_row 31 = .ok (.aload_n 0, 1) := by decide +kernel
theorem dX8_row_32 : decode cX8_row 32 = .ok (.getfield 136, 3) := by decide +kernel
theorem dX8_row_35 : decode cX8_row 35 = .ok (.ishr, 1) := by decide +kernel
theorem dX8_row_36 : decode cX8_row 36 = .ok (.iconst 1, 1) := by decide +kernel
theorem dX8_row_37 : decode cX8_row 37 = .ok (.iand, 1) := by decide +kernel
theorem dX8_row_38 : decode cX8_row 38 = .ok (.iconst 1, 1) := by decide +kernel
theorem dX8_row_39 : decode cX8_row 39 = .ok (.if_icmp .ne 9, 3) := by decide +kernel
theorem dX8_row_42 : decode cX8_row 42 = .ok (.aload_n 0, 1) := by decide +kernel
theorem dX8_row_43 : decode cX8_row 43 = .ok (.iconst 4, 1) := by decide +kernel
theorem dX8_row_44 : decode cX8_row 44 = .ok (.invokevirtual 142, 3) := by decide +kernel
theorem dX8_row_47 : decode cX8_row 47 = .ok (.ireturn, 1) := by decide +kernel
theorem dX8_row_48 : decode cX8_row 48 = .ok (.aload_n 0, 1) := by decide +kernel
theorem dX8_row_49 : decode cX8_row 49 = .ok (.iconst 0, 1) := by decide +kernel
theorem dX8_row_50 : decode cX8_row 50 = .ok (.aload_n 0, 1) := by decide +kernel
theorem dX8_row_51 : decode cX8_row 51 = .ok (.getfield 160, 3) := by decide +kernel
theorem dX8_row_54 : decode cX8_row 54 = .ok (.iconst 1, 1) := by decide +kernel
theorem dX8_row_55 : decode cX8_row 55 = .ok (.isub, 1) := by decide +kernel
theorem dX8_row_56 : decode cX8_row 56 = .ok (.invokevirtual 152, 3) := by decide +kernel
theorem dX8_row_59 : decode cX8_row 59 = .ok (.ifCond .ne 5, 3) := by decide +kernel
theorem dX8_row_62 : decode cX8_row 62 = .ok (.iconst 0, 1) := by decide +kernel
theorem dX8_row_63 : decode cX8_row 63 = .ok (.ireturn, 1) := by decide +kernel
theorem dX8_row_64 : decode cX8_row 64 = .ok (.aload_n 0, 1) := by decide +kernel
theorem dX8_row_65 : decode cX8_row 65 = .ok (.getfield 146, 3) := by decide +kernel
theorem dX8_row_68 : decode cX8_row 68 = .ok (.istore_n 1, 1) := by decide +kernel
theorem dX8_row_69 : decode cX8_row 69 = .ok (.aload_n 0, 1) := by decide +kernel
theorem dX8_row_70 : decode cX8_row 70 = .ok (.dup, 1) := by decide +kernel
theorem dX8_row_71 : decode cX8_row 71 = .ok (.getfield 166, 3) := by decide +kernel
theorem dX8_row_74 : decode cX8_row 74 = .ok (.iconst 1, 1) := by decide +kernel
theorem dX8_row_75 : decode cX8_row 75 = .ok (.iload_n 1, 1) := by decide +kernel
theorem dX8_row_76 : decode cX8_row 76 = .ok (.ishl, 1) := by decide +kernel
theorem dX8_row_77 : decode cX8_row 77 = .ok (.ior, 1) := by decide +kernel
theorem dX8_row_78 : decode cX8_row 78 = .ok (.putfield 166, 3) := by decide +kernel
theorem dX8_row_81 : decode cX8_row 81 = .ok (.iconst 0, 1) := by decide +kernel
theorem dX8_row_82 : decode cX8_row 82 = .ok (.istore_n 2, 1) := by decide +kernel
theorem dX8_row_83 : decode cX8_row 83 = .ok (.iload_n 2, 1) := by decide +kernel
theorem dX8_row_84 : decode cX8_row 84 = .ok (.aload_n 0, 1) := by decide +kernel
theorem dX8_row_85 : decode cX8_row 85 = .ok (.getfield 155, 3) := by decide +kernel
theorem dX8_row_88 : decode cX8_row 88 = .ok (.if_icmp .ge 52, 3) := by decide +kernel
theorem dX8_row_91 : decode cX8_row 91 = .ok (.iload_n 2, 1) := by decide +kernel
theorem dX8_row_92 : decode cX8_row 92 = .ok (.ifCond .le 13, 3) := by decide +kernel
theorem dX8_row_95 : decode cX8_row 95 = .ok (.aload_n 0, 1) := by decide +kernel
theorem dX8_row_96 : decode cX8_row 96 = .ok (.iconst 4, 1) := by decide +kernel
theorem dX8_row_97 : decode cX8_row 97 = .ok (.invokevirtual 163, 3) := by decide +kernel
theorem dX8_row_100 : decode cX8_row 100 = .ok (.ifCond .ne 5, 3) := by decide +kernel
theorem dX8_row_103 : decode cX8_row 103 = .ok (.iconst 0, 1) := by decide +kernel
theorem dX8_row_104 : decode cX8_row 104 = .ok (.ireturn, 1) := by decide +kernel
theorem dX8_row_105 : decode cX8_row 105 = .ok (.aload_n 0, 1) := by decide +kernel
theorem dX8_row_106 : decode cX8_row 106 = .ok (.iconst 0, 1) := by decide +kernel
theorem dX8_row_107 : decode cX8_row 107 = .ok (.bipush 9, 2) := by decide +kernel
theorem dX8_row_109 : decode cX8_row 109 = .ok (.invokevirtual 152, 3) := by decide +kernel
theorem dX8_row_112 : decode cX8_row 112 = .ok (.ifCond .ne 5, 3) := by decide +kernel
theorem dX8_row_115 : decode cX8_row 115 = .ok (.iconst 0, 1) := by decide +kernel
theorem dX8_row_116 : decode cX8_row 116 = .ok (.ireturn, 1) := by decide +kernel
theorem dX8_row_117 : decode cX8_row 117 = .ok (.aload_n 0, 1) := by decide +kernel
theorem dX8_row_118 : decode cX8_row 118 = .ok (.getfield 38, 3) := by decide +kernel
theorem dX8_row_121 : decode cX8_row 121 = .ok (.aload_n 0, 1) := by decide +kernel
theorem dX8_row_122 : decode cX8_row 122 = .ok (.getfield 155, 3) := by decide +kernel
theorem dX8_row_125 : decode cX8_row 125 = .ok (.iload_n 1, 1) := by decide +kernel
theorem dX8_row_126 : decode cX8_row 126 = .ok (.imul, 1) := by decide +kernel
theorem dX8_row_127 : decode cX8_row 127 = .ok (.iload_n 2, 1) := by decide +kernel
theorem dX8_row_128 : decode cX8_row 128 = .ok (.iadd, 1) := by decide +kernel
theorem dX8_row_129 : decode cX8_row 129 = .ok (.aload_n 0, 1) := by decide +kernel
theorem dX8_row_130 : decode cX8_row 130 = .ok (.getfield 146, 3) := by decide +kernel
theorem dX8_row_133 : decode cX8_row 133 = .ok (.iastore, 1) := by decide +kernel
theorem dX8_row_134 : decode cX8_row 134 = .ok (.iinc 2 1, 3) := by decide +kernel
theorem dX8_row_137 : decode cX8_row 137 = .ok (.goto (-54), 3) := by decide +kernel
theorem dX8_row_140 : decode cX8_row 140 = .ok (.aload_n 0, 1) := by decide +kernel
theorem dX8_row_141 : decode cX8_row 141 = .ok (.iconst 3, 1) := by decide +kernel
theorem dX8_row_142 : decode cX8_row 142 = .ok (.invokevirtual 163, 3) := by decide +kernel
theorem dX8_row_145 : decode cX8_row 145 = .ok (.ireturn, 1) := by decide +kernel
theorem dX8_tides_0 : decode cX8_tides 0 = .ok (.aload_n 0, 1) := by decide +kernel
theorem dX8_tides_1 : decode cX8_tides 1 = .ok (.getfield 169, 3) := by decide +kernel
theorem dX8_tides_4 : decode cX8_tides 4 = .ok (.ifCond .le 9, 3) := by decide +kernel
theorem dX8_tides_7 : decode cX8_tides 7 = .ok (.aload_n 0, 1) := by decide +kernel
theorem dX8_tides_8 : decode cX8_tides 8 = .ok (.iconst 3, 1) := by decide +kernel
theorem dX8_tides_9 : decode cX8_tides 9 = .ok (.invokevirtual 142, 3) := by decide +kernel
theorem dX8_tides_12 : decode cX8_tides 12 = .ok (.ireturn, 1) := by decide +kernel
theorem dX8_tides_13 : decode cX8_tides 13 = .ok (.aload_n 0, 1) := by decide +kernel
theorem dX8_tides_14 : decode cX8_tides 14 = .ok (.invokevirtual 149, 3) := by decide +kernel
theorem dX8_tides_17 : decode cX8_tides 17 = .ok (.aload_n 0, 1) := by decide +kernel
theorem dX8_tides_18 : decode cX8_tides 18 = .ok (.iconst 0, 1) := by decide +kernel
theorem dX8_tides_19 : decode cX8_tides 19 = .ok (.bipush 9, 2) := by decide +kernel
theorem dX8_tides_21 : decode cX8_tides 21 = .ok (.invokevirtual 152, 3) := by decide +kernel
theorem dX8_tides_24 : decode cX8_tides 24 = .ok (.ifCond .ne 5, 3) := by decide +kernel
theorem dX8_tides_27 : decode cX8_tides 27 = .ok (.iconst 0, 1) := by decide +kernel
theorem dX8_tides_28 : decode cX8_tides 28 = .ok (.ireturn, 1) := by decide +kernel
theorem dX8_tides_29 : decode cX8_tides 29 = .ok (.aload_n 0, 1) := by decide +kernel
theorem dX8_tides_30 : decode cX8_tides 30 = .ok (.getfield 41, 3) := by decide +kernel
theorem dX8_tides_33 : decode cX8_tides 33 = .ok (.iconst 0, 1) := by decide +kernel
theorem dX8_tides_34 : decode cX8_tides 34 = .ok (.aload_n 0, 1) := by decide +kernel
theorem dX8_tides_35 : decode cX8_tides 35 = .ok (.getfield 146, 3) := by decide +kernel
theorem dX8_tides_38 : decode cX8_tides 38 = .ok (.iastore, 1) := by decide +kernel
theorem dX8_tides_39 : decode cX8_tides 39 = .ok (.aload_n 0, 1) := by decide +kernel
theorem dX8_tides_40 : decode cX8_tides 40 = .ok (.iconst 1, 1) := by decide +kernel
theorem dX8_tides_41 : decode cX8_tides 41 = .ok (.putfield 169, 3) := by decide +kernel
theorem dX8_tides_44 : decode cX8_tides 44 = .ok (.aload_n 0, 1) := by decide +kernel
theorem dX8_tides_45 : decode cX8_tides 45 = .ok (.getfield 123, 3) := by decide +kernel
theorem dX8_tides_48 : decode cX8_tides 48 = .ok (.iconst 4, 1) := by decide +kernel
theorem dX8_tides_49 : decode cX8_tides 49 = .ok (.if_icmp .ne 54, 3) := by decide +kernel
theorem dX8_tides_52 : decode cX8_tides 52 = .ok (.aload_n 0, 1) := by decide +kernel
theorem dX8_tides_53 : decode cX8_tides 53 = .ok (.getfield 169, 3) := by decide +kernel
theorem dX8_tides_56 : decode cX8_tides 56 = .ok (.bipush 6, 2) := by decide +kernel
theorem dX8_tides_58 : decode cX8_tides 58 = .ok (.if_icmp .ge 45, 3) := by decide +kernel
theorem dX8_tides_61 : decode cX8_tides 61 = .ok (.aload_n 0, 1) := by decide +kernel
theorem dX8_tides_62 : decode cX8_tides 62 = .ok (.invokevirtual 149, 3) := by decide +kernel
theorem dX8_tides_65 : decode cX8_tides 65 = .ok (.aload_n 0, 1) := by decide +kernel
theorem dX8_tides_66 : decode cX8_tides 66 = .ok (.iconst 0, 1) := by decide +kernel
theorem dX8_tides_67 : decode cX8_tides 67 = .ok (.bipush 9, 2) := by decide +kernel
theorem dX8_tides_69 : decode cX8_tides 69 = .ok (.invokevirtual 152, 3) := by decide +kernel
theorem dX8_tides_72 : decode cX8_tides 72 = .ok (.ifCond .ne 5, 3) := by decide +kernel
theorem dX8_tides_75 : decode cX8_tides 75 = .ok (.iconst 0, 1) := by decide +kernel
theorem dX8_tides_76 : decode cX8_tides 76 = .ok (.ireturn, 1) := by decide +kernel
theorem dX8_tides_77 : decode cX8_tides 77 = .ok (.aload_n 0, 1) := by decide +kernel
theorem dX8_tides_78 : decode cX8_tides 78 = .ok (.getfield 41, 3) := by decide +kernel
theorem dX8_tides_81 : decode cX8_tides 81 = .ok (.aload_n 0, 1) := by decide +kernel
theorem dX8_tides_82 : decode cX8_tides 82 = .ok (.getfield 169, 3) := by decide +kernel
theorem dX8_tides_85 : decode cX8_tides 85 = .ok (.aload_n 0, 1) := by decide +kernel
theorem dX8_tides_86 : decode cX8_tides 86 = .ok (.getfield 146, 3) := by decide +kernel
theorem dX8_tides_89 : decode cX8_tides 89 = .ok (.iastore, 1) := by decide +kernel
theorem dX8_tides_90 : decode cX8_tides 90 = .ok (.aload_n 0, 1) := by decide +kernel
theorem dX8_tides_91 : decode cX8_tides 91 = .ok (.dup, 1) := by decide +kernel
theorem dX8_tides_92 : decode cX8_tides 92 = .ok (.getfield 169, 3) := by decide +kernel
theorem dX8_tides_95 : decode cX8_tides 95 = .ok (.iconst 1, 1) := by decide +kernel
theorem dX8_tides_96 : decode cX8_tides 96 = .ok (.iadd, 1) := by decide +kernel
theorem dX8_tides_97 : decode cX8_tides 97 = .ok (.putfield 169, 3) := by decide +kernel
theorem dX8_tides_100 : decode cX8_tides 100 = .ok (.goto (-56), 3) := by decide +kernel
theorem dX8_tides_103 : decode cX8_tides 103 = .ok (.aload_n 0, 1) := by decide +kernel
theorem dX8_tides_104 : decode cX8_tides 104 = .ok (.iconst 3, 1) := by decide +kernel
theorem dX8_tides_105 : decode cX8_tides 105 = .ok (.invokevirtual 163, 3) := by decide +kernel
theorem dX8_tides_108 : decode cX8_tides 108 = .ok (.ireturn, 1) := by decide +kernel
theorem dX8_spot_0 : decode cX8_spot 0 = .ok (.aload_n 0, 1) := by decide +kernel
theorem dX8_spot_1 : decode cX8_spot 1 = .ok (.iconst 0, 1) := by decide +kernel
theorem dX8_spot_2 : decode cX8_spot 2 = .ok (.aload_n 0, 1) := by decide +kernel
theorem dX8_spot_3 : decode cX8_spot 3 = .ok (.getfield 155, 3) := by decide +kernel
theorem dX8_spot_6 : decode cX8_spot 6 = .ok (.iconst 1, 1) := by decide +kernel
theorem dX8_spot_7 : decode cX8_spot 7 = .ok (.isub, 1) := by decide +kernel
theorem dX8_spot_8 : decode cX8_spot 8 = .ok (.invokevirtual 152, 3) := by decide +kernel
theorem dX8_spot_11 : decode cX8_spot 11 = .ok (.ifCond .ne 5, 3) := by decide +kernel
theorem dX8_spot_14 : decode cX8_spot 14 = .ok (.iconst 0, 1) := by decide +kernel
theorem dX8_spot_15 : decode cX8_spot 15 = .ok (.ireturn, 1) := by decide +kernel
theorem dX8_spot_16 : decode cX8_spot 16 = .ok (.aload_n 0, 1) := by decide +kernel
theorem dX8_spot_17 : decode cX8_spot 17 = .ok (.getfield 146, 3) := by decide +kernel
theorem dX8_spot_20 : decode cX8_spot 20 = .ok (.istore_n 1, 1) := by decide +kernel
theorem dX8_spot_21 : decode cX8_spot 21 = .ok (.aload_n 0, 1) := by decide +kernel
theorem dX8_spot_22 : decode cX8_spot 22 = .ok (.iconst 0, 1) := by decide +kernel
theorem dX8_spot_23 : decode cX8_spot 23 = .ok (.aload_n 0, 1) := by decide +kernel
theorem dX8_spot_24 : decode cX8_spot 24 = .ok (.getfield 160, 3) := by decide +kernel
theorem dX8_spot_27 : decode cX8_spot 27 = .ok (.iconst 1, 1) := by decide +kernel
theorem dX8_spot_28 : decode cX8_spot 28 = .ok (.isub, 1) := by decide +kernel
theorem dX8_spot_29 : decode cX8_spot 29 = .ok (.invokevirtual 152, 3) := by decide +kernel
theorem dX8_spot_32 : decode cX8_spot 32 = .ok (.ifCond .ne 5, 3) := by decide +kernel
theorem dX8_spot_35 : decode cX8_spot 35 = .ok (.iconst 0, 1) := by decide +kernel
theorem dX8_spot_36 : decode cX8_spot 36 = .ok (.ireturn, 1) := by decide +kernel
theorem dX8_spot_37 : decode cX8_spot 37 = .ok (.aload_n 0, 1) := by decide +kernel
theorem dX8_spot_38 : decode cX8_spot 38 = .ok (.aload_n 0, 1) := by decide +kernel
theorem dX8_spot_39 : decode cX8_spot 39 = .ok (.getfield 155, 3) := by decide +kernel
theorem dX8_spot_42 : decode cX8_spot 42 = .ok (.aload_n 0, 1) := by decide +kernel
theorem dX8_spot_43 : decode cX8_spot 43 = .ok (.getfield 146, 3) := by decide +kernel
theorem dX8_spot_46 : decode cX8_spot 46 = .ok (.imul, 1) := by decide +kernel
theorem dX8_spot_47 : decode cX8_spot 47 = .ok (.iload_n 1, 1) := by decide +kernel
theorem dX8_spot_48 : decode cX8_spot 48 = .ok (.iadd, 1) := by decide +kernel
theorem dX8_spot_49 : decode cX8_spot 49 = .ok (.putfield 146, 3) := by decide +kernel
theorem dX8_spot_52 : decode cX8_spot 52 = .ok (.iconst 1, 1) := by decide +kernel
theorem dX8_spot_53 : decode cX8_spot 53 = .ok (.ireturn, 1) := by decide +kernel
theorem dX8_somebody_0 : decode cX8_somebody 0 = .ok (.aload_n 0, 1) := by decide +kernel
theorem dX8_somebody_1 : decode cX8_somebody 1 = .ok (.getfield 172, 3) := by decide +kernel
theorem dX8_somebody_4 : decode cX8_somebody 4 = .ok (.iconst 4, 1) := by decide +kernel
theorem dX8_somebody_5 : decode cX8_somebody 5 = .ok (.if_icmp .ne 9, 3) := by decide +kernel
theorem dX8_somebody_8 : decode cX8_somebody 8 = .ok (.aload_n 0, 1) := by decide +kernel
theorem dX8_somebody_9 : decode cX8_somebody 9 = .ok (.iconst 3, 1) := by decide +kernel
theorem dX8_somebody_10 : decode cX8_somebody 10 = .ok (.invokevirtual 142, 3) := by decide +kernel
theorem dX8_somebody_13 : decode cX8_somebody 13 = .ok (.ireturn, 1) := by decide +kernel
theorem dX8_somebody_14 : decode cX8_somebody 14 = .ok (.aload_n 0, 1) := by decide +kernel
theorem dX8_somebody_15 : decode cX8_somebody 15 = .ok (.invokevirtual 149, 3) := by decide +kernel
theorem dX8_somebody_18 : decode cX8_somebody 18 = .ok (.aload_n 0, 1) := by decide +kernel
theorem dX8_somebody_19 : decode cX8_somebody 19 = .ok (.invokevirtual 175, 3) := by decide +kernel
theorem dX8_somebody_22 : decode cX8_somebody 22 = .ok (.ifCond .ne 5, 3) := by decide +kernel
theorem dX8_somebody_25 : decode cX8_somebody 25 = .ok (.iconst 0, 1) := by decide +kernel
theorem dX8_somebody_26 : decode cX8_somebody 26 = .ok (.ireturn, 1) := by decide +kernel
theorem dX8_somebody_27 : decode cX8_somebody 27 = .ok (.aload_n 0, 1) := by decide +kernel
theorem dX8_somebody_28 : decode cX8_somebody 28 = .ok (.getfield 44, 3) := by decide +kernel
theorem dX8_somebody_31 : decode cX8_somebody 31 = .ok (.iconst 3, 1) := by decide +kernel
theorem dX8_somebody_32 : decode cX8_somebody 32 = .ok (.aload_n 0, 1) := by decide +kernel
theorem dX8_somebody_33 : decode cX8_somebody 33 = .ok (.getfield 172, 3) := by decide +kernel
theorem dX8_somebody_36 : decode cX8_somebody 36 = .ok (.imul, 1) := by decide +kernel
theorem dX8_somebody_37 : decode cX8_somebody 37 = .ok (.aload_n 0, 1) := by decide +kernel
theorem dX8_somebody_38 : decode cX8_somebody 38 = .ok (.getfield 146, 3) := by decide +kernel
theorem dX8_somebody_41 : decode cX8_somebody 41 = .ok (.aload_n 0, 1) := by decide +kernel
theorem dX8_somebody_42 : decode cX8_somebody 42 = .ok (.getfield 155, 3) := by decide +kernel
theorem dX8_somebody_45 : decode cX8_somebody 45 = .ok (.irem, 1) := by decide +kernel
theorem dX8_somebody_46 : decode cX8_somebody 46 = .ok (.iastore, 1) := by decide +kernel
theorem dX8_somebody_47 : decode cX8_somebody 47 = .ok (.aload_n 0, 1) := by decide +kernel
theorem dX8_somebody_48 : decode cX8_somebody 48 = .ok (.getfield 44, 3) := by decide +kernel
theorem dX8_somebody_51 : decode cX8_somebody 51 = .ok (.iconst 3, 1) := by decide +kernel
theorem dX8_somebody_52 : decode cX8_somebody 52 = .ok (.aload_n 0, 1) := by decide +kernel
theorem dX8_somebody_53 : decode cX8_somebody 53 = .ok (.getfield 172, 3) := by decide +kernel
theorem dX8_somebody_56 : decode cX8_somebody 56 = .ok (.imul, 1) := by decide +kernel
theorem dX8_somebody_57 : decode cX8_somebody 57 = .ok (.iconst 1, 1) := by decide +kernel
theorem dX8_somebody_58 : decode cX8_somebody 58 = .ok (.iadd, 1) := by decide +kernel
theorem dX8_somebody_59 : decode cX8_somebody 59 = .ok (.aload_n 0, 1) := by decide +kernel
theorem dX8_somebody_60 : decode cX8_somebody 60 = .ok (.getfield 146, 3) := by decide +kernel
theorem dX8_somebody_63 : decode cX8_somebody 63 = .ok (.aload_n 0, 1) := by decide +kernel
theorem dX8_somebody_64 : decode cX8_somebody 64 = .ok (.getfield 155, 3) := by decide +kernel
theorem dX8_somebody_67 : decode cX8_somebody 67 = .ok (.idiv, 1) := by decide +kernel
theorem dX8_somebody_68 : decode cX8_somebody 68 = .ok (.iastore, 1) := by decide +kernel
theorem dX8_somebody_69 : decode cX8_somebody 69 = .ok (.aload_n 0, 1) := by decide +kernel
theorem dX8_somebody_70 : decode cX8_somebody 70 = .ok (.iconst 0, 1) := by decide +kernel
theorem dX8_somebody_71 : decode cX8_somebody 71 = .ok (.bipush 6, 2) := by decide +kernel
theorem dX8_somebody_73 : decode cX8_somebody 73 = .ok (.invokevirtual 152, 3) := by decide +kernel
theorem dX8_somebody_76 : decode cX8_somebody 76 = .ok (.ifCond .ne 5, 3) := by decide +kernel
theorem dX8_somebody_79 : decode cX8_somebody 79 = .ok (.iconst 0, 1) := by decide +kernel
theorem dX8_somebody_80 : decode cX8_somebody 80 = .ok (.ireturn, 1) := by decide +kernel
theorem dX8_somebody_81 : decode cX8_somebody 81 = .ok (.aload_n 0, 1) := by decide +kernel
theorem dX8_somebody_82 : decode cX8_somebody 82 = .ok (.getfield 44, 3) := by decide +kernel
theorem dX8_somebody_85 : decode cX8_somebody 85 = .ok (.iconst 3, 1) := by decide +kernel
theorem dX8_somebody_86 : decode cX8_somebody 86 = .ok (.aload_n 0, 1) := by decide +kernel
theorem dX8_somebody_87 : decode cX8_somebody 87 = .ok (.getfield 172, 3) := by decide +kernel
theorem dX8_somebody_90 : decode cX8_somebody 90 = .ok (.imul, 1) := by decide +kernel
theorem dX8_somebody_91 : decode cX8_somebody 91 = .ok (.iconst 2, 1) := by decide +kernel
theorem dX8_somebody_92 : decode cX8_somebody 92 = .ok (.iadd, 1) := by decide +kernel
theorem dX8_somebody_93 : decode cX8_somebody 93 = .ok (.aload_n 0, 1) := by decide +kernel
theorem dX8_somebody_94 : decode cX8_somebody 94 = .ok (.getfield 146, 3) := by decide +kernel
theorem dX8_somebody_97 : decode cX8_somebody 97 = .ok (.iastore, 1) := by decide +kernel
theorem dX8_somebody_98 : decode cX8_somebody 98 = .ok (.aload_n 0, 1) := by decide +kernel
theorem dX8_somebody_99 : decode cX8_somebody 99 = .ok (.dup, 1) := by decide +kernel
theorem dX8_somebody_100 : decode cX8_somebody 100 = .ok (.getfield 172, 3) := by decide +kernel
theorem dX8_somebody_103 : decode cX8_somebody 103 = .ok (.iconst 1, 1) := by decide +kernel
theorem dX8_somebody_104 : decode cX8_somebody 104 = .ok (.iadd, 1) := by decide +kernel
theorem dX8_somebody_105 : decode cX8_somebody 105 = .ok (.putfield 172, 3) := by decide +kernel
theorem dX8_somebody_108 : decode cX8_somebody 108 = .ok (.aload_n 0, 1) := by decide +kernel
theorem dX8_somebody_109 : decode cX8_somebody 109 = .ok (.iconst 3, 1) := by decide +kernel
theorem dX8_somebody_110 : decode cX8_somebody 110 = .ok (.invokevirtual 163, 3) := by decide +kernel
theorem dX8_somebody_113 : decode cX8_somebody 113 = .ok (.ireturn, 1) := by decide +kernel
theorem dX8_place_0 : decode cX8_place 0 = .ok (.iload_n 1, 1) := by decide +kernel
theorem dX8_place_1 : decode cX8_place 1 = .ok (.ifCond .eq 14, 3) := by decide +kernel
theorem dX8_place_4 : decode cX8_place 4 = .ok (.aload_n 0, 1) := by decide +kernel
theorem dX8_place_5 : decode cX8_place 5 = .ok (.getfield 179, 3) := by decide +kernel
theorem dX8_place_8 : decode cX8_place 8 = .ok (.iconst 4, 1) := by decide +kernel
theorem dX8_place_9 : decode cX8_place 9 = .ok (.if_icmp .ne 19, 3) := by decide +kernel
theorem dX8_place_12 : decode cX8_place 12 = .ok (.goto 10, 3) := by decide +kernel
theorem dX8_place_15 : decode cX8_place 15 = .ok (.aload_n 0, 1) := by decide +kernel
theorem dX8_place_16 : decode cX8_place 16 = .ok (.getfield 182, 3) := by decide +kernel
theorem dX8_place_19 : decode cX8_place 19 = .ok (.ifCond .eq 9, 3) := by decide +kernel
theorem dX8_place_22 : decode cX8_place 22 = .ok (.aload_n 0, 1) := by decide +kernel
theorem dX8_place_23 : decode cX8_place 23 = .ok (.iconst 3, 1) := by decide +kernel
theorem dX8_place_24 : decode cX8_place 24 = .ok (.invokevirtual 142, 3) := by decide +kernel
theorem dX8_place_27 : decode cX8_place 27 = .ok (.ireturn, 1) := by decide +kernel
theorem dX8_place_28 : decode cX8_place 28 = .ok (.aload_n 0, 1) := by decide +kernel
theorem dX8_place_29 : decode cX8_place 29 = .ok (.invokevirtual 149, 3) := by decide +kernel
theorem dX8_place_32 : decode cX8_place 32 = .ok (.aload_n 0, 1) := by decide +kernel
theorem dX8_place_33 : decode cX8_place 33 = .ok (.invokevirtual 175, 3) := by decide +kernel
theorem dX8_place_36 : decode cX8_place 36 = .ok (.ifCond .ne 5, 3) := by decide +kernel
theorem dX8_place_39 : decode cX8_place 39 = .ok (.iconst 0, 1) := by decide +kernel
theorem dX8_place_40 : decode cX8_place 40 = .ok (.ireturn, 1) := by decide +kernel
theorem dX8_place_41 : decode cX8_place 41 = .ok (.iload_n 1, 1) := by decide +kernel
theorem dX8_place_42 : decode cX8_place 42 = .ok (.ifCond .eq 29, 3) := by decide +kernel
theorem dX8_place_45 : decode cX8_place 45 = .ok (.aload_n 0, 1) := by decide +kernel
theorem dX8_place_46 : decode cX8_place 46 = .ok (.getfield 47, 3) := by decide +kernel
theorem dX8_place_49 : decode cX8_place 49 = .ok (.aload_n 0, 1) := by decide +kernel
theorem dX8_place_50 : decode cX8_place 50 = .ok (.getfield 179, 3) := by decide +kernel
theorem dX8_place_53 : decode cX8_place 53 = .ok (.aload_n 0, 1) := by decide +kernel
theorem dX8_place_54 : decode cX8_place 54 = .ok (.getfield 146, 3) := by decide +kernel
theorem dX8_place_57 : decode cX8_place 57 = .ok (.iastore, 1) := by decide +kernel
theorem dX8_place_58 : decode cX8_place 58 = .ok (.aload_n 0, 1) := by decide +kernel
theorem dX8_place_59 : decode cX8_place 59 = .ok (.dup, 1) := by decide +kernel
theorem dX8_place_60 : decode cX8_place 60 = .ok (.getfield 179, 3) := by decide +kernel
theorem dX8_place_63 : decode cX8_place 63 = .ok (.iconst 1, 1) := by decide +kernel
theorem dX8_place_64 : decode cX8_place 64 = .ok (.iadd, 1) := by decide +kernel
theorem dX8_place_65 : decode cX8_place 65 = .ok (.putfield 179, 3) := by decide +kernel
theorem dX8_place_68 : decode cX8_place 68 = .ok (.goto 16, 3) := by decide +kernel
theorem dX8_place_71 : decode cX8_place 71 = .ok (.aload_n 0, 1) := by decide +kernel
theorem dX8_place_72 : decode cX8_place 72 = .ok (.aload_n 0, 1) := by decide +kernel
theorem dX8_place_73 : decode cX8_place 73 = .ok (.getfield 146, 3) := by decide +kernel
theorem dX8_place_76 : decode cX8_place 76 = .ok (.putfield 186, 3) := by decide +kernel
theorem dX8_place_79 : decode cX8_place 79 = .ok (.aload_n 0, 1) := by decide +kernel
theorem dX8_place_80 : decode cX8_place 80 = .ok (.iconst 1, 1) := by decide +kernel
theorem dX8_place_81 : decode cX8_place 81 = .ok (.putfield 182, 3) := by decide +kernel
theorem dX8_place_84 : decode cX8_place 84 = .ok (.aload_n 0, 1) := by decide +kernel
theorem dX8_place_85 : decode cX8_place 85 = .ok (.iconst 3, 1) := by decide +kernel
theorem dX8_place_86 : decode cX8_place 86 = .ok (.invokevirtual 163, 3) := by decide +kernel
theorem dX8_place_89 : decode cX8_place 89 = .ok (.ireturn, 1) := by decide +kernel
theorem dX8_reads_0 : decode cX8_reads 0 = .ok (.aload_n 0, 1) := by decide +kernel
theorem dX8_reads_1 : decode cX8_reads 1 = .ok (.iconst 0, 1) := by decide +kernel
theorem dX8_reads_2 : decode cX8_reads 2 = .ok (.putfield 101, 3) := by decide +kernel
theorem dX8_reads_5 : decode cX8_reads 5 = .ok (.aload_n 0, 1) := by decide +kernel
theorem dX8_reads_6 : decode cX8_reads 6 = .ok (.iconst 0, 1) := by decide +kernel
theorem dX8_reads_7 : decode cX8_reads 7 = .ok (.putfield 155, 3) := by decide +kernel
theorem dX8_reads_10 : decode cX8_reads 10 = .ok (.aload_n 0, 1) := by decide +kernel
theorem dX8_reads_11 : decode cX8_reads 11 = .ok (.iconst 0, 1) := by decide +kernel
theorem dX8_reads_12 : decode cX8_reads 12 = .ok (.putfield 160, 3) := by decide +kernel
theorem dX8_reads_15 : decode cX8_reads 15 = .ok (.aload_n 0, 1) := by decide +kernel
theorem dX8_reads_16 : decode cX8_reads 16 = .ok (.iconst 0, 1) := by decide +kernel
theorem dX8_reads_17 : decode cX8_reads 17 = .ok (.putfield 169, 3) := by decide +kernel
theorem dX8_reads_20 : decode cX8_reads 20 = .ok (.aload_n 0, 1) := by decide +kernel
theorem dX8_reads_21 : decode cX8_reads 21 = .ok (.iconst 0, 1) := by decide +kernel
theorem dX8_reads_22 : decode cX8_reads 22 = .ok (.putfield 172, 3) := by decide +kernel
theorem dX8_reads_25 : decode cX8_reads 25 = .ok (.aload_n 0, 1) := by decide +kernel
theorem dX8_reads_26 : decode cX8_reads 26 = .ok (.iconst 0, 1) := by decide +kernel
theorem dX8_reads_27 : decode cX8_reads 27 = .ok (.putfield 179, 3) := by decide +kernel
theorem dX8_reads_30 : decode cX8_reads 30 = .ok (.aload_n 0, 1) := by decide +kernel
theorem dX8_reads_31 : decode cX8_reads 31 = .ok (.iconst 0, 1) := by decide +kernel
theorem dX8_reads_32 : decode cX8_reads 32 = .ok (.putfield 186, 3) := by decide +kernel
theorem dX8_reads_35 : decode cX8_reads 35 = .ok (.aload_n 0, 1) := by decide +kernel
theorem dX8_reads_36 : decode cX8_reads 36 = .ok (.iconst 0, 1) := by decide +kernel
theorem dX8_reads_37 : decode cX8_reads 37 = .ok (.putfield 166, 3) := by decide +kernel
theorem dX8_reads_40 : decode cX8_reads 40 = .ok (.aload_n 0, 1) := by decide +kernel
theorem dX8_reads_41 : decode cX8_reads 41 = .ok (.iconst 0, 1) := by decide +kernel
theorem dX8_reads_42 : decode cX8_reads 42 = .ok (.putfield 182, 3) := by decide +kernel
theorem dX8_reads_45 : decode cX8_reads 45 = .ok (.iconst 0, 1) := by decide +kernel
theorem dX8_reads_46 : decode cX8_reads 46 = .ok (.istore_n 1, 1) := by decide +kernel
theorem dX8_reads_47 : decode cX8_reads 47 = .ok (.iload_n 1, 1) := by decide +kernel
theorem dX8_reads_48 : decode cX8_reads 48 = .ok (.bipush 36, 2) := by decide +kernel
theorem dX8_reads_50 : decode cX8_reads 50 = .ok (.if_icmp .ge 16, 3) := by decide +kernel
theorem dX8_reads_53 : decode cX8_reads 53 = .ok (.aload_n 0, 1) := by decide +kernel
theorem dX8_reads_54 : decode cX8_reads 54 = .ok (.getfield 38, 3) := by decide +kernel
theorem dX8_reads_57 : decode cX8_reads 57 = .ok (.iload_n 1, 1) := by decide +kernel
theorem dX8_reads_58 : decode cX8_reads 58 = .ok (.iconst 0, 1) := by decide +kernel
theorem dX8_reads_59 : decode cX8_reads 59 = .ok (.iastore, 1) := by decide +kernel
theorem dX8_reads_60 : decode cX8_reads 60 = .ok (.iinc 1 1, 3) := by decide +kernel
theorem dX8_reads_63 : decode cX8_reads 63 = .ok (.goto (-16), 3) := by decide +kernel
theorem dX8_reads_66 : decode cX8_reads 66 = .ok (.aload_n 0, 1) := by decide +kernel
theorem dX8_reads_67 : decode cX8_reads 67 = .ok (.invokevirtual 149, 3) := by decide +kernel
theorem dX8_reads_70 : decode cX8_reads 70 = .ok (.aload_n 0, 1) := by decide +kernel
theorem dX8_reads_71 : decode cX8_reads 71 = .ok (.getfield 123, 3) := by decide +kernel
theorem dX8_reads_74 : decode cX8_reads 74 = .ok (.ifCond .ne 5, 3) := by decide +kernel
theorem dX8_reads_77 : decode cX8_reads 77 = .ok (.iconst 1, 1) := by decide +kernel
theorem dX8_reads_78 : decode cX8_reads 78 = .ok (.ireturn, 1) := by decide +kernel
theorem dX8_reads_79 : decode cX8_reads 79 = .ok (.aload_n 0, 1) := by decide +kernel
theorem dX8_reads_80 : decode cX8_reads 80 = .ok (.getfield 123, 3) := by decide +kernel
theorem dX8_reads_83 : decode cX8_reads 83 = .ok (.iconst 5, 1) := by decide +kernel
theorem dX8_reads_84 : decode cX8_reads 84 = .ok (.if_icmp .eq 9, 3) := by decide +kernel
theorem dX8_reads_87 : decode cX8_reads 87 = .ok (.aload_n 0, 1) := by decide +kernel
theorem dX8_reads_88 : decode cX8_reads 88 = .ok (.iconst 1, 1) := by decide +kernel
theorem dX8_reads_89 : decode cX8_reads 89 = .ok (.invokevirtual 142, 3) := by decide +kernel
theorem dX8_reads_92 : decode cX8_reads 92 = .ok (.ireturn, 1) := by decide +kernel
theorem dX8_reads_93 : decode cX8_reads 93 = .ok (.aload_n 0, 1) := by decide +kernel
theorem dX8_reads_94 : decode cX8_reads 94 = .ok (.invokevirtual 149, 3) := by decide +kernel
theorem dX8_reads_97 : decode cX8_reads 97 = .ok (.aload_n 0, 1) := by decide +kernel
theorem dX8_reads_98 : decode cX8_reads 98 = .ok (.invokevirtual 189, 3) := by decide +kernel
theorem dX8_reads_101 : decode cX8_reads 101 = .ok (.ifCond .ne 5, 3) := by decide +kernel
theorem dX8_reads_104 : decode cX8_reads 104 = .ok (.iconst 0, 1) := by decide +kernel
theorem dX8_reads_105 : decode cX8_reads 105 = .ok (.ireturn, 1) := by decide +kernel
theorem dX8_reads_106 : decode cX8_reads 106 = .ok (.aload_n 0, 1) := by decide +kernel
theorem dX8_reads_107 : decode cX8_reads 107 = .ok (.getfield 123, 3) := by decide +kernel
theorem dX8_reads_110 : decode cX8_reads 110 = .ok (.ifCond .eq 129, 3) := by decide +kernel
theorem dX8_reads_113 : decode cX8_reads 113 = .ok (.iconst 0, 1) := by decide +kernel
theorem dX8_reads_114 : decode cX8_reads 114 = .ok (.istore_n 1, 1) := by decide +kernel
theorem dX8_reads_115 : decode cX8_reads 115 = .ok (.aload_n 0, 1) := by decide +kernel
theorem dX8_reads_116 : decode cX8_reads 116 = .ok (.getfield 123, 3) := by decide +kernel
theorem dX8_reads_119 : decode cX8_reads 119 = .ok (.iconst 5, 1) := by decide +kernel
theorem dX8_reads_120 : decode cX8_reads 120 = .ok (.if_icmp .ne 9, 3) := by decide +kernel
theorem dX8_reads_123 : decode cX8_reads 123 = .ok (.aload_n 0, 1) := by decide +kernel
theorem dX8_reads_124 : decode cX8_reads 124 = .ok (.iconst 3, 1) := by decide +kernel
theorem dX8_reads_125 : decode cX8_reads 125 = .ok (.invokevirtual 142, 3) := by decide +kernel
theorem dX8_reads_128 : decode cX8_reads 128 = .ok (.ireturn, 1) := by decide +kernel
theorem dX8_reads_129 : decode cX8_reads 129 = .ok (.aload_n 0, 1) := by decide +kernel
theorem dX8_reads_130 : decode cX8_reads 130 = .ok (.getfield 123, 3) := by decide +kernel
theorem dX8_reads_133 : decode cX8_reads 133 = .ok (.bipush 6, 2) := by decide +kernel
theorem dX8_reads_135 : decode cX8_reads 135 = .ok (.if_icmp .ne 15, 3) := by decide +kernel
theorem dX8_reads_138 : decode cX8_reads 138 = .ok (.aload_n 0, 1) := by decide +kernel
theorem dX8_reads_139 : decode cX8_reads 139 = .ok (.invokevirtual 149, 3) := by decide +kernel
theorem dX8_reads_142 : decode cX8_reads 142 = .ok (.aload_n 0, 1) := by decide +kernel
theorem dX8_reads_143 : decode cX8_reads 143 = .ok (.invokevirtual 192, 3) := by decide +kernel
theorem dX8_reads_146 : decode cX8_reads 146 = .ok (.istore_n 1, 1) := by decide +kernel
theorem dX8_reads_147 : decode cX8_reads 147 = .ok (.goto 83, 3) := by decide +kernel
theorem dX8_reads_150 : decode cX8_reads 150 = .ok (.aload_n 0, 1) := by decide +kernel
theorem dX8_reads_151 : decode cX8_reads 151 = .ok (.getfield 123, 3) := by decide +kernel
theorem dX8_reads_154 : decode cX8_reads 154 = .ok (.bipush 7, 2) := by decide +kernel
theorem dX8_reads_156 : decode cX8_reads 156 = .ok (.if_icmp .ne 11, 3) := by decide +kernel
theorem dX8_reads_159 : decode cX8_reads 159 = .ok (.aload_n 0, 1) := by decide +kernel
theorem dX8_reads_160 : decode cX8_reads 160 = .ok (.invokevirtual 195, 3) := by decide +kernel
theorem dX8_reads_163 : decode cX8_reads 163 = .ok (.istore_n 1, 1) := by decide +kernel
theorem dX8_reads_164 : decode cX8_reads 164 = .ok (.goto 66, 3) := by decide +kernel
theorem dX8_reads_167 : decode cX8_reads 167 = .ok (.aload_n 0, 1) := by decide +kernel
theorem dX8_reads_168 : decode cX8_reads 168 = .ok (.getfield 123, 3) := by decide +kernel
theorem dX8_reads_171 : decode cX8_reads 171 = .ok (.bipush 8, 2) := by decide +kernel
theorem dX8_reads_173 : decode cX8_reads 173 = .ok (.if_icmp .ne 11, 3) := by decide +kernel
theorem dX8_reads_176 : decode cX8_reads 176 = .ok (.aload_n 0, 1) := by decide +kernel
theorem dX8_reads_177 : decode cX8_reads 177 = .ok (.invokevirtual 198, 3) := by decide +kernel
theorem dX8_reads_180 : decode cX8_reads 180 = .ok (.istore_n 1, 1) := by decide +kernel
theorem dX8_reads_181 : decode cX8_reads 181 = .ok (.goto 49, 3) := by decide +kernel
theorem dX8_reads_184 : decode cX8_reads 184 = .ok (.aload_n 0, 1) := by decide +kernel
theorem dX8_reads_185 : decode cX8_reads 185 = .ok (.getfield 123, 3) := by decide +kernel
theorem dX8_reads_188 : decode cX8_reads 188 = .ok (.bipush 9, 2) := by decide +kernel
theorem dX8_reads_190 : decode cX8_reads 190 = .ok (.if_icmp .eq 12, 3) := by decide +kernel
theorem dX8_reads_193 : decode cX8_reads 193 = .ok (.aload_n 0, 1) := by decide +kernel
theorem dX8_reads_194 : decode cX8_reads 194 = .ok (.getfield 123, 3) := by decide +kernel
theorem dX8_reads_197 : decode cX8_reads 197 = .ok (.bipush 10, 2) := by decide +kernel
theorem dX8_reads_199 : decode cX8_reads 199 = .ok (.if_icmp .ne 25, 3) := by decide +kernel
theorem dX8_reads_202 : decode cX8_reads 202 = .ok (.aload_n 0, 1) := by decide +kernel
theorem dX8_reads_203 : decode cX8_reads 203 = .ok (.aload_n 0, 1) := by decide +kernel
theorem dX8_reads_204 : decode cX8_reads 204 = .ok (.getfield 123, 3) := by decide +kernel
theorem dX8_reads_207 : decode cX8_reads 207 = .ok (.bipush 9, 2) := by decide +kernel
theorem dX8_reads_209 : decode cX8_reads 209 = .ok (.if_icmp .ne 7, 3) := by decide +kernel
theorem dX8_reads_212 : decode cX8_reads 212 = .ok (.iconst 1, 1) := by decide +kernel
theorem dX8_reads_213 : decode cX8_reads 213 = .ok (.goto 4, 3) := by decide +kernel
theorem dX8_reads_216 : decode cX8_reads 216 = .ok (.iconst 0, 1) := by decide +kernel
theorem dX8_reads_217 : decode cX8_reads 217 = .ok (.invokevirtual 201, 3) := by decide +kernel
theorem dX8_reads_220 : decode cX8_reads 220 = .ok (.istore_n 1, 1) := by decide +kernel
theorem dX8_reads_221 : decode cX8_reads 221 = .ok (.goto 9, 3) := by decide +kernel
theorem dX8_reads_224 : decode cX8_reads 224 = .ok (.aload_n 0, 1) := by decide +kernel
theorem dX8_reads_225 : decode cX8_reads 225 = .ok (.iconst 1, 1) := by decide +kernel
theorem dX8_reads_226 : decode cX8_reads 226 = .ok (.invokevirtual 142, 3) := by decide +kernel
theorem dX8_reads_229 : decode cX8_reads 229 = .ok (.ireturn, 1) := by decide +kernel
theorem dX8_reads_230 : decode cX8_reads 230 = .ok (.iload_n 1, 1) := by decide +kernel
theorem dX8_reads_231 : decode cX8_reads 231 = .ok (.ifCond .ne 5, 3) := by decide +kernel
theorem dX8_reads_234 : decode cX8_reads 234 = .ok (.iconst 0, 1) := by decide +kernel
theorem dX8_reads_235 : decode cX8_reads 235 = .ok (.ireturn, 1) := by decide +kernel
theorem dX8_reads_236 : decode cX8_reads 236 = .ok (.goto (-130), 3) := by decide +kernel
theorem dX8_reads_239 : decode cX8_reads 239 = .ok (.iconst 1, 1) := by decide +kernel
theorem dX8_reads_240 : decode cX8_reads 240 = .ok (.ireturn, 1) := by decide +kernel
theorem dX8_province_0 : decode cX8_province 0 = .ok (.aload_n 0, 1) := by decide +kernel
theorem dX8_province_1 : decode cX8_province 1 = .ok (.invokevirtual 205, 3) := by decide +kernel
theorem dX8_province_4 : decode cX8_province 4 = .ok (.istore_n 1, 1) := by decide +kernel
theorem dX8_province_5 : decode cX8_province 5 = .ok (.aload_n 0, 1) := by decide +kernel
theorem dX8_province_6 : decode cX8_province 6 = .ok (.iconst 0, 1) := by decide +kernel
theorem dX8_province_7 : decode cX8_province 7 = .ok (.putfield 95, 3) := by decide +kernel
theorem dX8_province_10 : decode cX8_province 10 = .ok (.aload_n 0, 1) := by decide +kernel
theorem dX8_province_11 : decode cX8_province 11 = .ok (.iload_n 1, 1) := by decide +kernel
theorem dX8_province_12 : decode cX8_province 12 = .ok (.ifCond .eq 7, 3) := by decide +kernel
theorem dX8_province_15 : decode cX8_province 15 = .ok (.iconst 0, 1) := by decide +kernel
theorem dX8_province_16 : decode cX8_province 16 = .ok (.goto 9, 3) := by decide +kernel
theorem dX8_province_19 : decode cX8_province 19 = .ok (.aload_n 0, 1) := by decide +kernel
theorem dX8_province_20 : decode cX8_province 20 = .ok (.getfield 120, 3) := by decide +kernel
theorem dX8_province_23 : decode cX8_province 23 = .ok (.iconst 1, 1) := by decide +kernel
theorem dX8_province_24 : decode cX8_province 24 = .ok (.iadd, 1) := by decide +kernel
theorem dX8_province_25 : decode cX8_province 25 = .ok (.putfield 208, 3) := by decide +kernel
theorem dX8_province_28 : decode cX8_province 28 = .ok (.iload_n 1, 1) := by decide +kernel
theorem dX8_province_29 : decode cX8_province 29 = .ok (.ifCond .ne 11, 3) := by decide +kernel
theorem dX8_province_32 : decode cX8_province 32 = .ok (.bipush (-10), 2) := by decide +kernel
theorem dX8_province_34 : decode cX8_province 34 = .ok (.aload_n 0, 1) := by decide +kernel
theorem dX8_province_35 : decode cX8_province 35 = .ok (.getfield 139, 3) := by decide +kernel
theorem dX8_province_38 : decode cX8_province 38 = .ok (.isub, 1) := by decide +kernel
theorem dX8_province_39 : decode cX8_province 39 = .ok (.ireturn, 1) := by decide +kernel
theorem dX8_province_40 : decode cX8_province 40 = .ok (.aload_n 0, 1) := by decide +kernel
theorem dX8_province_41 : decode cX8_province 41 = .ok (.aload_n 0, 1) := by decide +kernel
theorem dX8_province_42 : decode cX8_province 42 = .ok (.getfield 155, 3) := by decide +kernel
theorem dX8_province_45 : decode cX8_province 45 = .ok (.putfield 76, 3) := by decide +kernel
theorem dX8_province_48 : decode cX8_province 48 = .ok (.aload_n 0, 1) := by decide +kernel
theorem dX8_province_49 : decode cX8_province 49 = .ok (.aload_n 0, 1) := by decide +kernel
theorem dX8_province_50 : decode cX8_province 50 = .ok (.getfield 160, 3) := by decide +kernel
theorem dX8_province_53 : decode cX8_province 53 = .ok (.putfield 83, 3) := by decide +kernel
theorem dX8_province_56 : decode cX8_province 56 = .ok (.iconst 0, 1) := by decide +kernel
theorem dX8_province_57 : decode cX8_province 57 = .ok (.istore_n 2, 1) := by decide +kernel
theorem dX8_province_58 : decode cX8_province 58 = .ok (.iload_n 2, 1) := by decide +kernel
theorem dX8_province_59 : decode cX8_province 59 = .ok (.bipush 36, 2) := by decide +kernel
theorem dX8_province_61 : decode cX8_province 61 = .ok (.if_icmp .ge 21, 3) := by decide +kernel
theorem dX8_province_64 : decode cX8_province 64 = .ok (.aload_n 0, 1) := by decide +kernel
theorem dX8_province_65 : decode cX8_province 65 = .ok (.getfield 7, 3) := by decide +kernel
theorem dX8_province_68 : decode cX8_province 68 = .ok (.iload_n 2, 1) := by decide +kernel
theorem dX8_province_69 : decode cX8_province 69 = .ok (.aload_n 0, 1) := by decide +kernel
theorem dX8_province_70 : decode cX8_province 70 = .ok (.getfield 38, 3) := by decide +kernel
theorem dX8_province_73 : decode cX8_province 73 = .ok (.iload_n 2, 1) := by decide +kernel
theorem dX8_province_74 : decode cX8_province 74 = .ok (.iaload, 1) := by decide +kernel
theorem dX8_province_75 : decode cX8_province 75 = .ok (.iastore, 1) := by decide +kernel
theorem dX8_province_76 : decode cX8_province 76 = .ok (.iinc 2 1, 3) := by decide +kernel
theorem dX8_province_79 : decode cX8_province 79 = .ok (.goto (-21), 3) := by decide +kernel
theorem dX8_province_82 : decode cX8_province 82 = .ok (.aload_n 0, 1) := by decide +kernel
theorem dX8_province_83 : decode cX8_province 83 = .ok (.aload_n 0, 1) := by decide +kernel
theorem dX8_province_84 : decode cX8_province 84 = .ok (.getfield 169, 3) := by decide +kernel
theorem dX8_province_87 : decode cX8_province 87 = .ok (.ifCond .ne 7, 3) := by decide +kernel
theorem dX8_province_90 : decode cX8_province 90 = .ok (.iconst 1, 1) := by decide +kernel
theorem dX8_province_91 : decode cX8_province 91 = .ok (.goto 7, 3) := by decide +kernel
theorem dX8_province_94 : decode cX8_province 94 = .ok (.aload_n 0, 1) := by decide +kernel
theorem dX8_province_95 : decode cX8_province 95 = .ok (.getfield 169, 3) := by decide +kernel
theorem dX8_province_98 : decode cX8_province 98 = .ok (.putfield 69, 3) := by decide +kernel
theorem dX8_province_101 : decode cX8_province 101 = .ok (.aload_n 0, 1) := by decide +kernel
theorem dX8_province_102 : decode cX8_province 102 = .ok (.getfield 41, 3) := by decide +kernel
theorem dX8_province_105 : decode cX8_province 105 = .ok (.iconst 0, 1) := by decide +kernel
theorem dX8_province_106 : decode cX8_province 106 = .ok (.aload_n 0, 1) := by decide +kernel
theorem dX8_province_107 : decode cX8_province 107 = .ok (.getfield 169, 3) := by decide +kernel
theorem dX8_province_110 : decode cX8_province 110 = .ok (.ifCond .ne 7, 3) := by decide +kernel
theorem dX8_province_113 : decode cX8_province 113 = .ok (.iconst 5, 1) := by decide +kernel
theorem dX8_province_114 : decode cX8_province 114 = .ok (.goto 9, 3) := by decide +kernel
theorem dX8_province_117 : decode cX8_province 117 = .ok (.aload_n 0, 1) := by decide +kernel
theorem dX8_province_118 : decode cX8_province 118 = .ok (.getfield 41, 3) := by decide +kernel
theorem dX8_province_121 : decode cX8_province 121 = .ok (.iconst 0, 1) := by decide +kernel
theorem dX8_province_122 : decode cX8_province 122 = .ok (.iaload, 1) := by decide +kernel
theorem dX8_province_123 : decode cX8_province 123 = .ok (.iastore, 1) := by decide +kernel
theorem dX8_province_124 : decode cX8_province 124 = .ok (.iconst 0, 1) := by decide +kernel
theorem dX8_province_125 : decode cX8_province 125 = .ok (.istore_n 2, 1) := by decide +kernel
theorem dX8_province_126 : decode cX8_province 126 = .ok (.iload_n 2, 1) := by decide +kernel
theorem dX8_province_127 : decode cX8_province 127 = .ok (.bipush 6, 2) := by decide +kernel
theorem dX8_province_129 : decode cX8_province 129 = .ok (.if_icmp .ge 21, 3) := by decide +kernel
theorem dX8_province_132 : decode cX8_province 132 = .ok (.aload_n 0, 1) := by decide +kernel
theorem dX8_province_133 : decode cX8_province 133 = .ok (.getfield 13, 3) := by decide +kernel
theorem dX8_province_136 : decode cX8_province 136 = .ok (.iload_n 2, 1) := by decide +kernel
theorem dX8_province_137 : decode cX8_province 137 = .ok (.aload_n 0, 1) := by decide +kernel
theorem dX8_province_138 : decode cX8_province 138 = .ok (.getfield 41, 3) := by decide +kernel
theorem dX8_province_141 : decode cX8_province 141 = .ok (.iload_n 2, 1) := by decide +kernel
theorem dX8_province_142 : decode cX8_province 142 = .ok (.iaload, 1) := by decide +kernel
theorem dX8_province_143 : decode cX8_province 143 = .ok (.iastore, 1) := by decide +kernel
theorem dX8_province_144 : decode cX8_province 144 = .ok (.iinc 2 1, 3) := by decide +kernel
theorem dX8_province_147 : decode cX8_province 147 = .ok (.goto (-21), 3) := by decide +kernel
theorem dX8_province_150 : decode cX8_province 150 = .ok (.aload_n 0, 1) := by decide +kernel
theorem dX8_province_151 : decode cX8_province 151 = .ok (.aload_n 0, 1) := by decide +kernel
theorem dX8_province_152 : decode cX8_province 152 = .ok (.getfield 172, 3) := by decide +kernel
theorem dX8_province_155 : decode cX8_province 155 = .ok (.putfield 86, 3) := by decide +kernel
theorem dX8_province_158 : decode cX8_province 158 = .ok (.aload_n 0, 1) := by decide +kernel
theorem dX8_province_159 : decode cX8_province 159 = .ok (.aload_n 0, 1) := by decide +kernel
theorem dX8_province_160 : decode cX8_province 160 = .ok (.getfield 179, 3) := by decide +kernel
theorem dX8_province_163 : decode cX8_province 163 = .ok (.putfield 89, 3) := by decide +kernel
theorem dX8_province_166 : decode cX8_province 166 = .ok (.iconst 0, 1) := by decide +kernel
theorem dX8_province_167 : decode cX8_province 167 = .ok (.istore_n 2, 1) := by decide +kernel
theorem dX8_province_168 : decode cX8_province 168 = .ok (.iload_n 2, 1) := by decide +kernel
theorem dX8_province_169 : decode cX8_province 169 = .ok (.iconst 4, 1) := by decide +kernel
theorem dX8_province_170 : decode cX8_province 170 = .ok (.if_icmp .ge 21, 3) := by decide +kernel
theorem dX8_province_173 : decode cX8_province 173 = .ok (.aload_n 0, 1) := by decide +kernel
theorem dX8_province_174 : decode cX8_province 174 = .ok (.getfield 16, 3) := by decide +kernel
theorem dX8_province_177 : decode cX8_province 177 = .ok (.iload_n 2, 1) := by decide +kernel
theorem dX8_province_178 : decode cX8_province 178 = .ok (.aload_n 0, 1) := by decide +kernel
theorem dX8_province_179 : decode cX8_province 179 = .ok (.getfield 47, 3) := by decide +kernel
theorem dX8_province_182 : decode cX8_province 182 = .ok (.iload_n 2, 1) := by decide +kernel
theorem dX8_province_183 : decode cX8_province 183 = .ok (.iaload, 1) := by decide +kernel
theorem dX8_province_184 : decode cX8_province 184 = .ok (.iastore, 1) := by decide +kernel
theorem dX8_province_185 : decode cX8_province 185 = .ok (.iinc 2 1, 3) := by decide +kernel
theorem dX8_province_188 : decode cX8_province 188 = .ok (.goto (-20), 3) := by decide +kernel
theorem dX8_province_191 : decode cX8_province 191 = .ok (.aload_n 0, 1) := by decide +kernel
theorem dX8_province_192 : decode cX8_province 192 = .ok (.aload_n 0, 1) := by decide +kernel
theorem dX8_province_193 : decode cX8_province 193 = .ok (.getfield 186, 3) := by decide +kernel
theorem dX8_province_196 : decode cX8_province 196 = .ok (.putfield 211, 3) := by decide +kernel
theorem dX8_province_199 : decode cX8_province 199 = .ok (.aload_n 0, 1) := by decide +kernel
theorem dX8_province_200 : decode cX8_province 200 = .ok (.getfield 19, 3) := by decide +kernel
theorem dX8_province_203 : decode cX8_province 203 = .ok (.iconst 1, 1) := by decide +kernel
theorem dX8_province_204 : decode cX8_province 204 = .ok (.iaload, 1) := by decide +kernel
theorem dX8_province_205 : decode cX8_province 205 = .ok (.istore_n 2, 1) := by decide +kernel
theorem dX8_province_206 : decode cX8_province 206 = .ok (.iconst 0, 1) := by decide +kernel
theorem dX8_province_207 : decode cX8_province 207 = .ok (.istore_n 3, 1) := by decide +kernel
theorem dX8_province_208 : decode cX8_province 208 = .ok (.iload_n 3, 1) := by decide +kernel
theorem dX8_province_209 : decode cX8_province 209 = .ok (.bipush 62, 2) := by decide +kernel
theorem dX8_province_211 : decode cX8_province 211 = .ok (.if_icmp .ge 16, 3) := by decide +kernel
theorem dX8_province_214 : decode cX8_province 214 = .ok (.aload_n 0, 1) := by decide +kernel
theorem dX8_province_215 : decode cX8_province 215 = .ok (.getfield 19, 3) := by decide +kernel
theorem dX8_province_218 : decode cX8_province 218 = .ok (.iload_n 3, 1) := by decide +kernel
theorem dX8_province_219 : decode cX8_province 219 = .ok (.iconst 0, 1) := by decide +kernel
theorem dX8_province_220 : decode cX8_province 220 = .ok (.iastore, 1) := by decide +kernel
theorem dX8_province_221 : decode cX8_province 221 = .ok (.iinc 3 1, 3) := by decide +kernel
theorem dX8_province_224 : decode cX8_province 224 = .ok (.goto (-16), 3) := by decide +kernel
theorem dX8_province_227 : decode cX8_province 227 = .ok (.aload_n 0, 1) := by decide +kernel
theorem dX8_province_228 : decode cX8_province 228 = .ok (.getfield 19, 3) := by decide +kernel
theorem dX8_province_231 : decode cX8_province 231 = .ok (.iconst 1, 1) := by decide +kernel
theorem dX8_province_232 : decode cX8_province 232 = .ok (.iload_n 2, 1) := by decide +kernel
theorem dX8_province_233 : decode cX8_province 233 = .ok (.iastore, 1) := by decide +kernel
theorem dX8_province_234 : decode cX8_province 234 = .ok (.iconst 0, 1) := by decide +kernel
theorem dX8_province_235 : decode cX8_province 235 = .ok (.istore_n 3, 1) := by decide +kernel
theorem dX8_province_236 : decode cX8_province 236 = .ok (.iload_n 3, 1) := by decide +kernel
theorem dX8_province_237 : decode cX8_province 237 = .ok (.aload_n 0, 1) := by decide +kernel
theorem dX8_province_238 : decode cX8_province 238 = .ok (.getfield 86, 3) := by decide +kernel
theorem dX8_province_241 : decode cX8_province 241 = .ok (.if_icmp .ge 49, 3) := by decide +kernel
theorem dX8_province_244 : decode cX8_province 244 = .ok (.iconst 0, 1) := by decide +kernel
theorem dX8_province_245 : decode cX8_province 245 = .ok (.istore 4, 2) := by decide +kernel
theorem dX8_province_247 : decode cX8_province 247 = .ok (.iload 4, 2) := by decide +kernel
theorem dX8_province_249 : decode cX8_province 249 = .ok (.iconst 3, 1) := by decide +kernel
theorem dX8_province_250 : decode cX8_province 250 = .ok (.if_icmp .ge 34, 3) := by decide +kernel
theorem dX8_province_253 : decode cX8_province 253 = .ok (.aload_n 0, 1) := by decide +kernel
theorem dX8_province_254 : decode cX8_province 254 = .ok (.getfield 19, 3) := by decide +kernel
theorem dX8_province_257 : decode cX8_province 257 = .ok (.iconst 2, 1) := by decide +kernel
theorem dX8_province_258 : decode cX8_province 258 = .ok (.bipush 6, 2) := by decide +kernel
theorem dX8_province_260 : decode cX8_province 260 = .ok (.iload_n 3, 1) := by decide +kernel
theorem dX8_province_261 : decode cX8_province 261 = .ok (.imul, 1) := by decide +kernel
theorem dX8_province_262 : decode cX8_province 262 = .ok (.iadd, 1) := by decide +kernel
theorem dX8_province_263 : decode cX8_province 263 = .ok (.iload 4, 2) := by decide +kernel
theorem dX8_province_265 : decode cX8_province 265 = .ok (.iadd, 1) := by decide +kernel
theorem dX8_province_266 : decode cX8_province 266 = .ok (.aload_n 0, 1) := by decide +kernel
theorem dX8_province_267 : decode cX8_province 267 = .ok (.getfield 44, 3) := by decide +kernel
theorem dX8_province_270 : decode cX8_province 270 = .ok (.iconst 3, 1) := by decide +kernel
theorem dX8_province_271 : decode cX8_province 271 = .ok (.iload_n 3, 1) := by decide +kernel
theorem dX8_province_272 : decode cX8_province 272 = .ok (.imul, 1) := by decide +kernel
theorem dX8_province_273 : decode cX8_province 273 = .ok (.iload 4, 2) := by decide +kernel
theorem dX8_province_275 : decode cX8_province 275 = .ok (.iadd, 1) := by decide +kernel
theorem dX8_province_276 : decode cX8_province 276 = .ok (.iaload, 1) := by decide +kernel
theorem dX8_province_277 : decode cX8_province 277 = .ok (.iastore, 1) := by decide +kernel
theorem dX8_province_278 : decode cX8_province 278 = .ok (.iinc 4 1, 3) := by decide +kernel
theorem dX8_province_281 : decode cX8_province 281 = .ok (.goto (-34), 3) := by decide +kernel
theorem dX8_province_284 : decode cX8_province 284 = .ok (.iinc 3 1, 3) := by decide +kernel
theorem dX8_province_287 : decode cX8_province 287 = .ok (.goto (-51), 3) := by decide +kernel
theorem dX8_province_290 : decode cX8_province 290 = .ok (.aload_n 0, 1) := by decide +kernel
theorem dX8_province_291 : decode cX8_province 291 = .ok (.getfield 25, 3) := by decide +kernel
theorem dX8_province_294 : decode cX8_province 294 = .ok (.iconst 0, 1) := by decide +kernel
theorem dX8_province_295 : decode cX8_province 295 = .ok (.iconst 0, 1) := by decide +kernel
theorem dX8_province_296 : decode cX8_province 296 = .ok (.bastore, 1) := by decide +kernel
theorem dX8_province_297 : decode cX8_province 297 = .ok (.aload_n 0, 1) := by decide +kernel
theorem dX8_province_298 : decode cX8_province 298 = .ok (.getfield 25, 3) := by decide +kernel
theorem dX8_province_301 : decode cX8_province 301 = .ok (.iconst 1, 1) := by decide +kernel
theorem dX8_province_302 : decode cX8_province 302 = .ok (.iconst 0, 1) := by decide +kernel
theorem dX8_province_303 : decode cX8_province 303 = .ok (.bastore, 1) := by decide +kernel
theorem dX8_province_304 : decode cX8_province 304 = .ok (.aload_n 0, 1) := by decide +kernel
theorem dX8_province_305 : decode cX8_province 305 = .ok (.iconst (-1), 1) := by decide +kernel
theorem dX8_province_306 : decode cX8_province 306 = .ok (.putfield 73, 3) := by decide +kernel
theorem dX8_province_309 : decode cX8_province 309 = .ok (.aload_n 0, 1) := by decide +kernel
theorem dX8_province_310 : decode cX8_province 310 = .ok (.iconst 0, 1) := by decide +kernel
theorem dX8_province_311 : decode cX8_province 311 = .ok (.putfield 214, 3) := by decide +kernel
theorem dX8_province_314 : decode cX8_province 314 = .ok (.aload_n 0, 1) := by decide +kernel
theorem dX8_province_315 : decode cX8_province 315 = .ok (.iconst 0, 1) := by decide +kernel
theorem dX8_province_316 : decode cX8_province 316 = .ok (.putfield 217, 3) := by decide +kernel
theorem dX8_province_319 : decode cX8_province 319 = .ok (.aload_n 0, 1) := by decide +kernel
theorem dX8_province_320 : decode cX8_province 320 = .ok (.invokevirtual 220, 3) := by decide +kernel
theorem dX8_province_323 : decode cX8_province 323 = .ok (.aload_n 0, 1) := by decide +kernel
theorem dX8_province_324 : decode cX8_province 324 = .ok (.getfield 76, 3) := by decide +kernel
theorem dX8_province_327 : decode cX8_province 327 = .ok (.aload_n 0, 1) := by decide +kernel
theorem dX8_province_328 : decode cX8_province 328 = .ok (.getfield 83, 3) := by decide +kernel
theorem dX8_province_331 : decode cX8_province 331 = .ok (.imul, 1) := by decide +kernel
theorem dX8_province_332 : decode cX8_province 332 = .ok (.ireturn, 1) := by decide +kernel
theorem dX8_fault_0 : decode cX8_fault 0 = .ok (.aload_n 0, 1) := by decide +kernel
theorem dX8_fault_1 : decode cX8_fault 1 = .ok (.getfield 208, 3) := by decide +kernel
theorem dX8_fault_4 : decode cX8_fault 4 = .ok (.iconst 1, 1) := by decide +kernel
theorem dX8_fault_5 : decode cX8_fault 5 = .ok (.isub, 1) := by decide +kernel
theorem dX8_fault_6 : decode cX8_fault 6 = .ok (.ireturn, 1) := by decide +kernel
theorem dX8_spotOf_0 : decode cX8_spotOf 0 = .ok (.aload_n 0, 1) := by decide +kernel
theorem dX8_spotOf_1 : decode cX8_spotOf 1 = .ok (.getfield 76, 3) := by decide +kernel
theorem dX8_spotOf_4 : decode cX8_spotOf 4 = .ok (.aload_n 0, 1) := by decide +kernel
theorem dX8_spotOf_5 : decode cX8_spotOf 5 = .ok (.getfield 19, 3) := by decide +kernel
theorem dX8_spotOf_8 : decode cX8_spotOf 8 = .ok (.iconst 2, 1) := by decide +kernel
theorem dX8_spotOf_9 : decode cX8_spotOf 9 = .ok (.bipush 6, 2) := by decide +kernel
theorem dX8_spotOf_11 : decode cX8_spotOf 11 = .ok (.iload_n 1, 1) := by decide +kernel
theorem dX8_spotOf_12 : decode cX8_spotOf 12 = .ok (.imul, 1) := by decide +kernel
theorem dX8_spotOf_13 : decode cX8_spotOf 13 = .ok (.iadd, 1) := by decide +kernel
theorem dX8_spotOf_14 : decode cX8_spotOf 14 = .ok (.iconst 1, 1) := by decide +kernel
theorem dX8_spotOf_15 : decode cX8_spotOf 15 = .ok (.iadd, 1) := by decide +kernel
theorem dX8_spotOf_16 : decode cX8_spotOf 16 = .ok (.iaload, 1) := by decide +kernel
theorem dX8_spotOf_17 : decode cX8_spotOf 17 = .ok (.imul, 1) := by decide +kernel
theorem dX8_spotOf_18 : decode cX8_spotOf 18 = .ok (.aload_n 0, 1) := by decide +kernel
theorem dX8_spotOf_19 : decode cX8_spotOf 19 = .ok (.getfield 19, 3) := by decide +kernel
theorem dX8_spotOf_22 : decode cX8_spotOf 22 = .ok (.iconst 2, 1) := by decide +kernel
theorem dX8_spotOf_23 : decode cX8_spotOf 23 = .ok (.bipush 6, 2) := by decide +kernel
theorem dX8_spotOf_25 : decode cX8_spotOf 25 = .ok (.iload_n 1, 1) := by decide +kernel
theorem dX8_spotOf_26 : decode cX8_spotOf 26 = .ok (.imul, 1) := by decide +kernel
theorem dX8_spotOf_27 : decode cX8_spotOf 27 = .ok (.iadd, 1) := by decide +kernel
theorem dX8_spotOf_28 : decode cX8_spotOf 28 = .ok (.iaload, 1) := by decide +kernel
theorem dX8_spotOf_29 : decode cX8_spotOf 29 = .ok (.iadd, 1) := by decide +kernel
theorem dX8_spotOf_30 : decode cX8_spotOf 30 = .ok (.ireturn, 1) := by decide +kernel
theorem dX8_depthOf_0 : decode cX8_depthOf 0 = .ok (.aload_n 0, 1) := by decide +kernel
theorem dX8_depthOf_1 : decode cX8_depthOf 1 = .ok (.getfield 7, 3) := by decide +kernel
theorem dX8_depthOf_4 : decode cX8_depthOf 4 = .ok (.iload_n 1, 1) := by decide +kernel
theorem dX8_depthOf_5 : decode cX8_depthOf 5 = .ok (.iaload, 1) := by decide +kernel
