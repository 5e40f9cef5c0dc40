theorem dX8_depthOf_6 : decode cX8_depthOf 6 = .ok (.aload_n 0, 1) := by decide +kernel
theorem dX8_depthOf_7 : decode cX8_depthOf 7 = .ok (.getfield 13, 3) := by decide +kernel
theorem dX8_depthOf_10 : decode cX8_depthOf 10 = .ok (.iload_n 2, 1) := by decide +kernel
theorem dX8_depthOf_11 : decode cX8_depthOf 11 = .ok (.aload_n 0, 1) := by decide +kernel
theorem dX8_depthOf_12 : decode cX8_depthOf 12 = .ok (.getfield 69, 3) := by decide +kernel
theorem dX8_depthOf_15 : decode cX8_depthOf 15 = .ok (.irem, 1) := by decide +kernel
theorem dX8_depthOf_16 : decode cX8_depthOf 16 = .ok (.iaload, 1) := by decide +kernel
theorem dX8_depthOf_17 : decode cX8_depthOf 17 = .ok (.iadd, 1) := by decide +kernel
theorem dX8_depthOf_18 : decode cX8_depthOf 18 = .ok (.iconst 5, 1) := by decide +kernel
theorem dX8_depthOf_19 : decode cX8_depthOf 19 = .ok (.isub, 1) := by decide +kernel
theorem dX8_depthOf_20 : decode cX8_depthOf 20 = .ok (.istore_n 3, 1) := by decide +kernel
theorem dX8_depthOf_21 : decode cX8_depthOf 21 = .ok (.aload_n 0, 1) := by decide +kernel
theorem dX8_depthOf_22 : decode cX8_depthOf 22 = .ok (.getfield 19, 3) := by decide +kernel
theorem dX8_depthOf_25 : decode cX8_depthOf 25 = .ok (.bipush 26, 2) := by decide +kernel
theorem dX8_depthOf_27 : decode cX8_depthOf 27 = .ok (.iload_n 1, 1) := by decide +kernel
theorem dX8_depthOf_28 : decode cX8_depthOf 28 = .ok (.iadd, 1) := by decide +kernel
theorem dX8_depthOf_29 : decode cX8_depthOf 29 = .ok (.iaload, 1) := by decide +kernel
theorem dX8_depthOf_30 : decode cX8_depthOf 30 = .ok (.iconst 1, 1) := by decide +kernel
theorem dX8_depthOf_31 : decode cX8_depthOf 31 = .ok (.if_icmp .eq 7, 3) := by decide +kernel
theorem dX8_depthOf_34 : decode cX8_depthOf 34 = .ok (.iload_n 3, 1) := by decide +kernel
theorem dX8_depthOf_35 : decode cX8_depthOf 35 = .ok (.ifCond .ge 7, 3) := by decide +kernel
theorem dX8_depthOf_38 : decode cX8_depthOf 38 = .ok (.iconst 0, 1) := by decide +kernel
theorem dX8_depthOf_39 : decode cX8_depthOf 39 = .ok (.goto 4, 3) := by decide +kernel
theorem dX8_depthOf_42 : decode cX8_depthOf 42 = .ok (.iload_n 3, 1) := by decide +kernel
theorem dX8_depthOf_43 : decode cX8_depthOf 43 = .ok (.ireturn, 1) := by decide +kernel
theorem dX8_hears_0 : decode cX8_hears 0 = .ok (.iconst 0, 1) := by decide +kernel
theorem dX8_hears_1 : decode cX8_hears 1 = .ok (.istore_n 1, 1) := by decide +kernel
theorem dX8_hears_2 : decode cX8_hears 2 = .ok (.iload_n 1, 1) := by decide +kernel
theorem dX8_hears_3 : decode cX8_hears 3 = .ok (.aload_n 0, 1) := by decide +kernel
theorem dX8_hears_4 : decode cX8_hears 4 = .ok (.getfield 86, 3) := by decide +kernel
theorem dX8_hears_7 : decode cX8_hears 7 = .ok (.if_icmp .ge 62, 3) := by decide +kernel
theorem dX8_hears_10 : decode cX8_hears 10 = .ok (.iconst 0, 1) := by decide +kernel
theorem dX8_hears_11 : decode cX8_hears 11 = .ok (.istore_n 2, 1) := by decide +kernel
theorem dX8_hears_12 : decode cX8_hears 12 = .ok (.iload_n 2, 1) := by decide +kernel
theorem dX8_hears_13 : decode cX8_hears 13 = .ok (.aload_n 0, 1) := by decide +kernel
theorem dX8_hears_14 : decode cX8_hears 14 = .ok (.getfield 89, 3) := by decide +kernel
theorem dX8_hears_17 : decode cX8_hears 17 = .ok (.if_icmp .ge 46, 3) := by decide +kernel
theorem dX8_hears_20 : decode cX8_hears 20 = .ok (.aload_n 0, 1) := by decide +kernel
theorem dX8_hears_21 : decode cX8_hears 21 = .ok (.getfield 19, 3) := by decide +kernel
theorem dX8_hears_24 : decode cX8_hears 24 = .ok (.iconst 2, 1) := by decide +kernel
theorem dX8_hears_25 : decode cX8_hears 25 = .ok (.bipush 6, 2) := by decide +kernel
theorem dX8_hears_27 : decode cX8_hears 27 = .ok (.iload_n 1, 1) := by decide +kernel
theorem dX8_hears_28 : decode cX8_hears 28 = .ok (.imul, 1) := by decide +kernel
theorem dX8_hears_29 : decode cX8_hears 29 = .ok (.iadd, 1) := by decide +kernel
theorem dX8_hears_30 : decode cX8_hears 30 = .ok (.iconst 3, 1) := by decide +kernel
theorem dX8_hears_31 : decode cX8_hears 31 = .ok (.iadd, 1) := by decide +kernel
theorem dX8_hears_32 : decode cX8_hears 32 = .ok (.dup2, 1) := by decide +kernel
theorem dX8_hears_33 : decode cX8_hears 33 = .ok (.iaload, 1) := by decide +kernel
theorem dX8_hears_34 : decode cX8_hears 34 = .ok (.aload_n 0, 1) := by decide +kernel
theorem dX8_hears_35 : decode cX8_hears 35 = .ok (.iload_n 1, 1) := by decide +kernel
theorem dX8_hears_36 : decode cX8_hears 36 = .ok (.invokevirtual 223, 3) := by decide +kernel
theorem dX8_hears_39 : decode cX8_hears 39 = .ok (.aload_n 0, 1) := by decide +kernel
theorem dX8_hears_40 : decode cX8_hears 40 = .ok (.getfield 16, 3) := by decide +kernel
theorem dX8_hears_43 : decode cX8_hears 43 = .ok (.iload_n 2, 1) := by decide +kernel
theorem dX8_hears_44 : decode cX8_hears 44 = .ok (.iaload, 1) := by decide +kernel
theorem dX8_hears_45 : decode cX8_hears 45 = .ok (.if_icmp .ne 9, 3) := by decide +kernel
theorem dX8_hears_48 : decode cX8_hears 48 = .ok (.iconst 1, 1) := by decide +kernel
theorem dX8_hears_49 : decode cX8_hears 49 = .ok (.iload_n 2, 1) := by decide +kernel
theorem dX8_hears_50 : decode cX8_hears 50 = .ok (.ishl, 1) := by decide +kernel
theorem dX8_hears_51 : decode cX8_hears 51 = .ok (.goto 4, 3) := by decide +kernel
theorem dX8_hears_54 : decode cX8_hears 54 = .ok (.iconst 0, 1) := by decide +kernel
theorem dX8_hears_55 : decode cX8_hears 55 = .ok (.ior, 1) := by decide +kernel
theorem dX8_hears_56 : decode cX8_hears 56 = .ok (.iastore, 1) := by decide +kernel
theorem dX8_hears_57 : decode cX8_hears 57 = .ok (.iinc 2 1, 3) := by decide +kernel
theorem dX8_hears_60 : decode cX8_hears 60 = .ok (.goto (-48), 3) := by decide +kernel
theorem dX8_hears_63 : decode cX8_hears 63 = .ok (.iinc 1 1, 3) := by decide +kernel
theorem dX8_hears_66 : decode cX8_hears 66 = .ok (.goto (-64), 3) := by decide +kernel
theorem dX8_hears_69 : decode cX8_hears 69 = .ok (.iconst 0, 1) := by decide +kernel
theorem dX8_hears_70 : decode cX8_hears 70 = .ok (.istore_n 1, 1) := by decide +kernel
theorem dX8_hears_71 : decode cX8_hears 71 = .ok (.iload_n 1, 1) := by decide +kernel
theorem dX8_hears_72 : decode cX8_hears 72 = .ok (.iconst 2, 1) := by decide +kernel
theorem dX8_hears_73 : decode cX8_hears 73 = .ok (.if_icmp .ge 87, 3) := by decide +kernel
theorem dX8_hears_76 : decode cX8_hears 76 = .ok (.iconst 0, 1) := by decide +kernel
theorem dX8_hears_77 : decode cX8_hears 77 = .ok (.istore_n 2, 1) := by decide +kernel
theorem dX8_hears_78 : decode cX8_hears 78 = .ok (.iload_n 2, 1) := by decide +kernel
theorem dX8_hears_79 : decode cX8_hears 79 = .ok (.aload_n 0, 1) := by decide +kernel
theorem dX8_hears_80 : decode cX8_hears 80 = .ok (.getfield 86, 3) := by decide +kernel
theorem dX8_hears_83 : decode cX8_hears 83 = .ok (.if_icmp .ge 71, 3) := by decide +kernel
theorem dX8_hears_86 : decode cX8_hears 86 = .ok (.iconst 0, 1) := by decide +kernel
theorem dX8_hears_87 : decode cX8_hears 87 = .ok (.istore_n 3, 1) := by decide +kernel
theorem dX8_hears_88 : decode cX8_hears 88 = .ok (.iload_n 3, 1) := by decide +kernel
theorem dX8_hears_89 : decode cX8_hears 89 = .ok (.aload_n 0, 1) := by decide +kernel
theorem dX8_hears_90 : decode cX8_hears 90 = .ok (.getfield 86, 3) := by decide +kernel
theorem dX8_hears_93 : decode cX8_hears 93 = .ok (.if_icmp .ge 55, 3) := by decide +kernel
theorem dX8_hears_96 : decode cX8_hears 96 = .ok (.aload_n 0, 1) := by decide +kernel
theorem dX8_hears_97 : decode cX8_hears 97 = .ok (.getfield 19, 3) := by decide +kernel
theorem dX8_hears_100 : decode cX8_hears 100 = .ok (.iconst 2, 1) := by decide +kernel
theorem dX8_hears_101 : decode cX8_hears 101 = .ok (.bipush 6, 2) := by decide +kernel
theorem dX8_hears_103 : decode cX8_hears 103 = .ok (.iload_n 2, 1) := by decide +kernel
theorem dX8_hears_104 : decode cX8_hears 104 = .ok (.imul, 1) := by decide +kernel
theorem dX8_hears_105 : decode cX8_hears 105 = .ok (.iadd, 1) := by decide +kernel
theorem dX8_hears_106 : decode cX8_hears 106 = .ok (.iconst 3, 1) := by decide +kernel
theorem dX8_hears_107 : decode cX8_hears 107 = .ok (.iadd, 1) := by decide +kernel
theorem dX8_hears_108 : decode cX8_hears 108 = .ok (.dup2, 1) := by decide +kernel
theorem dX8_hears_109 : decode cX8_hears 109 = .ok (.iaload, 1) := by decide +kernel
theorem dX8_hears_110 : decode cX8_hears 110 = .ok (.aload_n 0, 1) := by decide +kernel
theorem dX8_hears_111 : decode cX8_hears 111 = .ok (.iload_n 2, 1) := by decide +kernel
theorem dX8_hears_112 : decode cX8_hears 112 = .ok (.invokevirtual 223, 3) := by decide +kernel
theorem dX8_hears_115 : decode cX8_hears 115 = .ok (.aload_n 0, 1) := by decide +kernel
theorem dX8_hears_116 : decode cX8_hears 116 = .ok (.iload_n 3, 1) := by decide +kernel
theorem dX8_hears_117 : decode cX8_hears 117 = .ok (.invokevirtual 223, 3) := by decide +kernel
theorem dX8_hears_120 : decode cX8_hears 120 = .ok (.if_icmp .ne 19, 3) := by decide +kernel
theorem dX8_hears_123 : decode cX8_hears 123 = .ok (.aload_n 0, 1) := by decide +kernel
theorem dX8_hears_124 : decode cX8_hears 124 = .ok (.getfield 19, 3) := by decide +kernel
theorem dX8_hears_127 : decode cX8_hears 127 = .ok (.iconst 2, 1) := by decide +kernel
theorem dX8_hears_128 : decode cX8_hears 128 = .ok (.bipush 6, 2) := by decide +kernel
theorem dX8_hears_130 : decode cX8_hears 130 = .ok (.iload_n 3, 1) := by decide +kernel
theorem dX8_hears_131 : decode cX8_hears 131 = .ok (.imul, 1) := by decide +kernel
theorem dX8_hears_132 : decode cX8_hears 132 = .ok (.iadd, 1) := by decide +kernel
theorem dX8_hears_133 : decode cX8_hears 133 = .ok (.iconst 3, 1) := by decide +kernel
theorem dX8_hears_134 : decode cX8_hears 134 = .ok (.iadd, 1) := by decide +kernel
theorem dX8_hears_135 : decode cX8_hears 135 = .ok (.iaload, 1) := by decide +kernel
theorem dX8_hears_136 : decode cX8_hears 136 = .ok (.goto 4, 3) := by decide +kernel
theorem dX8_hears_139 : decode cX8_hears 139 = .ok (.iconst 0, 1) := by decide +kernel
theorem dX8_hears_140 : decode cX8_hears 140 = .ok (.ior, 1) := by decide +kernel
theorem dX8_hears_141 : decode cX8_hears 141 = .ok (.iastore, 1) := by decide +kernel
theorem dX8_hears_142 : decode cX8_hears 142 = .ok (.iinc 3 1, 3) := by decide +kernel
theorem dX8_hears_145 : decode cX8_hears 145 = .ok (.goto (-57), 3) := by decide +kernel
theorem dX8_hears_148 : decode cX8_hears 148 = .ok (.iinc 2 1, 3) := by decide +kernel
theorem dX8_hears_151 : decode cX8_hears 151 = .ok (.goto (-73), 3) := by decide +kernel
theorem dX8_hears_154 : decode cX8_hears 154 = .ok (.iinc 1 1, 3) := by decide +kernel
theorem dX8_hears_157 : decode cX8_hears 157 = .ok (.goto (-86), 3) := by decide +kernel
theorem dX8_hears_160 : decode cX8_hears 160 = .ok (.return_, 1) := by decide +kernel
theorem dX8_led_0 : decode cX8_led 0 = .ok (.iload_n 1, 1) := by decide +kernel
theorem dX8_led_1 : decode cX8_led 1 = .ok (.aload_n 0, 1) := by decide +kernel
theorem dX8_led_2 : decode cX8_led 2 = .ok (.getfield 76, 3) := by decide +kernel
theorem dX8_led_5 : decode cX8_led 5 = .ok (.irem, 1) := by decide +kernel
theorem dX8_led_6 : decode cX8_led 6 = .ok (.iload_n 2, 1) := by decide +kernel
theorem dX8_led_7 : decode cX8_led 7 = .ok (.iconst 2, 1) := by decide +kernel
theorem dX8_led_8 : decode cX8_led 8 = .ok (.if_icmp .ne 7, 3) := by decide +kernel
theorem dX8_led_11 : decode cX8_led 11 = .ok (.iconst 1, 1) := by decide +kernel
theorem dX8_led_12 : decode cX8_led 12 = .ok (.goto 13, 3) := by decide +kernel
theorem dX8_led_15 : decode cX8_led 15 = .ok (.iload_n 2, 1) := by decide +kernel
theorem dX8_led_16 : decode cX8_led 16 = .ok (.iconst 4, 1) := by decide +kernel
theorem dX8_led_17 : decode cX8_led 17 = .ok (.if_icmp .ne 7, 3) := by decide +kernel
theorem dX8_led_20 : decode cX8_led 20 = .ok (.iconst (-1), 1) := by decide +kernel
theorem dX8_led_21 : decode cX8_led 21 = .ok (.goto 4, 3) := by decide +kernel
theorem dX8_led_24 : decode cX8_led 24 = .ok (.iconst 0, 1) := by decide +kernel
theorem dX8_led_25 : decode cX8_led 25 = .ok (.iadd, 1) := by decide +kernel
theorem dX8_led_26 : decode cX8_led 26 = .ok (.istore_n 3, 1) := by decide +kernel
theorem dX8_led_27 : decode cX8_led 27 = .ok (.iload_n 1, 1) := by decide +kernel
theorem dX8_led_28 : decode cX8_led 28 = .ok (.aload_n 0, 1) := by decide +kernel
theorem dX8_led_29 : decode cX8_led 29 = .ok (.getfield 76, 3) := by decide +kernel
theorem dX8_led_32 : decode cX8_led 32 = .ok (.idiv, 1) := by decide +kernel
theorem dX8_led_33 : decode cX8_led 33 = .ok (.iload_n 2, 1) := by decide +kernel
theorem dX8_led_34 : decode cX8_led 34 = .ok (.iconst 3, 1) := by decide +kernel
theorem dX8_led_35 : decode cX8_led 35 = .ok (.if_icmp .ne 7, 3) := by decide +kernel
theorem dX8_led_38 : decode cX8_led 38 = .ok (.iconst 1, 1) := by decide +kernel
theorem dX8_led_39 : decode cX8_led 39 = .ok (.goto 13, 3) := by decide +kernel
theorem dX8_led_42 : decode cX8_led 42 = .ok (.iload_n 2, 1) := by decide +kernel
theorem dX8_led_43 : decode cX8_led 43 = .ok (.iconst 1, 1) := by decide +kernel
theorem dX8_led_44 : decode cX8_led 44 = .ok (.if_icmp .ne 7, 3) := by decide +kernel
theorem dX8_led_47 : decode cX8_led 47 = .ok (.iconst (-1), 1) := by decide +kernel
theorem dX8_led_48 : decode cX8_led 48 = .ok (.goto 4, 3) := by decide +kernel
theorem dX8_led_51 : decode cX8_led 51 = .ok (.iconst 0, 1) := by decide +kernel
theorem dX8_led_52 : decode cX8_led 52 = .ok (.iadd, 1) := by decide +kernel
theorem dX8_led_53 : decode cX8_led 53 = .ok (.istore 4, 2) := by decide +kernel
theorem dX8_led_55 : decode cX8_led 55 = .ok (.aload_n 0, 1) := by decide +kernel
theorem dX8_led_56 : decode cX8_led 56 = .ok (.iload_n 3, 1) := by decide +kernel
theorem dX8_led_57 : decode cX8_led 57 = .ok (.iload 4, 2) := by decide +kernel
theorem dX8_led_59 : decode cX8_led 59 = .ok (.invokevirtual 227, 3) := by decide +kernel
theorem dX8_led_62 : decode cX8_led 62 = .ok (.ireturn, 1) := by decide +kernel
theorem dX8_mayGo_0 : decode cX8_mayGo 0 = .ok (.aload_n 0, 1) := by decide +kernel
theorem dX8_mayGo_1 : decode cX8_mayGo 1 = .ok (.iload_n 1, 1) := by decide +kernel
theorem dX8_mayGo_2 : decode cX8_mayGo 2 = .ok (.iload_n 2, 1) := by decide +kernel
theorem dX8_mayGo_3 : decode cX8_mayGo 3 = .ok (.invokevirtual 231, 3) := by decide +kernel
theorem dX8_mayGo_6 : decode cX8_mayGo 6 = .ok (.istore 5, 2) := by decide +kernel
theorem dX8_mayGo_8 : decode cX8_mayGo 8 = .ok (.iload_n 2, 1) := by decide +kernel
theorem dX8_mayGo_9 : decode cX8_mayGo 9 = .ok (.ifCond .eq 21, 3) := by decide +kernel
theorem dX8_mayGo_12 : decode cX8_mayGo 12 = .ok (.iload 5, 2) := by decide +kernel
theorem dX8_mayGo_14 : decode cX8_mayGo 14 = .ok (.iconst (-1), 1) := by decide +kernel
theorem dX8_mayGo_15 : decode cX8_mayGo 15 = .ok (.if_icmp .eq 19, 3) := by decide +kernel
theorem dX8_mayGo_18 : decode cX8_mayGo 18 = .ok (.aload_n 0, 1) := by decide +kernel
theorem dX8_mayGo_19 : decode cX8_mayGo 19 = .ok (.iload 5, 2) := by decide +kernel
theorem dX8_mayGo_21 : decode cX8_mayGo 21 = .ok (.iload 4, 2) := by decide +kernel
theorem dX8_mayGo_23 : decode cX8_mayGo 23 = .ok (.invokevirtual 234, 3) := by decide +kernel
theorem dX8_mayGo_26 : decode cX8_mayGo 26 = .ok (.iload_n 3, 1) := by decide +kernel
theorem dX8_mayGo_27 : decode cX8_mayGo 27 = .ok (.if_icmp .gt 7, 3) := by decide +kernel
theorem dX8_mayGo_30 : decode cX8_mayGo 30 = .ok (.iconst 1, 1) := by decide +kernel
theorem dX8_mayGo_31 : decode cX8_mayGo 31 = .ok (.goto 4, 3) := by decide +kernel
theorem dX8_mayGo_34 : decode cX8_mayGo 34 = .ok (.iconst 0, 1) := by decide +kernel
theorem dX8_mayGo_35 : decode cX8_mayGo 35 = .ok (.ireturn, 1) := by decide +kernel
theorem dX8_goesBy_0 : decode cX8_goesBy 0 = .ok (.iconst 0, 1) := by decide +kernel
theorem dX8_goesBy_1 : decode cX8_goesBy 1 = .ok (.istore_n 1, 1) := by decide +kernel
theorem dX8_goesBy_2 : decode cX8_goesBy 2 = .ok (.iload_n 1, 1) := by decide +kernel
theorem dX8_goesBy_3 : decode cX8_goesBy 3 = .ok (.aload_n 0, 1) := by decide +kernel
theorem dX8_goesBy_4 : decode cX8_goesBy 4 = .ok (.getfield 86, 3) := by decide +kernel
theorem dX8_goesBy_7 : decode cX8_goesBy 7 = .ok (.if_icmp .ge 105, 3) := by decide +kernel
theorem dX8_goesBy_10 : decode cX8_goesBy 10 = .ok (.aload_n 0, 1) := by decide +kernel
theorem dX8_goesBy_11 : decode cX8_goesBy 11 = .ok (.getfield 19, 3) := by decide +kernel
theorem dX8_goesBy_14 : decode cX8_goesBy 14 = .ok (.iconst 2, 1) := by decide +kernel
theorem dX8_goesBy_15 : decode cX8_goesBy 15 = .ok (.bipush 6, 2) := by decide +kernel
theorem dX8_goesBy_17 : decode cX8_goesBy 17 = .ok (.iload_n 1, 1) := by decide +kernel
theorem dX8_goesBy_18 : decode cX8_goesBy 18 = .ok (.imul, 1) := by decide +kernel
theorem dX8_goesBy_19 : decode cX8_goesBy 19 = .ok (.iadd, 1) := by decide +kernel
theorem dX8_goesBy_20 : decode cX8_goesBy 20 = .ok (.iconst 5, 1) := by decide +kernel
theorem dX8_goesBy_21 : decode cX8_goesBy 21 = .ok (.iadd, 1) := by decide +kernel
theorem dX8_goesBy_22 : decode cX8_goesBy 22 = .ok (.iaload, 1) := by decide +kernel
theorem dX8_goesBy_23 : decode cX8_goesBy 23 = .ok (.istore_n 2, 1) := by decide +kernel
theorem dX8_goesBy_24 : decode cX8_goesBy 24 = .ok (.aload_n 0, 1) := by decide +kernel
theorem dX8_goesBy_25 : decode cX8_goesBy 25 = .ok (.iload_n 1, 1) := by decide +kernel
theorem dX8_goesBy_26 : decode cX8_goesBy 26 = .ok (.invokevirtual 223, 3) := by decide +kernel
theorem dX8_goesBy_29 : decode cX8_goesBy 29 = .ok (.istore_n 3, 1) := by decide +kernel
theorem dX8_goesBy_30 : decode cX8_goesBy 30 = .ok (.aload_n 0, 1) := by decide +kernel
theorem dX8_goesBy_31 : decode cX8_goesBy 31 = .ok (.iload_n 3, 1) := by decide +kernel
theorem dX8_goesBy_32 : decode cX8_goesBy 32 = .ok (.iload_n 2, 1) := by decide +kernel
theorem dX8_goesBy_33 : decode cX8_goesBy 33 = .ok (.aload_n 0, 1) := by decide +kernel
theorem dX8_goesBy_34 : decode cX8_goesBy 34 = .ok (.getfield 19, 3) := by decide +kernel
theorem dX8_goesBy_37 : decode cX8_goesBy 37 = .ok (.iconst 2, 1) := by decide +kernel
theorem dX8_goesBy_38 : decode cX8_goesBy 38 = .ok (.bipush 6, 2) := by decide +kernel
theorem dX8_goesBy_40 : decode cX8_goesBy 40 = .ok (.iload_n 1, 1) := by decide +kernel
theorem dX8_goesBy_41 : decode cX8_goesBy 41 = .ok (.imul, 1) := by decide +kernel
theorem dX8_goesBy_42 : decode cX8_goesBy 42 = .ok (.iadd, 1) := by decide +kernel
theorem dX8_goesBy_43 : decode cX8_goesBy 43 = .ok (.iconst 2, 1) := by decide +kernel
theorem dX8_goesBy_44 : decode cX8_goesBy 44 = .ok (.iadd, 1) := by decide +kernel
theorem dX8_goesBy_45 : decode cX8_goesBy 45 = .ok (.iaload, 1) := by decide +kernel
theorem dX8_goesBy_46 : decode cX8_goesBy 46 = .ok (.aload_n 0, 1) := by decide +kernel
theorem dX8_goesBy_47 : decode cX8_goesBy 47 = .ok (.getfield 19, 3) := by decide +kernel
theorem dX8_goesBy_50 : decode cX8_goesBy 50 = .ok (.iconst 0, 1) := by decide +kernel
theorem dX8_goesBy_51 : decode cX8_goesBy 51 = .ok (.iaload, 1) := by decide +kernel
theorem dX8_goesBy_52 : decode cX8_goesBy 52 = .ok (.iconst 1, 1) := by decide +kernel
theorem dX8_goesBy_53 : decode cX8_goesBy 53 = .ok (.iadd, 1) := by decide +kernel
theorem dX8_goesBy_54 : decode cX8_goesBy 54 = .ok (.invokevirtual 237, 3) := by decide +kernel
theorem dX8_goesBy_57 : decode cX8_goesBy 57 = .ok (.ifCond .eq 49, 3) := by decide +kernel
theorem dX8_goesBy_60 : decode cX8_goesBy 60 = .ok (.aload_n 0, 1) := by decide +kernel
theorem dX8_goesBy_61 : decode cX8_goesBy 61 = .ok (.iload_n 3, 1) := by decide +kernel
theorem dX8_goesBy_62 : decode cX8_goesBy 62 = .ok (.iload_n 2, 1) := by decide +kernel
theorem dX8_goesBy_63 : decode cX8_goesBy 63 = .ok (.invokevirtual 231, 3) := by decide +kernel
theorem dX8_goesBy_66 : decode cX8_goesBy 66 = .ok (.istore 4, 2) := by decide +kernel
theorem dX8_goesBy_68 : decode cX8_goesBy 68 = .ok (.aload_n 0, 1) := by decide +kernel
theorem dX8_goesBy_69 : decode cX8_goesBy 69 = .ok (.getfield 19, 3) := by decide +kernel
theorem dX8_goesBy_72 : decode cX8_goesBy 72 = .ok (.iconst 2, 1) := by decide +kernel
theorem dX8_goesBy_73 : decode cX8_goesBy 73 = .ok (.bipush 6, 2) := by decide +kernel
theorem dX8_goesBy_75 : decode cX8_goesBy 75 = .ok (.iload_n 1, 1) := by decide +kernel
theorem dX8_goesBy_76 : decode cX8_goesBy 76 = .ok (.imul, 1) := by decide +kernel
theorem dX8_goesBy_77 : decode cX8_goesBy 77 = .ok (.iadd, 1) := by decide +kernel
theorem dX8_goesBy_78 : decode cX8_goesBy 78 = .ok (.iload 4, 2) := by decide +kernel
theorem dX8_goesBy_80 : decode cX8_goesBy 80 = .ok (.aload_n 0, 1) := by decide +kernel
theorem dX8_goesBy_81 : decode cX8_goesBy 81 = .ok (.getfield 76, 3) := by decide +kernel
theorem dX8_goesBy_84 : decode cX8_goesBy 84 = .ok (.irem, 1) := by decide +kernel
theorem dX8_goesBy_85 : decode cX8_goesBy 85 = .ok (.iastore, 1) := by decide +kernel
theorem dX8_goesBy_86 : decode cX8_goesBy 86 = .ok (.aload_n 0, 1) := by decide +kernel
theorem dX8_goesBy_87 : decode cX8_goesBy 87 = .ok (.getfield 19, 3) := by decide +kernel
theorem dX8_goesBy_90 : decode cX8_goesBy 90 = .ok (.iconst 2, 1) := by decide +kernel
theorem dX8_goesBy_91 : decode cX8_goesBy 91 = .ok (.bipush 6, 2) := by decide +kernel
theorem dX8_goesBy_93 : decode cX8_goesBy 93 = .ok (.iload_n 1, 1) := by decide +kernel
theorem dX8_goesBy_94 : decode cX8_goesBy 94 = .ok (.imul, 1) := by decide +kernel
theorem dX8_goesBy_95 : decode cX8_goesBy 95 = .ok (.iadd, 1) := by decide +kernel
theorem dX8_goesBy_96 : decode cX8_goesBy 96 = .ok (.iconst 1, 1) := by decide +kernel
theorem dX8_goesBy_97 : decode cX8_goesBy 97 = .ok (.iadd, 1) := by decide +kernel
theorem dX8_goesBy_98 : decode cX8_goesBy 98 = .ok (.iload 4, 2) := by decide +kernel
theorem dX8_goesBy_100 : decode cX8_goesBy 100 = .ok (.aload_n 0, 1) := by decide +kernel
theorem dX8_goesBy_101 : decode cX8_goesBy 101 = .ok (.getfield 76, 3) := by decide +kernel
theorem dX8_goesBy_104 : decode cX8_goesBy 104 = .ok (.idiv, 1) := by decide +kernel
theorem dX8_goesBy_105 : decode cX8_goesBy 105 = .ok (.iastore, 1) := by decide +kernel
theorem dX8_goesBy_106 : decode cX8_goesBy 106 = .ok (.iinc 1 1, 3) := by decide +kernel
theorem dX8_goesBy_109 : decode cX8_goesBy 109 = .ok (.goto (-107), 3) := by decide +kernel
theorem dX8_goesBy_112 : decode cX8_goesBy 112 = .ok (.aload_n 0, 1) := by decide +kernel
theorem dX8_goesBy_113 : decode cX8_goesBy 113 = .ok (.getfield 19, 3) := by decide +kernel
theorem dX8_goesBy_116 : decode cX8_goesBy 116 = .ok (.iconst 0, 1) := by decide +kernel
theorem dX8_goesBy_117 : decode cX8_goesBy 117 = .ok (.dup2, 1) := by decide +kernel
theorem dX8_goesBy_118 : decode cX8_goesBy 118 = .ok (.iaload, 1) := by decide +kernel
theorem dX8_goesBy_119 : decode cX8_goesBy 119 = .ok (.iconst 1, 1) := by decide +kernel
theorem dX8_goesBy_120 : decode cX8_goesBy 120 = .ok (.iadd, 1) := by decide +kernel
theorem dX8_goesBy_121 : decode cX8_goesBy 121 = .ok (.iastore, 1) := by decide +kernel
theorem dX8_goesBy_122 : decode cX8_goesBy 122 = .ok (.aload_n 0, 1) := by decide +kernel
theorem dX8_goesBy_123 : decode cX8_goesBy 123 = .ok (.invokevirtual 220, 3) := by decide +kernel
theorem dX8_goesBy_126 : decode cX8_goesBy 126 = .ok (.iconst 0, 1) := by decide +kernel
theorem dX8_goesBy_127 : decode cX8_goesBy 127 = .ok (.istore_n 1, 1) := by decide +kernel
theorem dX8_goesBy_128 : decode cX8_goesBy 128 = .ok (.iload_n 1, 1) := by decide +kernel
theorem dX8_goesBy_129 : decode cX8_goesBy 129 = .ok (.aload_n 0, 1) := by decide +kernel
theorem dX8_goesBy_130 : decode cX8_goesBy 130 = .ok (.getfield 86, 3) := by decide +kernel
theorem dX8_goesBy_133 : decode cX8_goesBy 133 = .ok (.if_icmp .ge 38, 3) := by decide +kernel
theorem dX8_goesBy_136 : decode cX8_goesBy 136 = .ok (.aload_n 0, 1) := by decide +kernel
theorem dX8_goesBy_137 : decode cX8_goesBy 137 = .ok (.getfield 19, 3) := by decide +kernel
theorem dX8_goesBy_140 : decode cX8_goesBy 140 = .ok (.iconst 2, 1) := by decide +kernel
theorem dX8_goesBy_141 : decode cX8_goesBy 141 = .ok (.bipush 6, 2) := by decide +kernel
theorem dX8_goesBy_143 : decode cX8_goesBy 143 = .ok (.iload_n 1, 1) := by decide +kernel
theorem dX8_goesBy_144 : decode cX8_goesBy 144 = .ok (.imul, 1) := by decide +kernel
theorem dX8_goesBy_145 : decode cX8_goesBy 145 = .ok (.iadd, 1) := by decide +kernel
theorem dX8_goesBy_146 : decode cX8_goesBy 146 = .ok (.iconst 4, 1) := by decide +kernel
theorem dX8_goesBy_147 : decode cX8_goesBy 147 = .ok (.iadd, 1) := by decide +kernel
theorem dX8_goesBy_148 : decode cX8_goesBy 148 = .ok (.dup2, 1) := by decide +kernel
theorem dX8_goesBy_149 : decode cX8_goesBy 149 = .ok (.iaload, 1) := by decide +kernel
theorem dX8_goesBy_150 : decode cX8_goesBy 150 = .ok (.aload_n 0, 1) := by decide +kernel
theorem dX8_goesBy_151 : decode cX8_goesBy 151 = .ok (.iload_n 1, 1) := by decide +kernel
theorem dX8_goesBy_152 : decode cX8_goesBy 152 = .ok (.invokevirtual 241, 3) := by decide +kernel
theorem dX8_goesBy_155 : decode cX8_goesBy 155 = .ok (.ifCond .eq 7, 3) := by decide +kernel
theorem dX8_goesBy_158 : decode cX8_goesBy 158 = .ok (.iconst 1, 1) := by decide +kernel
theorem dX8_goesBy_159 : decode cX8_goesBy 159 = .ok (.goto 4, 3) := by decide +kernel
theorem dX8_goesBy_162 : decode cX8_goesBy 162 = .ok (.iconst 0, 1) := by decide +kernel
theorem dX8_goesBy_163 : decode cX8_goesBy 163 = .ok (.iadd, 1) := by decide +kernel
theorem dX8_goesBy_164 : decode cX8_goesBy 164 = .ok (.iastore, 1) := by decide +kernel
theorem dX8_goesBy_165 : decode cX8_goesBy 165 = .ok (.iinc 1 1, 3) := by decide +kernel
theorem dX8_goesBy_168 : decode cX8_goesBy 168 = .ok (.goto (-40), 3) := by decide +kernel
theorem dX8_goesBy_171 : decode cX8_goesBy 171 = .ok (.return_, 1) := by decide +kernel
theorem dX8_isWet_0 : decode cX8_isWet 0 = .ok (.aload_n 0, 1) := by decide +kernel
theorem dX8_isWet_1 : decode cX8_isWet 1 = .ok (.aload_n 0, 1) := by decide +kernel
theorem dX8_isWet_2 : decode cX8_isWet 2 = .ok (.iload_n 1, 1) := by decide +kernel
theorem dX8_isWet_3 : decode cX8_isWet 3 = .ok (.invokevirtual 223, 3) := by decide +kernel
theorem dX8_isWet_6 : decode cX8_isWet 6 = .ok (.aload_n 0, 1) := by decide +kernel
theorem dX8_isWet_7 : decode cX8_isWet 7 = .ok (.getfield 19, 3) := by decide +kernel
theorem dX8_isWet_10 : decode cX8_isWet 10 = .ok (.iconst 0, 1) := by decide +kernel
theorem dX8_isWet_11 : decode cX8_isWet 11 = .ok (.iaload, 1) := by decide +kernel
theorem dX8_isWet_12 : decode cX8_isWet 12 = .ok (.invokevirtual 234, 3) := by decide +kernel
theorem dX8_isWet_15 : decode cX8_isWet 15 = .ok (.aload_n 0, 1) := by decide +kernel
theorem dX8_isWet_16 : decode cX8_isWet 16 = .ok (.getfield 19, 3) := by decide +kernel
theorem dX8_isWet_19 : decode cX8_isWet 19 = .ok (.iconst 2, 1) := by decide +kernel
theorem dX8_isWet_20 : decode cX8_isWet 20 = .ok (.bipush 6, 2) := by decide +kernel
theorem dX8_isWet_22 : decode cX8_isWet 22 = .ok (.iload_n 1, 1) := by decide +kernel
theorem dX8_isWet_23 : decode cX8_isWet 23 = .ok (.imul, 1) := by decide +kernel
theorem dX8_isWet_24 : decode cX8_isWet 24 = .ok (.iadd, 1) := by decide +kernel
theorem dX8_isWet_25 : decode cX8_isWet 25 = .ok (.iconst 2, 1) := by decide +kernel
theorem dX8_isWet_26 : decode cX8_isWet 26 = .ok (.iadd, 1) := by decide +kernel
theorem dX8_isWet_27 : decode cX8_isWet 27 = .ok (.iaload, 1) := by decide +kernel
theorem dX8_isWet_28 : decode cX8_isWet 28 = .ok (.if_icmp .le 7, 3) := by decide +kernel
theorem dX8_isWet_31 : decode cX8_isWet 31 = .ok (.iconst 1, 1) := by decide +kernel
theorem dX8_isWet_32 : decode cX8_isWet 32 = .ok (.goto 4, 3) := by decide +kernel
theorem dX8_isWet_35 : decode cX8_isWet 35 = .ok (.iconst 0, 1) := by decide +kernel
theorem dX8_isWet_36 : decode cX8_isWet 36 = .ok (.ireturn, 1) := by decide +kernel
theorem dX8_told_0 : decode cX8_told 0 = .ok (.iload_n 1, 1) := by decide +kernel
theorem dX8_told_1 : decode cX8_told 1 = .ok (.i2l, 1) := by decide +kernel
theorem dX8_told_2 : decode cX8_told 2 = .ok (.lconst 0, 1) := by decide +kernel
theorem dX8_told_3 : decode cX8_told 3 = .ok (.ldc2_w 244, 3) := by decide +kernel
theorem dX8_told_6 : decode cX8_told 6 = .ok (.invokestatic 79, 3) := by decide +kernel
theorem dX8_told_9 : decode cX8_told 9 = .ok (.ifCond .ne 6, 3) := by decide +kernel
theorem dX8_told_12 : decode cX8_told 12 = .ok (.ldc 94, 2) := by decide +kernel
theorem dX8_told_14 : decode cX8_told 14 = .ok (.ireturn, 1) := by decide +kernel
theorem dX8_told_15 : decode cX8_told 15 = .ok (.iconst 0, 1) := by decide +kernel
theorem dX8_told_16 : decode cX8_told 16 = .ok (.istore_n 2, 1) := by decide +kernel
theorem dX8_told_17 : decode cX8_told 17 = .ok (.iconst 0, 1) := by decide +kernel
theorem dX8_told_18 : decode cX8_told 18 = .ok (.istore_n 3, 1) := by decide +kernel
theorem dX8_told_19 : decode cX8_told 19 = .ok (.iload_n 3, 1) := by decide +kernel
theorem dX8_told_20 : decode cX8_told 20 = .ok (.aload_n 0, 1) := by decide +kernel
theorem dX8_told_21 : decode cX8_told 21 = .ok (.getfield 86, 3) := by decide +kernel
theorem dX8_told_24 : decode cX8_told 24 = .ok (.if_icmp .ge 41, 3) := by decide +kernel
theorem dX8_told_27 : decode cX8_told 27 = .ok (.iload_n 2, 1) := by decide +kernel
theorem dX8_told_28 : decode cX8_told 28 = .ok (.aload_n 0, 1) := by decide +kernel
theorem dX8_told_29 : decode cX8_told 29 = .ok (.iload_n 3, 1) := by decide +kernel
theorem dX8_told_30 : decode cX8_told 30 = .ok (.invokevirtual 223, 3) := by decide +kernel
theorem dX8_told_33 : decode cX8_told 33 = .ok (.aload_n 0, 1) := by decide +kernel
theorem dX8_told_34 : decode cX8_told 34 = .ok (.getfield 211, 3) := by decide +kernel
theorem dX8_told_37 : decode cX8_told 37 = .ok (.if_icmp .ne 19, 3) := by decide +kernel
theorem dX8_told_40 : decode cX8_told 40 = .ok (.aload_n 0, 1) := by decide +kernel
theorem dX8_told_41 : decode cX8_told 41 = .ok (.getfield 19, 3) := by decide +kernel
theorem dX8_told_44 : decode cX8_told 44 = .ok (.iconst 2, 1) := by decide +kernel
theorem dX8_told_45 : decode cX8_told 45 = .ok (.bipush 6, 2) := by decide +kernel
theorem dX8_told_47 : decode cX8_told 47 = .ok (.iload_n 3, 1) := by decide +kernel
theorem dX8_told_48 : decode cX8_told 48 = .ok (.imul, 1) := by decide +kernel
theorem dX8_told_49 : decode cX8_told 49 = .ok (.iadd, 1) := by decide +kernel
theorem dX8_told_50 : decode cX8_told 50 = .ok (.iconst 3, 1) := by decide +kernel
theorem dX8_told_51 : decode cX8_told 51 = .ok (.iadd, 1) := by decide +kernel
theorem dX8_told_52 : decode cX8_told 52 = .ok (.iaload, 1) := by decide +kernel
theorem dX8_told_53 : decode cX8_told 53 = .ok (.goto 4, 3) := by decide +kernel
theorem dX8_told_56 : decode cX8_told 56 = .ok (.iconst 0, 1) := by decide +kernel
theorem dX8_told_57 : decode cX8_told 57 = .ok (.ior, 1) := by decide +kernel
theorem dX8_told_58 : decode cX8_told 58 = .ok (.istore_n 2, 1) := by decide +kernel
theorem dX8_told_59 : decode cX8_told 59 = .ok (.iinc 3 1, 3) := by decide +kernel
theorem dX8_told_62 : decode cX8_told 62 = .ok (.goto (-43), 3) := by decide +kernel
theorem dX8_told_65 : decode cX8_told 65 = .ok (.iload_n 1, 1) := by decide +kernel
theorem dX8_told_66 : decode cX8_told 66 = .ok (.ifCond .ne 10, 3) := by decide +kernel
theorem dX8_told_69 : decode cX8_told 69 = .ok (.aload_n 0, 1) := by decide +kernel
theorem dX8_told_70 : decode cX8_told 70 = .ok (.getfield 76, 3) := by decide +kernel
theorem dX8_told_73 : decode cX8_told 73 = .ok (.goto 43, 3) := by decide +kernel
theorem dX8_told_76 : decode cX8_told 76 = .ok (.iload_n 1, 1) := by decide +kernel
theorem dX8_told_77 : decode cX8_told 77 = .ok (.iconst 1, 1) := by decide +kernel
theorem dX8_told_78 : decode cX8_told 78 = .ok (.if_icmp .ne 10, 3) := by decide +kernel
theorem dX8_told_81 : decode cX8_told 81 = .ok (.aload_n 0, 1) := by decide +kernel
theorem dX8_told_82 : decode cX8_told 82 = .ok (.getfield 83, 3) := by decide +kernel
theorem dX8_told_85 : decode cX8_told 85 = .ok (.goto 31, 3) := by decide +kernel
theorem dX8_told_88 : decode cX8_told 88 = .ok (.iload_n 1, 1) := by decide +kernel
theorem dX8_told_89 : decode cX8_told 89 = .ok (.iconst 2, 1) := by decide +kernel
theorem dX8_told_90 : decode cX8_told 90 = .ok (.if_icmp .ne 10, 3) := by decide +kernel
theorem dX8_told_93 : decode cX8_told 93 = .ok (.aload_n 0, 1) := by decide +kernel
theorem dX8_told_94 : decode cX8_told 94 = .ok (.getfield 69, 3) := by decide +kernel
theorem dX8_told_97 : decode cX8_told 97 = .ok (.goto 19, 3) := by decide +kernel
theorem dX8_told_100 : decode cX8_told 100 = .ok (.iload_n 1, 1) := by decide +kernel
theorem dX8_told_101 : decode cX8_told 101 = .ok (.iconst 3, 1) := by decide +kernel
theorem dX8_told_102 : decode cX8_told 102 = .ok (.if_icmp .ne 10, 3) := by decide +kernel
theorem dX8_told_105 : decode cX8_told 105 = .ok (.aload_n 0, 1) := by decide +kernel
theorem dX8_told_106 : decode cX8_told 106 = .ok (.getfield 86, 3) := by decide +kernel
theorem dX8_told_109 : decode cX8_told 109 = .ok (.goto 7, 3) := by decide +kernel
theorem dX8_told_112 : decode cX8_told 112 = .ok (.aload_n 0, 1) := by decide +kernel
theorem dX8_told_113 : decode cX8_told 113 = .ok (.getfield 89, 3) := by decide +kernel
theorem dX8_told_116 : decode cX8_told 116 = .ok (.istore_n 3, 1) := by decide +kernel
theorem dX8_told_117 : decode cX8_told 117 = .ok (.iload_n 1, 1) := by decide +kernel
theorem dX8_told_118 : decode cX8_told 118 = .ok (.bipush 7, 2) := by decide +kernel
theorem dX8_told_120 : decode cX8_told 120 = .ok (.if_icmp .ne 25, 3) := by decide +kernel
theorem dX8_told_123 : decode cX8_told 123 = .ok (.aload_n 0, 1) := by decide +kernel
theorem dX8_told_124 : decode cX8_told 124 = .ok (.getfield 76, 3) := by decide +kernel
theorem dX8_told_127 : decode cX8_told 127 = .ok (.ifCond .ne 7, 3) := by decide +kernel
theorem dX8_told_130 : decode cX8_told 130 = .ok (.iconst 0, 1) := by decide +kernel
theorem dX8_told_131 : decode cX8_told 131 = .ok (.goto 41, 3) := by decide +kernel
theorem dX8_told_134 : decode cX8_told 134 = .ok (.aload_n 0, 1) := by decide +kernel
theorem dX8_told_135 : decode cX8_told 135 = .ok (.aload_n 0, 1) := by decide +kernel
theorem dX8_told_136 : decode cX8_told 136 = .ok (.getfield 211, 3) := by decide +kernel
theorem dX8_told_139 : decode cX8_told 139 = .ok (.invokevirtual 246, 3) := by decide +kernel
theorem dX8_told_142 : decode cX8_told 142 = .ok (.goto 30, 3) := by decide +kernel
theorem dX8_told_145 : decode cX8_told 145 = .ok (.iload_n 1, 1) := by decide +kernel
theorem dX8_told_146 : decode cX8_told 146 = .ok (.bipush 8, 2) := by decide +kernel
theorem dX8_told_148 : decode cX8_told 148 = .ok (.if_icmp .ne 10, 3) := by decide +kernel
theorem dX8_told_151 : decode cX8_told 151 = .ok (.aload_n 0, 1) := by decide +kernel
theorem dX8_told_152 : decode cX8_told 152 = .ok (.getfield 214, 3) := by decide +kernel
theorem dX8_told_155 : decode cX8_told 155 = .ok (.goto 17, 3) := by decide +kernel
theorem dX8_told_158 : decode cX8_told 158 = .ok (.iload_n 1, 1) := by decide +kernel
theorem dX8_told_159 : decode cX8_told 159 = .ok (.bipush 9, 2) := by decide +kernel
theorem dX8_told_161 : decode cX8_told 161 = .ok (.if_icmp .ne 10, 3) := by decide +kernel
theorem dX8_told_164 : decode cX8_told 164 = .ok (.aload_n 0, 1) := by decide +kernel
theorem dX8_told_165 : decode cX8_told 165 = .ok (.getfield 217, 3) := by decide +kernel
theorem dX8_told_168 : decode cX8_told 168 = .ok (.goto 4, 3) := by decide +kernel
theorem dX8_told_171 : decode cX8_told 171 = .ok (.iload_n 2, 1) := by decide +kernel
theorem dX8_told_172 : decode cX8_told 172 = .ok (.istore 4, 2) := by decide +kernel
theorem dX8_told_174 : decode cX8_told 174 = .ok (.iload_n 1, 1) := by decide +kernel
theorem dX8_told_175 : decode cX8_told 175 = .ok (.iconst 5, 1) := by decide +kernel
theorem dX8_told_176 : decode cX8_told 176 = .ok (.if_icmp .ge 7, 3) := by decide +kernel
theorem dX8_told_179 : decode cX8_told 179 = .ok (.iload_n 3, 1) := by decide +kernel
theorem dX8_told_180 : decode cX8_told 180 = .ok (.goto 32, 3) := by decide +kernel
theorem dX8_told_183 : decode cX8_told 183 = .ok (.iload_n 1, 1) := by decide +kernel
theorem dX8_told_184 : decode cX8_told 184 = .ok (.iconst 5, 1) := by decide +kernel
theorem dX8_told_185 : decode cX8_told 185 = .ok (.if_icmp .ne 10, 3) := by decide +kernel
theorem dX8_told_188 : decode cX8_told 188 = .ok (.aload_n 0, 1) := by decide +kernel
theorem dX8_told_189 : decode cX8_told 189 = .ok (.getfield 95, 3) := by decide +kernel
theorem dX8_told_192 : decode cX8_told 192 = .ok (.goto 20, 3) := by decide +kernel
theorem dX8_told_195 : decode cX8_told 195 = .ok (.iload_n 1, 1) := by decide +kernel
theorem dX8_told_196 : decode cX8_told 196 = .ok (.bipush 6, 2) := by decide +kernel
theorem dX8_told_198 : decode cX8_told 198 = .ok (.if_icmp .ne 12, 3) := by decide +kernel
theorem dX8_told_201 : decode cX8_told 201 = .ok (.aload_n 0, 1) := by decide +kernel
theorem dX8_told_202 : decode cX8_told 202 = .ok (.getfield 19, 3) := by decide +kernel
theorem dX8_told_205 : decode cX8_told 205 = .ok (.iconst 0, 1) := by decide +kernel
theorem dX8_told_206 : decode cX8_told 206 = .ok (.iaload, 1) := by decide +kernel
theorem dX8_told_207 : decode cX8_told 207 = .ok (.goto 5, 3) := by decide +kernel
theorem dX8_told_210 : decode cX8_told 210 = .ok (.iload 4, 2) := by decide +kernel
theorem dX8_told_212 : decode cX8_told 212 = .ok (.ireturn, 1) := by decide +kernel
theorem dX8_depth_0 : decode cX8_depth 0 = .ok (.aload_n 0, 1) := by decide +kernel
theorem dX8_depth_1 : decode cX8_depth 1 = .ok (.iload_n 1, 1) := by decide +kernel
theorem dX8_depth_2 : decode cX8_depth 2 = .ok (.iload_n 2, 1) := by decide +kernel
theorem dX8_depth_3 : decode cX8_depth 3 = .ok (.invokevirtual 227, 3) := by decide +kernel
theorem dX8_depth_6 : decode cX8_depth 6 = .ok (.iconst (-1), 1) := by decide +kernel
theorem dX8_depth_7 : decode cX8_depth 7 = .ok (.if_icmp .ne 6, 3) := by decide +kernel
theorem dX8_depth_10 : decode cX8_depth 10 = .ok (.ldc 249, 2) := by decide +kernel
theorem dX8_depth_12 : decode cX8_depth 12 = .ok (.ireturn, 1) := by decide +kernel
theorem dX8_depth_13 : decode cX8_depth 13 = .ok (.iload_n 3, 1) := by decide +kernel
theorem dX8_depth_14 : decode cX8_depth 14 = .ok (.i2l, 1) := by decide +kernel
theorem dX8_depth_15 : decode cX8_depth 15 = .ok (.lconst 0, 1) := by decide +kernel
theorem dX8_depth_16 : decode cX8_depth 16 = .ok (.ldc2_w 250, 3) := by decide +kernel
theorem dX8_depth_19 : decode cX8_depth 19 = .ok (.invokestatic 79, 3) := by decide +kernel
theorem dX8_depth_22 : decode cX8_depth 22 = .ok (.ifCond .eq 24, 3) := by decide +kernel
theorem dX8_depth_25 : decode cX8_depth 25 = .ok (.aload_n 0, 1) := by decide +kernel
theorem dX8_depth_26 : decode cX8_depth 26 = .ok (.aload_n 0, 1) := by decide +kernel
theorem dX8_depth_27 : decode cX8_depth 27 = .ok (.iload_n 1, 1) := by decide +kernel
theorem dX8_depth_28 : decode cX8_depth 28 = .ok (.iload_n 2, 1) := by decide +kernel
theorem dX8_depth_29 : decode cX8_depth 29 = .ok (.invokevirtual 227, 3) := by decide +kernel
theorem dX8_depth_32 : decode cX8_depth 32 = .ok (.aload_n 0, 1) := by decide +kernel
theorem dX8_depth_33 : decode cX8_depth 33 = .ok (.getfield 19, 3) := by decide +kernel
theorem dX8_depth_36 : decode cX8_depth 36 = .ok (.iconst 0, 1) := by decide +kernel
theorem dX8_depth_37 : decode cX8_depth 37 = .ok (.iaload, 1) := by decide +kernel
theorem dX8_depth_38 : decode cX8_depth 38 = .ok (.iload_n 3, 1) := by decide +kernel
theorem dX8_depth_39 : decode cX8_depth 39 = .ok (.iadd, 1) := by decide +kernel
theorem dX8_depth_40 : decode cX8_depth 40 = .ok (.invokevirtual 234, 3) := by decide +kernel
theorem dX8_depth_43 : decode cX8_depth 43 = .ok (.goto 5, 3) := by decide +kernel
theorem dX8_depth_46 : decode cX8_depth 46 = .ok (.ldc 94, 2) := by decide +kernel
theorem dX8_depth_48 : decode cX8_depth 48 = .ok (.ireturn, 1) := by decide +kernel
theorem dX8_man_0 : decode cX8_man 0 = .ok (.aload_n 0, 1) := by decide +kernel
theorem dX8_man_1 : decode cX8_man 1 = .ok (.iload_n 1, 1) := by decide +kernel
theorem dX8_man_2 : decode cX8_man 2 = .ok (.invokevirtual 252, 3) := by decide +kernel
theorem dX8_man_5 : decode cX8_man 5 = .ok (.ifCond .ne 6, 3) := by decide +kernel
theorem dX8_man_8 : decode cX8_man 8 = .ok (.ldc 249, 2) := by decide +kernel
theorem dX8_man_10 : decode cX8_man 10 = .ok (.ireturn, 1) := by decide +kernel
theorem dX8_man_11 : decode cX8_man 11 = .ok (.iload_n 2, 1) := by decide +kernel
theorem dX8_man_12 : decode cX8_man 12 = .ok (.i2l, 1) := by decide +kernel
theorem dX8_man_13 : decode cX8_man 13 = .ok (.lconst 0, 1) := by decide +kernel
theorem dX8_man_14 : decode cX8_man 14 = .ok (.ldc2_w 255, 3) := by decide +kernel
theorem dX8_man_17 : decode cX8_man 17 = .ok (.invokestatic 79, 3) := by decide +kernel
theorem dX8_man_20 : decode cX8_man 20 = .ok (.ifCond .ne 6, 3) := by decide +kernel
theorem dX8_man_23 : decode cX8_man 23 = .ok (.ldc 94, 2) := by decide +kernel
theorem dX8_man_25 : decode cX8_man 25 = .ok (.ireturn, 1) := by decide +kernel
theorem dX8_man_26 : decode cX8_man 26 = .ok (.iload_n 2, 1) := by decide +kernel
theorem dX8_man_27 : decode cX8_man 27 = .ok (.iconst 5, 1) := by decide +kernel
theorem dX8_man_28 : decode cX8_man 28 = .ok (.if_icmp .ge 19, 3) := by decide +kernel
theorem dX8_man_31 : decode cX8_man 31 = .ok (.aload_n 0, 1) := by decide +kernel
theorem dX8_man_32 : decode cX8_man 32 = .ok (.getfield 19, 3) := by decide +kernel
theorem dX8_man_35 : decode cX8_man 35 = .ok (.iconst 2, 1) := by decide +kernel
theorem dX8_man_36 : decode cX8_man 36 = .ok (.bipush 6, 2) := by decide +kernel
theorem dX8_man_38 : decode cX8_man 38 = .ok (.iload_n 1, 1) := by decide +kernel
theorem dX8_man_39 : decode cX8_man 39 = .ok (.imul, 1) := by decide +kernel
theorem dX8_man_40 : decode cX8_man 40 = .ok (.iadd, 1) := by decide +kernel
theorem dX8_man_41 : decode cX8_man 41 = .ok (.iload_n 2, 1) := by decide +kernel
theorem dX8_man_42 : decode cX8_man 42 = .ok (.iadd, 1) := by decide +kernel
theorem dX8_man_43 : decode cX8_man 43 = .ok (.iaload, 1) := by decide +kernel
theorem dX8_man_44 : decode cX8_man 44 = .ok (.goto 37, 3) := by decide +kernel
theorem dX8_man_47 : decode cX8_man 47 = .ok (.iload_n 2, 1) := by decide +kernel
theorem dX8_man_48 : decode cX8_man 48 = .ok (.iconst 5, 1) := by decide +kernel
theorem dX8_man_49 : decode cX8_man 49 = .ok (.if_icmp .ne 19, 3) := by decide +kernel
theorem dX8_man_52 : decode cX8_man 52 = .ok (.aload_n 0, 1) := by decide +kernel
theorem dX8_man_53 : decode cX8_man 53 = .ok (.iload_n 1, 1) := by decide +kernel
theorem dX8_man_54 : decode cX8_man 54 = .ok (.invokevirtual 241, 3) := by decide +kernel
theorem dX8_man_57 : decode cX8_man 57 = .ok (.ifCond .eq 7, 3) := by decide +kernel
theorem dX8_man_60 : decode cX8_man 60 = .ok (.iconst 1, 1) := by decide +kernel
theorem dX8_man_61 : decode cX8_man 61 = .ok (.goto 20, 3) := by decide +kernel
theorem dX8_man_64 : decode cX8_man 64 = .ok (.iconst 0, 1) := by decide +kernel
theorem dX8_man_65 : decode cX8_man 65 = .ok (.goto 16, 3) := by decide +kernel
theorem dX8_man_68 : decode cX8_man 68 = .ok (.aload_n 0, 1) := by decide +kernel
theorem dX8_man_69 : decode cX8_man 69 = .ok (.getfield 19, 3) := by decide +kernel
theorem dX8_man_72 : decode cX8_man 72 = .ok (.iconst 2, 1) := by decide +kernel
theorem dX8_man_73 : decode cX8_man 73 = .ok (.bipush 6, 2) := by decide +kernel
theorem dX8_man_75 : decode cX8_man 75 = .ok (.iload_n 1, 1) := by decide +kernel
theorem dX8_man_76 : decode cX8_man 76 = .ok (.imul, 1) := by decide +kernel
theorem dX8_man_77 : decode cX8_man 77 = .ok (.iadd, 1) := by decide +kernel
theorem dX8_man_78 : decode cX8_man 78 = .ok (.iconst 5, 1) := by decide +kernel
theorem dX8_man_79 : decode cX8_man 79 = .ok (.iadd, 1) := by decide +kernel
theorem dX8_man_80 : decode cX8_man 80 = .ok (.iaload, 1) := by decide +kernel
theorem dX8_man_81 : decode cX8_man 81 = .ok (.ireturn, 1) := by decide +kernel
theorem dX8_order_0 : decode cX8_order 0 = .ok (.aload_n 0, 1) := by decide +kernel
theorem dX8_order_1 : decode cX8_order 1 = .ok (.iload_n 1, 1) := by decide +kernel
theorem dX8_order_2 : decode cX8_order 2 = .ok (.invokevirtual 252, 3) := by decide +kernel
theorem dX8_order_5 : decode cX8_order 5 = .ok (.ifCond .ne 6, 3) := by decide +kernel
theorem dX8_order_8 : decode cX8_order 8 = .ok (.ldc 249, 2) := by decide +kernel
theorem dX8_order_10 : decode cX8_order 10 = .ok (.ireturn, 1) := by decide +kernel
theorem dX8_order_11 : decode cX8_order 11 = .ok (.iload_n 2, 1) := by decide +kernel
theorem dX8_order_12 : decode cX8_order 12 = .ok (.i2l, 1) := by decide +kernel
theorem dX8_order_13 : decode cX8_order 13 = .ok (.lconst 0, 1) := by decide +kernel
theorem dX8_order_14 : decode cX8_order 14 = .ok (.ldc2_w 257, 3) := by decide +kernel
theorem dX8_order_17 : decode cX8_order 17 = .ok (.invokestatic 79, 3) := by decide +kernel
theorem dX8_order_20 : decode cX8_order 20 = .ok (.ifCond .ne 6, 3) := by decide +kernel
theorem dX8_order_23 : decode cX8_order 23 = .ok (.ldc 94, 2) := by decide +kernel
theorem dX8_order_25 : decode cX8_order 25 = .ok (.ireturn, 1) := by decide +kernel
theorem dX8_order_26 : decode cX8_order 26 = .ok (.aload_n 0, 1) := by decide +kernel
theorem dX8_order_27 : decode cX8_order 27 = .ok (.getfield 19, 3) := by decide +kernel
theorem dX8_order_30 : decode cX8_order 30 = .ok (.iconst 2, 1) := by decide +kernel
theorem dX8_order_31 : decode cX8_order 31 = .ok (.bipush 6, 2) := by decide +kernel
theorem dX8_order_33 : decode cX8_order 33 = .ok (.iload_n 1, 1) := by decide +kernel
theorem dX8_order_34 : decode cX8_order 34 = .ok (.imul, 1) := by decide +kernel
theorem dX8_order_35 : decode cX8_order 35 = .ok (.iadd, 1) := by decide +kernel
theorem dX8_order_36 : decode cX8_order 36 = .ok (.iconst 5, 1) := by decide +kernel
theorem dX8_order_37 : decode cX8_order 37 = .ok (.iadd, 1) := by decide +kernel
theorem dX8_order_38 : decode cX8_order 38 = .ok (.iaload, 1) := by decide +kernel
theorem dX8_order_39 : decode cX8_order 39 = .ok (.istore_n 3, 1) := by decide +kernel
theorem dX8_order_40 : decode cX8_order 40 = .ok (.aload_n 0, 1) := by decide +kernel
theorem dX8_order_41 : decode cX8_order 41 = .ok (.getfield 19, 3) := by decide +kernel
theorem dX8_order_44 : decode cX8_order 44 = .ok (.iconst 2, 1) := by decide +kernel
theorem dX8_order_45 : decode cX8_order 45 = .ok (.bipush 6, 2) := by decide +kernel
theorem dX8_order_47 : decode cX8_order 47 = .ok (.iload_n 1, 1) := by decide +kernel
theorem dX8_order_48 : decode cX8_order 48 = .ok (.imul, 1) := by decide +kernel
theorem dX8_order_49 : decode cX8_order 49 = .ok (.iadd, 1) := by decide +kernel
theorem dX8_order_50 : decode cX8_order 50 = .ok (.iconst 5, 1) := by decide +kernel
theorem dX8_order_51 : decode cX8_order 51 = .ok (.iadd, 1) := by decide +kernel
theorem dX8_order_52 : decode cX8_order 52 = .ok (.iload_n 2, 1) := by decide +kernel
theorem dX8_order_53 : decode cX8_order 53 = .ok (.iastore, 1) := by decide +kernel
theorem dX8_order_54 : decode cX8_order 54 = .ok (.iload_n 3, 1) := by decide +kernel
theorem dX8_order_55 : decode cX8_order 55 = .ok (.ireturn, 1) := by decide +kernel
theorem dX8_hour_0 : decode cX8_hour 0 = .ok (.iload_n 1, 1) := by decide +kernel
theorem dX8_hour_1 : decode cX8_hour 1 = .ok (.i2l, 1) := by decide +kernel
theorem dX8_hour_2 : decode cX8_hour 2 = .ok (.lconst 1, 1) := by decide +kernel
theorem dX8_hour_3 : decode cX8_hour 3 = .ok (.ldc2_w 250, 3) := by decide +kernel
theorem dX8_hour_6 : decode cX8_hour 6 = .ok (.invokestatic 79, 3) := by decide +kernel
theorem dX8_hour_9 : decode cX8_hour 9 = .ok (.ifCond .ne 6, 3) := by decide +kernel
theorem dX8_hour_12 : decode cX8_hour 12 = .ok (.ldc 94, 2) := by decide +kernel
theorem dX8_hour_14 : decode cX8_hour 14 = .ok (.ireturn, 1) := by decide +kernel
theorem dX8_hour_15 : decode cX8_hour 15 = .ok (.aload_n 0, 1) := by decide +kernel
theorem dX8_hour_16 : decode cX8_hour 16 = .ok (.getfield 76, 3) := by decide +kernel
theorem dX8_hour_19 : decode cX8_hour 19 = .ok (.ifCond .ne 7, 3) := by decide +kernel
theorem dX8_hour_22 : decode cX8_hour 22 = .ok (.ldc_w 259, 3) := by decide +kernel
theorem dX8_hour_25 : decode cX8_hour 25 = .ok (.ireturn, 1) := by decide +kernel
theorem dX8_hour_26 : decode cX8_hour 26 = .ok (.iconst 0, 1) := by decide +kernel
theorem dX8_hour_27 : decode cX8_hour 27 = .ok (.istore_n 2, 1) := by decide +kernel
theorem dX8_hour_28 : decode cX8_hour 28 = .ok (.iload_n 2, 1) := by decide +kernel
theorem dX8_hour_29 : decode cX8_hour 29 = .ok (.iload_n 1, 1) := by decide +kernel
theorem dX8_hour_30 : decode cX8_hour 30 = .ok (.if_icmp .ge 13, 3) := by decide +kernel
theorem dX8_hour_33 : decode cX8_hour 33 = .ok (.aload_n 0, 1) := by decide +kernel
theorem dX8_hour_34 : decode cX8_hour 34 = .ok (.invokevirtual 260, 3) := by decide +kernel
theorem dX8_hour_37 : decode cX8_hour 37 = .ok (.iinc 2 1, 3) := by decide +kernel
theorem dX8_hour_40 : decode cX8_hour 40 = .ok (.goto (-12), 3) := by decide +kernel
theorem dX8_hour_43 : decode cX8_hour 43 = .ok (.aload_n 0, 1) := by decide +kernel
theorem dX8_hour_44 : decode cX8_hour 44 = .ok (.getfield 19, 3) := by decide +kernel
theorem dX8_hour_47 : decode cX8_hour 47 = .ok (.iconst 0, 1) := by decide +kernel
theorem dX8_hour_48 : decode cX8_hour 48 = .ok (.iaload, 1) := by decide +kernel
theorem dX8_hour_49 : decode cX8_hour 49 = .ok (.ireturn, 1) := by decide +kernel
theorem dX8_drift_0 : decode cX8_drift 0 = .ok (.iload_n 1, 1) := by decide +kernel
theorem dX8_drift_1 : decode cX8_drift 1 = .ok (.i2l, 1) := by decide +kernel
theorem dX8_drift_2 : decode cX8_drift 2 = .ok (.lconst 1, 1) := by decide +kernel
theorem dX8_drift_3 : decode cX8_drift 3 = .ok (.ldc2_w 250, 3) := by decide +kernel
theorem dX8_drift_6 : decode cX8_drift 6 = .ok (.invokestatic 79, 3) := by decide +kernel
theorem dX8_drift_9 : decode cX8_drift 9 = .ok (.ifCond .ne 6, 3) := by decide +kernel
theorem dX8_drift_12 : decode cX8_drift 12 = .ok (.ldc 94, 2) := by decide +kernel
theorem dX8_drift_14 : decode cX8_drift 14 = .ok (.ireturn, 1) := by decide +kernel
theorem dX8_drift_15 : decode cX8_drift 15 = .ok (.aload_n 0, 1) := by decide +kernel
theorem dX8_drift_16 : decode cX8_drift 16 = .ok (.getfield 76, 3) := by decide +kernel
theorem dX8_drift_19 : decode cX8_drift 19 = .ok (.ifCond .ne 7, 3) := by decide +kernel
theorem dX8_drift_22 : decode cX8_drift 22 = .ok (.ldc_w 259, 3) := by decide +kernel
theorem dX8_drift_25 : decode cX8_drift 25 = .ok (.ireturn, 1) := by decide +kernel
theorem dX8_drift_26 : decode cX8_drift 26 = .ok (.iconst 0, 1) := by decide +kernel
theorem dX8_drift_27 : decode cX8_drift 27 = .ok (.istore_n 2, 1) := by decide +kernel
theorem dX8_drift_28 : decode cX8_drift 28 = .ok (.iload_n 2, 1) := by decide +kernel
theorem dX8_drift_29 : decode cX8_drift 29 = .ok (.iload_n 1, 1) := by decide +kernel
theorem dX8_drift_30 : decode cX8_drift 30 = .ok (.if_icmp .ge 80, 3) := by decide +kernel
theorem dX8_drift_33 : decode cX8_drift 33 = .ok (.iconst 0, 1) := by decide +kernel
theorem dX8_drift_34 : decode cX8_drift 34 = .ok (.istore_n 3, 1) := by decide +kernel
theorem dX8_drift_35 : decode cX8_drift 35 = .ok (.iload_n 3, 1) := by decide +kernel
theorem dX8_drift_36 : decode cX8_drift 36 = .ok (.aload_n 0, 1) := by decide +kernel
theorem dX8_drift_37 : decode cX8_drift 37 = .ok (.getfield 86, 3) := by decide +kernel
theorem dX8_drift_40 : decode cX8_drift 40 = .ok (.if_icmp .ge 60, 3) := by decide +kernel
theorem dX8_drift_43 : decode cX8_drift 43 = .ok (.aload_n 0, 1) := by decide +kernel
theorem dX8_drift_44 : decode cX8_drift 44 = .ok (.getfield 19, 3) := by decide +kernel
theorem dX8_drift_47 : decode cX8_drift 47 = .ok (.iconst 1, 1) := by decide +kernel
theorem dX8_drift_48 : decode cX8_drift 48 = .ok (.aload_n 0, 1) := by decide +kernel
theorem dX8_drift_49 : decode cX8_drift 49 = .ok (.getfield 19, 3) := by decide +kernel
theorem dX8_drift_52 : decode cX8_drift 52 = .ok (.iconst 1, 1) := by decide +kernel
theorem dX8_drift_53 : decode cX8_drift 53 = .ok (.iaload, 1) := by decide +kernel
theorem dX8_drift_54 : decode cX8_drift 54 = .ok (.i2l, 1) := by decide +kernel
theorem dX8_drift_55 : decode cX8_drift 55 = .ok (.ldc2_w 263, 3) := by decide +kernel
theorem dX8_drift_58 : decode cX8_drift 58 = .ok (.lmul, 1) := by decide +kernel
theorem dX8_drift_59 : decode cX8_drift 59 = .ok (.ldc2_w 265, 3) := by decide +kernel
theorem dX8_drift_62 : decode cX8_drift 62 = .ok (.ladd, 1) := by decide +kernel
theorem dX8_drift_63 : decode cX8_drift 63 = .ok (.ldc2_w 267, 3) := by decide +kernel
theorem dX8_drift_66 : decode cX8_drift 66 = .ok (.lrem, 1) := by decide +kernel
theorem dX8_drift_67 : decode cX8_drift 67 = .ok (.l2i, 1) := by decide +kernel
theorem dX8_drift_68 : decode cX8_drift 68 = .ok (.iastore, 1) := by decide +kernel
theorem dX8_drift_69 : decode cX8_drift 69 = .ok (.aload_n 0, 1) := by decide +kernel
theorem dX8_drift_70 : decode cX8_drift 70 = .ok (.getfield 19, 3) := by decide +kernel
theorem dX8_drift_73 : decode cX8_drift 73 = .ok (.iconst 2, 1) := by decide +kernel
theorem dX8_drift_74 : decode cX8_drift 74 = .ok (.bipush 6, 2) := by decide +kernel
theorem dX8_drift_76 : decode cX8_drift 76 = .ok (.iload_n 3, 1) := by decide +kernel
theorem dX8_drift_77 : decode cX8_drift 77 = .ok (.imul, 1) := by decide +kernel
theorem dX8_drift_78 : decode cX8_drift 78 = .ok (.iadd, 1) := by decide +kernel
theorem dX8_drift_79 : decode cX8_drift 79 = .ok (.iconst 5, 1) := by decide +kernel
theorem dX8_drift_80 : decode cX8_drift 80 = .ok (.iadd, 1) := by decide +kernel
theorem dX8_drift_81 : decode cX8_drift 81 = .ok (.aload_n 0, 1) := by decide +kernel
theorem dX8_drift_82 : decode cX8_drift 82 = .ok (.getfield 19, 3) := by decide +kernel
theorem dX8_drift_85 : decode cX8_drift 85 = .ok (.iconst 1, 1) := by decide +kernel
theorem dX8_drift_86 : decode cX8_drift 86 = .ok (.iaload, 1) := by decide +kernel
theorem dX8_drift_87 : decode cX8_drift 87 = .ok (.ldc_w 269, 3) := by decide +kernel
theorem dX8_drift_90 : decode cX8_drift 90 = .ok (.idiv, 1) := by decide +kernel
theorem dX8_drift_91 : decode cX8_drift 91 = .ok (.iconst 5, 1) := by decide +kernel
theorem dX8_drift_92 : decode cX8_drift 92 = .ok (.irem, 1) := by decide +kernel
theorem dX8_drift_93 : decode cX8_drift 93 = .ok (.iastore, 1) := by decide +kernel
theorem dX8_drift_94 : decode cX8_drift 94 = .ok (.iinc 3 1, 3) := by decide +kernel
theorem dX8_drift_97 : decode cX8_drift 97 = .ok (.goto (-62), 3) := by decide +kernel
theorem dX8_drift_100 : decode cX8_drift 100 = .ok (.aload_n 0, 1) := by decide +kernel
theorem dX8_drift_101 : decode cX8_drift 101 = .ok (.invokevirtual 260, 3) := by decide +kernel
theorem dX8_drift_104 : decode cX8_drift 104 = .ok (.iinc 2 1, 3) := by decide +kernel
theorem dX8_drift_107 : decode cX8_drift 107 = .ok (.goto (-79), 3) := by decide +kernel
theorem dX8_drift_110 : decode cX8_drift 110 = .ok (.aload_n 0, 1) := by decide +kernel
theorem dX8_drift_111 : decode cX8_drift 111 = .ok (.getfield 19, 3) := by decide +kernel
theorem dX8_drift_114 : decode cX8_drift 114 = .ok (.iconst 0, 1) := by decide +kernel
theorem dX8_drift_115 : decode cX8_drift 115 = .ok (.iaload, 1) := by decide +kernel
theorem dX8_drift_116 : decode cX8_drift 116 = .ok (.ireturn, 1) := by decide +kernel
theorem dX8_saw_0 : decode cX8_saw 0 = .ok (.aload_n 0, 1) := by decide +kernel
theorem dX8_saw_1 : decode cX8_saw 1 = .ok (.iload_n 1, 1) := by decide +kernel
theorem dX8_saw_2 : decode cX8_saw 2 = .ok (.invokevirtual 252, 3) := by decide +kernel
theorem dX8_saw_5 : decode cX8_saw 5 = .ok (.ifCond .ne 6, 3) := by decide +kernel
theorem dX8_saw_8 : decode cX8_saw 8 = .ok (.ldc 249, 2) := by decide +kernel
theorem dX8_saw_10 : decode cX8_saw 10 = .ok (.ireturn, 1) := by decide +kernel
theorem dX8_saw_11 : decode cX8_saw 11 = .ok (.iload_n 2, 1) := by decide +kernel
theorem dX8_saw_12 : decode cX8_saw 12 = .ok (.i2l, 1) := by decide +kernel
theorem dX8_saw_13 : decode cX8_saw 13 = .ok (.lconst 0, 1) := by decide +kernel
theorem dX8_saw_14 : decode cX8_saw 14 = .ok (.ldc2_w 255, 3) := by decide +kernel
theorem dX8_saw_17 : decode cX8_saw 17 = .ok (.invokestatic 79, 3) := by decide +kernel
theorem dX8_saw_20 : decode cX8_saw 20 = .ok (.ifCond .ne 6, 3) := by decide +kernel
theorem dX8_saw_23 : decode cX8_saw 23 = .ok (.ldc 94, 2) := by decide +kernel
theorem dX8_saw_25 : decode cX8_saw 25 = .ok (.ireturn, 1) := by decide +kernel
theorem dX8_saw_26 : decode cX8_saw 26 = .ok (.aload_n 0, 1) := by decide +kernel
theorem dX8_saw_27 : decode cX8_saw 27 = .ok (.getfield 19, 3) := by decide +kernel
theorem dX8_saw_30 : decode cX8_saw 30 = .ok (.iconst 2, 1) := by decide +kernel
theorem dX8_saw_31 : decode cX8_saw 31 = .ok (.bipush 6, 2) := by decide +kernel
theorem dX8_saw_33 : decode cX8_saw 33 = .ok (.iload_n 1, 1) := by decide +kernel
theorem dX8_saw_34 : decode cX8_saw 34 = .ok (.imul, 1) := by decide +kernel
theorem dX8_saw_35 : decode cX8_saw 35 = .ok (.iadd, 1) := by decide +kernel
theorem dX8_saw_36 : decode cX8_saw 36 = .ok (.iconst 2, 1) := by decide +kernel
theorem dX8_saw_37 : decode cX8_saw 37 = .ok (.iadd, 1) := by decide +kernel
theorem dX8_saw_38 : decode cX8_saw 38 = .ok (.iaload, 1) := by decide +kernel
theorem dX8_saw_39 : decode cX8_saw 39 = .ok (.istore_n 3, 1) := by decide +kernel
theorem dX8_saw_40 : decode cX8_saw 40 = .ok (.aload_n 0, 1) := by decide +kernel
theorem dX8_saw_41 : decode cX8_saw 41 = .ok (.getfield 19, 3) := by decide +kernel
theorem dX8_saw_44 : decode cX8_saw 44 = .ok (.iconst 2, 1) := by decide +kernel
theorem dX8_saw_45 : decode cX8_saw 45 = .ok (.bipush 6, 2) := by decide +kernel
theorem dX8_saw_47 : decode cX8_saw 47 = .ok (.iload_n 1, 1) := by decide +kernel
theorem dX8_saw_48 : decode cX8_saw 48 = .ok (.imul, 1) := by decide +kernel
theorem dX8_saw_49 : decode cX8_saw 49 = .ok (.iadd, 1) := by decide +kernel
theorem dX8_saw_50 : decode cX8_saw 50 = .ok (.iconst 2, 1) := by decide +kernel
theorem dX8_saw_51 : decode cX8_saw 51 = .ok (.iadd, 1) := by decide +kernel
theorem dX8_saw_52 : decode cX8_saw 52 = .ok (.iload_n 2, 1) := by decide +kernel
theorem dX8_saw_53 : decode cX8_saw 53 = .ok (.iastore, 1) := by decide +kernel
theorem dX8_saw_54 : decode cX8_saw 54 = .ok (.iload_n 3, 1) := by decide +kernel
theorem dX8_saw_55 : decode cX8_saw 55 = .ok (.ireturn, 1) := by decide +kernel
theorem dX8_stake_0 : decode cX8_stake 0 = .ok (.aload_n 0, 1) := by decide +kernel
theorem dX8_stake_1 : decode cX8_stake 1 = .ok (.iload_n 1, 1) := by decide +kernel
theorem dX8_stake_2 : decode cX8_stake 2 = .ok (.iload_n 2, 1) := by decide +kernel
theorem dX8_stake_3 : decode cX8_stake 3 = .ok (.invokevirtual 227, 3) := by decide +kernel
theorem dX8_stake_6 : decode cX8_stake 6 = .ok (.istore 4, 2) := by decide +kernel
theorem dX8_stake_8 : decode cX8_stake 8 = .ok (.iload 4, 2) := by decide +kernel
theorem dX8_stake_10 : decode cX8_stake 10 = .ok (.iconst (-1), 1) := by decide +kernel
theorem dX8_stake_11 : decode cX8_stake 11 = .ok (.if_icmp .ne 6, 3) := by decide +kernel
theorem dX8_stake_14 : decode cX8_stake 14 = .ok (.ldc 249, 2) := by decide +kernel
theorem dX8_stake_16 : decode cX8_stake 16 = .ok (.ireturn, 1) := by decide +kernel
theorem dX8_stake_17 : decode cX8_stake 17 = .ok (.aload_n 0, 1) := by decide +kernel
theorem dX8_stake_18 : decode cX8_stake 18 = .ok (.getfield 19, 3) := by decide +kernel
theorem dX8_stake_21 : decode cX8_stake 21 = .ok (.bipush 26, 2) := by decide +kernel
theorem dX8_stake_23 : decode cX8_stake 23 = .ok (.iload 4, 2) := by decide +kernel
theorem dX8_stake_25 : decode cX8_stake 25 = .ok (.iadd, 1) := by decide +kernel
theorem dX8_stake_26 : decode cX8_stake 26 = .ok (.iaload, 1) := by decide +kernel
theorem dX8_stake_27 : decode cX8_stake 27 = .ok (.istore 5, 2) := by decide +kernel
theorem dX8_stake_29 : decode cX8_stake 29 = .ok (.aload_n 0, 1) := by decide +kernel
theorem dX8_stake_30 : decode cX8_stake 30 = .ok (.getfield 19, 3) := by decide +kernel
theorem dX8_stake_33 : decode cX8_stake 33 = .ok (.bipush 26, 2) := by decide +kernel
theorem dX8_stake_35 : decode cX8_stake 35 = .ok (.iload 4, 2) := by decide +kernel
theorem dX8_stake_37 : decode cX8_stake 37 = .ok (.iadd, 1) := by decide +kernel
theorem dX8_stake_38 : decode cX8_stake 38 = .ok (.iload_n 3, 1) := by decide +kernel
theorem dX8_stake_39 : decode cX8_stake 39 = .ok (.ifCond .eq 7, 3) := by decide +kernel
theorem dX8_stake_42 : decode cX8_stake 42 = .ok (.iconst 1, 1) := by decide +kernel
theorem dX8_stake_43 : decode cX8_stake 43 = .ok (.goto 4, 3) := by decide +kernel
theorem dX8_stake_46 : decode cX8_stake 46 = .ok (.iconst 0, 1) := by decide +kernel
theorem dX8_stake_47 : decode cX8_stake 47 = .ok (.iastore, 1) := by decide +kernel
theorem dX8_stake_48 : decode cX8_stake 48 = .ok (.iload 5, 2) := by decide +kernel
theorem dX8_stake_50 : decode cX8_stake 50 = .ok (.ireturn, 1) := by decide +kernel
theorem dX8_stepped_0 : decode cX8_stepped 0 = .ok (.lload_n 1, 1) := by decide +kernel
theorem dX8_stepped_1 : decode cX8_stepped 1 = .ok (.lstore 5, 2) := by decide +kernel
theorem dX8_stepped_3 : decode cX8_stepped 3 = .ok (.iconst 0, 1) := by decide +kernel
theorem dX8_stepped_4 : decode cX8_stepped 4 = .ok (.istore 7, 2) := by decide +kernel
theorem dX8_stepped_6 : decode cX8_stepped 6 = .ok (.iload 7, 2) := by decide +kernel
theorem dX8_stepped_8 : decode cX8_stepped 8 = .ok (.aload_n 0, 1) := by decide +kernel
theorem dX8_stepped_9 : decode cX8_stepped 9 = .ok (.getfield 76, 3) := by decide +kernel
theorem dX8_stepped_12 : decode cX8_stepped 12 = .ok (.aload_n 0, 1) := by decide +kernel
theorem dX8_stepped_13 : decode cX8_stepped 13 = .ok (.getfield 83, 3) := by decide +kernel
theorem dX8_stepped_16 : decode cX8_stepped 16 = .ok (.imul, 1) := by decide +kernel
theorem dX8_stepped_17 : decode cX8_stepped 17 = .ok (.if_icmp .ge 68, 3) := by decide +kernel
theorem dX8_stepped_20 : decode cX8_stepped 20 = .ok (.iconst 1, 1) := by decide +kernel
theorem dX8_stepped_21 : decode cX8_stepped 21 = .ok (.istore 8, 2) := by decide +kernel
theorem dX8_stepped_23 : decode cX8_stepped 23 = .ok (.iload 8, 2) := by decide +kernel
theorem dX8_stepped_25 : decode cX8_stepped 25 = .ok (.iconst 5, 1) := by decide +kernel
theorem dX8_stepped_26 : decode cX8_stepped 26 = .ok (.if_icmp .ge 53, 3) := by decide +kernel
theorem dX8_stepped_29 : decode cX8_stepped 29 = .ok (.lload_n 1, 1) := by decide +kernel
theorem dX8_stepped_30 : decode cX8_stepped 30 = .ok (.iload 7, 2) := by decide +kernel
theorem dX8_stepped_32 : decode cX8_stepped 32 = .ok (.lshr, 1) := by decide +kernel
theorem dX8_stepped_33 : decode cX8_stepped 33 = .ok (.lconst 1, 1) := by decide +kernel
theorem dX8_stepped_34 : decode cX8_stepped 34 = .ok (.land, 1) := by decide +kernel
theorem dX8_stepped_35 : decode cX8_stepped 35 = .ok (.lconst 1, 1) := by decide +kernel
theorem dX8_stepped_36 : decode cX8_stepped 36 = .ok (.lcmp, 1) := by decide +kernel
theorem dX8_stepped_37 : decode cX8_stepped 37 = .ok (.ifCond .ne 42, 3) := by decide +kernel
theorem dX8_stepped_40 : decode cX8_stepped 40 = .ok (.lload 5, 2) := by decide +kernel
theorem dX8_stepped_42 : decode cX8_stepped 42 = .ok (.aload_n 0, 1) := by decide +kernel
theorem dX8_stepped_43 : decode cX8_stepped 43 = .ok (.iload 7, 2) := by decide +kernel
theorem dX8_stepped_45 : decode cX8_stepped 45 = .ok (.iload 8, 2) := by decide +kernel
theorem dX8_stepped_47 : decode cX8_stepped 47 = .ok (.iload_n 3, 1) := by decide +kernel
theorem dX8_stepped_48 : decode cX8_stepped 48 = .ok (.iload 4, 2) := by decide +kernel
theorem dX8_stepped_50 : decode cX8_stepped 50 = .ok (.invokevirtual 237, 3) := by decide +kernel
theorem dX8_stepped_53 : decode cX8_stepped 53 = .ok (.ifCond .eq 16, 3) := by decide +kernel
theorem dX8_stepped_56 : decode cX8_stepped 56 = .ok (.lconst 1, 1) := by decide +kernel
theorem dX8_stepped_57 : decode cX8_stepped 57 = .ok (.aload_n 0, 1) := by decide +kernel
theorem dX8_stepped_58 : decode cX8_stepped 58 = .ok (.iload 7, 2) := by decide +kernel
theorem dX8_stepped_60 : decode cX8_stepped 60 = .ok (.iload 8, 2) := by decide +kernel
theorem dX8_stepped_62 : decode cX8_stepped 62 = .ok (.invokevirtual 231, 3) := by decide +kernel
theorem dX8_stepped_65 : decode cX8_stepped 65 = .ok (.lshl, 1) := by decide +kernel
theorem dX8_stepped_66 : decode cX8_stepped 66 = .ok (.goto 4, 3) := by decide +kernel
theorem dX8_stepped_69 : decode cX8_stepped 69 = .ok (.lconst 0, 1) := by decide +kernel
theorem dX8_stepped_70 : decode cX8_stepped 70 = .ok (.lor, 1) := by decide +kernel
theorem dX8_stepped_71 : decode cX8_stepped 71 = .ok (.lstore 5, 2) := by decide +kernel
theorem dX8_stepped_73 : decode cX8_stepped 73 = .ok (.iinc 8 1, 3) := by decide +kernel
theorem dX8_stepped_76 : decode cX8_stepped 76 = .ok (.goto (-53), 3) := by decide +kernel
theorem dX8_stepped_79 : decode cX8_stepped 79 = .ok (.iinc 7 1, 3) := by decide +kernel
theorem dX8_stepped_82 : decode cX8_stepped 82 = .ok (.goto (-76), 3) := by decide +kernel
theorem dX8_stepped_85 : decode cX8_stepped 85 = .ok (.lload 5, 2) := by decide +kernel
theorem dX8_stepped_87 : decode cX8_stepped 87 = .ok (.lreturn, 1) := by decide +kernel
theorem dX8_begins_0 : decode cX8_begins 0 = .ok (.iconst 0, 1) := by decide +kernel
theorem dX8_begins_1 : decode cX8_begins 1 = .ok (.istore_n 2, 1) := by decide +kernel
theorem dX8_begins_2 : decode cX8_begins 2 = .ok (.iload_n 2, 1) := by decide +kernel
theorem dX8_begins_3 : decode cX8_begins 3 = .ok (.aload_n 0, 1) := by decide +kernel
theorem dX8_begins_4 : decode cX8_begins 4 = .ok (.getfield 86, 3) := by decide +kernel
theorem dX8_begins_7 : decode cX8_begins 7 = .ok (.if_icmp .ge 59, 3) := by decide +kernel
theorem dX8_begins_10 : decode cX8_begins 10 = .ok (.aload_n 0, 1) := by decide +kernel
theorem dX8_begins_11 : decode cX8_begins 11 = .ok (.getfield 50, 3) := by decide +kernel
theorem dX8_begins_14 : decode cX8_begins 14 = .ok (.iload_n 2, 1) := by decide +kernel
theorem dX8_begins_15 : decode cX8_begins 15 = .ok (.lconst 1, 1) := by decide +kernel
theorem dX8_begins_16 : decode cX8_begins 16 = .ok (.aload_n 0, 1) := by decide +kernel
theorem dX8_begins_17 : decode cX8_begins 17 = .ok (.iload_n 2, 1) := by decide +kernel
theorem dX8_begins_18 : decode cX8_begins 18 = .ok (.invokevirtual 223, 3) := by decide +kernel
theorem dX8_begins_21 : decode cX8_begins 21 = .ok (.lshl, 1) := by decide +kernel
theorem dX8_begins_22 : decode cX8_begins 22 = .ok (.lastore, 1) := by decide +kernel
theorem dX8_begins_23 : decode cX8_begins 23 = .ok (.aload_n 0, 1) := by decide +kernel
theorem dX8_begins_24 : decode cX8_begins 24 = .ok (.getfield 54, 3) := by decide +kernel
theorem dX8_begins_27 : decode cX8_begins 27 = .ok (.iload_n 2, 1) := by decide +kernel
theorem dX8_begins_28 : decode cX8_begins 28 = .ok (.aload_n 0, 1) := by decide +kernel
theorem dX8_begins_29 : decode cX8_begins 29 = .ok (.getfield 19, 3) := by decide +kernel
theorem dX8_begins_32 : decode cX8_begins 32 = .ok (.iconst 2, 1) := by decide +kernel
theorem dX8_begins_33 : decode cX8_begins 33 = .ok (.bipush 6, 2) := by decide +kernel
theorem dX8_begins_35 : decode cX8_begins 35 = .ok (.iload_n 2, 1) := by decide +kernel
theorem dX8_begins_36 : decode cX8_begins 36 = .ok (.imul, 1) := by decide +kernel
theorem dX8_begins_37 : decode cX8_begins 37 = .ok (.iadd, 1) := by decide +kernel
theorem dX8_begins_38 : decode cX8_begins 38 = .ok (.iconst 3, 1) := by decide +kernel
theorem dX8_begins_39 : decode cX8_begins 39 = .ok (.iadd, 1) := by decide +kernel
theorem dX8_begins_40 : decode cX8_begins 40 = .ok (.iaload, 1) := by decide +kernel
theorem dX8_begins_41 : decode cX8_begins 41 = .ok (.iload_n 1, 1) := by decide +kernel
theorem dX8_begins_42 : decode cX8_begins 42 = .ok (.ishr, 1) := by decide +kernel
theorem dX8_begins_43 : decode cX8_begins 43 = .ok (.iconst 1, 1) := by decide +kernel
theorem dX8_begins_44 : decode cX8_begins 44 = .ok (.iand, 1) := by decide +kernel
theorem dX8_begins_45 : decode cX8_begins 45 = .ok (.iconst 1, 1) := by decide +kernel
theorem dX8_begins_46 : decode cX8_begins 46 = .ok (.if_icmp .ne 12, 3) := by decide +kernel
theorem dX8_begins_49 : decode cX8_begins 49 = .ok (.aload_n 0, 1) := by decide +kernel
theorem dX8_begins_50 : decode cX8_begins 50 = .ok (.getfield 50, 3) := by decide +kernel
theorem dX8_begins_53 : decode cX8_begins 53 = .ok (.iload_n 2, 1) := by decide +kernel
theorem dX8_begins_54 : decode cX8_begins 54 = .ok (.laload, 1) := by decide +kernel
theorem dX8_begins_55 : decode cX8_begins 55 = .ok (.goto 4, 3) := by decide +kernel
theorem dX8_begins_58 : decode cX8_begins 58 = .ok (.lconst 0, 1) := by decide +kernel
theorem dX8_begins_59 : decode cX8_begins 59 = .ok (.lastore, 1) := by decide +kernel
theorem dX8_begins_60 : decode cX8_begins 60 = .ok (.iinc 2 1, 3) := by decide +kernel
theorem dX8_begins_63 : decode cX8_begins 63 = .ok (.goto (-61), 3) := by decide +kernel
theorem dX8_begins_66 : decode cX8_begins 66 = .ok (.aload_n 0, 1) := by decide +kernel
theorem dX8_begins_67 : decode cX8_begins 67 = .ok (.iload_n 1, 1) := by decide +kernel
theorem dX8_begins_68 : decode cX8_begins 68 = .ok (.invokevirtual 270, 3) := by decide +kernel
theorem dX8_begins_71 : decode cX8_begins 71 = .ok (.return_, 1) := by decide +kernel
theorem dX8_shares_0 : decode cX8_shares 0 = .ok (.lconst 0, 1) := by decide +kernel
theorem dX8_shares_1 : decode cX8_shares 1 = .ok (.lstore_n 2, 1) := by decide +kernel
theorem dX8_shares_2 : decode cX8_shares 2 = .ok (.iconst 0, 1) := by decide +kernel
theorem dX8_shares_3 : decode cX8_shares 3 = .ok (.istore 4, 2) := by decide +kernel
theorem dX8_shares_5 : decode cX8_shares 5 = .ok (.iload 4, 2) := by decide +kernel
theorem dX8_shares_7 : decode cX8_shares 7 = .ok (.aload_n 0, 1) := by decide +kernel
theorem dX8_shares_8 : decode cX8_shares 8 = .ok (.getfield 86, 3) := by decide +kernel
theorem dX8_shares_11 : decode cX8_shares 11 = .ok (.if_icmp .ge 45, 3) := by decide +kernel
theorem dX8_shares_14 : decode cX8_shares 14 = .ok (.aload_n 0, 1) := by decide +kernel
theorem dX8_shares_15 : decode cX8_shares 15 = .ok (.getfield 54, 3) := by decide +kernel
theorem dX8_shares_18 : decode cX8_shares 18 = .ok (.iload 4, 2) := by decide +kernel
theorem dX8_shares_20 : decode cX8_shares 20 = .ok (.dup2, 1) := by decide +kernel
theorem dX8_shares_21 : decode cX8_shares 21 = .ok (.laload, 1) := by decide +kernel
theorem dX8_shares_22 : decode cX8_shares 22 = .ok (.aload_n 0, 1) := by decide +kernel
theorem dX8_shares_23 : decode cX8_shares 23 = .ok (.getfield 50, 3) := by decide +kernel
theorem dX8_shares_26 : decode cX8_shares 26 = .ok (.iload 4, 2) := by decide +kernel
theorem dX8_shares_28 : decode cX8_shares 28 = .ok (.laload, 1) := by decide +kernel
theorem dX8_shares_29 : decode cX8_shares 29 = .ok (.lconst 1, 1) := by decide +kernel
theorem dX8_shares_30 : decode cX8_shares 30 = .ok (.aload_n 0, 1) := by decide +kernel
theorem dX8_shares_31 : decode cX8_shares 31 = .ok (.getfield 16, 3) := by decide +kernel
theorem dX8_shares_34 : decode cX8_shares 34 = .ok (.iload_n 1, 1) := by decide +kernel
theorem dX8_shares_35 : decode cX8_shares 35 = .ok (.iaload, 1) := by decide +kernel
theorem dX8_shares_36 : decode cX8_shares 36 = .ok (.lshl, 1) := by decide +kernel
theorem dX8_shares_37 : decode cX8_shares 37 = .ok (.land, 1) := by decide +kernel
theorem dX8_shares_38 : decode cX8_shares 38 = .ok (.lor, 1) := by decide +kernel
theorem dX8_shares_39 : decode cX8_shares 39 = .ok (.lastore, 1) := by decide +kernel
theorem dX8_shares_40 : decode cX8_shares 40 = .ok (.lload_n 2, 1) := by decide +kernel
theorem dX8_shares_41 : decode cX8_shares 41 = .ok (.aload_n 0, 1) := by decide +kernel
theorem dX8_shares_42 : decode cX8_shares 42 = .ok (.getfield 54, 3) := by decide +kernel
theorem dX8_shares_45 : decode cX8_shares 45 = .ok (.iload 4, 2) := by decide +kernel
theorem dX8_shares_47 : decode cX8_shares 47 = .ok (.laload, 1) := by decide +kernel
theorem dX8_shares_48 : decode cX8_shares 48 = .ok (.lor, 1) := by decide +kernel
theorem dX8_shares_49 : decode cX8_shares 49 = .ok (.lstore_n 2, 1) := by decide +kernel
theorem dX8_shares_50 : decode cX8_shares 50 = .ok (.iinc 4 1, 3) := by decide +kernel
theorem dX8_shares_53 : decode cX8_shares 53 = .ok (.goto (-48), 3) := by decide +kernel
theorem dX8_shares_56 : decode cX8_shares 56 = .ok (.iconst 0, 1) := by decide +kernel
theorem dX8_shares_57 : decode cX8_shares 57 = .ok (.istore 4, 2) := by decide +kernel
theorem dX8_shares_59 : decode cX8_shares 59 = .ok (.iload 4, 2) := by decide +kernel
theorem dX8_shares_61 : decode cX8_shares 61 = .ok (.aload_n 0, 1) := by decide +kernel
theorem dX8_shares_62 : decode cX8_shares 62 = .ok (.getfield 86, 3) := by decide +kernel
theorem dX8_shares_65 : decode cX8_shares 65 = .ok (.if_icmp .ge 28, 3) := by decide +kernel
theorem dX8_shares_68 : decode cX8_shares 68 = .ok (.aload_n 0, 1) := by decide +kernel
theorem dX8_shares_69 : decode cX8_shares 69 = .ok (.getfield 54, 3) := by decide +kernel
theorem dX8_shares_72 : decode cX8_shares 72 = .ok (.iload 4, 2) := by decide +kernel
theorem dX8_shares_74 : decode cX8_shares 74 = .ok (.dup2, 1) := by decide +kernel
theorem dX8_shares_75 : decode cX8_shares 75 = .ok (.laload, 1) := by decide +kernel
theorem dX8_shares_76 : decode cX8_shares 76 = .ok (.aload_n 0, 1) := by decide +kernel
theorem dX8_shares_77 : decode cX8_shares 77 = .ok (.getfield 50, 3) := by decide +kernel
theorem dX8_shares_80 : decode cX8_shares 80 = .ok (.iload 4, 2) := by decide +kernel
theorem dX8_shares_82 : decode cX8_shares 82 = .ok (.laload, 1) := by decide +kernel
theorem dX8_shares_83 : decode cX8_shares 83 = .ok (.lload_n 2, 1) := by decide +kernel
theorem dX8_shares_84 : decode cX8_shares 84 = .ok (.land, 1) := by decide +kernel
theorem dX8_shares_85 : decode cX8_shares 85 = .ok (.lor, 1) := by decide +kernel
theorem dX8_shares_86 : decode cX8_shares 86 = .ok (.lastore, 1) := by decide +kernel
theorem dX8_shares_87 : decode cX8_shares 87 = .ok (.iinc 4 1, 3) := by decide +kernel
theorem dX8_shares_90 : decode cX8_shares 90 = .ok (.goto (-31), 3) := by decide +kernel
theorem dX8_shares_93 : decode cX8_shares 93 = .ok (.return_, 1) := by decide +kernel
theorem dX8_comes_0 : decode cX8_comes 0 = .ok (.iconst 0, 1) := by decide +kernel
theorem dX8_comes_1 : decode cX8_comes 1 = .ok (.istore_n 3, 1) := by decide +kernel
theorem dX8_comes_2 : decode cX8_comes 2 = .ok (.iload_n 3, 1) := by decide +kernel
theorem dX8_comes_3 : decode cX8_comes 3 = .ok (.aload_n 0, 1) := by decide +kernel
theorem dX8_comes_4 : decode cX8_comes 4 = .ok (.getfield 86, 3) := by decide +kernel
theorem dX8_comes_7 : decode cX8_comes 7 = .ok (.if_icmp .ge 69, 3) := by decide +kernel
theorem dX8_comes_10 : decode cX8_comes 10 = .ok (.aload_n 0, 1) := by decide +kernel
theorem dX8_comes_11 : decode cX8_comes 11 = .ok (.getfield 50, 3) := by decide +kernel
theorem dX8_comes_14 : decode cX8_comes 14 = .ok (.iload_n 3, 1) := by decide +kernel
theorem dX8_comes_15 : decode cX8_comes 15 = .ok (.aload_n 0, 1) := by decide +kernel
theorem dX8_comes_16 : decode cX8_comes 16 = .ok (.aload_n 0, 1) := by decide +kernel
theorem dX8_comes_17 : decode cX8_comes 17 = .ok (.getfield 50, 3) := by decide +kernel
theorem dX8_comes_20 : decode cX8_comes 20 = .ok (.iload_n 3, 1) := by decide +kernel
theorem dX8_comes_21 : decode cX8_comes 21 = .ok (.laload, 1) := by decide +kernel
theorem dX8_comes_22 : decode cX8_comes 22 = .ok (.aload_n 0, 1) := by decide +kernel
theorem dX8_comes_23 : decode cX8_comes 23 = .ok (.getfield 19, 3) := by decide +kernel
theorem dX8_comes_26 : decode cX8_comes 26 = .ok (.iconst 2, 1) := by decide +kernel
theorem dX8_comes_27 : decode cX8_comes 27 = .ok (.bipush 6, 2) := by decide +kernel
theorem dX8_comes_29 : decode cX8_comes 29 = .ok (.iload_n 3, 1) := by decide +kernel
theorem dX8_comes_30 : decode cX8_comes 30 = .ok (.imul, 1) := by decide +kernel
theorem dX8_comes_31 : decode cX8_comes 31 = .ok (.iadd, 1) := by decide +kernel
theorem dX8_comes_32 : decode cX8_comes 32 = .ok (.iconst 2, 1) := by decide +kernel
theorem dX8_comes_33 : decode cX8_comes 33 = .ok (.iadd, 1) := by decide +kernel
theorem dX8_comes_34 : decode cX8_comes 34 = .ok (.iaload, 1) := by decide +kernel
theorem dX8_comes_35 : decode cX8_comes 35 = .ok (.iload_n 2, 1) := by decide +kernel
theorem dX8_comes_36 : decode cX8_comes 36 = .ok (.invokevirtual 274, 3) := by decide +kernel
theorem dX8_comes_39 : decode cX8_comes 39 = .ok (.lastore, 1) := by decide +kernel
theorem dX8_comes_40 : decode cX8_comes 40 = .ok (.aload_n 0, 1) := by decide +kernel
theorem dX8_comes_41 : decode cX8_comes 41 = .ok (.getfield 54, 3) := by decide +kernel
theorem dX8_comes_44 : decode cX8_comes 44 = .ok (.iload_n 3, 1) := by decide +kernel
theorem dX8_comes_45 : decode cX8_comes 45 = .ok (.aload_n 0, 1) := by decide +kernel
theorem dX8_comes_46 : decode cX8_comes 46 = .ok (.aload_n 0, 1) := by decide +kernel
theorem dX8_comes_47 : decode cX8_comes 47 = .ok (.getfield 54, 3) := by decide +kernel
theorem dX8_comes_50 : decode cX8_comes 50 = .ok (.iload_n 3, 1) := by decide +kernel
theorem dX8_comes_51 : decode cX8_comes 51 = .ok (.laload, 1) := by decide +kernel
theorem dX8_comes_52 : decode cX8_comes 52 = .ok (.aload_n 0, 1) := by decide +kernel
theorem dX8_comes_53 : decode cX8_comes 53 = .ok (.getfield 19, 3) := by decide +kernel
theorem dX8_comes_56 : decode cX8_comes 56 = .ok (.iconst 2, 1) := by decide +kernel
theorem dX8_comes_57 : decode cX8_comes 57 = .ok (.bipush 6, 2) := by decide +kernel
theorem dX8_comes_59 : decode cX8_comes 59 = .ok (.iload_n 3, 1) := by decide +kernel
theorem dX8_comes_60 : decode cX8_comes 60 = .ok (.imul, 1) := by decide +kernel
theorem dX8_comes_61 : decode cX8_comes 61 = .ok (.iadd, 1) := by decide +kernel
theorem dX8_comes_62 : decode cX8_comes 62 = .ok (.iconst 2, 1) := by decide +kernel
theorem dX8_comes_63 : decode cX8_comes 63 = .ok (.iadd, 1) := by decide +kernel
theorem dX8_comes_64 : decode cX8_comes 64 = .ok (.iaload, 1) := by decide +kernel
theorem dX8_comes_65 : decode cX8_comes 65 = .ok (.iload_n 2, 1) := by decide +kernel
theorem dX8_comes_66 : decode cX8_comes 66 = .ok (.invokevirtual 274, 3) := by decide +kernel
theorem dX8_comes_69 : decode cX8_comes 69 = .ok (.lastore, 1) := by decide +kernel
theorem dX8_comes_70 : decode cX8_comes 70 = .ok (.iinc 3 1, 3) := by decide +kernel
theorem dX8_comes_73 : decode cX8_comes 73 = .ok (.goto (-71), 3) := by decide +kernel
theorem dX8_comes_76 : decode cX8_comes 76 = .ok (.aload_n 0, 1) := by decide +kernel
theorem dX8_comes_77 : decode cX8_comes 77 = .ok (.iload_n 1, 1) := by decide +kernel
theorem dX8_comes_78 : decode cX8_comes 78 = .ok (.invokevirtual 270, 3) := by decide +kernel
theorem dX8_comes_81 : decode cX8_comes 81 = .ok (.return_, 1) := by decide +kernel
theorem dX8_reaches_0 : decode cX8_reaches 0 = .ok (.lconst 1, 1) := by decide +kernel
theorem dX8_reaches_1 : decode cX8_reaches 1 = .ok (.aload_n 0, 1) := by decide +kernel
theorem dX8_reaches_2 : decode cX8_reaches 2 = .ok (.iload_n 1, 1) := by decide +kernel
theorem dX8_reaches_3 : decode cX8_reaches 3 = .ok (.invokevirtual 223, 3) := by decide +kernel
theorem dX8_reaches_6 : decode cX8_reaches 6 = .ok (.lshl, 1) := by decide +kernel
theorem dX8_reaches_7 : decode cX8_reaches 7 = .ok (.lstore_n 3, 1) := by decide +kernel
theorem dX8_reaches_8 : decode cX8_reaches 8 = .ok (.iconst 0, 1) := by decide +kernel
theorem dX8_reaches_9 : decode cX8_reaches 9 = .ok (.istore 5, 2) := by decide +kernel
theorem dX8_reaches_11 : decode cX8_reaches 11 = .ok (.iload 5, 2) := by decide +kernel
theorem dX8_reaches_13 : decode cX8_reaches 13 = .ok (.bipush 40, 2) := by decide +kernel
theorem dX8_reaches_15 : decode cX8_reaches 15 = .ok (.if_icmp .gt 52, 3) := by decide +kernel
theorem dX8_reaches_18 : decode cX8_reaches 18 = .ok (.lload_n 3, 1) := by decide +kernel
theorem dX8_reaches_19 : decode cX8_reaches 19 = .ok (.iload_n 2, 1) := by decide +kernel
theorem dX8_reaches_20 : decode cX8_reaches 20 = .ok (.lshr, 1) := by decide +kernel
theorem dX8_reaches_21 : decode cX8_reaches 21 = .ok (.lconst 1, 1) := by decide +kernel
theorem dX8_reaches_22 : decode cX8_reaches 22 = .ok (.land, 1) := by decide +kernel
theorem dX8_reaches_23 : decode cX8_reaches 23 = .ok (.lconst 1, 1) := by decide +kernel
theorem dX8_reaches_24 : decode cX8_reaches 24 = .ok (.lcmp, 1) := by decide +kernel
theorem dX8_reaches_25 : decode cX8_reaches 25 = .ok (.ifCond .ne 6, 3) := by decide +kernel
theorem dX8_reaches_28 : decode cX8_reaches 28 = .ok (.iload 5, 2) := by decide +kernel
theorem dX8_reaches_30 : decode cX8_reaches 30 = .ok (.ireturn, 1) := by decide +kernel
theorem dX8_reaches_31 : decode cX8_reaches 31 = .ok (.aload_n 0, 1) := by decide +kernel
theorem dX8_reaches_32 : decode cX8_reaches 32 = .ok (.lload_n 3, 1) := by decide +kernel
theorem dX8_reaches_33 : decode cX8_reaches 33 = .ok (.aload_n 0, 1) := by decide +kernel
theorem dX8_reaches_34 : decode cX8_reaches 34 = .ok (.getfield 19, 3) := by decide +kernel
theorem dX8_reaches_37 : decode cX8_reaches 37 = .ok (.iconst 2, 1) := by decide +kernel
theorem dX8_reaches_38 : decode cX8_reaches 38 = .ok (.bipush 6, 2) := by decide +kernel
theorem dX8_reaches_40 : decode cX8_reaches 40 = .ok (.iload_n 1, 1) := by decide +kernel
theorem dX8_reaches_41 : decode cX8_reaches 41 = .ok (.imul, 1) := by decide +kernel
theorem dX8_reaches_42 : decode cX8_reaches 42 = .ok (.iadd, 1) := by decide +kernel
theorem dX8_reaches_43 : decode cX8_reaches 43 = .ok (.iconst 2, 1) := by decide +kernel
theorem dX8_reaches_44 : decode cX8_reaches 44 = .ok (.iadd, 1) := by decide +kernel
theorem dX8_reaches_45 : decode cX8_reaches 45 = .ok (.iaload, 1) := by decide +kernel
theorem dX8_reaches_46 : decode cX8_reaches 46 = .ok (.aload_n 0, 1) := by decide +kernel
theorem dX8_reaches_47 : decode cX8_reaches 47 = .ok (.getfield 19, 3) := by decide +kernel
theorem dX8_reaches_50 : decode cX8_reaches 50 = .ok (.iconst 0, 1) := by decide +kernel
theorem dX8_reaches_51 : decode cX8_reaches 51 = .ok (.iaload, 1) := by decide +kernel
theorem dX8_reaches_52 : decode cX8_reaches 52 = .ok (.iload 5, 2) := by decide +kernel
theorem dX8_reaches_54 : decode cX8_reaches 54 = .ok (.iadd, 1) := by decide +kernel
theorem dX8_reaches_55 : decode cX8_reaches 55 = .ok (.iconst 1, 1) := by decide +kernel
theorem dX8_reaches_56 : decode cX8_reaches 56 = .ok (.iadd, 1) := by decide +kernel
theorem dX8_reaches_57 : decode cX8_reaches 57 = .ok (.invokevirtual 274, 3) := by decide +kernel
theorem dX8_reaches_60 : decode cX8_reaches 60 = .ok (.lstore_n 3, 1) := by decide +kernel
theorem dX8_reaches_61 : decode cX8_reaches 61 = .ok (.iinc 5 1, 3) := by decide +kernel
theorem dX8_reaches_64 : decode cX8_reaches 64 = .ok (.goto (-53), 3) := by decide +kernel
theorem dX8_reaches_67 : decode cX8_reaches 67 = .ok (.iconst (-1), 1) := by decide +kernel
theorem dX8_reaches_68 : decode cX8_reaches 68 = .ok (.ireturn, 1) := by decide +kernel
theorem dX8_canBe_0 : decode cX8_canBe 0 = .ok (.aload_n 0, 1) := by decide +kernel
theorem dX8_canBe_1 : decode cX8_canBe 1 = .ok (.iload_n 1, 1) := by decide +kernel
theorem dX8_canBe_2 : decode cX8_canBe 2 = .ok (.invokevirtual 252, 3) := by decide +kernel
theorem dX8_canBe_5 : decode cX8_canBe 5 = .ok (.ifCond .eq 27, 3) := by decide +kernel
theorem dX8_canBe_8 : decode cX8_canBe 8 = .ok (.aload_n 0, 1) := by decide +kernel
theorem dX8_canBe_9 : decode cX8_canBe 9 = .ok (.iload_n 2, 1) := by decide +kernel
theorem dX8_canBe_10 : decode cX8_canBe 10 = .ok (.iload_n 3, 1) := by decide +kernel
theorem dX8_canBe_11 : decode cX8_canBe 11 = .ok (.invokevirtual 227, 3) := by decide +kernel
theorem dX8_canBe_14 : decode cX8_canBe 14 = .ok (.iconst (-1), 1) := by decide +kernel
theorem dX8_canBe_15 : decode cX8_canBe 15 = .ok (.if_icmp .eq 17, 3) := by decide +kernel
theorem dX8_canBe_18 : decode cX8_canBe 18 = .ok (.aload_n 0, 1) := by decide +kernel
theorem dX8_canBe_19 : decode cX8_canBe 19 = .ok (.iload_n 1, 1) := by decide +kernel
theorem dX8_canBe_20 : decode cX8_canBe 20 = .ok (.aload_n 0, 1) := by decide +kernel
theorem dX8_canBe_21 : decode cX8_canBe 21 = .ok (.iload_n 2, 1) := by decide +kernel
theorem dX8_canBe_22 : decode cX8_canBe 22 = .ok (.iload_n 3, 1) := by decide +kernel
theorem dX8_canBe_23 : decode cX8_canBe 23 = .ok (.invokevirtual 227, 3) := by decide +kernel
theorem dX8_canBe_26 : decode cX8_canBe 26 = .ok (.invokevirtual 278, 3) := by decide +kernel
theorem dX8_canBe_29 : decode cX8_canBe 29 = .ok (.goto 5, 3) := by decide +kernel
theorem dX8_canBe_32 : decode cX8_canBe 32 = .ok (.ldc 249, 2) := by decide +kernel
theorem dX8_canBe_34 : decode cX8_canBe 34 = .ok (.ireturn, 1) := by decide +kernel
theorem dX8_canHear_0 : decode cX8_canHear 0 = .ok (.aload_n 0, 1) := by decide +kernel
theorem dX8_canHear_1 : decode cX8_canHear 1 = .ok (.iload_n 1, 1) := by decide +kernel
theorem dX8_canHear_2 : decode cX8_canHear 2 = .ok (.invokevirtual 252, 3) := by decide +kernel
theorem dX8_canHear_5 : decode cX8_canHear 5 = .ok (.ifCond .eq 11, 3) := by decide +kernel
theorem dX8_canHear_8 : decode cX8_canHear 8 = .ok (.aload_n 0, 1) := by decide +kernel
theorem dX8_canHear_9 : decode cX8_canHear 9 = .ok (.iload_n 2, 1) := by decide +kernel
theorem dX8_canHear_10 : decode cX8_canHear 10 = .ok (.invokevirtual 281, 3) := by decide +kernel
theorem dX8_canHear_13 : decode cX8_canHear 13 = .ok (.ifCond .ne 6, 3) := by decide +kernel
theorem dX8_canHear_16 : decode cX8_canHear 16 = .ok (.ldc 249, 2) := by decide +kernel
theorem dX8_canHear_18 : decode cX8_canHear 18 = .ok (.ireturn, 1) := by decide +kernel
theorem dX8_canHear_19 : decode cX8_canHear 19 = .ok (.aload_n 0, 1) := by decide +kernel
theorem dX8_canHear_20 : decode cX8_canHear 20 = .ok (.iload_n 2, 1) := by decide +kernel
theorem dX8_canHear_21 : decode cX8_canHear 21 = .ok (.invokevirtual 284, 3) := by decide +kernel
theorem dX8_canHear_24 : decode cX8_canHear 24 = .ok (.iconst 0, 1) := by decide +kernel
theorem dX8_canHear_25 : decode cX8_canHear 25 = .ok (.istore_n 3, 1) := by decide +kernel
theorem dX8_canHear_26 : decode cX8_canHear 26 = .ok (.iload_n 3, 1) := by decide +kernel
theorem dX8_canHear_27 : decode cX8_canHear 27 = .ok (.bipush 40, 2) := by decide +kernel
theorem dX8_canHear_29 : decode cX8_canHear 29 = .ok (.if_icmp .gt 37, 3) := by decide +kernel
theorem dX8_canHear_32 : decode cX8_canHear 32 = .ok (.aload_n 0, 1) := by decide +kernel
theorem dX8_canHear_33 : decode cX8_canHear 33 = .ok (.getfield 54, 3) := by decide +kernel
theorem dX8_canHear_36 : decode cX8_canHear 36 = .ok (.iload_n 1, 1) := by decide +kernel
theorem dX8_canHear_37 : decode cX8_canHear 37 = .ok (.laload, 1) := by decide +kernel
theorem dX8_canHear_38 : decode cX8_canHear 38 = .ok (.lconst 0, 1) := by decide +kernel
theorem dX8_canHear_39 : decode cX8_canHear 39 = .ok (.lcmp, 1) := by decide +kernel
theorem dX8_canHear_40 : decode cX8_canHear 40 = .ok (.ifCond .eq 5, 3) := by decide +kernel
theorem dX8_canHear_43 : decode cX8_canHear 43 = .ok (.iload_n 3, 1) := by decide +kernel
theorem dX8_canHear_44 : decode cX8_canHear 44 = .ok (.ireturn, 1) := by decide +kernel
theorem dX8_canHear_45 : decode cX8_canHear 45 = .ok (.aload_n 0, 1) := by decide +kernel
theorem dX8_canHear_46 : decode cX8_canHear 46 = .ok (.iload_n 2, 1) := by decide +kernel
theorem dX8_canHear_47 : decode cX8_canHear 47 = .ok (.aload_n 0, 1) := by decide +kernel
theorem dX8_canHear_48 : decode cX8_canHear 48 = .ok (.getfield 19, 3) := by decide +kernel
theorem dX8_canHear_51 : decode cX8_canHear 51 = .ok (.iconst 0, 1) := by decide +kernel
theorem dX8_canHear_52 : decode cX8_canHear 52 = .ok (.iaload, 1) := by decide +kernel
theorem dX8_canHear_53 : decode cX8_canHear 53 = .ok (.iload_n 3, 1) := by decide +kernel
theorem dX8_canHear_54 : decode cX8_canHear 54 = .ok (.iadd, 1) := by decide +kernel
theorem dX8_canHear_55 : decode cX8_canHear 55 = .ok (.iconst 1, 1) := by decide +kernel
theorem dX8_canHear_56 : decode cX8_canHear 56 = .ok (.iadd, 1) := by decide +kernel
theorem dX8_canHear_57 : decode cX8_canHear 57 = .ok (.invokevirtual 287, 3) := by decide +kernel
theorem dX8_canHear_60 : decode cX8_canHear 60 = .ok (.iinc 3 1, 3) := by decide +kernel
theorem dX8_canHear_63 : decode cX8_canHear 63 = .ok (.goto (-37), 3) := by decide +kernel
theorem dX8_canHear_66 : decode cX8_canHear 66 = .ok (.iconst (-1), 1) := by decide +kernel
theorem dX8_canHear_67 : decode cX8_canHear 67 = .ok (.ireturn, 1) := by decide +kernel
theorem dX8_firstOf_0 : decode cX8_firstOf 0 = .ok (.aload_n 0, 1) := by decide +kernel
theorem dX8_firstOf_1 : decode cX8_firstOf 1 = .ok (.iload_n 1, 1) := by decide +kernel
theorem dX8_firstOf_2 : decode cX8_firstOf 2 = .ok (.invokevirtual 284, 3) := by decide +kernel
theorem dX8_firstOf_5 : decode cX8_firstOf 5 = .ok (.iconst 0, 1) := by decide +kernel
theorem dX8_firstOf_6 : decode cX8_firstOf 6 = .ok (.istore_n 3, 1) := by decide +kernel
theorem dX8_firstOf_7 : decode cX8_firstOf 7 = .ok (.iload_n 3, 1) := by decide +kernel
theorem dX8_firstOf_8 : decode cX8_firstOf 8 = .ok (.iload_n 2, 1) := by decide +kernel
theorem dX8_firstOf_9 : decode cX8_firstOf 9 = .ok (.if_icmp .gt 69, 3) := by decide +kernel
theorem dX8_firstOf_12 : decode cX8_firstOf 12 = .ok (.iconst 0, 1) := by decide +kernel
theorem dX8_firstOf_13 : decode cX8_firstOf 13 = .ok (.istore 4, 2) := by decide +kernel
theorem dX8_firstOf_15 : decode cX8_firstOf 15 = .ok (.iload 4, 2) := by decide +kernel
theorem dX8_firstOf_17 : decode cX8_firstOf 17 = .ok (.aload_n 0, 1) := by decide +kernel
theorem dX8_firstOf_18 : decode cX8_firstOf 18 = .ok (.getfield 86, 3) := by decide +kernel
theorem dX8_firstOf_21 : decode cX8_firstOf 21 = .ok (.if_icmp .ge 36, 3) := by decide +kernel
theorem dX8_firstOf_24 : decode cX8_firstOf 24 = .ok (.aload_n 0, 1) := by decide +kernel
theorem dX8_firstOf_25 : decode cX8_firstOf 25 = .ok (.getfield 54, 3) := by decide +kernel
theorem dX8_firstOf_28 : decode cX8_firstOf 28 = .ok (.iload 4, 2) := by decide +kernel
theorem dX8_firstOf_30 : decode cX8_firstOf 30 = .ok (.laload, 1) := by decide +kernel
theorem dX8_firstOf_31 : decode cX8_firstOf 31 = .ok (.aload_n 0, 1) := by decide +kernel
theorem dX8_firstOf_32 : decode cX8_firstOf 32 = .ok (.getfield 211, 3) := by decide +kernel
theorem dX8_firstOf_35 : decode cX8_firstOf 35 = .ok (.lshr, 1) := by decide +kernel
theorem dX8_firstOf_36 : decode cX8_firstOf 36 = .ok (.lconst 1, 1) := by decide +kernel
theorem dX8_firstOf_37 : decode cX8_firstOf 37 = .ok (.land, 1) := by decide +kernel
theorem dX8_firstOf_38 : decode cX8_firstOf 38 = .ok (.lconst 1, 1) := by decide +kernel
theorem dX8_firstOf_39 : decode cX8_firstOf 39 = .ok (.lcmp, 1) := by decide +kernel
theorem dX8_firstOf_40 : decode cX8_firstOf 40 = .ok (.ifCond .ne 11, 3) := by decide +kernel
theorem dX8_firstOf_43 : decode cX8_firstOf 43 = .ok (.aload_n 0, 1) := by decide +kernel
theorem dX8_firstOf_44 : decode cX8_firstOf 44 = .ok (.iload 4, 2) := by decide +kernel
theorem dX8_firstOf_46 : decode cX8_firstOf 46 = .ok (.putfield 291, 3) := by decide +kernel
theorem dX8_firstOf_49 : decode cX8_firstOf 49 = .ok (.iload_n 3, 1) := by decide +kernel
theorem dX8_firstOf_50 : decode cX8_firstOf 50 = .ok (.ireturn, 1) := by decide +kernel
theorem dX8_firstOf_51 : decode cX8_firstOf 51 = .ok (.iinc 4 1, 3) := by decide +kernel
theorem dX8_firstOf_54 : decode cX8_firstOf 54 = .ok (.goto (-39), 3) := by decide +kernel
theorem dX8_firstOf_57 : decode cX8_firstOf 57 = .ok (.aload_n 0, 1) := by decide +kernel
theorem dX8_firstOf_58 : decode cX8_firstOf 58 = .ok (.iload_n 1, 1) := by decide +kernel
theorem dX8_firstOf_59 : decode cX8_firstOf 59 = .ok (.aload_n 0, 1) := by decide +kernel
theorem dX8_firstOf_60 : decode cX8_firstOf 60 = .ok (.getfield 19, 3) := by decide +kernel
theorem dX8_firstOf_63 : decode cX8_firstOf 63 = .ok (.iconst 0, 1) := by decide +kernel
theorem dX8_firstOf_64 : decode cX8_firstOf 64 = .ok (.iaload, 1) := by decide +kernel
theorem dX8_firstOf_65 : decode cX8_firstOf 65 = .ok (.iload_n 3, 1) := by decide +kernel
theorem dX8_firstOf_66 : decode cX8_firstOf 66 = .ok (.iadd, 1) := by decide +kernel
theorem dX8_firstOf_67 : decode cX8_firstOf 67 = .ok (.iconst 1, 1) := by decide +kernel
theorem dX8_firstOf_68 : decode cX8_firstOf 68 = .ok (.iadd, 1) := by decide +kernel
theorem dX8_firstOf_69 : decode cX8_firstOf 69 = .ok (.invokevirtual 287, 3) := by decide +kernel
theorem dX8_firstOf_72 : decode cX8_firstOf 72 = .ok (.iinc 3 1, 3) := by decide +kernel
theorem dX8_firstOf_75 : decode cX8_firstOf 75 = .ok (.goto (-68), 3) := by decide +kernel
theorem dX8_firstOf_78 : decode cX8_firstOf 78 = .ok (.iconst (-1), 1) := by decide +kernel
theorem dX8_firstOf_79 : decode cX8_firstOf 79 = .ok (.ireturn, 1) := by decide +kernel
theorem dX8_first_0 : decode cX8_first 0 = .ok (.aload_n 0, 1) := by decide +kernel
theorem dX8_first_1 : decode cX8_first 1 = .ok (.iload_n 1, 1) := by decide +kernel
theorem dX8_first_2 : decode cX8_first 2 = .ok (.invokevirtual 281, 3) := by decide +kernel
theorem dX8_first_5 : decode cX8_first 5 = .ok (.ifCond .ne 6, 3) := by decide +kernel
theorem dX8_first_8 : decode cX8_first 8 = .ok (.ldc 249, 2) := by decide +kernel
theorem dX8_first_10 : decode cX8_first 10 = .ok (.ireturn, 1) := by decide +kernel
theorem dX8_first_11 : decode cX8_first 11 = .ok (.iload_n 2, 1) := by decide +kernel
theorem dX8_first_12 : decode cX8_first 12 = .ok (.i2l, 1) := by decide +kernel
theorem dX8_first_13 : decode cX8_first 13 = .ok (.lconst 0, 1) := by decide +kernel
theorem dX8_first_14 : decode cX8_first 14 = .ok (.lconst 1, 1) := by decide +kernel
theorem dX8_first_15 : decode cX8_first 15 = .ok (.invokestatic 79, 3) := by decide +kernel
theorem dX8_first_18 : decode cX8_first 18 = .ok (.ifCond .ne 6, 3) := by decide +kernel
theorem dX8_first_21 : decode cX8_first 21 = .ok (.ldc 94, 2) := by decide +kernel
theorem dX8_first_23 : decode cX8_first 23 = .ok (.ireturn, 1) := by decide +kernel
theorem dX8_first_24 : decode cX8_first 24 = .ok (.aload_n 0, 1) := by decide +kernel
theorem dX8_first_25 : decode cX8_first 25 = .ok (.iload_n 1, 1) := by decide +kernel
theorem dX8_first_26 : decode cX8_first 26 = .ok (.bipush 40, 2) := by decide +kernel
theorem dX8_first_28 : decode cX8_first 28 = .ok (.invokevirtual 294, 3) := by decide +kernel
theorem dX8_first_31 : decode cX8_first 31 = .ok (.istore_n 3, 1) := by decide +kernel
theorem dX8_first_32 : decode cX8_first 32 = .ok (.iload_n 3, 1) := by decide +kernel
theorem dX8_first_33 : decode cX8_first 33 = .ok (.iconst (-1), 1) := by decide +kernel
theorem dX8_first_34 : decode cX8_first 34 = .ok (.if_icmp .eq 7, 3) := by decide +kernel
theorem dX8_first_37 : decode cX8_first 37 = .ok (.iload_n 2, 1) := by decide +kernel
theorem dX8_first_38 : decode cX8_first 38 = .ok (.ifCond .ne 7, 3) := by decide +kernel
theorem dX8_first_41 : decode cX8_first 41 = .ok (.iload_n 3, 1) := by decide +kernel
theorem dX8_first_42 : decode cX8_first 42 = .ok (.goto 7, 3) := by decide +kernel
theorem dX8_first_45 : decode cX8_first 45 = .ok (.aload_n 0, 1) := by decide +kernel
theorem dX8_first_46 : decode cX8_first 46 = .ok (.getfield 291, 3) := by decide +kernel
theorem dX8_first_49 : decode cX8_first 49 = .ok (.ireturn, 1) := by decide +kernel
theorem dX8_sawed_0 : decode cX8_sawed 0 = .ok (.aload_n 0, 1) := by decide +kernel
theorem dX8_sawed_1 : decode cX8_sawed 1 = .ok (.iload_n 1, 1) := by decide +kernel
theorem dX8_sawed_2 : decode cX8_sawed 2 = .ok (.invokevirtual 281, 3) := by decide +kernel
theorem dX8_sawed_5 : decode cX8_sawed 5 = .ok (.ifCond .eq 16, 3) := by decide +kernel
theorem dX8_sawed_8 : decode cX8_sawed 8 = .ok (.iload_n 3, 1) := by decide +kernel
theorem dX8_sawed_9 : decode cX8_sawed 9 = .ok (.iconst (-1), 1) := by decide +kernel
theorem dX8_sawed_10 : decode cX8_sawed 10 = .ok (.if_icmp .eq 14, 3) := by decide +kernel
theorem dX8_sawed_13 : decode cX8_sawed 13 = .ok (.aload_n 0, 1) := by decide +kernel
theorem dX8_sawed_14 : decode cX8_sawed 14 = .ok (.iload_n 3, 1) := by decide +kernel
theorem dX8_sawed_15 : decode cX8_sawed 15 = .ok (.invokevirtual 252, 3) := by decide +kernel
theorem dX8_sawed_18 : decode cX8_sawed 18 = .ok (.ifCond .ne 6, 3) := by decide +kernel
theorem dX8_sawed_21 : decode cX8_sawed 21 = .ok (.ldc 249, 2) := by decide +kernel
theorem dX8_sawed_23 : decode cX8_sawed 23 = .ok (.ireturn, 1) := by decide +kernel
theorem dX8_sawed_24 : decode cX8_sawed 24 = .ok (.iload_n 2, 1) := by decide +kernel
theorem dX8_sawed_25 : decode cX8_sawed 25 = .ok (.i2l, 1) := by decide +kernel
theorem dX8_sawed_26 : decode cX8_sawed 26 = .ok (.lconst 0, 1) := by decide +kernel
theorem dX8_sawed_27 : decode cX8_sawed 27 = .ok (.ldc2_w 297, 3) := by decide +kernel
theorem dX8_sawed_30 : decode cX8_sawed 30 = .ok (.invokestatic 79, 3) := by decide +kernel
theorem dX8_sawed_33 : decode cX8_sawed 33 = .ok (.ifCond .ne 6, 3) := by decide +kernel
theorem dX8_sawed_36 : decode cX8_sawed 36 = .ok (.ldc 94, 2) := by decide +kernel
theorem dX8_sawed_38 : decode cX8_sawed 38 = .ok (.ireturn, 1) := by decide +kernel
theorem dX8_sawed_39 : decode cX8_sawed 39 = .ok (.iconst 1, 1) := by decide +kernel
theorem dX8_sawed_40 : decode cX8_sawed 40 = .ok (.istore 4, 2) := by decide +kernel
theorem dX8_sawed_42 : decode cX8_sawed 42 = .ok (.iconst 0, 1) := by decide +kernel
theorem dX8_sawed_43 : decode cX8_sawed 43 = .ok (.istore 5, 2) := by decide +kernel
theorem dX8_sawed_45 : decode cX8_sawed 45 = .ok (.iload 5, 2) := by decide +kernel
theorem dX8_sawed_47 : decode cX8_sawed 47 = .ok (.aload_n 0, 1) := by decide +kernel
theorem dX8_sawed_48 : decode cX8_sawed 48 = .ok (.getfield 86, 3) := by decide +kernel
theorem dX8_sawed_51 : decode cX8_sawed 51 = .ok (.if_icmp .ge 44, 3) := by decide +kernel
theorem dX8_sawed_54 : decode cX8_sawed 54 = .ok (.aload_n 0, 1) := by decide +kernel
theorem dX8_sawed_55 : decode cX8_sawed 55 = .ok (.getfield 60, 3) := by decide +kernel
theorem dX8_sawed_58 : decode cX8_sawed 58 = .ok (.iload 5, 2) := by decide +kernel
theorem dX8_sawed_60 : decode cX8_sawed 60 = .ok (.aload_n 0, 1) := by decide +kernel
theorem dX8_sawed_61 : decode cX8_sawed 61 = .ok (.getfield 19, 3) := by decide +kernel
theorem dX8_sawed_64 : decode cX8_sawed 64 = .ok (.iconst 2, 1) := by decide +kernel
theorem dX8_sawed_65 : decode cX8_sawed 65 = .ok (.bipush 6, 2) := by decide +kernel
theorem dX8_sawed_67 : decode cX8_sawed 67 = .ok (.iload 5, 2) := by decide +kernel
theorem dX8_sawed_69 : decode cX8_sawed 69 = .ok (.imul, 1) := by decide +kernel
theorem dX8_sawed_70 : decode cX8_sawed 70 = .ok (.iadd, 1) := by decide +kernel
theorem dX8_sawed_71 : decode cX8_sawed 71 = .ok (.iconst 2, 1) := by decide +kernel
theorem dX8_sawed_72 : decode cX8_sawed 72 = .ok (.iadd, 1) := by decide +kernel
theorem dX8_sawed_73 : decode cX8_sawed 73 = .ok (.iaload, 1) := by decide +kernel
theorem dX8_sawed_74 : decode cX8_sawed 74 = .ok (.iastore, 1) := by decide +kernel
theorem dX8_sawed_75 : decode cX8_sawed 75 = .ok (.iload 4, 2) := by decide +kernel
theorem dX8_sawed_77 : decode cX8_sawed 77 = .ok (.aload_n 0, 1) := by decide +kernel
theorem dX8_sawed_78 : decode cX8_sawed 78 = .ok (.getfield 60, 3) := by decide +kernel
theorem dX8_sawed_81 : decode cX8_sawed 81 = .ok (.iload 5, 2) := by decide +kernel
theorem dX8_sawed_83 : decode cX8_sawed 83 = .ok (.iaload, 1) := by decide +kernel
theorem dX8_sawed_84 : decode cX8_sawed 84 = .ok (.iconst 1, 1) := by decide +kernel
theorem dX8_sawed_85 : decode cX8_sawed 85 = .ok (.iadd, 1) := by decide +kernel
theorem dX8_sawed_86 : decode cX8_sawed 86 = .ok (.imul, 1) := by decide +kernel
theorem dX8_sawed_87 : decode cX8_sawed 87 = .ok (.istore 4, 2) := by decide +kernel
theorem dX8_sawed_89 : decode cX8_sawed 89 = .ok (.iinc 5 1, 3) := by decide +kernel
theorem dX8_sawed_92 : decode cX8_sawed 92 = .ok (.goto (-47), 3) := by decide +kernel
theorem dX8_sawed_95 : decode cX8_sawed 95 = .ok (.iconst (-1), 1) := by decide +kernel
theorem dX8_sawed_96 : decode cX8_sawed 96 = .ok (.istore 5, 2) := by decide +kernel
theorem dX8_sawed_98 : decode cX8_sawed 98 = .ok (.iconst 0, 1) := by decide +kernel
theorem dX8_sawed_99 : decode cX8_sawed 99 = .ok (.istore 6, 2) := by decide +kernel
theorem dX8_sawed_101 : decode cX8_sawed 101 = .ok (.iload 6, 2) := by decide +kernel
theorem dX8_sawed_103 : decode cX8_sawed 103 = .ok (.iload 4, 2) := by decide +kernel
theorem dX8_sawed_105 : decode cX8_sawed 105 = .ok (.if_icmp .ge 168, 3) := by decide +kernel
theorem dX8_sawed_108 : decode cX8_sawed 108 = .ok (.iload 6, 2) := by decide +kernel
theorem dX8_sawed_110 : decode cX8_sawed 110 = .ok (.istore 7, 2) := by decide +kernel
theorem dX8_sawed_112 : decode cX8_sawed 112 = .ok (.iconst 0, 1) := by decide +kernel
theorem dX8_sawed_113 : decode cX8_sawed 113 = .ok (.istore 8, 2) := by decide +kernel
theorem dX8_sawed_115 : decode cX8_sawed 115 = .ok (.aload_n 0, 1) := by decide +kernel
theorem dX8_sawed_116 : decode cX8_sawed 116 = .ok (.getfield 86, 3) := by decide +kernel
theorem dX8_sawed_119 : decode cX8_sawed 119 = .ok (.iconst 1, 1) := by decide +kernel
theorem dX8_sawed_120 : decode cX8_sawed 120 = .ok (.isub, 1) := by decide +kernel
theorem dX8_sawed_121 : decode cX8_sawed 121 = .ok (.istore 9, 2) := by decide +kernel
theorem dX8_sawed_123 : decode cX8_sawed 123 = .ok (.iload 9, 2) := by decide +kernel
theorem dX8_sawed_125 : decode cX8_sawed 125 = .ok (.ifCond .lt 68, 3) := by decide +kernel
theorem dX8_sawed_128 : decode cX8_sawed 128 = .ok (.iload 7, 2) := by decide +kernel
theorem dX8_sawed_130 : decode cX8_sawed 130 = .ok (.aload_n 0, 1) := by decide +kernel
theorem dX8_sawed_131 : decode cX8_sawed 131 = .ok (.getfield 60, 3) := by decide +kernel
theorem dX8_sawed_134 : decode cX8_sawed 134 = .ok (.iload 9, 2) := by decide +kernel
theorem dX8_sawed_136 : decode cX8_sawed 136 = .ok (.iaload, 1) := by decide +kernel
theorem dX8_sawed_137 : decode cX8_sawed 137 = .ok (.iconst 1, 1) := by decide +kernel
theorem dX8_sawed_138 : decode cX8_sawed 138 = .ok (.iadd, 1) := by decide +kernel
theorem dX8_sawed_139 : decode cX8_sawed 139 = .ok (.irem, 1) := by decide +kernel
theorem dX8_sawed_140 : decode cX8_sawed 140 = .ok (.istore 10, 2) := by decide +kernel
theorem dX8_sawed_142 : decode cX8_sawed 142 = .ok (.iload 7, 2) := by decide +kernel
theorem dX8_sawed_144 : decode cX8_sawed 144 = .ok (.aload_n 0, 1) := by decide +kernel
theorem dX8_sawed_145 : decode cX8_sawed 145 = .ok (.getfield 60, 3) := by decide +kernel
theorem dX8_sawed_148 : decode cX8_sawed 148 = .ok (.iload 9, 2) := by decide +kernel
theorem dX8_sawed_150 : decode cX8_sawed 150 = .ok (.iaload, 1) := by decide +kernel
theorem dX8_sawed_151 : decode cX8_sawed 151 = .ok (.iconst 1, 1) := by decide +kernel
theorem dX8_sawed_152 : decode cX8_sawed 152 = .ok (.iadd, 1) := by decide +kernel
theorem dX8_sawed_153 : decode cX8_sawed 153 = .ok (.idiv, 1) := by decide +kernel
theorem dX8_sawed_154 : decode cX8_sawed 154 = .ok (.istore 7, 2) := by decide +kernel
theorem dX8_sawed_156 : decode cX8_sawed 156 = .ok (.aload_n 0, 1) := by decide +kernel
theorem dX8_sawed_157 : decode cX8_sawed 157 = .ok (.getfield 19, 3) := by decide +kernel
theorem dX8_sawed_160 : decode cX8_sawed 160 = .ok (.iconst 2, 1) := by decide +kernel
theorem dX8_sawed_161 : decode cX8_sawed 161 = .ok (.bipush 6, 2) := by decide +kernel
theorem dX8_sawed_163 : decode cX8_sawed 163 = .ok (.iload 9, 2) := by decide +kernel
theorem dX8_sawed_165 : decode cX8_sawed 165 = .ok (.imul, 1) := by decide +kernel
theorem dX8_sawed_166 : decode cX8_sawed 166 = .ok (.iadd, 1) := by decide +kernel
theorem dX8_sawed_167 : decode cX8_sawed 167 = .ok (.iconst 2, 1) := by decide +kernel
theorem dX8_sawed_168 : decode cX8_sawed 168 = .ok (.iadd, 1) := by decide +kernel
theorem dX8_sawed_169 : decode cX8_sawed 169 = .ok (.aload_n 0, 1) := by decide +kernel
theorem dX8_sawed_170 : decode cX8_sawed 170 = .ok (.getfield 60, 3) := by decide +kernel
theorem dX8_sawed_173 : decode cX8_sawed 173 = .ok (.iload 9, 2) := by decide +kernel
theorem dX8_sawed_175 : decode cX8_sawed 175 = .ok (.iaload, 1) := by decide +kernel
theorem dX8_sawed_176 : decode cX8_sawed 176 = .ok (.iload 10, 2) := by decide +kernel
theorem dX8_sawed_178 : decode cX8_sawed 178 = .ok (.isub, 1) := by decide +kernel
theorem dX8_sawed_179 : decode cX8_sawed 179 = .ok (.iastore, 1) := by decide +kernel
theorem dX8_sawed_180 : decode cX8_sawed 180 = .ok (.iload 8, 2) := by decide +kernel
theorem dX8_sawed_182 : decode cX8_sawed 182 = .ok (.iload 10, 2) := by decide +kernel
theorem dX8_sawed_184 : decode cX8_sawed 184 = .ok (.iadd, 1) := by decide +kernel
theorem dX8_sawed_185 : decode cX8_sawed 185 = .ok (.istore 8, 2) := by decide +kernel
theorem dX8_sawed_187 : decode cX8_sawed 187 = .ok (.iinc 9 (-1), 3) := by decide +kernel
theorem dX8_sawed_190 : decode cX8_sawed 190 = .ok (.goto (-67), 3) := by decide +kernel
theorem dX8_sawed_193 : decode cX8_sawed 193 = .ok (.iload 5, 2) := by decide +kernel
theorem dX8_sawed_195 : decode cX8_sawed 195 = .ok (.iconst (-1), 1) := by decide +kernel
theorem dX8_sawed_196 : decode cX8_sawed 196 = .ok (.if_icmp .eq 10, 3) := by decide +kernel
theorem dX8_sawed_199 : decode cX8_sawed 199 = .ok (.iload 8, 2) := by decide +kernel
theorem dX8_sawed_201 : decode cX8_sawed 201 = .ok (.iload 5, 2) := by decide +kernel
theorem dX8_sawed_203 : decode cX8_sawed 203 = .ok (.if_icmp .ge 64, 3) := by decide +kernel
theorem dX8_sawed_206 : decode cX8_sawed 206 = .ok (.aload_n 0, 1) := by decide +kernel
theorem dX8_sawed_207 : decode cX8_sawed 207 = .ok (.iload_n 1, 1) := by decide +kernel
theorem dX8_sawed_208 : decode cX8_sawed 208 = .ok (.iload_n 2, 1) := by decide +kernel
theorem dX8_sawed_209 : decode cX8_sawed 209 = .ok (.invokevirtual 294, 3) := by decide +kernel
theorem dX8_sawed_212 : decode cX8_sawed 212 = .ok (.iconst (-1), 1) := by decide +kernel
theorem dX8_sawed_213 : decode cX8_sawed 213 = .ok (.if_icmp .ne 54, 3) := by decide +kernel
theorem dX8_sawed_216 : decode cX8_sawed 216 = .ok (.iload 8, 2) := by decide +kernel
theorem dX8_sawed_218 : decode cX8_sawed 218 = .ok (.istore 5, 2) := by decide +kernel
theorem dX8_sawed_220 : decode cX8_sawed 220 = .ok (.iconst 0, 1) := by decide +kernel
theorem dX8_sawed_221 : decode cX8_sawed 221 = .ok (.istore 9, 2) := by decide +kernel
theorem dX8_sawed_223 : decode cX8_sawed 223 = .ok (.iload 9, 2) := by decide +kernel
theorem dX8_sawed_225 : decode cX8_sawed 225 = .ok (.aload_n 0, 1) := by decide +kernel
theorem dX8_sawed_226 : decode cX8_sawed 226 = .ok (.getfield 86, 3) := by decide +kernel
theorem dX8_sawed_229 : decode cX8_sawed 229 = .ok (.if_icmp .ge 38, 3) := by decide +kernel
theorem dX8_sawed_232 : decode cX8_sawed 232 = .ok (.aload_n 0, 1) := by decide +kernel
theorem dX8_sawed_233 : decode cX8_sawed 233 = .ok (.getfield 57, 3) := by decide +kernel
theorem dX8_sawed_236 : decode cX8_sawed 236 = .ok (.iload 9, 2) := by decide +kernel
theorem dX8_sawed_238 : decode cX8_sawed 238 = .ok (.aload_n 0, 1) := by decide +kernel
theorem dX8_sawed_239 : decode cX8_sawed 239 = .ok (.getfield 60, 3) := by decide +kernel
theorem dX8_sawed_242 : decode cX8_sawed 242 = .ok (.iload 9, 2) := by decide +kernel
theorem dX8_sawed_244 : decode cX8_sawed 244 = .ok (.iaload, 1) := by decide +kernel
theorem dX8_sawed_245 : decode cX8_sawed 245 = .ok (.aload_n 0, 1) := by decide +kernel
theorem dX8_sawed_246 : decode cX8_sawed 246 = .ok (.getfield 19, 3) := by decide +kernel
theorem dX8_sawed_249 : decode cX8_sawed 249 = .ok (.iconst 2, 1) := by decide +kernel
theorem dX8_sawed_250 : decode cX8_sawed 250 = .ok (.bipush 6, 2) := by decide +kernel
theorem dX8_sawed_252 : decode cX8_sawed 252 = .ok (.iload 9, 2) := by decide +kernel
theorem dX8_sawed_254 : decode cX8_sawed 254 = .ok (.imul, 1) := by decide +kernel
theorem dX8_sawed_255 : decode cX8_sawed 255 = .ok (.iadd, 1) := by decide +kernel
theorem dX8_sawed_256 : decode cX8_sawed 256 = .ok (.iconst 2, 1) := by decide +kernel
theorem dX8_sawed_257 : decode cX8_sawed 257 = .ok (.iadd, 1) := by decide +kernel
theorem dX8_sawed_258 : decode cX8_sawed 258 = .ok (.iaload, 1) := by decide +kernel
theorem dX8_sawed_259 : decode cX8_sawed 259 = .ok (.isub, 1) := by decide +kernel
theorem dX8_sawed_260 : decode cX8_sawed 260 = .ok (.iastore, 1) := by decide +kernel
theorem dX8_sawed_261 : decode cX8_sawed 261 = .ok (.iinc 9 1, 3) := by decide +kernel
theorem dX8_sawed_264 : decode cX8_sawed 264 = .ok (.goto (-41), 3) := by decide +kernel
theorem dX8_sawed_267 : decode cX8_sawed 267 = .ok (.iinc 6 1, 3) := by decide +kernel
theorem dX8_sawed_270 : decode cX8_sawed 270 = .ok (.goto (-169), 3) := by decide +kernel
theorem dX8_sawed_273 : decode cX8_sawed 273 = .ok (.iconst 0, 1) := by decide +kernel
theorem dX8_sawed_274 : decode cX8_sawed 274 = .ok (.istore 6, 2) := by decide +kernel
theorem dX8_sawed_276 : decode cX8_sawed 276 = .ok (.iload 6, 2) := by decide +kernel
theorem dX8_sawed_278 : decode cX8_sawed 278 = .ok (.aload_n 0, 1) := by decide +kernel
theorem dX8_sawed_279 : decode cX8_sawed 279 = .ok (.getfield 86, 3) := by decide +kernel
theorem dX8_sawed_282 : decode cX8_sawed 282 = .ok (.if_icmp .ge 30, 3) := by decide +kernel
theorem dX8_sawed_285 : decode cX8_sawed 285 = .ok (.aload_n 0, 1) := by decide +kernel
theorem dX8_sawed_286 : decode cX8_sawed 286 = .ok (.getfield 19, 3) := by decide +kernel
theorem dX8_sawed_289 : decode cX8_sawed 289 = .ok (.iconst 2, 1) := by decide +kernel
theorem dX8_sawed_290 : decode cX8_sawed 290 = .ok (.bipush 6, 2) := by decide +kernel
theorem dX8_sawed_292 : decode cX8_sawed 292 = .ok (.iload 6, 2) := by decide +kernel
theorem dX8_sawed_294 : decode cX8_sawed 294 = .ok (.imul, 1) := by decide +kernel
theorem dX8_sawed_295 : decode cX8_sawed 295 = .ok (.iadd, 1) := by decide +kernel
theorem dX8_sawed_296 : decode cX8_sawed 296 = .ok (.iconst 2, 1) := by decide +kernel
theorem dX8_sawed_297 : decode cX8_sawed 297 = .ok (.iadd, 1) := by decide +kernel
theorem dX8_sawed_298 : decode cX8_sawed 298 = .ok (.aload_n 0, 1) := by decide +kernel
theorem dX8_sawed_299 : decode cX8_sawed 299 = .ok (.getfield 60, 3) := by decide +kernel
theorem dX8_sawed_302 : decode cX8_sawed 302 = .ok (.iload 6, 2) := by decide +kernel
theorem dX8_sawed_304 : decode cX8_sawed 304 = .ok (.iaload, 1) := by decide +kernel
theorem dX8_sawed_305 : decode cX8_sawed 305 = .ok (.iastore, 1) := by decide +kernel
theorem dX8_sawed_306 : decode cX8_sawed 306 = .ok (.iinc 6 1, 3) := by decide +kernel
theorem dX8_sawed_309 : decode cX8_sawed 309 = .ok (.goto (-33), 3) := by decide +kernel
theorem dX8_sawed_312 : decode cX8_sawed 312 = .ok (.iload 5, 2) := by decide +kernel
theorem dX8_sawed_314 : decode cX8_sawed 314 = .ok (.iconst (-1), 1) := by decide +kernel
theorem dX8_sawed_315 : decode cX8_sawed 315 = .ok (.if_icmp .eq 8, 3) := by decide +kernel
theorem dX8_sawed_318 : decode cX8_sawed 318 = .ok (.iload_n 3, 1) := by decide +kernel
theorem dX8_sawed_319 : decode cX8_sawed 319 = .ok (.iconst (-1), 1) := by decide +kernel
theorem dX8_sawed_320 : decode cX8_sawed 320 = .ok (.if_icmp .ne 8, 3) := by decide +kernel
theorem dX8_sawed_323 : decode cX8_sawed 323 = .ok (.iload 5, 2) := by decide +kernel
theorem dX8_sawed_325 : decode cX8_sawed 325 = .ok (.goto 9, 3) := by decide +kernel
theorem dX8_sawed_328 : decode cX8_sawed 328 = .ok (.aload_n 0, 1) := by decide +kernel
theorem dX8_sawed_329 : decode cX8_sawed 329 = .ok (.getfield 57, 3) := by decide +kernel
theorem dX8_sawed_332 : decode cX8_sawed 332 = .ok (.iload_n 3, 1) := by decide +kernel
theorem dX8_sawed_333 : decode cX8_sawed 333 = .ok (.iaload, 1) := by decide +kernel
theorem dX8_sawed_334 : decode cX8_sawed 334 = .ok (.ireturn, 1) := by decide +kernel
theorem dX8_bestStake_0 : decode cX8_bestStake 0 = .ok (.aload_n 0, 1) := by decide +kernel
theorem dX8_bestStake_1 : decode cX8_bestStake 1 = .ok (.iload_n 1, 1) := by decide +kernel
theorem dX8_bestStake_2 : decode cX8_bestStake 2 = .ok (.invokevirtual 281, 3) := by decide +kernel
theorem dX8_bestStake_5 : decode cX8_bestStake 5 = .ok (.ifCond .ne 6, 3) := by decide +kernel
theorem dX8_bestStake_8 : decode cX8_bestStake 8 = .ok (.ldc 249, 2) := by decide +kernel
theorem dX8_bestStake_10 : decode cX8_bestStake 10 = .ok (.ireturn, 1) := by decide +kernel
theorem dX8_bestStake_11 : decode cX8_bestStake 11 = .ok (.iload_n 2, 1) := by decide +kernel
theorem dX8_bestStake_12 : decode cX8_bestStake 12 = .ok (.i2l, 1) := by decide +kernel
theorem dX8_bestStake_13 : decode cX8_bestStake 13 = .ok (.lconst 0, 1) := by decide +kernel
theorem dX8_bestStake_14 : decode cX8_bestStake 14 = .ok (.lconst 1, 1) := by decide +kernel
theorem dX8_bestStake_15 : decode cX8_bestStake 15 = .ok (.invokestatic 79, 3) := by decide +kernel
theorem dX8_bestStake_18 : decode cX8_bestStake 18 = .ok (.ifCond .ne 6, 3) := by decide +kernel
theorem dX8_bestStake_21 : decode cX8_bestStake 21 = .ok (.ldc 94, 2) := by decide +kernel
theorem dX8_bestStake_23 : decode cX8_bestStake 23 = .ok (.ireturn, 1) := by decide +kernel
theorem dX8_bestStake_24 : decode cX8_bestStake 24 = .ok (.iconst (-1), 1) := by decide +kernel
theorem dX8_bestStake_25 : decode cX8_bestStake 25 = .ok (.istore_n 3, 1) := by decide +kernel
theorem dX8_bestStake_26 : decode cX8_bestStake 26 = .ok (.iconst (-1), 1) := by decide +kernel
theorem dX8_bestStake_27 : decode cX8_bestStake 27 = .ok (.istore 4, 2) := by decide +kernel
theorem dX8_bestStake_29 : decode cX8_bestStake 29 = .ok (.iconst 0, 1) := by decide +kernel
theorem dX8_bestStake_30 : decode cX8_bestStake 30 = .ok (.istore 5, 2) := by decide +kernel
theorem dX8_bestStake_32 : decode cX8_bestStake 32 = .ok (.iload 5, 2) := by decide +kernel
theorem dX8_bestStake_34 : decode cX8_bestStake 34 = .ok (.aload_n 0, 1) := by decide +kernel
theorem dX8_bestStake_35 : decode cX8_bestStake 35 = .ok (.getfield 76, 3) := by decide +kernel
theorem dX8_bestStake_38 : decode cX8_bestStake 38 = .ok (.aload_n 0, 1) := by decide +kernel
theorem dX8_bestStake_39 : decode cX8_bestStake 39 = .ok (.getfield 83, 3) := by decide +kernel
theorem dX8_bestStake_42 : decode cX8_bestStake 42 = .ok (.imul, 1) := by decide +kernel
theorem dX8_bestStake_43 : decode cX8_bestStake 43 = .ok (.if_icmp .ge 79, 3) := by decide +kernel
theorem dX8_bestStake_46 : decode cX8_bestStake 46 = .ok (.aload_n 0, 1) := by decide +kernel
theorem dX8_bestStake_47 : decode cX8_bestStake 47 = .ok (.getfield 19, 3) := by decide +kernel
theorem dX8_bestStake_50 : decode cX8_bestStake 50 = .ok (.bipush 26, 2) := by decide +kernel
theorem dX8_bestStake_52 : decode cX8_bestStake 52 = .ok (.iload 5, 2) := by decide +kernel
theorem dX8_bestStake_54 : decode cX8_bestStake 54 = .ok (.iadd, 1) := by decide +kernel
theorem dX8_bestStake_55 : decode cX8_bestStake 55 = .ok (.iaload, 1) := by decide +kernel
theorem dX8_bestStake_56 : decode cX8_bestStake 56 = .ok (.istore 6, 2) := by decide +kernel
theorem dX8_bestStake_58 : decode cX8_bestStake 58 = .ok (.aload_n 0, 1) := by decide +kernel
theorem dX8_bestStake_59 : decode cX8_bestStake 59 = .ok (.getfield 19, 3) := by decide +kernel
theorem dX8_bestStake_62 : decode cX8_bestStake 62 = .ok (.bipush 26, 2) := by decide +kernel
theorem dX8_bestStake_64 : decode cX8_bestStake 64 = .ok (.iload 5, 2) := by decide +kernel
theorem dX8_bestStake_66 : decode cX8_bestStake 66 = .ok (.iadd, 1) := by decide +kernel
theorem dX8_bestStake_67 : decode cX8_bestStake 67 = .ok (.iconst 1, 1) := by decide +kernel
theorem dX8_bestStake_68 : decode cX8_bestStake 68 = .ok (.iastore, 1) := by decide +kernel
theorem dX8_bestStake_69 : decode cX8_bestStake 69 = .ok (.aload_n 0, 1) := by decide +kernel
theorem dX8_bestStake_70 : decode cX8_bestStake 70 = .ok (.iload_n 1, 1) := by decide +kernel
theorem dX8_bestStake_71 : decode cX8_bestStake 71 = .ok (.bipush 40, 2) := by decide +kernel
theorem dX8_bestStake_73 : decode cX8_bestStake 73 = .ok (.invokevirtual 294, 3) := by decide +kernel
theorem dX8_bestStake_76 : decode cX8_bestStake 76 = .ok (.istore 7, 2) := by decide +kernel
theorem dX8_bestStake_78 : decode cX8_bestStake 78 = .ok (.aload_n 0, 1) := by decide +kernel
theorem dX8_bestStake_79 : decode cX8_bestStake 79 = .ok (.getfield 19, 3) := by decide +kernel
theorem dX8_bestStake_82 : decode cX8_bestStake 82 = .ok (.bipush 26, 2) := by decide +kernel
theorem dX8_bestStake_84 : decode cX8_bestStake 84 = .ok (.iload 5, 2) := by decide +kernel
theorem dX8_bestStake_86 : decode cX8_bestStake 86 = .ok (.iadd, 1) := by decide +kernel
theorem dX8_bestStake_87 : decode cX8_bestStake 87 = .ok (.iload 6, 2) := by decide +kernel
theorem dX8_bestStake_89 : decode cX8_bestStake 89 = .ok (.iastore, 1) := by decide +kernel
theorem dX8_bestStake_90 : decode cX8_bestStake 90 = .ok (.iload 7, 2) := by decide +kernel
theorem dX8_bestStake_92 : decode cX8_bestStake 92 = .ok (.iconst (-1), 1) := by decide +kernel
theorem dX8_bestStake_93 : decode cX8_bestStake 93 = .ok (.if_icmp .eq 23, 3) := by decide +kernel
theorem dX8_bestStake_96 : decode cX8_bestStake 96 = .ok (.iload 4, 2) := by decide +kernel
theorem dX8_bestStake_98 : decode cX8_bestStake 98 = .ok (.iconst (-1), 1) := by decide +kernel
theorem dX8_bestStake_99 : decode cX8_bestStake 99 = .ok (.if_icmp .eq 10, 3) := by decide +kernel
theorem dX8_bestStake_102 : decode cX8_bestStake 102 = .ok (.iload 7, 2) := by decide +kernel
theorem dX8_bestStake_104 : decode cX8_bestStake 104 = .ok (.iload 4, 2) := by decide +kernel
theorem dX8_bestStake_106 : decode cX8_bestStake 106 = .ok (.if_icmp .ge 10, 3) := by decide +kernel
theorem dX8_bestStake_109 : decode cX8_bestStake 109 = .ok (.iload 7, 2) := by decide +kernel
theorem dX8_bestStake_111 : decode cX8_bestStake 111 = .ok (.istore 4, 2) := by decide +kernel
theorem dX8_bestStake_113 : decode cX8_bestStake 113 = .ok (.iload 5, 2) := by decide +kernel
theorem dX8_bestStake_115 : decode cX8_bestStake 115 = .ok (.istore_n 3, 1) := by decide +kernel
theorem dX8_bestStake_116 : decode cX8_bestStake 116 = .ok (.iinc 5 1, 3) := by decide +kernel
theorem dX8_bestStake_119 : decode cX8_bestStake 119 = .ok (.goto (-87), 3) := by decide +kernel
theorem dX8_bestStake_122 : decode cX8_bestStake 122 = .ok (.iload_n 2, 1) := by decide +kernel
theorem dX8_bestStake_123 : decode cX8_bestStake 123 = .ok (.iconst 1, 1) := by decide +kernel
theorem dX8_bestStake_124 : decode cX8_bestStake 124 = .ok (.if_icmp .ne 8, 3) := by decide +kernel
theorem dX8_bestStake_127 : decode cX8_bestStake 127 = .ok (.iload 4, 2) := by decide +kernel
theorem dX8_bestStake_129 : decode cX8_bestStake 129 = .ok (.goto 17, 3) := by decide +kernel
theorem dX8_bestStake_132 : decode cX8_bestStake 132 = .ok (.iload_n 3, 1) := by decide +kernel
theorem dX8_bestStake_133 : decode cX8_bestStake 133 = .ok (.iconst (-1), 1) := by decide +kernel
theorem dX8_bestStake_134 : decode cX8_bestStake 134 = .ok (.if_icmp .ne 7, 3) := by decide +kernel
theorem dX8_bestStake_137 : decode cX8_bestStake 137 = .ok (.iconst (-1), 1) := by decide +kernel
theorem dX8_bestStake_138 : decode cX8_bestStake 138 = .ok (.goto 8, 3) := by decide +kernel
theorem dX8_bestStake_141 : decode cX8_bestStake 141 = .ok (.aload_n 0, 1) := by decide +kernel
theorem dX8_bestStake_142 : decode cX8_bestStake 142 = .ok (.iload_n 3, 1) := by decide +kernel
theorem dX8_bestStake_143 : decode cX8_bestStake 143 = .ok (.invokevirtual 246, 3) := by decide +kernel
theorem dX8_bestStake_146 : decode cX8_bestStake 146 = .ok (.ireturn, 1) := by decide +kernel
theorem dX8_inch_0 : decode cX8_inch 0 = .ok (.aload_n 0, 1) := by decide +kernel
theorem dX8_inch_1 : decode cX8_inch 1 = .ok (.iload_n 1, 1) := by decide +kernel
theorem dX8_inch_2 : decode cX8_inch 2 = .ok (.invokevirtual 281, 3) := by decide +kernel
theorem dX8_inch_5 : decode cX8_inch 5 = .ok (.ifCond .eq 11, 3) := by decide +kernel
theorem dX8_inch_8 : decode cX8_inch 8 = .ok (.aload_n 0, 1) := by decide +kernel
theorem dX8_inch_9 : decode cX8_inch 9 = .ok (.iload_n 2, 1) := by decide +kernel
theorem dX8_inch_10 : decode cX8_inch 10 = .ok (.invokevirtual 252, 3) := by decide +kernel
theorem dX8_inch_13 : decode cX8_inch 13 = .ok (.ifCond .ne 6, 3) := by decide +kernel
theorem dX8_inch_16 : decode cX8_inch 16 = .ok (.ldc 249, 2) := by decide +kernel
theorem dX8_inch_18 : decode cX8_inch 18 = .ok (.ireturn, 1) := by decide +kernel
theorem dX8_inch_19 : decode cX8_inch 19 = .ok (.aload_n 0, 1) := by decide +kernel
theorem dX8_inch_20 : decode cX8_inch 20 = .ok (.iload_n 1, 1) := by decide +kernel
theorem dX8_inch_21 : decode cX8_inch 21 = .ok (.bipush 40, 2) := by decide +kernel
theorem dX8_inch_23 : decode cX8_inch 23 = .ok (.invokevirtual 294, 3) := by decide +kernel
theorem dX8_inch_26 : decode cX8_inch 26 = .ok (.istore_n 3, 1) := by decide +kernel
theorem dX8_inch_27 : decode cX8_inch 27 = .ok (.aload_n 0, 1) := by decide +kernel
theorem dX8_inch_28 : decode cX8_inch 28 = .ok (.getfield 19, 3) := by decide +kernel
theorem dX8_inch_31 : decode cX8_inch 31 = .ok (.iconst 2, 1) := by decide +kernel
theorem dX8_inch_32 : decode cX8_inch 32 = .ok (.bipush 6, 2) := by decide +kernel
theorem dX8_inch_34 : decode cX8_inch 34 = .ok (.iload_n 2, 1) := by decide +kernel
theorem dX8_inch_35 : decode cX8_inch 35 = .ok (.imul, 1) := by decide +kernel
theorem dX8_inch_36 : decode cX8_inch 36 = .ok (.iadd, 1) := by decide +kernel
theorem dX8_inch_37 : decode cX8_inch 37 = .ok (.iconst 2, 1) := by decide +kernel
theorem dX8_inch_38 : decode cX8_inch 38 = .ok (.iadd, 1) := by decide +kernel
theorem dX8_inch_39 : decode cX8_inch 39 = .ok (.dup2, 1) := by decide +kernel
theorem dX8_inch_40 : decode cX8_inch 40 = .ok (.iaload, 1) := by decide +kernel
theorem dX8_inch_41 : decode cX8_inch 41 = .ok (.iconst 1, 1) := by decide +kernel
theorem dX8_inch_42 : decode cX8_inch 42 = .ok (.iadd, 1) := by decide +kernel
theorem dX8_inch_43 : decode cX8_inch 43 = .ok (.iastore, 1) := by decide +kernel
theorem dX8_inch_44 : decode cX8_inch 44 = .ok (.aload_n 0, 1) := by decide +kernel
theorem dX8_inch_45 : decode cX8_inch 45 = .ok (.iload_n 1, 1) := by decide +kernel
theorem dX8_inch_46 : decode cX8_inch 46 = .ok (.bipush 40, 2) := by decide +kernel
theorem dX8_inch_48 : decode cX8_inch 48 = .ok (.invokevirtual 294, 3) := by decide +kernel
theorem dX8_inch_51 : decode cX8_inch 51 = .ok (.istore 4, 2) := by decide +kernel
theorem dX8_inch_53 : decode cX8_inch 53 = .ok (.aload_n 0, 1) := by decide +kernel
theorem dX8_inch_54 : decode cX8_inch 54 = .ok (.getfield 19, 3) := by decide +kernel
theorem dX8_inch_57 : decode cX8_inch 57 = .ok (.iconst 2, 1) := by decide +kernel
theorem dX8_inch_58 : decode cX8_inch 58 = .ok (.bipush 6, 2) := by decide +kernel
theorem dX8_inch_60 : decode cX8_inch 60 = .ok (.iload_n 2, 1) := by decide +kernel
theorem dX8_inch_61 : decode cX8_inch 61 = .ok (.imul, 1) := by decide +kernel
theorem dX8_inch_62 : decode cX8_inch 62 = .ok (.iadd, 1) := by decide +kernel
theorem dX8_inch_63 : decode cX8_inch 63 = .ok (.iconst 2, 1) := by decide +kernel
theorem dX8_inch_64 : decode cX8_inch 64 = .ok (.iadd, 1) := by decide +kernel
theorem dX8_inch_65 : decode cX8_inch 65 = .ok (.dup2, 1) := by decide +kernel
theorem dX8_inch_66 : decode cX8_inch 66 = .ok (.iaload, 1) := by decide +kernel
theorem dX8_inch_67 : decode cX8_inch 67 = .ok (.iconst 1, 1) := by decide +kernel
theorem dX8_inch_68 : decode cX8_inch 68 = .ok (.isub, 1) := by decide +kernel
theorem dX8_inch_69 : decode cX8_inch 69 = .ok (.iastore, 1) := by decide +kernel
theorem dX8_inch_70 : decode cX8_inch 70 = .ok (.iload_n 3, 1) := by decide +kernel
theorem dX8_inch_71 : decode cX8_inch 71 = .ok (.iconst (-1), 1) := by decide +kernel
theorem dX8_inch_72 : decode cX8_inch 72 = .ok (.if_icmp .ne 8, 3) := by decide +kernel
theorem dX8_inch_75 : decode cX8_inch 75 = .ok (.bipush 41, 2) := by decide +kernel
theorem dX8_inch_77 : decode cX8_inch 77 = .ok (.goto 4, 3) := by decide +kernel
theorem dX8_inch_80 : decode cX8_inch 80 = .ok (.iload_n 3, 1) := by decide +kernel
theorem dX8_inch_81 : decode cX8_inch 81 = .ok (.iload 4, 2) := by decide +kernel
theorem dX8_inch_83 : decode cX8_inch 83 = .ok (.iconst (-1), 1) := by decide +kernel
theorem dX8_inch_84 : decode cX8_inch 84 = .ok (.if_icmp .ne 8, 3) := by decide +kernel
theorem dX8_inch_87 : decode cX8_inch 87 = .ok (.bipush 41, 2) := by decide +kernel
theorem dX8_inch_89 : decode cX8_inch 89 = .ok (.goto 5, 3) := by decide +kernel
theorem dX8_inch_92 : decode cX8_inch 92 = .ok (.iload 4, 2) := by decide +kernel
theorem dX8_inch_94 : decode cX8_inch 94 = .ok (.isub, 1) := by decide +kernel
theorem dX8_inch_95 : decode cX8_inch 95 = .ok (.ireturn, 1) := by decide +kernel
theorem dX8_reach_0 : decode cX8_reach 0 = .ok (.lconst 1, 1) := by decide +kernel
theorem dX8_reach_1 : decode cX8_reach 1 = .ok (.aload_n 0, 1) := by decide +kernel
theorem dX8_reach_2 : decode cX8_reach 2 = .ok (.iload_n 1, 1) := by decide +kernel
theorem dX8_reach_3 : decode cX8_reach 3 = .ok (.invokevirtual 223, 3) := by decide +kernel
theorem dX8_reach_6 : decode cX8_reach 6 = .ok (.lshl, 1) := by decide +kernel
theorem dX8_reach_7 : decode cX8_reach 7 = .ok (.lstore_n 2, 1) := by decide +kernel
theorem dX8_reach_8 : decode cX8_reach 8 = .ok (.iconst 1, 1) := by decide +kernel
theorem dX8_reach_9 : decode cX8_reach 9 = .ok (.istore 4, 2) := by decide +kernel
theorem dX8_reach_11 : decode cX8_reach 11 = .ok (.iload 4, 2) := by decide +kernel
theorem dX8_reach_13 : decode cX8_reach 13 = .ok (.bipush 40, 2) := by decide +kernel
theorem dX8_reach_15 : decode cX8_reach 15 = .ok (.if_icmp .gt 37, 3) := by decide +kernel
theorem dX8_reach_18 : decode cX8_reach 18 = .ok (.aload_n 0, 1) := by decide +kernel
theorem dX8_reach_19 : decode cX8_reach 19 = .ok (.lload_n 2, 1) := by decide +kernel
theorem dX8_reach_20 : decode cX8_reach 20 = .ok (.aload_n 0, 1) := by decide +kernel
theorem dX8_reach_21 : decode cX8_reach 21 = .ok (.getfield 19, 3) := by decide +kernel
theorem dX8_reach_24 : decode cX8_reach 24 = .ok (.iconst 2, 1) := by decide +kernel
theorem dX8_reach_25 : decode cX8_reach 25 = .ok (.bipush 6, 2) := by decide +kernel
theorem dX8_reach_27 : decode cX8_reach 27 = .ok (.iload_n 1, 1) := by decide +kernel
theorem dX8_reach_28 : decode cX8_reach 28 = .ok (.imul, 1) := by decide +kernel
theorem dX8_reach_29 : decode cX8_reach 29 = .ok (.iadd, 1) := by decide +kernel
theorem dX8_reach_30 : decode cX8_reach 30 = .ok (.iconst 2, 1) := by decide +kernel
theorem dX8_reach_31 : decode cX8_reach 31 = .ok (.iadd, 1) := by decide +kernel
theorem dX8_reach_32 : decode cX8_reach 32 = .ok (.iaload, 1) := by decide +kernel
theorem dX8_reach_33 : decode cX8_reach 33 = .ok (.aload_n 0, 1) := by decide +kernel
theorem dX8_reach_34 : decode cX8_reach 34 = .ok (.getfield 19, 3) := by decide +kernel
theorem dX8_reach_37 : decode cX8_reach 37 = .ok (.iconst 0, 1) := by decide +kernel
theorem dX8_reach_38 : decode cX8_reach 38 = .ok (.iaload, 1) := by decide +kernel
theorem dX8_reach_39 : decode cX8_reach 39 = .ok (.iload 4, 2) := by decide +kernel
theorem dX8_reach_41 : decode cX8_reach 41 = .ok (.iadd, 1) := by decide +kernel
theorem dX8_reach_42 : decode cX8_reach 42 = .ok (.invokevirtual 274, 3) := by decide +kernel
theorem dX8_reach_45 : decode cX8_reach 45 = .ok (.lstore_n 2, 1) := by decide +kernel
theorem dX8_reach_46 : decode cX8_reach 46 = .ok (.iinc 4 1, 3) := by decide +kernel
theorem dX8_reach_49 : decode cX8_reach 49 = .ok (.goto (-38), 3) := by decide +kernel
theorem dX8_reach_52 : decode cX8_reach 52 = .ok (.lload_n 2, 1) := by decide +kernel
theorem dX8_reach_53 : decode cX8_reach 53 = .ok (.lreturn, 1) := by decide +kernel
theorem dX8_nobody_0 : decode cX8_nobody 0 = .ok (.lconst 0, 1) := by decide +kernel
theorem dX8_nobody_1 : decode cX8_nobody 1 = .ok (.lstore_n 2, 1) := by decide +kernel
theorem dX8_nobody_2 : decode cX8_nobody 2 = .ok (.iconst 0, 1) := by decide +kernel
theorem dX8_nobody_3 : decode cX8_nobody 3 = .ok (.istore 4, 2) := by decide +kernel
theorem dX8_nobody_5 : decode cX8_nobody 5 = .ok (.iload 4, 2) := by decide +kernel
theorem dX8_nobody_7 : decode cX8_nobody 7 = .ok (.aload_n 0, 1) := by decide +kernel
theorem dX8_nobody_8 : decode cX8_nobody 8 = .ok (.getfield 86, 3) := by decide +kernel
theorem dX8_nobody_11 : decode cX8_nobody 11 = .ok (.if_icmp .ge 18, 3) := by decide +kernel
theorem dX8_nobody_14 : decode cX8_nobody 14 = .ok (.lload_n 2, 1) := by decide +kernel
theorem dX8_nobody_15 : decode cX8_nobody 15 = .ok (.aload_n 0, 1) := by decide +kernel
theorem dX8_nobody_16 : decode cX8_nobody 16 = .ok (.iload 4, 2) := by decide +kernel
theorem dX8_nobody_18 : decode cX8_nobody 18 = .ok (.invokevirtual 299, 3) := by decide +kernel
theorem dX8_nobody_21 : decode cX8_nobody 21 = .ok (.lor, 1) := by decide +kernel
theorem dX8_nobody_22 : decode cX8_nobody 22 = .ok (.lstore_n 2, 1) := by decide +kernel
theorem dX8_nobody_23 : decode cX8_nobody 23 = .ok (.iinc 4 1, 3) := by decide +kernel
theorem dX8_nobody_26 : decode cX8_nobody 26 = .ok (.goto (-21), 3) := by decide +kernel
theorem dX8_nobody_29 : decode cX8_nobody 29 = .ok (.iconst 0, 1) := by decide +kernel
theorem dX8_nobody_30 : decode cX8_nobody 30 = .ok (.istore 4, 2) := by decide +kernel
theorem dX8_nobody_32 : decode cX8_nobody 32 = .ok (.iconst 0, 1) := by decide +kernel
theorem dX8_nobody_33 : decode cX8_nobody 33 = .ok (.istore 5, 2) := by decide +kernel
theorem dX8_nobody_35 : decode cX8_nobody 35 = .ok (.iload 5, 2) := by decide +kernel
theorem dX8_nobody_37 : decode cX8_nobody 37 = .ok (.aload_n 0, 1) := by decide +kernel
theorem dX8_nobody_38 : decode cX8_nobody 38 = .ok (.getfield 76, 3) := by decide +kernel
theorem dX8_nobody_41 : decode cX8_nobody 41 = .ok (.aload_n 0, 1) := by decide +kernel
theorem dX8_nobody_42 : decode cX8_nobody 42 = .ok (.getfield 83, 3) := by decide +kernel
