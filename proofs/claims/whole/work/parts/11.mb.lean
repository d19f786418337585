theorem dX10_ahead_0 : decode cX10_ahead 0 = .ok (.iload_n 1, 1) := by decide +kernel
theorem dX10_ahead_1 : decode cX10_ahead 1 = .ok (.invokestatic 233, 3) := by decide +kernel
theorem dX10_ahead_4 : decode cX10_ahead 4 = .ok (.ifCond .eq 20, 3) := by decide +kernel
theorem dX10_ahead_7 : decode cX10_ahead 7 = .ok (.iload_n 2, 1) := by decide +kernel
theorem dX10_ahead_8 : decode cX10_ahead 8 = .ok (.iconst 1, 1) := by decide +kernel
theorem dX10_ahead_9 : decode cX10_ahead 9 = .ok (.iconst 3, 1) := by decide +kernel
theorem dX10_ahead_10 : decode cX10_ahead 10 = .ok (.invokestatic 105, 3) := by decide +kernel
theorem dX10_ahead_13 : decode cX10_ahead 13 = .ok (.ifCond .eq 11, 3) := by decide +kernel
theorem dX10_ahead_16 : decode cX10_ahead 16 = .ok (.iload_n 1, 1) := by decide +kernel
theorem dX10_ahead_17 : decode cX10_ahead 17 = .ok (.iload_n 2, 1) := by decide +kernel
theorem dX10_ahead_18 : decode cX10_ahead 18 = .ok (.iadd, 1) := by decide +kernel
theorem dX10_ahead_19 : decode cX10_ahead 19 = .ok (.bipush 10, 2) := by decide +kernel
theorem dX10_ahead_21 : decode cX10_ahead 21 = .ok (.if_icmp .le 5, 3) := by decide +kernel
theorem dX10_ahead_24 : decode cX10_ahead 24 = .ok (.iconst (-1), 1) := by decide +kernel
theorem dX10_ahead_25 : decode cX10_ahead 25 = .ok (.ireturn, 1) := by decide +kernel
theorem dX10_ahead_26 : decode cX10_ahead 26 = .ok (.aload_n 0, 1) := by decide +kernel
theorem dX10_ahead_27 : decode cX10_ahead 27 = .ok (.iload_n 1, 1) := by decide +kernel
theorem dX10_ahead_28 : decode cX10_ahead 28 = .ok (.iload_n 2, 1) := by decide +kernel
theorem dX10_ahead_29 : decode cX10_ahead 29 = .ok (.invokevirtual 293, 3) := by decide +kernel
theorem dX10_ahead_32 : decode cX10_ahead 32 = .ok (.iconst 0, 1) := by decide +kernel
theorem dX10_ahead_33 : decode cX10_ahead 33 = .ok (.istore_n 3, 1) := by decide +kernel
theorem dX10_ahead_34 : decode cX10_ahead 34 = .ok (.iconst 0, 1) := by decide +kernel
theorem dX10_ahead_35 : decode cX10_ahead 35 = .ok (.istore 4, 2) := by decide +kernel
theorem dX10_ahead_37 : decode cX10_ahead 37 = .ok (.aload_n 0, 1) := by decide +kernel
theorem dX10_ahead_38 : decode cX10_ahead 38 = .ok (.getfield 59, 3) := by decide +kernel
theorem dX10_ahead_41 : decode cX10_ahead 41 = .ok (.iconst 0, 1) := by decide +kernel
theorem dX10_ahead_42 : decode cX10_ahead 42 = .ok (.iconst (-1), 1) := by decide +kernel
theorem dX10_ahead_43 : decode cX10_ahead 43 = .ok (.iastore, 1) := by decide +kernel
theorem dX10_ahead_44 : decode cX10_ahead 44 = .ok (.iload 4, 2) := by decide +kernel
theorem dX10_ahead_46 : decode cX10_ahead 46 = .ok (.ifCond .lt 78, 3) := by decide +kernel
theorem dX10_ahead_49 : decode cX10_ahead 49 = .ok (.aload_n 0, 1) := by decide +kernel
theorem dX10_ahead_50 : decode cX10_ahead 50 = .ok (.getfield 59, 3) := by decide +kernel
theorem dX10_ahead_53 : decode cX10_ahead 53 = .ok (.iload 4, 2) := by decide +kernel
theorem dX10_ahead_55 : decode cX10_ahead 55 = .ok (.dup2, 1) := by decide +kernel
theorem dX10_ahead_56 : decode cX10_ahead 56 = .ok (.iaload, 1) := by decide +kernel
theorem dX10_ahead_57 : decode cX10_ahead 57 = .ok (.iconst 1, 1) := by decide +kernel
theorem dX10_ahead_58 : decode cX10_ahead 58 = .ok (.iadd, 1) := by decide +kernel
theorem dX10_ahead_59 : decode cX10_ahead 59 = .ok (.iastore, 1) := by decide +kernel
theorem dX10_ahead_60 : decode cX10_ahead 60 = .ok (.aload_n 0, 1) := by decide +kernel
theorem dX10_ahead_61 : decode cX10_ahead 61 = .ok (.getfield 59, 3) := by decide +kernel
theorem dX10_ahead_64 : decode cX10_ahead 64 = .ok (.iload 4, 2) := by decide +kernel
theorem dX10_ahead_66 : decode cX10_ahead 66 = .ok (.iaload, 1) := by decide +kernel
theorem dX10_ahead_67 : decode cX10_ahead 67 = .ok (.bipush 64, 2) := by decide +kernel
theorem dX10_ahead_69 : decode cX10_ahead 69 = .ok (.if_icmp .ne 9, 3) := by decide +kernel
theorem dX10_ahead_72 : decode cX10_ahead 72 = .ok (.iinc 4 (-1), 3) := by decide +kernel
theorem dX10_ahead_75 : decode cX10_ahead 75 = .ok (.goto (-31), 3) := by decide +kernel
theorem dX10_ahead_78 : decode cX10_ahead 78 = .ok (.aload_n 0, 1) := by decide +kernel
theorem dX10_ahead_79 : decode cX10_ahead 79 = .ok (.iload_n 1, 1) := by decide +kernel
theorem dX10_ahead_80 : decode cX10_ahead 80 = .ok (.iload 4, 2) := by decide +kernel
theorem dX10_ahead_82 : decode cX10_ahead 82 = .ok (.iadd, 1) := by decide +kernel
theorem dX10_ahead_83 : decode cX10_ahead 83 = .ok (.aload_n 0, 1) := by decide +kernel
theorem dX10_ahead_84 : decode cX10_ahead 84 = .ok (.getfield 59, 3) := by decide +kernel
theorem dX10_ahead_87 : decode cX10_ahead 87 = .ok (.iload 4, 2) := by decide +kernel
theorem dX10_ahead_89 : decode cX10_ahead 89 = .ok (.iaload, 1) := by decide +kernel
theorem dX10_ahead_90 : decode cX10_ahead 90 = .ok (.invokevirtual 303, 3) := by decide +kernel
theorem dX10_ahead_93 : decode cX10_ahead 93 = .ok (.ifCond .eq (-49), 3) := by decide +kernel
theorem dX10_ahead_96 : decode cX10_ahead 96 = .ok (.iload 4, 2) := by decide +kernel
theorem dX10_ahead_98 : decode cX10_ahead 98 = .ok (.iload_n 2, 1) := by decide +kernel
theorem dX10_ahead_99 : decode cX10_ahead 99 = .ok (.iconst 1, 1) := by decide +kernel
theorem dX10_ahead_100 : decode cX10_ahead 100 = .ok (.isub, 1) := by decide +kernel
theorem dX10_ahead_101 : decode cX10_ahead 101 = .ok (.if_icmp .ne 9, 3) := by decide +kernel
theorem dX10_ahead_104 : decode cX10_ahead 104 = .ok (.iinc 3 1, 3) := by decide +kernel
theorem dX10_ahead_107 : decode cX10_ahead 107 = .ok (.goto (-63), 3) := by decide +kernel
theorem dX10_ahead_110 : decode cX10_ahead 110 = .ok (.iinc 4 1, 3) := by decide +kernel
theorem dX10_ahead_113 : decode cX10_ahead 113 = .ok (.aload_n 0, 1) := by decide +kernel
theorem dX10_ahead_114 : decode cX10_ahead 114 = .ok (.getfield 59, 3) := by decide +kernel
theorem dX10_ahead_117 : decode cX10_ahead 117 = .ok (.iload 4, 2) := by decide +kernel
theorem dX10_ahead_119 : decode cX10_ahead 119 = .ok (.iconst (-1), 1) := by decide +kernel
theorem dX10_ahead_120 : decode cX10_ahead 120 = .ok (.iastore, 1) := by decide +kernel
theorem dX10_ahead_121 : decode cX10_ahead 121 = .ok (.goto (-77), 3) := by decide +kernel
theorem dX10_ahead_124 : decode cX10_ahead 124 = .ok (.aload_n 0, 1) := by decide +kernel
theorem dX10_ahead_125 : decode cX10_ahead 125 = .ok (.iload_n 1, 1) := by decide +kernel
theorem dX10_ahead_126 : decode cX10_ahead 126 = .ok (.iload_n 2, 1) := by decide +kernel
theorem dX10_ahead_127 : decode cX10_ahead 127 = .ok (.invokevirtual 300, 3) := by decide +kernel
theorem dX10_ahead_130 : decode cX10_ahead 130 = .ok (.iload_n 3, 1) := by decide +kernel
theorem dX10_ahead_131 : decode cX10_ahead 131 = .ok (.ireturn, 1) := by decide +kernel
theorem dX10_satOn_0 : decode cX10_satOn 0 = .ok (.iconst 0, 1) := by decide +kernel
theorem dX10_satOn_1 : decode cX10_satOn 1 = .ok (.istore_n 3, 1) := by decide +kernel
theorem dX10_satOn_2 : decode cX10_satOn 2 = .ok (.iconst 0, 1) := by decide +kernel
theorem dX10_satOn_3 : decode cX10_satOn 3 = .ok (.istore 4, 2) := by decide +kernel
theorem dX10_satOn_5 : decode cX10_satOn 5 = .ok (.iload 4, 2) := by decide +kernel
theorem dX10_satOn_7 : decode cX10_satOn 7 = .ok (.bipush 10, 2) := by decide +kernel
theorem dX10_satOn_9 : decode cX10_satOn 9 = .ok (.if_icmp .ge 34, 3) := by decide +kernel
theorem dX10_satOn_12 : decode cX10_satOn 12 = .ok (.iload_n 3, 1) := by decide +kernel
theorem dX10_satOn_13 : decode cX10_satOn 13 = .ok (.aload_n 0, 1) := by decide +kernel
theorem dX10_satOn_14 : decode cX10_satOn 14 = .ok (.iload 4, 2) := by decide +kernel
theorem dX10_satOn_16 : decode cX10_satOn 16 = .ok (.invokevirtual 248, 3) := by decide +kernel
theorem dX10_satOn_19 : decode cX10_satOn 19 = .ok (.iload_n 1, 1) := by decide +kernel
theorem dX10_satOn_20 : decode cX10_satOn 20 = .ok (.iload_n 2, 1) := by decide +kernel
theorem dX10_satOn_21 : decode cX10_satOn 21 = .ok (.invokestatic 251, 3) := by decide +kernel
theorem dX10_satOn_24 : decode cX10_satOn 24 = .ok (.if_icmp .ne 10, 3) := by decide +kernel
theorem dX10_satOn_27 : decode cX10_satOn 27 = .ok (.iconst 1, 1) := by decide +kernel
theorem dX10_satOn_28 : decode cX10_satOn 28 = .ok (.iload 4, 2) := by decide +kernel
theorem dX10_satOn_30 : decode cX10_satOn 30 = .ok (.ishl, 1) := by decide +kernel
theorem dX10_satOn_31 : decode cX10_satOn 31 = .ok (.goto 4, 3) := by decide +kernel
theorem dX10_satOn_34 : decode cX10_satOn 34 = .ok (.iconst 0, 1) := by decide +kernel
theorem dX10_satOn_35 : decode cX10_satOn 35 = .ok (.ior, 1) := by decide +kernel
theorem dX10_satOn_36 : decode cX10_satOn 36 = .ok (.istore_n 3, 1) := by decide +kernel
theorem dX10_satOn_37 : decode cX10_satOn 37 = .ok (.iinc 4 1, 3) := by decide +kernel
theorem dX10_satOn_40 : decode cX10_satOn 40 = .ok (.goto (-35), 3) := by decide +kernel
theorem dX10_satOn_43 : decode cX10_satOn 43 = .ok (.iload_n 3, 1) := by decide +kernel
theorem dX10_satOn_44 : decode cX10_satOn 44 = .ok (.ireturn, 1) := by decide +kernel
theorem dX10_sat_0 : decode cX10_sat 0 = .ok (.aload_n 0, 1) := by decide +kernel
theorem dX10_sat_1 : decode cX10_sat 1 = .ok (.iload_n 1, 1) := by decide +kernel
theorem dX10_sat_2 : decode cX10_sat 2 = .ok (.iload_n 2, 1) := by decide +kernel
theorem dX10_sat_3 : decode cX10_sat 3 = .ok (.invokevirtual 226, 3) := by decide +kernel
theorem dX10_sat_6 : decode cX10_sat 6 = .ok (.ifCond .eq 12, 3) := by decide +kernel
theorem dX10_sat_9 : decode cX10_sat 9 = .ok (.aload_n 0, 1) := by decide +kernel
theorem dX10_sat_10 : decode cX10_sat 10 = .ok (.iload_n 1, 1) := by decide +kernel
theorem dX10_sat_11 : decode cX10_sat 11 = .ok (.iload_n 2, 1) := by decide +kernel
theorem dX10_sat_12 : decode cX10_sat 12 = .ok (.invokevirtual 306, 3) := by decide +kernel
theorem dX10_sat_15 : decode cX10_sat 15 = .ok (.goto 4, 3) := by decide +kernel
theorem dX10_sat_18 : decode cX10_sat 18 = .ok (.iconst (-1), 1) := by decide +kernel
theorem dX10_sat_19 : decode cX10_sat 19 = .ok (.ireturn, 1) := by decide +kernel
theorem dX10_ones_0 : decode cX10_ones 0 = .ok (.iconst 0, 1) := by decide +kernel
theorem dX10_ones_1 : decode cX10_ones 1 = .ok (.istore_n 1, 1) := by decide +kernel
theorem dX10_ones_2 : decode cX10_ones 2 = .ok (.iload_n 0, 1) := by decide +kernel
theorem dX10_ones_3 : decode cX10_ones 3 = .ok (.istore_n 2, 1) := by decide +kernel
theorem dX10_ones_4 : decode cX10_ones 4 = .ok (.iload_n 2, 1) := by decide +kernel
theorem dX10_ones_5 : decode cX10_ones 5 = .ok (.ifCond .eq 15, 3) := by decide +kernel
theorem dX10_ones_8 : decode cX10_ones 8 = .ok (.iinc 1 1, 3) := by decide +kernel
theorem dX10_ones_11 : decode cX10_ones 11 = .ok (.iload_n 2, 1) := by decide +kernel
theorem dX10_ones_12 : decode cX10_ones 12 = .ok (.iload_n 2, 1) := by decide +kernel
theorem dX10_ones_13 : decode cX10_ones 13 = .ok (.iconst 1, 1) := by decide +kernel
theorem dX10_ones_14 : decode cX10_ones 14 = .ok (.isub, 1) := by decide +kernel
theorem dX10_ones_15 : decode cX10_ones 15 = .ok (.iand, 1) := by decide +kernel
theorem dX10_ones_16 : decode cX10_ones 16 = .ok (.istore_n 2, 1) := by decide +kernel
theorem dX10_ones_17 : decode cX10_ones 17 = .ok (.goto (-13), 3) := by decide +kernel
theorem dX10_ones_20 : decode cX10_ones 20 = .ok (.iload_n 1, 1) := by decide +kernel
theorem dX10_ones_21 : decode cX10_ones 21 = .ok (.ireturn, 1) := by decide +kernel
theorem dX10_sitting_0 : decode cX10_sitting 0 = .ok (.iconst 0, 1) := by decide +kernel
theorem dX10_sitting_1 : decode cX10_sitting 1 = .ok (.istore_n 1, 1) := by decide +kernel
theorem dX10_sitting_2 : decode cX10_sitting 2 = .ok (.iconst 0, 1) := by decide +kernel
theorem dX10_sitting_3 : decode cX10_sitting 3 = .ok (.istore_n 2, 1) := by decide +kernel
theorem dX10_sitting_4 : decode cX10_sitting 4 = .ok (.iload_n 2, 1) := by decide +kernel
theorem dX10_sitting_5 : decode cX10_sitting 5 = .ok (.bipush 10, 2) := by decide +kernel
theorem dX10_sitting_7 : decode cX10_sitting 7 = .ok (.if_icmp .ge 25, 3) := by decide +kernel
theorem dX10_sitting_10 : decode cX10_sitting 10 = .ok (.iload_n 1, 1) := by decide +kernel
theorem dX10_sitting_11 : decode cX10_sitting 11 = .ok (.aload_n 0, 1) := by decide +kernel
theorem dX10_sitting_12 : decode cX10_sitting 12 = .ok (.iload_n 2, 1) := by decide +kernel
theorem dX10_sitting_13 : decode cX10_sitting 13 = .ok (.invokevirtual 248, 3) := by decide +kernel
theorem dX10_sitting_16 : decode cX10_sitting 16 = .ok (.ifCond .lt 7, 3) := by decide +kernel
theorem dX10_sitting_19 : decode cX10_sitting 19 = .ok (.iconst 1, 1) := by decide +kernel
theorem dX10_sitting_20 : decode cX10_sitting 20 = .ok (.goto 4, 3) := by decide +kernel
theorem dX10_sitting_23 : decode cX10_sitting 23 = .ok (.iconst 0, 1) := by decide +kernel
theorem dX10_sitting_24 : decode cX10_sitting 24 = .ok (.iadd, 1) := by decide +kernel
theorem dX10_sitting_25 : decode cX10_sitting 25 = .ok (.istore_n 1, 1) := by decide +kernel
theorem dX10_sitting_26 : decode cX10_sitting 26 = .ok (.iinc 2 1, 3) := by decide +kernel
theorem dX10_sitting_29 : decode cX10_sitting 29 = .ok (.goto (-25), 3) := by decide +kernel
theorem dX10_sitting_32 : decode cX10_sitting 32 = .ok (.iload_n 1, 1) := by decide +kernel
theorem dX10_sitting_33 : decode cX10_sitting 33 = .ok (.ireturn, 1) := by decide +kernel
theorem dX10_lot_0 : decode cX10_lot 0 = .ok (.aload_n 0, 1) := by decide +kernel
theorem dX10_lot_1 : decode cX10_lot 1 = .ok (.iload_n 1, 1) := by decide +kernel
theorem dX10_lot_2 : decode cX10_lot 2 = .ok (.iload_n 2, 1) := by decide +kernel
theorem dX10_lot_3 : decode cX10_lot 3 = .ok (.invokevirtual 226, 3) := by decide +kernel
theorem dX10_lot_6 : decode cX10_lot 6 = .ok (.ifCond .eq 10, 3) := by decide +kernel
theorem dX10_lot_9 : decode cX10_lot 9 = .ok (.iload_n 3, 1) := by decide +kernel
theorem dX10_lot_10 : decode cX10_lot 10 = .ok (.invokestatic 281, 3) := by decide +kernel
theorem dX10_lot_13 : decode cX10_lot 13 = .ok (.ifCond .ne 7, 3) := by decide +kernel
theorem dX10_lot_16 : decode cX10_lot 16 = .ok (.ldc2_w 148, 3) := by decide +kernel
theorem dX10_lot_19 : decode cX10_lot 19 = .ok (.lreturn, 1) := by decide +kernel
theorem dX10_lot_20 : decode cX10_lot 20 = .ok (.aload_n 0, 1) := by decide +kernel
theorem dX10_lot_21 : decode cX10_lot 21 = .ok (.getfield 102, 3) := by decide +kernel
theorem dX10_lot_24 : decode cX10_lot 24 = .ok (.aload_n 0, 1) := by decide +kernel
theorem dX10_lot_25 : decode cX10_lot 25 = .ok (.getfield 102, 3) := by decide +kernel
theorem dX10_lot_28 : decode cX10_lot 28 = .ok (.iconst 1, 1) := by decide +kernel
theorem dX10_lot_29 : decode cX10_lot 29 = .ok (.isub, 1) := by decide +kernel
theorem dX10_lot_30 : decode cX10_lot 30 = .ok (.imul, 1) := by decide +kernel
theorem dX10_lot_31 : decode cX10_lot 31 = .ok (.iconst 2, 1) := by decide +kernel
theorem dX10_lot_32 : decode cX10_lot 32 = .ok (.idiv, 1) := by decide +kernel
theorem dX10_lot_33 : decode cX10_lot 33 = .ok (.istore 4, 2) := by decide +kernel
theorem dX10_lot_35 : decode cX10_lot 35 = .ok (.aload_n 0, 1) := by decide +kernel
theorem dX10_lot_36 : decode cX10_lot 36 = .ok (.invokevirtual 309, 3) := by decide +kernel
theorem dX10_lot_39 : decode cX10_lot 39 = .ok (.istore 5, 2) := by decide +kernel
theorem dX10_lot_41 : decode cX10_lot 41 = .ok (.aload_n 0, 1) := by decide +kernel
theorem dX10_lot_42 : decode cX10_lot 42 = .ok (.getfield 62, 3) := by decide +kernel
theorem dX10_lot_45 : decode cX10_lot 45 = .ok (.iconst 0, 1) := by decide +kernel
theorem dX10_lot_46 : decode cX10_lot 46 = .ok (.lconst 1, 1) := by decide +kernel
theorem dX10_lot_47 : decode cX10_lot 47 = .ok (.lastore, 1) := by decide +kernel
theorem dX10_lot_48 : decode cX10_lot 48 = .ok (.lconst 1, 1) := by decide +kernel
theorem dX10_lot_49 : decode cX10_lot 49 = .ok (.lstore 6, 2) := by decide +kernel
theorem dX10_lot_51 : decode cX10_lot 51 = .ok (.iconst 0, 1) := by decide +kernel
theorem dX10_lot_52 : decode cX10_lot 52 = .ok (.istore 8, 2) := by decide +kernel
theorem dX10_lot_54 : decode cX10_lot 54 = .ok (.iload 8, 2) := by decide +kernel
theorem dX10_lot_56 : decode cX10_lot 56 = .ok (.iload 5, 2) := by decide +kernel
theorem dX10_lot_58 : decode cX10_lot 58 = .ok (.if_icmp .ge 88, 3) := by decide +kernel
theorem dX10_lot_61 : decode cX10_lot 61 = .ok (.aload_n 0, 1) := by decide +kernel
theorem dX10_lot_62 : decode cX10_lot 62 = .ok (.getfield 62, 3) := by decide +kernel
theorem dX10_lot_65 : decode cX10_lot 65 = .ok (.iload 8, 2) := by decide +kernel
theorem dX10_lot_67 : decode cX10_lot 67 = .ok (.iconst 1, 1) := by decide +kernel
theorem dX10_lot_68 : decode cX10_lot 68 = .ok (.iadd, 1) := by decide +kernel
theorem dX10_lot_69 : decode cX10_lot 69 = .ok (.lconst 0, 1) := by decide +kernel
theorem dX10_lot_70 : decode cX10_lot 70 = .ok (.lastore, 1) := by decide +kernel
theorem dX10_lot_71 : decode cX10_lot 71 = .ok (.iload 8, 2) := by decide +kernel
theorem dX10_lot_73 : decode cX10_lot 73 = .ok (.iconst 1, 1) := by decide +kernel
theorem dX10_lot_74 : decode cX10_lot 74 = .ok (.iadd, 1) := by decide +kernel
theorem dX10_lot_75 : decode cX10_lot 75 = .ok (.istore 9, 2) := by decide +kernel
theorem dX10_lot_77 : decode cX10_lot 77 = .ok (.iload 9, 2) := by decide +kernel
theorem dX10_lot_79 : decode cX10_lot 79 = .ok (.ifCond .le 39, 3) := by decide +kernel
theorem dX10_lot_82 : decode cX10_lot 82 = .ok (.aload_n 0, 1) := by decide +kernel
theorem dX10_lot_83 : decode cX10_lot 83 = .ok (.getfield 62, 3) := by decide +kernel
theorem dX10_lot_86 : decode cX10_lot 86 = .ok (.iload 9, 2) := by decide +kernel
theorem dX10_lot_88 : decode cX10_lot 88 = .ok (.aload_n 0, 1) := by decide +kernel
theorem dX10_lot_89 : decode cX10_lot 89 = .ok (.getfield 62, 3) := by decide +kernel
theorem dX10_lot_92 : decode cX10_lot 92 = .ok (.iload 9, 2) := by decide +kernel
theorem dX10_lot_94 : decode cX10_lot 94 = .ok (.laload, 1) := by decide +kernel
theorem dX10_lot_95 : decode cX10_lot 95 = .ok (.iload 4, 2) := by decide +kernel
theorem dX10_lot_97 : decode cX10_lot 97 = .ok (.iconst 1, 1) := by decide +kernel
theorem dX10_lot_98 : decode cX10_lot 98 = .ok (.isub, 1) := by decide +kernel
theorem dX10_lot_99 : decode cX10_lot 99 = .ok (.i2l, 1) := by decide +kernel
theorem dX10_lot_100 : decode cX10_lot 100 = .ok (.lmul, 1) := by decide +kernel
theorem dX10_lot_101 : decode cX10_lot 101 = .ok (.aload_n 0, 1) := by decide +kernel
theorem dX10_lot_102 : decode cX10_lot 102 = .ok (.getfield 62, 3) := by decide +kernel
theorem dX10_lot_105 : decode cX10_lot 105 = .ok (.iload 9, 2) := by decide +kernel
theorem dX10_lot_107 : decode cX10_lot 107 = .ok (.iconst 1, 1) := by decide +kernel
theorem dX10_lot_108 : decode cX10_lot 108 = .ok (.isub, 1) := by decide +kernel
theorem dX10_lot_109 : decode cX10_lot 109 = .ok (.laload, 1) := by decide +kernel
theorem dX10_lot_110 : decode cX10_lot 110 = .ok (.ladd, 1) := by decide +kernel
theorem dX10_lot_111 : decode cX10_lot 111 = .ok (.lastore, 1) := by decide +kernel
theorem dX10_lot_112 : decode cX10_lot 112 = .ok (.iinc 9 (-1), 3) := by decide +kernel
theorem dX10_lot_115 : decode cX10_lot 115 = .ok (.goto (-38), 3) := by decide +kernel
theorem dX10_lot_118 : decode cX10_lot 118 = .ok (.aload_n 0, 1) := by decide +kernel
theorem dX10_lot_119 : decode cX10_lot 119 = .ok (.getfield 62, 3) := by decide +kernel
theorem dX10_lot_122 : decode cX10_lot 122 = .ok (.iconst 0, 1) := by decide +kernel
theorem dX10_lot_123 : decode cX10_lot 123 = .ok (.dup2, 1) := by decide +kernel
theorem dX10_lot_124 : decode cX10_lot 124 = .ok (.laload, 1) := by decide +kernel
theorem dX10_lot_125 : decode cX10_lot 125 = .ok (.iload 4, 2) := by decide +kernel
theorem dX10_lot_127 : decode cX10_lot 127 = .ok (.iconst 1, 1) := by decide +kernel
theorem dX10_lot_128 : decode cX10_lot 128 = .ok (.isub, 1) := by decide +kernel
theorem dX10_lot_129 : decode cX10_lot 129 = .ok (.i2l, 1) := by decide +kernel
theorem dX10_lot_130 : decode cX10_lot 130 = .ok (.lmul, 1) := by decide +kernel
theorem dX10_lot_131 : decode cX10_lot 131 = .ok (.lastore, 1) := by decide +kernel
theorem dX10_lot_132 : decode cX10_lot 132 = .ok (.lload 6, 2) := by decide +kernel
theorem dX10_lot_134 : decode cX10_lot 134 = .ok (.iload 4, 2) := by decide +kernel
theorem dX10_lot_136 : decode cX10_lot 136 = .ok (.i2l, 1) := by decide +kernel
theorem dX10_lot_137 : decode cX10_lot 137 = .ok (.lmul, 1) := by decide +kernel
theorem dX10_lot_138 : decode cX10_lot 138 = .ok (.lstore 6, 2) := by decide +kernel
theorem dX10_lot_140 : decode cX10_lot 140 = .ok (.iinc 8 1, 3) := by decide +kernel
theorem dX10_lot_143 : decode cX10_lot 143 = .ok (.goto (-89), 3) := by decide +kernel
theorem dX10_lot_146 : decode cX10_lot 146 = .ok (.lconst 0, 1) := by decide +kernel
theorem dX10_lot_147 : decode cX10_lot 147 = .ok (.lstore 8, 2) := by decide +kernel
theorem dX10_lot_149 : decode cX10_lot 149 = .ok (.aload_n 0, 1) := by decide +kernel
theorem dX10_lot_150 : decode cX10_lot 150 = .ok (.iload_n 1, 1) := by decide +kernel
theorem dX10_lot_151 : decode cX10_lot 151 = .ok (.iload_n 2, 1) := by decide +kernel
theorem dX10_lot_152 : decode cX10_lot 152 = .ok (.invokevirtual 306, 3) := by decide +kernel
theorem dX10_lot_155 : decode cX10_lot 155 = .ok (.invokestatic 312, 3) := by decide +kernel
theorem dX10_lot_158 : decode cX10_lot 158 = .ok (.istore 10, 2) := by decide +kernel
theorem dX10_lot_160 : decode cX10_lot 160 = .ok (.iload 10, 2) := by decide +kernel
theorem dX10_lot_162 : decode cX10_lot 162 = .ok (.iload 5, 2) := by decide +kernel
theorem dX10_lot_164 : decode cX10_lot 164 = .ok (.if_icmp .gt 21, 3) := by decide +kernel
theorem dX10_lot_167 : decode cX10_lot 167 = .ok (.lload 8, 2) := by decide +kernel
theorem dX10_lot_169 : decode cX10_lot 169 = .ok (.aload_n 0, 1) := by decide +kernel
theorem dX10_lot_170 : decode cX10_lot 170 = .ok (.getfield 62, 3) := by decide +kernel
theorem dX10_lot_173 : decode cX10_lot 173 = .ok (.iload 10, 2) := by decide +kernel
theorem dX10_lot_175 : decode cX10_lot 175 = .ok (.laload, 1) := by decide +kernel
theorem dX10_lot_176 : decode cX10_lot 176 = .ok (.ladd, 1) := by decide +kernel
theorem dX10_lot_177 : decode cX10_lot 177 = .ok (.lstore 8, 2) := by decide +kernel
theorem dX10_lot_179 : decode cX10_lot 179 = .ok (.iinc 10 1, 3) := by decide +kernel
theorem dX10_lot_182 : decode cX10_lot 182 = .ok (.goto (-22), 3) := by decide +kernel
theorem dX10_lot_185 : decode cX10_lot 185 = .ok (.aload_n 0, 1) := by decide +kernel
theorem dX10_lot_186 : decode cX10_lot 186 = .ok (.lload 8, 2) := by decide +kernel
theorem dX10_lot_188 : decode cX10_lot 188 = .ok (.lload 6, 2) := by decide +kernel
theorem dX10_lot_190 : decode cX10_lot 190 = .ok (.invokevirtual 286, 3) := by decide +kernel
theorem dX10_lot_193 : decode cX10_lot 193 = .ok (.iload_n 3, 1) := by decide +kernel
theorem dX10_lot_194 : decode cX10_lot 194 = .ok (.ifCond .ne 10, 3) := by decide +kernel
theorem dX10_lot_197 : decode cX10_lot 197 = .ok (.aload_n 0, 1) := by decide +kernel
theorem dX10_lot_198 : decode cX10_lot 198 = .ok (.getfield 275, 3) := by decide +kernel
theorem dX10_lot_201 : decode cX10_lot 201 = .ok (.goto 7, 3) := by decide +kernel
theorem dX10_lot_204 : decode cX10_lot 204 = .ok (.aload_n 0, 1) := by decide +kernel
theorem dX10_lot_205 : decode cX10_lot 205 = .ok (.getfield 278, 3) := by decide +kernel
theorem dX10_lot_208 : decode cX10_lot 208 = .ok (.lreturn, 1) := by decide +kernel
theorem dX10_suspects_0 : decode cX10_suspects 0 = .ok (.iload_n 1, 1) := by decide +kernel
theorem dX10_suspects_1 : decode cX10_suspects 1 = .ok (.invokestatic 281, 3) := by decide +kernel
theorem dX10_suspects_4 : decode cX10_suspects 4 = .ok (.ifCond .ne 5, 3) := by decide +kernel
theorem dX10_suspects_7 : decode cX10_suspects 7 = .ok (.iconst (-1), 1) := by decide +kernel
theorem dX10_suspects_8 : decode cX10_suspects 8 = .ok (.ireturn, 1) := by decide +kernel
theorem dX10_suspects_9 : decode cX10_suspects 9 = .ok (.bipush (-3), 2) := by decide +kernel
theorem dX10_suspects_11 : decode cX10_suspects 11 = .ok (.istore_n 2, 1) := by decide +kernel
theorem dX10_suspects_12 : decode cX10_suspects 12 = .ok (.iconst (-1), 1) := by decide +kernel
theorem dX10_suspects_13 : decode cX10_suspects 13 = .ok (.istore_n 3, 1) := by decide +kernel
theorem dX10_suspects_14 : decode cX10_suspects 14 = .ok (.iconst 0, 1) := by decide +kernel
theorem dX10_suspects_15 : decode cX10_suspects 15 = .ok (.istore 4, 2) := by decide +kernel
theorem dX10_suspects_17 : decode cX10_suspects 17 = .ok (.iload 4, 2) := by decide +kernel
theorem dX10_suspects_19 : decode cX10_suspects 19 = .ok (.aload_n 0, 1) := by decide +kernel
theorem dX10_suspects_20 : decode cX10_suspects 20 = .ok (.getfield 102, 3) := by decide +kernel
theorem dX10_suspects_23 : decode cX10_suspects 23 = .ok (.if_icmp .ge 100, 3) := by decide +kernel
theorem dX10_suspects_26 : decode cX10_suspects 26 = .ok (.iload 4, 2) := by decide +kernel
theorem dX10_suspects_28 : decode cX10_suspects 28 = .ok (.iconst 1, 1) := by decide +kernel
theorem dX10_suspects_29 : decode cX10_suspects 29 = .ok (.iadd, 1) := by decide +kernel
theorem dX10_suspects_30 : decode cX10_suspects 30 = .ok (.istore 5, 2) := by decide +kernel
theorem dX10_suspects_32 : decode cX10_suspects 32 = .ok (.iload 5, 2) := by decide +kernel
theorem dX10_suspects_34 : decode cX10_suspects 34 = .ok (.aload_n 0, 1) := by decide +kernel
theorem dX10_suspects_35 : decode cX10_suspects 35 = .ok (.getfield 102, 3) := by decide +kernel
theorem dX10_suspects_38 : decode cX10_suspects 38 = .ok (.if_icmp .ge 79, 3) := by decide +kernel
theorem dX10_suspects_41 : decode cX10_suspects 41 = .ok (.iconst 0, 1) := by decide +kernel
theorem dX10_suspects_42 : decode cX10_suspects 42 = .ok (.istore 6, 2) := by decide +kernel
theorem dX10_suspects_44 : decode cX10_suspects 44 = .ok (.iconst 0, 1) := by decide +kernel
theorem dX10_suspects_45 : decode cX10_suspects 45 = .ok (.istore 7, 2) := by decide +kernel
theorem dX10_suspects_47 : decode cX10_suspects 47 = .ok (.iload 7, 2) := by decide +kernel
theorem dX10_suspects_49 : decode cX10_suspects 49 = .ok (.bipush 10, 2) := by decide +kernel
theorem dX10_suspects_51 : decode cX10_suspects 51 = .ok (.if_icmp .ge 42, 3) := by decide +kernel
theorem dX10_suspects_54 : decode cX10_suspects 54 = .ok (.iload 6, 2) := by decide +kernel
theorem dX10_suspects_56 : decode cX10_suspects 56 = .ok (.aload_n 0, 1) := by decide +kernel
theorem dX10_suspects_57 : decode cX10_suspects 57 = .ok (.iload 7, 2) := by decide +kernel
theorem dX10_suspects_59 : decode cX10_suspects 59 = .ok (.invokevirtual 248, 3) := by decide +kernel
theorem dX10_suspects_62 : decode cX10_suspects 62 = .ok (.bipush 8, 2) := by decide +kernel
theorem dX10_suspects_64 : decode cX10_suspects 64 = .ok (.iload 4, 2) := by decide +kernel
theorem dX10_suspects_66 : decode cX10_suspects 66 = .ok (.imul, 1) := by decide +kernel
theorem dX10_suspects_67 : decode cX10_suspects 67 = .ok (.iload 5, 2) := by decide +kernel
theorem dX10_suspects_69 : decode cX10_suspects 69 = .ok (.iadd, 1) := by decide +kernel
theorem dX10_suspects_70 : decode cX10_suspects 70 = .ok (.if_icmp .ne 13, 3) := by decide +kernel
theorem dX10_suspects_73 : decode cX10_suspects 73 = .ok (.aload_n 0, 1) := by decide +kernel
theorem dX10_suspects_74 : decode cX10_suspects 74 = .ok (.getfield 22, 3) := by decide +kernel
theorem dX10_suspects_77 : decode cX10_suspects 77 = .ok (.iload 7, 2) := by decide +kernel
theorem dX10_suspects_79 : decode cX10_suspects 79 = .ok (.iaload, 1) := by decide +kernel
theorem dX10_suspects_80 : decode cX10_suspects 80 = .ok (.goto 4, 3) := by decide +kernel
theorem dX10_suspects_83 : decode cX10_suspects 83 = .ok (.iconst 0, 1) := by decide +kernel
theorem dX10_suspects_84 : decode cX10_suspects 84 = .ok (.iadd, 1) := by decide +kernel
theorem dX10_suspects_85 : decode cX10_suspects 85 = .ok (.istore 6, 2) := by decide +kernel
theorem dX10_suspects_87 : decode cX10_suspects 87 = .ok (.iinc 7 1, 3) := by decide +kernel
theorem dX10_suspects_90 : decode cX10_suspects 90 = .ok (.goto (-43), 3) := by decide +kernel
theorem dX10_suspects_93 : decode cX10_suspects 93 = .ok (.iload 6, 2) := by decide +kernel
theorem dX10_suspects_95 : decode cX10_suspects 95 = .ok (.iload_n 3, 1) := by decide +kernel
theorem dX10_suspects_96 : decode cX10_suspects 96 = .ok (.if_icmp .le 15, 3) := by decide +kernel
theorem dX10_suspects_99 : decode cX10_suspects 99 = .ok (.iload 6, 2) := by decide +kernel
theorem dX10_suspects_101 : decode cX10_suspects 101 = .ok (.istore_n 3, 1) := by decide +kernel
theorem dX10_suspects_102 : decode cX10_suspects 102 = .ok (.bipush 8, 2) := by decide +kernel
theorem dX10_suspects_104 : decode cX10_suspects 104 = .ok (.iload 4, 2) := by decide +kernel
theorem dX10_suspects_106 : decode cX10_suspects 106 = .ok (.imul, 1) := by decide +kernel
theorem dX10_suspects_107 : decode cX10_suspects 107 = .ok (.iload 5, 2) := by decide +kernel
theorem dX10_suspects_109 : decode cX10_suspects 109 = .ok (.iadd, 1) := by decide +kernel
theorem dX10_suspects_110 : decode cX10_suspects 110 = .ok (.istore_n 2, 1) := by decide +kernel
theorem dX10_suspects_111 : decode cX10_suspects 111 = .ok (.iinc 5 1, 3) := by decide +kernel
theorem dX10_suspects_114 : decode cX10_suspects 114 = .ok (.goto (-82), 3) := by decide +kernel
theorem dX10_suspects_117 : decode cX10_suspects 117 = .ok (.iinc 4 1, 3) := by decide +kernel
theorem dX10_suspects_120 : decode cX10_suspects 120 = .ok (.goto (-103), 3) := by decide +kernel
theorem dX10_suspects_123 : decode cX10_suspects 123 = .ok (.iload_n 2, 1) := by decide +kernel
theorem dX10_suspects_124 : decode cX10_suspects 124 = .ok (.ifCond .lt 7, 3) := by decide +kernel
theorem dX10_suspects_127 : decode cX10_suspects 127 = .ok (.iload_n 1, 1) := by decide +kernel
theorem dX10_suspects_128 : decode cX10_suspects 128 = .ok (.ifCond .ne 7, 3) := by decide +kernel
theorem dX10_suspects_131 : decode cX10_suspects 131 = .ok (.iload_n 2, 1) := by decide +kernel
theorem dX10_suspects_132 : decode cX10_suspects 132 = .ok (.goto 4, 3) := by decide +kernel
theorem dX10_suspects_135 : decode cX10_suspects 135 = .ok (.iload_n 3, 1) := by decide +kernel
theorem dX10_suspects_136 : decode cX10_suspects 136 = .ok (.ireturn, 1) := by decide +kernel
theorem dX10_isPlan_0 : decode cX10_isPlan 0 = .ok (.iload_n 1, 1) := by decide +kernel
theorem dX10_isPlan_1 : decode cX10_isPlan 1 = .ok (.iconst 0, 1) := by decide +kernel
theorem dX10_isPlan_2 : decode cX10_isPlan 2 = .ok (.aload_n 0, 1) := by decide +kernel
theorem dX10_isPlan_3 : decode cX10_isPlan 3 = .ok (.getfield 315, 3) := by decide +kernel
theorem dX10_isPlan_6 : decode cX10_isPlan 6 = .ok (.iconst 1, 1) := by decide +kernel
theorem dX10_isPlan_7 : decode cX10_isPlan 7 = .ok (.isub, 1) := by decide +kernel
theorem dX10_isPlan_8 : decode cX10_isPlan 8 = .ok (.invokestatic 105, 3) := by decide +kernel
theorem dX10_isPlan_11 : decode cX10_isPlan 11 = .ok (.ireturn, 1) := by decide +kernel
theorem dX10_plan_0 : decode cX10_plan 0 = .ok (.iload_n 1, 1) := by decide +kernel
theorem dX10_plan_1 : decode cX10_plan 1 = .ok (.iconst 1, 1) := by decide +kernel
theorem dX10_plan_2 : decode cX10_plan 2 = .ok (.iconst 5, 1) := by decide +kernel
theorem dX10_plan_3 : decode cX10_plan 3 = .ok (.invokestatic 105, 3) := by decide +kernel
theorem dX10_plan_6 : decode cX10_plan 6 = .ok (.ifCond .eq 14, 3) := by decide +kernel
theorem dX10_plan_9 : decode cX10_plan 9 = .ok (.iload_n 2, 1) := by decide +kernel
theorem dX10_plan_10 : decode cX10_plan 10 = .ok (.iconst 0, 1) := by decide +kernel
theorem dX10_plan_11 : decode cX10_plan 11 = .ok (.sipush 4095, 3) := by decide +kernel
theorem dX10_plan_14 : decode cX10_plan 14 = .ok (.invokestatic 105, 3) := by decide +kernel
theorem dX10_plan_17 : decode cX10_plan 17 = .ok (.ifCond .ne 5, 3) := by decide +kernel
theorem dX10_plan_20 : decode cX10_plan 20 = .ok (.iconst (-1), 1) := by decide +kernel
theorem dX10_plan_21 : decode cX10_plan 21 = .ok (.ireturn, 1) := by decide +kernel
theorem dX10_plan_22 : decode cX10_plan 22 = .ok (.aload_n 0, 1) := by decide +kernel
theorem dX10_plan_23 : decode cX10_plan 23 = .ok (.getfield 315, 3) := by decide +kernel
theorem dX10_plan_26 : decode cX10_plan 26 = .ok (.iconst 4, 1) := by decide +kernel
theorem dX10_plan_27 : decode cX10_plan 27 = .ok (.if_icmp .ne 6, 3) := by decide +kernel
theorem dX10_plan_30 : decode cX10_plan 30 = .ok (.bipush (-2), 2) := by decide +kernel
theorem dX10_plan_32 : decode cX10_plan 32 = .ok (.ireturn, 1) := by decide +kernel
theorem dX10_plan_33 : decode cX10_plan 33 = .ok (.aload_n 0, 1) := by decide +kernel
theorem dX10_plan_34 : decode cX10_plan 34 = .ok (.getfield 31, 3) := by decide +kernel
theorem dX10_plan_37 : decode cX10_plan 37 = .ok (.iconst 2, 1) := by decide +kernel
theorem dX10_plan_38 : decode cX10_plan 38 = .ok (.aload_n 0, 1) := by decide +kernel
theorem dX10_plan_39 : decode cX10_plan 39 = .ok (.getfield 315, 3) := by decide +kernel
theorem dX10_plan_42 : decode cX10_plan 42 = .ok (.imul, 1) := by decide +kernel
theorem dX10_plan_43 : decode cX10_plan 43 = .ok (.iload_n 1, 1) := by decide +kernel
theorem dX10_plan_44 : decode cX10_plan 44 = .ok (.iastore, 1) := by decide +kernel
theorem dX10_plan_45 : decode cX10_plan 45 = .ok (.aload_n 0, 1) := by decide +kernel
theorem dX10_plan_46 : decode cX10_plan 46 = .ok (.getfield 31, 3) := by decide +kernel
theorem dX10_plan_49 : decode cX10_plan 49 = .ok (.iconst 2, 1) := by decide +kernel
theorem dX10_plan_50 : decode cX10_plan 50 = .ok (.aload_n 0, 1) := by decide +kernel
theorem dX10_plan_51 : decode cX10_plan 51 = .ok (.getfield 315, 3) := by decide +kernel
theorem dX10_plan_54 : decode cX10_plan 54 = .ok (.imul, 1) := by decide +kernel
theorem dX10_plan_55 : decode cX10_plan 55 = .ok (.iconst 1, 1) := by decide +kernel
theorem dX10_plan_56 : decode cX10_plan 56 = .ok (.iadd, 1) := by decide +kernel
theorem dX10_plan_57 : decode cX10_plan 57 = .ok (.iload_n 2, 1) := by decide +kernel
theorem dX10_plan_58 : decode cX10_plan 58 = .ok (.iastore, 1) := by decide +kernel
theorem dX10_plan_59 : decode cX10_plan 59 = .ok (.aload_n 0, 1) := by decide +kernel
theorem dX10_plan_60 : decode cX10_plan 60 = .ok (.dup, 1) := by decide +kernel
theorem dX10_plan_61 : decode cX10_plan 61 = .ok (.getfield 315, 3) := by decide +kernel
theorem dX10_plan_64 : decode cX10_plan 64 = .ok (.iconst 1, 1) := by decide +kernel
theorem dX10_plan_65 : decode cX10_plan 65 = .ok (.iadd, 1) := by decide +kernel
theorem dX10_plan_66 : decode cX10_plan 66 = .ok (.putfield 315, 3) := by decide +kernel
theorem dX10_plan_69 : decode cX10_plan 69 = .ok (.aload_n 0, 1) := by decide +kernel
theorem dX10_plan_70 : decode cX10_plan 70 = .ok (.getfield 315, 3) := by decide +kernel
theorem dX10_plan_73 : decode cX10_plan 73 = .ok (.iconst 1, 1) := by decide +kernel
theorem dX10_plan_74 : decode cX10_plan 74 = .ok (.isub, 1) := by decide +kernel
theorem dX10_plan_75 : decode cX10_plan 75 = .ok (.ireturn, 1) := by decide +kernel
theorem dX10_planOf_0 : decode cX10_planOf 0 = .ok (.aload_n 0, 1) := by decide +kernel
theorem dX10_planOf_1 : decode cX10_planOf 1 = .ok (.iload_n 1, 1) := by decide +kernel
theorem dX10_planOf_2 : decode cX10_planOf 2 = .ok (.invokevirtual 318, 3) := by decide +kernel
theorem dX10_planOf_5 : decode cX10_planOf 5 = .ok (.ifCond .eq 23, 3) := by decide +kernel
theorem dX10_planOf_8 : decode cX10_planOf 8 = .ok (.iload_n 2, 1) := by decide +kernel
theorem dX10_planOf_9 : decode cX10_planOf 9 = .ok (.invokestatic 281, 3) := by decide +kernel
theorem dX10_planOf_12 : decode cX10_planOf 12 = .ok (.ifCond .eq 16, 3) := by decide +kernel
theorem dX10_planOf_15 : decode cX10_planOf 15 = .ok (.aload_n 0, 1) := by decide +kernel
theorem dX10_planOf_16 : decode cX10_planOf 16 = .ok (.getfield 31, 3) := by decide +kernel
theorem dX10_planOf_19 : decode cX10_planOf 19 = .ok (.iconst 2, 1) := by decide +kernel
theorem dX10_planOf_20 : decode cX10_planOf 20 = .ok (.iload_n 1, 1) := by decide +kernel
theorem dX10_planOf_21 : decode cX10_planOf 21 = .ok (.imul, 1) := by decide +kernel
theorem dX10_planOf_22 : decode cX10_planOf 22 = .ok (.iload_n 2, 1) := by decide +kernel
theorem dX10_planOf_23 : decode cX10_planOf 23 = .ok (.iadd, 1) := by decide +kernel
theorem dX10_planOf_24 : decode cX10_planOf 24 = .ok (.iaload, 1) := by decide +kernel
theorem dX10_planOf_25 : decode cX10_planOf 25 = .ok (.goto 4, 3) := by decide +kernel
theorem dX10_planOf_28 : decode cX10_planOf 28 = .ok (.iconst (-1), 1) := by decide +kernel
theorem dX10_planOf_29 : decode cX10_planOf 29 = .ok (.ireturn, 1) := by decide +kernel
theorem dX10_leastOf_0 : decode cX10_leastOf 0 = .ok (.iconst 0, 1) := by decide +kernel
theorem dX10_leastOf_1 : decode cX10_leastOf 1 = .ok (.istore_n 1, 1) := by decide +kernel
theorem dX10_leastOf_2 : decode cX10_leastOf 2 = .ok (.iload_n 0, 1) := by decide +kernel
theorem dX10_leastOf_3 : decode cX10_leastOf 3 = .ok (.iload_n 1, 1) := by decide +kernel
theorem dX10_leastOf_4 : decode cX10_leastOf 4 = .ok (.ishr, 1) := by decide +kernel
theorem dX10_leastOf_5 : decode cX10_leastOf 5 = .ok (.iconst 1, 1) := by decide +kernel
theorem dX10_leastOf_6 : decode cX10_leastOf 6 = .ok (.iand, 1) := by decide +kernel
theorem dX10_leastOf_7 : decode cX10_leastOf 7 = .ok (.ifCond .ne 9, 3) := by decide +kernel
theorem dX10_leastOf_10 : decode cX10_leastOf 10 = .ok (.iinc 1 1, 3) := by decide +kernel
theorem dX10_leastOf_13 : decode cX10_leastOf 13 = .ok (.goto (-11), 3) := by decide +kernel
theorem dX10_leastOf_16 : decode cX10_leastOf 16 = .ok (.iload_n 1, 1) := by decide +kernel
theorem dX10_leastOf_17 : decode cX10_leastOf 17 = .ok (.ireturn, 1) := by decide +kernel
theorem dX10_lastSat_0 : decode cX10_lastSat 0 = .ok (.iconst (-1), 1) := by decide +kernel
theorem dX10_lastSat_1 : decode cX10_lastSat 1 = .ok (.istore 4, 2) := by decide +kernel
theorem dX10_lastSat_3 : decode cX10_lastSat 3 = .ok (.iconst 0, 1) := by decide +kernel
theorem dX10_lastSat_4 : decode cX10_lastSat 4 = .ok (.istore 5, 2) := by decide +kernel
theorem dX10_lastSat_6 : decode cX10_lastSat 6 = .ok (.iload 5, 2) := by decide +kernel
theorem dX10_lastSat_8 : decode cX10_lastSat 8 = .ok (.iload_n 3, 1) := by decide +kernel
theorem dX10_lastSat_9 : decode cX10_lastSat 9 = .ok (.if_icmp .ge 32, 3) := by decide +kernel
theorem dX10_lastSat_12 : decode cX10_lastSat 12 = .ok (.aload_n 0, 1) := by decide +kernel
theorem dX10_lastSat_13 : decode cX10_lastSat 13 = .ok (.iload 5, 2) := by decide +kernel
theorem dX10_lastSat_15 : decode cX10_lastSat 15 = .ok (.invokevirtual 248, 3) := by decide +kernel
theorem dX10_lastSat_18 : decode cX10_lastSat 18 = .ok (.iload_n 1, 1) := by decide +kernel
theorem dX10_lastSat_19 : decode cX10_lastSat 19 = .ok (.iload_n 2, 1) := by decide +kernel
theorem dX10_lastSat_20 : decode cX10_lastSat 20 = .ok (.invokestatic 251, 3) := by decide +kernel
theorem dX10_lastSat_23 : decode cX10_lastSat 23 = .ok (.if_icmp .ne 8, 3) := by decide +kernel
theorem dX10_lastSat_26 : decode cX10_lastSat 26 = .ok (.iload 5, 2) := by decide +kernel
theorem dX10_lastSat_28 : decode cX10_lastSat 28 = .ok (.goto 5, 3) := by decide +kernel
theorem dX10_lastSat_31 : decode cX10_lastSat 31 = .ok (.iload 4, 2) := by decide +kernel
theorem dX10_lastSat_33 : decode cX10_lastSat 33 = .ok (.istore 4, 2) := by decide +kernel
theorem dX10_lastSat_35 : decode cX10_lastSat 35 = .ok (.iinc 5 1, 3) := by decide +kernel
theorem dX10_lastSat_38 : decode cX10_lastSat 38 = .ok (.goto (-32), 3) := by decide +kernel
theorem dX10_lastSat_41 : decode cX10_lastSat 41 = .ok (.iload 4, 2) := by decide +kernel
theorem dX10_lastSat_43 : decode cX10_lastSat 43 = .ok (.ireturn, 1) := by decide +kernel
theorem dX10_fillsTurn_0 : decode cX10_fillsTurn 0 = .ok (.iconst (-1), 1) := by decide +kernel
theorem dX10_fillsTurn_1 : decode cX10_fillsTurn 1 = .ok (.istore_n 3, 1) := by decide +kernel
theorem dX10_fillsTurn_2 : decode cX10_fillsTurn 2 = .ok (.iconst 0, 1) := by decide +kernel
theorem dX10_fillsTurn_3 : decode cX10_fillsTurn 3 = .ok (.istore 4, 2) := by decide +kernel
theorem dX10_fillsTurn_5 : decode cX10_fillsTurn 5 = .ok (.iconst 0, 1) := by decide +kernel
theorem dX10_fillsTurn_6 : decode cX10_fillsTurn 6 = .ok (.istore 5, 2) := by decide +kernel
theorem dX10_fillsTurn_8 : decode cX10_fillsTurn 8 = .ok (.iload 5, 2) := by decide +kernel
theorem dX10_fillsTurn_10 : decode cX10_fillsTurn 10 = .ok (.iconst 2, 1) := by decide +kernel
theorem dX10_fillsTurn_11 : decode cX10_fillsTurn 11 = .ok (.if_icmp .ge 137, 3) := by decide +kernel
theorem dX10_fillsTurn_14 : decode cX10_fillsTurn 14 = .ok (.iload_n 3, 1) := by decide +kernel
theorem dX10_fillsTurn_15 : decode cX10_fillsTurn 15 = .ok (.ifCond .ge 133, 3) := by decide +kernel
theorem dX10_fillsTurn_18 : decode cX10_fillsTurn 18 = .ok (.iconst 0, 1) := by decide +kernel
theorem dX10_fillsTurn_19 : decode cX10_fillsTurn 19 = .ok (.istore 6, 2) := by decide +kernel
theorem dX10_fillsTurn_21 : decode cX10_fillsTurn 21 = .ok (.iload 6, 2) := by decide +kernel
theorem dX10_fillsTurn_23 : decode cX10_fillsTurn 23 = .ok (.bipush 64, 2) := by decide +kernel
theorem dX10_fillsTurn_25 : decode cX10_fillsTurn 25 = .ok (.if_icmp .ge 117, 3) := by decide +kernel
theorem dX10_fillsTurn_28 : decode cX10_fillsTurn 28 = .ok (.iload 6, 2) := by decide +kernel
theorem dX10_fillsTurn_30 : decode cX10_fillsTurn 30 = .ok (.bipush 8, 2) := by decide +kernel
theorem dX10_fillsTurn_32 : decode cX10_fillsTurn 32 = .ok (.idiv, 1) := by decide +kernel
theorem dX10_fillsTurn_33 : decode cX10_fillsTurn 33 = .ok (.istore 7, 2) := by decide +kernel
theorem dX10_fillsTurn_35 : decode cX10_fillsTurn 35 = .ok (.iload 6, 2) := by decide +kernel
theorem dX10_fillsTurn_37 : decode cX10_fillsTurn 37 = .ok (.bipush 8, 2) := by decide +kernel
theorem dX10_fillsTurn_39 : decode cX10_fillsTurn 39 = .ok (.irem, 1) := by decide +kernel
theorem dX10_fillsTurn_40 : decode cX10_fillsTurn 40 = .ok (.istore 8, 2) := by decide +kernel
theorem dX10_fillsTurn_42 : decode cX10_fillsTurn 42 = .ok (.iload 7, 2) := by decide +kernel
theorem dX10_fillsTurn_44 : decode cX10_fillsTurn 44 = .ok (.iload 8, 2) := by decide +kernel
theorem dX10_fillsTurn_46 : decode cX10_fillsTurn 46 = .ok (.if_icmp .ge 44, 3) := by decide +kernel
theorem dX10_fillsTurn_49 : decode cX10_fillsTurn 49 = .ok (.iload_n 1, 1) := by decide +kernel
theorem dX10_fillsTurn_50 : decode cX10_fillsTurn 50 = .ok (.iload 7, 2) := by decide +kernel
theorem dX10_fillsTurn_52 : decode cX10_fillsTurn 52 = .ok (.ishr, 1) := by decide +kernel
theorem dX10_fillsTurn_53 : decode cX10_fillsTurn 53 = .ok (.iconst 1, 1) := by decide +kernel
theorem dX10_fillsTurn_54 : decode cX10_fillsTurn 54 = .ok (.iand, 1) := by decide +kernel
theorem dX10_fillsTurn_55 : decode cX10_fillsTurn 55 = .ok (.iconst 1, 1) := by decide +kernel
theorem dX10_fillsTurn_56 : decode cX10_fillsTurn 56 = .ok (.if_icmp .ne 34, 3) := by decide +kernel
theorem dX10_fillsTurn_59 : decode cX10_fillsTurn 59 = .ok (.iload_n 1, 1) := by decide +kernel
theorem dX10_fillsTurn_60 : decode cX10_fillsTurn 60 = .ok (.iload 8, 2) := by decide +kernel
theorem dX10_fillsTurn_62 : decode cX10_fillsTurn 62 = .ok (.ishr, 1) := by decide +kernel
theorem dX10_fillsTurn_63 : decode cX10_fillsTurn 63 = .ok (.iconst 1, 1) := by decide +kernel
theorem dX10_fillsTurn_64 : decode cX10_fillsTurn 64 = .ok (.iand, 1) := by decide +kernel
theorem dX10_fillsTurn_65 : decode cX10_fillsTurn 65 = .ok (.iconst 1, 1) := by decide +kernel
theorem dX10_fillsTurn_66 : decode cX10_fillsTurn 66 = .ok (.if_icmp .ne 24, 3) := by decide +kernel
theorem dX10_fillsTurn_69 : decode cX10_fillsTurn 69 = .ok (.iload 5, 2) := by decide +kernel
theorem dX10_fillsTurn_71 : decode cX10_fillsTurn 71 = .ok (.iconst 1, 1) := by decide +kernel
theorem dX10_fillsTurn_72 : decode cX10_fillsTurn 72 = .ok (.if_icmp .eq 14, 3) := by decide +kernel
theorem dX10_fillsTurn_75 : decode cX10_fillsTurn 75 = .ok (.aload_n 0, 1) := by decide +kernel
theorem dX10_fillsTurn_76 : decode cX10_fillsTurn 76 = .ok (.iload 7, 2) := by decide +kernel
theorem dX10_fillsTurn_78 : decode cX10_fillsTurn 78 = .ok (.iload 8, 2) := by decide +kernel
theorem dX10_fillsTurn_80 : decode cX10_fillsTurn 80 = .ok (.invokevirtual 230, 3) := by decide +kernel
theorem dX10_fillsTurn_83 : decode cX10_fillsTurn 83 = .ok (.ifCond .ne 7, 3) := by decide +kernel
theorem dX10_fillsTurn_86 : decode cX10_fillsTurn 86 = .ok (.iconst 1, 1) := by decide +kernel
theorem dX10_fillsTurn_87 : decode cX10_fillsTurn 87 = .ok (.goto 4, 3) := by decide +kernel
theorem dX10_fillsTurn_90 : decode cX10_fillsTurn 90 = .ok (.iconst 0, 1) := by decide +kernel
theorem dX10_fillsTurn_91 : decode cX10_fillsTurn 91 = .ok (.istore 9, 2) := by decide +kernel
theorem dX10_fillsTurn_93 : decode cX10_fillsTurn 93 = .ok (.iload 9, 2) := by decide +kernel
theorem dX10_fillsTurn_95 : decode cX10_fillsTurn 95 = .ok (.ifCond .eq 15, 3) := by decide +kernel
theorem dX10_fillsTurn_98 : decode cX10_fillsTurn 98 = .ok (.aload_n 0, 1) := by decide +kernel
theorem dX10_fillsTurn_99 : decode cX10_fillsTurn 99 = .ok (.iload 7, 2) := by decide +kernel
theorem dX10_fillsTurn_101 : decode cX10_fillsTurn 101 = .ok (.iload 8, 2) := by decide +kernel
theorem dX10_fillsTurn_103 : decode cX10_fillsTurn 103 = .ok (.iload_n 2, 1) := by decide +kernel
theorem dX10_fillsTurn_104 : decode cX10_fillsTurn 104 = .ok (.invokevirtual 321, 3) := by decide +kernel
theorem dX10_fillsTurn_107 : decode cX10_fillsTurn 107 = .ok (.goto 4, 3) := by decide +kernel
theorem dX10_fillsTurn_110 : decode cX10_fillsTurn 110 = .ok (.iconst 0, 1) := by decide +kernel
theorem dX10_fillsTurn_111 : decode cX10_fillsTurn 111 = .ok (.istore 10, 2) := by decide +kernel
theorem dX10_fillsTurn_113 : decode cX10_fillsTurn 113 = .ok (.iload 9, 2) := by decide +kernel
theorem dX10_fillsTurn_115 : decode cX10_fillsTurn 115 = .ok (.ifCond .eq 21, 3) := by decide +kernel
theorem dX10_fillsTurn_118 : decode cX10_fillsTurn 118 = .ok (.iload_n 3, 1) := by decide +kernel
theorem dX10_fillsTurn_119 : decode cX10_fillsTurn 119 = .ok (.ifCond .lt 10, 3) := by decide +kernel
theorem dX10_fillsTurn_122 : decode cX10_fillsTurn 122 = .ok (.iload 10, 2) := by decide +kernel
theorem dX10_fillsTurn_124 : decode cX10_fillsTurn 124 = .ok (.iload 4, 2) := by decide +kernel
theorem dX10_fillsTurn_126 : decode cX10_fillsTurn 126 = .ok (.if_icmp .ge 10, 3) := by decide +kernel
theorem dX10_fillsTurn_129 : decode cX10_fillsTurn 129 = .ok (.iload 6, 2) := by decide +kernel
theorem dX10_fillsTurn_131 : decode cX10_fillsTurn 131 = .ok (.istore_n 3, 1) := by decide +kernel
theorem dX10_fillsTurn_132 : decode cX10_fillsTurn 132 = .ok (.iload 10, 2) := by decide +kernel
theorem dX10_fillsTurn_134 : decode cX10_fillsTurn 134 = .ok (.istore 4, 2) := by decide +kernel
theorem dX10_fillsTurn_136 : decode cX10_fillsTurn 136 = .ok (.iinc 6 1, 3) := by decide +kernel
theorem dX10_fillsTurn_139 : decode cX10_fillsTurn 139 = .ok (.goto (-118), 3) := by decide +kernel
theorem dX10_fillsTurn_142 : decode cX10_fillsTurn 142 = .ok (.iinc 5 1, 3) := by decide +kernel
theorem dX10_fillsTurn_145 : decode cX10_fillsTurn 145 = .ok (.goto (-137), 3) := by decide +kernel
theorem dX10_fillsTurn_148 : decode cX10_fillsTurn 148 = .ok (.iload_n 1, 1) := by decide +kernel
theorem dX10_fillsTurn_149 : decode cX10_fillsTurn 149 = .ok (.iconst 1, 1) := by decide +kernel
theorem dX10_fillsTurn_150 : decode cX10_fillsTurn 150 = .ok (.iload_n 3, 1) := by decide +kernel
theorem dX10_fillsTurn_151 : decode cX10_fillsTurn 151 = .ok (.bipush 8, 2) := by decide +kernel
theorem dX10_fillsTurn_153 : decode cX10_fillsTurn 153 = .ok (.idiv, 1) := by decide +kernel
theorem dX10_fillsTurn_154 : decode cX10_fillsTurn 154 = .ok (.ishl, 1) := by decide +kernel
theorem dX10_fillsTurn_155 : decode cX10_fillsTurn 155 = .ok (.iconst (-1), 1) := by decide +kernel
theorem dX10_fillsTurn_156 : decode cX10_fillsTurn 156 = .ok (.ixor, 1) := by decide +kernel
theorem dX10_fillsTurn_157 : decode cX10_fillsTurn 157 = .ok (.iand, 1) := by decide +kernel
theorem dX10_fillsTurn_158 : decode cX10_fillsTurn 158 = .ok (.iconst 1, 1) := by decide +kernel
theorem dX10_fillsTurn_159 : decode cX10_fillsTurn 159 = .ok (.iload_n 3, 1) := by decide +kernel
theorem dX10_fillsTurn_160 : decode cX10_fillsTurn 160 = .ok (.bipush 8, 2) := by decide +kernel
theorem dX10_fillsTurn_162 : decode cX10_fillsTurn 162 = .ok (.irem, 1) := by decide +kernel
theorem dX10_fillsTurn_163 : decode cX10_fillsTurn 163 = .ok (.ishl, 1) := by decide +kernel
theorem dX10_fillsTurn_164 : decode cX10_fillsTurn 164 = .ok (.iconst (-1), 1) := by decide +kernel
theorem dX10_fillsTurn_165 : decode cX10_fillsTurn 165 = .ok (.ixor, 1) := by decide +kernel
theorem dX10_fillsTurn_166 : decode cX10_fillsTurn 166 = .ok (.iand, 1) := by decide +kernel
theorem dX10_fillsTurn_167 : decode cX10_fillsTurn 167 = .ok (.istore 5, 2) := by decide +kernel
theorem dX10_fillsTurn_169 : decode cX10_fillsTurn 169 = .ok (.aload_n 0, 1) := by decide +kernel
theorem dX10_fillsTurn_170 : decode cX10_fillsTurn 170 = .ok (.getfield 66, 3) := by decide +kernel
theorem dX10_fillsTurn_173 : decode cX10_fillsTurn 173 = .ok (.iconst 0, 1) := by decide +kernel
theorem dX10_fillsTurn_174 : decode cX10_fillsTurn 174 = .ok (.iload_n 3, 1) := by decide +kernel
theorem dX10_fillsTurn_175 : decode cX10_fillsTurn 175 = .ok (.bipush 8, 2) := by decide +kernel
theorem dX10_fillsTurn_177 : decode cX10_fillsTurn 177 = .ok (.idiv, 1) := by decide +kernel
theorem dX10_fillsTurn_178 : decode cX10_fillsTurn 178 = .ok (.iastore, 1) := by decide +kernel
theorem dX10_fillsTurn_179 : decode cX10_fillsTurn 179 = .ok (.aload_n 0, 1) := by decide +kernel
theorem dX10_fillsTurn_180 : decode cX10_fillsTurn 180 = .ok (.getfield 66, 3) := by decide +kernel
theorem dX10_fillsTurn_183 : decode cX10_fillsTurn 183 = .ok (.iconst 1, 1) := by decide +kernel
theorem dX10_fillsTurn_184 : decode cX10_fillsTurn 184 = .ok (.iload_n 3, 1) := by decide +kernel
theorem dX10_fillsTurn_185 : decode cX10_fillsTurn 185 = .ok (.bipush 8, 2) := by decide +kernel
theorem dX10_fillsTurn_187 : decode cX10_fillsTurn 187 = .ok (.irem, 1) := by decide +kernel
theorem dX10_fillsTurn_188 : decode cX10_fillsTurn 188 = .ok (.iastore, 1) := by decide +kernel
theorem dX10_fillsTurn_189 : decode cX10_fillsTurn 189 = .ok (.aload_n 0, 1) := by decide +kernel
theorem dX10_fillsTurn_190 : decode cX10_fillsTurn 190 = .ok (.getfield 66, 3) := by decide +kernel
theorem dX10_fillsTurn_193 : decode cX10_fillsTurn 193 = .ok (.iconst 2, 1) := by decide +kernel
theorem dX10_fillsTurn_194 : decode cX10_fillsTurn 194 = .ok (.iload 5, 2) := by decide +kernel
theorem dX10_fillsTurn_196 : decode cX10_fillsTurn 196 = .ok (.invokestatic 324, 3) := by decide +kernel
theorem dX10_fillsTurn_199 : decode cX10_fillsTurn 199 = .ok (.iastore, 1) := by decide +kernel
theorem dX10_fillsTurn_200 : decode cX10_fillsTurn 200 = .ok (.aload_n 0, 1) := by decide +kernel
theorem dX10_fillsTurn_201 : decode cX10_fillsTurn 201 = .ok (.getfield 66, 3) := by decide +kernel
theorem dX10_fillsTurn_204 : decode cX10_fillsTurn 204 = .ok (.iconst 3, 1) := by decide +kernel
theorem dX10_fillsTurn_205 : decode cX10_fillsTurn 205 = .ok (.iload 5, 2) := by decide +kernel
theorem dX10_fillsTurn_207 : decode cX10_fillsTurn 207 = .ok (.iconst 1, 1) := by decide +kernel
theorem dX10_fillsTurn_208 : decode cX10_fillsTurn 208 = .ok (.aload_n 0, 1) := by decide +kernel
theorem dX10_fillsTurn_209 : decode cX10_fillsTurn 209 = .ok (.getfield 66, 3) := by decide +kernel
theorem dX10_fillsTurn_212 : decode cX10_fillsTurn 212 = .ok (.iconst 2, 1) := by decide +kernel
theorem dX10_fillsTurn_213 : decode cX10_fillsTurn 213 = .ok (.iaload, 1) := by decide +kernel
theorem dX10_fillsTurn_214 : decode cX10_fillsTurn 214 = .ok (.ishl, 1) := by decide +kernel
theorem dX10_fillsTurn_215 : decode cX10_fillsTurn 215 = .ok (.iconst (-1), 1) := by decide +kernel
theorem dX10_fillsTurn_216 : decode cX10_fillsTurn 216 = .ok (.ixor, 1) := by decide +kernel
theorem dX10_fillsTurn_217 : decode cX10_fillsTurn 217 = .ok (.iand, 1) := by decide +kernel
theorem dX10_fillsTurn_218 : decode cX10_fillsTurn 218 = .ok (.invokestatic 324, 3) := by decide +kernel
theorem dX10_fillsTurn_221 : decode cX10_fillsTurn 221 = .ok (.iastore, 1) := by decide +kernel
theorem dX10_fillsTurn_222 : decode cX10_fillsTurn 222 = .ok (.return_, 1) := by decide +kernel
theorem dX10_fillsDraw_0 : decode cX10_fillsDraw 0 = .ok (.iload_n 1, 1) := by decide +kernel
theorem dX10_fillsDraw_1 : decode cX10_fillsDraw 1 = .ok (.istore_n 2, 1) := by decide +kernel
theorem dX10_fillsDraw_2 : decode cX10_fillsDraw 2 = .ok (.iconst 0, 1) := by decide +kernel
theorem dX10_fillsDraw_3 : decode cX10_fillsDraw 3 = .ok (.istore_n 3, 1) := by decide +kernel
theorem dX10_fillsDraw_4 : decode cX10_fillsDraw 4 = .ok (.iload_n 3, 1) := by decide +kernel
theorem dX10_fillsDraw_5 : decode cX10_fillsDraw 5 = .ok (.iconst 4, 1) := by decide +kernel
theorem dX10_fillsDraw_6 : decode cX10_fillsDraw 6 = .ok (.if_icmp .ge 90, 3) := by decide +kernel
theorem dX10_fillsDraw_9 : decode cX10_fillsDraw 9 = .ok (.aload_n 0, 1) := by decide +kernel
theorem dX10_fillsDraw_10 : decode cX10_fillsDraw 10 = .ok (.aload_n 0, 1) := by decide +kernel
theorem dX10_fillsDraw_11 : decode cX10_fillsDraw 11 = .ok (.getfield 34, 3) := by decide +kernel
theorem dX10_fillsDraw_14 : decode cX10_fillsDraw 14 = .ok (.ldc_w 327, 3) := by decide +kernel
theorem dX10_fillsDraw_17 : decode cX10_fillsDraw 17 = .ok (.imul, 1) := by decide +kernel
theorem dX10_fillsDraw_18 : decode cX10_fillsDraw 18 = .ok (.sipush 12345, 3) := by decide +kernel
theorem dX10_fillsDraw_21 : decode cX10_fillsDraw 21 = .ok (.iadd, 1) := by decide +kernel
theorem dX10_fillsDraw_22 : decode cX10_fillsDraw 22 = .ok (.putfield 34, 3) := by decide +kernel
theorem dX10_fillsDraw_25 : decode cX10_fillsDraw 25 = .ok (.aload_n 0, 1) := by decide +kernel
theorem dX10_fillsDraw_26 : decode cX10_fillsDraw 26 = .ok (.getfield 34, 3) := by decide +kernel
theorem dX10_fillsDraw_29 : decode cX10_fillsDraw 29 = .ok (.bipush 16, 2) := by decide +kernel
theorem dX10_fillsDraw_31 : decode cX10_fillsDraw 31 = .ok (.iushr, 1) := by decide +kernel
theorem dX10_fillsDraw_32 : decode cX10_fillsDraw 32 = .ok (.iload_n 2, 1) := by decide +kernel
theorem dX10_fillsDraw_33 : decode cX10_fillsDraw 33 = .ok (.invokestatic 312, 3) := by decide +kernel
theorem dX10_fillsDraw_36 : decode cX10_fillsDraw 36 = .ok (.irem, 1) := by decide +kernel
theorem dX10_fillsDraw_37 : decode cX10_fillsDraw 37 = .ok (.istore 4, 2) := by decide +kernel
theorem dX10_fillsDraw_39 : decode cX10_fillsDraw 39 = .ok (.iconst 0, 1) := by decide +kernel
theorem dX10_fillsDraw_40 : decode cX10_fillsDraw 40 = .ok (.istore 5, 2) := by decide +kernel
theorem dX10_fillsDraw_42 : decode cX10_fillsDraw 42 = .ok (.iload_n 2, 1) := by decide +kernel
theorem dX10_fillsDraw_43 : decode cX10_fillsDraw 43 = .ok (.iload 5, 2) := by decide +kernel
theorem dX10_fillsDraw_45 : decode cX10_fillsDraw 45 = .ok (.ishr, 1) := by decide +kernel
theorem dX10_fillsDraw_46 : decode cX10_fillsDraw 46 = .ok (.iconst 1, 1) := by decide +kernel
theorem dX10_fillsDraw_47 : decode cX10_fillsDraw 47 = .ok (.iand, 1) := by decide +kernel
theorem dX10_fillsDraw_48 : decode cX10_fillsDraw 48 = .ok (.ifCond .eq 8, 3) := by decide +kernel
theorem dX10_fillsDraw_51 : decode cX10_fillsDraw 51 = .ok (.iload 4, 2) := by decide +kernel
theorem dX10_fillsDraw_53 : decode cX10_fillsDraw 53 = .ok (.ifCond .le 20, 3) := by decide +kernel
theorem dX10_fillsDraw_56 : decode cX10_fillsDraw 56 = .ok (.iload 4, 2) := by decide +kernel
theorem dX10_fillsDraw_58 : decode cX10_fillsDraw 58 = .ok (.iload_n 2, 1) := by decide +kernel
theorem dX10_fillsDraw_59 : decode cX10_fillsDraw 59 = .ok (.iload 5, 2) := by decide +kernel
theorem dX10_fillsDraw_61 : decode cX10_fillsDraw 61 = .ok (.ishr, 1) := by decide +kernel
theorem dX10_fillsDraw_62 : decode cX10_fillsDraw 62 = .ok (.iconst 1, 1) := by decide +kernel
theorem dX10_fillsDraw_63 : decode cX10_fillsDraw 63 = .ok (.iand, 1) := by decide +kernel
theorem dX10_fillsDraw_64 : decode cX10_fillsDraw 64 = .ok (.isub, 1) := by decide +kernel
theorem dX10_fillsDraw_65 : decode cX10_fillsDraw 65 = .ok (.istore 4, 2) := by decide +kernel
theorem dX10_fillsDraw_67 : decode cX10_fillsDraw 67 = .ok (.iinc 5 1, 3) := by decide +kernel
theorem dX10_fillsDraw_70 : decode cX10_fillsDraw 70 = .ok (.goto (-28), 3) := by decide +kernel
theorem dX10_fillsDraw_73 : decode cX10_fillsDraw 73 = .ok (.aload_n 0, 1) := by decide +kernel
theorem dX10_fillsDraw_74 : decode cX10_fillsDraw 74 = .ok (.getfield 66, 3) := by decide +kernel
theorem dX10_fillsDraw_77 : decode cX10_fillsDraw 77 = .ok (.iload_n 3, 1) := by decide +kernel
theorem dX10_fillsDraw_78 : decode cX10_fillsDraw 78 = .ok (.iload 5, 2) := by decide +kernel
theorem dX10_fillsDraw_80 : decode cX10_fillsDraw 80 = .ok (.iastore, 1) := by decide +kernel
theorem dX10_fillsDraw_81 : decode cX10_fillsDraw 81 = .ok (.iload_n 2, 1) := by decide +kernel
theorem dX10_fillsDraw_82 : decode cX10_fillsDraw 82 = .ok (.iconst 1, 1) := by decide +kernel
theorem dX10_fillsDraw_83 : decode cX10_fillsDraw 83 = .ok (.iload 5, 2) := by decide +kernel
theorem dX10_fillsDraw_85 : decode cX10_fillsDraw 85 = .ok (.ishl, 1) := by decide +kernel
theorem dX10_fillsDraw_86 : decode cX10_fillsDraw 86 = .ok (.iconst (-1), 1) := by decide +kernel
theorem dX10_fillsDraw_87 : decode cX10_fillsDraw 87 = .ok (.ixor, 1) := by decide +kernel
theorem dX10_fillsDraw_88 : decode cX10_fillsDraw 88 = .ok (.iand, 1) := by decide +kernel
theorem dX10_fillsDraw_89 : decode cX10_fillsDraw 89 = .ok (.istore_n 2, 1) := by decide +kernel
theorem dX10_fillsDraw_90 : decode cX10_fillsDraw 90 = .ok (.iinc 3 1, 3) := by decide +kernel
theorem dX10_fillsDraw_93 : decode cX10_fillsDraw 93 = .ok (.goto (-89), 3) := by decide +kernel
theorem dX10_fillsDraw_96 : decode cX10_fillsDraw 96 = .ok (.return_, 1) := by decide +kernel
theorem dX10_fillsCount_0 : decode cX10_fillsCount 0 = .ok (.aload_n 0, 1) := by decide +kernel
theorem dX10_fillsCount_1 : decode cX10_fillsCount 1 = .ok (.iload_n 1, 1) := by decide +kernel
theorem dX10_fillsCount_2 : decode cX10_fillsCount 2 = .ok (.invokevirtual 328, 3) := by decide +kernel
theorem dX10_fillsCount_5 : decode cX10_fillsCount 5 = .ok (.iload_n 1, 1) := by decide +kernel
theorem dX10_fillsCount_6 : decode cX10_fillsCount 6 = .ok (.iconst 1, 1) := by decide +kernel
theorem dX10_fillsCount_7 : decode cX10_fillsCount 7 = .ok (.aload_n 0, 1) := by decide +kernel
theorem dX10_fillsCount_8 : decode cX10_fillsCount 8 = .ok (.getfield 66, 3) := by decide +kernel
theorem dX10_fillsCount_11 : decode cX10_fillsCount 11 = .ok (.iconst 0, 1) := by decide +kernel
theorem dX10_fillsCount_12 : decode cX10_fillsCount 12 = .ok (.iaload, 1) := by decide +kernel
theorem dX10_fillsCount_13 : decode cX10_fillsCount 13 = .ok (.ishl, 1) := by decide +kernel
theorem dX10_fillsCount_14 : decode cX10_fillsCount 14 = .ok (.iconst (-1), 1) := by decide +kernel
theorem dX10_fillsCount_15 : decode cX10_fillsCount 15 = .ok (.ixor, 1) := by decide +kernel
theorem dX10_fillsCount_16 : decode cX10_fillsCount 16 = .ok (.iand, 1) := by decide +kernel
theorem dX10_fillsCount_17 : decode cX10_fillsCount 17 = .ok (.iconst 1, 1) := by decide +kernel
theorem dX10_fillsCount_18 : decode cX10_fillsCount 18 = .ok (.aload_n 0, 1) := by decide +kernel
theorem dX10_fillsCount_19 : decode cX10_fillsCount 19 = .ok (.getfield 66, 3) := by decide +kernel
theorem dX10_fillsCount_22 : decode cX10_fillsCount 22 = .ok (.iconst 1, 1) := by decide +kernel
theorem dX10_fillsCount_23 : decode cX10_fillsCount 23 = .ok (.iaload, 1) := by decide +kernel
theorem dX10_fillsCount_24 : decode cX10_fillsCount 24 = .ok (.ishl, 1) := by decide +kernel
theorem dX10_fillsCount_25 : decode cX10_fillsCount 25 = .ok (.iconst (-1), 1) := by decide +kernel
theorem dX10_fillsCount_26 : decode cX10_fillsCount 26 = .ok (.ixor, 1) := by decide +kernel
theorem dX10_fillsCount_27 : decode cX10_fillsCount 27 = .ok (.iand, 1) := by decide +kernel
theorem dX10_fillsCount_28 : decode cX10_fillsCount 28 = .ok (.iconst 1, 1) := by decide +kernel
theorem dX10_fillsCount_29 : decode cX10_fillsCount 29 = .ok (.aload_n 0, 1) := by decide +kernel
theorem dX10_fillsCount_30 : decode cX10_fillsCount 30 = .ok (.getfield 66, 3) := by decide +kernel
theorem dX10_fillsCount_33 : decode cX10_fillsCount 33 = .ok (.iconst 2, 1) := by decide +kernel
theorem dX10_fillsCount_34 : decode cX10_fillsCount 34 = .ok (.iaload, 1) := by decide +kernel
theorem dX10_fillsCount_35 : decode cX10_fillsCount 35 = .ok (.ishl, 1) := by decide +kernel
theorem dX10_fillsCount_36 : decode cX10_fillsCount 36 = .ok (.iconst (-1), 1) := by decide +kernel
theorem dX10_fillsCount_37 : decode cX10_fillsCount 37 = .ok (.ixor, 1) := by decide +kernel
theorem dX10_fillsCount_38 : decode cX10_fillsCount 38 = .ok (.iand, 1) := by decide +kernel
theorem dX10_fillsCount_39 : decode cX10_fillsCount 39 = .ok (.istore_n 2, 1) := by decide +kernel
theorem dX10_fillsCount_40 : decode cX10_fillsCount 40 = .ok (.iload_n 2, 1) := by decide +kernel
theorem dX10_fillsCount_41 : decode cX10_fillsCount 41 = .ok (.aload_n 0, 1) := by decide +kernel
theorem dX10_fillsCount_42 : decode cX10_fillsCount 42 = .ok (.getfield 7, 3) := by decide +kernel
theorem dX10_fillsCount_45 : decode cX10_fillsCount 45 = .ok (.aload_n 0, 1) := by decide +kernel
theorem dX10_fillsCount_46 : decode cX10_fillsCount 46 = .ok (.getfield 66, 3) := by decide +kernel
theorem dX10_fillsCount_49 : decode cX10_fillsCount 49 = .ok (.iconst 0, 1) := by decide +kernel
theorem dX10_fillsCount_50 : decode cX10_fillsCount 50 = .ok (.iaload, 1) := by decide +kernel
theorem dX10_fillsCount_51 : decode cX10_fillsCount 51 = .ok (.iaload, 1) := by decide +kernel
theorem dX10_fillsCount_52 : decode cX10_fillsCount 52 = .ok (.iconst (-1), 1) := by decide +kernel
theorem dX10_fillsCount_53 : decode cX10_fillsCount 53 = .ok (.ixor, 1) := by decide +kernel
theorem dX10_fillsCount_54 : decode cX10_fillsCount 54 = .ok (.aload_n 0, 1) := by decide +kernel
theorem dX10_fillsCount_55 : decode cX10_fillsCount 55 = .ok (.getfield 7, 3) := by decide +kernel
theorem dX10_fillsCount_58 : decode cX10_fillsCount 58 = .ok (.aload_n 0, 1) := by decide +kernel
theorem dX10_fillsCount_59 : decode cX10_fillsCount 59 = .ok (.getfield 66, 3) := by decide +kernel
theorem dX10_fillsCount_62 : decode cX10_fillsCount 62 = .ok (.iconst 1, 1) := by decide +kernel
theorem dX10_fillsCount_63 : decode cX10_fillsCount 63 = .ok (.iaload, 1) := by decide +kernel
theorem dX10_fillsCount_64 : decode cX10_fillsCount 64 = .ok (.iaload, 1) := by decide +kernel
theorem dX10_fillsCount_65 : decode cX10_fillsCount 65 = .ok (.iconst (-1), 1) := by decide +kernel
theorem dX10_fillsCount_66 : decode cX10_fillsCount 66 = .ok (.ixor, 1) := by decide +kernel
theorem dX10_fillsCount_67 : decode cX10_fillsCount 67 = .ok (.iand, 1) := by decide +kernel
theorem dX10_fillsCount_68 : decode cX10_fillsCount 68 = .ok (.iand, 1) := by decide +kernel
theorem dX10_fillsCount_69 : decode cX10_fillsCount 69 = .ok (.istore_n 2, 1) := by decide +kernel
theorem dX10_fillsCount_70 : decode cX10_fillsCount 70 = .ok (.aload_n 0, 1) := by decide +kernel
theorem dX10_fillsCount_71 : decode cX10_fillsCount 71 = .ok (.getfield 66, 3) := by decide +kernel
theorem dX10_fillsCount_74 : decode cX10_fillsCount 74 = .ok (.iconst 3, 1) := by decide +kernel
theorem dX10_fillsCount_75 : decode cX10_fillsCount 75 = .ok (.iload_n 2, 1) := by decide +kernel
theorem dX10_fillsCount_76 : decode cX10_fillsCount 76 = .ok (.ifCond .ne 12, 3) := by decide +kernel
theorem dX10_fillsCount_79 : decode cX10_fillsCount 79 = .ok (.aload_n 0, 1) := by decide +kernel
theorem dX10_fillsCount_80 : decode cX10_fillsCount 80 = .ok (.getfield 66, 3) := by decide +kernel
theorem dX10_fillsCount_83 : decode cX10_fillsCount 83 = .ok (.iconst 3, 1) := by decide +kernel
theorem dX10_fillsCount_84 : decode cX10_fillsCount 84 = .ok (.iaload, 1) := by decide +kernel
theorem dX10_fillsCount_85 : decode cX10_fillsCount 85 = .ok (.goto 7, 3) := by decide +kernel
theorem dX10_fillsCount_88 : decode cX10_fillsCount 88 = .ok (.iload_n 2, 1) := by decide +kernel
theorem dX10_fillsCount_89 : decode cX10_fillsCount 89 = .ok (.invokestatic 324, 3) := by decide +kernel
theorem dX10_fillsCount_92 : decode cX10_fillsCount 92 = .ok (.iastore, 1) := by decide +kernel
theorem dX10_fillsCount_93 : decode cX10_fillsCount 93 = .ok (.return_, 1) := by decide +kernel
theorem dX10_fillsTold_0 : decode cX10_fillsTold 0 = .ok (.iconst 1, 1) := by decide +kernel
theorem dX10_fillsTold_1 : decode cX10_fillsTold 1 = .ok (.istore_n 2, 1) := by decide +kernel
theorem dX10_fillsTold_2 : decode cX10_fillsTold 2 = .ok (.iconst 0, 1) := by decide +kernel
theorem dX10_fillsTold_3 : decode cX10_fillsTold 3 = .ok (.istore_n 3, 1) := by decide +kernel
theorem dX10_fillsTold_4 : decode cX10_fillsTold 4 = .ok (.iload_n 3, 1) := by decide +kernel
theorem dX10_fillsTold_5 : decode cX10_fillsTold 5 = .ok (.iconst 4, 1) := by decide +kernel
theorem dX10_fillsTold_6 : decode cX10_fillsTold 6 = .ok (.if_icmp .ge 46, 3) := by decide +kernel
theorem dX10_fillsTold_9 : decode cX10_fillsTold 9 = .ok (.aload_n 0, 1) := by decide +kernel
theorem dX10_fillsTold_10 : decode cX10_fillsTold 10 = .ok (.getfield 66, 3) := by decide +kernel
theorem dX10_fillsTold_13 : decode cX10_fillsTold 13 = .ok (.iload_n 3, 1) := by decide +kernel
theorem dX10_fillsTold_14 : decode cX10_fillsTold 14 = .ok (.iload_n 1, 1) := by decide +kernel
theorem dX10_fillsTold_15 : decode cX10_fillsTold 15 = .ok (.iconst 3, 1) := by decide +kernel
theorem dX10_fillsTold_16 : decode cX10_fillsTold 16 = .ok (.iload_n 3, 1) := by decide +kernel
theorem dX10_fillsTold_17 : decode cX10_fillsTold 17 = .ok (.imul, 1) := by decide +kernel
theorem dX10_fillsTold_18 : decode cX10_fillsTold 18 = .ok (.ishr, 1) := by decide +kernel
theorem dX10_fillsTold_19 : decode cX10_fillsTold 19 = .ok (.bipush 7, 2) := by decide +kernel
theorem dX10_fillsTold_21 : decode cX10_fillsTold 21 = .ok (.iand, 1) := by decide +kernel
theorem dX10_fillsTold_22 : decode cX10_fillsTold 22 = .ok (.iastore, 1) := by decide +kernel
theorem dX10_fillsTold_23 : decode cX10_fillsTold 23 = .ok (.iload_n 2, 1) := by decide +kernel
theorem dX10_fillsTold_24 : decode cX10_fillsTold 24 = .ok (.ifCond .eq 20, 3) := by decide +kernel
theorem dX10_fillsTold_27 : decode cX10_fillsTold 27 = .ok (.aload_n 0, 1) := by decide +kernel
theorem dX10_fillsTold_28 : decode cX10_fillsTold 28 = .ok (.aload_n 0, 1) := by decide +kernel
theorem dX10_fillsTold_29 : decode cX10_fillsTold 29 = .ok (.getfield 66, 3) := by decide +kernel
theorem dX10_fillsTold_32 : decode cX10_fillsTold 32 = .ok (.iload_n 3, 1) := by decide +kernel
theorem dX10_fillsTold_33 : decode cX10_fillsTold 33 = .ok (.iaload, 1) := by decide +kernel
theorem dX10_fillsTold_34 : decode cX10_fillsTold 34 = .ok (.invokevirtual 109, 3) := by decide +kernel
theorem dX10_fillsTold_37 : decode cX10_fillsTold 37 = .ok (.ifCond .eq 7, 3) := by decide +kernel
theorem dX10_fillsTold_40 : decode cX10_fillsTold 40 = .ok (.iconst 1, 1) := by decide +kernel
theorem dX10_fillsTold_41 : decode cX10_fillsTold 41 = .ok (.goto 4, 3) := by decide +kernel
theorem dX10_fillsTold_44 : decode cX10_fillsTold 44 = .ok (.iconst 0, 1) := by decide +kernel
theorem dX10_fillsTold_45 : decode cX10_fillsTold 45 = .ok (.istore_n 2, 1) := by decide +kernel
theorem dX10_fillsTold_46 : decode cX10_fillsTold 46 = .ok (.iinc 3 1, 3) := by decide +kernel
theorem dX10_fillsTold_49 : decode cX10_fillsTold 49 = .ok (.goto (-45), 3) := by decide +kernel
theorem dX10_fillsTold_52 : decode cX10_fillsTold 52 = .ok (.iload_n 2, 1) := by decide +kernel
theorem dX10_fillsTold_53 : decode cX10_fillsTold 53 = .ok (.ireturn, 1) := by decide +kernel
theorem dX10_fill_0 : decode cX10_fill 0 = .ok (.aload_n 0, 1) := by decide +kernel
theorem dX10_fill_1 : decode cX10_fill 1 = .ok (.iload_n 1, 1) := by decide +kernel
theorem dX10_fill_2 : decode cX10_fill 2 = .ok (.invokevirtual 318, 3) := by decide +kernel
theorem dX10_fill_5 : decode cX10_fill 5 = .ok (.ifCond .eq 10, 3) := by decide +kernel
theorem dX10_fill_8 : decode cX10_fill 8 = .ok (.iload_n 2, 1) := by decide +kernel
theorem dX10_fill_9 : decode cX10_fill 9 = .ok (.invokestatic 233, 3) := by decide +kernel
theorem dX10_fill_12 : decode cX10_fill 12 = .ok (.ifCond .ne 5, 3) := by decide +kernel
theorem dX10_fill_15 : decode cX10_fill 15 = .ok (.iconst (-1), 1) := by decide +kernel
theorem dX10_fill_16 : decode cX10_fill 16 = .ok (.ireturn, 1) := by decide +kernel
theorem dX10_fill_17 : decode cX10_fill 17 = .ok (.aload_n 0, 1) := by decide +kernel
theorem dX10_fill_18 : decode cX10_fill 18 = .ok (.getfield 31, 3) := by decide +kernel
theorem dX10_fill_21 : decode cX10_fill 21 = .ok (.iconst 2, 1) := by decide +kernel
theorem dX10_fill_22 : decode cX10_fill 22 = .ok (.iload_n 1, 1) := by decide +kernel
theorem dX10_fill_23 : decode cX10_fill 23 = .ok (.imul, 1) := by decide +kernel
theorem dX10_fill_24 : decode cX10_fill 24 = .ok (.iaload, 1) := by decide +kernel
theorem dX10_fill_25 : decode cX10_fill 25 = .ok (.istore_n 3, 1) := by decide +kernel
theorem dX10_fill_26 : decode cX10_fill 26 = .ok (.aload_n 0, 1) := by decide +kernel
theorem dX10_fill_27 : decode cX10_fill 27 = .ok (.getfield 31, 3) := by decide +kernel
theorem dX10_fill_30 : decode cX10_fill 30 = .ok (.iconst 2, 1) := by decide +kernel
theorem dX10_fill_31 : decode cX10_fill 31 = .ok (.iload_n 1, 1) := by decide +kernel
theorem dX10_fill_32 : decode cX10_fill 32 = .ok (.imul, 1) := by decide +kernel
theorem dX10_fill_33 : decode cX10_fill 33 = .ok (.iconst 1, 1) := by decide +kernel
theorem dX10_fill_34 : decode cX10_fill 34 = .ok (.iadd, 1) := by decide +kernel
theorem dX10_fill_35 : decode cX10_fill 35 = .ok (.iaload, 1) := by decide +kernel
theorem dX10_fill_36 : decode cX10_fill 36 = .ok (.istore 4, 2) := by decide +kernel
theorem dX10_fill_38 : decode cX10_fill 38 = .ok (.iconst 0, 1) := by decide +kernel
theorem dX10_fill_39 : decode cX10_fill 39 = .ok (.istore 5, 2) := by decide +kernel
theorem dX10_fill_41 : decode cX10_fill 41 = .ok (.iconst 0, 1) := by decide +kernel
theorem dX10_fill_42 : decode cX10_fill 42 = .ok (.istore 6, 2) := by decide +kernel
theorem dX10_fill_44 : decode cX10_fill 44 = .ok (.iload 6, 2) := by decide +kernel
theorem dX10_fill_46 : decode cX10_fill 46 = .ok (.aload_n 0, 1) := by decide +kernel
theorem dX10_fill_47 : decode cX10_fill 47 = .ok (.getfield 102, 3) := by decide +kernel
theorem dX10_fill_50 : decode cX10_fill 50 = .ok (.if_icmp .ge 63, 3) := by decide +kernel
theorem dX10_fill_53 : decode cX10_fill 53 = .ok (.iload_n 3, 1) := by decide +kernel
theorem dX10_fill_54 : decode cX10_fill 54 = .ok (.iconst 4, 1) := by decide +kernel
theorem dX10_fill_55 : decode cX10_fill 55 = .ok (.if_icmp .ne 21, 3) := by decide +kernel
theorem dX10_fill_58 : decode cX10_fill 58 = .ok (.iload 4, 2) := by decide +kernel
theorem dX10_fill_60 : decode cX10_fill 60 = .ok (.iload_n 2, 1) := by decide +kernel
theorem dX10_fill_61 : decode cX10_fill 61 = .ok (.iadd, 1) := by decide +kernel
theorem dX10_fill_62 : decode cX10_fill 62 = .ok (.aload_n 0, 1) := by decide +kernel
theorem dX10_fill_63 : decode cX10_fill 63 = .ok (.getfield 102, 3) := by decide +kernel
theorem dX10_fill_66 : decode cX10_fill 66 = .ok (.irem, 1) := by decide +kernel
theorem dX10_fill_67 : decode cX10_fill 67 = .ok (.iload 6, 2) := by decide +kernel
theorem dX10_fill_69 : decode cX10_fill 69 = .ok (.if_icmp .ne 7, 3) := by decide +kernel
theorem dX10_fill_72 : decode cX10_fill 72 = .ok (.iconst 1, 1) := by decide +kernel
theorem dX10_fill_73 : decode cX10_fill 73 = .ok (.goto 4, 3) := by decide +kernel
theorem dX10_fill_76 : decode cX10_fill 76 = .ok (.iconst 0, 1) := by decide +kernel
theorem dX10_fill_77 : decode cX10_fill 77 = .ok (.istore 7, 2) := by decide +kernel
theorem dX10_fill_79 : decode cX10_fill 79 = .ok (.iload 5, 2) := by decide +kernel
theorem dX10_fill_81 : decode cX10_fill 81 = .ok (.aload_n 0, 1) := by decide +kernel
theorem dX10_fill_82 : decode cX10_fill 82 = .ok (.iload 6, 2) := by decide +kernel
theorem dX10_fill_84 : decode cX10_fill 84 = .ok (.iload_n 2, 1) := by decide +kernel
theorem dX10_fill_85 : decode cX10_fill 85 = .ok (.invokevirtual 236, 3) := by decide +kernel
theorem dX10_fill_88 : decode cX10_fill 88 = .ok (.ifCond .ne 8, 3) := by decide +kernel
theorem dX10_fill_91 : decode cX10_fill 91 = .ok (.iload 7, 2) := by decide +kernel
theorem dX10_fill_93 : decode cX10_fill 93 = .ok (.ifCond .eq 7, 3) := by decide +kernel
theorem dX10_fill_96 : decode cX10_fill 96 = .ok (.iconst 0, 1) := by decide +kernel
theorem dX10_fill_97 : decode cX10_fill 97 = .ok (.goto 7, 3) := by decide +kernel
theorem dX10_fill_100 : decode cX10_fill 100 = .ok (.iconst 1, 1) := by decide +kernel
theorem dX10_fill_101 : decode cX10_fill 101 = .ok (.iload 6, 2) := by decide +kernel
theorem dX10_fill_103 : decode cX10_fill 103 = .ok (.ishl, 1) := by decide +kernel
theorem dX10_fill_104 : decode cX10_fill 104 = .ok (.ior, 1) := by decide +kernel
theorem dX10_fill_105 : decode cX10_fill 105 = .ok (.istore 5, 2) := by decide +kernel
theorem dX10_fill_107 : decode cX10_fill 107 = .ok (.iinc 6 1, 3) := by decide +kernel
theorem dX10_fill_110 : decode cX10_fill 110 = .ok (.goto (-66), 3) := by decide +kernel
theorem dX10_fill_113 : decode cX10_fill 113 = .ok (.iload_n 3, 1) := by decide +kernel
theorem dX10_fill_114 : decode cX10_fill 114 = .ok (.iconst 5, 1) := by decide +kernel
theorem dX10_fill_115 : decode cX10_fill 115 = .ok (.if_icmp .ne 15, 3) := by decide +kernel
theorem dX10_fill_118 : decode cX10_fill 118 = .ok (.aload_n 0, 1) := by decide +kernel
theorem dX10_fill_119 : decode cX10_fill 119 = .ok (.iload 4, 2) := by decide +kernel
theorem dX10_fill_121 : decode cX10_fill 121 = .ok (.invokevirtual 332, 3) := by decide +kernel
theorem dX10_fill_124 : decode cX10_fill 124 = .ok (.ifCond .ne 18, 3) := by decide +kernel
theorem dX10_fill_127 : decode cX10_fill 127 = .ok (.goto 12, 3) := by decide +kernel
theorem dX10_fill_130 : decode cX10_fill 130 = .ok (.iload 5, 2) := by decide +kernel
theorem dX10_fill_132 : decode cX10_fill 132 = .ok (.invokestatic 312, 3) := by decide +kernel
theorem dX10_fill_135 : decode cX10_fill 135 = .ok (.iconst 4, 1) := by decide +kernel
theorem dX10_fill_136 : decode cX10_fill 136 = .ok (.if_icmp .ge 6, 3) := by decide +kernel
theorem dX10_fill_139 : decode cX10_fill 139 = .ok (.bipush (-3), 2) := by decide +kernel
theorem dX10_fill_141 : decode cX10_fill 141 = .ok (.ireturn, 1) := by decide +kernel
theorem dX10_fill_142 : decode cX10_fill 142 = .ok (.iload_n 3, 1) := by decide +kernel
theorem dX10_fill_143 : decode cX10_fill 143 = .ok (.iconst 1, 1) := by decide +kernel
theorem dX10_fill_144 : decode cX10_fill 144 = .ok (.if_icmp .eq 8, 3) := by decide +kernel
theorem dX10_fill_147 : decode cX10_fill 147 = .ok (.iload_n 3, 1) := by decide +kernel
theorem dX10_fill_148 : decode cX10_fill 148 = .ok (.iconst 4, 1) := by decide +kernel
theorem dX10_fill_149 : decode cX10_fill 149 = .ok (.if_icmp .ne 13, 3) := by decide +kernel
theorem dX10_fill_152 : decode cX10_fill 152 = .ok (.aload_n 0, 1) := by decide +kernel
theorem dX10_fill_153 : decode cX10_fill 153 = .ok (.iload 5, 2) := by decide +kernel
theorem dX10_fill_155 : decode cX10_fill 155 = .ok (.iload_n 2, 1) := by decide +kernel
theorem dX10_fill_156 : decode cX10_fill 156 = .ok (.invokevirtual 335, 3) := by decide +kernel
theorem dX10_fill_159 : decode cX10_fill 159 = .ok (.goto 28, 3) := by decide +kernel
theorem dX10_fill_162 : decode cX10_fill 162 = .ok (.iload_n 3, 1) := by decide +kernel
theorem dX10_fill_163 : decode cX10_fill 163 = .ok (.iconst 2, 1) := by decide +kernel
theorem dX10_fill_164 : decode cX10_fill 164 = .ok (.if_icmp .ne 12, 3) := by decide +kernel
theorem dX10_fill_167 : decode cX10_fill 167 = .ok (.aload_n 0, 1) := by decide +kernel
theorem dX10_fill_168 : decode cX10_fill 168 = .ok (.iload 5, 2) := by decide +kernel
theorem dX10_fill_170 : decode cX10_fill 170 = .ok (.invokevirtual 328, 3) := by decide +kernel
theorem dX10_fill_173 : decode cX10_fill 173 = .ok (.goto 14, 3) := by decide +kernel
theorem dX10_fill_176 : decode cX10_fill 176 = .ok (.iload_n 3, 1) := by decide +kernel
theorem dX10_fill_177 : decode cX10_fill 177 = .ok (.iconst 3, 1) := by decide +kernel
theorem dX10_fill_178 : decode cX10_fill 178 = .ok (.if_icmp .ne 9, 3) := by decide +kernel
theorem dX10_fill_181 : decode cX10_fill 181 = .ok (.aload_n 0, 1) := by decide +kernel
theorem dX10_fill_182 : decode cX10_fill 182 = .ok (.iload 5, 2) := by decide +kernel
theorem dX10_fill_184 : decode cX10_fill 184 = .ok (.invokevirtual 338, 3) := by decide +kernel
theorem dX10_fill_187 : decode cX10_fill 187 = .ok (.iconst 0, 1) := by decide +kernel
theorem dX10_fill_188 : decode cX10_fill 188 = .ok (.istore 6, 2) := by decide +kernel
theorem dX10_fill_190 : decode cX10_fill 190 = .ok (.iload 6, 2) := by decide +kernel
theorem dX10_fill_192 : decode cX10_fill 192 = .ok (.iconst 4, 1) := by decide +kernel
theorem dX10_fill_193 : decode cX10_fill 193 = .ok (.if_icmp .ge 27, 3) := by decide +kernel
theorem dX10_fill_196 : decode cX10_fill 196 = .ok (.aload_n 0, 1) := by decide +kernel
theorem dX10_fill_197 : decode cX10_fill 197 = .ok (.getfield 19, 3) := by decide +kernel
theorem dX10_fill_200 : decode cX10_fill 200 = .ok (.iconst 4, 1) := by decide +kernel
theorem dX10_fill_201 : decode cX10_fill 201 = .ok (.iload_n 2, 1) := by decide +kernel
theorem dX10_fill_202 : decode cX10_fill 202 = .ok (.imul, 1) := by decide +kernel
theorem dX10_fill_203 : decode cX10_fill 203 = .ok (.iload 6, 2) := by decide +kernel
theorem dX10_fill_205 : decode cX10_fill 205 = .ok (.iadd, 1) := by decide +kernel
theorem dX10_fill_206 : decode cX10_fill 206 = .ok (.aload_n 0, 1) := by decide +kernel
theorem dX10_fill_207 : decode cX10_fill 207 = .ok (.getfield 66, 3) := by decide +kernel
theorem dX10_fill_210 : decode cX10_fill 210 = .ok (.iload 6, 2) := by decide +kernel
theorem dX10_fill_212 : decode cX10_fill 212 = .ok (.iaload, 1) := by decide +kernel
theorem dX10_fill_213 : decode cX10_fill 213 = .ok (.iastore, 1) := by decide +kernel
theorem dX10_fill_214 : decode cX10_fill 214 = .ok (.iinc 6 1, 3) := by decide +kernel
theorem dX10_fill_217 : decode cX10_fill 217 = .ok (.goto (-27), 3) := by decide +kernel
theorem dX10_fill_220 : decode cX10_fill 220 = .ok (.aload_n 0, 1) := by decide +kernel
theorem dX10_fill_221 : decode cX10_fill 221 = .ok (.getfield 66, 3) := by decide +kernel
theorem dX10_fill_224 : decode cX10_fill 224 = .ok (.iconst 0, 1) := by decide +kernel
theorem dX10_fill_225 : decode cX10_fill 225 = .ok (.iaload, 1) := by decide +kernel
theorem dX10_fill_226 : decode cX10_fill 226 = .ok (.aload_n 0, 1) := by decide +kernel
theorem dX10_fill_227 : decode cX10_fill 227 = .ok (.getfield 66, 3) := by decide +kernel
theorem dX10_fill_230 : decode cX10_fill 230 = .ok (.iconst 1, 1) := by decide +kernel
theorem dX10_fill_231 : decode cX10_fill 231 = .ok (.iaload, 1) := by decide +kernel
theorem dX10_fill_232 : decode cX10_fill 232 = .ok (.iconst 3, 1) := by decide +kernel
theorem dX10_fill_233 : decode cX10_fill 233 = .ok (.ishl, 1) := by decide +kernel
theorem dX10_fill_234 : decode cX10_fill 234 = .ok (.ior, 1) := by decide +kernel
theorem dX10_fill_235 : decode cX10_fill 235 = .ok (.aload_n 0, 1) := by decide +kernel
theorem dX10_fill_236 : decode cX10_fill 236 = .ok (.getfield 66, 3) := by decide +kernel
theorem dX10_fill_239 : decode cX10_fill 239 = .ok (.iconst 2, 1) := by decide +kernel
theorem dX10_fill_240 : decode cX10_fill 240 = .ok (.iaload, 1) := by decide +kernel
theorem dX10_fill_241 : decode cX10_fill 241 = .ok (.bipush 6, 2) := by decide +kernel
theorem dX10_fill_243 : decode cX10_fill 243 = .ok (.ishl, 1) := by decide +kernel
theorem dX10_fill_244 : decode cX10_fill 244 = .ok (.ior, 1) := by decide +kernel
theorem dX10_fill_245 : decode cX10_fill 245 = .ok (.aload_n 0, 1) := by decide +kernel
theorem dX10_fill_246 : decode cX10_fill 246 = .ok (.getfield 66, 3) := by decide +kernel
theorem dX10_fill_249 : decode cX10_fill 249 = .ok (.iconst 3, 1) := by decide +kernel
theorem dX10_fill_250 : decode cX10_fill 250 = .ok (.iaload, 1) := by decide +kernel
theorem dX10_fill_251 : decode cX10_fill 251 = .ok (.bipush 9, 2) := by decide +kernel
theorem dX10_fill_253 : decode cX10_fill 253 = .ok (.ishl, 1) := by decide +kernel
theorem dX10_fill_254 : decode cX10_fill 254 = .ok (.ior, 1) := by decide +kernel
theorem dX10_fill_255 : decode cX10_fill 255 = .ok (.ireturn, 1) := by decide +kernel
theorem dX10_seed_0 : decode cX10_seed 0 = .ok (.aload_n 0, 1) := by decide +kernel
theorem dX10_seed_1 : decode cX10_seed 1 = .ok (.getfield 34, 3) := by decide +kernel
theorem dX10_seed_4 : decode cX10_seed 4 = .ok (.istore_n 2, 1) := by decide +kernel
theorem dX10_seed_5 : decode cX10_seed 5 = .ok (.aload_n 0, 1) := by decide +kernel
theorem dX10_seed_6 : decode cX10_seed 6 = .ok (.iload_n 1, 1) := by decide +kernel
theorem dX10_seed_7 : decode cX10_seed 7 = .ok (.putfield 34, 3) := by decide +kernel
theorem dX10_seed_10 : decode cX10_seed 10 = .ok (.iload_n 2, 1) := by decide +kernel
theorem dX10_seed_11 : decode cX10_seed 11 = .ok (.ireturn, 1) := by decide +kernel
theorem dX10_findRows_0 : decode cX10_findRows 0 = .ok (.iconst 0, 1) := by decide +kernel
theorem dX10_findRows_1 : decode cX10_findRows 1 = .ok (.istore_n 1, 1) := by decide +kernel
theorem dX10_findRows_2 : decode cX10_findRows 2 = .ok (.iload_n 1, 1) := by decide +kernel
theorem dX10_findRows_3 : decode cX10_findRows 3 = .ok (.bipush 10, 2) := by decide +kernel
theorem dX10_findRows_5 : decode cX10_findRows 5 = .ok (.if_icmp .ge 69, 3) := by decide +kernel
theorem dX10_findRows_8 : decode cX10_findRows 8 = .ok (.aload_n 0, 1) := by decide +kernel
theorem dX10_findRows_9 : decode cX10_findRows 9 = .ok (.getfield 72, 3) := by decide +kernel
theorem dX10_findRows_12 : decode cX10_findRows 12 = .ok (.iconst 3, 1) := by decide +kernel
theorem dX10_findRows_13 : decode cX10_findRows 13 = .ok (.iload_n 1, 1) := by decide +kernel
theorem dX10_findRows_14 : decode cX10_findRows 14 = .ok (.imul, 1) := by decide +kernel
theorem dX10_findRows_15 : decode cX10_findRows 15 = .ok (.aload_n 0, 1) := by decide +kernel
theorem dX10_findRows_16 : decode cX10_findRows 16 = .ok (.iload_n 1, 1) := by decide +kernel
theorem dX10_findRows_17 : decode cX10_findRows 17 = .ok (.invokevirtual 248, 3) := by decide +kernel
theorem dX10_findRows_20 : decode cX10_findRows 20 = .ok (.iastore, 1) := by decide +kernel
theorem dX10_findRows_21 : decode cX10_findRows 21 = .ok (.aload_n 0, 1) := by decide +kernel
theorem dX10_findRows_22 : decode cX10_findRows 22 = .ok (.getfield 72, 3) := by decide +kernel
theorem dX10_findRows_25 : decode cX10_findRows 25 = .ok (.iconst 3, 1) := by decide +kernel
theorem dX10_findRows_26 : decode cX10_findRows 26 = .ok (.iload_n 1, 1) := by decide +kernel
theorem dX10_findRows_27 : decode cX10_findRows 27 = .ok (.imul, 1) := by decide +kernel
theorem dX10_findRows_28 : decode cX10_findRows 28 = .ok (.iconst 1, 1) := by decide +kernel
theorem dX10_findRows_29 : decode cX10_findRows 29 = .ok (.iadd, 1) := by decide +kernel
theorem dX10_findRows_30 : decode cX10_findRows 30 = .ok (.aload_n 0, 1) := by decide +kernel
theorem dX10_findRows_31 : decode cX10_findRows 31 = .ok (.iload_n 1, 1) := by decide +kernel
theorem dX10_findRows_32 : decode cX10_findRows 32 = .ok (.invokevirtual 248, 3) := by decide +kernel
theorem dX10_findRows_35 : decode cX10_findRows 35 = .ok (.ifCond .ge 7, 3) := by decide +kernel
theorem dX10_findRows_38 : decode cX10_findRows 38 = .ok (.iconst 0, 1) := by decide +kernel
theorem dX10_findRows_39 : decode cX10_findRows 39 = .ok (.goto 13, 3) := by decide +kernel
theorem dX10_findRows_42 : decode cX10_findRows 42 = .ok (.aload_n 0, 1) := by decide +kernel
theorem dX10_findRows_43 : decode cX10_findRows 43 = .ok (.iload_n 1, 1) := by decide +kernel
theorem dX10_findRows_44 : decode cX10_findRows 44 = .ok (.aload_n 0, 1) := by decide +kernel
theorem dX10_findRows_45 : decode cX10_findRows 45 = .ok (.iload_n 1, 1) := by decide +kernel
theorem dX10_findRows_46 : decode cX10_findRows 46 = .ok (.invokevirtual 261, 3) := by decide +kernel
theorem dX10_findRows_49 : decode cX10_findRows 49 = .ok (.invokevirtual 264, 3) := by decide +kernel
theorem dX10_findRows_52 : decode cX10_findRows 52 = .ok (.iastore, 1) := by decide +kernel
theorem dX10_findRows_53 : decode cX10_findRows 53 = .ok (.aload_n 0, 1) := by decide +kernel
theorem dX10_findRows_54 : decode cX10_findRows 54 = .ok (.getfield 72, 3) := by decide +kernel
theorem dX10_findRows_57 : decode cX10_findRows 57 = .ok (.iconst 3, 1) := by decide +kernel
theorem dX10_findRows_58 : decode cX10_findRows 58 = .ok (.iload_n 1, 1) := by decide +kernel
theorem dX10_findRows_59 : decode cX10_findRows 59 = .ok (.imul, 1) := by decide +kernel
theorem dX10_findRows_60 : decode cX10_findRows 60 = .ok (.iconst 2, 1) := by decide +kernel
theorem dX10_findRows_61 : decode cX10_findRows 61 = .ok (.iadd, 1) := by decide +kernel
theorem dX10_findRows_62 : decode cX10_findRows 62 = .ok (.aload_n 0, 1) := by decide +kernel
theorem dX10_findRows_63 : decode cX10_findRows 63 = .ok (.iload_n 1, 1) := by decide +kernel
theorem dX10_findRows_64 : decode cX10_findRows 64 = .ok (.invokevirtual 290, 3) := by decide +kernel
theorem dX10_findRows_67 : decode cX10_findRows 67 = .ok (.iastore, 1) := by decide +kernel
theorem dX10_findRows_68 : decode cX10_findRows 68 = .ok (.iinc 1 1, 3) := by decide +kernel
theorem dX10_findRows_71 : decode cX10_findRows 71 = .ok (.goto (-69), 3) := by decide +kernel
theorem dX10_findRows_74 : decode cX10_findRows 74 = .ok (.return_, 1) := by decide +kernel
theorem dX10_prove_0 : decode cX10_prove 0 = .ok (.aload_n 0, 1) := by decide +kernel
theorem dX10_prove_1 : decode cX10_prove 1 = .ok (.invokevirtual 341, 3) := by decide +kernel
theorem dX10_prove_4 : decode cX10_prove 4 = .ok (.aload_n 0, 1) := by decide +kernel
theorem dX10_prove_5 : decode cX10_prove 5 = .ok (.bipush 10, 2) := by decide +kernel
theorem dX10_prove_7 : decode cX10_prove 7 = .ok (.putfield 223, 3) := by decide +kernel
theorem dX10_prove_10 : decode cX10_prove 10 = .ok (.iconst 0, 1) := by decide +kernel
theorem dX10_prove_11 : decode cX10_prove 11 = .ok (.istore_n 1, 1) := by decide +kernel
theorem dX10_prove_12 : decode cX10_prove 12 = .ok (.iload_n 1, 1) := by decide +kernel
theorem dX10_prove_13 : decode cX10_prove 13 = .ok (.bipush 30, 2) := by decide +kernel
theorem dX10_prove_15 : decode cX10_prove 15 = .ok (.if_icmp .ge 21, 3) := by decide +kernel
theorem dX10_prove_18 : decode cX10_prove 18 = .ok (.aload_n 0, 1) := by decide +kernel
theorem dX10_prove_19 : decode cX10_prove 19 = .ok (.getfield 69, 3) := by decide +kernel
theorem dX10_prove_22 : decode cX10_prove 22 = .ok (.iload_n 1, 1) := by decide +kernel
theorem dX10_prove_23 : decode cX10_prove 23 = .ok (.aload_n 0, 1) := by decide +kernel
theorem dX10_prove_24 : decode cX10_prove 24 = .ok (.getfield 72, 3) := by decide +kernel
theorem dX10_prove_27 : decode cX10_prove 27 = .ok (.iload_n 1, 1) := by decide +kernel
theorem dX10_prove_28 : decode cX10_prove 28 = .ok (.iaload, 1) := by decide +kernel
theorem dX10_prove_29 : decode cX10_prove 29 = .ok (.iastore, 1) := by decide +kernel
theorem dX10_prove_30 : decode cX10_prove 30 = .ok (.iinc 1 1, 3) := by decide +kernel
theorem dX10_prove_33 : decode cX10_prove 33 = .ok (.goto (-21), 3) := by decide +kernel
theorem dX10_prove_36 : decode cX10_prove 36 = .ok (.aload_n 0, 1) := by decide +kernel
theorem dX10_prove_37 : decode cX10_prove 37 = .ok (.getfield 223, 3) := by decide +kernel
theorem dX10_prove_40 : decode cX10_prove 40 = .ok (.ireturn, 1) := by decide +kernel
theorem dX10_isRow_0 : decode cX10_isRow 0 = .ok (.iload_n 1, 1) := by decide +kernel
theorem dX10_isRow_1 : decode cX10_isRow 1 = .ok (.iconst 0, 1) := by decide +kernel
theorem dX10_isRow_2 : decode cX10_isRow 2 = .ok (.aload_n 0, 1) := by decide +kernel
theorem dX10_isRow_3 : decode cX10_isRow 3 = .ok (.getfield 223, 3) := by decide +kernel
theorem dX10_isRow_6 : decode cX10_isRow 6 = .ok (.iconst 1, 1) := by decide +kernel
theorem dX10_isRow_7 : decode cX10_isRow 7 = .ok (.isub, 1) := by decide +kernel
theorem dX10_isRow_8 : decode cX10_isRow 8 = .ok (.invokestatic 105, 3) := by decide +kernel
theorem dX10_isRow_11 : decode cX10_isRow 11 = .ok (.ifCond .eq 16, 3) := by decide +kernel
theorem dX10_isRow_14 : decode cX10_isRow 14 = .ok (.iload_n 2, 1) := by decide +kernel
theorem dX10_isRow_15 : decode cX10_isRow 15 = .ok (.iconst 0, 1) := by decide +kernel
theorem dX10_isRow_16 : decode cX10_isRow 16 = .ok (.iconst 2, 1) := by decide +kernel
theorem dX10_isRow_17 : decode cX10_isRow 17 = .ok (.invokestatic 105, 3) := by decide +kernel
theorem dX10_isRow_20 : decode cX10_isRow 20 = .ok (.ifCond .eq 7, 3) := by decide +kernel
theorem dX10_isRow_23 : decode cX10_isRow 23 = .ok (.iconst 1, 1) := by decide +kernel
theorem dX10_isRow_24 : decode cX10_isRow 24 = .ok (.goto 4, 3) := by decide +kernel
theorem dX10_isRow_27 : decode cX10_isRow 27 = .ok (.iconst 0, 1) := by decide +kernel
theorem dX10_isRow_28 : decode cX10_isRow 28 = .ok (.ireturn, 1) := by decide +kernel
theorem dX10_row_0 : decode cX10_row 0 = .ok (.aload_n 0, 1) := by decide +kernel
theorem dX10_row_1 : decode cX10_row 1 = .ok (.iload_n 1, 1) := by decide +kernel
theorem dX10_row_2 : decode cX10_row 2 = .ok (.iload_n 2, 1) := by decide +kernel
theorem dX10_row_3 : decode cX10_row 3 = .ok (.invokevirtual 344, 3) := by decide +kernel
theorem dX10_row_6 : decode cX10_row 6 = .ok (.ifCond .eq 16, 3) := by decide +kernel
theorem dX10_row_9 : decode cX10_row 9 = .ok (.aload_n 0, 1) := by decide +kernel
theorem dX10_row_10 : decode cX10_row 10 = .ok (.getfield 69, 3) := by decide +kernel
theorem dX10_row_13 : decode cX10_row 13 = .ok (.iconst 3, 1) := by decide +kernel
theorem dX10_row_14 : decode cX10_row 14 = .ok (.iload_n 1, 1) := by decide +kernel
theorem dX10_row_15 : decode cX10_row 15 = .ok (.imul, 1) := by decide +kernel
theorem dX10_row_16 : decode cX10_row 16 = .ok (.iload_n 2, 1) := by decide +kernel
theorem dX10_row_17 : decode cX10_row 17 = .ok (.iadd, 1) := by decide +kernel
theorem dX10_row_18 : decode cX10_row 18 = .ok (.iaload, 1) := by decide +kernel
theorem dX10_row_19 : decode cX10_row 19 = .ok (.goto 5, 3) := by decide +kernel
theorem dX10_row_22 : decode cX10_row 22 = .ok (.bipush (-9), 2) := by decide +kernel
theorem dX10_row_24 : decode cX10_row 24 = .ok (.ireturn, 1) := by decide +kernel
theorem dX10_alterRow_0 : decode cX10_alterRow 0 = .ok (.aload_n 0, 1) := by decide +kernel
theorem dX10_alterRow_1 : decode cX10_alterRow 1 = .ok (.iload_n 1, 1) := by decide +kernel
theorem dX10_alterRow_2 : decode cX10_alterRow 2 = .ok (.iload_n 2, 1) := by decide +kernel
theorem dX10_alterRow_3 : decode cX10_alterRow 3 = .ok (.invokevirtual 344, 3) := by decide +kernel
theorem dX10_alterRow_6 : decode cX10_alterRow 6 = .ok (.ifCond .ne 6, 3) := by decide +kernel
theorem dX10_alterRow_9 : decode cX10_alterRow 9 = .ok (.bipush (-9), 2) := by decide +kernel
theorem dX10_alterRow_11 : decode cX10_alterRow 11 = .ok (.ireturn, 1) := by decide +kernel
theorem dX10_alterRow_12 : decode cX10_alterRow 12 = .ok (.aload_n 0, 1) := by decide +kernel
theorem dX10_alterRow_13 : decode cX10_alterRow 13 = .ok (.getfield 69, 3) := by decide +kernel
theorem dX10_alterRow_16 : decode cX10_alterRow 16 = .ok (.iconst 3, 1) := by decide +kernel
theorem dX10_alterRow_17 : decode cX10_alterRow 17 = .ok (.iload_n 1, 1) := by decide +kernel
theorem dX10_alterRow_18 : decode cX10_alterRow 18 = .ok (.imul, 1) := by decide +kernel
theorem dX10_alterRow_19 : decode cX10_alterRow 19 = .ok (.iload_n 2, 1) := by decide +kernel
theorem dX10_alterRow_20 : decode cX10_alterRow 20 = .ok (.iadd, 1) := by decide +kernel
theorem dX10_alterRow_21 : decode cX10_alterRow 21 = .ok (.iaload, 1) := by decide +kernel
theorem dX10_alterRow_22 : decode cX10_alterRow 22 = .ok (.istore 4, 2) := by decide +kernel
theorem dX10_alterRow_24 : decode cX10_alterRow 24 = .ok (.aload_n 0, 1) := by decide +kernel
theorem dX10_alterRow_25 : decode cX10_alterRow 25 = .ok (.getfield 69, 3) := by decide +kernel
theorem dX10_alterRow_28 : decode cX10_alterRow 28 = .ok (.iconst 3, 1) := by decide +kernel
theorem dX10_alterRow_29 : decode cX10_alterRow 29 = .ok (.iload_n 1, 1) := by decide +kernel
theorem dX10_alterRow_30 : decode cX10_alterRow 30 = .ok (.imul, 1) := by decide +kernel
theorem dX10_alterRow_31 : decode cX10_alterRow 31 = .ok (.iload_n 2, 1) := by decide +kernel
theorem dX10_alterRow_32 : decode cX10_alterRow 32 = .ok (.iadd, 1) := by decide +kernel
theorem dX10_alterRow_33 : decode cX10_alterRow 33 = .ok (.iload_n 3, 1) := by decide +kernel
theorem dX10_alterRow_34 : decode cX10_alterRow 34 = .ok (.iastore, 1) := by decide +kernel
theorem dX10_alterRow_35 : decode cX10_alterRow 35 = .ok (.iload 4, 2) := by decide +kernel
theorem dX10_alterRow_37 : decode cX10_alterRow 37 = .ok (.ireturn, 1) := by decide +kernel
theorem dX10_judge_0 : decode cX10_judge 0 = .ok (.aload_n 0, 1) := by decide +kernel
theorem dX10_judge_1 : decode cX10_judge 1 = .ok (.invokevirtual 341, 3) := by decide +kernel
theorem dX10_judge_4 : decode cX10_judge 4 = .ok (.iconst 0, 1) := by decide +kernel
theorem dX10_judge_5 : decode cX10_judge 5 = .ok (.istore_n 1, 1) := by decide +kernel
theorem dX10_judge_6 : decode cX10_judge 6 = .ok (.iload_n 1, 1) := by decide +kernel
theorem dX10_judge_7 : decode cX10_judge 7 = .ok (.iconst 3, 1) := by decide +kernel
theorem dX10_judge_8 : decode cX10_judge 8 = .ok (.aload_n 0, 1) := by decide +kernel
theorem dX10_judge_9 : decode cX10_judge 9 = .ok (.getfield 223, 3) := by decide +kernel
theorem dX10_judge_12 : decode cX10_judge 12 = .ok (.imul, 1) := by decide +kernel
theorem dX10_judge_13 : decode cX10_judge 13 = .ok (.if_icmp .ge 30, 3) := by decide +kernel
theorem dX10_judge_16 : decode cX10_judge 16 = .ok (.aload_n 0, 1) := by decide +kernel
theorem dX10_judge_17 : decode cX10_judge 17 = .ok (.getfield 69, 3) := by decide +kernel
theorem dX10_judge_20 : decode cX10_judge 20 = .ok (.iload_n 1, 1) := by decide +kernel
theorem dX10_judge_21 : decode cX10_judge 21 = .ok (.iaload, 1) := by decide +kernel
theorem dX10_judge_22 : decode cX10_judge 22 = .ok (.aload_n 0, 1) := by decide +kernel
theorem dX10_judge_23 : decode cX10_judge 23 = .ok (.getfield 72, 3) := by decide +kernel
theorem dX10_judge_26 : decode cX10_judge 26 = .ok (.iload_n 1, 1) := by decide +kernel
theorem dX10_judge_27 : decode cX10_judge 27 = .ok (.iaload, 1) := by decide +kernel
theorem dX10_judge_28 : decode cX10_judge 28 = .ok (.if_icmp .eq 9, 3) := by decide +kernel
theorem dX10_judge_31 : decode cX10_judge 31 = .ok (.iload_n 1, 1) := by decide +kernel
theorem dX10_judge_32 : decode cX10_judge 32 = .ok (.iconst 3, 1) := by decide +kernel
theorem dX10_judge_33 : decode cX10_judge 33 = .ok (.idiv, 1) := by decide +kernel
theorem dX10_judge_34 : decode cX10_judge 34 = .ok (.iconst 1, 1) := by decide +kernel
theorem dX10_judge_35 : decode cX10_judge 35 = .ok (.iadd, 1) := by decide +kernel
theorem dX10_judge_36 : decode cX10_judge 36 = .ok (.ireturn, 1) := by decide +kernel
theorem dX10_judge_37 : decode cX10_judge 37 = .ok (.iinc 1 1, 3) := by decide +kernel
theorem dX10_judge_40 : decode cX10_judge 40 = .ok (.goto (-34), 3) := by decide +kernel
theorem dX10_judge_43 : decode cX10_judge 43 = .ok (.iconst 0, 1) := by decide +kernel
theorem dX10_judge_44 : decode cX10_judge 44 = .ok (.ireturn, 1) := by decide +kernel
theorem dX10_days_0 : decode cX10_days 0 = .ok (.iload_n 1, 1) := by decide +kernel
theorem dX10_days_1 : decode cX10_days 1 = .ok (.invokestatic 242, 3) := by decide +kernel
theorem dX10_days_4 : decode cX10_days 4 = .ok (.ifCond .eq 10, 3) := by decide +kernel
theorem dX10_days_7 : decode cX10_days 7 = .ok (.iload_n 2, 1) := by decide +kernel
theorem dX10_days_8 : decode cX10_days 8 = .ok (.invokestatic 347, 3) := by decide +kernel
theorem dX10_days_11 : decode cX10_days 11 = .ok (.ifCond .ne 5, 3) := by decide +kernel
theorem dX10_days_14 : decode cX10_days 14 = .ok (.iconst (-1), 1) := by decide +kernel
theorem dX10_days_15 : decode cX10_days 15 = .ok (.ireturn, 1) := by decide +kernel
theorem dX10_days_16 : decode cX10_days 16 = .ok (.aload_n 0, 1) := by decide +kernel
theorem dX10_days_17 : decode cX10_days 17 = .ok (.iload_n 2, 1) := by decide +kernel
theorem dX10_days_18 : decode cX10_days 18 = .ok (.iconst 2, 1) := by decide +kernel
theorem dX10_days_19 : decode cX10_days 19 = .ok (.invokevirtual 350, 3) := by decide +kernel
theorem dX10_days_22 : decode cX10_days 22 = .ok (.istore_n 3, 1) := by decide +kernel
theorem dX10_days_23 : decode cX10_days 23 = .ok (.iload_n 3, 1) := by decide +kernel
theorem dX10_days_24 : decode cX10_days 24 = .ok (.ifCond .eq 5, 3) := by decide +kernel
theorem dX10_days_27 : decode cX10_days 27 = .ok (.iload_n 3, 1) := by decide +kernel
theorem dX10_days_28 : decode cX10_days 28 = .ok (.ireturn, 1) := by decide +kernel
theorem dX10_days_29 : decode cX10_days 29 = .ok (.aload_n 0, 1) := by decide +kernel
theorem dX10_days_30 : decode cX10_days 30 = .ok (.getfield 78, 3) := by decide +kernel
theorem dX10_days_33 : decode cX10_days 33 = .ok (.iload_n 2, 1) := by decide +kernel
theorem dX10_days_34 : decode cX10_days 34 = .ok (.iaload, 1) := by decide +kernel
theorem dX10_days_35 : decode cX10_days 35 = .ok (.bipush 10, 2) := by decide +kernel
theorem dX10_days_37 : decode cX10_days 37 = .ok (.if_icmp .ge 12, 3) := by decide +kernel
theorem dX10_days_40 : decode cX10_days 40 = .ok (.aload_n 0, 1) := by decide +kernel
theorem dX10_days_41 : decode cX10_days 41 = .ok (.getfield 78, 3) := by decide +kernel
theorem dX10_days_44 : decode cX10_days 44 = .ok (.iload_n 2, 1) := by decide +kernel
theorem dX10_days_45 : decode cX10_days 45 = .ok (.iaload, 1) := by decide +kernel
theorem dX10_days_46 : decode cX10_days 46 = .ok (.goto 5, 3) := by decide +kernel
theorem dX10_days_49 : decode cX10_days 49 = .ok (.bipush 10, 2) := by decide +kernel
theorem dX10_days_51 : decode cX10_days 51 = .ok (.istore 4, 2) := by decide +kernel
theorem dX10_days_53 : decode cX10_days 53 = .ok (.iconst 0, 1) := by decide +kernel
theorem dX10_days_54 : decode cX10_days 54 = .ok (.istore 5, 2) := by decide +kernel
theorem dX10_days_56 : decode cX10_days 56 = .ok (.iload 5, 2) := by decide +kernel
theorem dX10_days_58 : decode cX10_days 58 = .ok (.iload 4, 2) := by decide +kernel
theorem dX10_days_60 : decode cX10_days 60 = .ok (.if_icmp .ge 50, 3) := by decide +kernel
theorem dX10_days_63 : decode cX10_days 63 = .ok (.aload_n 0, 1) := by decide +kernel
theorem dX10_days_64 : decode cX10_days 64 = .ok (.getfield 81, 3) := by decide +kernel
theorem dX10_days_67 : decode cX10_days 67 = .ok (.bipush 40, 2) := by decide +kernel
theorem dX10_days_69 : decode cX10_days 69 = .ok (.iload_n 2, 1) := by decide +kernel
theorem dX10_days_70 : decode cX10_days 70 = .ok (.imul, 1) := by decide +kernel
theorem dX10_days_71 : decode cX10_days 71 = .ok (.iload 5, 2) := by decide +kernel
theorem dX10_days_73 : decode cX10_days 73 = .ok (.iadd, 1) := by decide +kernel
theorem dX10_days_74 : decode cX10_days 74 = .ok (.laload, 1) := by decide +kernel
theorem dX10_days_75 : decode cX10_days 75 = .ok (.l2i, 1) := by decide +kernel
theorem dX10_days_76 : decode cX10_days 76 = .ok (.istore 6, 2) := by decide +kernel
theorem dX10_days_78 : decode cX10_days 78 = .ok (.aload_n 0, 1) := by decide +kernel
theorem dX10_days_79 : decode cX10_days 79 = .ok (.getfield 19, 3) := by decide +kernel
theorem dX10_days_82 : decode cX10_days 82 = .ok (.iconst 4, 1) := by decide +kernel
theorem dX10_days_83 : decode cX10_days 83 = .ok (.iload 5, 2) := by decide +kernel
theorem dX10_days_85 : decode cX10_days 85 = .ok (.imul, 1) := by decide +kernel
theorem dX10_days_86 : decode cX10_days 86 = .ok (.iload_n 1, 1) := by decide +kernel
theorem dX10_days_87 : decode cX10_days 87 = .ok (.iadd, 1) := by decide +kernel
theorem dX10_days_88 : decode cX10_days 88 = .ok (.aload_n 0, 1) := by decide +kernel
theorem dX10_days_89 : decode cX10_days 89 = .ok (.iload 6, 2) := by decide +kernel
theorem dX10_days_91 : decode cX10_days 91 = .ok (.invokevirtual 109, 3) := by decide +kernel
theorem dX10_days_94 : decode cX10_days 94 = .ok (.ifCond .eq 8, 3) := by decide +kernel
theorem dX10_days_97 : decode cX10_days 97 = .ok (.iload 6, 2) := by decide +kernel
theorem dX10_days_99 : decode cX10_days 99 = .ok (.goto 4, 3) := by decide +kernel
theorem dX10_days_102 : decode cX10_days 102 = .ok (.iconst (-1), 1) := by decide +kernel
theorem dX10_days_103 : decode cX10_days 103 = .ok (.iastore, 1) := by decide +kernel
theorem dX10_days_104 : decode cX10_days 104 = .ok (.iinc 5 1, 3) := by decide +kernel
theorem dX10_days_107 : decode cX10_days 107 = .ok (.goto (-51), 3) := by decide +kernel
theorem dX10_days_110 : decode cX10_days 110 = .ok (.iload 4, 2) := by decide +kernel
theorem dX10_days_112 : decode cX10_days 112 = .ok (.ireturn, 1) := by decide +kernel
theorem dX10_isShelf_0 : decode cX10_isShelf 0 = .ok (.iload_n 0, 1) := by decide +kernel
theorem dX10_isShelf_1 : decode cX10_isShelf 1 = .ok (.iconst 0, 1) := by decide +kernel
theorem dX10_isShelf_2 : decode cX10_isShelf 2 = .ok (.iconst 3, 1) := by decide +kernel
theorem dX10_isShelf_3 : decode cX10_isShelf 3 = .ok (.invokestatic 105, 3) := by decide +kernel
theorem dX10_isShelf_6 : decode cX10_isShelf 6 = .ok (.ireturn, 1) := by decide +kernel
theorem dX10_sheet_0 : decode cX10_sheet 0 = .ok (.iload_n 1, 1) := by decide +kernel
theorem dX10_sheet_1 : decode cX10_sheet 1 = .ok (.invokestatic 347, 3) := by decide +kernel
theorem dX10_sheet_4 : decode cX10_sheet 4 = .ok (.ifCond .eq 22, 3) := by decide +kernel
theorem dX10_sheet_7 : decode cX10_sheet 7 = .ok (.iload_n 2, 1) := by decide +kernel
theorem dX10_sheet_8 : decode cX10_sheet 8 = .ok (.iconst (-1), 1) := by decide +kernel
theorem dX10_sheet_9 : decode cX10_sheet 9 = .ok (.iconst 3, 1) := by decide +kernel
theorem dX10_sheet_10 : decode cX10_sheet 10 = .ok (.invokestatic 105, 3) := by decide +kernel
theorem dX10_sheet_13 : decode cX10_sheet 13 = .ok (.ifCond .eq 13, 3) := by decide +kernel
theorem dX10_sheet_16 : decode cX10_sheet 16 = .ok (.iload_n 2, 1) := by decide +kernel
theorem dX10_sheet_17 : decode cX10_sheet 17 = .ok (.ifCond .lt 11, 3) := by decide +kernel
theorem dX10_sheet_20 : decode cX10_sheet 20 = .ok (.iload_n 3, 1) := by decide +kernel
theorem dX10_sheet_21 : decode cX10_sheet 21 = .ok (.bipush 40, 2) := by decide +kernel
theorem dX10_sheet_23 : decode cX10_sheet 23 = .ok (.if_icmp .le 5, 3) := by decide +kernel
theorem dX10_sheet_26 : decode cX10_sheet 26 = .ok (.iconst (-1), 1) := by decide +kernel
theorem dX10_sheet_27 : decode cX10_sheet 27 = .ok (.ireturn, 1) := by decide +kernel
theorem dX10_sheet_28 : decode cX10_sheet 28 = .ok (.iload_n 2, 1) := by decide +kernel
theorem dX10_sheet_29 : decode cX10_sheet 29 = .ok (.ifCond .lt 10, 3) := by decide +kernel
theorem dX10_sheet_32 : decode cX10_sheet 32 = .ok (.iload_n 3, 1) := by decide +kernel
theorem dX10_sheet_33 : decode cX10_sheet 33 = .ok (.ifCond .ge 6, 3) := by decide +kernel
theorem dX10_sheet_36 : decode cX10_sheet 36 = .ok (.bipush (-14), 2) := by decide +kernel
theorem dX10_sheet_38 : decode cX10_sheet 38 = .ok (.ireturn, 1) := by decide +kernel
theorem dX10_sheet_39 : decode cX10_sheet 39 = .ok (.aload_n 0, 1) := by decide +kernel
theorem dX10_sheet_40 : decode cX10_sheet 40 = .ok (.getfield 75, 3) := by decide +kernel
theorem dX10_sheet_43 : decode cX10_sheet 43 = .ok (.iload_n 1, 1) := by decide +kernel
theorem dX10_sheet_44 : decode cX10_sheet 44 = .ok (.iload_n 2, 1) := by decide +kernel
theorem dX10_sheet_45 : decode cX10_sheet 45 = .ok (.iastore, 1) := by decide +kernel
theorem dX10_sheet_46 : decode cX10_sheet 46 = .ok (.aload_n 0, 1) := by decide +kernel
theorem dX10_sheet_47 : decode cX10_sheet 47 = .ok (.getfield 78, 3) := by decide +kernel
theorem dX10_sheet_50 : decode cX10_sheet 50 = .ok (.iload_n 1, 1) := by decide +kernel
theorem dX10_sheet_51 : decode cX10_sheet 51 = .ok (.iload_n 2, 1) := by decide +kernel
theorem dX10_sheet_52 : decode cX10_sheet 52 = .ok (.ifCond .ge 7, 3) := by decide +kernel
theorem dX10_sheet_55 : decode cX10_sheet 55 = .ok (.iconst 0, 1) := by decide +kernel
theorem dX10_sheet_56 : decode cX10_sheet 56 = .ok (.goto 4, 3) := by decide +kernel
theorem dX10_sheet_59 : decode cX10_sheet 59 = .ok (.iload_n 3, 1) := by decide +kernel
theorem dX10_sheet_60 : decode cX10_sheet 60 = .ok (.iastore, 1) := by decide +kernel
theorem dX10_sheet_61 : decode cX10_sheet 61 = .ok (.iconst 0, 1) := by decide +kernel
theorem dX10_sheet_62 : decode cX10_sheet 62 = .ok (.istore 4, 2) := by decide +kernel
theorem dX10_sheet_64 : decode cX10_sheet 64 = .ok (.iload 4, 2) := by decide +kernel
theorem dX10_sheet_66 : decode cX10_sheet 66 = .ok (.bipush 40, 2) := by decide +kernel
theorem dX10_sheet_68 : decode cX10_sheet 68 = .ok (.if_icmp .ge 22, 3) := by decide +kernel
theorem dX10_sheet_71 : decode cX10_sheet 71 = .ok (.aload_n 0, 1) := by decide +kernel
theorem dX10_sheet_72 : decode cX10_sheet 72 = .ok (.getfield 81, 3) := by decide +kernel
theorem dX10_sheet_75 : decode cX10_sheet 75 = .ok (.bipush 40, 2) := by decide +kernel
theorem dX10_sheet_77 : decode cX10_sheet 77 = .ok (.iload_n 1, 1) := by decide +kernel
theorem dX10_sheet_78 : decode cX10_sheet 78 = .ok (.imul, 1) := by decide +kernel
theorem dX10_sheet_79 : decode cX10_sheet 79 = .ok (.iload 4, 2) := by decide +kernel
theorem dX10_sheet_81 : decode cX10_sheet 81 = .ok (.iadd, 1) := by decide +kernel
theorem dX10_sheet_82 : decode cX10_sheet 82 = .ok (.lconst 0, 1) := by decide +kernel
theorem dX10_sheet_83 : decode cX10_sheet 83 = .ok (.lastore, 1) := by decide +kernel
theorem dX10_sheet_84 : decode cX10_sheet 84 = .ok (.iinc 4 1, 3) := by decide +kernel
theorem dX10_sheet_87 : decode cX10_sheet 87 = .ok (.goto (-23), 3) := by decide +kernel
theorem dX10_sheet_90 : decode cX10_sheet 90 = .ok (.iconst 1, 1) := by decide +kernel
theorem dX10_sheet_91 : decode cX10_sheet 91 = .ok (.ireturn, 1) := by decide +kernel
theorem dX10_put_0 : decode cX10_put 0 = .ok (.iload_n 1, 1) := by decide +kernel
theorem dX10_put_1 : decode cX10_put 1 = .ok (.invokestatic 347, 3) := by decide +kernel
theorem dX10_put_4 : decode cX10_put 4 = .ok (.ifCond .ne 5, 3) := by decide +kernel
theorem dX10_put_7 : decode cX10_put 7 = .ok (.iconst (-1), 1) := by decide +kernel
theorem dX10_put_8 : decode cX10_put 8 = .ok (.ireturn, 1) := by decide +kernel
theorem dX10_put_9 : decode cX10_put 9 = .ok (.aload_n 0, 1) := by decide +kernel
theorem dX10_put_10 : decode cX10_put 10 = .ok (.getfield 75, 3) := by decide +kernel
theorem dX10_put_13 : decode cX10_put 13 = .ok (.iload_n 1, 1) := by decide +kernel
theorem dX10_put_14 : decode cX10_put 14 = .ok (.iaload, 1) := by decide +kernel
theorem dX10_put_15 : decode cX10_put 15 = .ok (.ifCond .ge 6, 3) := by decide +kernel
theorem dX10_put_18 : decode cX10_put 18 = .ok (.bipush (-11), 2) := by decide +kernel
theorem dX10_put_20 : decode cX10_put 20 = .ok (.ireturn, 1) := by decide +kernel
theorem dX10_put_21 : decode cX10_put 21 = .ok (.iload_n 2, 1) := by decide +kernel
theorem dX10_put_22 : decode cX10_put 22 = .ok (.iconst 0, 1) := by decide +kernel
theorem dX10_put_23 : decode cX10_put 23 = .ok (.aload_n 0, 1) := by decide +kernel
theorem dX10_put_24 : decode cX10_put 24 = .ok (.getfield 78, 3) := by decide +kernel
theorem dX10_put_27 : decode cX10_put 27 = .ok (.iload_n 1, 1) := by decide +kernel
theorem dX10_put_28 : decode cX10_put 28 = .ok (.iaload, 1) := by decide +kernel
theorem dX10_put_29 : decode cX10_put 29 = .ok (.iconst 1, 1) := by decide +kernel
theorem dX10_put_30 : decode cX10_put 30 = .ok (.isub, 1) := by decide +kernel
theorem dX10_put_31 : decode cX10_put 31 = .ok (.invokestatic 105, 3) := by decide +kernel
theorem dX10_put_34 : decode cX10_put 34 = .ok (.ifCond .ne 6, 3) := by decide +kernel
theorem dX10_put_37 : decode cX10_put 37 = .ok (.bipush (-12), 2) := by decide +kernel
theorem dX10_put_39 : decode cX10_put 39 = .ok (.ireturn, 1) := by decide +kernel
theorem dX10_put_40 : decode cX10_put 40 = .ok (.aload_n 0, 1) := by decide +kernel
theorem dX10_put_41 : decode cX10_put 41 = .ok (.getfield 81, 3) := by decide +kernel
theorem dX10_put_44 : decode cX10_put 44 = .ok (.bipush 40, 2) := by decide +kernel
theorem dX10_put_46 : decode cX10_put 46 = .ok (.iload_n 1, 1) := by decide +kernel
theorem dX10_put_47 : decode cX10_put 47 = .ok (.imul, 1) := by decide +kernel
theorem dX10_put_48 : decode cX10_put 48 = .ok (.iload_n 2, 1) := by decide +kernel
theorem dX10_put_49 : decode cX10_put 49 = .ok (.iadd, 1) := by decide +kernel
theorem dX10_put_50 : decode cX10_put 50 = .ok (.aload_n 0, 1) := by decide +kernel
theorem dX10_put_51 : decode cX10_put 51 = .ok (.getfield 75, 3) := by decide +kernel
theorem dX10_put_54 : decode cX10_put 54 = .ok (.iload_n 1, 1) := by decide +kernel
theorem dX10_put_55 : decode cX10_put 55 = .ok (.iaload, 1) := by decide +kernel
theorem dX10_put_56 : decode cX10_put 56 = .ok (.ifCond .ne 9, 3) := by decide +kernel
theorem dX10_put_59 : decode cX10_put 59 = .ok (.iload_n 3, 1) := by decide +kernel
theorem dX10_put_60 : decode cX10_put 60 = .ok (.i2b, 1) := by decide +kernel
theorem dX10_put_61 : decode cX10_put 61 = .ok (.i2l, 1) := by decide +kernel
theorem dX10_put_62 : decode cX10_put 62 = .ok (.goto 21, 3) := by decide +kernel
theorem dX10_put_65 : decode cX10_put 65 = .ok (.aload_n 0, 1) := by decide +kernel
theorem dX10_put_66 : decode cX10_put 66 = .ok (.getfield 75, 3) := by decide +kernel
theorem dX10_put_69 : decode cX10_put 69 = .ok (.iload_n 1, 1) := by decide +kernel
theorem dX10_put_70 : decode cX10_put 70 = .ok (.iaload, 1) := by decide +kernel
theorem dX10_put_71 : decode cX10_put 71 = .ok (.iconst 1, 1) := by decide +kernel
theorem dX10_put_72 : decode cX10_put 72 = .ok (.if_icmp .ne 9, 3) := by decide +kernel
theorem dX10_put_75 : decode cX10_put 75 = .ok (.iload_n 3, 1) := by decide +kernel
theorem dX10_put_76 : decode cX10_put 76 = .ok (.i2s, 1) := by decide +kernel
theorem dX10_put_77 : decode cX10_put 77 = .ok (.i2l, 1) := by decide +kernel
theorem dX10_put_78 : decode cX10_put 78 = .ok (.goto 5, 3) := by decide +kernel
theorem dX10_put_81 : decode cX10_put 81 = .ok (.iload_n 3, 1) := by decide +kernel
theorem dX10_put_82 : decode cX10_put 82 = .ok (.i2l, 1) := by decide +kernel
theorem dX10_put_83 : decode cX10_put 83 = .ok (.lastore, 1) := by decide +kernel
theorem dX10_put_84 : decode cX10_put 84 = .ok (.iconst 1, 1) := by decide +kernel
theorem dX10_put_85 : decode cX10_put 85 = .ok (.ireturn, 1) := by decide +kernel
theorem dX10_lacksSort_0 : decode cX10_lacksSort 0 = .ok (.aload_n 0, 1) := by decide +kernel
theorem dX10_lacksSort_1 : decode cX10_lacksSort 1 = .ok (.getfield 75, 3) := by decide +kernel
theorem dX10_lacksSort_4 : decode cX10_lacksSort 4 = .ok (.iload_n 1, 1) := by decide +kernel
theorem dX10_lacksSort_5 : decode cX10_lacksSort 5 = .ok (.iaload, 1) := by decide +kernel
theorem dX10_lacksSort_6 : decode cX10_lacksSort 6 = .ok (.ifCond .ge 8, 3) := by decide +kernel
theorem dX10_lacksSort_9 : decode cX10_lacksSort 9 = .ok (.bipush (-11), 2) := by decide +kernel
theorem dX10_lacksSort_11 : decode cX10_lacksSort 11 = .ok (.goto 19, 3) := by decide +kernel
theorem dX10_lacksSort_14 : decode cX10_lacksSort 14 = .ok (.aload_n 0, 1) := by decide +kernel
theorem dX10_lacksSort_15 : decode cX10_lacksSort 15 = .ok (.getfield 75, 3) := by decide +kernel
theorem dX10_lacksSort_18 : decode cX10_lacksSort 18 = .ok (.iload_n 1, 1) := by decide +kernel
theorem dX10_lacksSort_19 : decode cX10_lacksSort 19 = .ok (.iaload, 1) := by decide +kernel
theorem dX10_lacksSort_20 : decode cX10_lacksSort 20 = .ok (.iload_n 2, 1) := by decide +kernel
theorem dX10_lacksSort_21 : decode cX10_lacksSort 21 = .ok (.if_icmp .eq 8, 3) := by decide +kernel
theorem dX10_lacksSort_24 : decode cX10_lacksSort 24 = .ok (.bipush (-13), 2) := by decide +kernel
theorem dX10_lacksSort_26 : decode cX10_lacksSort 26 = .ok (.goto 4, 3) := by decide +kernel
theorem dX10_lacksSort_29 : decode cX10_lacksSort 29 = .ok (.iconst 0, 1) := by decide +kernel
theorem dX10_lacksSort_30 : decode cX10_lacksSort 30 = .ok (.ireturn, 1) := by decide +kernel
theorem dX10_item_0 : decode cX10_item 0 = .ok (.iload_n 1, 1) := by decide +kernel
theorem dX10_item_1 : decode cX10_item 1 = .ok (.invokestatic 347, 3) := by decide +kernel
theorem dX10_item_4 : decode cX10_item 4 = .ok (.ifCond .eq 12, 3) := by decide +kernel
theorem dX10_item_7 : decode cX10_item 7 = .ok (.iload_n 2, 1) := by decide +kernel
theorem dX10_item_8 : decode cX10_item 8 = .ok (.iconst 0, 1) := by decide +kernel
theorem dX10_item_9 : decode cX10_item 9 = .ok (.iconst 3, 1) := by decide +kernel
theorem dX10_item_10 : decode cX10_item 10 = .ok (.invokestatic 105, 3) := by decide +kernel
theorem dX10_item_13 : decode cX10_item 13 = .ok (.ifCond .ne 5, 3) := by decide +kernel
theorem dX10_item_16 : decode cX10_item 16 = .ok (.iconst (-1), 1) := by decide +kernel
theorem dX10_item_17 : decode cX10_item 17 = .ok (.ireturn, 1) := by decide +kernel
theorem dX10_item_18 : decode cX10_item 18 = .ok (.aload_n 0, 1) := by decide +kernel
theorem dX10_item_19 : decode cX10_item 19 = .ok (.iload_n 1, 1) := by decide +kernel
theorem dX10_item_20 : decode cX10_item 20 = .ok (.iload_n 2, 1) := by decide +kernel
theorem dX10_item_21 : decode cX10_item 21 = .ok (.invokevirtual 350, 3) := by decide +kernel
theorem dX10_item_24 : decode cX10_item 24 = .ok (.istore 4, 2) := by decide +kernel
theorem dX10_item_26 : decode cX10_item 26 = .ok (.iload 4, 2) := by decide +kernel
theorem dX10_item_28 : decode cX10_item 28 = .ok (.ifCond .eq 6, 3) := by decide +kernel
theorem dX10_item_31 : decode cX10_item 31 = .ok (.iload 4, 2) := by decide +kernel
theorem dX10_item_33 : decode cX10_item 33 = .ok (.ireturn, 1) := by decide +kernel
theorem dX10_item_34 : decode cX10_item 34 = .ok (.iload_n 3, 1) := by decide +kernel
theorem dX10_item_35 : decode cX10_item 35 = .ok (.iconst 0, 1) := by decide +kernel
theorem dX10_item_36 : decode cX10_item 36 = .ok (.aload_n 0, 1) := by decide +kernel
theorem dX10_item_37 : decode cX10_item 37 = .ok (.getfield 78, 3) := by decide +kernel
theorem dX10_item_40 : decode cX10_item 40 = .ok (.iload_n 1, 1) := by decide +kernel
theorem dX10_item_41 : decode cX10_item 41 = .ok (.iaload, 1) := by decide +kernel
theorem dX10_item_42 : decode cX10_item 42 = .ok (.iconst 1, 1) := by decide +kernel
theorem dX10_item_43 : decode cX10_item 43 = .ok (.isub, 1) := by decide +kernel
theorem dX10_item_44 : decode cX10_item 44 = .ok (.invokestatic 105, 3) := by decide +kernel
theorem dX10_item_47 : decode cX10_item 47 = .ok (.ifCond .eq 18, 3) := by decide +kernel
theorem dX10_item_50 : decode cX10_item 50 = .ok (.aload_n 0, 1) := by decide +kernel
theorem dX10_item_51 : decode cX10_item 51 = .ok (.getfield 81, 3) := by decide +kernel
theorem dX10_item_54 : decode cX10_item 54 = .ok (.bipush 40, 2) := by decide +kernel
theorem dX10_item_56 : decode cX10_item 56 = .ok (.iload_n 1, 1) := by decide +kernel
theorem dX10_item_57 : decode cX10_item 57 = .ok (.imul, 1) := by decide +kernel
theorem dX10_item_58 : decode cX10_item 58 = .ok (.iload_n 3, 1) := by decide +kernel
theorem dX10_item_59 : decode cX10_item 59 = .ok (.iadd, 1) := by decide +kernel
theorem dX10_item_60 : decode cX10_item 60 = .ok (.laload, 1) := by decide +kernel
theorem dX10_item_61 : decode cX10_item 61 = .ok (.l2i, 1) := by decide +kernel
theorem dX10_item_62 : decode cX10_item 62 = .ok (.goto 5, 3) := by decide +kernel
theorem dX10_item_65 : decode cX10_item 65 = .ok (.bipush (-12), 2) := by decide +kernel
theorem dX10_item_67 : decode cX10_item 67 = .ok (.ireturn, 1) := by decide +kernel
theorem dX10_isHeld_0 : decode cX10_isHeld 0 = .ok (.iload_n 1, 1) := by decide +kernel
theorem dX10_isHeld_1 : decode cX10_isHeld 1 = .ok (.ifCond .ne 11, 3) := by decide +kernel
theorem dX10_isHeld_4 : decode cX10_isHeld 4 = .ok (.aload_n 0, 1) := by decide +kernel
theorem dX10_isHeld_5 : decode cX10_isHeld 5 = .ok (.iload_n 2, 1) := by decide +kernel
theorem dX10_isHeld_6 : decode cX10_isHeld 6 = .ok (.invokevirtual 318, 3) := by decide +kernel
theorem dX10_isHeld_9 : decode cX10_isHeld 9 = .ok (.goto 25, 3) := by decide +kernel
theorem dX10_isHeld_12 : decode cX10_isHeld 12 = .ok (.iload_n 1, 1) := by decide +kernel
theorem dX10_isHeld_13 : decode cX10_isHeld 13 = .ok (.iconst 1, 1) := by decide +kernel
theorem dX10_isHeld_14 : decode cX10_isHeld 14 = .ok (.if_icmp .ne 10, 3) := by decide +kernel
theorem dX10_isHeld_17 : decode cX10_isHeld 17 = .ok (.iload_n 2, 1) := by decide +kernel
theorem dX10_isHeld_18 : decode cX10_isHeld 18 = .ok (.invokestatic 347, 3) := by decide +kernel
theorem dX10_isHeld_21 : decode cX10_isHeld 21 = .ok (.goto 13, 3) := by decide +kernel
theorem dX10_isHeld_24 : decode cX10_isHeld 24 = .ok (.iload_n 1, 1) := by decide +kernel
theorem dX10_isHeld_25 : decode cX10_isHeld 25 = .ok (.iconst 2, 1) := by decide +kernel
theorem dX10_isHeld_26 : decode cX10_isHeld 26 = .ok (.if_icmp .ne 7, 3) := by decide +kernel
theorem dX10_isHeld_29 : decode cX10_isHeld 29 = .ok (.iconst 1, 1) := by decide +kernel
theorem dX10_isHeld_30 : decode cX10_isHeld 30 = .ok (.goto 4, 3) := by decide +kernel
theorem dX10_isHeld_33 : decode cX10_isHeld 33 = .ok (.iconst 0, 1) := by decide +kernel
theorem dX10_isHeld_34 : decode cX10_isHeld 34 = .ok (.ireturn, 1) := by decide +kernel
theorem dX10_shelf_0 : decode cX10_shelf 0 = .ok (.iload_n 1, 1) := by decide +kernel
theorem dX10_shelf_1 : decode cX10_shelf 1 = .ok (.invokestatic 347, 3) := by decide +kernel
theorem dX10_shelf_4 : decode cX10_shelf 4 = .ok (.ifCond .eq 12, 3) := by decide +kernel
theorem dX10_shelf_7 : decode cX10_shelf 7 = .ok (.aload_n 0, 1) := by decide +kernel
theorem dX10_shelf_8 : decode cX10_shelf 8 = .ok (.iload_n 2, 1) := by decide +kernel
theorem dX10_shelf_9 : decode cX10_shelf 9 = .ok (.iload_n 3, 1) := by decide +kernel
theorem dX10_shelf_10 : decode cX10_shelf 10 = .ok (.invokevirtual 353, 3) := by decide +kernel
theorem dX10_shelf_13 : decode cX10_shelf 13 = .ok (.ifCond .ne 5, 3) := by decide +kernel
theorem dX10_shelf_16 : decode cX10_shelf 16 = .ok (.iconst (-1), 1) := by decide +kernel
theorem dX10_shelf_17 : decode cX10_shelf 17 = .ok (.ireturn, 1) := by decide +kernel
theorem dX10_shelf_18 : decode cX10_shelf 18 = .ok (.aload_n 0, 1) := by decide +kernel
theorem dX10_shelf_19 : decode cX10_shelf 19 = .ok (.getfield 84, 3) := by decide +kernel
theorem dX10_shelf_22 : decode cX10_shelf 22 = .ok (.iload_n 1, 1) := by decide +kernel
theorem dX10_shelf_23 : decode cX10_shelf 23 = .ok (.iload_n 2, 1) := by decide +kernel
theorem dX10_shelf_24 : decode cX10_shelf 24 = .ok (.iconst 2, 1) := by decide +kernel
theorem dX10_shelf_25 : decode cX10_shelf 25 = .ok (.if_icmp .eq 17, 3) := by decide +kernel
theorem dX10_shelf_28 : decode cX10_shelf 28 = .ok (.iload_n 2, 1) := by decide +kernel
theorem dX10_shelf_29 : decode cX10_shelf 29 = .ok (.iconst 1, 1) := by decide +kernel
theorem dX10_shelf_30 : decode cX10_shelf 30 = .ok (.if_icmp .ne 16, 3) := by decide +kernel
theorem dX10_shelf_33 : decode cX10_shelf 33 = .ok (.aload_n 0, 1) := by decide +kernel
theorem dX10_shelf_34 : decode cX10_shelf 34 = .ok (.getfield 75, 3) := by decide +kernel
theorem dX10_shelf_37 : decode cX10_shelf 37 = .ok (.iload_n 3, 1) := by decide +kernel
theorem dX10_shelf_38 : decode cX10_shelf 38 = .ok (.iaload, 1) := by decide +kernel
theorem dX10_shelf_39 : decode cX10_shelf 39 = .ok (.ifCond .ge 7, 3) := by decide +kernel
theorem dX10_shelf_42 : decode cX10_shelf 42 = .ok (.iconst (-1), 1) := by decide +kernel
theorem dX10_shelf_43 : decode cX10_shelf 43 = .ok (.goto 4, 3) := by decide +kernel
theorem dX10_shelf_46 : decode cX10_shelf 46 = .ok (.iload_n 2, 1) := by decide +kernel
theorem dX10_shelf_47 : decode cX10_shelf 47 = .ok (.iastore, 1) := by decide +kernel
theorem dX10_shelf_48 : decode cX10_shelf 48 = .ok (.aload_n 0, 1) := by decide +kernel
theorem dX10_shelf_49 : decode cX10_shelf 49 = .ok (.getfield 87, 3) := by decide +kernel
theorem dX10_shelf_52 : decode cX10_shelf 52 = .ok (.iload_n 1, 1) := by decide +kernel
theorem dX10_shelf_53 : decode cX10_shelf 53 = .ok (.iload_n 2, 1) := by decide +kernel
theorem dX10_shelf_54 : decode cX10_shelf 54 = .ok (.iconst 1, 1) := by decide +kernel
theorem dX10_shelf_55 : decode cX10_shelf 55 = .ok (.if_icmp .ne 12, 3) := by decide +kernel
theorem dX10_shelf_58 : decode cX10_shelf 58 = .ok (.aload_n 0, 1) := by decide +kernel
theorem dX10_shelf_59 : decode cX10_shelf 59 = .ok (.getfield 75, 3) := by decide +kernel
theorem dX10_shelf_62 : decode cX10_shelf 62 = .ok (.iload_n 3, 1) := by decide +kernel
theorem dX10_shelf_63 : decode cX10_shelf 63 = .ok (.iaload, 1) := by decide +kernel
theorem dX10_shelf_64 : decode cX10_shelf 64 = .ok (.goto 4, 3) := by decide +kernel
theorem dX10_shelf_67 : decode cX10_shelf 67 = .ok (.iload_n 3, 1) := by decide +kernel
theorem dX10_shelf_68 : decode cX10_shelf 68 = .ok (.iastore, 1) := by decide +kernel
theorem dX10_shelf_69 : decode cX10_shelf 69 = .ok (.aload_n 0, 1) := by decide +kernel
theorem dX10_shelf_70 : decode cX10_shelf 70 = .ok (.getfield 90, 3) := by decide +kernel
theorem dX10_shelf_73 : decode cX10_shelf 73 = .ok (.iload_n 1, 1) := by decide +kernel
theorem dX10_shelf_74 : decode cX10_shelf 74 = .ok (.iload_n 2, 1) := by decide +kernel
theorem dX10_shelf_75 : decode cX10_shelf 75 = .ok (.iconst 1, 1) := by decide +kernel
theorem dX10_shelf_76 : decode cX10_shelf 76 = .ok (.if_icmp .ne 12, 3) := by decide +kernel
theorem dX10_shelf_79 : decode cX10_shelf 79 = .ok (.aload_n 0, 1) := by decide +kernel
theorem dX10_shelf_80 : decode cX10_shelf 80 = .ok (.getfield 78, 3) := by decide +kernel
theorem dX10_shelf_83 : decode cX10_shelf 83 = .ok (.iload_n 3, 1) := by decide +kernel
theorem dX10_shelf_84 : decode cX10_shelf 84 = .ok (.iaload, 1) := by decide +kernel
theorem dX10_shelf_85 : decode cX10_shelf 85 = .ok (.goto 4, 3) := by decide +kernel
theorem dX10_shelf_88 : decode cX10_shelf 88 = .ok (.iconst 0, 1) := by decide +kernel
theorem dX10_shelf_89 : decode cX10_shelf 89 = .ok (.iastore, 1) := by decide +kernel
theorem dX10_shelf_90 : decode cX10_shelf 90 = .ok (.iconst 1, 1) := by decide +kernel
theorem dX10_shelf_91 : decode cX10_shelf 91 = .ok (.ireturn, 1) := by decide +kernel
theorem dX10_kindOn_0 : decode cX10_kindOn 0 = .ok (.aload_n 0, 1) := by decide +kernel
theorem dX10_kindOn_1 : decode cX10_kindOn 1 = .ok (.getfield 84, 3) := by decide +kernel
theorem dX10_kindOn_4 : decode cX10_kindOn 4 = .ok (.iload_n 1, 1) := by decide +kernel
theorem dX10_kindOn_5 : decode cX10_kindOn 5 = .ok (.iaload, 1) := by decide +kernel
theorem dX10_kindOn_6 : decode cX10_kindOn 6 = .ok (.ifCond .eq 19, 3) := by decide +kernel
theorem dX10_kindOn_9 : decode cX10_kindOn 9 = .ok (.aload_n 0, 1) := by decide +kernel
theorem dX10_kindOn_10 : decode cX10_kindOn 10 = .ok (.getfield 84, 3) := by decide +kernel
theorem dX10_kindOn_13 : decode cX10_kindOn 13 = .ok (.iload_n 1, 1) := by decide +kernel
theorem dX10_kindOn_14 : decode cX10_kindOn 14 = .ok (.iaload, 1) := by decide +kernel
theorem dX10_kindOn_15 : decode cX10_kindOn 15 = .ok (.ifCond .ge 7, 3) := by decide +kernel
theorem dX10_kindOn_18 : decode cX10_kindOn 18 = .ok (.iconst (-1), 1) := by decide +kernel
theorem dX10_kindOn_19 : decode cX10_kindOn 19 = .ok (.goto 5, 3) := by decide +kernel
theorem dX10_kindOn_22 : decode cX10_kindOn 22 = .ok (.bipush 9, 2) := by decide +kernel
theorem dX10_kindOn_24 : decode cX10_kindOn 24 = .ok (.ireturn, 1) := by decide +kernel
theorem dX10_kindOn_25 : decode cX10_kindOn 25 = .ok (.aload_n 0, 1) := by decide +kernel
theorem dX10_kindOn_26 : decode cX10_kindOn 26 = .ok (.aload_n 0, 1) := by decide +kernel
theorem dX10_kindOn_27 : decode cX10_kindOn 27 = .ok (.getfield 87, 3) := by decide +kernel
theorem dX10_kindOn_30 : decode cX10_kindOn 30 = .ok (.iload_n 1, 1) := by decide +kernel
theorem dX10_kindOn_31 : decode cX10_kindOn 31 = .ok (.iaload, 1) := by decide +kernel
theorem dX10_kindOn_32 : decode cX10_kindOn 32 = .ok (.invokevirtual 318, 3) := by decide +kernel
theorem dX10_kindOn_35 : decode cX10_kindOn 35 = .ok (.ifCond .eq 19, 3) := by decide +kernel
theorem dX10_kindOn_38 : decode cX10_kindOn 38 = .ok (.aload_n 0, 1) := by decide +kernel
theorem dX10_kindOn_39 : decode cX10_kindOn 39 = .ok (.getfield 31, 3) := by decide +kernel
theorem dX10_kindOn_42 : decode cX10_kindOn 42 = .ok (.iconst 2, 1) := by decide +kernel
theorem dX10_kindOn_43 : decode cX10_kindOn 43 = .ok (.aload_n 0, 1) := by decide +kernel
theorem dX10_kindOn_44 : decode cX10_kindOn 44 = .ok (.getfield 87, 3) := by decide +kernel
theorem dX10_kindOn_47 : decode cX10_kindOn 47 = .ok (.iload_n 1, 1) := by decide +kernel
theorem dX10_kindOn_48 : decode cX10_kindOn 48 = .ok (.iaload, 1) := by decide +kernel
theorem dX10_kindOn_49 : decode cX10_kindOn 49 = .ok (.imul, 1) := by decide +kernel
theorem dX10_kindOn_50 : decode cX10_kindOn 50 = .ok (.iaload, 1) := by decide +kernel
theorem dX10_kindOn_51 : decode cX10_kindOn 51 = .ok (.goto 4, 3) := by decide +kernel
theorem dX10_kindOn_54 : decode cX10_kindOn 54 = .ok (.iconst (-1), 1) := by decide +kernel
theorem dX10_kindOn_55 : decode cX10_kindOn 55 = .ok (.ireturn, 1) := by decide +kernel
theorem dX10_isUnder_0 : decode cX10_isUnder 0 = .ok (.iload_n 1, 1) := by decide +kernel
theorem dX10_isUnder_1 : decode cX10_isUnder 1 = .ok (.ifCond .eq 28, 3) := by decide +kernel
theorem dX10_isUnder_4 : decode cX10_isUnder 4 = .ok (.iload_n 1, 1) := by decide +kernel
theorem dX10_isUnder_5 : decode cX10_isUnder 5 = .ok (.iload_n 0, 1) := by decide +kernel
theorem dX10_isUnder_6 : decode cX10_isUnder 6 = .ok (.if_icmp .eq 23, 3) := by decide +kernel
theorem dX10_isUnder_9 : decode cX10_isUnder 9 = .ok (.iload_n 1, 1) := by decide +kernel
theorem dX10_isUnder_10 : decode cX10_isUnder 10 = .ok (.iconst 2, 1) := by decide +kernel
theorem dX10_isUnder_11 : decode cX10_isUnder 11 = .ok (.if_icmp .ne 8, 3) := by decide +kernel
theorem dX10_isUnder_14 : decode cX10_isUnder 14 = .ok (.iload_n 0, 1) := by decide +kernel
theorem dX10_isUnder_15 : decode cX10_isUnder 15 = .ok (.iconst 3, 1) := by decide +kernel
theorem dX10_isUnder_16 : decode cX10_isUnder 16 = .ok (.if_icmp .eq 13, 3) := by decide +kernel
theorem dX10_isUnder_19 : decode cX10_isUnder 19 = .ok (.iload_n 1, 1) := by decide +kernel
theorem dX10_isUnder_20 : decode cX10_isUnder 20 = .ok (.iconst 1, 1) := by decide +kernel
theorem dX10_isUnder_21 : decode cX10_isUnder 21 = .ok (.if_icmp .ne 12, 3) := by decide +kernel
theorem dX10_isUnder_24 : decode cX10_isUnder 24 = .ok (.iload_n 0, 1) := by decide +kernel
theorem dX10_isUnder_25 : decode cX10_isUnder 25 = .ok (.iconst 4, 1) := by decide +kernel
theorem dX10_isUnder_26 : decode cX10_isUnder 26 = .ok (.if_icmp .ne 7, 3) := by decide +kernel
theorem dX10_isUnder_29 : decode cX10_isUnder 29 = .ok (.iconst 1, 1) := by decide +kernel
theorem dX10_isUnder_30 : decode cX10_isUnder 30 = .ok (.goto 4, 3) := by decide +kernel
theorem dX10_isUnder_33 : decode cX10_isUnder 33 = .ok (.iconst 0, 1) := by decide +kernel
theorem dX10_isUnder_34 : decode cX10_isUnder 34 = .ok (.ireturn, 1) := by decide +kernel
theorem dX10_taken_0 : decode cX10_taken 0 = .ok (.iload_n 1, 1) := by decide +kernel
theorem dX10_taken_1 : decode cX10_taken 1 = .ok (.invokestatic 347, 3) := by decide +kernel
theorem dX10_taken_4 : decode cX10_taken 4 = .ok (.ifCond .eq 23, 3) := by decide +kernel
theorem dX10_taken_7 : decode cX10_taken 7 = .ok (.iload_n 2, 1) := by decide +kernel
theorem dX10_taken_8 : decode cX10_taken 8 = .ok (.iconst 0, 1) := by decide +kernel
theorem dX10_taken_9 : decode cX10_taken 9 = .ok (.iconst 5, 1) := by decide +kernel
theorem dX10_taken_10 : decode cX10_taken 10 = .ok (.invokestatic 105, 3) := by decide +kernel
theorem dX10_taken_13 : decode cX10_taken 13 = .ok (.ifCond .ne 16, 3) := by decide +kernel
theorem dX10_taken_16 : decode cX10_taken 16 = .ok (.iload_n 2, 1) := by decide +kernel
theorem dX10_taken_17 : decode cX10_taken 17 = .ok (.bipush 10, 2) := by decide +kernel
theorem dX10_taken_19 : decode cX10_taken 19 = .ok (.bipush 13, 2) := by decide +kernel
theorem dX10_taken_21 : decode cX10_taken 21 = .ok (.invokestatic 105, 3) := by decide +kernel
theorem dX10_taken_24 : decode cX10_taken 24 = .ok (.ifCond .ne 5, 3) := by decide +kernel
theorem dX10_taken_27 : decode cX10_taken 27 = .ok (.iconst (-1), 1) := by decide +kernel
theorem dX10_taken_28 : decode cX10_taken 28 = .ok (.ireturn, 1) := by decide +kernel
theorem dX10_taken_29 : decode cX10_taken 29 = .ok (.aload_n 0, 1) := by decide +kernel
theorem dX10_taken_30 : decode cX10_taken 30 = .ok (.iload_n 1, 1) := by decide +kernel
theorem dX10_taken_31 : decode cX10_taken 31 = .ok (.invokevirtual 356, 3) := by decide +kernel
theorem dX10_taken_34 : decode cX10_taken 34 = .ok (.istore_n 3, 1) := by decide +kernel
theorem dX10_taken_35 : decode cX10_taken 35 = .ok (.iload_n 3, 1) := by decide +kernel
theorem dX10_taken_36 : decode cX10_taken 36 = .ok (.ifCond .ge 6, 3) := by decide +kernel
theorem dX10_taken_39 : decode cX10_taken 39 = .ok (.bipush (-11), 2) := by decide +kernel
theorem dX10_taken_41 : decode cX10_taken 41 = .ok (.ireturn, 1) := by decide +kernel
theorem dX10_taken_42 : decode cX10_taken 42 = .ok (.iload_n 3, 1) := by decide +kernel
theorem dX10_taken_43 : decode cX10_taken 43 = .ok (.bipush 9, 2) := by decide +kernel
theorem dX10_taken_45 : decode cX10_taken 45 = .ok (.if_icmp .ne 28, 3) := by decide +kernel
theorem dX10_taken_48 : decode cX10_taken 48 = .ok (.iload_n 2, 1) := by decide +kernel
theorem dX10_taken_49 : decode cX10_taken 49 = .ok (.bipush 10, 2) := by decide +kernel
theorem dX10_taken_51 : decode cX10_taken 51 = .ok (.aload_n 0, 1) := by decide +kernel
theorem dX10_taken_52 : decode cX10_taken 52 = .ok (.getfield 87, 3) := by decide +kernel
theorem dX10_taken_55 : decode cX10_taken 55 = .ok (.iload_n 1, 1) := by decide +kernel
theorem dX10_taken_56 : decode cX10_taken 56 = .ok (.iaload, 1) := by decide +kernel
theorem dX10_taken_57 : decode cX10_taken 57 = .ok (.iadd, 1) := by decide +kernel
theorem dX10_taken_58 : decode cX10_taken 58 = .ok (.if_icmp .ne 12, 3) := by decide +kernel
theorem dX10_taken_61 : decode cX10_taken 61 = .ok (.aload_n 0, 1) := by decide +kernel
theorem dX10_taken_62 : decode cX10_taken 62 = .ok (.getfield 90, 3) := by decide +kernel
theorem dX10_taken_65 : decode cX10_taken 65 = .ok (.iload_n 1, 1) := by decide +kernel
theorem dX10_taken_66 : decode cX10_taken 66 = .ok (.iaload, 1) := by decide +kernel
theorem dX10_taken_67 : decode cX10_taken 67 = .ok (.goto 5, 3) := by decide +kernel
theorem dX10_taken_70 : decode cX10_taken 70 = .ok (.bipush (-13), 2) := by decide +kernel
theorem dX10_taken_72 : decode cX10_taken 72 = .ok (.ireturn, 1) := by decide +kernel
theorem dX10_taken_73 : decode cX10_taken 73 = .ok (.iload_n 2, 1) := by decide +kernel
theorem dX10_taken_74 : decode cX10_taken 74 = .ok (.bipush 10, 2) := by decide +kernel
theorem dX10_taken_76 : decode cX10_taken 76 = .ok (.if_icmp .ge 20, 3) := by decide +kernel
theorem dX10_taken_79 : decode cX10_taken 79 = .ok (.iload_n 3, 1) := by decide +kernel
theorem dX10_taken_80 : decode cX10_taken 80 = .ok (.iload_n 2, 1) := by decide +kernel
theorem dX10_taken_81 : decode cX10_taken 81 = .ok (.invokestatic 359, 3) := by decide +kernel
theorem dX10_taken_84 : decode cX10_taken 84 = .ok (.ifCond .eq 12, 3) := by decide +kernel
theorem dX10_taken_87 : decode cX10_taken 87 = .ok (.aload_n 0, 1) := by decide +kernel
theorem dX10_taken_88 : decode cX10_taken 88 = .ok (.getfield 87, 3) := by decide +kernel
theorem dX10_taken_91 : decode cX10_taken 91 = .ok (.iload_n 1, 1) := by decide +kernel
theorem dX10_taken_92 : decode cX10_taken 92 = .ok (.iaload, 1) := by decide +kernel
theorem dX10_taken_93 : decode cX10_taken 93 = .ok (.goto 5, 3) := by decide +kernel
theorem dX10_taken_96 : decode cX10_taken 96 = .ok (.bipush (-13), 2) := by decide +kernel
theorem dX10_taken_98 : decode cX10_taken 98 = .ok (.ireturn, 1) := by decide +kernel
theorem dX10_ran_0 : decode cX10_ran 0 = .ok (.aload_n 0, 1) := by decide +kernel
theorem dX10_ran_1 : decode cX10_ran 1 = .ok (.getfield 362, 3) := by decide +kernel
theorem dX10_ran_4 : decode cX10_ran 4 = .ok (.bipush 30, 2) := by decide +kernel
theorem dX10_ran_6 : decode cX10_ran 6 = .ok (.if_icmp .ge 23, 3) := by decide +kernel
theorem dX10_ran_9 : decode cX10_ran 9 = .ok (.aload_n 0, 1) := by decide +kernel
theorem dX10_ran_10 : decode cX10_ran 10 = .ok (.getfield 93, 3) := by decide +kernel
theorem dX10_ran_13 : decode cX10_ran 13 = .ok (.aload_n 0, 1) := by decide +kernel
theorem dX10_ran_14 : decode cX10_ran 14 = .ok (.getfield 362, 3) := by decide +kernel
theorem dX10_ran_17 : decode cX10_ran 17 = .ok (.iload_n 1, 1) := by decide +kernel
theorem dX10_ran_18 : decode cX10_ran 18 = .ok (.iastore, 1) := by decide +kernel
theorem dX10_ran_19 : decode cX10_ran 19 = .ok (.aload_n 0, 1) := by decide +kernel
theorem dX10_ran_20 : decode cX10_ran 20 = .ok (.dup, 1) := by decide +kernel
theorem dX10_ran_21 : decode cX10_ran 21 = .ok (.getfield 362, 3) := by decide +kernel
theorem dX10_ran_24 : decode cX10_ran 24 = .ok (.iconst 1, 1) := by decide +kernel
theorem dX10_ran_25 : decode cX10_ran 25 = .ok (.iadd, 1) := by decide +kernel
theorem dX10_ran_26 : decode cX10_ran 26 = .ok (.putfield 362, 3) := by decide +kernel
theorem dX10_ran_29 : decode cX10_ran 29 = .ok (.return_, 1) := by decide +kernel
theorem dX10_plainSits_0 : decode cX10_plainSits 0 = .ok (.aload_n 0, 1) := by decide +kernel
theorem dX10_plainSits_1 : decode cX10_plainSits 1 = .ok (.bipush 10, 2) := by decide +kernel
theorem dX10_plainSits_3 : decode cX10_plainSits 3 = .ok (.invokevirtual 365, 3) := by decide +kernel
theorem dX10_plainSits_6 : decode cX10_plainSits 6 = .ok (.iload_n 1, 1) := by decide +kernel
theorem dX10_plainSits_7 : decode cX10_plainSits 7 = .ok (.aload_n 0, 1) := by decide +kernel
theorem dX10_plainSits_8 : decode cX10_plainSits 8 = .ok (.getfield 368, 3) := by decide +kernel
theorem dX10_plainSits_11 : decode cX10_plainSits 11 = .ok (.iadd, 1) := by decide +kernel
theorem dX10_plainSits_12 : decode cX10_plainSits 12 = .ok (.ireturn, 1) := by decide +kernel
theorem dX10_sitsIt_0 : decode cX10_sitsIt 0 = .ok (.aload_n 0, 1) := by decide +kernel
theorem dX10_sitsIt_1 : decode cX10_sitsIt 1 = .ok (.getfield 371, 3) := by decide +kernel
theorem dX10_sitsIt_4 : decode cX10_sitsIt 4 = .ok (.tableswitch 81 2 4 #[28, 42, 64], 28) := by decide +kernel
theorem dX10_sitsIt_32 : decode cX10_sitsIt 32 = .ok (.aload_n 0, 1) := by decide +kernel
theorem dX10_sitsIt_33 : decode cX10_sitsIt 33 = .ok (.bipush 30, 2) := by decide +kernel
theorem dX10_sitsIt_35 : decode cX10_sitsIt 35 = .ok (.invokevirtual 365, 3) := by decide +kernel
theorem dX10_sitsIt_38 : decode cX10_sitsIt 38 = .ok (.aload_n 0, 1) := by decide +kernel
theorem dX10_sitsIt_39 : decode cX10_sitsIt 39 = .ok (.iload_n 1, 1) := by decide +kernel
theorem dX10_sitsIt_40 : decode cX10_sitsIt 40 = .ok (.invokevirtual 374, 3) := by decide +kernel
theorem dX10_sitsIt_43 : decode cX10_sitsIt 43 = .ok (.iconst 3, 1) := by decide +kernel
theorem dX10_sitsIt_44 : decode cX10_sitsIt 44 = .ok (.imul, 1) := by decide +kernel
theorem dX10_sitsIt_45 : decode cX10_sitsIt 45 = .ok (.ireturn, 1) := by decide +kernel
theorem dX10_sitsIt_46 : decode cX10_sitsIt 46 = .ok (.aload_n 0, 1) := by decide +kernel
theorem dX10_sitsIt_47 : decode cX10_sitsIt 47 = .ok (.bipush 40, 2) := by decide +kernel
theorem dX10_sitsIt_49 : decode cX10_sitsIt 49 = .ok (.invokevirtual 365, 3) := by decide +kernel
theorem dX10_sitsIt_52 : decode cX10_sitsIt 52 = .ok (.aload_n 0, 1) := by decide +kernel
theorem dX10_sitsIt_53 : decode cX10_sitsIt 53 = .ok (.bipush 30, 2) := by decide +kernel
theorem dX10_sitsIt_55 : decode cX10_sitsIt 55 = .ok (.invokevirtual 365, 3) := by decide +kernel
theorem dX10_sitsIt_58 : decode cX10_sitsIt 58 = .ok (.iconst 0, 1) := by decide +kernel
theorem dX10_sitsIt_59 : decode cX10_sitsIt 59 = .ok (.aload_n 0, 1) := by decide +kernel
theorem dX10_sitsIt_60 : decode cX10_sitsIt 60 = .ok (.iload_n 1, 1) := by decide +kernel
theorem dX10_sitsIt_61 : decode cX10_sitsIt 61 = .ok (.invokevirtual 374, 3) := by decide +kernel
theorem dX10_sitsIt_64 : decode cX10_sitsIt 64 = .ok (.iconst 3, 1) := by decide +kernel
theorem dX10_sitsIt_65 : decode cX10_sitsIt 65 = .ok (.imul, 1) := by decide +kernel
theorem dX10_sitsIt_66 : decode cX10_sitsIt 66 = .ok (.isub, 1) := by decide +kernel
theorem dX10_sitsIt_67 : decode cX10_sitsIt 67 = .ok (.ireturn, 1) := by decide +kernel
theorem dX10_sitsIt_68 : decode cX10_sitsIt 68 = .ok (.aload_n 0, 1) := by decide +kernel
theorem dX10_sitsIt_69 : decode cX10_sitsIt 69 = .ok (.bipush 51, 2) := by decide +kernel
theorem dX10_sitsIt_71 : decode cX10_sitsIt 71 = .ok (.invokevirtual 365, 3) := by decide +kernel
theorem dX10_sitsIt_74 : decode cX10_sitsIt 74 = .ok (.aload_n 0, 1) := by decide +kernel
theorem dX10_sitsIt_75 : decode cX10_sitsIt 75 = .ok (.iload_n 1, 1) := by decide +kernel
theorem dX10_sitsIt_76 : decode cX10_sitsIt 76 = .ok (.invokevirtual 374, 3) := by decide +kernel
theorem dX10_sitsIt_79 : decode cX10_sitsIt 79 = .ok (.aload_n 0, 1) := by decide +kernel
theorem dX10_sitsIt_80 : decode cX10_sitsIt 80 = .ok (.getfield 368, 3) := by decide +kernel
theorem dX10_sitsIt_83 : decode cX10_sitsIt 83 = .ok (.isub, 1) := by decide +kernel
theorem dX10_sitsIt_84 : decode cX10_sitsIt 84 = .ok (.ireturn, 1) := by decide +kernel
theorem dX10_sitsIt_85 : decode cX10_sitsIt 85 = .ok (.aload_n 0, 1) := by decide +kernel
theorem dX10_sitsIt_86 : decode cX10_sitsIt 86 = .ok (.iload_n 1, 1) := by decide +kernel
theorem dX10_sitsIt_87 : decode cX10_sitsIt 87 = .ok (.invokevirtual 374, 3) := by decide +kernel
theorem dX10_sitsIt_90 : decode cX10_sitsIt 90 = .ok (.ireturn, 1) := by decide +kernel
theorem dX10_plainCounts_0 : decode cX10_plainCounts 0 = .ok (.aload_n 0, 1) := by decide +kernel
theorem dX10_plainCounts_1 : decode cX10_plainCounts 1 = .ok (.bipush 11, 2) := by decide +kernel
theorem dX10_plainCounts_3 : decode cX10_plainCounts 3 = .ok (.invokevirtual 365, 3) := by decide +kernel
theorem dX10_plainCounts_6 : decode cX10_plainCounts 6 = .ok (.aload_n 0, 1) := by decide +kernel
theorem dX10_plainCounts_7 : decode cX10_plainCounts 7 = .ok (.iload_n 1, 1) := by decide +kernel
theorem dX10_plainCounts_8 : decode cX10_plainCounts 8 = .ok (.invokevirtual 377, 3) := by decide +kernel
theorem dX10_plainCounts_11 : decode cX10_plainCounts 11 = .ok (.iconst 2, 1) := by decide +kernel
theorem dX10_plainCounts_12 : decode cX10_plainCounts 12 = .ok (.imul, 1) := by decide +kernel
theorem dX10_plainCounts_13 : decode cX10_plainCounts 13 = .ok (.ireturn, 1) := by decide +kernel
theorem dX10_turnCounts_0 : decode cX10_turnCounts 0 = .ok (.aload_n 0, 1) := by decide +kernel
theorem dX10_turnCounts_1 : decode cX10_turnCounts 1 = .ok (.bipush 20, 2) := by decide +kernel
theorem dX10_turnCounts_3 : decode cX10_turnCounts 3 = .ok (.invokevirtual 365, 3) := by decide +kernel
theorem dX10_turnCounts_6 : decode cX10_turnCounts 6 = .ok (.aload_n 0, 1) := by decide +kernel
theorem dX10_turnCounts_7 : decode cX10_turnCounts 7 = .ok (.iload_n 1, 1) := by decide +kernel
theorem dX10_turnCounts_8 : decode cX10_turnCounts 8 = .ok (.invokevirtual 380, 3) := by decide +kernel
theorem dX10_turnCounts_11 : decode cX10_turnCounts 11 = .ok (.aload_n 0, 1) := by decide +kernel
theorem dX10_turnCounts_12 : decode cX10_turnCounts 12 = .ok (.getfield 383, 3) := by decide +kernel
theorem dX10_turnCounts_15 : decode cX10_turnCounts 15 = .ok (.isub, 1) := by decide +kernel
theorem dX10_turnCounts_16 : decode cX10_turnCounts 16 = .ok (.ireturn, 1) := by decide +kernel
theorem dX10_countsIt_0 : decode cX10_countsIt 0 = .ok (.aload_n 0, 1) := by decide +kernel
theorem dX10_countsIt_1 : decode cX10_countsIt 1 = .ok (.getfield 371, 3) := by decide +kernel
theorem dX10_countsIt_4 : decode cX10_countsIt 4 = .ok (.iconst 3, 1) := by decide +kernel
theorem dX10_countsIt_5 : decode cX10_countsIt 5 = .ok (.if_icmp .ne 26, 3) := by decide +kernel
theorem dX10_countsIt_8 : decode cX10_countsIt 8 = .ok (.aload_n 0, 1) := by decide +kernel
theorem dX10_countsIt_9 : decode cX10_countsIt 9 = .ok (.bipush 41, 2) := by decide +kernel
theorem dX10_countsIt_11 : decode cX10_countsIt 11 = .ok (.invokevirtual 365, 3) := by decide +kernel
theorem dX10_countsIt_14 : decode cX10_countsIt 14 = .ok (.aload_n 0, 1) := by decide +kernel
theorem dX10_countsIt_15 : decode cX10_countsIt 15 = .ok (.iload_n 1, 1) := by decide +kernel
theorem dX10_countsIt_16 : decode cX10_countsIt 16 = .ok (.invokevirtual 380, 3) := by decide +kernel
theorem dX10_countsIt_19 : decode cX10_countsIt 19 = .ok (.istore_n 2, 1) := by decide +kernel
theorem dX10_countsIt_20 : decode cX10_countsIt 20 = .ok (.iload_n 2, 1) := by decide +kernel
theorem dX10_countsIt_21 : decode cX10_countsIt 21 = .ok (.aload_n 0, 1) := by decide +kernel
theorem dX10_countsIt_22 : decode cX10_countsIt 22 = .ok (.aload_n 0, 1) := by decide +kernel
theorem dX10_countsIt_23 : decode cX10_countsIt 23 = .ok (.getfield 368, 3) := by decide +kernel
theorem dX10_countsIt_26 : decode cX10_countsIt 26 = .ok (.invokevirtual 377, 3) := by decide +kernel
theorem dX10_countsIt_29 : decode cX10_countsIt 29 = .ok (.iadd, 1) := by decide +kernel
theorem dX10_countsIt_30 : decode cX10_countsIt 30 = .ok (.ireturn, 1) := by decide +kernel
theorem dX10_countsIt_31 : decode cX10_countsIt 31 = .ok (.aload_n 0, 1) := by decide +kernel
theorem dX10_countsIt_32 : decode cX10_countsIt 32 = .ok (.getfield 371, 3) := by decide +kernel
theorem dX10_countsIt_35 : decode cX10_countsIt 35 = .ok (.iconst 1, 1) := by decide +kernel
theorem dX10_countsIt_36 : decode cX10_countsIt 36 = .ok (.if_icmp .eq 11, 3) := by decide +kernel
theorem dX10_countsIt_39 : decode cX10_countsIt 39 = .ok (.aload_n 0, 1) := by decide +kernel
theorem dX10_countsIt_40 : decode cX10_countsIt 40 = .ok (.getfield 371, 3) := by decide +kernel
theorem dX10_countsIt_43 : decode cX10_countsIt 43 = .ok (.iconst 4, 1) := by decide +kernel
theorem dX10_countsIt_44 : decode cX10_countsIt 44 = .ok (.if_icmp .ne 11, 3) := by decide +kernel
theorem dX10_countsIt_47 : decode cX10_countsIt 47 = .ok (.aload_n 0, 1) := by decide +kernel
theorem dX10_countsIt_48 : decode cX10_countsIt 48 = .ok (.iload_n 1, 1) := by decide +kernel
theorem dX10_countsIt_49 : decode cX10_countsIt 49 = .ok (.invokevirtual 386, 3) := by decide +kernel
theorem dX10_countsIt_52 : decode cX10_countsIt 52 = .ok (.goto 8, 3) := by decide +kernel
theorem dX10_countsIt_55 : decode cX10_countsIt 55 = .ok (.aload_n 0, 1) := by decide +kernel
theorem dX10_countsIt_56 : decode cX10_countsIt 56 = .ok (.iload_n 1, 1) := by decide +kernel
theorem dX10_countsIt_57 : decode cX10_countsIt 57 = .ok (.invokevirtual 380, 3) := by decide +kernel
theorem dX10_countsIt_60 : decode cX10_countsIt 60 = .ok (.ireturn, 1) := by decide +kernel
theorem dX10_plainShares_0 : decode cX10_plainShares 0 = .ok (.aload_n 0, 1) := by decide +kernel
theorem dX10_plainShares_1 : decode cX10_plainShares 1 = .ok (.bipush 12, 2) := by decide +kernel
theorem dX10_plainShares_3 : decode cX10_plainShares 3 = .ok (.invokevirtual 365, 3) := by decide +kernel
theorem dX10_plainShares_6 : decode cX10_plainShares 6 = .ok (.aload_n 0, 1) := by decide +kernel
theorem dX10_plainShares_7 : decode cX10_plainShares 7 = .ok (.getfield 383, 3) := by decide +kernel
theorem dX10_plainShares_10 : decode cX10_plainShares 10 = .ok (.aload_n 0, 1) := by decide +kernel
theorem dX10_plainShares_11 : decode cX10_plainShares 11 = .ok (.getfield 368, 3) := by decide +kernel
theorem dX10_plainShares_14 : decode cX10_plainShares 14 = .ok (.if_icmp .ne 10, 3) := by decide +kernel
theorem dX10_plainShares_17 : decode cX10_plainShares 17 = .ok (.aload_n 0, 1) := by decide +kernel
theorem dX10_plainShares_18 : decode cX10_plainShares 18 = .ok (.iconst 1, 1) := by decide +kernel
theorem dX10_plainShares_19 : decode cX10_plainShares 19 = .ok (.putfield 389, 3) := by decide +kernel
theorem dX10_plainShares_22 : decode cX10_plainShares 22 = .ok (.iconst 0, 1) := by decide +kernel
theorem dX10_plainShares_23 : decode cX10_plainShares 23 = .ok (.ireturn, 1) := by decide +kernel
theorem dX10_plainShares_24 : decode cX10_plainShares 24 = .ok (.iload_n 1, 1) := by decide +kernel
theorem dX10_plainShares_25 : decode cX10_plainShares 25 = .ok (.aload_n 0, 1) := by decide +kernel
theorem dX10_plainShares_26 : decode cX10_plainShares 26 = .ok (.getfield 383, 3) := by decide +kernel
theorem dX10_plainShares_29 : decode cX10_plainShares 29 = .ok (.aload_n 0, 1) := by decide +kernel
theorem dX10_plainShares_30 : decode cX10_plainShares 30 = .ok (.getfield 368, 3) := by decide +kernel
theorem dX10_plainShares_33 : decode cX10_plainShares 33 = .ok (.isub, 1) := by decide +kernel
theorem dX10_plainShares_34 : decode cX10_plainShares 34 = .ok (.idiv, 1) := by decide +kernel
theorem dX10_plainShares_35 : decode cX10_plainShares 35 = .ok (.ireturn, 1) := by decide +kernel
theorem dX10_sharesIt_0 : decode cX10_sharesIt 0 = .ok (.aload_n 0, 1) := by decide +kernel
theorem dX10_sharesIt_1 : decode cX10_sharesIt 1 = .ok (.getfield 371, 3) := by decide +kernel
theorem dX10_sharesIt_4 : decode cX10_sharesIt 4 = .ok (.iconst 4, 1) := by decide +kernel
theorem dX10_sharesIt_5 : decode cX10_sharesIt 5 = .ok (.if_icmp .ne 19, 3) := by decide +kernel
theorem dX10_sharesIt_8 : decode cX10_sharesIt 8 = .ok (.aload_n 0, 1) := by decide +kernel
theorem dX10_sharesIt_9 : decode cX10_sharesIt 9 = .ok (.bipush 50, 2) := by decide +kernel
theorem dX10_sharesIt_11 : decode cX10_sharesIt 11 = .ok (.invokevirtual 365, 3) := by decide +kernel
theorem dX10_sharesIt_14 : decode cX10_sharesIt 14 = .ok (.aload_n 0, 1) := by decide +kernel
theorem dX10_sharesIt_15 : decode cX10_sharesIt 15 = .ok (.iload_n 1, 1) := by decide +kernel
theorem dX10_sharesIt_16 : decode cX10_sharesIt 16 = .ok (.iconst 2, 1) := by decide +kernel
theorem dX10_sharesIt_17 : decode cX10_sharesIt 17 = .ok (.iadd, 1) := by decide +kernel
theorem dX10_sharesIt_18 : decode cX10_sharesIt 18 = .ok (.invokevirtual 392, 3) := by decide +kernel
theorem dX10_sharesIt_21 : decode cX10_sharesIt 21 = .ok (.iconst 1, 1) := by decide +kernel
theorem dX10_sharesIt_22 : decode cX10_sharesIt 22 = .ok (.ixor, 1) := by decide +kernel
theorem dX10_sharesIt_23 : decode cX10_sharesIt 23 = .ok (.ireturn, 1) := by decide +kernel
theorem dX10_sharesIt_24 : decode cX10_sharesIt 24 = .ok (.aload_n 0, 1) := by decide +kernel
theorem dX10_sharesIt_25 : decode cX10_sharesIt 25 = .ok (.getfield 371, 3) := by decide +kernel
theorem dX10_sharesIt_28 : decode cX10_sharesIt 28 = .ok (.iconst 5, 1) := by decide +kernel
theorem dX10_sharesIt_29 : decode cX10_sharesIt 29 = .ok (.if_icmp .ne 37, 3) := by decide +kernel
theorem dX10_sharesIt_32 : decode cX10_sharesIt 32 = .ok (.aload_n 0, 1) := by decide +kernel
theorem dX10_sharesIt_33 : decode cX10_sharesIt 33 = .ok (.bipush 61, 2) := by decide +kernel
theorem dX10_sharesIt_35 : decode cX10_sharesIt 35 = .ok (.invokevirtual 365, 3) := by decide +kernel
theorem dX10_sharesIt_38 : decode cX10_sharesIt 38 = .ok (.aload_n 0, 1) := by decide +kernel
theorem dX10_sharesIt_39 : decode cX10_sharesIt 39 = .ok (.iload_n 1, 1) := by decide +kernel
theorem dX10_sharesIt_40 : decode cX10_sharesIt 40 = .ok (.invokevirtual 392, 3) := by decide +kernel
theorem dX10_sharesIt_43 : decode cX10_sharesIt 43 = .ok (.istore_n 2, 1) := by decide +kernel
theorem dX10_sharesIt_44 : decode cX10_sharesIt 44 = .ok (.aload_n 0, 1) := by decide +kernel
theorem dX10_sharesIt_45 : decode cX10_sharesIt 45 = .ok (.getfield 389, 3) := by decide +kernel
theorem dX10_sharesIt_48 : decode cX10_sharesIt 48 = .ok (.ifCond .eq 7, 3) := by decide +kernel
theorem dX10_sharesIt_51 : decode cX10_sharesIt 51 = .ok (.iconst 0, 1) := by decide +kernel
theorem dX10_sharesIt_52 : decode cX10_sharesIt 52 = .ok (.goto 13, 3) := by decide +kernel
theorem dX10_sharesIt_55 : decode cX10_sharesIt 55 = .ok (.iload_n 2, 1) := by decide +kernel
theorem dX10_sharesIt_56 : decode cX10_sharesIt 56 = .ok (.aload_n 0, 1) := by decide +kernel
theorem dX10_sharesIt_57 : decode cX10_sharesIt 57 = .ok (.aload_n 0, 1) := by decide +kernel
theorem dX10_sharesIt_58 : decode cX10_sharesIt 58 = .ok (.getfield 383, 3) := by decide +kernel
theorem dX10_sharesIt_61 : decode cX10_sharesIt 61 = .ok (.invokevirtual 377, 3) := by decide +kernel
theorem dX10_sharesIt_64 : decode cX10_sharesIt 64 = .ok (.iadd, 1) := by decide +kernel
theorem dX10_sharesIt_65 : decode cX10_sharesIt 65 = .ok (.ireturn, 1) := by decide +kernel
theorem dX10_sharesIt_66 : decode cX10_sharesIt 66 = .ok (.aload_n 0, 1) := by decide +kernel
theorem dX10_sharesIt_67 : decode cX10_sharesIt 67 = .ok (.iload_n 1, 1) := by decide +kernel
theorem dX10_sharesIt_68 : decode cX10_sharesIt 68 = .ok (.invokevirtual 392, 3) := by decide +kernel
theorem dX10_sharesIt_71 : decode cX10_sharesIt 71 = .ok (.ireturn, 1) := by decide +kernel
theorem dX10_plainTells_0 : decode cX10_plainTells 0 = .ok (.aload_n 0, 1) := by decide +kernel
theorem dX10_plainTells_1 : decode cX10_plainTells 1 = .ok (.bipush 13, 2) := by decide +kernel
theorem dX10_plainTells_3 : decode cX10_plainTells 3 = .ok (.invokevirtual 365, 3) := by decide +kernel
theorem dX10_plainTells_6 : decode cX10_plainTells 6 = .ok (.aload_n 0, 1) := by decide +kernel
theorem dX10_plainTells_7 : decode cX10_plainTells 7 = .ok (.iload_n 1, 1) := by decide +kernel
theorem dX10_plainTells_8 : decode cX10_plainTells 8 = .ok (.invokevirtual 395, 3) := by decide +kernel
theorem dX10_plainTells_11 : decode cX10_plainTells 11 = .ok (.aload_n 0, 1) := by decide +kernel
theorem dX10_plainTells_12 : decode cX10_plainTells 12 = .ok (.getfield 383, 3) := by decide +kernel
theorem dX10_plainTells_15 : decode cX10_plainTells 15 = .ok (.ixor, 1) := by decide +kernel
theorem dX10_plainTells_16 : decode cX10_plainTells 16 = .ok (.ireturn, 1) := by decide +kernel
theorem dX10_tellsIt_0 : decode cX10_tellsIt 0 = .ok (.aload_n 0, 1) := by decide +kernel
theorem dX10_tellsIt_1 : decode cX10_tellsIt 1 = .ok (.getfield 371, 3) := by decide +kernel
theorem dX10_tellsIt_4 : decode cX10_tellsIt 4 = .ok (.iconst 2, 1) := by decide +kernel
theorem dX10_tellsIt_5 : decode cX10_tellsIt 5 = .ok (.if_icmp .eq 11, 3) := by decide +kernel
theorem dX10_tellsIt_8 : decode cX10_tellsIt 8 = .ok (.aload_n 0, 1) := by decide +kernel
theorem dX10_tellsIt_9 : decode cX10_tellsIt 9 = .ok (.getfield 371, 3) := by decide +kernel
theorem dX10_tellsIt_12 : decode cX10_tellsIt 12 = .ok (.iconst 3, 1) := by decide +kernel
theorem dX10_tellsIt_13 : decode cX10_tellsIt 13 = .ok (.if_icmp .ne 26, 3) := by decide +kernel
theorem dX10_tellsIt_16 : decode cX10_tellsIt 16 = .ok (.aload_n 0, 1) := by decide +kernel
theorem dX10_tellsIt_17 : decode cX10_tellsIt 17 = .ok (.bipush 31, 2) := by decide +kernel
theorem dX10_tellsIt_19 : decode cX10_tellsIt 19 = .ok (.invokevirtual 365, 3) := by decide +kernel
theorem dX10_tellsIt_22 : decode cX10_tellsIt 22 = .ok (.aload_n 0, 1) := by decide +kernel
theorem dX10_tellsIt_23 : decode cX10_tellsIt 23 = .ok (.iload_n 1, 1) := by decide +kernel
theorem dX10_tellsIt_24 : decode cX10_tellsIt 24 = .ok (.invokevirtual 398, 3) := by decide +kernel
theorem dX10_tellsIt_27 : decode cX10_tellsIt 27 = .ok (.istore_n 2, 1) := by decide +kernel
theorem dX10_tellsIt_28 : decode cX10_tellsIt 28 = .ok (.iload_n 2, 1) := by decide +kernel
theorem dX10_tellsIt_29 : decode cX10_tellsIt 29 = .ok (.aload_n 0, 1) := by decide +kernel
theorem dX10_tellsIt_30 : decode cX10_tellsIt 30 = .ok (.aload_n 0, 1) := by decide +kernel
theorem dX10_tellsIt_31 : decode cX10_tellsIt 31 = .ok (.getfield 368, 3) := by decide +kernel
theorem dX10_tellsIt_34 : decode cX10_tellsIt 34 = .ok (.invokevirtual 401, 3) := by decide +kernel
theorem dX10_tellsIt_37 : decode cX10_tellsIt 37 = .ok (.iadd, 1) := by decide +kernel
theorem dX10_tellsIt_38 : decode cX10_tellsIt 38 = .ok (.ireturn, 1) := by decide +kernel
theorem dX10_tellsIt_39 : decode cX10_tellsIt 39 = .ok (.aload_n 0, 1) := by decide +kernel
theorem dX10_tellsIt_40 : decode cX10_tellsIt 40 = .ok (.getfield 371, 3) := by decide +kernel
theorem dX10_tellsIt_43 : decode cX10_tellsIt 43 = .ok (.iconst 5, 1) := by decide +kernel
theorem dX10_tellsIt_44 : decode cX10_tellsIt 44 = .ok (.if_icmp .ne 17, 3) := by decide +kernel
theorem dX10_tellsIt_47 : decode cX10_tellsIt 47 = .ok (.aload_n 0, 1) := by decide +kernel
theorem dX10_tellsIt_48 : decode cX10_tellsIt 48 = .ok (.bipush 60, 2) := by decide +kernel
theorem dX10_tellsIt_50 : decode cX10_tellsIt 50 = .ok (.invokevirtual 365, 3) := by decide +kernel
theorem dX10_tellsIt_53 : decode cX10_tellsIt 53 = .ok (.aload_n 0, 1) := by decide +kernel
theorem dX10_tellsIt_54 : decode cX10_tellsIt 54 = .ok (.iload_n 1, 1) := by decide +kernel
theorem dX10_tellsIt_55 : decode cX10_tellsIt 55 = .ok (.invokevirtual 398, 3) := by decide +kernel
theorem dX10_tellsIt_58 : decode cX10_tellsIt 58 = .ok (.iconst 2, 1) := by decide +kernel
theorem dX10_tellsIt_59 : decode cX10_tellsIt 59 = .ok (.imul, 1) := by decide +kernel
theorem dX10_tellsIt_60 : decode cX10_tellsIt 60 = .ok (.ireturn, 1) := by decide +kernel
theorem dX10_tellsIt_61 : decode cX10_tellsIt 61 = .ok (.aload_n 0, 1) := by decide +kernel
theorem dX10_tellsIt_62 : decode cX10_tellsIt 62 = .ok (.iload_n 1, 1) := by decide +kernel
theorem dX10_tellsIt_63 : decode cX10_tellsIt 63 = .ok (.invokevirtual 398, 3) := by decide +kernel
theorem dX10_tellsIt_66 : decode cX10_tellsIt 66 = .ok (.ireturn, 1) := by decide +kernel
theorem dX10_act_0 : decode cX10_act 0 = .ok (.aload_n 0, 1) := by decide +kernel
theorem dX10_act_1 : decode cX10_act 1 = .ok (.iconst 0, 1) := by decide +kernel
theorem dX10_act_2 : decode cX10_act 2 = .ok (.putfield 362, 3) := by decide +kernel
theorem dX10_act_5 : decode cX10_act 5 = .ok (.iload_n 1, 1) := by decide +kernel
theorem dX10_act_6 : decode cX10_act 6 = .ok (.invokestatic 347, 3) := by decide +kernel
theorem dX10_act_9 : decode cX10_act 9 = .ok (.ifCond .eq 11, 3) := by decide +kernel
theorem dX10_act_12 : decode cX10_act 12 = .ok (.aload_n 0, 1) := by decide +kernel
theorem dX10_act_13 : decode cX10_act 13 = .ok (.iload_n 1, 1) := by decide +kernel
theorem dX10_act_14 : decode cX10_act 14 = .ok (.invokevirtual 356, 3) := by decide +kernel
theorem dX10_act_17 : decode cX10_act 17 = .ok (.goto 4, 3) := by decide +kernel
theorem dX10_act_20 : decode cX10_act 20 = .ok (.iconst (-1), 1) := by decide +kernel
theorem dX10_act_21 : decode cX10_act 21 = .ok (.istore 4, 2) := by decide +kernel
theorem dX10_act_23 : decode cX10_act 23 = .ok (.iload_n 2, 1) := by decide +kernel
theorem dX10_act_24 : decode cX10_act 24 = .ok (.iconst 0, 1) := by decide +kernel
theorem dX10_act_25 : decode cX10_act 25 = .ok (.iconst 3, 1) := by decide +kernel
theorem dX10_act_26 : decode cX10_act 26 = .ok (.invokestatic 105, 3) := by decide +kernel
theorem dX10_act_29 : decode cX10_act 29 = .ok (.ifCond .eq 13, 3) := by decide +kernel
theorem dX10_act_32 : decode cX10_act 32 = .ok (.iload 4, 2) := by decide +kernel
theorem dX10_act_34 : decode cX10_act 34 = .ok (.iconst 1, 1) := by decide +kernel
theorem dX10_act_35 : decode cX10_act 35 = .ok (.iconst 5, 1) := by decide +kernel
theorem dX10_act_36 : decode cX10_act 36 = .ok (.invokestatic 105, 3) := by decide +kernel
theorem dX10_act_39 : decode cX10_act 39 = .ok (.ifCond .ne 5, 3) := by decide +kernel
theorem dX10_act_42 : decode cX10_act 42 = .ok (.iconst 0, 1) := by decide +kernel
theorem dX10_act_43 : decode cX10_act 43 = .ok (.ireturn, 1) := by decide +kernel
theorem dX10_act_44 : decode cX10_act 44 = .ok (.aload_n 0, 1) := by decide +kernel
theorem dX10_act_45 : decode cX10_act 45 = .ok (.iload 4, 2) := by decide +kernel
theorem dX10_act_47 : decode cX10_act 47 = .ok (.putfield 371, 3) := by decide +kernel
theorem dX10_act_50 : decode cX10_act 50 = .ok (.aload_n 0, 1) := by decide +kernel
theorem dX10_act_51 : decode cX10_act 51 = .ok (.aload_n 0, 1) := by decide +kernel
theorem dX10_act_52 : decode cX10_act 52 = .ok (.getfield 87, 3) := by decide +kernel
theorem dX10_act_55 : decode cX10_act 55 = .ok (.iload_n 1, 1) := by decide +kernel
theorem dX10_act_56 : decode cX10_act 56 = .ok (.iaload, 1) := by decide +kernel
theorem dX10_act_57 : decode cX10_act 57 = .ok (.putfield 368, 3) := by decide +kernel
theorem dX10_act_60 : decode cX10_act 60 = .ok (.aload_n 0, 1) := by decide +kernel
theorem dX10_act_61 : decode cX10_act 61 = .ok (.aload_n 0, 1) := by decide +kernel
theorem dX10_act_62 : decode cX10_act 62 = .ok (.getfield 31, 3) := by decide +kernel
theorem dX10_act_65 : decode cX10_act 65 = .ok (.iconst 2, 1) := by decide +kernel
theorem dX10_act_66 : decode cX10_act 66 = .ok (.aload_n 0, 1) := by decide +kernel
theorem dX10_act_67 : decode cX10_act 67 = .ok (.getfield 368, 3) := by decide +kernel
theorem dX10_act_70 : decode cX10_act 70 = .ok (.imul, 1) := by decide +kernel
theorem dX10_act_71 : decode cX10_act 71 = .ok (.iconst 1, 1) := by decide +kernel
theorem dX10_act_72 : decode cX10_act 72 = .ok (.iadd, 1) := by decide +kernel
theorem dX10_act_73 : decode cX10_act 73 = .ok (.iaload, 1) := by decide +kernel
theorem dX10_act_74 : decode cX10_act 74 = .ok (.putfield 383, 3) := by decide +kernel
theorem dX10_act_77 : decode cX10_act 77 = .ok (.aload_n 0, 1) := by decide +kernel
theorem dX10_act_78 : decode cX10_act 78 = .ok (.iconst 0, 1) := by decide +kernel
theorem dX10_act_79 : decode cX10_act 79 = .ok (.putfield 389, 3) := by decide +kernel
theorem dX10_act_82 : decode cX10_act 82 = .ok (.iload_n 2, 1) := by decide +kernel
theorem dX10_act_83 : decode cX10_act 83 = .ok (.ifCond .ne 11, 3) := by decide +kernel
theorem dX10_act_86 : decode cX10_act 86 = .ok (.aload_n 0, 1) := by decide +kernel
theorem dX10_act_87 : decode cX10_act 87 = .ok (.iload_n 3, 1) := by decide +kernel
theorem dX10_act_88 : decode cX10_act 88 = .ok (.invokevirtual 377, 3) := by decide +kernel
theorem dX10_act_91 : decode cX10_act 91 = .ok (.goto 34, 3) := by decide +kernel
theorem dX10_act_94 : decode cX10_act 94 = .ok (.iload_n 2, 1) := by decide +kernel
theorem dX10_act_95 : decode cX10_act 95 = .ok (.iconst 1, 1) := by decide +kernel
theorem dX10_act_96 : decode cX10_act 96 = .ok (.if_icmp .ne 11, 3) := by decide +kernel
theorem dX10_act_99 : decode cX10_act 99 = .ok (.aload_n 0, 1) := by decide +kernel
theorem dX10_act_100 : decode cX10_act 100 = .ok (.iload_n 3, 1) := by decide +kernel
theorem dX10_act_101 : decode cX10_act 101 = .ok (.invokevirtual 395, 3) := by decide +kernel
theorem dX10_act_104 : decode cX10_act 104 = .ok (.goto 21, 3) := by decide +kernel
theorem dX10_act_107 : decode cX10_act 107 = .ok (.iload_n 2, 1) := by decide +kernel
theorem dX10_act_108 : decode cX10_act 108 = .ok (.iconst 2, 1) := by decide +kernel
theorem dX10_act_109 : decode cX10_act 109 = .ok (.if_icmp .ne 11, 3) := by decide +kernel
theorem dX10_act_112 : decode cX10_act 112 = .ok (.aload_n 0, 1) := by decide +kernel
theorem dX10_act_113 : decode cX10_act 113 = .ok (.iload_n 3, 1) := by decide +kernel
theorem dX10_act_114 : decode cX10_act 114 = .ok (.invokevirtual 401, 3) := by decide +kernel
theorem dX10_act_117 : decode cX10_act 117 = .ok (.goto 8, 3) := by decide +kernel
theorem dX10_act_120 : decode cX10_act 120 = .ok (.aload_n 0, 1) := by decide +kernel
theorem dX10_act_121 : decode cX10_act 121 = .ok (.iload_n 3, 1) := by decide +kernel
theorem dX10_act_122 : decode cX10_act 122 = .ok (.invokevirtual 404, 3) := by decide +kernel
theorem dX10_act_125 : decode cX10_act 125 = .ok (.istore 5, 2) := by decide +kernel
theorem dX10_act_127 : decode cX10_act 127 = .ok (.aload_n 0, 1) := by decide +kernel
theorem dX10_act_128 : decode cX10_act 128 = .ok (.getfield 389, 3) := by decide +kernel
theorem dX10_act_131 : decode cX10_act 131 = .ok (.ifCond .eq 8, 3) := by decide +kernel
theorem dX10_act_134 : decode cX10_act 134 = .ok (.bipush (-15), 2) := by decide +kernel
theorem dX10_act_136 : decode cX10_act 136 = .ok (.goto 5, 3) := by decide +kernel
theorem dX10_act_139 : decode cX10_act 139 = .ok (.iload 5, 2) := by decide +kernel
theorem dX10_act_141 : decode cX10_act 141 = .ok (.ireturn, 1) := by decide +kernel
theorem dX10_trace_0 : decode cX10_trace 0 = .ok (.iload_n 1, 1) := by decide +kernel
theorem dX10_trace_1 : decode cX10_trace 1 = .ok (.iconst 0, 1) := by decide +kernel
theorem dX10_trace_2 : decode cX10_trace 2 = .ok (.aload_n 0, 1) := by decide +kernel
theorem dX10_trace_3 : decode cX10_trace 3 = .ok (.getfield 362, 3) := by decide +kernel
theorem dX10_trace_6 : decode cX10_trace 6 = .ok (.iconst 1, 1) := by decide +kernel
theorem dX10_trace_7 : decode cX10_trace 7 = .ok (.isub, 1) := by decide +kernel
theorem dX10_trace_8 : decode cX10_trace 8 = .ok (.invokestatic 105, 3) := by decide +kernel
theorem dX10_trace_11 : decode cX10_trace 11 = .ok (.ifCond .eq 12, 3) := by decide +kernel
theorem dX10_trace_14 : decode cX10_trace 14 = .ok (.aload_n 0, 1) := by decide +kernel
theorem dX10_trace_15 : decode cX10_trace 15 = .ok (.getfield 93, 3) := by decide +kernel
theorem dX10_trace_18 : decode cX10_trace 18 = .ok (.iload_n 1, 1) := by decide +kernel
theorem dX10_trace_19 : decode cX10_trace 19 = .ok (.iaload, 1) := by decide +kernel
theorem dX10_trace_20 : decode cX10_trace 20 = .ok (.goto 5, 3) := by decide +kernel
theorem dX10_trace_23 : decode cX10_trace 23 = .ok (.bipush (-3), 2) := by decide +kernel
theorem dX10_trace_25 : decode cX10_trace 25 = .ok (.ireturn, 1) := by decide +kernel
theorem dX10_many_0 : decode cX10_many 0 = .ok (.iload_n 1, 1) := by decide +kernel
theorem dX10_many_1 : decode cX10_many 1 = .ok (.tableswitch 69 0 5 #[39, 44, 49, 54, 59, 64], 39) := by decide +kernel
theorem dX10_many_40 : decode cX10_many 40 = .ok (.aload_n 0, 1) := by decide +kernel
theorem dX10_many_41 : decode cX10_many 41 = .ok (.getfield 102, 3) := by decide +kernel
theorem dX10_many_44 : decode cX10_many 44 = .ok (.ireturn, 1) := by decide +kernel
theorem dX10_many_45 : decode cX10_many 45 = .ok (.aload_n 0, 1) := by decide +kernel
theorem dX10_many_46 : decode cX10_many 46 = .ok (.getfield 315, 3) := by decide +kernel
theorem dX10_many_49 : decode cX10_many 49 = .ok (.ireturn, 1) := by decide +kernel
theorem dX10_many_50 : decode cX10_many 50 = .ok (.aload_n 0, 1) := by decide +kernel
theorem dX10_many_51 : decode cX10_many 51 = .ok (.invokevirtual 309, 3) := by decide +kernel
theorem dX10_many_54 : decode cX10_many 54 = .ok (.ireturn, 1) := by decide +kernel
theorem dX10_many_55 : decode cX10_many 55 = .ok (.aload_n 0, 1) := by decide +kernel
theorem dX10_many_56 : decode cX10_many 56 = .ok (.getfield 223, 3) := by decide +kernel
theorem dX10_many_59 : decode cX10_many 59 = .ok (.ireturn, 1) := by decide +kernel
theorem dX10_many_60 : decode cX10_many 60 = .ok (.aload_n 0, 1) := by decide +kernel
theorem dX10_many_61 : decode cX10_many 61 = .ok (.getfield 113, 3) := by decide +kernel
theorem dX10_many_64 : decode cX10_many 64 = .ok (.ireturn, 1) := by decide +kernel
theorem dX10_many_65 : decode cX10_many 65 = .ok (.aload_n 0, 1) := by decide +kernel
theorem dX10_many_66 : decode cX10_many 66 = .ok (.getfield 362, 3) := by decide +kernel
theorem dX10_many_69 : decode cX10_many 69 = .ok (.ireturn, 1) := by decide +kernel
theorem dX10_many_70 : decode cX10_many 70 = .ok (.iconst (-1), 1) := by decide +kernel
theorem dX10_many_71 : decode cX10_many 71 = .ok (.ireturn, 1) := by decide +kernel
theorem dX10_move_0 : decode cX10_move 0 = .ok (.iconst 0, 1) := by decide +kernel
theorem dX10_move_1 : decode cX10_move 1 = .ok (.istore 4, 2) := by decide +kernel
theorem dX10_move_3 : decode cX10_move 3 = .ok (.iload 4, 2) := by decide +kernel
theorem dX10_move_5 : decode cX10_move 5 = .ok (.iload_n 2, 1) := by decide +kernel
theorem dX10_move_6 : decode cX10_move 6 = .ok (.if_icmp .ge 52, 3) := by decide +kernel
theorem dX10_move_9 : decode cX10_move 9 = .ok (.iload_n 3, 1) := by decide +kernel
theorem dX10_move_10 : decode cX10_move 10 = .ok (.ifCond .eq 19, 3) := by decide +kernel
theorem dX10_move_13 : decode cX10_move 13 = .ok (.aload_n 0, 1) := by decide +kernel
theorem dX10_move_14 : decode cX10_move 14 = .ok (.getfield 96, 3) := by decide +kernel
theorem dX10_move_17 : decode cX10_move 17 = .ok (.aload_n 0, 1) := by decide +kernel
theorem dX10_move_18 : decode cX10_move 18 = .ok (.getfield 407, 3) := by decide +kernel
theorem dX10_move_21 : decode cX10_move 21 = .ok (.aload_n 1, 1) := by decide +kernel
theorem dX10_move_22 : decode cX10_move 22 = .ok (.iload 4, 2) := by decide +kernel
theorem dX10_move_24 : decode cX10_move 24 = .ok (.iaload, 1) := by decide +kernel
theorem dX10_move_25 : decode cX10_move 25 = .ok (.iastore, 1) := by decide +kernel
theorem dX10_move_26 : decode cX10_move 26 = .ok (.goto 16, 3) := by decide +kernel
theorem dX10_move_29 : decode cX10_move 29 = .ok (.aload_n 1, 1) := by decide +kernel
theorem dX10_move_30 : decode cX10_move 30 = .ok (.iload 4, 2) := by decide +kernel
theorem dX10_move_32 : decode cX10_move 32 = .ok (.aload_n 0, 1) := by decide +kernel
theorem dX10_move_33 : decode cX10_move 33 = .ok (.getfield 96, 3) := by decide +kernel
theorem dX10_move_36 : decode cX10_move 36 = .ok (.aload_n 0, 1) := by decide +kernel
theorem dX10_move_37 : decode cX10_move 37 = .ok (.getfield 407, 3) := by decide +kernel
theorem dX10_move_40 : decode cX10_move 40 = .ok (.iaload, 1) := by decide +kernel
theorem dX10_move_41 : decode cX10_move 41 = .ok (.iastore, 1) := by decide +kernel
theorem dX10_move_42 : decode cX10_move 42 = .ok (.aload_n 0, 1) := by decide +kernel
theorem dX10_move_43 : decode cX10_move 43 = .ok (.dup, 1) := by decide +kernel
theorem dX10_move_44 : decode cX10_move 44 = .ok (.getfield 407, 3) := by decide +kernel
theorem dX10_move_47 : decode cX10_move 47 = .ok (.iconst 1, 1) := by decide +kernel
theorem dX10_move_48 : decode cX10_move 48 = .ok (.iadd, 1) := by decide +kernel
theorem dX10_move_49 : decode cX10_move 49 = .ok (.putfield 407, 3) := by decide +kernel
theorem dX10_move_52 : decode cX10_move 52 = .ok (.iinc 4 1, 3) := by decide +kernel
theorem dX10_move_55 : decode cX10_move 55 = .ok (.goto (-52), 3) := by decide +kernel
theorem dX10_move_58 : decode cX10_move 58 = .ok (.return_, 1) := by decide +kernel
theorem dX10_moveAll_0 : decode cX10_moveAll 0 = .ok (.aload_n 0, 1) := by decide +kernel
theorem dX10_moveAll_1 : decode cX10_moveAll 1 = .ok (.iconst 0, 1) := by decide +kernel
theorem dX10_moveAll_2 : decode cX10_moveAll 2 = .ok (.putfield 407, 3) := by decide +kernel
theorem dX10_moveAll_5 : decode cX10_moveAll 5 = .ok (.aload_n 0, 1) := by decide +kernel
theorem dX10_moveAll_6 : decode cX10_moveAll 6 = .ok (.getfield 99, 3) := by decide +kernel
theorem dX10_moveAll_9 : decode cX10_moveAll 9 = .ok (.iconst 0, 1) := by decide +kernel
theorem dX10_moveAll_10 : decode cX10_moveAll 10 = .ok (.aload_n 0, 1) := by decide +kernel
theorem dX10_moveAll_11 : decode cX10_moveAll 11 = .ok (.getfield 102, 3) := by decide +kernel
theorem dX10_moveAll_14 : decode cX10_moveAll 14 = .ok (.iastore, 1) := by decide +kernel
theorem dX10_moveAll_15 : decode cX10_moveAll 15 = .ok (.aload_n 0, 1) := by decide +kernel
theorem dX10_moveAll_16 : decode cX10_moveAll 16 = .ok (.getfield 99, 3) := by decide +kernel
theorem dX10_moveAll_19 : decode cX10_moveAll 19 = .ok (.iconst 1, 1) := by decide +kernel
theorem dX10_moveAll_20 : decode cX10_moveAll 20 = .ok (.aload_n 0, 1) := by decide +kernel
theorem dX10_moveAll_21 : decode cX10_moveAll 21 = .ok (.getfield 220, 3) := by decide +kernel
theorem dX10_moveAll_24 : decode cX10_moveAll 24 = .ok (.iastore, 1) := by decide +kernel
theorem dX10_moveAll_25 : decode cX10_moveAll 25 = .ok (.aload_n 0, 1) := by decide +kernel
theorem dX10_moveAll_26 : decode cX10_moveAll 26 = .ok (.getfield 99, 3) := by decide +kernel
theorem dX10_moveAll_29 : decode cX10_moveAll 29 = .ok (.iconst 2, 1) := by decide +kernel
theorem dX10_moveAll_30 : decode cX10_moveAll 30 = .ok (.aload_n 0, 1) := by decide +kernel
theorem dX10_moveAll_31 : decode cX10_moveAll 31 = .ok (.getfield 315, 3) := by decide +kernel
theorem dX10_moveAll_34 : decode cX10_moveAll 34 = .ok (.iastore, 1) := by decide +kernel
theorem dX10_moveAll_35 : decode cX10_moveAll 35 = .ok (.aload_n 0, 1) := by decide +kernel
theorem dX10_moveAll_36 : decode cX10_moveAll 36 = .ok (.getfield 99, 3) := by decide +kernel
theorem dX10_moveAll_39 : decode cX10_moveAll 39 = .ok (.iconst 3, 1) := by decide +kernel
theorem dX10_moveAll_40 : decode cX10_moveAll 40 = .ok (.aload_n 0, 1) := by decide +kernel
theorem dX10_moveAll_41 : decode cX10_moveAll 41 = .ok (.getfield 34, 3) := by decide +kernel
theorem dX10_moveAll_44 : decode cX10_moveAll 44 = .ok (.iastore, 1) := by decide +kernel
theorem dX10_moveAll_45 : decode cX10_moveAll 45 = .ok (.aload_n 0, 1) := by decide +kernel
theorem dX10_moveAll_46 : decode cX10_moveAll 46 = .ok (.aload_n 0, 1) := by decide +kernel
theorem dX10_moveAll_47 : decode cX10_moveAll 47 = .ok (.getfield 99, 3) := by decide +kernel
theorem dX10_moveAll_50 : decode cX10_moveAll 50 = .ok (.iconst 4, 1) := by decide +kernel
theorem dX10_moveAll_51 : decode cX10_moveAll 51 = .ok (.iload_n 1, 1) := by decide +kernel
theorem dX10_moveAll_52 : decode cX10_moveAll 52 = .ok (.invokevirtual 410, 3) := by decide +kernel
theorem dX10_moveAll_55 : decode cX10_moveAll 55 = .ok (.aload_n 0, 1) := by decide +kernel
theorem dX10_moveAll_56 : decode cX10_moveAll 56 = .ok (.aload_n 0, 1) := by decide +kernel
theorem dX10_moveAll_57 : decode cX10_moveAll 57 = .ok (.getfield 7, 3) := by decide +kernel
theorem dX10_moveAll_60 : decode cX10_moveAll 60 = .ok (.bipush 8, 2) := by decide +kernel
theorem dX10_moveAll_62 : decode cX10_moveAll 62 = .ok (.iload_n 1, 1) := by decide +kernel
theorem dX10_moveAll_63 : decode cX10_moveAll 63 = .ok (.invokevirtual 410, 3) := by decide +kernel
theorem dX10_moveAll_66 : decode cX10_moveAll 66 = .ok (.aload_n 0, 1) := by decide +kernel
theorem dX10_moveAll_67 : decode cX10_moveAll 67 = .ok (.aload_n 0, 1) := by decide +kernel
theorem dX10_moveAll_68 : decode cX10_moveAll 68 = .ok (.getfield 13, 3) := by decide +kernel
theorem dX10_moveAll_71 : decode cX10_moveAll 71 = .ok (.bipush 8, 2) := by decide +kernel
theorem dX10_moveAll_73 : decode cX10_moveAll 73 = .ok (.iload_n 1, 1) := by decide +kernel
theorem dX10_moveAll_74 : decode cX10_moveAll 74 = .ok (.invokevirtual 410, 3) := by decide +kernel
theorem dX10_moveAll_77 : decode cX10_moveAll 77 = .ok (.aload_n 0, 1) := by decide +kernel
theorem dX10_moveAll_78 : decode cX10_moveAll 78 = .ok (.aload_n 0, 1) := by decide +kernel
theorem dX10_moveAll_79 : decode cX10_moveAll 79 = .ok (.getfield 16, 3) := by decide +kernel
theorem dX10_moveAll_82 : decode cX10_moveAll 82 = .ok (.bipush 64, 2) := by decide +kernel
theorem dX10_moveAll_84 : decode cX10_moveAll 84 = .ok (.iload_n 1, 1) := by decide +kernel
theorem dX10_moveAll_85 : decode cX10_moveAll 85 = .ok (.invokevirtual 410, 3) := by decide +kernel
theorem dX10_moveAll_88 : decode cX10_moveAll 88 = .ok (.aload_n 0, 1) := by decide +kernel
theorem dX10_moveAll_89 : decode cX10_moveAll 89 = .ok (.aload_n 0, 1) := by decide +kernel
theorem dX10_moveAll_90 : decode cX10_moveAll 90 = .ok (.getfield 19, 3) := by decide +kernel
theorem dX10_moveAll_93 : decode cX10_moveAll 93 = .ok (.bipush 40, 2) := by decide +kernel
theorem dX10_moveAll_95 : decode cX10_moveAll 95 = .ok (.iload_n 1, 1) := by decide +kernel
theorem dX10_moveAll_96 : decode cX10_moveAll 96 = .ok (.invokevirtual 410, 3) := by decide +kernel
theorem dX10_moveAll_99 : decode cX10_moveAll 99 = .ok (.aload_n 0, 1) := by decide +kernel
theorem dX10_moveAll_100 : decode cX10_moveAll 100 = .ok (.aload_n 0, 1) := by decide +kernel
theorem dX10_moveAll_101 : decode cX10_moveAll 101 = .ok (.getfield 22, 3) := by decide +kernel
theorem dX10_moveAll_104 : decode cX10_moveAll 104 = .ok (.bipush 10, 2) := by decide +kernel
theorem dX10_moveAll_106 : decode cX10_moveAll 106 = .ok (.iload_n 1, 1) := by decide +kernel
theorem dX10_moveAll_107 : decode cX10_moveAll 107 = .ok (.invokevirtual 410, 3) := by decide +kernel
theorem dX10_moveAll_110 : decode cX10_moveAll 110 = .ok (.aload_n 0, 1) := by decide +kernel
theorem dX10_moveAll_111 : decode cX10_moveAll 111 = .ok (.aload_n 0, 1) := by decide +kernel
theorem dX10_moveAll_112 : decode cX10_moveAll 112 = .ok (.getfield 25, 3) := by decide +kernel
theorem dX10_moveAll_115 : decode cX10_moveAll 115 = .ok (.bipush 8, 2) := by decide +kernel
theorem dX10_moveAll_117 : decode cX10_moveAll 117 = .ok (.iload_n 1, 1) := by decide +kernel
theorem dX10_moveAll_118 : decode cX10_moveAll 118 = .ok (.invokevirtual 410, 3) := by decide +kernel
theorem dX10_moveAll_121 : decode cX10_moveAll 121 = .ok (.aload_n 0, 1) := by decide +kernel
theorem dX10_moveAll_122 : decode cX10_moveAll 122 = .ok (.aload_n 0, 1) := by decide +kernel
theorem dX10_moveAll_123 : decode cX10_moveAll 123 = .ok (.getfield 31, 3) := by decide +kernel
theorem dX10_moveAll_126 : decode cX10_moveAll 126 = .ok (.bipush 8, 2) := by decide +kernel
theorem dX10_moveAll_128 : decode cX10_moveAll 128 = .ok (.iload_n 1, 1) := by decide +kernel
theorem dX10_moveAll_129 : decode cX10_moveAll 129 = .ok (.invokevirtual 410, 3) := by decide +kernel
theorem dX10_moveAll_132 : decode cX10_moveAll 132 = .ok (.return_, 1) := by decide +kernel
theorem dX10_keep_0 : decode cX10_keep 0 = .ok (.aload_n 0, 1) := by decide +kernel
theorem dX10_keep_1 : decode cX10_keep 1 = .ok (.iconst 1, 1) := by decide +kernel
theorem dX10_keep_2 : decode cX10_keep 2 = .ok (.invokevirtual 414, 3) := by decide +kernel
theorem dX10_keep_5 : decode cX10_keep 5 = .ok (.aload_n 0, 1) := by decide +kernel
theorem dX10_keep_6 : decode cX10_keep 6 = .ok (.iconst 1, 1) := by decide +kernel
theorem dX10_keep_7 : decode cX10_keep 7 = .ok (.putfield 417, 3) := by decide +kernel
theorem dX10_keep_10 : decode cX10_keep 10 = .ok (.iconst 1, 1) := by decide +kernel
theorem dX10_keep_11 : decode cX10_keep 11 = .ok (.ireturn, 1) := by decide +kernel
theorem dX10_again_0 : decode cX10_again 0 = .ok (.aload_n 0, 1) := by decide +kernel
theorem dX10_again_1 : decode cX10_again 1 = .ok (.getfield 417, 3) := by decide +kernel
theorem dX10_again_4 : decode cX10_again 4 = .ok (.ifCond .ne 6, 3) := by decide +kernel
theorem dX10_again_7 : decode cX10_again 7 = .ok (.bipush (-3), 2) := by decide +kernel
theorem dX10_again_9 : decode cX10_again 9 = .ok (.ireturn, 1) := by decide +kernel
theorem dX10_again_10 : decode cX10_again 10 = .ok (.aload_n 0, 1) := by decide +kernel
theorem dX10_again_11 : decode cX10_again 11 = .ok (.iconst 0, 1) := by decide +kernel
theorem dX10_again_12 : decode cX10_again 12 = .ok (.invokevirtual 414, 3) := by decide +kernel
theorem dX10_again_15 : decode cX10_again 15 = .ok (.aload_n 0, 1) := by decide +kernel
theorem dX10_again_16 : decode cX10_again 16 = .ok (.aload_n 0, 1) := by decide +kernel
theorem dX10_again_17 : decode cX10_again 17 = .ok (.getfield 99, 3) := by decide +kernel
theorem dX10_again_20 : decode cX10_again 20 = .ok (.iconst 0, 1) := by decide +kernel
theorem dX10_again_21 : decode cX10_again 21 = .ok (.iaload, 1) := by decide +kernel
theorem dX10_again_22 : decode cX10_again 22 = .ok (.putfield 102, 3) := by decide +kernel
theorem dX10_again_25 : decode cX10_again 25 = .ok (.aload_n 0, 1) := by decide +kernel
theorem dX10_again_26 : decode cX10_again 26 = .ok (.aload_n 0, 1) := by decide +kernel
theorem dX10_again_27 : decode cX10_again 27 = .ok (.getfield 99, 3) := by decide +kernel
theorem dX10_again_30 : decode cX10_again 30 = .ok (.iconst 1, 1) := by decide +kernel
theorem dX10_again_31 : decode cX10_again 31 = .ok (.iaload, 1) := by decide +kernel
theorem dX10_again_32 : decode cX10_again 32 = .ok (.putfield 220, 3) := by decide +kernel
theorem dX10_again_35 : decode cX10_again 35 = .ok (.aload_n 0, 1) := by decide +kernel
theorem dX10_again_36 : decode cX10_again 36 = .ok (.aload_n 0, 1) := by decide +kernel
theorem dX10_again_37 : decode cX10_again 37 = .ok (.getfield 99, 3) := by decide +kernel
theorem dX10_again_40 : decode cX10_again 40 = .ok (.iconst 2, 1) := by decide +kernel
theorem dX10_again_41 : decode cX10_again 41 = .ok (.iaload, 1) := by decide +kernel
theorem dX10_again_42 : decode cX10_again 42 = .ok (.putfield 315, 3) := by decide +kernel
theorem dX10_again_45 : decode cX10_again 45 = .ok (.aload_n 0, 1) := by decide +kernel
theorem dX10_again_46 : decode cX10_again 46 = .ok (.aload_n 0, 1) := by decide +kernel
theorem dX10_again_47 : decode cX10_again 47 = .ok (.getfield 99, 3) := by decide +kernel
theorem dX10_again_50 : decode cX10_again 50 = .ok (.iconst 3, 1) := by decide +kernel
theorem dX10_again_51 : decode cX10_again 51 = .ok (.iaload, 1) := by decide +kernel
theorem dX10_again_52 : decode cX10_again 52 = .ok (.putfield 34, 3) := by decide +kernel
theorem dX10_again_55 : decode cX10_again 55 = .ok (.aload_n 0, 1) := by decide +kernel
theorem dX10_again_56 : decode cX10_again 56 = .ok (.getfield 102, 3) := by decide +kernel
theorem dX10_again_59 : decode cX10_again 59 = .ok (.ireturn, 1) := by decide +kernel
def fM_ahead_L44 (l1 : Int32) (l2 : Int32) : Nat → MS → Int32 → Int32 → Option (Int32 × MS)
  | 0, _, _, _ => none
  | n + 1, z, l3, l4 => if l4 < 0 then Option.bind (fM_givesPosts z l1 l2) (fun zc127 => some (l3, zc127)) else (if l4 < 0 ∨ 3 ≤ l4.toNatClampNeg then none else if l4 < 0 ∨ 3 ≤ l4.toNatClampNeg then none else if l4 < 0 ∨ 3 ≤ l4.toNatClampNeg then none else if (gI (pI z 72 l4.toNatClampNeg ((gI z 72 l4.toNatClampNeg) + 1)) 72 l4.toNatClampNeg) = 64 then fM_ahead_L44 l1 l2 n (pI z 72 l4.toNatClampNeg ((gI z 72 l4.toNatClampNeg) + 1)) l3 (l4 + (-1)) else (if l4 < 0 ∨ 3 ≤ l4.toNatClampNeg then none else ob2 (fM_sits (pI z 72 l4.toNatClampNeg ((gI z 72 l4.toNatClampNeg) + 1)) (l1 + l4) (gI (pI z 72 l4.toNatClampNeg ((gI z 72 l4.toNatClampNeg) + 1)) 72 l4.toNatClampNeg)) (fun w90 zc90 => if w90 = 0 then fM_ahead_L44 l1 l2 n zc90 l3 l4 else (if l4 = (l2 - 1) then fM_ahead_L44 l1 l2 n zc90 (l3 + 1) l4 else (if (l4 + 1) < 0 ∨ 3 ≤ (l4 + 1).toNatClampNeg then none else fM_ahead_L44 l1 l2 n (pI zc90 72 (l4 + 1).toNatClampNeg (-1)) l3 (l4 + 1))))))
def fM_ahead (z : MS) (a0 : Int32) (a1 : Int32) : Option (Int32 × MS) :=
  if (fM_isDay a0) = 0 then some ((-1), z) else (if (fM_in a1 1 3) = 0 then some ((-1), z) else (if (a0 + a1) ≤ 10 then Option.bind (fM_keepsPosts z a0 a1) (fun zc29 => fM_ahead_L44 a0 a1 LF (pI zc29 72 0 (-1)) 0 0) else some ((-1), z)))
set_option maxRecDepth 4000 in
theorem cM_ahead (l : Launch) {z : MS} {a0 : Int32} {a1 : Int32} {r : Int32} {z1 : MS} (h : fM_ahead z a0 a1 = some (r, z1)) : CT l yX10_ahead cX10_ahead 5 (some .int) 7 166 (fun ad sd => [.ref (ad 56), .int a0, .int a1]) z (some (.int r)) z1 := by
  rw [fM_ahead] at h
  refine u_start RX10 rfl (by decide) (fun _ _ => Nat.le_of_ble_eq_true rfl) (fun p e s m args below meth c R D ad cs sd A Q ls X hP hS hl hr hret => ?_)
  have hl : lv_has ls 5 [(0, .ref (ad 56)), (1, .int a0), (2, .int a1)] := hl
  refine u_iload_n X hl dX10_ahead_0 1 rfl ?_
  refine u_callSi X hP hS hl dX10_ahead_1 (cM_isDay l z a0) cw_X10_233 rfl rfl rfl rfl ⟨rfl, rfl⟩ (fun H locs hP hS => ?_)
  refine u_if_eq 24 X dX10_ahead_4 rfl (fun hc => ?_) (fun hc => ?_)
  · rw [if_pos hc] at h
    refine u_iconst (v := (-1)) X dX10_ahead_24 rfl ?_
    exact u_iretM X hr hret h hP hS dX10_ahead_25
  · rw [if_neg hc] at h
    refine u_iload_n X hl dX10_ahead_7 2 rfl ?_
    refine u_iconst (v := 1) X dX10_ahead_8 rfl ?_
    refine u_iconst (v := 3) X dX10_ahead_9 rfl ?_
    refine u_callSi X hP hS hl dX10_ahead_10 (cM_in l z a1 1 3) cw_X10_105 rfl rfl rfl rfl ⟨rfl, rfl⟩ (fun H locs hP hS => ?_)
    refine u_if_eq 24 X dX10_ahead_13 rfl (fun hc => ?_) (fun hc => ?_)
    · rw [if_pos hc] at h
      refine u_iconst (v := (-1)) X dX10_ahead_24 rfl ?_
      exact u_iretM X hr hret h hP hS dX10_ahead_25
    · rw [if_neg hc] at h
      refine u_iload_n X hl dX10_ahead_16 1 rfl ?_
      refine u_iload_n X hl dX10_ahead_17 2 rfl ?_
      refine u_iadd X dX10_ahead_18 ?_
      refine u_bipush (v := 10) X dX10_ahead_19 rfl ?_
      refine u_icmp_le 26 X dX10_ahead_21 rfl (fun hc => ?_) (fun hc => ?_)
      · rw [if_pos hc] at h
        refine u_aload_n X hl dX10_ahead_26 0 rfl ?_
        refine u_iload_n X hl dX10_ahead_27 1 rfl ?_
        refine u_iload_n X hl dX10_ahead_28 2 rfl ?_
        obtain ⟨zc29, hc29, h⟩ := ob_inv h
        refine u_callVv X hP hS hl dX10_ahead_29 (cM_keepsPosts l hc29) cw_X10_293 io_56 rfl rfl rfl rfl ⟨rfl, rfl⟩ (fun H locs hP hS => ?_)
        refine u_iconst (v := 0) X dX10_ahead_32 rfl ?_
        refine u_istore_n [(3, .int 0), (0, .ref (ad 56)), (1, .int a0), (2, .int a1)] X hl dX10_ahead_33 (Nat.le_of_ble_eq_true rfl) rfl (fun ls hl => ?_)
        refine u_iconst (v := 0) X dX10_ahead_34 rfl ?_
        refine u_istore [(4, .int 0), (3, .int 0), (0, .ref (ad 56)), (1, .int a0), (2, .int a1)] X hl dX10_ahead_35 (Nat.le_of_ble_eq_true rfl) rfl (fun ls hl => ?_)
        refine u_aload_n X hl dX10_ahead_37 2 rfl ?_
        refine gf_X10_59_56 X hP dX10_ahead_38 ?_
        refine u_iconst (v := 0) X dX10_ahead_41 rfl ?_
        refine u_iconst (v := (-1)) X dX10_ahead_42 rfl ?_
        refine as_72 (w := 0) X hP hS rfl (by decide) dX10_ahead_43 (fun H locs hP hS => ?_)
        have L44 : ∀ (n : Nat) (H : Heap) (locs : List Loc) (ls : Array Slot) (z_44 : MS) (l3_44 : Int32) (l4_44 : Int32), lv_has ls 5 [(0, .ref (ad 56)), (1, .int a0), (2, .int a1), (3, .int l3_44), (4, .int l4_44)] → va_P D clss (wld cs ad z_44) H → va_S A s.heap H locs → fM_ahead_L44 a0 a1 n z_44 l3_44 l4_44 = some (r, z1) → W p l e R s m args below meth c H locs 0 0 Q (F0 m 44 ls []) := by
          intro n
          induction n with
          | zero =>
            intro H locs ls z_44 l3_44 l4_44 hl hP hS h
            rw [fM_ahead_L44] at h
            cases h
          | succ n44 ih44 =>
            intro H locs ls z_44 l3_44 l4_44 hl hP hS h
            rw [fM_ahead_L44] at h
            refine u_iload X hl dX10_ahead_44 4 rfl ?_
            refine u_if_lt 124 X dX10_ahead_46 rfl (fun hc => ?_) (fun hc => ?_)
            · rw [if_pos hc] at h
              refine u_aload_n X hl dX10_ahead_124 0 rfl ?_
              refine u_iload_n X hl dX10_ahead_125 1 rfl ?_
              refine u_iload_n X hl dX10_ahead_126 2 rfl ?_
              obtain ⟨zc127, hc127, h⟩ := ob_inv h
              refine u_callVv X hP hS hl dX10_ahead_127 (cM_givesPosts l hc127) cw_X10_300 io_56 rfl rfl rfl rfl ⟨rfl, rfl⟩ (fun H locs hP hS => ?_)
              refine u_iload_n X hl dX10_ahead_130 3 rfl ?_
              exact u_iretM X hr hret h hP hS dX10_ahead_131
            · rw [if_neg hc] at h
              refine u_aload_n X hl dX10_ahead_49 0 rfl ?_
              refine gf_X10_59_56 X hP dX10_ahead_50 ?_
              refine u_iload X hl dX10_ahead_53 4 rfl ?_
              refine u_dup2 X rfl rfl dX10_ahead_55 ?_
              obtain ⟨hin, h⟩ := ifn_inv h
              refine ld_72 X hP rfl hin dX10_ahead_56 ?_
              refine u_iconst (v := 1) X dX10_ahead_57 rfl ?_
              refine u_iadd X dX10_ahead_58 ?_
              obtain ⟨hin, h⟩ := ifn_inv h
              refine as_72 X hP hS rfl hin dX10_ahead_59 (fun H locs hP hS => ?_)
              refine u_aload_n X hl dX10_ahead_60 0 rfl ?_
              refine gf_X10_59_56 X hP dX10_ahead_61 ?_
              refine u_iload X hl dX10_ahead_64 4 rfl ?_
              obtain ⟨hin, h⟩ := ifn_inv h
              refine ld_72 X hP rfl hin dX10_ahead_66 ?_
              refine u_bipush (v := 64) X dX10_ahead_67 rfl ?_
              refine u_icmp_ne 78 X dX10_ahead_69 rfl (fun hc => ?_) (fun hc => ?_)
              · rw [if_neg hc] at h
                refine u_aload_n X hl dX10_ahead_78 0 rfl ?_
                refine u_iload_n X hl dX10_ahead_79 1 rfl ?_
                refine u_iload X hl dX10_ahead_80 4 rfl ?_
                refine u_iadd X dX10_ahead_82 ?_
                refine u_aload_n X hl dX10_ahead_83 0 rfl ?_
                refine gf_X10_59_56 X hP dX10_ahead_84 ?_
                refine u_iload X hl dX10_ahead_87 4 rfl ?_
                obtain ⟨hin, h⟩ := ifn_inv h
                refine ld_72 X hP rfl hin dX10_ahead_89 ?_
                obtain ⟨w90, zc90, hc90, h⟩ := ob2_inv h
                refine u_callVi X hP hS hl dX10_ahead_90 (cM_sits l hc90) cw_X10_303 io_56 rfl rfl rfl rfl ⟨rfl, rfl⟩ (fun H locs hP hS => ?_)
                refine u_if_eq 44 X dX10_ahead_93 rfl (fun hc => ?_) (fun hc => ?_)
                · rw [if_pos hc] at h
                  exact ih44 _ _ _ _ _ _ hl hP hS h
                · rw [if_neg hc] at h
                  refine u_iload X hl dX10_ahead_96 4 rfl ?_
                  refine u_iload_n X hl dX10_ahead_98 2 rfl ?_
                  refine u_iconst (v := 1) X dX10_ahead_99 rfl ?_
                  refine u_isub X dX10_ahead_100 ?_
                  refine u_icmp_ne 110 X dX10_ahead_101 rfl (fun hc => ?_) (fun hc => ?_)
                  · rw [if_neg hc] at h
                    refine u_iinc [(4, .int (l4_44 + 1)), (0, .ref (ad 56)), (1, .int a0), (2, .int a1), (3, .int l3_44)] X hl dX10_ahead_110 4 rfl rfl (Nat.le_of_ble_eq_true rfl) rfl (fun ls hl => ?_)
                    refine u_aload_n X hl dX10_ahead_113 1 rfl ?_
                    refine gf_X10_59_56 X hP dX10_ahead_114 ?_
                    refine u_iload X hl dX10_ahead_117 0 rfl ?_
                    refine u_iconst (v := (-1)) X dX10_ahead_119 rfl ?_
                    obtain ⟨hin, h⟩ := ifn_inv h
                    refine as_72 X hP hS rfl hin dX10_ahead_120 (fun H locs hP hS => ?_)
                    refine u_goto 44 X dX10_ahead_121 rfl ?_
                    exact ih44 _ _ _ _ _ _ (lv_sub hl [1, 2, 3, 4, 0] rfl) hP hS h
                  · rw [if_pos hc] at h
                    refine u_iinc [(3, .int (l3_44 + 1)), (0, .ref (ad 56)), (1, .int a0), (2, .int a1), (4, .int l4_44)] X hl dX10_ahead_104 3 rfl rfl (Nat.le_of_ble_eq_true rfl) rfl (fun ls hl => ?_)
                    refine u_goto 44 X dX10_ahead_107 rfl ?_
                    exact ih44 _ _ _ _ _ _ (lv_sub hl [1, 2, 3, 0, 4] rfl) hP hS h
              · rw [if_pos hc] at h
                refine u_iinc [(4, .int (l4_44 + (-1))), (0, .ref (ad 56)), (1, .int a0), (2, .int a1), (3, .int l3_44)] X hl dX10_ahead_72 4 rfl rfl (Nat.le_of_ble_eq_true rfl) rfl (fun ls hl => ?_)
                refine u_goto 44 X dX10_ahead_75 rfl ?_
                exact ih44 _ _ _ _ _ _ (lv_sub hl [1, 2, 3, 4, 0] rfl) hP hS h
        exact L44 LF _ _ _ _ _ _ (lv_sub hl [2, 3, 4, 1, 0] rfl) hP hS h
      · rw [if_neg hc] at h
        refine u_iconst (v := (-1)) X dX10_ahead_24 rfl ?_
        exact u_iretM X hr hret h hP hS dX10_ahead_25
def fM_satOn_L5 (z : MS) (l1 : Int32) (l2 : Int32) : Nat → Int32 → Int32 → Option Int32
  | 0, _, _ => none
  | n + 1, l3, l4 => if 10 ≤ l4 then some l3 else Option.bind (fM_twoOn z l4) (fun w16 => if w16 = (fM_pair l1 l2) then fM_satOn_L5 z l1 l2 n (l3 ||| ((1 : Int32) <<< (l4 &&& 31))) (l4 + 1) else fM_satOn_L5 z l1 l2 n (l3 ||| 0) (l4 + 1))
def fM_satOn (z : MS) (a0 : Int32) (a1 : Int32) : Option Int32 :=
  fM_satOn_L5 z a0 a1 LF 0 0
set_option maxRecDepth 4000 in
theorem cM_satOn (l : Launch) {z : MS} {a0 : Int32} {a1 : Int32} {r : Int32} (h : fM_satOn z a0 a1 = some r) : CT l yX10_satOn cX10_satOn 5 (some .int) 1 23 (fun ad sd => [.ref (ad 56), .int a0, .int a1]) z (some (.int r)) z := by
  rw [fM_satOn] at h
  refine u_start RX10 rfl (by decide) (fun _ _ => Nat.le_of_ble_eq_true rfl) (fun p e s m args below meth c R D ad cs sd A Q ls X hP hS hl hr hret => ?_)
  have hl : lv_has ls 5 [(0, .ref (ad 56)), (1, .int a0), (2, .int a1)] := hl
  refine u_iconst (v := 0) X dX10_satOn_0 rfl ?_
  refine u_istore_n [(3, .int 0), (0, .ref (ad 56)), (1, .int a0), (2, .int a1)] X hl dX10_satOn_1 (Nat.le_of_ble_eq_true rfl) rfl (fun ls hl => ?_)
  refine u_iconst (v := 0) X dX10_satOn_2 rfl ?_
  refine u_istore [(4, .int 0), (3, .int 0), (0, .ref (ad 56)), (1, .int a0), (2, .int a1)] X hl dX10_satOn_3 (Nat.le_of_ble_eq_true rfl) rfl (fun ls hl => ?_)
  have L5 : ∀ (n : Nat) (H : Heap) (locs : List Loc) (ls : Array Slot) (l3_5 : Int32) (l4_5 : Int32), lv_has ls 5 [(0, .ref (ad 56)), (1, .int a0), (2, .int a1), (3, .int l3_5), (4, .int l4_5)] → va_P D clss (wld cs ad z) H → va_S A s.heap H locs → fM_satOn_L5 z a0 a1 n l3_5 l4_5 = some r → W p l e R s m args below meth c H locs 0 0 Q (F0 m 5 ls []) := by
    intro n
    induction n with
    | zero =>
      intro H locs ls l3_5 l4_5 hl hP hS h
      rw [fM_satOn_L5] at h
      cases h
    | succ n5 ih5 =>
      intro H locs ls l3_5 l4_5 hl hP hS h
      rw [fM_satOn_L5] at h
      refine u_iload X hl dX10_satOn_5 4 rfl ?_
      refine u_bipush (v := 10) X dX10_satOn_7 rfl ?_
      refine u_icmp_ge 43 X dX10_satOn_9 rfl (fun hc => ?_) (fun hc => ?_)
      · rw [if_pos hc] at h
        refine u_iload_n X hl dX10_satOn_43 3 rfl ?_
        exact u_iretP X hr hret h hP hS dX10_satOn_44
      · rw [if_neg hc] at h
        refine u_iload_n X hl dX10_satOn_12 3 rfl ?_
        refine u_aload_n X hl dX10_satOn_13 0 rfl ?_
        refine u_iload X hl dX10_satOn_14 4 rfl ?_
        obtain ⟨w16, hc16, h⟩ := ob_inv h
        refine u_callVi X hP hS hl dX10_satOn_16 (cM_twoOn l hc16) cw_X10_248 io_56 rfl rfl rfl rfl ⟨rfl, rfl⟩ (fun H locs hP hS => ?_)
        refine u_iload_n X hl dX10_satOn_19 1 rfl ?_
        refine u_iload_n X hl dX10_satOn_20 2 rfl ?_
        refine u_callSi X hP hS hl dX10_satOn_21 (cM_pair l z a0 a1) cw_X10_251 rfl rfl rfl rfl ⟨rfl, rfl⟩ (fun H locs hP hS => ?_)
        refine u_icmp_ne 34 X dX10_satOn_24 rfl (fun hc => ?_) (fun hc => ?_)
        · rw [if_neg hc] at h
          refine u_iconst (v := 0) X dX10_satOn_34 rfl ?_
          refine u_ior X dX10_satOn_35 ?_
          refine u_istore_n [(3, .int (l3_5 ||| 0)), (0, .ref (ad 56)), (1, .int a0), (2, .int a1), (4, .int l4_5)] X hl dX10_satOn_36 (Nat.le_of_ble_eq_true rfl) rfl (fun ls hl => ?_)
          refine u_iinc [(4, .int (l4_5 + 1)), (3, .int (l3_5 ||| 0)), (0, .ref (ad 56)), (1, .int a0), (2, .int a1)] X hl dX10_satOn_37 4 rfl rfl (Nat.le_of_ble_eq_true rfl) rfl (fun ls hl => ?_)
          refine u_goto 5 X dX10_satOn_40 rfl ?_
          exact ih5 _ _ _ _ _ (lv_sub hl [2, 3, 4, 1, 0] rfl) hP hS h
        · rw [if_pos hc] at h
          refine u_iconst (v := 1) X dX10_satOn_27 rfl ?_
          refine u_iload X hl dX10_satOn_28 4 rfl ?_
          refine u_ishl X dX10_satOn_30 ?_
          refine u_goto 35 X dX10_satOn_31 rfl ?_
          refine u_ior X dX10_satOn_35 ?_
          refine u_istore_n [(3, .int (l3_5 ||| ((1 : Int32) <<< (l4_5 &&& 31)))), (0, .ref (ad 56)), (1, .int a0), (2, .int a1), (4, .int l4_5)] X hl dX10_satOn_36 (Nat.le_of_ble_eq_true rfl) rfl (fun ls hl => ?_)
          refine u_iinc [(4, .int (l4_5 + 1)), (3, .int (l3_5 ||| ((1 : Int32) <<< (l4_5 &&& 31)))), (0, .ref (ad 56)), (1, .int a0), (2, .int a1)] X hl dX10_satOn_37 4 rfl rfl (Nat.le_of_ble_eq_true rfl) rfl (fun ls hl => ?_)
          refine u_goto 5 X dX10_satOn_40 rfl ?_
          exact ih5 _ _ _ _ _ (lv_sub hl [2, 3, 4, 1, 0] rfl) hP hS h
  exact L5 LF _ _ _ _ _ (lv_sub hl [2, 3, 4, 1, 0] rfl) hP hS h
def fM_sat (z : MS) (a0 : Int32) (a1 : Int32) : Option Int32 :=
  if (fM_areTwo z a0 a1) = 0 then some (-1) else Option.bind (fM_satOn z a0 a1) (fun w12 => some w12)
set_option maxRecDepth 4000 in
theorem cM_sat (l : Launch) {z : MS} {a0 : Int32} {a1 : Int32} {r : Int32} (h : fM_sat z a0 a1 = some r) : CT l yX10_sat cX10_sat 3 (some .int) 3 65 (fun ad sd => [.ref (ad 56), .int a0, .int a1]) z (some (.int r)) z := by
  rw [fM_sat] at h
  refine u_start RX10 rfl (by decide) (fun _ _ => Nat.le_of_ble_eq_true rfl) (fun p e s m args below meth c R D ad cs sd A Q ls X hP hS hl hr hret => ?_)
  have hl : lv_has ls 3 [(0, .ref (ad 56)), (1, .int a0), (2, .int a1)] := hl
  refine u_aload_n X hl dX10_sat_0 0 rfl ?_
  refine u_iload_n X hl dX10_sat_1 1 rfl ?_
  refine u_iload_n X hl dX10_sat_2 2 rfl ?_
  refine u_callVi X hP hS hl dX10_sat_3 (cM_areTwo l z a0 a1) cw_X10_226 io_56 rfl rfl rfl rfl ⟨rfl, rfl⟩ (fun H locs hP hS => ?_)
  refine u_if_eq 18 X dX10_sat_6 rfl (fun hc => ?_) (fun hc => ?_)
  · rw [if_pos hc] at h
    refine u_iconst (v := (-1)) X dX10_sat_18 rfl ?_
    exact u_iretP X hr hret h hP hS dX10_sat_19
  · rw [if_neg hc] at h
    refine u_aload_n X hl dX10_sat_9 0 rfl ?_
    refine u_iload_n X hl dX10_sat_10 1 rfl ?_
    refine u_iload_n X hl dX10_sat_11 2 rfl ?_
    obtain ⟨w12, hc12, h⟩ := ob_inv h
    refine u_callVi X hP hS hl dX10_sat_12 (cM_satOn l hc12) cw_X10_306 io_56 rfl rfl rfl rfl ⟨rfl, rfl⟩ (fun H locs hP hS => ?_)
    refine u_goto 19 X dX10_sat_15 rfl ?_
    exact u_iretP X hr hret h hP hS dX10_sat_19
def fM_sitting_L4 (z : MS) : Nat → Int32 → Int32 → Option Int32
  | 0, _, _ => none
  | n + 1, l1, l2 => if 10 ≤ l2 then some l1 else Option.bind (fM_twoOn z l2) (fun w13 => if w13 < 0 then fM_sitting_L4 z n (l1 + 0) (l2 + 1) else fM_sitting_L4 z n (l1 + 1) (l2 + 1))
def fM_sitting (z : MS) : Option Int32 :=
  fM_sitting_L4 z LF 0 0
set_option maxRecDepth 4000 in
theorem cM_sitting (l : Launch) {z : MS} {r : Int32} (h : fM_sitting z = some r) : CT l yX10_sitting cX10_sitting 3 (some .int) 1 23 (fun ad sd => [.ref (ad 56)]) z (some (.int r)) z := by
  rw [fM_sitting] at h
  refine u_start RX10 rfl (by decide) (fun _ _ => Nat.le_of_ble_eq_true rfl) (fun p e s m args below meth c R D ad cs sd A Q ls X hP hS hl hr hret => ?_)
  have hl : lv_has ls 3 [(0, .ref (ad 56))] := hl
  refine u_iconst (v := 0) X dX10_sitting_0 rfl ?_
  refine u_istore_n [(1, .int 0), (0, .ref (ad 56))] X hl dX10_sitting_1 (Nat.le_of_ble_eq_true rfl) rfl (fun ls hl => ?_)
  refine u_iconst (v := 0) X dX10_sitting_2 rfl ?_
  refine u_istore_n [(2, .int 0), (1, .int 0), (0, .ref (ad 56))] X hl dX10_sitting_3 (Nat.le_of_ble_eq_true rfl) rfl (fun ls hl => ?_)
  have L4 : ∀ (n : Nat) (H : Heap) (locs : List Loc) (ls : Array Slot) (l1_4 : Int32) (l2_4 : Int32), lv_has ls 3 [(0, .ref (ad 56)), (1, .int l1_4), (2, .int l2_4)] → va_P D clss (wld cs ad z) H → va_S A s.heap H locs → fM_sitting_L4 z n l1_4 l2_4 = some r → W p l e R s m args below meth c H locs 0 0 Q (F0 m 4 ls []) := by
    intro n
    induction n with
    | zero =>
      intro H locs ls l1_4 l2_4 hl hP hS h
      rw [fM_sitting_L4] at h
      cases h
    | succ n4 ih4 =>
      intro H locs ls l1_4 l2_4 hl hP hS h
      rw [fM_sitting_L4] at h
      refine u_iload_n X hl dX10_sitting_4 2 rfl ?_
      refine u_bipush (v := 10) X dX10_sitting_5 rfl ?_
      refine u_icmp_ge 32 X dX10_sitting_7 rfl (fun hc => ?_) (fun hc => ?_)
      · rw [if_pos hc] at h
        refine u_iload_n X hl dX10_sitting_32 1 rfl ?_
        exact u_iretP X hr hret h hP hS dX10_sitting_33
      · rw [if_neg hc] at h
        refine u_iload_n X hl dX10_sitting_10 1 rfl ?_
        refine u_aload_n X hl dX10_sitting_11 0 rfl ?_
        refine u_iload_n X hl dX10_sitting_12 2 rfl ?_
        obtain ⟨w13, hc13, h⟩ := ob_inv h
        refine u_callVi X hP hS hl dX10_sitting_13 (cM_twoOn l hc13) cw_X10_248 io_56 rfl rfl rfl rfl ⟨rfl, rfl⟩ (fun H locs hP hS => ?_)
        refine u_if_lt 23 X dX10_sitting_16 rfl (fun hc => ?_) (fun hc => ?_)
        · rw [if_pos hc] at h
          refine u_iconst (v := 0) X dX10_sitting_23 rfl ?_
          refine u_iadd X dX10_sitting_24 ?_
          refine u_istore_n [(1, .int (l1_4 + 0)), (0, .ref (ad 56)), (2, .int l2_4)] X hl dX10_sitting_25 (Nat.le_of_ble_eq_true rfl) rfl (fun ls hl => ?_)
          refine u_iinc [(2, .int (l2_4 + 1)), (1, .int (l1_4 + 0)), (0, .ref (ad 56))] X hl dX10_sitting_26 2 rfl rfl (Nat.le_of_ble_eq_true rfl) rfl (fun ls hl => ?_)
          refine u_goto 4 X dX10_sitting_29 rfl ?_
          exact ih4 _ _ _ _ _ (lv_sub hl [2, 1, 0] rfl) hP hS h
        · rw [if_neg hc] at h
          refine u_iconst (v := 1) X dX10_sitting_19 rfl ?_
          refine u_goto 24 X dX10_sitting_20 rfl ?_
          refine u_iadd X dX10_sitting_24 ?_
          refine u_istore_n [(1, .int (l1_4 + 1)), (0, .ref (ad 56)), (2, .int l2_4)] X hl dX10_sitting_25 (Nat.le_of_ble_eq_true rfl) rfl (fun ls hl => ?_)
          refine u_iinc [(2, .int (l2_4 + 1)), (1, .int (l1_4 + 1)), (0, .ref (ad 56))] X hl dX10_sitting_26 2 rfl rfl (Nat.le_of_ble_eq_true rfl) rfl (fun ls hl => ?_)
          refine u_goto 4 X dX10_sitting_29 rfl ?_
          exact ih4 _ _ _ _ _ (lv_sub hl [2, 1, 0] rfl) hP hS h
  exact L4 LF _ _ _ _ _ (lv_sub hl [2, 1, 0] rfl) hP hS h
def fM_ones_L4 : Nat → Int32 → Int32 → Option Int32
  | 0, _, _ => none
  | n + 1, l1, l2 => if l2 = 0 then some l1 else fM_ones_L4 n (l1 + 1) (l2 &&& (l2 - 1))
def fM_ones (a0 : Int32) : Option Int32 :=
  fM_ones_L4 LF 0 a0
set_option maxRecDepth 4000 in
theorem cM_ones (l : Launch) (z : MS) {a0 : Int32} {r : Int32} (h : fM_ones a0 = some r) : CT l yX10_ones cX10_ones 3 (some .int) 0 0 (fun ad sd => [.int a0]) z (some (.int r)) z := by
  rw [fM_ones] at h
  refine u_start RX10 rfl (by decide) (fun _ _ => Nat.le_of_ble_eq_true rfl) (fun p e s m args below meth c R D ad cs sd A Q ls X hP hS hl hr hret => ?_)
  have hl : lv_has ls 3 [(0, .int a0)] := hl
  refine u_iconst (v := 0) X dX10_ones_0 rfl ?_
  refine u_istore_n [(1, .int 0), (0, .int a0)] X hl dX10_ones_1 (Nat.le_of_ble_eq_true rfl) rfl (fun ls hl => ?_)
  refine u_iload_n X hl dX10_ones_2 1 rfl ?_
  refine u_istore_n [(2, .int a0), (1, .int 0), (0, .int a0)] X hl dX10_ones_3 (Nat.le_of_ble_eq_true rfl) rfl (fun ls hl => ?_)
  have L4 : ∀ (n : Nat) (H : Heap) (locs : List Loc) (ls : Array Slot) (l1_4 : Int32) (l2_4 : Int32), lv_has ls 3 [(1, .int l1_4), (2, .int l2_4)] → va_P D clss (wld cs ad z) H → va_S A s.heap H locs → fM_ones_L4 n l1_4 l2_4 = some r → W p l e R s m args below meth c H locs 0 0 Q (F0 m 4 ls []) := by
    intro n
    induction n with
    | zero =>
      intro H locs ls l1_4 l2_4 hl hP hS h
      rw [fM_ones_L4] at h
      cases h
    | succ n4 ih4 =>
      intro H locs ls l1_4 l2_4 hl hP hS h
      rw [fM_ones_L4] at h
      refine u_iload_n X hl dX10_ones_4 1 rfl ?_
      refine u_if_eq 20 X dX10_ones_5 rfl (fun hc => ?_) (fun hc => ?_)
      · rw [if_pos hc] at h
        refine u_iload_n X hl dX10_ones_20 0 rfl ?_
        exact u_iretP X hr hret h hP hS dX10_ones_21
      · rw [if_neg hc] at h
        refine u_iinc [(1, .int (l1_4 + 1)), (2, .int l2_4)] X hl dX10_ones_8 0 rfl rfl (Nat.le_of_ble_eq_true rfl) rfl (fun ls hl => ?_)
        refine u_iload_n X hl dX10_ones_11 1 rfl ?_
        refine u_iload_n X hl dX10_ones_12 1 rfl ?_
        refine u_iconst (v := 1) X dX10_ones_13 rfl ?_
        refine u_isub X dX10_ones_14 ?_
        refine u_iand X dX10_ones_15 ?_
        refine u_istore_n [(2, .int (l2_4 &&& (l2_4 - 1))), (1, .int (l1_4 + 1))] X hl dX10_ones_16 (Nat.le_of_ble_eq_true rfl) rfl (fun ls hl => ?_)
        refine u_goto 4 X dX10_ones_17 rfl ?_
        exact ih4 _ _ _ _ _ (lv_sub hl [1, 0] rfl) hP hS h
  exact L4 LF _ _ _ _ _ (lv_sub hl [1, 0] rfl) hP hS h
def fM_lot_L160 (z : MS) (l3 : Int32) (l5 : Int32) (l6 : Int64) : Nat → Int64 → Int32 → Option (Int64 × MS)
  | 0, _, _ => none
  | n + 1, l8, l10 => if l5 < l10 then Option.bind (fM_lowest z l8 l6) (fun zc190 => if l3 = 0 then some (gJ zc190 56 25, zc190) else some (gJ zc190 56 26, zc190)) else (if l10 < 0 ∨ 11 ≤ l10.toNatClampNeg then none else fM_lot_L160 z l3 l5 l6 n (l8 + (gJ z 73 l10.toNatClampNeg)) (l10 + 1))
def fM_lot_L77 (K54 : MS → Int64 → Int32 → Option (Int64 × MS)) (l4 : Int32) (l6 : Int64) (l8 : Int32) : Nat → MS → Int32 → Option (Int64 × MS)
  | 0, _, _ => none
  | n + 1, z, l9 => if l9 ≤ 0 then K54 (pJ z 73 0 ((gJ z 73 0) * ((l4 - 1).toInt64))) (l6 * l4.toInt64) (l8 + 1) else (if l9 < 0 ∨ 11 ≤ l9.toNatClampNeg then none else if (l9 - 1) < 0 ∨ 11 ≤ (l9 - 1).toNatClampNeg then none else if l9 < 0 ∨ 11 ≤ l9.toNatClampNeg then none else fM_lot_L77 K54 l4 l6 l8 n (pJ z 73 l9.toNatClampNeg (((gJ z 73 l9.toNatClampNeg) * ((l4 - 1).toInt64)) + (gJ z 73 (l9 - 1).toNatClampNeg))) (l9 + (-1)))
def fM_lot_L54 (l1 : Int32) (l2 : Int32) (l3 : Int32) (l4 : Int32) (l5 : Int32) : Nat → MS → Int64 → Int32 → Option (Int64 × MS)
  | 0, _, _, _ => none
  | n + 1, z, l6, l8 => if l5 ≤ l8 then Option.bind (fM_satOn z l1 l2) (fun w152 => Option.bind (fM_ones w152) (fun w155 => fM_lot_L160 z l3 l5 l6 LF 0 w155)) else (if (l8 + 1) < 0 ∨ 11 ≤ (l8 + 1).toNatClampNeg then none else fM_lot_L77 (fM_lot_L54 l1 l2 l3 l4 l5 n) l4 l6 l8 LF (pJ z 73 (l8 + 1).toNatClampNeg 0) (l8 + 1))
def fM_lot (z : MS) (a0 : Int32) (a1 : Int32) (a2 : Int32) : Option (Int64 × MS) :=
  if (fM_areTwo z a0 a1) = 0 then some ((-1), z) else (if (fM_isSide a2) = 0 then some ((-1), z) else Option.bind (fM_sitting z) (fun w36 => fM_lot_L54 a0 a1 a2 (((gI z 56 0) * ((gI z 56 0) - 1)) / 2) w36 LF (pJ z 73 0 1) 1 0))
set_option maxRecDepth 4000 in
theorem cM_lot (l : Launch) {z : MS} {a0 : Int32} {a1 : Int32} {a2 : Int32} {r : Int64} {z1 : MS} (h : fM_lot z a0 a1 a2 = some (r, z1)) : CT l yX10_lot cX10_lot 11 (some .long) 3 65 (fun ad sd => [.ref (ad 56), .int a0, .int a1, .int a2]) z (some (.long r)) z1 := by
  rw [fM_lot] at h
  refine u_start RX10 rfl (by decide) (fun _ _ => Nat.le_of_ble_eq_true rfl) (fun p e s m args below meth c R D ad cs sd A Q ls X hP hS hl hr hret => ?_)
  have hl : lv_has ls 11 [(0, .ref (ad 56)), (1, .int a0), (2, .int a1), (3, .int a2)] := hl
  refine u_aload_n X hl dX10_lot_0 0 rfl ?_
  refine u_iload_n X hl dX10_lot_1 1 rfl ?_
  refine u_iload_n X hl dX10_lot_2 2 rfl ?_
  refine u_callVi X hP hS hl dX10_lot_3 (cM_areTwo l z a0 a1) cw_X10_226 io_56 rfl rfl rfl rfl ⟨rfl, rfl⟩ (fun H locs hP hS => ?_)
  refine u_if_eq 16 X dX10_lot_6 rfl (fun hc => ?_) (fun hc => ?_)
  · rw [if_pos hc] at h
    refine u_ldc2 X kw_X10_148 dX10_lot_16 ?_
    exact u_lretM X hr hret h hP hS dX10_lot_19
  · rw [if_neg hc] at h
    refine u_iload_n X hl dX10_lot_9 3 rfl ?_
    refine u_callSi X hP hS hl dX10_lot_10 (cM_isSide l z a2) cw_X10_281 rfl rfl rfl rfl ⟨rfl, rfl⟩ (fun H locs hP hS => ?_)
    refine u_if_ne 20 X dX10_lot_13 rfl (fun hc => ?_) (fun hc => ?_)
    · rw [if_neg hc] at h
      refine u_aload_n X hl dX10_lot_20 0 rfl ?_
      refine gf_X10_102_56 X hP dX10_lot_21 ?_
      refine u_aload_n X hl dX10_lot_24 0 rfl ?_
      refine gf_X10_102_56 X hP dX10_lot_25 ?_
      refine u_iconst (v := 1) X dX10_lot_28 rfl ?_
      refine u_isub X dX10_lot_29 ?_
      refine u_imul X dX10_lot_30 ?_
      refine u_iconst (v := 2) X dX10_lot_31 rfl ?_
      refine u_idiv X (by decide) dX10_lot_32 ?_
      refine u_istore [(4, .int (((gI z 56 0) * ((gI z 56 0) - 1)) / 2)), (0, .ref (ad 56)), (1, .int a0), (2, .int a1), (3, .int a2)] X hl dX10_lot_33 (Nat.le_of_ble_eq_true rfl) rfl (fun ls hl => ?_)
      refine u_aload_n X hl dX10_lot_35 1 rfl ?_
      obtain ⟨w36, hc36, h⟩ := ob_inv h
      refine u_callVi X hP hS hl dX10_lot_36 (cM_sitting l hc36) cw_X10_309 io_56 rfl rfl rfl rfl ⟨rfl, rfl⟩ (fun H locs hP hS => ?_)
      refine u_istore [(5, .int w36), (4, .int (((gI z 56 0) * ((gI z 56 0) - 1)) / 2)), (0, .ref (ad 56)), (1, .int a0), (2, .int a1), (3, .int a2)] X hl dX10_lot_39 (Nat.le_of_ble_eq_true rfl) rfl (fun ls hl => ?_)
      refine u_aload_n X hl dX10_lot_41 2 rfl ?_
      refine gf_X10_62_56 X hP dX10_lot_42 ?_
      refine u_iconst (v := 0) X dX10_lot_45 rfl ?_
      refine u_lconst (v := 1) X dX10_lot_46 rfl ?_
      refine as_73 (w := 0) X hP hS rfl (by decide) dX10_lot_47 (fun H locs hP hS => ?_)
      refine u_lconst (v := 1) X dX10_lot_48 rfl ?_
      refine u_lstore [(6, .long 1), (5, .int w36), (4, .int (((gI z 56 0) * ((gI z 56 0) - 1)) / 2)), (0, .ref (ad 56)), (1, .int a0), (2, .int a1), (3, .int a2)] X hl dX10_lot_49 (Nat.le_of_ble_eq_true rfl) rfl (fun ls hl => ?_)
      refine u_iconst (v := 0) X dX10_lot_51 rfl ?_
      refine u_istore [(8, .int 0), (6, .long 1), (5, .int w36), (4, .int (((gI z 56 0) * ((gI z 56 0) - 1)) / 2)), (0, .ref (ad 56)), (1, .int a0), (2, .int a1), (3, .int a2)] X hl dX10_lot_52 (Nat.le_of_ble_eq_true rfl) rfl (fun ls hl => ?_)
      have L54 : ∀ (n : Nat) (H : Heap) (locs : List Loc) (ls : Array Slot) (z_54 : MS) (l6_54 : Int64) (l8_54 : Int32), lv_has ls 11 [(0, .ref (ad 56)), (1, .int a0), (2, .int a1), (3, .int a2), (4, .int (((gI z 56 0) * ((gI z 56 0) - 1)) / 2)), (5, .int w36), (6, .long l6_54), (8, .int l8_54)] → va_P D clss (wld cs ad z_54) H → va_S A s.heap H locs → fM_lot_L54 a0 a1 a2 (((gI z 56 0) * ((gI z 56 0) - 1)) / 2) w36 n z_54 l6_54 l8_54 = some (r, z1) → W p l e R s m args below meth c H locs 0 0 Q (F0 m 54 ls []) := by
        intro n
        induction n with
        | zero =>
          intro H locs ls z_54 l6_54 l8_54 hl hP hS h
          rw [fM_lot_L54] at h
          cases h
        | succ n54 ih54 =>
          intro H locs ls z_54 l6_54 l8_54 hl hP hS h
          rw [fM_lot_L54] at h
          refine u_iload X hl dX10_lot_54 7 rfl ?_
          refine u_iload X hl dX10_lot_56 5 rfl ?_
          refine u_icmp_ge 146 X dX10_lot_58 rfl (fun hc => ?_) (fun hc => ?_)
          · rw [if_pos hc] at h
            refine u_lconst (v := 0) X dX10_lot_146 rfl ?_
            refine u_lstore [(8, .long 0), (0, .ref (ad 56)), (1, .int a0), (2, .int a1), (3, .int a2), (4, .int (((gI z 56 0) * ((gI z 56 0) - 1)) / 2)), (5, .int w36), (6, .long l6_54)] X hl dX10_lot_147 (Nat.le_of_ble_eq_true rfl) rfl (fun ls hl => ?_)
            refine u_aload_n X hl dX10_lot_149 1 rfl ?_
            refine u_iload_n X hl dX10_lot_150 2 rfl ?_
            refine u_iload_n X hl dX10_lot_151 3 rfl ?_
            obtain ⟨w152, hc152, h⟩ := ob_inv h
            refine u_callVi X hP hS hl dX10_lot_152 (cM_satOn l hc152) cw_X10_306 io_56 rfl rfl rfl rfl ⟨rfl, rfl⟩ (fun H locs hP hS => ?_)
            obtain ⟨w155, hc155, h⟩ := ob_inv h
            refine u_callSi X hP hS hl dX10_lot_155 (cM_ones l z_54 hc155) cw_X10_312 rfl rfl rfl rfl ⟨rfl, rfl⟩ (fun H locs hP hS => ?_)
            refine u_istore [(10, .int w155), (8, .long 0), (0, .ref (ad 56)), (1, .int a0), (2, .int a1), (3, .int a2), (4, .int (((gI z 56 0) * ((gI z 56 0) - 1)) / 2)), (5, .int w36), (6, .long l6_54)] X hl dX10_lot_158 (Nat.le_of_ble_eq_true rfl) rfl (fun ls hl => ?_)
            have L160 : ∀ (n : Nat) (H : Heap) (locs : List Loc) (ls : Array Slot) (l8_160 : Int64) (l10_160 : Int32), lv_has ls 11 [(0, .ref (ad 56)), (3, .int a2), (5, .int w36), (6, .long l6_54), (8, .long l8_160), (10, .int l10_160)] → va_P D clss (wld cs ad z_54) H → va_S A s.heap H locs → fM_lot_L160 z_54 a2 w36 l6_54 n l8_160 l10_160 = some (r, z1) → W p l e R s m args below meth c H locs 0 0 Q (F0 m 160 ls []) := by
              intro n
              induction n with
              | zero =>
                intro H locs ls l8_160 l10_160 hl hP hS h
                rw [fM_lot_L160] at h
                cases h
              | succ n160 ih160 =>
                intro H locs ls l8_160 l10_160 hl hP hS h
                rw [fM_lot_L160] at h
                refine u_iload X hl dX10_lot_160 5 rfl ?_
                refine u_iload X hl dX10_lot_162 2 rfl ?_
                refine u_icmp_gt 185 X dX10_lot_164 rfl (fun hc => ?_) (fun hc => ?_)
                · rw [if_pos hc] at h
                  refine u_aload_n X hl dX10_lot_185 0 rfl ?_
                  refine u_lload X hl dX10_lot_186 4 rfl ?_
                  refine u_lload X hl dX10_lot_188 3 rfl ?_
                  obtain ⟨zc190, hc190, h⟩ := ob_inv h
                  refine u_callVv X hP hS hl dX10_lot_190 (cM_lowest l hc190) cw_X10_286 io_56 rfl rfl rfl rfl ⟨rfl, rfl⟩ (fun H locs hP hS => ?_)
                  refine u_iload_n X hl dX10_lot_193 1 rfl ?_
                  refine u_if_ne 204 X dX10_lot_194 rfl (fun hc => ?_) (fun hc => ?_)
                  · rw [if_neg hc] at h
                    refine u_aload_n X hl dX10_lot_204 0 rfl ?_
                    refine gf_X10_278_56 X hP dX10_lot_205 ?_
                    exact u_lretM X hr hret h hP hS dX10_lot_208
                  · rw [if_pos hc] at h
                    refine u_aload_n X hl dX10_lot_197 0 rfl ?_
                    refine gf_X10_275_56 X hP dX10_lot_198 ?_
                    refine u_goto 208 X dX10_lot_201 rfl ?_
                    exact u_lretM X hr hret h hP hS dX10_lot_208
                · rw [if_neg hc] at h
                  refine u_lload X hl dX10_lot_167 4 rfl ?_
                  refine u_aload_n X hl dX10_lot_169 0 rfl ?_
                  refine gf_X10_62_56 X hP dX10_lot_170 ?_
                  refine u_iload X hl dX10_lot_173 5 rfl ?_
                  obtain ⟨hin, h⟩ := ifn_inv h
                  refine ld_73 X hP rfl hin dX10_lot_175 ?_
                  refine u_ladd X dX10_lot_176 ?_
                  refine u_lstore [(8, .long (l8_160 + (gJ z_54 73 l10_160.toNatClampNeg))), (0, .ref (ad 56)), (3, .int a2), (5, .int w36), (6, .long l6_54), (10, .int l10_160)] X hl dX10_lot_177 (Nat.le_of_ble_eq_true rfl) rfl (fun ls hl => ?_)
                  refine u_iinc [(10, .int (l10_160 + 1)), (8, .long (l8_160 + (gJ z_54 73 l10_160.toNatClampNeg))), (0, .ref (ad 56)), (3, .int a2), (5, .int w36), (6, .long l6_54)] X hl dX10_lot_179 5 rfl rfl (Nat.le_of_ble_eq_true rfl) rfl (fun ls hl => ?_)
                  refine u_goto 160 X dX10_lot_182 rfl ?_
                  exact ih160 _ _ _ _ _ (lv_sub hl [2, 3, 4, 5, 1, 0] rfl) hP hS h
            exact L160 LF _ _ _ _ _ (lv_sub hl [2, 5, 7, 8, 1, 0] rfl) hP hS h
          · rw [if_neg hc] at h
            refine u_aload_n X hl dX10_lot_61 0 rfl ?_
            refine gf_X10_62_56 X hP dX10_lot_62 ?_
            refine u_iload X hl dX10_lot_65 7 rfl ?_
            refine u_iconst (v := 1) X dX10_lot_67 rfl ?_
            refine u_iadd X dX10_lot_68 ?_
            refine u_lconst (v := 0) X dX10_lot_69 rfl ?_
            obtain ⟨hin, h⟩ := ifn_inv h
            refine as_73 X hP hS rfl hin dX10_lot_70 (fun H locs hP hS => ?_)
            refine u_iload X hl dX10_lot_71 7 rfl ?_
            refine u_iconst (v := 1) X dX10_lot_73 rfl ?_
            refine u_iadd X dX10_lot_74 ?_
            refine u_istore [(9, .int (l8_54 + 1)), (0, .ref (ad 56)), (1, .int a0), (2, .int a1), (3, .int a2), (4, .int (((gI z 56 0) * ((gI z 56 0) - 1)) / 2)), (5, .int w36), (6, .long l6_54), (8, .int l8_54)] X hl dX10_lot_75 (Nat.le_of_ble_eq_true rfl) rfl (fun ls hl => ?_)
            have L77 : ∀ (n : Nat) (H : Heap) (locs : List Loc) (ls : Array Slot) (z_77 : MS) (l9_77 : Int32), lv_has ls 11 [(0, .ref (ad 56)), (1, .int a0), (2, .int a1), (3, .int a2), (4, .int (((gI z 56 0) * ((gI z 56 0) - 1)) / 2)), (5, .int w36), (6, .long l6_54), (8, .int l8_54), (9, .int l9_77)] → va_P D clss (wld cs ad z_77) H → va_S A s.heap H locs → fM_lot_L77 (fM_lot_L54 a0 a1 a2 (((gI z 56 0) * ((gI z 56 0) - 1)) / 2) w36 n54) (((gI z 56 0) * ((gI z 56 0) - 1)) / 2) l6_54 l8_54 n z_77 l9_77 = some (r, z1) → W p l e R s m args below meth c H locs 0 0 Q (F0 m 77 ls []) := by
              intro n
              induction n with
              | zero =>
                intro H locs ls z_77 l9_77 hl hP hS h
                rw [fM_lot_L77] at h
                cases h
              | succ n77 ih77 =>
                intro H locs ls z_77 l9_77 hl hP hS h
                rw [fM_lot_L77] at h
                refine u_iload X hl dX10_lot_77 8 rfl ?_
                refine u_if_le 118 X dX10_lot_79 rfl (fun hc => ?_) (fun hc => ?_)
                · rw [if_pos hc] at h
                  refine u_aload_n X hl dX10_lot_118 0 rfl ?_
                  refine gf_X10_62_56 X hP dX10_lot_119 ?_
                  refine u_iconst (v := 0) X dX10_lot_122 rfl ?_
                  refine u_dup2 X rfl rfl dX10_lot_123 ?_
                  refine ld_73 (w := 0) X hP rfl (by decide) dX10_lot_124 ?_
                  refine u_iload X hl dX10_lot_125 4 rfl ?_
                  refine u_iconst (v := 1) X dX10_lot_127 rfl ?_
                  refine u_isub X dX10_lot_128 ?_
                  refine u_i2l X dX10_lot_129 ?_
                  refine u_lmul X dX10_lot_130 ?_
                  refine as_73 (w := 0) X hP hS rfl (by decide) dX10_lot_131 (fun H locs hP hS => ?_)
                  refine u_lload X hl dX10_lot_132 6 rfl ?_
                  refine u_iload X hl dX10_lot_134 4 rfl ?_
                  refine u_i2l X dX10_lot_136 ?_
                  refine u_lmul X dX10_lot_137 ?_
                  refine u_lstore [(6, .long (l6_54 * ((((gI z 56 0) * ((gI z 56 0) - 1)) / 2).toInt64))), (0, .ref (ad 56)), (1, .int a0), (2, .int a1), (3, .int a2), (4, .int (((gI z 56 0) * ((gI z 56 0) - 1)) / 2)), (5, .int w36), (8, .int l8_54), (9, .int l9_77)] X hl dX10_lot_138 (Nat.le_of_ble_eq_true rfl) rfl (fun ls hl => ?_)
                  refine u_iinc [(8, .int (l8_54 + 1)), (6, .long (l6_54 * ((((gI z 56 0) * ((gI z 56 0) - 1)) / 2).toInt64))), (0, .ref (ad 56)), (1, .int a0), (2, .int a1), (3, .int a2), (4, .int (((gI z 56 0) * ((gI z 56 0) - 1)) / 2)), (5, .int w36), (9, .int l9_77)] X hl dX10_lot_140 7 rfl rfl (Nat.le_of_ble_eq_true rfl) rfl (fun ls hl => ?_)
                  refine u_goto 54 X dX10_lot_143 rfl ?_
                  exact ih54 _ _ _ _ _ _ (lv_sub hl [2, 3, 4, 5, 6, 7, 1, 0] rfl) hP hS h
                · rw [if_neg hc] at h
                  refine u_aload_n X hl dX10_lot_82 0 rfl ?_
                  refine gf_X10_62_56 X hP dX10_lot_83 ?_
                  refine u_iload X hl dX10_lot_86 8 rfl ?_
                  refine u_aload_n X hl dX10_lot_88 0 rfl ?_
                  refine gf_X10_62_56 X hP dX10_lot_89 ?_
                  refine u_iload X hl dX10_lot_92 8 rfl ?_
                  obtain ⟨hin, h⟩ := ifn_inv h
                  refine ld_73 X hP rfl hin dX10_lot_94 ?_
                  refine u_iload X hl dX10_lot_95 4 rfl ?_
                  refine u_iconst (v := 1) X dX10_lot_97 rfl ?_
                  refine u_isub X dX10_lot_98 ?_
                  refine u_i2l X dX10_lot_99 ?_
                  refine u_lmul X dX10_lot_100 ?_
                  refine u_aload_n X hl dX10_lot_101 0 rfl ?_
                  refine gf_X10_62_56 X hP dX10_lot_102 ?_
                  refine u_iload X hl dX10_lot_105 8 rfl ?_
                  refine u_iconst (v := 1) X dX10_lot_107 rfl ?_
                  refine u_isub X dX10_lot_108 ?_
                  obtain ⟨hin, h⟩ := ifn_inv h
                  refine ld_73 X hP rfl hin dX10_lot_109 ?_
                  refine u_ladd X dX10_lot_110 ?_
                  obtain ⟨hin, h⟩ := ifn_inv h
                  refine as_73 X hP hS rfl hin dX10_lot_111 (fun H locs hP hS => ?_)
                  refine u_iinc [(9, .int (l9_77 + (-1))), (0, .ref (ad 56)), (1, .int a0), (2, .int a1), (3, .int a2), (4, .int (((gI z 56 0) * ((gI z 56 0) - 1)) / 2)), (5, .int w36), (6, .long l6_54), (8, .int l8_54)] X hl dX10_lot_112 8 rfl rfl (Nat.le_of_ble_eq_true rfl) rfl (fun ls hl => ?_)
                  refine u_goto 77 X dX10_lot_115 rfl ?_
                  exact ih77 _ _ _ _ _ (lv_sub hl [1, 2, 3, 4, 5, 6, 7, 8, 0] rfl) hP hS h
            exact L77 LF _ _ _ _ _ (lv_sub hl [1, 2, 3, 4, 5, 6, 7, 8, 0] rfl) hP hS h
      exact L54 LF _ _ _ _ _ _ (lv_sub hl [4, 5, 6, 7, 3, 2, 1, 0] rfl) hP hS h
    · rw [if_pos hc] at h
      refine u_ldc2 X kw_X10_148 dX10_lot_16 ?_
      exact u_lretM X hr hret h hP hS dX10_lot_19
def fM_suspects_L47 (z : MS) (K32 : Int32 → Int32 → Int32 → Option Int32) (l2 : Int32) (l3 : Int32) (l4 : Int32) (l5 : Int32) : Nat → Int32 → Int32 → Option Int32
  | 0, _, _ => none
  | n + 1, l6, l7 => if 10 ≤ l7 then (if l6 ≤ l3 then K32 l2 l3 (l5 + 1) else K32 ((8 * l4) + l5) l6 (l5 + 1)) else Option.bind (fM_twoOn z l7) (fun w59 => if w59 = ((8 * l4) + l5) then (if l7 < 0 ∨ 10 ≤ l7.toNatClampNeg then none else fM_suspects_L47 z K32 l2 l3 l4 l5 n (l6 + (gI z 61 l7.toNatClampNeg)) (l7 + 1)) else fM_suspects_L47 z K32 l2 l3 l4 l5 n (l6 + 0) (l7 + 1))
def fM_suspects_L32 (z : MS) (K17 : Int32 → Int32 → Int32 → Option Int32) (l4 : Int32) : Nat → Int32 → Int32 → Int32 → Option Int32
  | 0, _, _, _ => none
  | n + 1, l2, l3, l5 => if (gI z 56 0) ≤ l5 then K17 l2 l3 (l4 + 1) else fM_suspects_L47 z (fM_suspects_L32 z K17 l4 n) l2 l3 l4 l5 LF 0 0
def fM_suspects_L17 (z : MS) (l1 : Int32) : Nat → Int32 → Int32 → Int32 → Option Int32
  | 0, _, _, _ => none
  | n + 1, l2, l3, l4 => if (gI z 56 0) ≤ l4 then (if l2 < 0 then some l2 else (if l1 = 0 then some l2 else some l3)) else fM_suspects_L32 z (fM_suspects_L17 z l1 n) l4 LF l2 l3 (l4 + 1)
def fM_suspects (z : MS) (a0 : Int32) : Option Int32 :=
  if (fM_isSide a0) = 0 then some (-1) else fM_suspects_L17 z a0 LF (-3) (-1) 0
set_option maxRecDepth 4000 in
theorem cM_suspects (l : Launch) {z : MS} {a0 : Int32} {r : Int32} (h : fM_suspects z a0 = some r) : CT l yX10_suspects cX10_suspects 8 (some .int) 2 42 (fun ad sd => [.ref (ad 56), .int a0]) z (some (.int r)) z := by
  rw [fM_suspects] at h
  refine u_start RX10 rfl (by decide) (fun _ _ => Nat.le_of_ble_eq_true rfl) (fun p e s m args below meth c R D ad cs sd A Q ls X hP hS hl hr hret => ?_)
  have hl : lv_has ls 8 [(0, .ref (ad 56)), (1, .int a0)] := hl
  refine u_iload_n X hl dX10_suspects_0 1 rfl ?_
  refine u_callSi X hP hS hl dX10_suspects_1 (cM_isSide l z a0) cw_X10_281 rfl rfl rfl rfl ⟨rfl, rfl⟩ (fun H locs hP hS => ?_)
  refine u_if_ne 9 X dX10_suspects_4 rfl (fun hc => ?_) (fun hc => ?_)
  · rw [if_neg hc] at h
    refine u_bipush (v := (-3)) X dX10_suspects_9 rfl ?_
    refine u_istore_n [(2, .int (-3)), (0, .ref (ad 56)), (1, .int a0)] X hl dX10_suspects_11 (Nat.le_of_ble_eq_true rfl) rfl (fun ls hl => ?_)
    refine u_iconst (v := (-1)) X dX10_suspects_12 rfl ?_
    refine u_istore_n [(3, .int (-1)), (2, .int (-3)), (0, .ref (ad 56)), (1, .int a0)] X hl dX10_suspects_13 (Nat.le_of_ble_eq_true rfl) rfl (fun ls hl => ?_)
    refine u_iconst (v := 0) X dX10_suspects_14 rfl ?_
    refine u_istore [(4, .int 0), (3, .int (-1)), (2, .int (-3)), (0, .ref (ad 56)), (1, .int a0)] X hl dX10_suspects_15 (Nat.le_of_ble_eq_true rfl) rfl (fun ls hl => ?_)
    have L17 : ∀ (n : Nat) (H : Heap) (locs : List Loc) (ls : Array Slot) (l2_17 : Int32) (l3_17 : Int32) (l4_17 : Int32), lv_has ls 8 [(0, .ref (ad 56)), (1, .int a0), (2, .int l2_17), (3, .int l3_17), (4, .int l4_17)] → va_P D clss (wld cs ad z) H → va_S A s.heap H locs → fM_suspects_L17 z a0 n l2_17 l3_17 l4_17 = some r → W p l e R s m args below meth c H locs 0 0 Q (F0 m 17 ls []) := by
      intro n
      induction n with
      | zero =>
        intro H locs ls l2_17 l3_17 l4_17 hl hP hS h
        rw [fM_suspects_L17] at h
        cases h
      | succ n17 ih17 =>
        intro H locs ls l2_17 l3_17 l4_17 hl hP hS h
        rw [fM_suspects_L17] at h
        refine u_iload X hl dX10_suspects_17 4 rfl ?_
        refine u_aload_n X hl dX10_suspects_19 0 rfl ?_
        refine gf_X10_102_56 X hP dX10_suspects_20 ?_
        refine u_icmp_ge 123 X dX10_suspects_23 rfl (fun hc => ?_) (fun hc => ?_)
        · rw [if_pos hc] at h
          refine u_iload_n X hl dX10_suspects_123 2 rfl ?_
          refine u_if_lt 131 X dX10_suspects_124 rfl (fun hc => ?_) (fun hc => ?_)
          · rw [if_pos hc] at h
            refine u_iload_n X hl dX10_suspects_131 2 rfl ?_
            refine u_goto 136 X dX10_suspects_132 rfl ?_
            exact u_iretP X hr hret h hP hS dX10_suspects_136
          · rw [if_neg hc] at h
            refine u_iload_n X hl dX10_suspects_127 1 rfl ?_
            refine u_if_ne 135 X dX10_suspects_128 rfl (fun hc => ?_) (fun hc => ?_)
            · rw [if_neg hc] at h
              refine u_iload_n X hl dX10_suspects_135 3 rfl ?_
              exact u_iretP X hr hret h hP hS dX10_suspects_136
            · rw [if_pos hc] at h
              refine u_iload_n X hl dX10_suspects_131 2 rfl ?_
              refine u_goto 136 X dX10_suspects_132 rfl ?_
              exact u_iretP X hr hret h hP hS dX10_suspects_136
        · rw [if_neg hc] at h
          refine u_iload X hl dX10_suspects_26 4 rfl ?_
          refine u_iconst (v := 1) X dX10_suspects_28 rfl ?_
          refine u_iadd X dX10_suspects_29 ?_
          refine u_istore [(5, .int (l4_17 + 1)), (0, .ref (ad 56)), (1, .int a0), (2, .int l2_17), (3, .int l3_17), (4, .int l4_17)] X hl dX10_suspects_30 (Nat.le_of_ble_eq_true rfl) rfl (fun ls hl => ?_)
          have L32 : ∀ (n : Nat) (H : Heap) (locs : List Loc) (ls : Array Slot) (l2_32 : Int32) (l3_32 : Int32) (l5_32 : Int32), lv_has ls 8 [(0, .ref (ad 56)), (1, .int a0), (2, .int l2_32), (3, .int l3_32), (4, .int l4_17), (5, .int l5_32)] → va_P D clss (wld cs ad z) H → va_S A s.heap H locs → fM_suspects_L32 z (fM_suspects_L17 z a0 n17) l4_17 n l2_32 l3_32 l5_32 = some r → W p l e R s m args below meth c H locs 0 0 Q (F0 m 32 ls []) := by
            intro n
            induction n with
            | zero =>
              intro H locs ls l2_32 l3_32 l5_32 hl hP hS h
              rw [fM_suspects_L32] at h
              cases h
            | succ n32 ih32 =>
              intro H locs ls l2_32 l3_32 l5_32 hl hP hS h
              rw [fM_suspects_L32] at h
              refine u_iload X hl dX10_suspects_32 5 rfl ?_
              refine u_aload_n X hl dX10_suspects_34 0 rfl ?_
              refine gf_X10_102_56 X hP dX10_suspects_35 ?_
              refine u_icmp_ge 117 X dX10_suspects_38 rfl (fun hc => ?_) (fun hc => ?_)
              · rw [if_pos hc] at h
                refine u_iinc [(4, .int (l4_17 + 1)), (0, .ref (ad 56)), (1, .int a0), (2, .int l2_32), (3, .int l3_32), (5, .int l5_32)] X hl dX10_suspects_117 4 rfl rfl (Nat.le_of_ble_eq_true rfl) rfl (fun ls hl => ?_)
                refine u_goto 17 X dX10_suspects_120 rfl ?_
                exact ih17 _ _ _ _ _ _ (lv_sub hl [1, 2, 3, 4, 0] rfl) hP hS h
              · rw [if_neg hc] at h
                refine u_iconst (v := 0) X dX10_suspects_41 rfl ?_
                refine u_istore [(6, .int 0), (0, .ref (ad 56)), (1, .int a0), (2, .int l2_32), (3, .int l3_32), (4, .int l4_17), (5, .int l5_32)] X hl dX10_suspects_42 (Nat.le_of_ble_eq_true rfl) rfl (fun ls hl => ?_)
                refine u_iconst (v := 0) X dX10_suspects_44 rfl ?_
                refine u_istore [(7, .int 0), (6, .int 0), (0, .ref (ad 56)), (1, .int a0), (2, .int l2_32), (3, .int l3_32), (4, .int l4_17), (5, .int l5_32)] X hl dX10_suspects_45 (Nat.le_of_ble_eq_true rfl) rfl (fun ls hl => ?_)
                have L47 : ∀ (n : Nat) (H : Heap) (locs : List Loc) (ls : Array Slot) (l6_47 : Int32) (l7_47 : Int32), lv_has ls 8 [(0, .ref (ad 56)), (1, .int a0), (2, .int l2_32), (3, .int l3_32), (4, .int l4_17), (5, .int l5_32), (6, .int l6_47), (7, .int l7_47)] → va_P D clss (wld cs ad z) H → va_S A s.heap H locs → fM_suspects_L47 z (fM_suspects_L32 z (fM_suspects_L17 z a0 n17) l4_17 n32) l2_32 l3_32 l4_17 l5_32 n l6_47 l7_47 = some r → W p l e R s m args below meth c H locs 0 0 Q (F0 m 47 ls []) := by
                  intro n
                  induction n with
                  | zero =>
                    intro H locs ls l6_47 l7_47 hl hP hS h
                    rw [fM_suspects_L47] at h
                    cases h
                  | succ n47 ih47 =>
                    intro H locs ls l6_47 l7_47 hl hP hS h
                    rw [fM_suspects_L47] at h
                    refine u_iload X hl dX10_suspects_47 7 rfl ?_
                    refine u_bipush (v := 10) X dX10_suspects_49 rfl ?_
                    refine u_icmp_ge 93 X dX10_suspects_51 rfl (fun hc => ?_) (fun hc => ?_)
                    · rw [if_pos hc] at h
                      refine u_iload X hl dX10_suspects_93 6 rfl ?_
                      refine u_iload_n X hl dX10_suspects_95 3 rfl ?_
                      refine u_icmp_le 111 X dX10_suspects_96 rfl (fun hc => ?_) (fun hc => ?_)
                      · rw [if_pos hc] at h
                        refine u_iinc [(5, .int (l5_32 + 1)), (0, .ref (ad 56)), (1, .int a0), (2, .int l2_32), (3, .int l3_32), (4, .int l4_17), (6, .int l6_47), (7, .int l7_47)] X hl dX10_suspects_111 5 rfl rfl (Nat.le_of_ble_eq_true rfl) rfl (fun ls hl => ?_)
                        refine u_goto 32 X dX10_suspects_114 rfl ?_
                        exact ih32 _ _ _ _ _ _ (lv_sub hl [1, 2, 3, 4, 5, 0] rfl) hP hS h
                      · rw [if_neg hc] at h
                        refine u_iload X hl dX10_suspects_99 6 rfl ?_
                        refine u_istore_n [(3, .int l6_47), (0, .ref (ad 56)), (1, .int a0), (2, .int l2_32), (4, .int l4_17), (5, .int l5_32), (6, .int l6_47), (7, .int l7_47)] X hl dX10_suspects_101 (Nat.le_of_ble_eq_true rfl) rfl (fun ls hl => ?_)
                        refine u_bipush (v := 8) X dX10_suspects_102 rfl ?_
                        refine u_iload X hl dX10_suspects_104 4 rfl ?_
                        refine u_imul X dX10_suspects_106 ?_
                        refine u_iload X hl dX10_suspects_107 5 rfl ?_
                        refine u_iadd X dX10_suspects_109 ?_
                        refine u_istore_n [(2, .int ((8 * l4_17) + l5_32)), (3, .int l6_47), (0, .ref (ad 56)), (1, .int a0), (4, .int l4_17), (5, .int l5_32), (6, .int l6_47), (7, .int l7_47)] X hl dX10_suspects_110 (Nat.le_of_ble_eq_true rfl) rfl (fun ls hl => ?_)
                        refine u_iinc [(5, .int (l5_32 + 1)), (2, .int ((8 * l4_17) + l5_32)), (3, .int l6_47), (0, .ref (ad 56)), (1, .int a0), (4, .int l4_17), (6, .int l6_47), (7, .int l7_47)] X hl dX10_suspects_111 5 rfl rfl (Nat.le_of_ble_eq_true rfl) rfl (fun ls hl => ?_)
                        refine u_goto 32 X dX10_suspects_114 rfl ?_
                        exact ih32 _ _ _ _ _ _ (lv_sub hl [3, 4, 1, 2, 5, 0] rfl) hP hS h
                    · rw [if_neg hc] at h
                      refine u_iload X hl dX10_suspects_54 6 rfl ?_
                      refine u_aload_n X hl dX10_suspects_56 0 rfl ?_
                      refine u_iload X hl dX10_suspects_57 7 rfl ?_
                      obtain ⟨w59, hc59, h⟩ := ob_inv h
                      refine u_callVi X hP hS hl dX10_suspects_59 (cM_twoOn l hc59) cw_X10_248 io_56 rfl rfl rfl rfl ⟨rfl, rfl⟩ (fun H locs hP hS => ?_)
                      refine u_bipush (v := 8) X dX10_suspects_62 rfl ?_
                      refine u_iload X hl dX10_suspects_64 4 rfl ?_
                      refine u_imul X dX10_suspects_66 ?_
                      refine u_iload X hl dX10_suspects_67 5 rfl ?_
                      refine u_iadd X dX10_suspects_69 ?_
                      refine u_icmp_ne 83 X dX10_suspects_70 rfl (fun hc => ?_) (fun hc => ?_)
                      · rw [if_neg hc] at h
                        refine u_iconst (v := 0) X dX10_suspects_83 rfl ?_
                        refine u_iadd X dX10_suspects_84 ?_
                        refine u_istore [(6, .int (l6_47 + 0)), (0, .ref (ad 56)), (1, .int a0), (2, .int l2_32), (3, .int l3_32), (4, .int l4_17), (5, .int l5_32), (7, .int l7_47)] X hl dX10_suspects_85 (Nat.le_of_ble_eq_true rfl) rfl (fun ls hl => ?_)
                        refine u_iinc [(7, .int (l7_47 + 1)), (6, .int (l6_47 + 0)), (0, .ref (ad 56)), (1, .int a0), (2, .int l2_32), (3, .int l3_32), (4, .int l4_17), (5, .int l5_32)] X hl dX10_suspects_87 7 rfl rfl (Nat.le_of_ble_eq_true rfl) rfl (fun ls hl => ?_)
                        refine u_goto 47 X dX10_suspects_90 rfl ?_
                        exact ih47 _ _ _ _ _ (lv_sub hl [2, 3, 4, 5, 6, 7, 1, 0] rfl) hP hS h
                      · rw [if_pos hc] at h
                        refine u_aload_n X hl dX10_suspects_73 0 rfl ?_
                        refine gf_X10_22_56 X hP dX10_suspects_74 ?_
                        refine u_iload X hl dX10_suspects_77 7 rfl ?_
                        obtain ⟨hin, h⟩ := ifn_inv h
                        refine ld_61 X hP rfl hin dX10_suspects_79 ?_
                        refine u_goto 84 X dX10_suspects_80 rfl ?_
                        refine u_iadd X dX10_suspects_84 ?_
                        refine u_istore [(6, .int (l6_47 + (gI z 61 l7_47.toNatClampNeg))), (0, .ref (ad 56)), (1, .int a0), (2, .int l2_32), (3, .int l3_32), (4, .int l4_17), (5, .int l5_32), (7, .int l7_47)] X hl dX10_suspects_85 (Nat.le_of_ble_eq_true rfl) rfl (fun ls hl => ?_)
                        refine u_iinc [(7, .int (l7_47 + 1)), (6, .int (l6_47 + (gI z 61 l7_47.toNatClampNeg))), (0, .ref (ad 56)), (1, .int a0), (2, .int l2_32), (3, .int l3_32), (4, .int l4_17), (5, .int l5_32)] X hl dX10_suspects_87 7 rfl rfl (Nat.le_of_ble_eq_true rfl) rfl (fun ls hl => ?_)
                        refine u_goto 47 X dX10_suspects_90 rfl ?_
                        exact ih47 _ _ _ _ _ (lv_sub hl [2, 3, 4, 5, 6, 7, 1, 0] rfl) hP hS h
                exact L47 LF _ _ _ _ _ (lv_sub hl [2, 3, 4, 5, 6, 7, 1, 0] rfl) hP hS h
          exact L32 LF _ _ _ _ _ _ (lv_sub hl [1, 2, 3, 4, 5, 0] rfl) hP hS h
    exact L17 LF _ _ _ _ _ _ (lv_sub hl [3, 4, 2, 1, 0] rfl) hP hS h
  · rw [if_pos hc] at h
    refine u_iconst (v := (-1)) X dX10_suspects_7 rfl ?_
    exact u_iretP X hr hret h hP hS dX10_suspects_8
def fM_isPlan (z : MS) (a0 : Int32) : Int32 :=
  fM_in a0 0 ((gI z 56 9) - 1)
theorem fM_isPlan_b (z : MS) (a0 : Int32) : fM_isPlan z a0 = 0 ∨ fM_isPlan z a0 = 1 := by
  unfold fM_isPlan
  (repeat' split) <;> first | with_reducible exact Or.inl rfl | with_reducible exact Or.inr rfl | with_reducible exact fM_in_b _ _ _
set_option maxRecDepth 4000 in
theorem cM_isPlan (l : Launch) (z : MS) (a0 : Int32) : CT l yX10_isPlan cX10_isPlan 2 (some .boolean) 1 22 (fun ad sd => [.ref (ad 56), .int a0]) z (some (.int (fM_isPlan z a0))) z := by
  generalize h : fM_isPlan z a0 = r
  rw [fM_isPlan] at h
  refine u_start RX10 rfl (by decide) (fun _ _ => Nat.le_of_ble_eq_true rfl) (fun p e s m args below meth c R D ad cs sd A Q ls X hP hS hl hr hret => ?_)
  have hl : lv_has ls 2 [(0, .ref (ad 56)), (1, .int a0)] := hl
  refine u_iload_n X hl dX10_isPlan_0 1 rfl ?_
  refine u_iconst (v := 0) X dX10_isPlan_1 rfl ?_
  refine u_aload_n X hl dX10_isPlan_2 0 rfl ?_
  refine gf_X10_315_56 X hP dX10_isPlan_3 ?_
  refine u_iconst (v := 1) X dX10_isPlan_6 rfl ?_
  refine u_isub X dX10_isPlan_7 ?_
  refine u_callSi X hP hS hl dX10_isPlan_8 (cM_in l z a0 0 ((gI z 56 9) - 1)) cw_X10_105 rfl rfl rfl rfl ⟨rfl, rfl⟩ (fun H locs hP hS => ?_)
  exact u_zretT X hr hret h hP hS (fM_in_b _ _ _) dX10_isPlan_11
def fM_plan (z : MS) (a0 : Int32) (a1 : Int32) : Option (Int32 × MS) :=
  if (fM_in a0 1 5) = 0 then some ((-1), z) else (if (fM_in a1 0 4095) = 0 then some ((-1), z) else (if (gI z 56 9) = 4 then some ((-2), z) else (if (2 * (gI z 56 9)) < 0 ∨ 8 ≤ (2 * (gI z 56 9)).toNatClampNeg then none else if ((2 * (gI (pI z 64 (2 * (gI z 56 9)).toNatClampNeg a0) 56 9)) + 1) < 0 ∨ 8 ≤ ((2 * (gI (pI z 64 (2 * (gI z 56 9)).toNatClampNeg a0) 56 9)) + 1).toNatClampNeg then none else some ((gI (pI (pI (pI z 64 (2 * (gI z 56 9)).toNatClampNeg a0) 64 ((2 * (gI (pI z 64 (2 * (gI z 56 9)).toNatClampNeg a0) 56 9)) + 1).toNatClampNeg a1) 56 9 ((gI (pI (pI z 64 (2 * (gI z 56 9)).toNatClampNeg a0) 64 ((2 * (gI (pI z 64 (2 * (gI z 56 9)).toNatClampNeg a0) 56 9)) + 1).toNatClampNeg a1) 56 9) + 1)) 56 9) - 1, pI (pI (pI z 64 (2 * (gI z 56 9)).toNatClampNeg a0) 64 ((2 * (gI (pI z 64 (2 * (gI z 56 9)).toNatClampNeg a0) 56 9)) + 1).toNatClampNeg a1) 56 9 ((gI (pI (pI z 64 (2 * (gI z 56 9)).toNatClampNeg a0) 64 ((2 * (gI (pI z 64 (2 * (gI z 56 9)).toNatClampNeg a0) 56 9)) + 1).toNatClampNeg a1) 56 9) + 1)))))
set_option maxRecDepth 4000 in
theorem cM_plan (l : Launch) {z : MS} {a0 : Int32} {a1 : Int32} {r : Int32} {z1 : MS} (h : fM_plan z a0 a1 = some (r, z1)) : CT l yX10_plan cX10_plan 3 (some .int) 1 22 (fun ad sd => [.ref (ad 56), .int a0, .int a1]) z (some (.int r)) z1 := by
  rw [fM_plan] at h
  refine u_start RX10 rfl (by decide) (fun _ _ => Nat.le_of_ble_eq_true rfl) (fun p e s m args below meth c R D ad cs sd A Q ls X hP hS hl hr hret => ?_)
  have hl : lv_has ls 3 [(0, .ref (ad 56)), (1, .int a0), (2, .int a1)] := hl
  refine u_iload_n X hl dX10_plan_0 1 rfl ?_
  refine u_iconst (v := 1) X dX10_plan_1 rfl ?_
  refine u_iconst (v := 5) X dX10_plan_2 rfl ?_
  refine u_callSi X hP hS hl dX10_plan_3 (cM_in l z a0 1 5) cw_X10_105 rfl rfl rfl rfl ⟨rfl, rfl⟩ (fun H locs hP hS => ?_)
  refine u_if_eq 20 X dX10_plan_6 rfl (fun hc => ?_) (fun hc => ?_)
  · rw [if_pos hc] at h
    refine u_iconst (v := (-1)) X dX10_plan_20 rfl ?_
    exact u_iretM X hr hret h hP hS dX10_plan_21
  · rw [if_neg hc] at h
    refine u_iload_n X hl dX10_plan_9 2 rfl ?_
    refine u_iconst (v := 0) X dX10_plan_10 rfl ?_
    refine u_sipush (v := 4095) X dX10_plan_11 rfl ?_
    refine u_callSi X hP hS hl dX10_plan_14 (cM_in l z a1 0 4095) cw_X10_105 rfl rfl rfl rfl ⟨rfl, rfl⟩ (fun H locs hP hS => ?_)
    refine u_if_ne 22 X dX10_plan_17 rfl (fun hc => ?_) (fun hc => ?_)
    · rw [if_neg hc] at h
      refine u_aload_n X hl dX10_plan_22 0 rfl ?_
      refine gf_X10_315_56 X hP dX10_plan_23 ?_
      refine u_iconst (v := 4) X dX10_plan_26 rfl ?_
      refine u_icmp_ne 33 X dX10_plan_27 rfl (fun hc => ?_) (fun hc => ?_)
      · rw [if_neg hc] at h
        refine u_aload_n X hl dX10_plan_33 0 rfl ?_
        refine gf_X10_31_56 X hP dX10_plan_34 ?_
        refine u_iconst (v := 2) X dX10_plan_37 rfl ?_
        refine u_aload_n X hl dX10_plan_38 0 rfl ?_
        refine gf_X10_315_56 X hP dX10_plan_39 ?_
        refine u_imul X dX10_plan_42 ?_
        refine u_iload_n X hl dX10_plan_43 1 rfl ?_
        obtain ⟨hin, h⟩ := ifn_inv h
        refine as_64 X hP hS rfl hin dX10_plan_44 (fun H locs hP hS => ?_)
        refine u_aload_n X hl dX10_plan_45 0 rfl ?_
        refine gf_X10_31_56 X hP dX10_plan_46 ?_
        refine u_iconst (v := 2) X dX10_plan_49 rfl ?_
        refine u_aload_n X hl dX10_plan_50 0 rfl ?_
        refine gf_X10_315_56 X hP dX10_plan_51 ?_
        refine u_imul X dX10_plan_54 ?_
        refine u_iconst (v := 1) X dX10_plan_55 rfl ?_
        refine u_iadd X dX10_plan_56 ?_
        refine u_iload_n X hl dX10_plan_57 2 rfl ?_
        obtain ⟨hin, h⟩ := ifn_inv h
        refine as_64 X hP hS rfl hin dX10_plan_58 (fun H locs hP hS => ?_)
        refine u_aload_n X hl dX10_plan_59 0 rfl ?_
        refine u_dup X rfl dX10_plan_60 ?_
        refine gf_X10_315_56 X hP dX10_plan_61 ?_
        refine u_iconst (v := 1) X dX10_plan_64 rfl ?_
        refine u_iadd X dX10_plan_65 ?_
        refine pf_X10_315_56 X hP hS dX10_plan_66 (fun H locs hP hS => ?_)
        refine u_aload_n X hl dX10_plan_69 0 rfl ?_
        refine gf_X10_315_56 X hP dX10_plan_70 ?_
        refine u_iconst (v := 1) X dX10_plan_73 rfl ?_
        refine u_isub X dX10_plan_74 ?_
        exact u_iretM X hr hret h hP hS dX10_plan_75
      · rw [if_pos hc] at h
        refine u_bipush (v := (-2)) X dX10_plan_30 rfl ?_
        exact u_iretM X hr hret h hP hS dX10_plan_32
    · rw [if_pos hc] at h
      refine u_iconst (v := (-1)) X dX10_plan_20 rfl ?_
      exact u_iretM X hr hret h hP hS dX10_plan_21
def fM_planOf (z : MS) (a0 : Int32) (a1 : Int32) : Option Int32 :=
  if (fM_isPlan z a0) = 0 then some (-1) else (if (fM_isSide a1) = 0 then some (-1) else (if ((2 * a0) + a1) < 0 ∨ 8 ≤ ((2 * a0) + a1).toNatClampNeg then none else some (gI z 64 ((2 * a0) + a1).toNatClampNeg)))
set_option maxRecDepth 4000 in
theorem cM_planOf (l : Launch) {z : MS} {a0 : Int32} {a1 : Int32} {r : Int32} (h : fM_planOf z a0 a1 = some r) : CT l yX10_planOf cX10_planOf 3 (some .int) 2 43 (fun ad sd => [.ref (ad 56), .int a0, .int a1]) z (some (.int r)) z := by
  rw [fM_planOf] at h
  refine u_start RX10 rfl (by decide) (fun _ _ => Nat.le_of_ble_eq_true rfl) (fun p e s m args below meth c R D ad cs sd A Q ls X hP hS hl hr hret => ?_)
  have hl : lv_has ls 3 [(0, .ref (ad 56)), (1, .int a0), (2, .int a1)] := hl
  refine u_aload_n X hl dX10_planOf_0 0 rfl ?_
  refine u_iload_n X hl dX10_planOf_1 1 rfl ?_
  refine u_callVi X hP hS hl dX10_planOf_2 (cM_isPlan l z a0) cw_X10_318 io_56 rfl rfl rfl rfl ⟨rfl, rfl⟩ (fun H locs hP hS => ?_)
  refine u_if_eq 28 X dX10_planOf_5 rfl (fun hc => ?_) (fun hc => ?_)
  · rw [if_pos hc] at h
    refine u_iconst (v := (-1)) X dX10_planOf_28 rfl ?_
    exact u_iretP X hr hret h hP hS dX10_planOf_29
  · rw [if_neg hc] at h
    refine u_iload_n X hl dX10_planOf_8 2 rfl ?_
    refine u_callSi X hP hS hl dX10_planOf_9 (cM_isSide l z a1) cw_X10_281 rfl rfl rfl rfl ⟨rfl, rfl⟩ (fun H locs hP hS => ?_)
    refine u_if_eq 28 X dX10_planOf_12 rfl (fun hc => ?_) (fun hc => ?_)
    · rw [if_pos hc] at h
      refine u_iconst (v := (-1)) X dX10_planOf_28 rfl ?_
      exact u_iretP X hr hret h hP hS dX10_planOf_29
    · rw [if_neg hc] at h
      refine u_aload_n X hl dX10_planOf_15 0 rfl ?_
      refine gf_X10_31_56 X hP dX10_planOf_16 ?_
      refine u_iconst (v := 2) X dX10_planOf_19 rfl ?_
      refine u_iload_n X hl dX10_planOf_20 1 rfl ?_
      refine u_imul X dX10_planOf_21 ?_
      refine u_iload_n X hl dX10_planOf_22 2 rfl ?_
      refine u_iadd X dX10_planOf_23 ?_
      obtain ⟨hin, h⟩ := ifn_inv h
      refine ld_64 X hP rfl hin dX10_planOf_24 ?_
      refine u_goto 29 X dX10_planOf_25 rfl ?_
      exact u_iretP X hr hret h hP hS dX10_planOf_29
def fM_lastSat_L6 (z : MS) (l1 : Int32) (l2 : Int32) (l3 : Int32) : Nat → Int32 → Int32 → Option Int32
  | 0, _, _ => none
  | n + 1, l4, l5 => if l3 ≤ l5 then some l4 else Option.bind (fM_twoOn z l5) (fun w15 => if w15 = (fM_pair l1 l2) then fM_lastSat_L6 z l1 l2 l3 n l5 (l5 + 1) else fM_lastSat_L6 z l1 l2 l3 n l4 (l5 + 1))
def fM_lastSat (z : MS) (a0 : Int32) (a1 : Int32) (a2 : Int32) : Option Int32 :=
  fM_lastSat_L6 z a0 a1 a2 LF (-1) 0
set_option maxRecDepth 4000 in
theorem cM_lastSat (l : Launch) {z : MS} {a0 : Int32} {a1 : Int32} {a2 : Int32} {r : Int32} (h : fM_lastSat z a0 a1 a2 = some r) : CT l yX10_lastSat cX10_lastSat 6 (some .int) 1 23 (fun ad sd => [.ref (ad 56), .int a0, .int a1, .int a2]) z (some (.int r)) z := by
  rw [fM_lastSat] at h
  refine u_start RX10 rfl (by decide) (fun _ _ => Nat.le_of_ble_eq_true rfl) (fun p e s m args below meth c R D ad cs sd A Q ls X hP hS hl hr hret => ?_)
  have hl : lv_has ls 6 [(0, .ref (ad 56)), (1, .int a0), (2, .int a1), (3, .int a2)] := hl
  refine u_iconst (v := (-1)) X dX10_lastSat_0 rfl ?_
  refine u_istore [(4, .int (-1)), (0, .ref (ad 56)), (1, .int a0), (2, .int a1), (3, .int a2)] X hl dX10_lastSat_1 (Nat.le_of_ble_eq_true rfl) rfl (fun ls hl => ?_)
  refine u_iconst (v := 0) X dX10_lastSat_3 rfl ?_
  refine u_istore [(5, .int 0), (4, .int (-1)), (0, .ref (ad 56)), (1, .int a0), (2, .int a1), (3, .int a2)] X hl dX10_lastSat_4 (Nat.le_of_ble_eq_true rfl) rfl (fun ls hl => ?_)
  have L6 : ∀ (n : Nat) (H : Heap) (locs : List Loc) (ls : Array Slot) (l4_6 : Int32) (l5_6 : Int32), lv_has ls 6 [(0, .ref (ad 56)), (1, .int a0), (2, .int a1), (3, .int a2), (4, .int l4_6), (5, .int l5_6)] → va_P D clss (wld cs ad z) H → va_S A s.heap H locs → fM_lastSat_L6 z a0 a1 a2 n l4_6 l5_6 = some r → W p l e R s m args below meth c H locs 0 0 Q (F0 m 6 ls []) := by
    intro n
    induction n with
    | zero =>
      intro H locs ls l4_6 l5_6 hl hP hS h
      rw [fM_lastSat_L6] at h
      cases h
    | succ n6 ih6 =>
      intro H locs ls l4_6 l5_6 hl hP hS h
      rw [fM_lastSat_L6] at h
      refine u_iload X hl dX10_lastSat_6 5 rfl ?_
      refine u_iload_n X hl dX10_lastSat_8 3 rfl ?_
      refine u_icmp_ge 41 X dX10_lastSat_9 rfl (fun hc => ?_) (fun hc => ?_)
      · rw [if_pos hc] at h
        refine u_iload X hl dX10_lastSat_41 4 rfl ?_
        exact u_iretP X hr hret h hP hS dX10_lastSat_43
      · rw [if_neg hc] at h
        refine u_aload_n X hl dX10_lastSat_12 0 rfl ?_
        refine u_iload X hl dX10_lastSat_13 5 rfl ?_
        obtain ⟨w15, hc15, h⟩ := ob_inv h
        refine u_callVi X hP hS hl dX10_lastSat_15 (cM_twoOn l hc15) cw_X10_248 io_56 rfl rfl rfl rfl ⟨rfl, rfl⟩ (fun H locs hP hS => ?_)
        refine u_iload_n X hl dX10_lastSat_18 1 rfl ?_
        refine u_iload_n X hl dX10_lastSat_19 2 rfl ?_
        refine u_callSi X hP hS hl dX10_lastSat_20 (cM_pair l z a0 a1) cw_X10_251 rfl rfl rfl rfl ⟨rfl, rfl⟩ (fun H locs hP hS => ?_)
        refine u_icmp_ne 31 X dX10_lastSat_23 rfl (fun hc => ?_) (fun hc => ?_)
        · rw [if_neg hc] at h
          refine u_iload X hl dX10_lastSat_31 4 rfl ?_
          refine u_istore [(4, .int l4_6), (0, .ref (ad 56)), (1, .int a0), (2, .int a1), (3, .int a2), (5, .int l5_6)] X hl dX10_lastSat_33 (Nat.le_of_ble_eq_true rfl) rfl (fun ls hl => ?_)
          refine u_iinc [(5, .int (l5_6 + 1)), (4, .int l4_6), (0, .ref (ad 56)), (1, .int a0), (2, .int a1), (3, .int a2)] X hl dX10_lastSat_35 5 rfl rfl (Nat.le_of_ble_eq_true rfl) rfl (fun ls hl => ?_)
          refine u_goto 6 X dX10_lastSat_38 rfl ?_
          exact ih6 _ _ _ _ _ (lv_sub hl [2, 3, 4, 5, 1, 0] rfl) hP hS h
        · rw [if_pos hc] at h
          refine u_iload X hl dX10_lastSat_26 5 rfl ?_
          refine u_goto 33 X dX10_lastSat_28 rfl ?_
          refine u_istore [(4, .int l5_6), (0, .ref (ad 56)), (1, .int a0), (2, .int a1), (3, .int a2), (5, .int l5_6)] X hl dX10_lastSat_33 (Nat.le_of_ble_eq_true rfl) rfl (fun ls hl => ?_)
          refine u_iinc [(5, .int (l5_6 + 1)), (4, .int l5_6), (0, .ref (ad 56)), (1, .int a0), (2, .int a1), (3, .int a2)] X hl dX10_lastSat_35 5 rfl rfl (Nat.le_of_ble_eq_true rfl) rfl (fun ls hl => ?_)
          refine u_goto 6 X dX10_lastSat_38 rfl ?_
          exact ih6 _ _ _ _ _ (lv_sub hl [2, 3, 4, 5, 1, 0] rfl) hP hS h
  exact L6 LF _ _ _ _ _ (lv_sub hl [2, 3, 4, 5, 1, 0] rfl) hP hS h
def fM_leastOf_L2 (l0 : Int32) : Nat → Int32 → Option Int32
  | 0, _ => none
  | n + 1, l1 => if ((l0 >>> (l1 &&& 31)) &&& 1) = 0 then fM_leastOf_L2 l0 n (l1 + 1) else some l1
def fM_leastOf (a0 : Int32) : Option Int32 :=
  fM_leastOf_L2 a0 LF 0
set_option maxRecDepth 4000 in
theorem cM_leastOf (l : Launch) (z : MS) {a0 : Int32} {r : Int32} (h : fM_leastOf a0 = some r) : CT l yX10_leastOf cX10_leastOf 2 (some .int) 0 0 (fun ad sd => [.int a0]) z (some (.int r)) z := by
  rw [fM_leastOf] at h
  refine u_start RX10 rfl (by decide) (fun _ _ => Nat.le_of_ble_eq_true rfl) (fun p e s m args below meth c R D ad cs sd A Q ls X hP hS hl hr hret => ?_)
  have hl : lv_has ls 2 [(0, .int a0)] := hl
  refine u_iconst (v := 0) X dX10_leastOf_0 rfl ?_
  refine u_istore_n [(1, .int 0), (0, .int a0)] X hl dX10_leastOf_1 (Nat.le_of_ble_eq_true rfl) rfl (fun ls hl => ?_)
  have L2 : ∀ (n : Nat) (H : Heap) (locs : List Loc) (ls : Array Slot) (l1_2 : Int32), lv_has ls 2 [(0, .int a0), (1, .int l1_2)] → va_P D clss (wld cs ad z) H → va_S A s.heap H locs → fM_leastOf_L2 a0 n l1_2 = some r → W p l e R s m args below meth c H locs 0 0 Q (F0 m 2 ls []) := by
    intro n
    induction n with
    | zero =>
      intro H locs ls l1_2 hl hP hS h
      rw [fM_leastOf_L2] at h
      cases h
    | succ n2 ih2 =>
      intro H locs ls l1_2 hl hP hS h
      rw [fM_leastOf_L2] at h
      refine u_iload_n X hl dX10_leastOf_2 0 rfl ?_
      refine u_iload_n X hl dX10_leastOf_3 1 rfl ?_
      refine u_ishr X dX10_leastOf_4 ?_
      refine u_iconst (v := 1) X dX10_leastOf_5 rfl ?_
      refine u_iand X dX10_leastOf_6 ?_
      refine u_if_ne 16 X dX10_leastOf_7 rfl (fun hc => ?_) (fun hc => ?_)
      · rw [if_neg hc] at h
        refine u_iload_n X hl dX10_leastOf_16 1 rfl ?_
        exact u_iretP X hr hret h hP hS dX10_leastOf_17
      · rw [if_pos hc] at h
        refine u_iinc [(1, .int (l1_2 + 1)), (0, .int a0)] X hl dX10_leastOf_10 1 rfl rfl (Nat.le_of_ble_eq_true rfl) rfl (fun ls hl => ?_)
        refine u_goto 2 X dX10_leastOf_13 rfl ?_
        exact ih2 _ _ _ _ (lv_sub hl [1, 0] rfl) hP hS h
  exact L2 LF _ _ _ _ (lv_sub hl [1, 0] rfl) hP hS h
def fM_fillsTurn_J148 (z : MS) (l1 : Int32) (l3 : Int32) : Option MS :=
  Option.bind (fM_leastOf ((l1 &&& (((1 : Int32) <<< ((l3 / 8) &&& 31)) ^^^ (-1))) &&& (((1 : Int32) <<< ((irm l3 8) &&& 31)) ^^^ (-1)))) (fun w196 => Option.bind (fM_leastOf (((l1 &&& (((1 : Int32) <<< ((l3 / 8) &&& 31)) ^^^ (-1))) &&& (((1 : Int32) <<< ((irm l3 8) &&& 31)) ^^^ (-1))) &&& (((1 : Int32) <<< ((gI (pI (pI (pI z 74 0 (l3 / 8)) 74 1 (irm l3 8)) 74 2 w196) 74 2) &&& 31)) ^^^ (-1)))) (fun w218 => some (pI (pI (pI (pI z 74 0 (l3 / 8)) 74 1 (irm l3 8)) 74 2 w196) 74 3 w218)))
def fM_fillsTurn_J111 (z : MS) (K21 : Int32 → Int32 → Int32 → Option MS) (l3 : Int32) (l4 : Int32) (l6 : Int32) (l9 : Int32) (s0 : Int32) : Option MS :=
  if l9 = 0 then K21 l3 l4 (l6 + 1) else (if l3 < 0 then K21 l6 s0 (l6 + 1) else (if l4 ≤ s0 then K21 l3 l4 (l6 + 1) else K21 l6 s0 (l6 + 1)))
def fM_fillsTurn_J91 (z : MS) (K21 : Int32 → Int32 → Int32 → Option MS) (l2 : Int32) (l3 : Int32) (l4 : Int32) (l6 : Int32) (l7 : Int32) (l8 : Int32) (s0 : Int32) : Option MS :=
  if s0 = 0 then fM_fillsTurn_J111 z K21 l3 l4 l6 s0 0 else Option.bind (fM_lastSat z l7 l8 l2) (fun w104 => fM_fillsTurn_J111 z K21 l3 l4 l6 s0 w104)
def fM_fillsTurn_J90 (z : MS) (K21 : Int32 → Int32 → Int32 → Option MS) (l2 : Int32) (l3 : Int32) (l4 : Int32) (l6 : Int32) (l7 : Int32) (l8 : Int32) : Option MS :=
  fM_fillsTurn_J91 z K21 l2 l3 l4 l6 l7 l8 0
def fM_fillsTurn_J86 (z : MS) (K21 : Int32 → Int32 → Int32 → Option MS) (l2 : Int32) (l3 : Int32) (l4 : Int32) (l6 : Int32) (l7 : Int32) (l8 : Int32) : Option MS :=
  fM_fillsTurn_J91 z K21 l2 l3 l4 l6 l7 l8 1
def fM_fillsTurn_L21 (z : MS) (K8 : Int32 → Int32 → Int32 → Option MS) (l1 : Int32) (l2 : Int32) (l5 : Int32) : Nat → Int32 → Int32 → Int32 → Option MS
  | 0, _, _, _ => none
  | n + 1, l3, l4, l6 => if 64 ≤ l6 then K8 l3 l4 (l5 + 1) else (if (irm l6 8) ≤ (l6 / 8) then fM_fillsTurn_J90 z (fM_fillsTurn_L21 z K8 l1 l2 l5 n) l2 l3 l4 l6 (l6 / 8) (irm l6 8) else (if ((l1 >>> ((l6 / 8) &&& 31)) &&& 1) = 1 then (if ((l1 >>> ((irm l6 8) &&& 31)) &&& 1) = 1 then (if l5 = 1 then fM_fillsTurn_J86 z (fM_fillsTurn_L21 z K8 l1 l2 l5 n) l2 l3 l4 l6 (l6 / 8) (irm l6 8) else Option.bind (fM_areKin z (l6 / 8) (irm l6 8)) (fun w80 => if w80 = 0 then fM_fillsTurn_J86 z (fM_fillsTurn_L21 z K8 l1 l2 l5 n) l2 l3 l4 l6 (l6 / 8) (irm l6 8) else fM_fillsTurn_J90 z (fM_fillsTurn_L21 z K8 l1 l2 l5 n) l2 l3 l4 l6 (l6 / 8) (irm l6 8))) else fM_fillsTurn_J90 z (fM_fillsTurn_L21 z K8 l1 l2 l5 n) l2 l3 l4 l6 (l6 / 8) (irm l6 8)) else fM_fillsTurn_J90 z (fM_fillsTurn_L21 z K8 l1 l2 l5 n) l2 l3 l4 l6 (l6 / 8) (irm l6 8)))
def fM_fillsTurn_L8 (z : MS) (l1 : Int32) (l2 : Int32) : Nat → Int32 → Int32 → Int32 → Option MS
  | 0, _, _, _ => none
  | n + 1, l3, l4, l5 => if 2 ≤ l5 then fM_fillsTurn_J148 z l1 l3 else (if 0 ≤ l3 then fM_fillsTurn_J148 z l1 l3 else fM_fillsTurn_L21 z (fM_fillsTurn_L8 z l1 l2 n) l1 l2 l5 LF l3 l4 0)
def fM_fillsTurn (z : MS) (a0 : Int32) (a1 : Int32) : Option MS :=
  fM_fillsTurn_L8 z a0 a1 LF (-1) 0 0
set_option maxRecDepth 4000 in
theorem cM_fillsTurn (l : Launch) {z : MS} {a0 : Int32} {a1 : Int32} {z1 : MS} (h : fM_fillsTurn z a0 a1 = some z1) : CT l yX10_fillsTurn cX10_fillsTurn 11 none 2 48 (fun ad sd => [.ref (ad 56), .int a0, .int a1]) z none z1 := by
  rw [fM_fillsTurn] at h
  refine u_start RX10 rfl (by decide) (fun _ _ => Nat.le_of_ble_eq_true rfl) (fun p e s m args below meth c R D ad cs sd A Q ls X hP hS hl hr hret => ?_)
  have hl : lv_has ls 11 [(0, .ref (ad 56)), (1, .int a0), (2, .int a1)] := hl
  refine u_iconst (v := (-1)) X dX10_fillsTurn_0 rfl ?_
  refine u_istore_n [(3, .int (-1)), (0, .ref (ad 56)), (1, .int a0), (2, .int a1)] X hl dX10_fillsTurn_1 (Nat.le_of_ble_eq_true rfl) rfl (fun ls hl => ?_)
  refine u_iconst (v := 0) X dX10_fillsTurn_2 rfl ?_
  refine u_istore [(4, .int 0), (3, .int (-1)), (0, .ref (ad 56)), (1, .int a0), (2, .int a1)] X hl dX10_fillsTurn_3 (Nat.le_of_ble_eq_true rfl) rfl (fun ls hl => ?_)
  refine u_iconst (v := 0) X dX10_fillsTurn_5 rfl ?_
  refine u_istore [(5, .int 0), (4, .int 0), (3, .int (-1)), (0, .ref (ad 56)), (1, .int a0), (2, .int a1)] X hl dX10_fillsTurn_6 (Nat.le_of_ble_eq_true rfl) rfl (fun ls hl => ?_)
  have L8 : ∀ (n : Nat) (H : Heap) (locs : List Loc) (ls : Array Slot) (l3_8 : Int32) (l4_8 : Int32) (l5_8 : Int32), lv_has ls 11 [(0, .ref (ad 56)), (1, .int a0), (2, .int a1), (3, .int l3_8), (4, .int l4_8), (5, .int l5_8)] → va_P D clss (wld cs ad z) H → va_S A s.heap H locs → fM_fillsTurn_L8 z a0 a1 n l3_8 l4_8 l5_8 = some z1 → W p l e R s m args below meth c H locs 0 0 Q (F0 m 8 ls []) := by
    intro n
    induction n with
    | zero =>
      intro H locs ls l3_8 l4_8 l5_8 hl hP hS h
      rw [fM_fillsTurn_L8] at h
      cases h
    | succ n8 ih8 =>
      intro H locs ls l3_8 l4_8 l5_8 hl hP hS h
      rw [fM_fillsTurn_L8] at h
      refine u_iload X hl dX10_fillsTurn_8 5 rfl ?_
      refine u_iconst (v := 2) X dX10_fillsTurn_10 rfl ?_
      have J148 : ∀ (H : Heap) (locs : List Loc) (ls : Array Slot), lv_has ls 11 [(0, .ref (ad 56)), (1, .int a0), (3, .int l3_8)] → va_P D clss (wld cs ad z) H → va_S A s.heap H locs → fM_fillsTurn_J148 z a0 l3_8 = some z1 → W p l e R s m args below meth c H locs 0 0 Q (F0 m 148 ls []) := by
        intro H locs ls hl hP hS h
        rw [fM_fillsTurn_J148] at h
        refine u_iload_n X hl dX10_fillsTurn_148 1 rfl ?_
        refine u_iconst (v := 1) X dX10_fillsTurn_149 rfl ?_
        refine u_iload_n X hl dX10_fillsTurn_150 2 rfl ?_
        refine u_bipush (v := 8) X dX10_fillsTurn_151 rfl ?_
        refine u_idiv X (by decide) dX10_fillsTurn_153 ?_
        refine u_ishl X dX10_fillsTurn_154 ?_
        refine u_iconst (v := (-1)) X dX10_fillsTurn_155 rfl ?_
        refine u_ixor X dX10_fillsTurn_156 ?_
        refine u_iand X dX10_fillsTurn_157 ?_
        refine u_iconst (v := 1) X dX10_fillsTurn_158 rfl ?_
        refine u_iload_n X hl dX10_fillsTurn_159 2 rfl ?_
        refine u_bipush (v := 8) X dX10_fillsTurn_160 rfl ?_
        refine u_irem X (by decide) dX10_fillsTurn_162 ?_
        refine u_ishl X dX10_fillsTurn_163 ?_
        refine u_iconst (v := (-1)) X dX10_fillsTurn_164 rfl ?_
        refine u_ixor X dX10_fillsTurn_165 ?_
        refine u_iand X dX10_fillsTurn_166 ?_
        refine u_istore [(5, .int ((a0 &&& (((1 : Int32) <<< ((l3_8 / 8) &&& 31)) ^^^ (-1))) &&& (((1 : Int32) <<< ((irm l3_8 8) &&& 31)) ^^^ (-1)))), (0, .ref (ad 56)), (1, .int a0), (3, .int l3_8)] X hl dX10_fillsTurn_167 (Nat.le_of_ble_eq_true rfl) rfl (fun ls hl => ?_)
        refine u_aload_n X hl dX10_fillsTurn_169 1 rfl ?_
        refine gf_X10_66_56 X hP dX10_fillsTurn_170 ?_
        refine u_iconst (v := 0) X dX10_fillsTurn_173 rfl ?_
        refine u_iload_n X hl dX10_fillsTurn_174 3 rfl ?_
        refine u_bipush (v := 8) X dX10_fillsTurn_175 rfl ?_
        refine u_idiv X (by decide) dX10_fillsTurn_177 ?_
        refine as_74 (w := 0) X hP hS rfl (by decide) dX10_fillsTurn_178 (fun H locs hP hS => ?_)
        refine u_aload_n X hl dX10_fillsTurn_179 1 rfl ?_
        refine gf_X10_66_56 X hP dX10_fillsTurn_180 ?_
        refine u_iconst (v := 1) X dX10_fillsTurn_183 rfl ?_
        refine u_iload_n X hl dX10_fillsTurn_184 3 rfl ?_
        refine u_bipush (v := 8) X dX10_fillsTurn_185 rfl ?_
        refine u_irem X (by decide) dX10_fillsTurn_187 ?_
        refine as_74 (w := 1) X hP hS rfl (by decide) dX10_fillsTurn_188 (fun H locs hP hS => ?_)
        refine u_aload_n X hl dX10_fillsTurn_189 1 rfl ?_
        refine gf_X10_66_56 X hP dX10_fillsTurn_190 ?_
        refine u_iconst (v := 2) X dX10_fillsTurn_193 rfl ?_
        refine u_iload X hl dX10_fillsTurn_194 0 rfl ?_
        obtain ⟨w196, hc196, h⟩ := ob_inv h
        refine u_callSi X hP hS hl dX10_fillsTurn_196 (cM_leastOf l (pI (pI z 74 0 (l3_8 / 8)) 74 1 (irm l3_8 8)) hc196) cw_X10_324 rfl rfl rfl rfl ⟨rfl, rfl⟩ (fun H locs hP hS => ?_)
        refine as_74 (w := 2) X hP hS rfl (by decide) dX10_fillsTurn_199 (fun H locs hP hS => ?_)
        refine u_aload_n X hl dX10_fillsTurn_200 1 rfl ?_
        refine gf_X10_66_56 X hP dX10_fillsTurn_201 ?_
        refine u_iconst (v := 3) X dX10_fillsTurn_204 rfl ?_
        refine u_iload X hl dX10_fillsTurn_205 0 rfl ?_
        refine u_iconst (v := 1) X dX10_fillsTurn_207 rfl ?_
        refine u_aload_n X hl dX10_fillsTurn_208 1 rfl ?_
        refine gf_X10_66_56 X hP dX10_fillsTurn_209 ?_
        refine u_iconst (v := 2) X dX10_fillsTurn_212 rfl ?_
        refine ld_74 (w := 2) X hP rfl (by decide) dX10_fillsTurn_213 ?_
        refine u_ishl X dX10_fillsTurn_214 ?_
        refine u_iconst (v := (-1)) X dX10_fillsTurn_215 rfl ?_
        refine u_ixor X dX10_fillsTurn_216 ?_
        refine u_iand X dX10_fillsTurn_217 ?_
        obtain ⟨w218, hc218, h⟩ := ob_inv h
        refine u_callSi X hP hS hl dX10_fillsTurn_218 (cM_leastOf l (pI (pI (pI z 74 0 (l3_8 / 8)) 74 1 (irm l3_8 8)) 74 2 w196) hc218) cw_X10_324 rfl rfl rfl rfl ⟨rfl, rfl⟩ (fun H locs hP hS => ?_)
        refine as_74 (w := 3) X hP hS rfl (by decide) dX10_fillsTurn_221 (fun H locs hP hS => ?_)
        exact u_vretM X hr hret h hP hS dX10_fillsTurn_222
      refine u_icmp_ge 148 X dX10_fillsTurn_11 rfl (fun hc => ?_) (fun hc => ?_)
      · rw [if_pos hc] at h
        exact J148 _ _ _ (lv_sub hl [0, 1, 3] rfl) hP hS h
      · rw [if_neg hc] at h
        refine u_iload_n X hl dX10_fillsTurn_14 3 rfl ?_
        refine u_if_ge 148 X dX10_fillsTurn_15 rfl (fun hc => ?_) (fun hc => ?_)
        · rw [if_pos hc] at h
          exact J148 _ _ _ (lv_sub hl [0, 1, 3] rfl) hP hS h
        · rw [if_neg hc] at h
          refine u_iconst (v := 0) X dX10_fillsTurn_18 rfl ?_
          refine u_istore [(6, .int 0), (0, .ref (ad 56)), (1, .int a0), (2, .int a1), (3, .int l3_8), (4, .int l4_8), (5, .int l5_8)] X hl dX10_fillsTurn_19 (Nat.le_of_ble_eq_true rfl) rfl (fun ls hl => ?_)
          have L21 : ∀ (n : Nat) (H : Heap) (locs : List Loc) (ls : Array Slot) (l3_21 : Int32) (l4_21 : Int32) (l6_21 : Int32), lv_has ls 11 [(0, .ref (ad 56)), (1, .int a0), (2, .int a1), (3, .int l3_21), (4, .int l4_21), (5, .int l5_8), (6, .int l6_21)] → va_P D clss (wld cs ad z) H → va_S A s.heap H locs → fM_fillsTurn_L21 z (fM_fillsTurn_L8 z a0 a1 n8) a0 a1 l5_8 n l3_21 l4_21 l6_21 = some z1 → W p l e R s m args below meth c H locs 0 0 Q (F0 m 21 ls []) := by
            intro n
            induction n with
            | zero =>
              intro H locs ls l3_21 l4_21 l6_21 hl hP hS h
              rw [fM_fillsTurn_L21] at h
              cases h
            | succ n21 ih21 =>
              intro H locs ls l3_21 l4_21 l6_21 hl hP hS h
              rw [fM_fillsTurn_L21] at h
              refine u_iload X hl dX10_fillsTurn_21 6 rfl ?_
              refine u_bipush (v := 64) X dX10_fillsTurn_23 rfl ?_
              refine u_icmp_ge 142 X dX10_fillsTurn_25 rfl (fun hc => ?_) (fun hc => ?_)
              · rw [if_pos hc] at h
                refine u_iinc [(5, .int (l5_8 + 1)), (0, .ref (ad 56)), (1, .int a0), (2, .int a1), (3, .int l3_21), (4, .int l4_21), (6, .int l6_21)] X hl dX10_fillsTurn_142 5 rfl rfl (Nat.le_of_ble_eq_true rfl) rfl (fun ls hl => ?_)
                refine u_goto 8 X dX10_fillsTurn_145 rfl ?_
                exact ih8 _ _ _ _ _ _ (lv_sub hl [1, 2, 3, 4, 5, 0] rfl) hP hS h
              · rw [if_neg hc] at h
                refine u_iload X hl dX10_fillsTurn_28 6 rfl ?_
                refine u_bipush (v := 8) X dX10_fillsTurn_30 rfl ?_
                refine u_idiv X (by decide) dX10_fillsTurn_32 ?_
                refine u_istore [(7, .int (l6_21 / 8)), (0, .ref (ad 56)), (1, .int a0), (2, .int a1), (3, .int l3_21), (4, .int l4_21), (5, .int l5_8), (6, .int l6_21)] X hl dX10_fillsTurn_33 (Nat.le_of_ble_eq_true rfl) rfl (fun ls hl => ?_)
                refine u_iload X hl dX10_fillsTurn_35 7 rfl ?_
                refine u_bipush (v := 8) X dX10_fillsTurn_37 rfl ?_
                refine u_irem X (by decide) dX10_fillsTurn_39 ?_
                refine u_istore [(8, .int (irm l6_21 8)), (7, .int (l6_21 / 8)), (0, .ref (ad 56)), (1, .int a0), (2, .int a1), (3, .int l3_21), (4, .int l4_21), (5, .int l5_8), (6, .int l6_21)] X hl dX10_fillsTurn_40 (Nat.le_of_ble_eq_true rfl) rfl (fun ls hl => ?_)
                refine u_iload X hl dX10_fillsTurn_42 1 rfl ?_
                refine u_iload X hl dX10_fillsTurn_44 0 rfl ?_
                have J91 : ∀ (H : Heap) (locs : List Loc) (ls : Array Slot) (s0_91 : Int32), lv_has ls 11 [(0, .ref (ad 56)), (1, .int a0), (2, .int a1), (3, .int l3_21), (4, .int l4_21), (5, .int l5_8), (6, .int l6_21), (7, .int (l6_21 / 8)), (8, .int (irm l6_21 8))] → va_P D clss (wld cs ad z) H → va_S A s.heap H locs → fM_fillsTurn_J91 z (fM_fillsTurn_L21 z (fM_fillsTurn_L8 z a0 a1 n8) a0 a1 l5_8 n21) a1 l3_21 l4_21 l6_21 (l6_21 / 8) (irm l6_21 8) s0_91 = some z1 → W p l e R s m args below meth c H locs 0 0 Q (F0 m 91 ls [.int s0_91]) := by
                  intro H locs ls s0_91 hl hP hS h
                  rw [fM_fillsTurn_J91] at h
                  refine u_istore [(9, .int s0_91), (0, .ref (ad 56)), (1, .int a0), (2, .int a1), (3, .int l3_21), (4, .int l4_21), (5, .int l5_8), (6, .int l6_21), (7, .int (l6_21 / 8)), (8, .int (irm l6_21 8))] X hl dX10_fillsTurn_91 (Nat.le_of_ble_eq_true rfl) rfl (fun ls hl => ?_)
                  refine u_iload X hl dX10_fillsTurn_93 0 rfl ?_
                  have J111 : ∀ (H : Heap) (locs : List Loc) (ls : Array Slot) (s0_111 : Int32), lv_has ls 11 [(0, .ref (ad 56)), (1, .int a0), (2, .int a1), (3, .int l3_21), (4, .int l4_21), (5, .int l5_8), (6, .int l6_21), (9, .int s0_91)] → va_P D clss (wld cs ad z) H → va_S A s.heap H locs → fM_fillsTurn_J111 z (fM_fillsTurn_L21 z (fM_fillsTurn_L8 z a0 a1 n8) a0 a1 l5_8 n21) l3_21 l4_21 l6_21 s0_91 s0_111 = some z1 → W p l e R s m args below meth c H locs 0 0 Q (F0 m 111 ls [.int s0_111]) := by
                    intro H locs ls s0_111 hl hP hS h
                    rw [fM_fillsTurn_J111] at h
                    refine u_istore [(10, .int s0_111), (0, .ref (ad 56)), (1, .int a0), (2, .int a1), (3, .int l3_21), (4, .int l4_21), (5, .int l5_8), (6, .int l6_21), (9, .int s0_91)] X hl dX10_fillsTurn_111 (Nat.le_of_ble_eq_true rfl) rfl (fun ls hl => ?_)
                    refine u_iload X hl dX10_fillsTurn_113 8 rfl ?_
                    refine u_if_eq 136 X dX10_fillsTurn_115 rfl (fun hc => ?_) (fun hc => ?_)
                    · rw [if_pos hc] at h
                      refine u_iinc [(6, .int (l6_21 + 1)), (10, .int s0_111), (0, .ref (ad 56)), (1, .int a0), (2, .int a1), (3, .int l3_21), (4, .int l4_21), (5, .int l5_8), (9, .int s0_91)] X hl dX10_fillsTurn_136 7 rfl rfl (Nat.le_of_ble_eq_true rfl) rfl (fun ls hl => ?_)
                      refine u_goto 21 X dX10_fillsTurn_139 rfl ?_
                      exact ih21 _ _ _ _ _ _ (lv_sub hl [2, 3, 4, 5, 6, 7, 0] rfl) hP hS h
                    · rw [if_neg hc] at h
                      refine u_iload_n X hl dX10_fillsTurn_118 4 rfl ?_
                      refine u_if_lt 129 X dX10_fillsTurn_119 rfl (fun hc => ?_) (fun hc => ?_)
                      · rw [if_pos hc] at h
                        refine u_iload X hl dX10_fillsTurn_129 7 rfl ?_
                        refine u_istore_n [(3, .int l6_21), (10, .int s0_111), (0, .ref (ad 56)), (1, .int a0), (2, .int a1), (4, .int l4_21), (5, .int l5_8), (6, .int l6_21), (9, .int s0_91)] X hl dX10_fillsTurn_131 (Nat.le_of_ble_eq_true rfl) rfl (fun ls hl => ?_)
                        refine u_iload X hl dX10_fillsTurn_132 1 rfl ?_
                        refine u_istore [(4, .int s0_111), (3, .int l6_21), (10, .int s0_111), (0, .ref (ad 56)), (1, .int a0), (2, .int a1), (5, .int l5_8), (6, .int l6_21), (9, .int s0_91)] X hl dX10_fillsTurn_134 (Nat.le_of_ble_eq_true rfl) rfl (fun ls hl => ?_)
                        refine u_iinc [(6, .int (l6_21 + 1)), (4, .int s0_111), (3, .int l6_21), (10, .int s0_111), (0, .ref (ad 56)), (1, .int a0), (2, .int a1), (5, .int l5_8), (9, .int s0_91)] X hl dX10_fillsTurn_136 7 rfl rfl (Nat.le_of_ble_eq_true rfl) rfl (fun ls hl => ?_)
                        refine u_goto 21 X dX10_fillsTurn_139 rfl ?_
                        exact ih21 _ _ _ _ _ _ (lv_sub hl [4, 5, 6, 2, 1, 7, 0] rfl) hP hS h
                      · rw [if_neg hc] at h
                        refine u_iload X hl dX10_fillsTurn_122 0 rfl ?_
                        refine u_iload X hl dX10_fillsTurn_124 5 rfl ?_
                        refine u_icmp_ge 136 X dX10_fillsTurn_126 rfl (fun hc => ?_) (fun hc => ?_)
                        · rw [if_pos hc] at h
                          refine u_iinc [(6, .int (l6_21 + 1)), (10, .int s0_111), (0, .ref (ad 56)), (1, .int a0), (2, .int a1), (3, .int l3_21), (4, .int l4_21), (5, .int l5_8), (9, .int s0_91)] X hl dX10_fillsTurn_136 7 rfl rfl (Nat.le_of_ble_eq_true rfl) rfl (fun ls hl => ?_)
                          refine u_goto 21 X dX10_fillsTurn_139 rfl ?_
                          exact ih21 _ _ _ _ _ _ (lv_sub hl [2, 3, 4, 5, 6, 7, 0] rfl) hP hS h
                        · rw [if_neg hc] at h
                          refine u_iload X hl dX10_fillsTurn_129 7 rfl ?_
                          refine u_istore_n [(3, .int l6_21), (10, .int s0_111), (0, .ref (ad 56)), (1, .int a0), (2, .int a1), (4, .int l4_21), (5, .int l5_8), (6, .int l6_21), (9, .int s0_91)] X hl dX10_fillsTurn_131 (Nat.le_of_ble_eq_true rfl) rfl (fun ls hl => ?_)
                          refine u_iload X hl dX10_fillsTurn_132 1 rfl ?_
                          refine u_istore [(4, .int s0_111), (3, .int l6_21), (10, .int s0_111), (0, .ref (ad 56)), (1, .int a0), (2, .int a1), (5, .int l5_8), (6, .int l6_21), (9, .int s0_91)] X hl dX10_fillsTurn_134 (Nat.le_of_ble_eq_true rfl) rfl (fun ls hl => ?_)
                          refine u_iinc [(6, .int (l6_21 + 1)), (4, .int s0_111), (3, .int l6_21), (10, .int s0_111), (0, .ref (ad 56)), (1, .int a0), (2, .int a1), (5, .int l5_8), (9, .int s0_91)] X hl dX10_fillsTurn_136 7 rfl rfl (Nat.le_of_ble_eq_true rfl) rfl (fun ls hl => ?_)
                          refine u_goto 21 X dX10_fillsTurn_139 rfl ?_
                          exact ih21 _ _ _ _ _ _ (lv_sub hl [4, 5, 6, 2, 1, 7, 0] rfl) hP hS h
                  refine u_if_eq 110 X dX10_fillsTurn_95 rfl (fun hc => ?_) (fun hc => ?_)
                  · rw [if_pos hc] at h
                    refine u_iconst (v := 0) X dX10_fillsTurn_110 rfl ?_
                    exact J111 _ _ _ _ (lv_sub hl [1, 2, 3, 4, 5, 6, 7, 0] rfl) hP hS h
                  · rw [if_neg hc] at h
                    refine u_aload_n X hl dX10_fillsTurn_98 1 rfl ?_
                    refine u_iload X hl dX10_fillsTurn_99 8 rfl ?_
                    refine u_iload X hl dX10_fillsTurn_101 9 rfl ?_
                    refine u_iload_n X hl dX10_fillsTurn_103 3 rfl ?_
                    obtain ⟨w104, hc104, h⟩ := ob_inv h
                    refine u_callVi X hP hS hl dX10_fillsTurn_104 (cM_lastSat l hc104) cw_X10_321 io_56 rfl rfl rfl rfl ⟨rfl, rfl⟩ (fun H locs hP hS => ?_)
                    refine u_goto 111 X dX10_fillsTurn_107 rfl ?_
                    exact J111 _ _ _ _ (lv_sub hl [1, 2, 3, 4, 5, 6, 7, 0] rfl) hP hS h
                have J90 : ∀ (H : Heap) (locs : List Loc) (ls : Array Slot), lv_has ls 11 [(0, .ref (ad 56)), (1, .int a0), (2, .int a1), (3, .int l3_21), (4, .int l4_21), (5, .int l5_8), (6, .int l6_21), (7, .int (l6_21 / 8)), (8, .int (irm l6_21 8))] → va_P D clss (wld cs ad z) H → va_S A s.heap H locs → fM_fillsTurn_J90 z (fM_fillsTurn_L21 z (fM_fillsTurn_L8 z a0 a1 n8) a0 a1 l5_8 n21) a1 l3_21 l4_21 l6_21 (l6_21 / 8) (irm l6_21 8) = some z1 → W p l e R s m args below meth c H locs 0 0 Q (F0 m 90 ls []) := by
                  intro H locs ls hl hP hS h
                  rw [fM_fillsTurn_J90] at h
                  refine u_iconst (v := 0) X dX10_fillsTurn_90 rfl ?_
                  exact J91 _ _ _ _ hl hP hS h
                refine u_icmp_ge 90 X dX10_fillsTurn_46 rfl (fun hc => ?_) (fun hc => ?_)
                · rw [if_pos hc] at h
                  exact J90 _ _ _ (lv_sub hl [2, 3, 4, 5, 6, 7, 8, 1, 0] rfl) hP hS h
                · rw [if_neg hc] at h
                  refine u_iload_n X hl dX10_fillsTurn_49 3 rfl ?_
                  refine u_iload X hl dX10_fillsTurn_50 1 rfl ?_
                  refine u_ishr X dX10_fillsTurn_52 ?_
                  refine u_iconst (v := 1) X dX10_fillsTurn_53 rfl ?_
                  refine u_iand X dX10_fillsTurn_54 ?_
                  refine u_iconst (v := 1) X dX10_fillsTurn_55 rfl ?_
                  refine u_icmp_ne 90 X dX10_fillsTurn_56 rfl (fun hc => ?_) (fun hc => ?_)
                  · rw [if_neg hc] at h
                    exact J90 _ _ _ (lv_sub hl [2, 3, 4, 5, 6, 7, 8, 1, 0] rfl) hP hS h
                  · rw [if_pos hc] at h
                    refine u_iload_n X hl dX10_fillsTurn_59 3 rfl ?_
                    refine u_iload X hl dX10_fillsTurn_60 0 rfl ?_
                    refine u_ishr X dX10_fillsTurn_62 ?_
                    refine u_iconst (v := 1) X dX10_fillsTurn_63 rfl ?_
                    refine u_iand X dX10_fillsTurn_64 ?_
                    refine u_iconst (v := 1) X dX10_fillsTurn_65 rfl ?_
                    refine u_icmp_ne 90 X dX10_fillsTurn_66 rfl (fun hc => ?_) (fun hc => ?_)
                    · rw [if_neg hc] at h
                      exact J90 _ _ _ (lv_sub hl [2, 3, 4, 5, 6, 7, 8, 1, 0] rfl) hP hS h
                    · rw [if_pos hc] at h
                      refine u_iload X hl dX10_fillsTurn_69 7 rfl ?_
                      refine u_iconst (v := 1) X dX10_fillsTurn_71 rfl ?_
                      have J86 : ∀ (H : Heap) (locs : List Loc) (ls : Array Slot), lv_has ls 11 [(0, .ref (ad 56)), (1, .int a0), (2, .int a1), (3, .int l3_21), (4, .int l4_21), (5, .int l5_8), (6, .int l6_21), (7, .int (l6_21 / 8)), (8, .int (irm l6_21 8))] → va_P D clss (wld cs ad z) H → va_S A s.heap H locs → fM_fillsTurn_J86 z (fM_fillsTurn_L21 z (fM_fillsTurn_L8 z a0 a1 n8) a0 a1 l5_8 n21) a1 l3_21 l4_21 l6_21 (l6_21 / 8) (irm l6_21 8) = some z1 → W p l e R s m args below meth c H locs 0 0 Q (F0 m 86 ls []) := by
                        intro H locs ls hl hP hS h
                        rw [fM_fillsTurn_J86] at h
                        refine u_iconst (v := 1) X dX10_fillsTurn_86 rfl ?_
                        refine u_goto 91 X dX10_fillsTurn_87 rfl ?_
                        exact J91 _ _ _ _ hl hP hS h
                      refine u_icmp_eq 86 X dX10_fillsTurn_72 rfl (fun hc => ?_) (fun hc => ?_)
                      · rw [if_pos hc] at h
                        exact J86 _ _ _ (lv_sub hl [2, 3, 4, 5, 6, 7, 8, 1, 0] rfl) hP hS h
                      · rw [if_neg hc] at h
                        refine u_aload_n X hl dX10_fillsTurn_75 2 rfl ?_
                        refine u_iload X hl dX10_fillsTurn_76 1 rfl ?_
                        refine u_iload X hl dX10_fillsTurn_78 0 rfl ?_
                        obtain ⟨w80, hc80, h⟩ := ob_inv h
                        refine u_callVi X hP hS hl dX10_fillsTurn_80 (cM_areKin l hc80) cw_X10_230 io_56 rfl rfl rfl rfl ⟨rfl, rfl⟩ (fun H locs hP hS => ?_)
                        refine u_if_ne 90 X dX10_fillsTurn_83 rfl (fun hc => ?_) (fun hc => ?_)
                        · rw [if_neg hc] at h
                          exact J90 _ _ _ (lv_sub hl [2, 3, 4, 5, 6, 7, 8, 1, 0] rfl) hP hS h
                        · rw [if_pos hc] at h
                          exact J86 _ _ _ (lv_sub hl [2, 3, 4, 5, 6, 7, 8, 1, 0] rfl) hP hS h
          exact L21 LF _ _ _ _ _ _ (lv_sub hl [1, 2, 3, 4, 5, 6, 0] rfl) hP hS h
  exact L8 LF _ _ _ _ _ _ (lv_sub hl [3, 4, 5, 2, 1, 0] rfl) hP hS h
def fM_fillsDraw_J56 (z : MS) (K42 : Int32 → Int32 → Option MS) (l2 : Int32) (l4 : Int32) (l5 : Int32) : Option MS :=
  K42 (l4 - ((l2 >>> (l5 &&& 31)) &&& 1)) (l5 + 1)
def fM_fillsDraw_L42 (z : MS) (K4 : MS → Int32 → Int32 → Option MS) (l2 : Int32) (l3 : Int32) : Nat → Int32 → Int32 → Option MS
  | 0, _, _ => none
  | n + 1, l4, l5 => if ((l2 >>> (l5 &&& 31)) &&& 1) = 0 then fM_fillsDraw_J56 z (fM_fillsDraw_L42 z K4 l2 l3 n) l2 l4 l5 else (if l4 ≤ 0 then (if l3 < 0 ∨ 4 ≤ l3.toNatClampNeg then none else K4 (pI z 74 l3.toNatClampNeg l5) (l2 &&& (((1 : Int32) <<< (l5 &&& 31)) ^^^ (-1))) (l3 + 1)) else fM_fillsDraw_J56 z (fM_fillsDraw_L42 z K4 l2 l3 n) l2 l4 l5)
def fM_fillsDraw_L4 : Nat → MS → Int32 → Int32 → Option MS
  | 0, _, _, _ => none
  | n + 1, z, l2, l3 => if 4 ≤ l3 then some z else Option.bind (fM_ones l2) (fun w33 => if w33 = 0 then none else fM_fillsDraw_L42 (pI z 56 11 (((gI z 56 11) * 1103515245) + 12345)) (fM_fillsDraw_L4 n) l2 l3 LF (irm (iush (gI (pI z 56 11 (((gI z 56 11) * 1103515245) + 12345)) 56 11) 16) w33) 0)
def fM_fillsDraw (z : MS) (a0 : Int32) : Option MS :=
  fM_fillsDraw_L4 LF z a0 0
set_option maxRecDepth 4000 in
theorem cM_fillsDraw (l : Launch) {z : MS} {a0 : Int32} {z1 : MS} (h : fM_fillsDraw z a0 = some z1) : CT l yX10_fillsDraw cX10_fillsDraw 6 none 1 22 (fun ad sd => [.ref (ad 56), .int a0]) z none z1 := by
  rw [fM_fillsDraw] at h
  refine u_start RX10 rfl (by decide) (fun _ _ => Nat.le_of_ble_eq_true rfl) (fun p e s m args below meth c R D ad cs sd A Q ls X hP hS hl hr hret => ?_)
  have hl : lv_has ls 6 [(0, .ref (ad 56)), (1, .int a0)] := hl
  refine u_iload_n X hl dX10_fillsDraw_0 1 rfl ?_
  refine u_istore_n [(2, .int a0), (0, .ref (ad 56)), (1, .int a0)] X hl dX10_fillsDraw_1 (Nat.le_of_ble_eq_true rfl) rfl (fun ls hl => ?_)
  refine u_iconst (v := 0) X dX10_fillsDraw_2 rfl ?_
  refine u_istore_n [(3, .int 0), (2, .int a0), (0, .ref (ad 56)), (1, .int a0)] X hl dX10_fillsDraw_3 (Nat.le_of_ble_eq_true rfl) rfl (fun ls hl => ?_)
  have L4 : ∀ (n : Nat) (H : Heap) (locs : List Loc) (ls : Array Slot) (z_4 : MS) (l2_4 : Int32) (l3_4 : Int32), lv_has ls 6 [(0, .ref (ad 56)), (2, .int l2_4), (3, .int l3_4)] → va_P D clss (wld cs ad z_4) H → va_S A s.heap H locs → fM_fillsDraw_L4 n z_4 l2_4 l3_4 = some z1 → W p l e R s m args below meth c H locs 0 0 Q (F0 m 4 ls []) := by
    intro n
    induction n with
    | zero =>
      intro H locs ls z_4 l2_4 l3_4 hl hP hS h
      rw [fM_fillsDraw_L4] at h
      cases h
    | succ n4 ih4 =>
      intro H locs ls z_4 l2_4 l3_4 hl hP hS h
      rw [fM_fillsDraw_L4] at h
      refine u_iload_n X hl dX10_fillsDraw_4 2 rfl ?_
      refine u_iconst (v := 4) X dX10_fillsDraw_5 rfl ?_
      refine u_icmp_ge 96 X dX10_fillsDraw_6 rfl (fun hc => ?_) (fun hc => ?_)
      · rw [if_pos hc] at h
        exact u_vretM X hr hret h hP hS dX10_fillsDraw_96
      · rw [if_neg hc] at h
        refine u_aload_n X hl dX10_fillsDraw_9 0 rfl ?_
        refine u_aload_n X hl dX10_fillsDraw_10 0 rfl ?_
        refine gf_X10_34_56 X hP dX10_fillsDraw_11 ?_
        refine u_ldcw X dX10_fillsDraw_14 kw_X10_327 ?_
        refine u_imul X dX10_fillsDraw_17 ?_
        refine u_sipush (v := 12345) X dX10_fillsDraw_18 rfl ?_
        refine u_iadd X dX10_fillsDraw_21 ?_
        refine pf_X10_34_56 X hP hS dX10_fillsDraw_22 (fun H locs hP hS => ?_)
        refine u_aload_n X hl dX10_fillsDraw_25 0 rfl ?_
        refine gf_X10_34_56 X hP dX10_fillsDraw_26 ?_
        refine u_bipush (v := 16) X dX10_fillsDraw_29 rfl ?_
        refine u_iushr X dX10_fillsDraw_31 ?_
        refine u_iload_n X hl dX10_fillsDraw_32 1 rfl ?_
        obtain ⟨w33, hc33, h⟩ := ob_inv h
        refine u_callSi X hP hS hl dX10_fillsDraw_33 (cM_ones l (pI z_4 56 11 (((gI z_4 56 11) * 1103515245) + 12345)) hc33) cw_X10_312 rfl rfl rfl rfl ⟨rfl, rfl⟩ (fun H locs hP hS => ?_)
        obtain ⟨hn, h⟩ := ifn_inv h
        refine u_irem X hn dX10_fillsDraw_36 ?_
        refine u_istore [(4, .int (irm (iush (gI (pI z_4 56 11 (((gI z_4 56 11) * 1103515245) + 12345)) 56 11) 16) w33)), (0, .ref (ad 56)), (2, .int l2_4), (3, .int l3_4)] X hl dX10_fillsDraw_37 (Nat.le_of_ble_eq_true rfl) rfl (fun ls hl => ?_)
        refine u_iconst (v := 0) X dX10_fillsDraw_39 rfl ?_
        refine u_istore [(5, .int 0), (4, .int (irm (iush (gI (pI z_4 56 11 (((gI z_4 56 11) * 1103515245) + 12345)) 56 11) 16) w33)), (0, .ref (ad 56)), (2, .int l2_4), (3, .int l3_4)] X hl dX10_fillsDraw_40 (Nat.le_of_ble_eq_true rfl) rfl (fun ls hl => ?_)
        have L42 : ∀ (n : Nat) (H : Heap) (locs : List Loc) (ls : Array Slot) (l4_42 : Int32) (l5_42 : Int32), lv_has ls 6 [(0, .ref (ad 56)), (2, .int l2_4), (3, .int l3_4), (4, .int l4_42), (5, .int l5_42)] → va_P D clss (wld cs ad (pI z_4 56 11 (((gI z_4 56 11) * 1103515245) + 12345))) H → va_S A s.heap H locs → fM_fillsDraw_L42 (pI z_4 56 11 (((gI z_4 56 11) * 1103515245) + 12345)) (fM_fillsDraw_L4 n4) l2_4 l3_4 n l4_42 l5_42 = some z1 → W p l e R s m args below meth c H locs 0 0 Q (F0 m 42 ls []) := by
          intro n
          induction n with
          | zero =>
            intro H locs ls l4_42 l5_42 hl hP hS h
            rw [fM_fillsDraw_L42] at h
            cases h
          | succ n42 ih42 =>
            intro H locs ls l4_42 l5_42 hl hP hS h
            rw [fM_fillsDraw_L42] at h
            refine u_iload_n X hl dX10_fillsDraw_42 1 rfl ?_
            refine u_iload X hl dX10_fillsDraw_43 4 rfl ?_
            refine u_ishr X dX10_fillsDraw_45 ?_
            refine u_iconst (v := 1) X dX10_fillsDraw_46 rfl ?_
            refine u_iand X dX10_fillsDraw_47 ?_
            have J56 : ∀ (H : Heap) (locs : List Loc) (ls : Array Slot), lv_has ls 6 [(0, .ref (ad 56)), (2, .int l2_4), (3, .int l3_4), (4, .int l4_42), (5, .int l5_42)] → va_P D clss (wld cs ad (pI z_4 56 11 (((gI z_4 56 11) * 1103515245) + 12345))) H → va_S A s.heap H locs → fM_fillsDraw_J56 (pI z_4 56 11 (((gI z_4 56 11) * 1103515245) + 12345)) (fM_fillsDraw_L42 (pI z_4 56 11 (((gI z_4 56 11) * 1103515245) + 12345)) (fM_fillsDraw_L4 n4) l2_4 l3_4 n42) l2_4 l4_42 l5_42 = some z1 → W p l e R s m args below meth c H locs 0 0 Q (F0 m 56 ls []) := by
              intro H locs ls hl hP hS h
              rw [fM_fillsDraw_J56] at h
              refine u_iload X hl dX10_fillsDraw_56 3 rfl ?_
              refine u_iload_n X hl dX10_fillsDraw_58 1 rfl ?_
              refine u_iload X hl dX10_fillsDraw_59 4 rfl ?_
              refine u_ishr X dX10_fillsDraw_61 ?_
              refine u_iconst (v := 1) X dX10_fillsDraw_62 rfl ?_
              refine u_iand X dX10_fillsDraw_63 ?_
              refine u_isub X dX10_fillsDraw_64 ?_
              refine u_istore [(4, .int (l4_42 - ((l2_4 >>> (l5_42 &&& 31)) &&& 1))), (0, .ref (ad 56)), (2, .int l2_4), (3, .int l3_4), (5, .int l5_42)] X hl dX10_fillsDraw_65 (Nat.le_of_ble_eq_true rfl) rfl (fun ls hl => ?_)
              refine u_iinc [(5, .int (l5_42 + 1)), (4, .int (l4_42 - ((l2_4 >>> (l5_42 &&& 31)) &&& 1))), (0, .ref (ad 56)), (2, .int l2_4), (3, .int l3_4)] X hl dX10_fillsDraw_67 4 rfl rfl (Nat.le_of_ble_eq_true rfl) rfl (fun ls hl => ?_)
              refine u_goto 42 X dX10_fillsDraw_70 rfl ?_
              exact ih42 _ _ _ _ _ (lv_sub hl [2, 3, 4, 1, 0] rfl) hP hS h
            refine u_if_eq 56 X dX10_fillsDraw_48 rfl (fun hc => ?_) (fun hc => ?_)
            · rw [if_pos hc] at h
              exact J56 _ _ _ hl hP hS h
            · rw [if_neg hc] at h
              refine u_iload X hl dX10_fillsDraw_51 3 rfl ?_
              refine u_if_le 73 X dX10_fillsDraw_53 rfl (fun hc => ?_) (fun hc => ?_)
              · rw [if_pos hc] at h
                refine u_aload_n X hl dX10_fillsDraw_73 0 rfl ?_
                refine gf_X10_66_56 X hP dX10_fillsDraw_74 ?_
                refine u_iload_n X hl dX10_fillsDraw_77 2 rfl ?_
                refine u_iload X hl dX10_fillsDraw_78 4 rfl ?_
                obtain ⟨hin, h⟩ := ifn_inv h
                refine as_74 X hP hS rfl hin dX10_fillsDraw_80 (fun H locs hP hS => ?_)
                refine u_iload_n X hl dX10_fillsDraw_81 1 rfl ?_
                refine u_iconst (v := 1) X dX10_fillsDraw_82 rfl ?_
                refine u_iload X hl dX10_fillsDraw_83 4 rfl ?_
                refine u_ishl X dX10_fillsDraw_85 ?_
                refine u_iconst (v := (-1)) X dX10_fillsDraw_86 rfl ?_
                refine u_ixor X dX10_fillsDraw_87 ?_
                refine u_iand X dX10_fillsDraw_88 ?_
                refine u_istore_n [(2, .int (l2_4 &&& (((1 : Int32) <<< (l5_42 &&& 31)) ^^^ (-1)))), (0, .ref (ad 56)), (3, .int l3_4), (4, .int l4_42), (5, .int l5_42)] X hl dX10_fillsDraw_89 (Nat.le_of_ble_eq_true rfl) rfl (fun ls hl => ?_)
                refine u_iinc [(3, .int (l3_4 + 1)), (2, .int (l2_4 &&& (((1 : Int32) <<< (l5_42 &&& 31)) ^^^ (-1)))), (0, .ref (ad 56)), (4, .int l4_42), (5, .int l5_42)] X hl dX10_fillsDraw_90 2 rfl rfl (Nat.le_of_ble_eq_true rfl) rfl (fun ls hl => ?_)
                refine u_goto 4 X dX10_fillsDraw_93 rfl ?_
                exact ih4 _ _ _ _ _ _ (lv_sub hl [2, 1, 0] rfl) hP hS h
              · rw [if_neg hc] at h
                exact J56 _ _ _ hl hP hS h
        exact L42 LF _ _ _ _ _ (lv_sub hl [2, 3, 4, 1, 0] rfl) hP hS h
  exact L4 LF _ _ _ _ _ _ (lv_sub hl [2, 1, 0] rfl) hP hS h
def fM_fillsCount (z : MS) (a0 : Int32) : Option MS :=
  Option.bind (fM_fillsDraw z a0) (fun zc2 => if (gI zc2 74 0) < 0 ∨ 8 ≤ (gI zc2 74 0).toNatClampNeg then none else if (gI zc2 74 1) < 0 ∨ 8 ≤ (gI zc2 74 1).toNatClampNeg then none else if ((((a0 &&& (((1 : Int32) <<< ((gI zc2 74 0) &&& 31)) ^^^ (-1))) &&& (((1 : Int32) <<< ((gI zc2 74 1) &&& 31)) ^^^ (-1))) &&& (((1 : Int32) <<< ((gI zc2 74 2) &&& 31)) ^^^ (-1))) &&& (((gI zc2 57 (gI zc2 74 0).toNatClampNeg) ^^^ (-1)) &&& ((gI zc2 57 (gI zc2 74 1).toNatClampNeg) ^^^ (-1)))) = 0 then some (pI zc2 74 3 (gI zc2 74 3)) else Option.bind (fM_leastOf ((((a0 &&& (((1 : Int32) <<< ((gI zc2 74 0) &&& 31)) ^^^ (-1))) &&& (((1 : Int32) <<< ((gI zc2 74 1) &&& 31)) ^^^ (-1))) &&& (((1 : Int32) <<< ((gI zc2 74 2) &&& 31)) ^^^ (-1))) &&& (((gI zc2 57 (gI zc2 74 0).toNatClampNeg) ^^^ (-1)) &&& ((gI zc2 57 (gI zc2 74 1).toNatClampNeg) ^^^ (-1))))) (fun w89 => some (pI zc2 74 3 w89)))
set_option maxRecDepth 4000 in
theorem cM_fillsCount (l : Launch) {z : MS} {a0 : Int32} {z1 : MS} (h : fM_fillsCount z a0 = some z1) : CT l yX10_fillsCount cX10_fillsCount 3 none 2 47 (fun ad sd => [.ref (ad 56), .int a0]) z none z1 := by
  rw [fM_fillsCount] at h
  refine u_start RX10 rfl (by decide) (fun _ _ => Nat.le_of_ble_eq_true rfl) (fun p e s m args below meth c R D ad cs sd A Q ls X hP hS hl hr hret => ?_)
  have hl : lv_has ls 3 [(0, .ref (ad 56)), (1, .int a0)] := hl
  refine u_aload_n X hl dX10_fillsCount_0 0 rfl ?_
  refine u_iload_n X hl dX10_fillsCount_1 1 rfl ?_
  obtain ⟨zc2, hc2, h⟩ := ob_inv h
  refine u_callVv X hP hS hl dX10_fillsCount_2 (cM_fillsDraw l hc2) cw_X10_328 io_56 rfl rfl rfl rfl ⟨rfl, rfl⟩ (fun H locs hP hS => ?_)
  refine u_iload_n X hl dX10_fillsCount_5 1 rfl ?_
  refine u_iconst (v := 1) X dX10_fillsCount_6 rfl ?_
  refine u_aload_n X hl dX10_fillsCount_7 0 rfl ?_
  refine gf_X10_66_56 X hP dX10_fillsCount_8 ?_
  refine u_iconst (v := 0) X dX10_fillsCount_11 rfl ?_
  refine ld_74 (w := 0) X hP rfl (by decide) dX10_fillsCount_12 ?_
  refine u_ishl X dX10_fillsCount_13 ?_
  refine u_iconst (v := (-1)) X dX10_fillsCount_14 rfl ?_
  refine u_ixor X dX10_fillsCount_15 ?_
  refine u_iand X dX10_fillsCount_16 ?_
  refine u_iconst (v := 1) X dX10_fillsCount_17 rfl ?_
  refine u_aload_n X hl dX10_fillsCount_18 0 rfl ?_
  refine gf_X10_66_56 X hP dX10_fillsCount_19 ?_
  refine u_iconst (v := 1) X dX10_fillsCount_22 rfl ?_
  refine ld_74 (w := 1) X hP rfl (by decide) dX10_fillsCount_23 ?_
  refine u_ishl X dX10_fillsCount_24 ?_
  refine u_iconst (v := (-1)) X dX10_fillsCount_25 rfl ?_
  refine u_ixor X dX10_fillsCount_26 ?_
  refine u_iand X dX10_fillsCount_27 ?_
  refine u_iconst (v := 1) X dX10_fillsCount_28 rfl ?_
  refine u_aload_n X hl dX10_fillsCount_29 0 rfl ?_
  refine gf_X10_66_56 X hP dX10_fillsCount_30 ?_
  refine u_iconst (v := 2) X dX10_fillsCount_33 rfl ?_
  refine ld_74 (w := 2) X hP rfl (by decide) dX10_fillsCount_34 ?_
  refine u_ishl X dX10_fillsCount_35 ?_
  refine u_iconst (v := (-1)) X dX10_fillsCount_36 rfl ?_
  refine u_ixor X dX10_fillsCount_37 ?_
  refine u_iand X dX10_fillsCount_38 ?_
  refine u_istore_n [(2, .int (((a0 &&& (((1 : Int32) <<< ((gI zc2 74 0) &&& 31)) ^^^ (-1))) &&& (((1 : Int32) <<< ((gI zc2 74 1) &&& 31)) ^^^ (-1))) &&& (((1 : Int32) <<< ((gI zc2 74 2) &&& 31)) ^^^ (-1)))), (0, .ref (ad 56)), (1, .int a0)] X hl dX10_fillsCount_39 (Nat.le_of_ble_eq_true rfl) rfl (fun ls hl => ?_)
  refine u_iload_n X hl dX10_fillsCount_40 0 rfl ?_
  refine u_aload_n X hl dX10_fillsCount_41 1 rfl ?_
  refine gf_X10_7_56 X hP dX10_fillsCount_42 ?_
  refine u_aload_n X hl dX10_fillsCount_45 1 rfl ?_
  refine gf_X10_66_56 X hP dX10_fillsCount_46 ?_
  refine u_iconst (v := 0) X dX10_fillsCount_49 rfl ?_
  refine ld_74 (w := 0) X hP rfl (by decide) dX10_fillsCount_50 ?_
  obtain ⟨hin, h⟩ := ifn_inv h
  refine ld_57 X hP rfl hin dX10_fillsCount_51 ?_
  refine u_iconst (v := (-1)) X dX10_fillsCount_52 rfl ?_
  refine u_ixor X dX10_fillsCount_53 ?_
  refine u_aload_n X hl dX10_fillsCount_54 1 rfl ?_
  refine gf_X10_7_56 X hP dX10_fillsCount_55 ?_
  refine u_aload_n X hl dX10_fillsCount_58 1 rfl ?_
  refine gf_X10_66_56 X hP dX10_fillsCount_59 ?_
  refine u_iconst (v := 1) X dX10_fillsCount_62 rfl ?_
  refine ld_74 (w := 1) X hP rfl (by decide) dX10_fillsCount_63 ?_
  obtain ⟨hin, h⟩ := ifn_inv h
  refine ld_57 X hP rfl hin dX10_fillsCount_64 ?_
  refine u_iconst (v := (-1)) X dX10_fillsCount_65 rfl ?_
  refine u_ixor X dX10_fillsCount_66 ?_
  refine u_iand X dX10_fillsCount_67 ?_
  refine u_iand X dX10_fillsCount_68 ?_
  refine u_istore_n [(2, .int ((((a0 &&& (((1 : Int32) <<< ((gI zc2 74 0) &&& 31)) ^^^ (-1))) &&& (((1 : Int32) <<< ((gI zc2 74 1) &&& 31)) ^^^ (-1))) &&& (((1 : Int32) <<< ((gI zc2 74 2) &&& 31)) ^^^ (-1))) &&& (((gI zc2 57 (gI zc2 74 0).toNatClampNeg) ^^^ (-1)) &&& ((gI zc2 57 (gI zc2 74 1).toNatClampNeg) ^^^ (-1))))), (0, .ref (ad 56)), (1, .int a0)] X hl dX10_fillsCount_69 (Nat.le_of_ble_eq_true rfl) rfl (fun ls hl => ?_)
  refine u_aload_n X hl dX10_fillsCount_70 1 rfl ?_
  refine gf_X10_66_56 X hP dX10_fillsCount_71 ?_
  refine u_iconst (v := 3) X dX10_fillsCount_74 rfl ?_
  refine u_iload_n X hl dX10_fillsCount_75 0 rfl ?_
  refine u_if_ne 88 X dX10_fillsCount_76 rfl (fun hc => ?_) (fun hc => ?_)
  · rw [if_neg hc] at h
    refine u_iload_n X hl dX10_fillsCount_88 0 rfl ?_
    obtain ⟨w89, hc89, h⟩ := ob_inv h
    refine u_callSi X hP hS hl dX10_fillsCount_89 (cM_leastOf l zc2 hc89) cw_X10_324 rfl rfl rfl rfl ⟨rfl, rfl⟩ (fun H locs hP hS => ?_)
    refine as_74 (w := 3) X hP hS rfl (by decide) dX10_fillsCount_92 (fun H locs hP hS => ?_)
    exact u_vretM X hr hret h hP hS dX10_fillsCount_93
  · rw [if_pos hc] at h
    refine u_aload_n X hl dX10_fillsCount_79 1 rfl ?_
    refine gf_X10_66_56 X hP dX10_fillsCount_80 ?_
    refine u_iconst (v := 3) X dX10_fillsCount_83 rfl ?_
    refine ld_74 (w := 3) X hP rfl (by decide) dX10_fillsCount_84 ?_
    refine u_goto 92 X dX10_fillsCount_85 rfl ?_
    refine as_74 (w := 3) X hP hS rfl (by decide) dX10_fillsCount_92 (fun H locs hP hS => ?_)
    exact u_vretM X hr hret h hP hS dX10_fillsCount_93
def fM_fillsTold_L4 (l1 : Int32) : Nat → MS → Int32 → Int32 → Option (Int32 × MS)
  | 0, _, _, _ => none
  | n + 1, z, l2, l3 => if 4 ≤ l3 then (if l2 = 0 ∨ l2 = 1 then some (l2, z) else none) else (if l3 < 0 ∨ 4 ≤ l3.toNatClampNeg then none else if l2 = 0 then fM_fillsTold_L4 l1 n (pI z 74 l3.toNatClampNeg ((l1 >>> ((3 * l3) &&& 31)) &&& 7)) 0 (l3 + 1) else (if l3 < 0 ∨ 4 ≤ l3.toNatClampNeg then none else if (fM_isPerson (pI z 74 l3.toNatClampNeg ((l1 >>> ((3 * l3) &&& 31)) &&& 7)) (gI (pI z 74 l3.toNatClampNeg ((l1 >>> ((3 * l3) &&& 31)) &&& 7)) 74 l3.toNatClampNeg)) = 0 then fM_fillsTold_L4 l1 n (pI z 74 l3.toNatClampNeg ((l1 >>> ((3 * l3) &&& 31)) &&& 7)) 0 (l3 + 1) else fM_fillsTold_L4 l1 n (pI z 74 l3.toNatClampNeg ((l1 >>> ((3 * l3) &&& 31)) &&& 7)) 1 (l3 + 1)))
def fM_fillsTold (z : MS) (a0 : Int32) : Option (Int32 × MS) :=
  fM_fillsTold_L4 a0 LF z 1 0
set_option maxRecDepth 4000 in
theorem cM_fillsTold (l : Launch) {z : MS} {a0 : Int32} {r : Int32} {z1 : MS} (h : fM_fillsTold z a0 = some (r, z1)) : CT l yX10_fillsTold cX10_fillsTold 4 (some .boolean) 2 43 (fun ad sd => [.ref (ad 56), .int a0]) z (some (.int r)) z1 := by
  rw [fM_fillsTold] at h
  refine u_start RX10 rfl (by decide) (fun _ _ => Nat.le_of_ble_eq_true rfl) (fun p e s m args below meth c R D ad cs sd A Q ls X hP hS hl hr hret => ?_)
  have hl : lv_has ls 4 [(0, .ref (ad 56)), (1, .int a0)] := hl
  refine u_iconst (v := 1) X dX10_fillsTold_0 rfl ?_
  refine u_istore_n [(2, .int 1), (0, .ref (ad 56)), (1, .int a0)] X hl dX10_fillsTold_1 (Nat.le_of_ble_eq_true rfl) rfl (fun ls hl => ?_)
  refine u_iconst (v := 0) X dX10_fillsTold_2 rfl ?_
  refine u_istore_n [(3, .int 0), (2, .int 1), (0, .ref (ad 56)), (1, .int a0)] X hl dX10_fillsTold_3 (Nat.le_of_ble_eq_true rfl) rfl (fun ls hl => ?_)
  have L4 : ∀ (n : Nat) (H : Heap) (locs : List Loc) (ls : Array Slot) (z_4 : MS) (l2_4 : Int32) (l3_4 : Int32), lv_has ls 4 [(0, .ref (ad 56)), (1, .int a0), (2, .int l2_4), (3, .int l3_4)] → va_P D clss (wld cs ad z_4) H → va_S A s.heap H locs → fM_fillsTold_L4 a0 n z_4 l2_4 l3_4 = some (r, z1) → W p l e R s m args below meth c H locs 0 0 Q (F0 m 4 ls []) := by
    intro n
    induction n with
    | zero =>
      intro H locs ls z_4 l2_4 l3_4 hl hP hS h
      rw [fM_fillsTold_L4] at h
      cases h
    | succ n4 ih4 =>
      intro H locs ls z_4 l2_4 l3_4 hl hP hS h
      rw [fM_fillsTold_L4] at h
      refine u_iload_n X hl dX10_fillsTold_4 3 rfl ?_
      refine u_iconst (v := 4) X dX10_fillsTold_5 rfl ?_
      refine u_icmp_ge 52 X dX10_fillsTold_6 rfl (fun hc => ?_) (fun hc => ?_)
      · rw [if_pos hc] at h
        refine u_iload_n X hl dX10_fillsTold_52 2 rfl ?_
        obtain ⟨hb, h⟩ := ifb_inv h
        exact u_zretM X hr hret h hP hS hb dX10_fillsTold_53
      · rw [if_neg hc] at h
        refine u_aload_n X hl dX10_fillsTold_9 0 rfl ?_
        refine gf_X10_66_56 X hP dX10_fillsTold_10 ?_
        refine u_iload_n X hl dX10_fillsTold_13 3 rfl ?_
        refine u_iload_n X hl dX10_fillsTold_14 1 rfl ?_
        refine u_iconst (v := 3) X dX10_fillsTold_15 rfl ?_
        refine u_iload_n X hl dX10_fillsTold_16 3 rfl ?_
        refine u_imul X dX10_fillsTold_17 ?_
        refine u_ishr X dX10_fillsTold_18 ?_
        refine u_bipush (v := 7) X dX10_fillsTold_19 rfl ?_
        refine u_iand X dX10_fillsTold_21 ?_
        obtain ⟨hin, h⟩ := ifn_inv h
        refine as_74 X hP hS rfl hin dX10_fillsTold_22 (fun H locs hP hS => ?_)
        refine u_iload_n X hl dX10_fillsTold_23 2 rfl ?_
        refine u_if_eq 44 X dX10_fillsTold_24 rfl (fun hc => ?_) (fun hc => ?_)
        · rw [if_pos hc] at h
          refine u_iconst (v := 0) X dX10_fillsTold_44 rfl ?_
          refine u_istore_n [(2, .int 0), (0, .ref (ad 56)), (1, .int a0), (3, .int l3_4)] X hl dX10_fillsTold_45 (Nat.le_of_ble_eq_true rfl) rfl (fun ls hl => ?_)
          refine u_iinc [(3, .int (l3_4 + 1)), (2, .int 0), (0, .ref (ad 56)), (1, .int a0)] X hl dX10_fillsTold_46 3 rfl rfl (Nat.le_of_ble_eq_true rfl) rfl (fun ls hl => ?_)
          refine u_goto 4 X dX10_fillsTold_49 rfl ?_
          exact ih4 _ _ _ _ _ _ (lv_sub hl [2, 3, 1, 0] rfl) hP hS h
        · rw [if_neg hc] at h
          refine u_aload_n X hl dX10_fillsTold_27 0 rfl ?_
          refine u_aload_n X hl dX10_fillsTold_28 0 rfl ?_
          refine gf_X10_66_56 X hP dX10_fillsTold_29 ?_
          refine u_iload_n X hl dX10_fillsTold_32 3 rfl ?_
          obtain ⟨hin, h⟩ := ifn_inv h
          refine ld_74 X hP rfl hin dX10_fillsTold_33 ?_
          refine u_callVi X hP hS hl dX10_fillsTold_34 (cM_isPerson l (pI z_4 74 l3_4.toNatClampNeg ((a0 >>> ((3 * l3_4) &&& 31)) &&& 7)) (gI (pI z_4 74 l3_4.toNatClampNeg ((a0 >>> ((3 * l3_4) &&& 31)) &&& 7)) 74 l3_4.toNatClampNeg)) cw_X10_109 io_56 rfl rfl rfl rfl ⟨rfl, rfl⟩ (fun H locs hP hS => ?_)
          refine u_if_eq 44 X dX10_fillsTold_37 rfl (fun hc => ?_) (fun hc => ?_)
          · rw [if_pos hc] at h
            refine u_iconst (v := 0) X dX10_fillsTold_44 rfl ?_
            refine u_istore_n [(2, .int 0), (0, .ref (ad 56)), (1, .int a0), (3, .int l3_4)] X hl dX10_fillsTold_45 (Nat.le_of_ble_eq_true rfl) rfl (fun ls hl => ?_)
            refine u_iinc [(3, .int (l3_4 + 1)), (2, .int 0), (0, .ref (ad 56)), (1, .int a0)] X hl dX10_fillsTold_46 3 rfl rfl (Nat.le_of_ble_eq_true rfl) rfl (fun ls hl => ?_)
            refine u_goto 4 X dX10_fillsTold_49 rfl ?_
            exact ih4 _ _ _ _ _ _ (lv_sub hl [2, 3, 1, 0] rfl) hP hS h
          · rw [if_neg hc] at h
            refine u_iconst (v := 1) X dX10_fillsTold_40 rfl ?_
            refine u_goto 45 X dX10_fillsTold_41 rfl ?_
            refine u_istore_n [(2, .int 1), (0, .ref (ad 56)), (1, .int a0), (3, .int l3_4)] X hl dX10_fillsTold_45 (Nat.le_of_ble_eq_true rfl) rfl (fun ls hl => ?_)
            refine u_iinc [(3, .int (l3_4 + 1)), (2, .int 1), (0, .ref (ad 56)), (1, .int a0)] X hl dX10_fillsTold_46 3 rfl rfl (Nat.le_of_ble_eq_true rfl) rfl (fun ls hl => ?_)
            refine u_goto 4 X dX10_fillsTold_49 rfl ?_
            exact ih4 _ _ _ _ _ _ (lv_sub hl [2, 3, 1, 0] rfl) hP hS h
  exact L4 LF _ _ _ _ _ _ (lv_sub hl [2, 3, 1, 0] rfl) hP hS h
def fM_fill_L190 (l2 : Int32) : Nat → MS → Int32 → Option (Int32 × MS)
  | 0, _, _ => none
  | n + 1, z, l6 => if 4 ≤ l6 then some ((((gI z 74 0) ||| ((gI z 74 1) <<< (3 &&& 31))) ||| ((gI z 74 2) <<< (6 &&& 31))) ||| ((gI z 74 3) <<< (9 &&& 31)), z) else (if l6 < 0 ∨ 4 ≤ l6.toNatClampNeg then none else if ((4 * l2) + l6) < 0 ∨ 40 ≤ ((4 * l2) + l6).toNatClampNeg then none else fM_fill_L190 l2 n (pI z 60 ((4 * l2) + l6).toNatClampNeg (gI z 74 l6.toNatClampNeg)) (l6 + 1))
def fM_fill_J152 (z : MS) (l2 : Int32) (l5 : Int32) : Option (Int32 × MS) :=
  Option.bind (fM_fillsTurn z l5 l2) (fun zc156 => fM_fill_L190 l2 LF zc156 0)
def fM_fill_J142 (z : MS) (l2 : Int32) (l3 : Int32) (l5 : Int32) : Option (Int32 × MS) :=
  if l3 = 1 then fM_fill_J152 z l2 l5 else (if l3 = 4 then fM_fill_J152 z l2 l5 else (if l3 = 2 then Option.bind (fM_fillsDraw z l5) (fun zc170 => fM_fill_L190 l2 LF zc170 0) else (if l3 = 3 then Option.bind (fM_fillsCount z l5) (fun zc184 => fM_fill_L190 l2 LF zc184 0) else fM_fill_L190 l2 LF z 0)))
def fM_fill_J77 (z : MS) (K44 : Int32 → Int32 → Option (Int32 × MS)) (l2 : Int32) (l5 : Int32) (l6 : Int32) (s0 : Int32) : Option (Int32 × MS) :=
  Option.bind (fM_isAway z l6 l2) (fun w85 => if w85 = 0 then (if s0 = 0 then K44 (l5 ||| ((1 : Int32) <<< (l6 &&& 31))) (l6 + 1) else K44 (l5 ||| 0) (l6 + 1)) else K44 (l5 ||| 0) (l6 + 1))
def fM_fill_J76 (z : MS) (K44 : Int32 → Int32 → Option (Int32 × MS)) (l2 : Int32) (l5 : Int32) (l6 : Int32) : Option (Int32 × MS) :=
  fM_fill_J77 z K44 l2 l5 l6 0
def fM_fill_L44 (z : MS) (l2 : Int32) (l3 : Int32) (l4 : Int32) : Nat → Int32 → Int32 → Option (Int32 × MS)
  | 0, _, _ => none
  | n + 1, l5, l6 => if (gI z 56 0) ≤ l6 then (if l3 = 5 then ob2 (fM_fillsTold z l4) (fun w121 zc121 => if w121 = 0 then some ((-3), zc121) else fM_fill_J142 zc121 l2 l3 l5) else Option.bind (fM_ones l5) (fun w132 => if 4 ≤ w132 then fM_fill_J142 z l2 l3 l5 else some ((-3), z))) else (if l3 = 4 then (if (gI z 56 0) = 0 then none else if (irm (l4 + l2) (gI z 56 0)) = l6 then fM_fill_J77 z (fM_fill_L44 z l2 l3 l4 n) l2 l5 l6 1 else fM_fill_J76 z (fM_fill_L44 z l2 l3 l4 n) l2 l5 l6) else fM_fill_J76 z (fM_fill_L44 z l2 l3 l4 n) l2 l5 l6)
def fM_fill (z : MS) (a0 : Int32) (a1 : Int32) : Option (Int32 × MS) :=
  if (fM_isPlan z a0) = 0 then some ((-1), z) else (if (fM_isDay a1) = 0 then some ((-1), z) else (if (2 * a0) < 0 ∨ 8 ≤ (2 * a0).toNatClampNeg then none else if ((2 * a0) + 1) < 0 ∨ 8 ≤ ((2 * a0) + 1).toNatClampNeg then none else fM_fill_L44 z a1 (gI z 64 (2 * a0).toNatClampNeg) (gI z 64 ((2 * a0) + 1).toNatClampNeg) LF 0 0))
set_option maxRecDepth 4000 in
theorem cM_fill (l : Launch) {z : MS} {a0 : Int32} {a1 : Int32} {r : Int32} {z1 : MS} (h : fM_fill z a0 a1 = some (r, z1)) : CT l yX10_fill cX10_fill 8 (some .int) 3 78 (fun ad sd => [.ref (ad 56), .int a0, .int a1]) z (some (.int r)) z1 := by
  rw [fM_fill] at h
  refine u_start RX10 rfl (by decide) (fun _ _ => Nat.le_of_ble_eq_true rfl) (fun p e s m args below meth c R D ad cs sd A Q ls X hP hS hl hr hret => ?_)
  have hl : lv_has ls 8 [(0, .ref (ad 56)), (1, .int a0), (2, .int a1)] := hl
  refine u_aload_n X hl dX10_fill_0 0 rfl ?_
  refine u_iload_n X hl dX10_fill_1 1 rfl ?_
  refine u_callVi X hP hS hl dX10_fill_2 (cM_isPlan l z a0) cw_X10_318 io_56 rfl rfl rfl rfl ⟨rfl, rfl⟩ (fun H locs hP hS => ?_)
  refine u_if_eq 15 X dX10_fill_5 rfl (fun hc => ?_) (fun hc => ?_)
  · rw [if_pos hc] at h
    refine u_iconst (v := (-1)) X dX10_fill_15 rfl ?_
    exact u_iretM X hr hret h hP hS dX10_fill_16
  · rw [if_neg hc] at h
    refine u_iload_n X hl dX10_fill_8 2 rfl ?_
    refine u_callSi X hP hS hl dX10_fill_9 (cM_isDay l z a1) cw_X10_233 rfl rfl rfl rfl ⟨rfl, rfl⟩ (fun H locs hP hS => ?_)
    refine u_if_ne 17 X dX10_fill_12 rfl (fun hc => ?_) (fun hc => ?_)
    · rw [if_neg hc] at h
      refine u_aload_n X hl dX10_fill_17 0 rfl ?_
      refine gf_X10_31_56 X hP dX10_fill_18 ?_
      refine u_iconst (v := 2) X dX10_fill_21 rfl ?_
      refine u_iload_n X hl dX10_fill_22 1 rfl ?_
      refine u_imul X dX10_fill_23 ?_
      obtain ⟨hin, h⟩ := ifn_inv h
      refine ld_64 X hP rfl hin dX10_fill_24 ?_
      refine u_istore_n [(3, .int (gI z 64 (2 * a0).toNatClampNeg)), (0, .ref (ad 56)), (1, .int a0), (2, .int a1)] X hl dX10_fill_25 (Nat.le_of_ble_eq_true rfl) rfl (fun ls hl => ?_)
      refine u_aload_n X hl dX10_fill_26 1 rfl ?_
      refine gf_X10_31_56 X hP dX10_fill_27 ?_
      refine u_iconst (v := 2) X dX10_fill_30 rfl ?_
      refine u_iload_n X hl dX10_fill_31 2 rfl ?_
      refine u_imul X dX10_fill_32 ?_
      refine u_iconst (v := 1) X dX10_fill_33 rfl ?_
      refine u_iadd X dX10_fill_34 ?_
      obtain ⟨hin, h⟩ := ifn_inv h
      refine ld_64 X hP rfl hin dX10_fill_35 ?_
      refine u_istore [(4, .int (gI z 64 ((2 * a0) + 1).toNatClampNeg)), (3, .int (gI z 64 (2 * a0).toNatClampNeg)), (0, .ref (ad 56)), (1, .int a0), (2, .int a1)] X hl dX10_fill_36 (Nat.le_of_ble_eq_true rfl) rfl (fun ls hl => ?_)
      refine u_iconst (v := 0) X dX10_fill_38 rfl ?_
      refine u_istore [(5, .int 0), (4, .int (gI z 64 ((2 * a0) + 1).toNatClampNeg)), (3, .int (gI z 64 (2 * a0).toNatClampNeg)), (0, .ref (ad 56)), (1, .int a0), (2, .int a1)] X hl dX10_fill_39 (Nat.le_of_ble_eq_true rfl) rfl (fun ls hl => ?_)
      refine u_iconst (v := 0) X dX10_fill_41 rfl ?_
      refine u_istore [(6, .int 0), (5, .int 0), (4, .int (gI z 64 ((2 * a0) + 1).toNatClampNeg)), (3, .int (gI z 64 (2 * a0).toNatClampNeg)), (0, .ref (ad 56)), (1, .int a0), (2, .int a1)] X hl dX10_fill_42 (Nat.le_of_ble_eq_true rfl) rfl (fun ls hl => ?_)
      have L44 : ∀ (n : Nat) (H : Heap) (locs : List Loc) (ls : Array Slot) (l5_44 : Int32) (l6_44 : Int32), lv_has ls 8 [(0, .ref (ad 56)), (2, .int a1), (3, .int (gI z 64 (2 * a0).toNatClampNeg)), (4, .int (gI z 64 ((2 * a0) + 1).toNatClampNeg)), (5, .int l5_44), (6, .int l6_44)] → va_P D clss (wld cs ad z) H → va_S A s.heap H locs → fM_fill_L44 z a1 (gI z 64 (2 * a0).toNatClampNeg) (gI z 64 ((2 * a0) + 1).toNatClampNeg) n l5_44 l6_44 = some (r, z1) → W p l e R s m args below meth c H locs 0 0 Q (F0 m 44 ls []) := by
        intro n
        induction n with
        | zero =>
          intro H locs ls l5_44 l6_44 hl hP hS h
          rw [fM_fill_L44] at h
          cases h
        | succ n44 ih44 =>
          intro H locs ls l5_44 l6_44 hl hP hS h
          rw [fM_fill_L44] at h
          refine u_iload X hl dX10_fill_44 5 rfl ?_
          refine u_aload_n X hl dX10_fill_46 0 rfl ?_
          refine gf_X10_102_56 X hP dX10_fill_47 ?_
          refine u_icmp_ge 113 X dX10_fill_50 rfl (fun hc => ?_) (fun hc => ?_)
          · rw [if_pos hc] at h
            refine u_iload_n X hl dX10_fill_113 2 rfl ?_
            refine u_iconst (v := 5) X dX10_fill_114 rfl ?_
            have J142 : ∀ (H : Heap) (locs : List Loc) (ls : Array Slot) (z_142 : MS), lv_has ls 8 [(0, .ref (ad 56)), (2, .int a1), (3, .int (gI z 64 (2 * a0).toNatClampNeg)), (5, .int l5_44)] → va_P D clss (wld cs ad z_142) H → va_S A s.heap H locs → fM_fill_J142 z_142 a1 (gI z 64 (2 * a0).toNatClampNeg) l5_44 = some (r, z1) → W p l e R s m args below meth c H locs 0 0 Q (F0 m 142 ls []) := by
              intro H locs ls z_142 hl hP hS h
              rw [fM_fill_J142] at h
              refine u_iload_n X hl dX10_fill_142 2 rfl ?_
              refine u_iconst (v := 1) X dX10_fill_143 rfl ?_
              have J152 : ∀ (H : Heap) (locs : List Loc) (ls : Array Slot), lv_has ls 8 [(0, .ref (ad 56)), (2, .int a1), (5, .int l5_44)] → va_P D clss (wld cs ad z_142) H → va_S A s.heap H locs → fM_fill_J152 z_142 a1 l5_44 = some (r, z1) → W p l e R s m args below meth c H locs 0 0 Q (F0 m 152 ls []) := by
                intro H locs ls hl hP hS h
                rw [fM_fill_J152] at h
                refine u_aload_n X hl dX10_fill_152 0 rfl ?_
                refine u_iload X hl dX10_fill_153 2 rfl ?_
                refine u_iload_n X hl dX10_fill_155 1 rfl ?_
                obtain ⟨zc156, hc156, h⟩ := ob_inv h
                refine u_callVv X hP hS hl dX10_fill_156 (cM_fillsTurn l hc156) cw_X10_335 io_56 rfl rfl rfl rfl ⟨rfl, rfl⟩ (fun H locs hP hS => ?_)
                refine u_goto 187 X dX10_fill_159 rfl ?_
                refine u_iconst (v := 0) X dX10_fill_187 rfl ?_
                refine u_istore [(6, .int 0), (0, .ref (ad 56)), (2, .int a1), (5, .int l5_44)] X hl dX10_fill_188 (Nat.le_of_ble_eq_true rfl) rfl (fun ls hl => ?_)
                have L190 : ∀ (n : Nat) (H : Heap) (locs : List Loc) (ls : Array Slot) (z_190 : MS) (l6_190 : Int32), lv_has ls 8 [(0, .ref (ad 56)), (2, .int a1), (6, .int l6_190)] → va_P D clss (wld cs ad z_190) H → va_S A s.heap H locs → fM_fill_L190 a1 n z_190 l6_190 = some (r, z1) → W p l e R s m args below meth c H locs 0 0 Q (F0 m 190 ls []) := by
                  intro n
                  induction n with
                  | zero =>
                    intro H locs ls z_190 l6_190 hl hP hS h
                    rw [fM_fill_L190] at h
                    cases h
                  | succ n190 ih190 =>
                    intro H locs ls z_190 l6_190 hl hP hS h
                    rw [fM_fill_L190] at h
                    refine u_iload X hl dX10_fill_190 2 rfl ?_
                    refine u_iconst (v := 4) X dX10_fill_192 rfl ?_
                    refine u_icmp_ge 220 X dX10_fill_193 rfl (fun hc => ?_) (fun hc => ?_)
                    · rw [if_pos hc] at h
                      refine u_aload_n X hl dX10_fill_220 0 rfl ?_
                      refine gf_X10_66_56 X hP dX10_fill_221 ?_
                      refine u_iconst (v := 0) X dX10_fill_224 rfl ?_
                      refine ld_74 (w := 0) X hP rfl (by decide) dX10_fill_225 ?_
                      refine u_aload_n X hl dX10_fill_226 0 rfl ?_
                      refine gf_X10_66_56 X hP dX10_fill_227 ?_
                      refine u_iconst (v := 1) X dX10_fill_230 rfl ?_
                      refine ld_74 (w := 1) X hP rfl (by decide) dX10_fill_231 ?_
                      refine u_iconst (v := 3) X dX10_fill_232 rfl ?_
                      refine u_ishl X dX10_fill_233 ?_
                      refine u_ior X dX10_fill_234 ?_
                      refine u_aload_n X hl dX10_fill_235 0 rfl ?_
                      refine gf_X10_66_56 X hP dX10_fill_236 ?_
                      refine u_iconst (v := 2) X dX10_fill_239 rfl ?_
                      refine ld_74 (w := 2) X hP rfl (by decide) dX10_fill_240 ?_
                      refine u_bipush (v := 6) X dX10_fill_241 rfl ?_
                      refine u_ishl X dX10_fill_243 ?_
                      refine u_ior X dX10_fill_244 ?_
                      refine u_aload_n X hl dX10_fill_245 0 rfl ?_
                      refine gf_X10_66_56 X hP dX10_fill_246 ?_
                      refine u_iconst (v := 3) X dX10_fill_249 rfl ?_
                      refine ld_74 (w := 3) X hP rfl (by decide) dX10_fill_250 ?_
                      refine u_bipush (v := 9) X dX10_fill_251 rfl ?_
                      refine u_ishl X dX10_fill_253 ?_
                      refine u_ior X dX10_fill_254 ?_
                      exact u_iretM X hr hret h hP hS dX10_fill_255
                    · rw [if_neg hc] at h
                      refine u_aload_n X hl dX10_fill_196 0 rfl ?_
                      refine gf_X10_19_56 X hP dX10_fill_197 ?_
                      refine u_iconst (v := 4) X dX10_fill_200 rfl ?_
                      refine u_iload_n X hl dX10_fill_201 1 rfl ?_
                      refine u_imul X dX10_fill_202 ?_
                      refine u_iload X hl dX10_fill_203 2 rfl ?_
                      refine u_iadd X dX10_fill_205 ?_
                      refine u_aload_n X hl dX10_fill_206 0 rfl ?_
                      refine gf_X10_66_56 X hP dX10_fill_207 ?_
                      refine u_iload X hl dX10_fill_210 2 rfl ?_
                      obtain ⟨hin, h⟩ := ifn_inv h
                      refine ld_74 X hP rfl hin dX10_fill_212 ?_
                      obtain ⟨hin, h⟩ := ifn_inv h
                      refine as_60 X hP hS rfl hin dX10_fill_213 (fun H locs hP hS => ?_)
                      refine u_iinc [(6, .int (l6_190 + 1)), (0, .ref (ad 56)), (2, .int a1)] X hl dX10_fill_214 2 rfl rfl (Nat.le_of_ble_eq_true rfl) rfl (fun ls hl => ?_)
                      refine u_goto 190 X dX10_fill_217 rfl ?_
                      exact ih190 _ _ _ _ _ (lv_sub hl [1, 2, 0] rfl) hP hS h
                exact L190 LF _ _ _ _ _ (lv_sub hl [1, 2, 0] rfl) hP hS h
              refine u_icmp_eq 152 X dX10_fill_144 rfl (fun hc => ?_) (fun hc => ?_)
              · rw [if_pos hc] at h
                exact J152 _ _ _ (lv_sub hl [0, 1, 3] rfl) hP hS h
              · rw [if_neg hc] at h
                refine u_iload_n X hl dX10_fill_147 2 rfl ?_
                refine u_iconst (v := 4) X dX10_fill_148 rfl ?_
                refine u_icmp_ne 162 X dX10_fill_149 rfl (fun hc => ?_) (fun hc => ?_)
                · rw [if_neg hc] at h
                  refine u_iload_n X hl dX10_fill_162 2 rfl ?_
                  refine u_iconst (v := 2) X dX10_fill_163 rfl ?_
                  refine u_icmp_ne 176 X dX10_fill_164 rfl (fun hc => ?_) (fun hc => ?_)
                  · rw [if_neg hc] at h
                    refine u_iload_n X hl dX10_fill_176 2 rfl ?_
                    refine u_iconst (v := 3) X dX10_fill_177 rfl ?_
                    refine u_icmp_ne 187 X dX10_fill_178 rfl (fun hc => ?_) (fun hc => ?_)
                    · rw [if_neg hc] at h
                      refine u_iconst (v := 0) X dX10_fill_187 rfl ?_
                      refine u_istore [(6, .int 0), (0, .ref (ad 56)), (2, .int a1), (3, .int (gI z 64 (2 * a0).toNatClampNeg)), (5, .int l5_44)] X hl dX10_fill_188 (Nat.le_of_ble_eq_true rfl) rfl (fun ls hl => ?_)
                      have L190 : ∀ (n : Nat) (H : Heap) (locs : List Loc) (ls : Array Slot) (z_190 : MS) (l6_190 : Int32), lv_has ls 8 [(0, .ref (ad 56)), (2, .int a1), (6, .int l6_190)] → va_P D clss (wld cs ad z_190) H → va_S A s.heap H locs → fM_fill_L190 a1 n z_190 l6_190 = some (r, z1) → W p l e R s m args below meth c H locs 0 0 Q (F0 m 190 ls []) := by
                        intro n
                        induction n with
                        | zero =>
                          intro H locs ls z_190 l6_190 hl hP hS h
                          rw [fM_fill_L190] at h
                          cases h
                        | succ n190 ih190 =>
                          intro H locs ls z_190 l6_190 hl hP hS h
                          rw [fM_fill_L190] at h
                          refine u_iload X hl dX10_fill_190 2 rfl ?_
                          refine u_iconst (v := 4) X dX10_fill_192 rfl ?_
                          refine u_icmp_ge 220 X dX10_fill_193 rfl (fun hc => ?_) (fun hc => ?_)
                          · rw [if_pos hc] at h
                            refine u_aload_n X hl dX10_fill_220 0 rfl ?_
                            refine gf_X10_66_56 X hP dX10_fill_221 ?_
                            refine u_iconst (v := 0) X dX10_fill_224 rfl ?_
                            refine ld_74 (w := 0) X hP rfl (by decide) dX10_fill_225 ?_
                            refine u_aload_n X hl dX10_fill_226 0 rfl ?_
                            refine gf_X10_66_56 X hP dX10_fill_227 ?_
                            refine u_iconst (v := 1) X dX10_fill_230 rfl ?_
                            refine ld_74 (w := 1) X hP rfl (by decide) dX10_fill_231 ?_
                            refine u_iconst (v := 3) X dX10_fill_232 rfl ?_
                            refine u_ishl X dX10_fill_233 ?_
                            refine u_ior X dX10_fill_234 ?_
                            refine u_aload_n X hl dX10_fill_235 0 rfl ?_
                            refine gf_X10_66_56 X hP dX10_fill_236 ?_
                            refine u_iconst (v := 2) X dX10_fill_239 rfl ?_
                            refine ld_74 (w := 2) X hP rfl (by decide) dX10_fill_240 ?_
                            refine u_bipush (v := 6) X dX10_fill_241 rfl ?_
                            refine u_ishl X dX10_fill_243 ?_
                            refine u_ior X dX10_fill_244 ?_
                            refine u_aload_n X hl dX10_fill_245 0 rfl ?_
                            refine gf_X10_66_56 X hP dX10_fill_246 ?_
                            refine u_iconst (v := 3) X dX10_fill_249 rfl ?_
                            refine ld_74 (w := 3) X hP rfl (by decide) dX10_fill_250 ?_
                            refine u_bipush (v := 9) X dX10_fill_251 rfl ?_
                            refine u_ishl X dX10_fill_253 ?_
                            refine u_ior X dX10_fill_254 ?_
                            exact u_iretM X hr hret h hP hS dX10_fill_255
                          · rw [if_neg hc] at h
                            refine u_aload_n X hl dX10_fill_196 0 rfl ?_
                            refine gf_X10_19_56 X hP dX10_fill_197 ?_
                            refine u_iconst (v := 4) X dX10_fill_200 rfl ?_
                            refine u_iload_n X hl dX10_fill_201 1 rfl ?_
                            refine u_imul X dX10_fill_202 ?_
                            refine u_iload X hl dX10_fill_203 2 rfl ?_
                            refine u_iadd X dX10_fill_205 ?_
                            refine u_aload_n X hl dX10_fill_206 0 rfl ?_
                            refine gf_X10_66_56 X hP dX10_fill_207 ?_
                            refine u_iload X hl dX10_fill_210 2 rfl ?_
                            obtain ⟨hin, h⟩ := ifn_inv h
                            refine ld_74 X hP rfl hin dX10_fill_212 ?_
                            obtain ⟨hin, h⟩ := ifn_inv h
                            refine as_60 X hP hS rfl hin dX10_fill_213 (fun H locs hP hS => ?_)
                            refine u_iinc [(6, .int (l6_190 + 1)), (0, .ref (ad 56)), (2, .int a1)] X hl dX10_fill_214 2 rfl rfl (Nat.le_of_ble_eq_true rfl) rfl (fun ls hl => ?_)
                            refine u_goto 190 X dX10_fill_217 rfl ?_
                            exact ih190 _ _ _ _ _ (lv_sub hl [1, 2, 0] rfl) hP hS h
                      exact L190 LF _ _ _ _ _ (lv_sub hl [1, 2, 0] rfl) hP hS h
                    · rw [if_pos hc] at h
                      refine u_aload_n X hl dX10_fill_181 0 rfl ?_
                      refine u_iload X hl dX10_fill_182 3 rfl ?_
                      obtain ⟨zc184, hc184, h⟩ := ob_inv h
                      refine u_callVv X hP hS hl dX10_fill_184 (cM_fillsCount l hc184) cw_X10_338 io_56 rfl rfl rfl rfl ⟨rfl, rfl⟩ (fun H locs hP hS => ?_)
                      refine u_iconst (v := 0) X dX10_fill_187 rfl ?_
                      refine u_istore [(6, .int 0), (0, .ref (ad 56)), (2, .int a1), (3, .int (gI z 64 (2 * a0).toNatClampNeg)), (5, .int l5_44)] X hl dX10_fill_188 (Nat.le_of_ble_eq_true rfl) rfl (fun ls hl => ?_)
                      have L190 : ∀ (n : Nat) (H : Heap) (locs : List Loc) (ls : Array Slot) (z_190 : MS) (l6_190 : Int32), lv_has ls 8 [(0, .ref (ad 56)), (2, .int a1), (6, .int l6_190)] → va_P D clss (wld cs ad z_190) H → va_S A s.heap H locs → fM_fill_L190 a1 n z_190 l6_190 = some (r, z1) → W p l e R s m args below meth c H locs 0 0 Q (F0 m 190 ls []) := by
                        intro n
                        induction n with
                        | zero =>
                          intro H locs ls z_190 l6_190 hl hP hS h
                          rw [fM_fill_L190] at h
                          cases h
                        | succ n190 ih190 =>
                          intro H locs ls z_190 l6_190 hl hP hS h
                          rw [fM_fill_L190] at h
                          refine u_iload X hl dX10_fill_190 2 rfl ?_
                          refine u_iconst (v := 4) X dX10_fill_192 rfl ?_
                          refine u_icmp_ge 220 X dX10_fill_193 rfl (fun hc => ?_) (fun hc => ?_)
                          · rw [if_pos hc] at h
                            refine u_aload_n X hl dX10_fill_220 0 rfl ?_
                            refine gf_X10_66_56 X hP dX10_fill_221 ?_
                            refine u_iconst (v := 0) X dX10_fill_224 rfl ?_
                            refine ld_74 (w := 0) X hP rfl (by decide) dX10_fill_225 ?_
                            refine u_aload_n X hl dX10_fill_226 0 rfl ?_
                            refine gf_X10_66_56 X hP dX10_fill_227 ?_
                            refine u_iconst (v := 1) X dX10_fill_230 rfl ?_
                            refine ld_74 (w := 1) X hP rfl (by decide) dX10_fill_231 ?_
                            refine u_iconst (v := 3) X dX10_fill_232 rfl ?_
                            refine u_ishl X dX10_fill_233 ?_
                            refine u_ior X dX10_fill_234 ?_
                            refine u_aload_n X hl dX10_fill_235 0 rfl ?_
                            refine gf_X10_66_56 X hP dX10_fill_236 ?_
                            refine u_iconst (v := 2) X dX10_fill_239 rfl ?_
                            refine ld_74 (w := 2) X hP rfl (by decide) dX10_fill_240 ?_
                            refine u_bipush (v := 6) X dX10_fill_241 rfl ?_
                            refine u_ishl X dX10_fill_243 ?_
                            refine u_ior X dX10_fill_244 ?_
                            refine u_aload_n X hl dX10_fill_245 0 rfl ?_
                            refine gf_X10_66_56 X hP dX10_fill_246 ?_
                            refine u_iconst (v := 3) X dX10_fill_249 rfl ?_
                            refine ld_74 (w := 3) X hP rfl (by decide) dX10_fill_250 ?_
                            refine u_bipush (v := 9) X dX10_fill_251 rfl ?_
                            refine u_ishl X dX10_fill_253 ?_
                            refine u_ior X dX10_fill_254 ?_
                            exact u_iretM X hr hret h hP hS dX10_fill_255
                          · rw [if_neg hc] at h
                            refine u_aload_n X hl dX10_fill_196 0 rfl ?_
                            refine gf_X10_19_56 X hP dX10_fill_197 ?_
                            refine u_iconst (v := 4) X dX10_fill_200 rfl ?_
                            refine u_iload_n X hl dX10_fill_201 1 rfl ?_
                            refine u_imul X dX10_fill_202 ?_
                            refine u_iload X hl dX10_fill_203 2 rfl ?_
                            refine u_iadd X dX10_fill_205 ?_
                            refine u_aload_n X hl dX10_fill_206 0 rfl ?_
                            refine gf_X10_66_56 X hP dX10_fill_207 ?_
                            refine u_iload X hl dX10_fill_210 2 rfl ?_
                            obtain ⟨hin, h⟩ := ifn_inv h
                            refine ld_74 X hP rfl hin dX10_fill_212 ?_
                            obtain ⟨hin, h⟩ := ifn_inv h
                            refine as_60 X hP hS rfl hin dX10_fill_213 (fun H locs hP hS => ?_)
                            refine u_iinc [(6, .int (l6_190 + 1)), (0, .ref (ad 56)), (2, .int a1)] X hl dX10_fill_214 2 rfl rfl (Nat.le_of_ble_eq_true rfl) rfl (fun ls hl => ?_)
                            refine u_goto 190 X dX10_fill_217 rfl ?_
                            exact ih190 _ _ _ _ _ (lv_sub hl [1, 2, 0] rfl) hP hS h
                      exact L190 LF _ _ _ _ _ (lv_sub hl [1, 2, 0] rfl) hP hS h
                  · rw [if_pos hc] at h
                    refine u_aload_n X hl dX10_fill_167 0 rfl ?_
                    refine u_iload X hl dX10_fill_168 3 rfl ?_
                    obtain ⟨zc170, hc170, h⟩ := ob_inv h
                    refine u_callVv X hP hS hl dX10_fill_170 (cM_fillsDraw l hc170) cw_X10_328 io_56 rfl rfl rfl rfl ⟨rfl, rfl⟩ (fun H locs hP hS => ?_)
                    refine u_goto 187 X dX10_fill_173 rfl ?_
                    refine u_iconst (v := 0) X dX10_fill_187 rfl ?_
                    refine u_istore [(6, .int 0), (0, .ref (ad 56)), (2, .int a1), (3, .int (gI z 64 (2 * a0).toNatClampNeg)), (5, .int l5_44)] X hl dX10_fill_188 (Nat.le_of_ble_eq_true rfl) rfl (fun ls hl => ?_)
                    have L190 : ∀ (n : Nat) (H : Heap) (locs : List Loc) (ls : Array Slot) (z_190 : MS) (l6_190 : Int32), lv_has ls 8 [(0, .ref (ad 56)), (2, .int a1), (6, .int l6_190)] → va_P D clss (wld cs ad z_190) H → va_S A s.heap H locs → fM_fill_L190 a1 n z_190 l6_190 = some (r, z1) → W p l e R s m args below meth c H locs 0 0 Q (F0 m 190 ls []) := by
                      intro n
                      induction n with
                      | zero =>
                        intro H locs ls z_190 l6_190 hl hP hS h
                        rw [fM_fill_L190] at h
                        cases h
                      | succ n190 ih190 =>
                        intro H locs ls z_190 l6_190 hl hP hS h
                        rw [fM_fill_L190] at h
                        refine u_iload X hl dX10_fill_190 2 rfl ?_
                        refine u_iconst (v := 4) X dX10_fill_192 rfl ?_
                        refine u_icmp_ge 220 X dX10_fill_193 rfl (fun hc => ?_) (fun hc => ?_)
                        · rw [if_pos hc] at h
                          refine u_aload_n X hl dX10_fill_220 0 rfl ?_
                          refine gf_X10_66_56 X hP dX10_fill_221 ?_
                          refine u_iconst (v := 0) X dX10_fill_224 rfl ?_
                          refine ld_74 (w := 0) X hP rfl (by decide) dX10_fill_225 ?_
                          refine u_aload_n X hl dX10_fill_226 0 rfl ?_
                          refine gf_X10_66_56 X hP dX10_fill_227 ?_
                          refine u_iconst (v := 1) X dX10_fill_230 rfl ?_
                          refine ld_74 (w := 1) X hP rfl (by decide) dX10_fill_231 ?_
                          refine u_iconst (v := 3) X dX10_fill_232 rfl ?_
                          refine u_ishl X dX10_fill_233 ?_
                          refine u_ior X dX10_fill_234 ?_
                          refine u_aload_n X hl dX10_fill_235 0 rfl ?_
                          refine gf_X10_66_56 X hP dX10_fill_236 ?_
                          refine u_iconst (v := 2) X dX10_fill_239 rfl ?_
                          refine ld_74 (w := 2) X hP rfl (by decide) dX10_fill_240 ?_
                          refine u_bipush (v := 6) X dX10_fill_241 rfl ?_
                          refine u_ishl X dX10_fill_243 ?_
                          refine u_ior X dX10_fill_244 ?_
                          refine u_aload_n X hl dX10_fill_245 0 rfl ?_
                          refine gf_X10_66_56 X hP dX10_fill_246 ?_
                          refine u_iconst (v := 3) X dX10_fill_249 rfl ?_
                          refine ld_74 (w := 3) X hP rfl (by decide) dX10_fill_250 ?_
                          refine u_bipush (v := 9) X dX10_fill_251 rfl ?_
                          refine u_ishl X dX10_fill_253 ?_
                          refine u_ior X dX10_fill_254 ?_
                          exact u_iretM X hr hret h hP hS dX10_fill_255
                        · rw [if_neg hc] at h
                          refine u_aload_n X hl dX10_fill_196 0 rfl ?_
                          refine gf_X10_19_56 X hP dX10_fill_197 ?_
                          refine u_iconst (v := 4) X dX10_fill_200 rfl ?_
                          refine u_iload_n X hl dX10_fill_201 1 rfl ?_
                          refine u_imul X dX10_fill_202 ?_
                          refine u_iload X hl dX10_fill_203 2 rfl ?_
                          refine u_iadd X dX10_fill_205 ?_
                          refine u_aload_n X hl dX10_fill_206 0 rfl ?_
                          refine gf_X10_66_56 X hP dX10_fill_207 ?_
                          refine u_iload X hl dX10_fill_210 2 rfl ?_
                          obtain ⟨hin, h⟩ := ifn_inv h
                          refine ld_74 X hP rfl hin dX10_fill_212 ?_
                          obtain ⟨hin, h⟩ := ifn_inv h
                          refine as_60 X hP hS rfl hin dX10_fill_213 (fun H locs hP hS => ?_)
                          refine u_iinc [(6, .int (l6_190 + 1)), (0, .ref (ad 56)), (2, .int a1)] X hl dX10_fill_214 2 rfl rfl (Nat.le_of_ble_eq_true rfl) rfl (fun ls hl => ?_)
                          refine u_goto 190 X dX10_fill_217 rfl ?_
                          exact ih190 _ _ _ _ _ (lv_sub hl [1, 2, 0] rfl) hP hS h
                    exact L190 LF _ _ _ _ _ (lv_sub hl [1, 2, 0] rfl) hP hS h
                · rw [if_pos hc] at h
                  exact J152 _ _ _ (lv_sub hl [0, 1, 3] rfl) hP hS h
            refine u_icmp_ne 130 X dX10_fill_115 rfl (fun hc => ?_) (fun hc => ?_)
            · rw [if_neg hc] at h
              refine u_iload X hl dX10_fill_130 4 rfl ?_
              obtain ⟨w132, hc132, h⟩ := ob_inv h
              refine u_callSi X hP hS hl dX10_fill_132 (cM_ones l z hc132) cw_X10_312 rfl rfl rfl rfl ⟨rfl, rfl⟩ (fun H locs hP hS => ?_)
              refine u_iconst (v := 4) X dX10_fill_135 rfl ?_
              refine u_icmp_ge 142 X dX10_fill_136 rfl (fun hc => ?_) (fun hc => ?_)
              · rw [if_pos hc] at h
                exact J142 _ _ _ _ (lv_sub hl [0, 1, 2, 4] rfl) hP hS h
              · rw [if_neg hc] at h
                refine u_bipush (v := (-3)) X dX10_fill_139 rfl ?_
                exact u_iretM X hr hret h hP hS dX10_fill_141
            · rw [if_pos hc] at h
              refine u_aload_n X hl dX10_fill_118 0 rfl ?_
              refine u_iload X hl dX10_fill_119 3 rfl ?_
              obtain ⟨w121, zc121, hc121, h⟩ := ob2_inv h
              refine u_callVi X hP hS hl dX10_fill_121 (cM_fillsTold l hc121) cw_X10_332 io_56 rfl rfl rfl rfl ⟨rfl, rfl⟩ (fun H locs hP hS => ?_)
              refine u_if_ne 142 X dX10_fill_124 rfl (fun hc => ?_) (fun hc => ?_)
              · rw [if_neg hc] at h
                exact J142 _ _ _ _ (lv_sub hl [0, 1, 2, 4] rfl) hP hS h
              · rw [if_pos hc] at h
                refine u_goto 139 X dX10_fill_127 rfl ?_
                refine u_bipush (v := (-3)) X dX10_fill_139 rfl ?_
                exact u_iretM X hr hret h hP hS dX10_fill_141
          · rw [if_neg hc] at h
            refine u_iload_n X hl dX10_fill_53 2 rfl ?_
            refine u_iconst (v := 4) X dX10_fill_54 rfl ?_
            have J77 : ∀ (H : Heap) (locs : List Loc) (ls : Array Slot) (s0_77 : Int32), lv_has ls 8 [(0, .ref (ad 56)), (2, .int a1), (3, .int (gI z 64 (2 * a0).toNatClampNeg)), (4, .int (gI z 64 ((2 * a0) + 1).toNatClampNeg)), (5, .int l5_44), (6, .int l6_44)] → va_P D clss (wld cs ad z) H → va_S A s.heap H locs → fM_fill_J77 z (fM_fill_L44 z a1 (gI z 64 (2 * a0).toNatClampNeg) (gI z 64 ((2 * a0) + 1).toNatClampNeg) n44) a1 l5_44 l6_44 s0_77 = some (r, z1) → W p l e R s m args below meth c H locs 0 0 Q (F0 m 77 ls [.int s0_77]) := by
              intro H locs ls s0_77 hl hP hS h
              rw [fM_fill_J77] at h
              refine u_istore [(7, .int s0_77), (0, .ref (ad 56)), (2, .int a1), (3, .int (gI z 64 (2 * a0).toNatClampNeg)), (4, .int (gI z 64 ((2 * a0) + 1).toNatClampNeg)), (5, .int l5_44), (6, .int l6_44)] X hl dX10_fill_77 (Nat.le_of_ble_eq_true rfl) rfl (fun ls hl => ?_)
              refine u_iload X hl dX10_fill_79 5 rfl ?_
              refine u_aload_n X hl dX10_fill_81 1 rfl ?_
              refine u_iload X hl dX10_fill_82 6 rfl ?_
              refine u_iload_n X hl dX10_fill_84 2 rfl ?_
              obtain ⟨w85, hc85, h⟩ := ob_inv h
              refine u_callVi X hP hS hl dX10_fill_85 (cM_isAway l hc85) cw_X10_236 io_56 rfl rfl rfl rfl ⟨rfl, rfl⟩ (fun H locs hP hS => ?_)
              refine u_if_ne 96 X dX10_fill_88 rfl (fun hc => ?_) (fun hc => ?_)
              · rw [if_neg hc] at h
                refine u_iconst (v := 0) X dX10_fill_96 rfl ?_
                refine u_goto 104 X dX10_fill_97 rfl ?_
                refine u_ior X dX10_fill_104 ?_
                refine u_istore [(5, .int (l5_44 ||| 0)), (7, .int s0_77), (0, .ref (ad 56)), (2, .int a1), (3, .int (gI z 64 (2 * a0).toNatClampNeg)), (4, .int (gI z 64 ((2 * a0) + 1).toNatClampNeg)), (6, .int l6_44)] X hl dX10_fill_105 (Nat.le_of_ble_eq_true rfl) rfl (fun ls hl => ?_)
                refine u_iinc [(6, .int (l6_44 + 1)), (5, .int (l5_44 ||| 0)), (7, .int s0_77), (0, .ref (ad 56)), (2, .int a1), (3, .int (gI z 64 (2 * a0).toNatClampNeg)), (4, .int (gI z 64 ((2 * a0) + 1).toNatClampNeg))] X hl dX10_fill_107 6 rfl rfl (Nat.le_of_ble_eq_true rfl) rfl (fun ls hl => ?_)
                refine u_goto 44 X dX10_fill_110 rfl ?_
                exact ih44 _ _ _ _ _ (lv_sub hl [3, 4, 5, 6, 1, 0] rfl) hP hS h
              · rw [if_pos hc] at h
                refine u_iload X hl dX10_fill_91 0 rfl ?_
                refine u_if_eq 100 X dX10_fill_93 rfl (fun hc => ?_) (fun hc => ?_)
                · rw [if_pos hc] at h
                  refine u_iconst (v := 1) X dX10_fill_100 rfl ?_
                  refine u_iload X hl dX10_fill_101 6 rfl ?_
                  refine u_ishl X dX10_fill_103 ?_
                  refine u_ior X dX10_fill_104 ?_
                  refine u_istore [(5, .int (l5_44 ||| ((1 : Int32) <<< (l6_44 &&& 31)))), (7, .int s0_77), (0, .ref (ad 56)), (2, .int a1), (3, .int (gI z 64 (2 * a0).toNatClampNeg)), (4, .int (gI z 64 ((2 * a0) + 1).toNatClampNeg)), (6, .int l6_44)] X hl dX10_fill_105 (Nat.le_of_ble_eq_true rfl) rfl (fun ls hl => ?_)
                  refine u_iinc [(6, .int (l6_44 + 1)), (5, .int (l5_44 ||| ((1 : Int32) <<< (l6_44 &&& 31)))), (7, .int s0_77), (0, .ref (ad 56)), (2, .int a1), (3, .int (gI z 64 (2 * a0).toNatClampNeg)), (4, .int (gI z 64 ((2 * a0) + 1).toNatClampNeg))] X hl dX10_fill_107 6 rfl rfl (Nat.le_of_ble_eq_true rfl) rfl (fun ls hl => ?_)
                  refine u_goto 44 X dX10_fill_110 rfl ?_
                  exact ih44 _ _ _ _ _ (lv_sub hl [3, 4, 5, 6, 1, 0] rfl) hP hS h
                · rw [if_neg hc] at h
                  refine u_iconst (v := 0) X dX10_fill_96 rfl ?_
                  refine u_goto 104 X dX10_fill_97 rfl ?_
                  refine u_ior X dX10_fill_104 ?_
                  refine u_istore [(5, .int (l5_44 ||| 0)), (7, .int s0_77), (0, .ref (ad 56)), (2, .int a1), (3, .int (gI z 64 (2 * a0).toNatClampNeg)), (4, .int (gI z 64 ((2 * a0) + 1).toNatClampNeg)), (6, .int l6_44)] X hl dX10_fill_105 (Nat.le_of_ble_eq_true rfl) rfl (fun ls hl => ?_)
                  refine u_iinc [(6, .int (l6_44 + 1)), (5, .int (l5_44 ||| 0)), (7, .int s0_77), (0, .ref (ad 56)), (2, .int a1), (3, .int (gI z 64 (2 * a0).toNatClampNeg)), (4, .int (gI z 64 ((2 * a0) + 1).toNatClampNeg))] X hl dX10_fill_107 6 rfl rfl (Nat.le_of_ble_eq_true rfl) rfl (fun ls hl => ?_)
                  refine u_goto 44 X dX10_fill_110 rfl ?_
                  exact ih44 _ _ _ _ _ (lv_sub hl [3, 4, 5, 6, 1, 0] rfl) hP hS h
            have J76 : ∀ (H : Heap) (locs : List Loc) (ls : Array Slot), lv_has ls 8 [(0, .ref (ad 56)), (2, .int a1), (3, .int (gI z 64 (2 * a0).toNatClampNeg)), (4, .int (gI z 64 ((2 * a0) + 1).toNatClampNeg)), (5, .int l5_44), (6, .int l6_44)] → va_P D clss (wld cs ad z) H → va_S A s.heap H locs → fM_fill_J76 z (fM_fill_L44 z a1 (gI z 64 (2 * a0).toNatClampNeg) (gI z 64 ((2 * a0) + 1).toNatClampNeg) n44) a1 l5_44 l6_44 = some (r, z1) → W p l e R s m args below meth c H locs 0 0 Q (F0 m 76 ls []) := by
              intro H locs ls hl hP hS h
              rw [fM_fill_J76] at h
              refine u_iconst (v := 0) X dX10_fill_76 rfl ?_
              exact J77 _ _ _ _ hl hP hS h
            refine u_icmp_ne 76 X dX10_fill_55 rfl (fun hc => ?_) (fun hc => ?_)
            · rw [if_neg hc] at h
              exact J76 _ _ _ hl hP hS h
            · rw [if_pos hc] at h
              refine u_iload X hl dX10_fill_58 3 rfl ?_
              refine u_iload_n X hl dX10_fill_60 1 rfl ?_
              refine u_iadd X dX10_fill_61 ?_
              refine u_aload_n X hl dX10_fill_62 0 rfl ?_
              refine gf_X10_102_56 X hP dX10_fill_63 ?_
              obtain ⟨hn, h⟩ := ifn_inv h
              refine u_irem X hn dX10_fill_66 ?_
              refine u_iload X hl dX10_fill_67 5 rfl ?_
              refine u_icmp_ne 76 X dX10_fill_69 rfl (fun hc => ?_) (fun hc => ?_)
              · rw [if_neg hc] at h
                exact J76 _ _ _ hl hP hS h
              · rw [if_pos hc] at h
                refine u_iconst (v := 1) X dX10_fill_72 rfl ?_
                refine u_goto 77 X dX10_fill_73 rfl ?_
                exact J77 _ _ _ _ hl hP hS h
      exact L44 LF _ _ _ _ _ (lv_sub hl [4, 6, 3, 2, 1, 0] rfl) hP hS h
    · rw [if_pos hc] at h
      refine u_iconst (v := (-1)) X dX10_fill_15 rfl ?_
      exact u_iretM X hr hret h hP hS dX10_fill_16
def fM_seed (z : MS) (a0 : Int32) : Option (Int32 × MS) :=
  some (gI z 56 11, pI z 56 11 a0)
set_option maxRecDepth 4000 in
theorem cM_seed (l : Launch) {z : MS} {a0 : Int32} {r : Int32} {z1 : MS} (h : fM_seed z a0 = some (r, z1)) : CT l yX10_seed cX10_seed 3 (some .int) 0 0 (fun ad sd => [.ref (ad 56), .int a0]) z (some (.int r)) z1 := by
  rw [fM_seed] at h
  refine u_start RX10 rfl (by decide) (fun _ _ => Nat.le_of_ble_eq_true rfl) (fun p e s m args below meth c R D ad cs sd A Q ls X hP hS hl hr hret => ?_)
  have hl : lv_has ls 3 [(0, .ref (ad 56)), (1, .int a0)] := hl
  refine u_aload_n X hl dX10_seed_0 0 rfl ?_
  refine gf_X10_34_56 X hP dX10_seed_1 ?_
  refine u_istore_n [(2, .int (gI z 56 11)), (0, .ref (ad 56)), (1, .int a0)] X hl dX10_seed_4 (Nat.le_of_ble_eq_true rfl) rfl (fun ls hl => ?_)
  refine u_aload_n X hl dX10_seed_5 1 rfl ?_
  refine u_iload_n X hl dX10_seed_6 2 rfl ?_
  refine pf_X10_34_56 X hP hS dX10_seed_7 (fun H locs hP hS => ?_)
  refine u_iload_n X hl dX10_seed_10 0 rfl ?_
  exact u_iretM X hr hret h hP hS dX10_seed_11
def fM_findRows_J52 (z : MS) (K2 : MS → Int32 → Option MS) (l1 : Int32) (s1 : Int32) (s2 : Int32) : Option MS :=
  if s1 < 0 ∨ 30 ≤ s1.toNatClampNeg then none else Option.bind (fM_brokenOn (pI z 76 s1.toNatClampNeg s2) l1) (fun w64 => if ((3 * l1) + 2) < 0 ∨ 30 ≤ ((3 * l1) + 2).toNatClampNeg then none else K2 (pI (pI z 76 s1.toNatClampNeg s2) 76 ((3 * l1) + 2).toNatClampNeg w64) (l1 + 1))
def fM_findRows_L2 : Nat → MS → Int32 → Option MS
  | 0, _, _ => none
  | n + 1, z, l1 => if 10 ≤ l1 then some z else Option.bind (fM_twoOn z l1) (fun w17 => if (3 * l1) < 0 ∨ 30 ≤ (3 * l1).toNatClampNeg then none else Option.bind (fM_twoOn (pI z 76 (3 * l1).toNatClampNeg w17) l1) (fun w32 => if 0 ≤ w32 then Option.bind (fM_seenBy (pI z 76 (3 * l1).toNatClampNeg w17) l1 (fM_isSurprise (pI z 76 (3 * l1).toNatClampNeg w17) l1)) (fun w49 => fM_findRows_J52 (pI z 76 (3 * l1).toNatClampNeg w17) (fM_findRows_L2 n) l1 ((3 * l1) + 1) w49) else fM_findRows_J52 (pI z 76 (3 * l1).toNatClampNeg w17) (fM_findRows_L2 n) l1 ((3 * l1) + 1) 0))
def fM_findRows (z : MS) : Option MS :=
  fM_findRows_L2 LF z 0
set_option maxRecDepth 4000 in
theorem cM_findRows (l : Launch) {z : MS} {z1 : MS} (h : fM_findRows z = some z1) : CT l yX10_findRows cX10_findRows 2 none 6 142 (fun ad sd => [.ref (ad 56)]) z none z1 := by
  rw [fM_findRows] at h
  refine u_start RX10 rfl (by decide) (fun _ _ => Nat.le_of_ble_eq_true rfl) (fun p e s m args below meth c R D ad cs sd A Q ls X hP hS hl hr hret => ?_)
  have hl : lv_has ls 2 [(0, .ref (ad 56))] := hl
  refine u_iconst (v := 0) X dX10_findRows_0 rfl ?_
  refine u_istore_n [(1, .int 0), (0, .ref (ad 56))] X hl dX10_findRows_1 (Nat.le_of_ble_eq_true rfl) rfl (fun ls hl => ?_)
  have L2 : ∀ (n : Nat) (H : Heap) (locs : List Loc) (ls : Array Slot) (z_2 : MS) (l1_2 : Int32), lv_has ls 2 [(0, .ref (ad 56)), (1, .int l1_2)] → va_P D clss (wld cs ad z_2) H → va_S A s.heap H locs → fM_findRows_L2 n z_2 l1_2 = some z1 → W p l e R s m args below meth c H locs 0 0 Q (F0 m 2 ls []) := by
    intro n
    induction n with
    | zero =>
      intro H locs ls z_2 l1_2 hl hP hS h
      rw [fM_findRows_L2] at h
      cases h
    | succ n2 ih2 =>
      intro H locs ls z_2 l1_2 hl hP hS h
      rw [fM_findRows_L2] at h
      refine u_iload_n X hl dX10_findRows_2 1 rfl ?_
      refine u_bipush (v := 10) X dX10_findRows_3 rfl ?_
      refine u_icmp_ge 74 X dX10_findRows_5 rfl (fun hc => ?_) (fun hc => ?_)
      · rw [if_pos hc] at h
        exact u_vretM X hr hret h hP hS dX10_findRows_74
      · rw [if_neg hc] at h
        refine u_aload_n X hl dX10_findRows_8 0 rfl ?_
        refine gf_X10_72_56 X hP dX10_findRows_9 ?_
        refine u_iconst (v := 3) X dX10_findRows_12 rfl ?_
        refine u_iload_n X hl dX10_findRows_13 1 rfl ?_
        refine u_imul X dX10_findRows_14 ?_
        refine u_aload_n X hl dX10_findRows_15 0 rfl ?_
        refine u_iload_n X hl dX10_findRows_16 1 rfl ?_
        obtain ⟨w17, hc17, h⟩ := ob_inv h
        refine u_callVi X hP hS hl dX10_findRows_17 (cM_twoOn l hc17) cw_X10_248 io_56 rfl rfl rfl rfl ⟨rfl, rfl⟩ (fun H locs hP hS => ?_)
        obtain ⟨hin, h⟩ := ifn_inv h
        refine as_76 X hP hS rfl hin dX10_findRows_20 (fun H locs hP hS => ?_)
        refine u_aload_n X hl dX10_findRows_21 0 rfl ?_
        refine gf_X10_72_56 X hP dX10_findRows_22 ?_
        refine u_iconst (v := 3) X dX10_findRows_25 rfl ?_
        refine u_iload_n X hl dX10_findRows_26 1 rfl ?_
        refine u_imul X dX10_findRows_27 ?_
        refine u_iconst (v := 1) X dX10_findRows_28 rfl ?_
        refine u_iadd X dX10_findRows_29 ?_
        refine u_aload_n X hl dX10_findRows_30 0 rfl ?_
        refine u_iload_n X hl dX10_findRows_31 1 rfl ?_
        obtain ⟨w32, hc32, h⟩ := ob_inv h
        refine u_callVi X hP hS hl dX10_findRows_32 (cM_twoOn l hc32) cw_X10_248 io_56 rfl rfl rfl rfl ⟨rfl, rfl⟩ (fun H locs hP hS => ?_)
        have J52 : ∀ (H : Heap) (locs : List Loc) (ls : Array Slot) (s2_52 : Int32), lv_has ls 2 [(0, .ref (ad 56)), (1, .int l1_2)] → va_P D clss (wld cs ad (pI z_2 76 (3 * l1_2).toNatClampNeg w17)) H → va_S A s.heap H locs → fM_findRows_J52 (pI z_2 76 (3 * l1_2).toNatClampNeg w17) (fM_findRows_L2 n2) l1_2 ((3 * l1_2) + 1) s2_52 = some z1 → W p l e R s m args below meth c H locs 0 0 Q (F0 m 52 ls [.int s2_52, .int ((3 * l1_2) + 1), .ref (ad 76)]) := by
          intro H locs ls s2_52 hl hP hS h
          rw [fM_findRows_J52] at h
          obtain ⟨hin, h⟩ := ifn_inv h
          refine as_76 X hP hS rfl hin dX10_findRows_52 (fun H locs hP hS => ?_)
          refine u_aload_n X hl dX10_findRows_53 0 rfl ?_
          refine gf_X10_72_56 X hP dX10_findRows_54 ?_
          refine u_iconst (v := 3) X dX10_findRows_57 rfl ?_
          refine u_iload_n X hl dX10_findRows_58 1 rfl ?_
          refine u_imul X dX10_findRows_59 ?_
          refine u_iconst (v := 2) X dX10_findRows_60 rfl ?_
          refine u_iadd X dX10_findRows_61 ?_
          refine u_aload_n X hl dX10_findRows_62 0 rfl ?_
          refine u_iload_n X hl dX10_findRows_63 1 rfl ?_
          obtain ⟨w64, hc64, h⟩ := ob_inv h
          refine u_callVi X hP hS hl dX10_findRows_64 (cM_brokenOn l hc64) cw_X10_290 io_56 rfl rfl rfl rfl ⟨rfl, rfl⟩ (fun H locs hP hS => ?_)
          obtain ⟨hin, h⟩ := ifn_inv h
          refine as_76 X hP hS rfl hin dX10_findRows_67 (fun H locs hP hS => ?_)
          refine u_iinc [(1, .int (l1_2 + 1)), (0, .ref (ad 56))] X hl dX10_findRows_68 1 rfl rfl (Nat.le_of_ble_eq_true rfl) rfl (fun ls hl => ?_)
          refine u_goto 2 X dX10_findRows_71 rfl ?_
          exact ih2 _ _ _ _ _ (lv_sub hl [1, 0] rfl) hP hS h
        refine u_if_ge 42 X dX10_findRows_35 rfl (fun hc => ?_) (fun hc => ?_)
        · rw [if_pos hc] at h
          refine u_aload_n X hl dX10_findRows_42 0 rfl ?_
          refine u_iload_n X hl dX10_findRows_43 1 rfl ?_
          refine u_aload_n X hl dX10_findRows_44 0 rfl ?_
          refine u_iload_n X hl dX10_findRows_45 1 rfl ?_
          refine u_callVi X hP hS hl dX10_findRows_46 (cM_isSurprise l (pI z_2 76 (3 * l1_2).toNatClampNeg w17) l1_2) cw_X10_261 io_56 rfl rfl rfl rfl ⟨rfl, rfl⟩ (fun H locs hP hS => ?_)
          obtain ⟨w49, hc49, h⟩ := ob_inv h
          refine u_callVi X hP hS hl dX10_findRows_49 (cM_seenBy l hc49) cw_X10_264 io_56 rfl rfl rfl rfl ⟨rfl, rfl⟩ (fun H locs hP hS => ?_)
          exact J52 _ _ _ _ hl hP hS h
        · rw [if_neg hc] at h
          refine u_iconst (v := 0) X dX10_findRows_38 rfl ?_
          refine u_goto 52 X dX10_findRows_39 rfl ?_
          exact J52 _ _ _ _ hl hP hS h
  exact L2 LF _ _ _ _ _ (lv_sub hl [1, 0] rfl) hP hS h
def fM_prove_L12 : Nat → MS → Int32 → Option (Int32 × MS)
  | 0, _, _ => none
  | n + 1, z, l1 => if 30 ≤ l1 then some (gI z 56 34, z) else (if l1 < 0 ∨ 30 ≤ l1.toNatClampNeg then none else if l1 < 0 ∨ 30 ≤ l1.toNatClampNeg then none else fM_prove_L12 n (pI z 75 l1.toNatClampNeg (gI z 76 l1.toNatClampNeg)) (l1 + 1))
def fM_prove (z : MS) : Option (Int32 × MS) :=
  Option.bind (fM_findRows z) (fun zc1 => fM_prove_L12 LF (pI zc1 56 34 10) 0)
set_option maxRecDepth 4000 in
theorem cM_prove (l : Launch) {z : MS} {r : Int32} {z1 : MS} (h : fM_prove z = some (r, z1)) : CT l yX10_prove cX10_prove 2 (some .int) 7 163 (fun ad sd => [.ref (ad 56)]) z (some (.int r)) z1 := by
  rw [fM_prove] at h
  refine u_start RX10 rfl (by decide) (fun _ _ => Nat.le_of_ble_eq_true rfl) (fun p e s m args below meth c R D ad cs sd A Q ls X hP hS hl hr hret => ?_)
  have hl : lv_has ls 2 [(0, .ref (ad 56))] := hl
  refine u_aload_n X hl dX10_prove_0 0 rfl ?_
  obtain ⟨zc1, hc1, h⟩ := ob_inv h
  refine u_callVv X hP hS hl dX10_prove_1 (cM_findRows l hc1) cw_X10_341 io_56 rfl rfl rfl rfl ⟨rfl, rfl⟩ (fun H locs hP hS => ?_)
  refine u_aload_n X hl dX10_prove_4 0 rfl ?_
  refine u_bipush (v := 10) X dX10_prove_5 rfl ?_
  refine pf_X10_223_56 X hP hS dX10_prove_7 (fun H locs hP hS => ?_)
  refine u_iconst (v := 0) X dX10_prove_10 rfl ?_
  refine u_istore_n [(1, .int 0), (0, .ref (ad 56))] X hl dX10_prove_11 (Nat.le_of_ble_eq_true rfl) rfl (fun ls hl => ?_)
  have L12 : ∀ (n : Nat) (H : Heap) (locs : List Loc) (ls : Array Slot) (z_12 : MS) (l1_12 : Int32), lv_has ls 2 [(0, .ref (ad 56)), (1, .int l1_12)] → va_P D clss (wld cs ad z_12) H → va_S A s.heap H locs → fM_prove_L12 n z_12 l1_12 = some (r, z1) → W p l e R s m args below meth c H locs 0 0 Q (F0 m 12 ls []) := by
    intro n
    induction n with
    | zero =>
      intro H locs ls z_12 l1_12 hl hP hS h
      rw [fM_prove_L12] at h
      cases h
    | succ n12 ih12 =>
      intro H locs ls z_12 l1_12 hl hP hS h
      rw [fM_prove_L12] at h
      refine u_iload_n X hl dX10_prove_12 1 rfl ?_
      refine u_bipush (v := 30) X dX10_prove_13 rfl ?_
      refine u_icmp_ge 36 X dX10_prove_15 rfl (fun hc => ?_) (fun hc => ?_)
      · rw [if_pos hc] at h
        refine u_aload_n X hl dX10_prove_36 0 rfl ?_
        refine gf_X10_223_56 X hP dX10_prove_37 ?_
        exact u_iretM X hr hret h hP hS dX10_prove_40
      · rw [if_neg hc] at h
        refine u_aload_n X hl dX10_prove_18 0 rfl ?_
        refine gf_X10_69_56 X hP dX10_prove_19 ?_
        refine u_iload_n X hl dX10_prove_22 1 rfl ?_
        refine u_aload_n X hl dX10_prove_23 0 rfl ?_
        refine gf_X10_72_56 X hP dX10_prove_24 ?_
        refine u_iload_n X hl dX10_prove_27 1 rfl ?_
        obtain ⟨hin, h⟩ := ifn_inv h
        refine ld_76 X hP rfl hin dX10_prove_28 ?_
        obtain ⟨hin, h⟩ := ifn_inv h
        refine as_75 X hP hS rfl hin dX10_prove_29 (fun H locs hP hS => ?_)
        refine u_iinc [(1, .int (l1_12 + 1)), (0, .ref (ad 56))] X hl dX10_prove_30 1 rfl rfl (Nat.le_of_ble_eq_true rfl) rfl (fun ls hl => ?_)
        refine u_goto 12 X dX10_prove_33 rfl ?_
        exact ih12 _ _ _ _ _ (lv_sub hl [1, 0] rfl) hP hS h
  exact L12 LF _ _ _ _ _ (lv_sub hl [1, 0] rfl) hP hS h
def fM_isRow (z : MS) (a0 : Int32) (a1 : Int32) : Int32 :=
  if (fM_in a0 0 ((gI z 56 34) - 1)) = 0 then 0 else (if (fM_in a1 0 2) = 0 then 0 else 1)
theorem fM_isRow_b (z : MS) (a0 : Int32) (a1 : Int32) : fM_isRow z a0 a1 = 0 ∨ fM_isRow z a0 a1 = 1 := by
  unfold fM_isRow
  (repeat' split) <;> first | with_reducible exact Or.inl rfl | with_reducible exact Or.inr rfl | with_reducible exact fM_in_b _ _ _
set_option maxRecDepth 4000 in
theorem cM_isRow (l : Launch) (z : MS) (a0 : Int32) (a1 : Int32) : CT l yX10_isRow cX10_isRow 3 (some .boolean) 1 22 (fun ad sd => [.ref (ad 56), .int a0, .int a1]) z (some (.int (fM_isRow z a0 a1))) z := by
  generalize h : fM_isRow z a0 a1 = r
  rw [fM_isRow] at h
  refine u_start RX10 rfl (by decide) (fun _ _ => Nat.le_of_ble_eq_true rfl) (fun p e s m args below meth c R D ad cs sd A Q ls X hP hS hl hr hret => ?_)
  have hl : lv_has ls 3 [(0, .ref (ad 56)), (1, .int a0), (2, .int a1)] := hl
  refine u_iload_n X hl dX10_isRow_0 1 rfl ?_
  refine u_iconst (v := 0) X dX10_isRow_1 rfl ?_
  refine u_aload_n X hl dX10_isRow_2 0 rfl ?_
  refine gf_X10_223_56 X hP dX10_isRow_3 ?_
  refine u_iconst (v := 1) X dX10_isRow_6 rfl ?_
  refine u_isub X dX10_isRow_7 ?_
  refine u_callSi X hP hS hl dX10_isRow_8 (cM_in l z a0 0 ((gI z 56 34) - 1)) cw_X10_105 rfl rfl rfl rfl ⟨rfl, rfl⟩ (fun H locs hP hS => ?_)
  refine u_if_eq 27 X dX10_isRow_11 rfl (fun hc => ?_) (fun hc => ?_)
  · rw [if_pos hc] at h
    refine u_iconst (v := 0) X dX10_isRow_27 rfl ?_
    exact u_zretT X hr hret h hP hS (Or.inl rfl) dX10_isRow_28
  · rw [if_neg hc] at h
    refine u_iload_n X hl dX10_isRow_14 2 rfl ?_
    refine u_iconst (v := 0) X dX10_isRow_15 rfl ?_
    refine u_iconst (v := 2) X dX10_isRow_16 rfl ?_
    refine u_callSi X hP hS hl dX10_isRow_17 (cM_in l z a1 0 2) cw_X10_105 rfl rfl rfl rfl ⟨rfl, rfl⟩ (fun H locs hP hS => ?_)
    refine u_if_eq 27 X dX10_isRow_20 rfl (fun hc => ?_) (fun hc => ?_)
    · rw [if_pos hc] at h
      refine u_iconst (v := 0) X dX10_isRow_27 rfl ?_
      exact u_zretT X hr hret h hP hS (Or.inl rfl) dX10_isRow_28
    · rw [if_neg hc] at h
      refine u_iconst (v := 1) X dX10_isRow_23 rfl ?_
      refine u_goto 28 X dX10_isRow_24 rfl ?_
      exact u_zretT X hr hret h hP hS (Or.inr rfl) dX10_isRow_28
def fM_row (z : MS) (a0 : Int32) (a1 : Int32) : Option Int32 :=
  if (fM_isRow z a0 a1) = 0 then some (-9) else (if ((3 * a0) + a1) < 0 ∨ 30 ≤ ((3 * a0) + a1).toNatClampNeg then none else some (gI z 75 ((3 * a0) + a1).toNatClampNeg))
set_option maxRecDepth 4000 in
theorem cM_row (l : Launch) {z : MS} {a0 : Int32} {a1 : Int32} {r : Int32} (h : fM_row z a0 a1 = some r) : CT l yX10_row cX10_row 3 (some .int) 2 44 (fun ad sd => [.ref (ad 56), .int a0, .int a1]) z (some (.int r)) z := by
  rw [fM_row] at h
  refine u_start RX10 rfl (by decide) (fun _ _ => Nat.le_of_ble_eq_true rfl) (fun p e s m args below meth c R D ad cs sd A Q ls X hP hS hl hr hret => ?_)
  have hl : lv_has ls 3 [(0, .ref (ad 56)), (1, .int a0), (2, .int a1)] := hl
  refine u_aload_n X hl dX10_row_0 0 rfl ?_
  refine u_iload_n X hl dX10_row_1 1 rfl ?_
  refine u_iload_n X hl dX10_row_2 2 rfl ?_
  refine u_callVi X hP hS hl dX10_row_3 (cM_isRow l z a0 a1) cw_X10_344 io_56 rfl rfl rfl rfl ⟨rfl, rfl⟩ (fun H locs hP hS => ?_)
  refine u_if_eq 22 X dX10_row_6 rfl (fun hc => ?_) (fun hc => ?_)
  · rw [if_pos hc] at h
    refine u_bipush (v := (-9)) X dX10_row_22 rfl ?_
    exact u_iretP X hr hret h hP hS dX10_row_24
  · rw [if_neg hc] at h
    refine u_aload_n X hl dX10_row_9 0 rfl ?_
    refine gf_X10_69_56 X hP dX10_row_10 ?_
    refine u_iconst (v := 3) X dX10_row_13 rfl ?_
    refine u_iload_n X hl dX10_row_14 1 rfl ?_
    refine u_imul X dX10_row_15 ?_
    refine u_iload_n X hl dX10_row_16 2 rfl ?_
    refine u_iadd X dX10_row_17 ?_
    obtain ⟨hin, h⟩ := ifn_inv h
    refine ld_75 X hP rfl hin dX10_row_18 ?_
    refine u_goto 24 X dX10_row_19 rfl ?_
    exact u_iretP X hr hret h hP hS dX10_row_24
def fM_alterRow (z : MS) (a0 : Int32) (a1 : Int32) (a2 : Int32) : Option (Int32 × MS) :=
  if (fM_isRow z a0 a1) = 0 then some ((-9), z) else (if ((3 * a0) + a1) < 0 ∨ 30 ≤ ((3 * a0) + a1).toNatClampNeg then none else if ((3 * a0) + a1) < 0 ∨ 30 ≤ ((3 * a0) + a1).toNatClampNeg then none else some (gI z 75 ((3 * a0) + a1).toNatClampNeg, pI z 75 ((3 * a0) + a1).toNatClampNeg a2))
set_option maxRecDepth 4000 in
theorem cM_alterRow (l : Launch) {z : MS} {a0 : Int32} {a1 : Int32} {a2 : Int32} {r : Int32} {z1 : MS} (h : fM_alterRow z a0 a1 a2 = some (r, z1)) : CT l yX10_alterRow cX10_alterRow 5 (some .int) 2 44 (fun ad sd => [.ref (ad 56), .int a0, .int a1, .int a2]) z (some (.int r)) z1 := by
  rw [fM_alterRow] at h
  refine u_start RX10 rfl (by decide) (fun _ _ => Nat.le_of_ble_eq_true rfl) (fun p e s m args below meth c R D ad cs sd A Q ls X hP hS hl hr hret => ?_)
  have hl : lv_has ls 5 [(0, .ref (ad 56)), (1, .int a0), (2, .int a1), (3, .int a2)] := hl
  refine u_aload_n X hl dX10_alterRow_0 0 rfl ?_
  refine u_iload_n X hl dX10_alterRow_1 1 rfl ?_
  refine u_iload_n X hl dX10_alterRow_2 2 rfl ?_
  refine u_callVi X hP hS hl dX10_alterRow_3 (cM_isRow l z a0 a1) cw_X10_344 io_56 rfl rfl rfl rfl ⟨rfl, rfl⟩ (fun H locs hP hS => ?_)
  refine u_if_ne 12 X dX10_alterRow_6 rfl (fun hc => ?_) (fun hc => ?_)
  · rw [if_neg hc] at h
    refine u_aload_n X hl dX10_alterRow_12 0 rfl ?_
    refine gf_X10_69_56 X hP dX10_alterRow_13 ?_
    refine u_iconst (v := 3) X dX10_alterRow_16 rfl ?_
    refine u_iload_n X hl dX10_alterRow_17 1 rfl ?_
    refine u_imul X dX10_alterRow_18 ?_
    refine u_iload_n X hl dX10_alterRow_19 2 rfl ?_
    refine u_iadd X dX10_alterRow_20 ?_
    obtain ⟨hin, h⟩ := ifn_inv h
    refine ld_75 X hP rfl hin dX10_alterRow_21 ?_
    refine u_istore [(4, .int (gI z 75 ((3 * a0) + a1).toNatClampNeg)), (0, .ref (ad 56)), (1, .int a0), (2, .int a1), (3, .int a2)] X hl dX10_alterRow_22 (Nat.le_of_ble_eq_true rfl) rfl (fun ls hl => ?_)
    refine u_aload_n X hl dX10_alterRow_24 1 rfl ?_
    refine gf_X10_69_56 X hP dX10_alterRow_25 ?_
    refine u_iconst (v := 3) X dX10_alterRow_28 rfl ?_
    refine u_iload_n X hl dX10_alterRow_29 2 rfl ?_
    refine u_imul X dX10_alterRow_30 ?_
    refine u_iload_n X hl dX10_alterRow_31 3 rfl ?_
    refine u_iadd X dX10_alterRow_32 ?_
    refine u_iload_n X hl dX10_alterRow_33 4 rfl ?_
    obtain ⟨hin, h⟩ := ifn_inv h
    refine as_75 X hP hS rfl hin dX10_alterRow_34 (fun H locs hP hS => ?_)
    refine u_iload X hl dX10_alterRow_35 0 rfl ?_
    exact u_iretM X hr hret h hP hS dX10_alterRow_37
  · rw [if_pos hc] at h
    refine u_bipush (v := (-9)) X dX10_alterRow_9 rfl ?_
    exact u_iretM X hr hret h hP hS dX10_alterRow_11
def fM_judge_L6 (z : MS) : Nat → Int32 → Option (Int32 × MS)
  | 0, _ => none
  | n + 1, l1 => if (3 * (gI z 56 34)) ≤ l1 then some (0, z) else (if l1 < 0 ∨ 30 ≤ l1.toNatClampNeg then none else if l1 < 0 ∨ 30 ≤ l1.toNatClampNeg then none else if (gI z 75 l1.toNatClampNeg) = (gI z 76 l1.toNatClampNeg) then fM_judge_L6 z n (l1 + 1) else some ((l1 / 3) + 1, z))
def fM_judge (z : MS) : Option (Int32 × MS) :=
  Option.bind (fM_findRows z) (fun zc1 => fM_judge_L6 zc1 LF 0)
set_option maxRecDepth 4000 in
theorem cM_judge (l : Launch) {z : MS} {r : Int32} {z1 : MS} (h : fM_judge z = some (r, z1)) : CT l yX10_judge cX10_judge 2 (some .int) 7 163 (fun ad sd => [.ref (ad 56)]) z (some (.int r)) z1 := by
  rw [fM_judge] at h
  refine u_start RX10 rfl (by decide) (fun _ _ => Nat.le_of_ble_eq_true rfl) (fun p e s m args below meth c R D ad cs sd A Q ls X hP hS hl hr hret => ?_)
  have hl : lv_has ls 2 [(0, .ref (ad 56))] := hl
  refine u_aload_n X hl dX10_judge_0 0 rfl ?_
  obtain ⟨zc1, hc1, h⟩ := ob_inv h
  refine u_callVv X hP hS hl dX10_judge_1 (cM_findRows l hc1) cw_X10_341 io_56 rfl rfl rfl rfl ⟨rfl, rfl⟩ (fun H locs hP hS => ?_)
  refine u_iconst (v := 0) X dX10_judge_4 rfl ?_
  refine u_istore_n [(1, .int 0), (0, .ref (ad 56))] X hl dX10_judge_5 (Nat.le_of_ble_eq_true rfl) rfl (fun ls hl => ?_)
  have L6 : ∀ (n : Nat) (H : Heap) (locs : List Loc) (ls : Array Slot) (l1_6 : Int32), lv_has ls 2 [(0, .ref (ad 56)), (1, .int l1_6)] → va_P D clss (wld cs ad zc1) H → va_S A s.heap H locs → fM_judge_L6 zc1 n l1_6 = some (r, z1) → W p l e R s m args below meth c H locs 0 0 Q (F0 m 6 ls []) := by
    intro n
    induction n with
    | zero =>
      intro H locs ls l1_6 hl hP hS h
      rw [fM_judge_L6] at h
      cases h
    | succ n6 ih6 =>
      intro H locs ls l1_6 hl hP hS h
      rw [fM_judge_L6] at h
      refine u_iload_n X hl dX10_judge_6 1 rfl ?_
      refine u_iconst (v := 3) X dX10_judge_7 rfl ?_
      refine u_aload_n X hl dX10_judge_8 0 rfl ?_
      refine gf_X10_223_56 X hP dX10_judge_9 ?_
      refine u_imul X dX10_judge_12 ?_
      refine u_icmp_ge 43 X dX10_judge_13 rfl (fun hc => ?_) (fun hc => ?_)
      · rw [if_pos hc] at h
        refine u_iconst (v := 0) X dX10_judge_43 rfl ?_
        exact u_iretM X hr hret h hP hS dX10_judge_44
      · rw [if_neg hc] at h
        refine u_aload_n X hl dX10_judge_16 0 rfl ?_
        refine gf_X10_69_56 X hP dX10_judge_17 ?_
        refine u_iload_n X hl dX10_judge_20 1 rfl ?_
        obtain ⟨hin, h⟩ := ifn_inv h
        refine ld_75 X hP rfl hin dX10_judge_21 ?_
        refine u_aload_n X hl dX10_judge_22 0 rfl ?_
        refine gf_X10_72_56 X hP dX10_judge_23 ?_
        refine u_iload_n X hl dX10_judge_26 1 rfl ?_
        obtain ⟨hin, h⟩ := ifn_inv h
        refine ld_76 X hP rfl hin dX10_judge_27 ?_
        refine u_icmp_eq 37 X dX10_judge_28 rfl (fun hc => ?_) (fun hc => ?_)
        · rw [if_pos hc] at h
          refine u_iinc [(1, .int (l1_6 + 1)), (0, .ref (ad 56))] X hl dX10_judge_37 1 rfl rfl (Nat.le_of_ble_eq_true rfl) rfl (fun ls hl => ?_)
          refine u_goto 6 X dX10_judge_40 rfl ?_
          exact ih6 _ _ _ _ (lv_sub hl [1, 0] rfl) hP hS h
        · rw [if_neg hc] at h
          refine u_iload_n X hl dX10_judge_31 1 rfl ?_
          refine u_iconst (v := 3) X dX10_judge_32 rfl ?_
          refine u_idiv X (by decide) dX10_judge_33 ?_
          refine u_iconst (v := 1) X dX10_judge_34 rfl ?_
          refine u_iadd X dX10_judge_35 ?_
          exact u_iretM X hr hret h hP hS dX10_judge_36
  exact L6 LF _ _ _ _ (lv_sub hl [1, 0] rfl) hP hS h
def fM_isShelf (a0 : Int32) : Int32 :=
  fM_in a0 0 3
theorem fM_isShelf_b (a0 : Int32) : fM_isShelf a0 = 0 ∨ fM_isShelf a0 = 1 := by
  unfold fM_isShelf
  (repeat' split) <;> first | with_reducible exact Or.inl rfl | with_reducible exact Or.inr rfl | with_reducible exact fM_in_b _ _ _
set_option maxRecDepth 4000 in
theorem cM_isShelf (l : Launch) (z : MS) (a0 : Int32) : CT l yX10_isShelf cX10_isShelf 1 (some .boolean) 1 22 (fun ad sd => [.int a0]) z (some (.int (fM_isShelf a0))) z := by
  generalize h : fM_isShelf a0 = r
  rw [fM_isShelf] at h
  refine u_start RX10 rfl (by decide) (fun _ _ => Nat.le_of_ble_eq_true rfl) (fun p e s m args below meth c R D ad cs sd A Q ls X hP hS hl hr hret => ?_)
  have hl : lv_has ls 1 [(0, .int a0)] := hl
  refine u_iload_n X hl dX10_isShelf_0 0 rfl ?_
  refine u_iconst (v := 0) X dX10_isShelf_1 rfl ?_
  refine u_iconst (v := 3) X dX10_isShelf_2 rfl ?_
  refine u_callSi X hP hS hl dX10_isShelf_3 (cM_in l z a0 0 3) cw_X10_105 rfl rfl rfl rfl ⟨rfl, rfl⟩ (fun H locs hP hS => ?_)
  exact u_zretT X hr hret h hP hS (fM_in_b _ _ _) dX10_isShelf_6
def fM_lacksSort (z : MS) (a0 : Int32) (a1 : Int32) : Option Int32 :=
  if a0 < 0 ∨ 4 ≤ a0.toNatClampNeg then none else if 0 ≤ (gI z 77 a0.toNatClampNeg) then (if a0 < 0 ∨ 4 ≤ a0.toNatClampNeg then none else if (gI z 77 a0.toNatClampNeg) = a1 then some 0 else some (-13)) else some (-11)
set_option maxRecDepth 4000 in
theorem cM_lacksSort (l : Launch) {z : MS} {a0 : Int32} {a1 : Int32} {r : Int32} (h : fM_lacksSort z a0 a1 = some r) : CT l yX10_lacksSort cX10_lacksSort 3 (some .int) 0 0 (fun ad sd => [.ref (ad 56), .int a0, .int a1]) z (some (.int r)) z := by
  rw [fM_lacksSort] at h
  refine u_start RX10 rfl (by decide) (fun _ _ => Nat.le_of_ble_eq_true rfl) (fun p e s m args below meth c R D ad cs sd A Q ls X hP hS hl hr hret => ?_)
  have hl : lv_has ls 3 [(0, .ref (ad 56)), (1, .int a0), (2, .int a1)] := hl
  refine u_aload_n X hl dX10_lacksSort_0 0 rfl ?_
  refine gf_X10_75_56 X hP dX10_lacksSort_1 ?_
  refine u_iload_n X hl dX10_lacksSort_4 1 rfl ?_
  obtain ⟨hin, h⟩ := ifn_inv h
  refine ld_77 X hP rfl hin dX10_lacksSort_5 ?_
  refine u_if_ge 14 X dX10_lacksSort_6 rfl (fun hc => ?_) (fun hc => ?_)
  · rw [if_pos hc] at h
    refine u_aload_n X hl dX10_lacksSort_14 0 rfl ?_
    refine gf_X10_75_56 X hP dX10_lacksSort_15 ?_
    refine u_iload_n X hl dX10_lacksSort_18 1 rfl ?_
    obtain ⟨hin, h⟩ := ifn_inv h
    refine ld_77 X hP rfl hin dX10_lacksSort_19 ?_
    refine u_iload_n X hl dX10_lacksSort_20 2 rfl ?_
    refine u_icmp_eq 29 X dX10_lacksSort_21 rfl (fun hc => ?_) (fun hc => ?_)
    · rw [if_pos hc] at h
      refine u_iconst (v := 0) X dX10_lacksSort_29 rfl ?_
      exact u_iretP X hr hret h hP hS dX10_lacksSort_30
    · rw [if_neg hc] at h
      refine u_bipush (v := (-13)) X dX10_lacksSort_24 rfl ?_
      refine u_goto 30 X dX10_lacksSort_26 rfl ?_
      exact u_iretP X hr hret h hP hS dX10_lacksSort_30
  · rw [if_neg hc] at h
    refine u_bipush (v := (-11)) X dX10_lacksSort_9 rfl ?_
    refine u_goto 30 X dX10_lacksSort_11 rfl ?_
    exact u_iretP X hr hret h hP hS dX10_lacksSort_30
def fM_days_L56 (l1 : Int32) (l2 : Int32) (l4 : Int32) : Nat → MS → Int32 → Option (Int32 × MS)
  | 0, _, _ => none
  | n + 1, z, l5 => if l4 ≤ l5 then some (l4, z) else (if ((40 * l2) + l5) < 0 ∨ 160 ≤ ((40 * l2) + l5).toNatClampNeg then none else if (fM_isPerson z ((gJ z 79 ((40 * l2) + l5).toNatClampNeg).toInt32)) = 0 then (if ((4 * l5) + l1) < 0 ∨ 40 ≤ ((4 * l5) + l1).toNatClampNeg then none else fM_days_L56 l1 l2 l4 n (pI z 60 ((4 * l5) + l1).toNatClampNeg (-1)) (l5 + 1)) else (if ((4 * l5) + l1) < 0 ∨ 40 ≤ ((4 * l5) + l1).toNatClampNeg then none else fM_days_L56 l1 l2 l4 n (pI z 60 ((4 * l5) + l1).toNatClampNeg ((gJ z 79 ((40 * l2) + l5).toNatClampNeg).toInt32)) (l5 + 1)))
def fM_days (z : MS) (a0 : Int32) (a1 : Int32) : Option (Int32 × MS) :=
  if (fM_isPost a0) = 0 then some ((-1), z) else (if (fM_isShelf a1) = 0 then some ((-1), z) else Option.bind (fM_lacksSort z a1 2) (fun w19 => if w19 = 0 then (if a1 < 0 ∨ 4 ≤ a1.toNatClampNeg then none else if 10 ≤ (gI z 78 a1.toNatClampNeg) then fM_days_L56 a0 a1 10 LF z 0 else (if a1 < 0 ∨ 4 ≤ a1.toNatClampNeg then none else fM_days_L56 a0 a1 (gI z 78 a1.toNatClampNeg) LF z 0)) else some (w19, z)))
set_option maxRecDepth 4000 in
theorem cM_days (l : Launch) {z : MS} {a0 : Int32} {a1 : Int32} {r : Int32} {z1 : MS} (h : fM_days z a0 a1 = some (r, z1)) : CT l yX10_days cX10_days 7 (some .int) 2 43 (fun ad sd => [.ref (ad 56), .int a0, .int a1]) z (some (.int r)) z1 := by
  rw [fM_days] at h
  refine u_start RX10 rfl (by decide) (fun _ _ => Nat.le_of_ble_eq_true rfl) (fun p e s m args below meth c R D ad cs sd A Q ls X hP hS hl hr hret => ?_)
  have hl : lv_has ls 7 [(0, .ref (ad 56)), (1, .int a0), (2, .int a1)] := hl
  refine u_iload_n X hl dX10_days_0 1 rfl ?_
  refine u_callSi X hP hS hl dX10_days_1 (cM_isPost l z a0) cw_X10_242 rfl rfl rfl rfl ⟨rfl, rfl⟩ (fun H locs hP hS => ?_)
  refine u_if_eq 14 X dX10_days_4 rfl (fun hc => ?_) (fun hc => ?_)
  · rw [if_pos hc] at h
    refine u_iconst (v := (-1)) X dX10_days_14 rfl ?_
    exact u_iretM X hr hret h hP hS dX10_days_15
  · rw [if_neg hc] at h
    refine u_iload_n X hl dX10_days_7 2 rfl ?_
    refine u_callSi X hP hS hl dX10_days_8 (cM_isShelf l z a1) cw_X10_347 rfl rfl rfl rfl ⟨rfl, rfl⟩ (fun H locs hP hS => ?_)
    refine u_if_ne 16 X dX10_days_11 rfl (fun hc => ?_) (fun hc => ?_)
    · rw [if_neg hc] at h
      refine u_aload_n X hl dX10_days_16 0 rfl ?_
      refine u_iload_n X hl dX10_days_17 2 rfl ?_
      refine u_iconst (v := 2) X dX10_days_18 rfl ?_
      obtain ⟨w19, hc19, h⟩ := ob_inv h
      refine u_callVi X hP hS hl dX10_days_19 (cM_lacksSort l hc19) cw_X10_350 io_56 rfl rfl rfl rfl ⟨rfl, rfl⟩ (fun H locs hP hS => ?_)
      refine u_istore_n [(3, .int w19), (0, .ref (ad 56)), (1, .int a0), (2, .int a1)] X hl dX10_days_22 (Nat.le_of_ble_eq_true rfl) rfl (fun ls hl => ?_)
      refine u_iload_n X hl dX10_days_23 0 rfl ?_
      refine u_if_eq 29 X dX10_days_24 rfl (fun hc => ?_) (fun hc => ?_)
      · rw [if_pos hc] at h
        refine u_aload_n X hl dX10_days_29 1 rfl ?_
        refine gf_X10_78_56 X hP dX10_days_30 ?_
        refine u_iload_n X hl dX10_days_33 3 rfl ?_
        obtain ⟨hin, h⟩ := ifn_inv h
        refine ld_78 X hP rfl hin dX10_days_34 ?_
        refine u_bipush (v := 10) X dX10_days_35 rfl ?_
        refine u_icmp_ge 49 X dX10_days_37 rfl (fun hc => ?_) (fun hc => ?_)
        · rw [if_pos hc] at h
          refine u_bipush (v := 10) X dX10_days_49 rfl ?_
          refine u_istore [(4, .int 10), (3, .int w19), (0, .ref (ad 56)), (1, .int a0), (2, .int a1)] X hl dX10_days_51 (Nat.le_of_ble_eq_true rfl) rfl (fun ls hl => ?_)
          refine u_iconst (v := 0) X dX10_days_53 rfl ?_
          refine u_istore [(5, .int 0), (4, .int 10), (3, .int w19), (0, .ref (ad 56)), (1, .int a0), (2, .int a1)] X hl dX10_days_54 (Nat.le_of_ble_eq_true rfl) rfl (fun ls hl => ?_)
          have L56 : ∀ (n : Nat) (H : Heap) (locs : List Loc) (ls : Array Slot) (z_56 : MS) (l5_56 : Int32), lv_has ls 7 [(0, .ref (ad 56)), (1, .int a0), (2, .int a1), (4, .int 10), (5, .int l5_56)] → va_P D clss (wld cs ad z_56) H → va_S A s.heap H locs → fM_days_L56 a0 a1 10 n z_56 l5_56 = some (r, z1) → W p l e R s m args below meth c H locs 0 0 Q (F0 m 56 ls []) := by
            intro n
            induction n with
            | zero =>
              intro H locs ls z_56 l5_56 hl hP hS h
              rw [fM_days_L56] at h
              cases h
            | succ n56 ih56 =>
              intro H locs ls z_56 l5_56 hl hP hS h
              rw [fM_days_L56] at h
              refine u_iload X hl dX10_days_56 4 rfl ?_
              refine u_iload X hl dX10_days_58 3 rfl ?_
              refine u_icmp_ge 110 X dX10_days_60 rfl (fun hc => ?_) (fun hc => ?_)
              · rw [if_pos hc] at h
                refine u_iload X hl dX10_days_110 3 rfl ?_
                exact u_iretM X hr hret h hP hS dX10_days_112
              · rw [if_neg hc] at h
                refine u_aload_n X hl dX10_days_63 0 rfl ?_
                refine gf_X10_81_56 X hP dX10_days_64 ?_
                refine u_bipush (v := 40) X dX10_days_67 rfl ?_
                refine u_iload_n X hl dX10_days_69 2 rfl ?_
                refine u_imul X dX10_days_70 ?_
                refine u_iload X hl dX10_days_71 4 rfl ?_
                refine u_iadd X dX10_days_73 ?_
                obtain ⟨hin, h⟩ := ifn_inv h
                refine ld_79 X hP rfl hin dX10_days_74 ?_
                refine u_l2i X dX10_days_75 ?_
                refine u_istore [(6, .int ((gJ z_56 79 ((40 * a1) + l5_56).toNatClampNeg).toInt32)), (0, .ref (ad 56)), (1, .int a0), (2, .int a1), (4, .int 10), (5, .int l5_56)] X hl dX10_days_76 (Nat.le_of_ble_eq_true rfl) rfl (fun ls hl => ?_)
                refine u_aload_n X hl dX10_days_78 1 rfl ?_
                refine gf_X10_19_56 X hP dX10_days_79 ?_
                refine u_iconst (v := 4) X dX10_days_82 rfl ?_
                refine u_iload X hl dX10_days_83 5 rfl ?_
                refine u_imul X dX10_days_85 ?_
                refine u_iload_n X hl dX10_days_86 2 rfl ?_
                refine u_iadd X dX10_days_87 ?_
                refine u_aload_n X hl dX10_days_88 1 rfl ?_
                refine u_iload X hl dX10_days_89 0 rfl ?_
                refine u_callVi X hP hS hl dX10_days_91 (cM_isPerson l z_56 ((gJ z_56 79 ((40 * a1) + l5_56).toNatClampNeg).toInt32)) cw_X10_109 io_56 rfl rfl rfl rfl ⟨rfl, rfl⟩ (fun H locs hP hS => ?_)
                refine u_if_eq 102 X dX10_days_94 rfl (fun hc => ?_) (fun hc => ?_)
                · rw [if_pos hc] at h
                  refine u_iconst (v := (-1)) X dX10_days_102 rfl ?_
                  obtain ⟨hin, h⟩ := ifn_inv h
                  refine as_60 X hP hS rfl hin dX10_days_103 (fun H locs hP hS => ?_)
                  refine u_iinc [(5, .int (l5_56 + 1)), (6, .int ((gJ z_56 79 ((40 * a1) + l5_56).toNatClampNeg).toInt32)), (0, .ref (ad 56)), (1, .int a0), (2, .int a1), (4, .int 10)] X hl dX10_days_104 5 rfl rfl (Nat.le_of_ble_eq_true rfl) rfl (fun ls hl => ?_)
                  refine u_goto 56 X dX10_days_107 rfl ?_
                  exact ih56 _ _ _ _ _ (lv_sub hl [2, 3, 4, 5, 0] rfl) hP hS h
                · rw [if_neg hc] at h
                  refine u_iload X hl dX10_days_97 0 rfl ?_
                  refine u_goto 103 X dX10_days_99 rfl ?_
                  obtain ⟨hin, h⟩ := ifn_inv h
                  refine as_60 X hP hS rfl hin dX10_days_103 (fun H locs hP hS => ?_)
                  refine u_iinc [(5, .int (l5_56 + 1)), (6, .int ((gJ z_56 79 ((40 * a1) + l5_56).toNatClampNeg).toInt32)), (0, .ref (ad 56)), (1, .int a0), (2, .int a1), (4, .int 10)] X hl dX10_days_104 5 rfl rfl (Nat.le_of_ble_eq_true rfl) rfl (fun ls hl => ?_)
                  refine u_goto 56 X dX10_days_107 rfl ?_
                  exact ih56 _ _ _ _ _ (lv_sub hl [2, 3, 4, 5, 0] rfl) hP hS h
          exact L56 LF _ _ _ _ _ (lv_sub hl [3, 4, 5, 1, 0] rfl) hP hS h
        · rw [if_neg hc] at h
          refine u_aload_n X hl dX10_days_40 1 rfl ?_
          refine gf_X10_78_56 X hP dX10_days_41 ?_
          refine u_iload_n X hl dX10_days_44 3 rfl ?_
          obtain ⟨hin, h⟩ := ifn_inv h
          refine ld_78 X hP rfl hin dX10_days_45 ?_
          refine u_goto 51 X dX10_days_46 rfl ?_
          refine u_istore [(4, .int (gI z 78 a1.toNatClampNeg)), (3, .int w19), (0, .ref (ad 56)), (1, .int a0), (2, .int a1)] X hl dX10_days_51 (Nat.le_of_ble_eq_true rfl) rfl (fun ls hl => ?_)
          refine u_iconst (v := 0) X dX10_days_53 rfl ?_
          refine u_istore [(5, .int 0), (4, .int (gI z 78 a1.toNatClampNeg)), (3, .int w19), (0, .ref (ad 56)), (1, .int a0), (2, .int a1)] X hl dX10_days_54 (Nat.le_of_ble_eq_true rfl) rfl (fun ls hl => ?_)
          have L56 : ∀ (n : Nat) (H : Heap) (locs : List Loc) (ls : Array Slot) (z_56 : MS) (l5_56 : Int32), lv_has ls 7 [(0, .ref (ad 56)), (1, .int a0), (2, .int a1), (4, .int (gI z 78 a1.toNatClampNeg)), (5, .int l5_56)] → va_P D clss (wld cs ad z_56) H → va_S A s.heap H locs → fM_days_L56 a0 a1 (gI z 78 a1.toNatClampNeg) n z_56 l5_56 = some (r, z1) → W p l e R s m args below meth c H locs 0 0 Q (F0 m 56 ls []) := by
            intro n
            induction n with
            | zero =>
              intro H locs ls z_56 l5_56 hl hP hS h
              rw [fM_days_L56] at h
              cases h
            | succ n56 ih56 =>
              intro H locs ls z_56 l5_56 hl hP hS h
              rw [fM_days_L56] at h
              refine u_iload X hl dX10_days_56 4 rfl ?_
              refine u_iload X hl dX10_days_58 3 rfl ?_
              refine u_icmp_ge 110 X dX10_days_60 rfl (fun hc => ?_) (fun hc => ?_)
              · rw [if_pos hc] at h
                refine u_iload X hl dX10_days_110 3 rfl ?_
                exact u_iretM X hr hret h hP hS dX10_days_112
              · rw [if_neg hc] at h
                refine u_aload_n X hl dX10_days_63 0 rfl ?_
                refine gf_X10_81_56 X hP dX10_days_64 ?_
                refine u_bipush (v := 40) X dX10_days_67 rfl ?_
                refine u_iload_n X hl dX10_days_69 2 rfl ?_
                refine u_imul X dX10_days_70 ?_
                refine u_iload X hl dX10_days_71 4 rfl ?_
                refine u_iadd X dX10_days_73 ?_
                obtain ⟨hin, h⟩ := ifn_inv h
                refine ld_79 X hP rfl hin dX10_days_74 ?_
                refine u_l2i X dX10_days_75 ?_
                refine u_istore [(6, .int ((gJ z_56 79 ((40 * a1) + l5_56).toNatClampNeg).toInt32)), (0, .ref (ad 56)), (1, .int a0), (2, .int a1), (4, .int (gI z 78 a1.toNatClampNeg)), (5, .int l5_56)] X hl dX10_days_76 (Nat.le_of_ble_eq_true rfl) rfl (fun ls hl => ?_)
                refine u_aload_n X hl dX10_days_78 1 rfl ?_
                refine gf_X10_19_56 X hP dX10_days_79 ?_
                refine u_iconst (v := 4) X dX10_days_82 rfl ?_
                refine u_iload X hl dX10_days_83 5 rfl ?_
                refine u_imul X dX10_days_85 ?_
                refine u_iload_n X hl dX10_days_86 2 rfl ?_
                refine u_iadd X dX10_days_87 ?_
                refine u_aload_n X hl dX10_days_88 1 rfl ?_
                refine u_iload X hl dX10_days_89 0 rfl ?_
                refine u_callVi X hP hS hl dX10_days_91 (cM_isPerson l z_56 ((gJ z_56 79 ((40 * a1) + l5_56).toNatClampNeg).toInt32)) cw_X10_109 io_56 rfl rfl rfl rfl ⟨rfl, rfl⟩ (fun H locs hP hS => ?_)
                refine u_if_eq 102 X dX10_days_94 rfl (fun hc => ?_) (fun hc => ?_)
                · rw [if_pos hc] at h
                  refine u_iconst (v := (-1)) X dX10_days_102 rfl ?_
                  obtain ⟨hin, h⟩ := ifn_inv h
                  refine as_60 X hP hS rfl hin dX10_days_103 (fun H locs hP hS => ?_)
                  refine u_iinc [(5, .int (l5_56 + 1)), (6, .int ((gJ z_56 79 ((40 * a1) + l5_56).toNatClampNeg).toInt32)), (0, .ref (ad 56)), (1, .int a0), (2, .int a1), (4, .int (gI z 78 a1.toNatClampNeg))] X hl dX10_days_104 5 rfl rfl (Nat.le_of_ble_eq_true rfl) rfl (fun ls hl => ?_)
                  refine u_goto 56 X dX10_days_107 rfl ?_
                  exact ih56 _ _ _ _ _ (lv_sub hl [2, 3, 4, 5, 0] rfl) hP hS h
                · rw [if_neg hc] at h
                  refine u_iload X hl dX10_days_97 0 rfl ?_
                  refine u_goto 103 X dX10_days_99 rfl ?_
                  obtain ⟨hin, h⟩ := ifn_inv h
                  refine as_60 X hP hS rfl hin dX10_days_103 (fun H locs hP hS => ?_)
                  refine u_iinc [(5, .int (l5_56 + 1)), (6, .int ((gJ z_56 79 ((40 * a1) + l5_56).toNatClampNeg).toInt32)), (0, .ref (ad 56)), (1, .int a0), (2, .int a1), (4, .int (gI z 78 a1.toNatClampNeg))] X hl dX10_days_104 5 rfl rfl (Nat.le_of_ble_eq_true rfl) rfl (fun ls hl => ?_)
                  refine u_goto 56 X dX10_days_107 rfl ?_
                  exact ih56 _ _ _ _ _ (lv_sub hl [2, 3, 4, 5, 0] rfl) hP hS h
          exact L56 LF _ _ _ _ _ (lv_sub hl [3, 4, 5, 1, 0] rfl) hP hS h
      · rw [if_neg hc] at h
        refine u_iload_n X hl dX10_days_27 0 rfl ?_
        exact u_iretM X hr hret h hP hS dX10_days_28
    · rw [if_pos hc] at h
      refine u_iconst (v := (-1)) X dX10_days_14 rfl ?_
      exact u_iretM X hr hret h hP hS dX10_days_15
def fM_sheet_L64 (l1 : Int32) : Nat → MS → Int32 → Option (Int32 × MS)
  | 0, _, _ => none
  | n + 1, z, l4 => if 40 ≤ l4 then some (1, z) else (if ((40 * l1) + l4) < 0 ∨ 160 ≤ ((40 * l1) + l4).toNatClampNeg then none else fM_sheet_L64 l1 n (pJ z 79 ((40 * l1) + l4).toNatClampNeg 0) (l4 + 1))
def fM_sheet_J39 (z : MS) (l1 : Int32) (l2 : Int32) (l3 : Int32) : Option (Int32 × MS) :=
  if l1 < 0 ∨ 4 ≤ l1.toNatClampNeg then none else if 0 ≤ l2 then (if l1 < 0 ∨ 4 ≤ l1.toNatClampNeg then none else fM_sheet_L64 l1 LF (pI (pI z 77 l1.toNatClampNeg l2) 78 l1.toNatClampNeg l3) 0) else (if l1 < 0 ∨ 4 ≤ l1.toNatClampNeg then none else fM_sheet_L64 l1 LF (pI (pI z 77 l1.toNatClampNeg l2) 78 l1.toNatClampNeg 0) 0)
def fM_sheet_J28 (z : MS) (l1 : Int32) (l2 : Int32) (l3 : Int32) : Option (Int32 × MS) :=
  if l2 < 0 then fM_sheet_J39 z l1 l2 l3 else (if 0 ≤ l3 then fM_sheet_J39 z l1 l2 l3 else some ((-14), z))
def fM_sheet (z : MS) (a0 : Int32) (a1 : Int32) (a2 : Int32) : Option (Int32 × MS) :=
  if (fM_isShelf a0) = 0 then some ((-1), z) else (if (fM_in a1 (-1) 3) = 0 then some ((-1), z) else (if a1 < 0 then fM_sheet_J28 z a0 a1 a2 else (if a2 ≤ 40 then fM_sheet_J28 z a0 a1 a2 else some ((-1), z))))
set_option maxRecDepth 4000 in
theorem cM_sheet (l : Launch) {z : MS} {a0 : Int32} {a1 : Int32} {a2 : Int32} {r : Int32} {z1 : MS} (h : fM_sheet z a0 a1 a2 = some (r, z1)) : CT l yX10_sheet cX10_sheet 5 (some .int) 2 42 (fun ad sd => [.ref (ad 56), .int a0, .int a1, .int a2]) z (some (.int r)) z1 := by
  rw [fM_sheet] at h
  refine u_start RX10 rfl (by decide) (fun _ _ => Nat.le_of_ble_eq_true rfl) (fun p e s m args below meth c R D ad cs sd A Q ls X hP hS hl hr hret => ?_)
  have hl : lv_has ls 5 [(0, .ref (ad 56)), (1, .int a0), (2, .int a1), (3, .int a2)] := hl
  refine u_iload_n X hl dX10_sheet_0 1 rfl ?_
  refine u_callSi X hP hS hl dX10_sheet_1 (cM_isShelf l z a0) cw_X10_347 rfl rfl rfl rfl ⟨rfl, rfl⟩ (fun H locs hP hS => ?_)
  refine u_if_eq 26 X dX10_sheet_4 rfl (fun hc => ?_) (fun hc => ?_)
  · rw [if_pos hc] at h
    refine u_iconst (v := (-1)) X dX10_sheet_26 rfl ?_
    exact u_iretM X hr hret h hP hS dX10_sheet_27
  · rw [if_neg hc] at h
    refine u_iload_n X hl dX10_sheet_7 2 rfl ?_
    refine u_iconst (v := (-1)) X dX10_sheet_8 rfl ?_
    refine u_iconst (v := 3) X dX10_sheet_9 rfl ?_
    refine u_callSi X hP hS hl dX10_sheet_10 (cM_in l z a1 (-1) 3) cw_X10_105 rfl rfl rfl rfl ⟨rfl, rfl⟩ (fun H locs hP hS => ?_)
    refine u_if_eq 26 X dX10_sheet_13 rfl (fun hc => ?_) (fun hc => ?_)
    · rw [if_pos hc] at h
      refine u_iconst (v := (-1)) X dX10_sheet_26 rfl ?_
      exact u_iretM X hr hret h hP hS dX10_sheet_27
    · rw [if_neg hc] at h
      refine u_iload_n X hl dX10_sheet_16 2 rfl ?_
      have J28 : ∀ (H : Heap) (locs : List Loc) (ls : Array Slot), lv_has ls 5 [(0, .ref (ad 56)), (1, .int a0), (2, .int a1), (3, .int a2)] → va_P D clss (wld cs ad z) H → va_S A s.heap H locs → fM_sheet_J28 z a0 a1 a2 = some (r, z1) → W p l e R s m args below meth c H locs 0 0 Q (F0 m 28 ls []) := by
        intro H locs ls hl hP hS h
        rw [fM_sheet_J28] at h
        refine u_iload_n X hl dX10_sheet_28 2 rfl ?_
        have J39 : ∀ (H : Heap) (locs : List Loc) (ls : Array Slot), lv_has ls 5 [(0, .ref (ad 56)), (1, .int a0), (2, .int a1), (3, .int a2)] → va_P D clss (wld cs ad z) H → va_S A s.heap H locs → fM_sheet_J39 z a0 a1 a2 = some (r, z1) → W p l e R s m args below meth c H locs 0 0 Q (F0 m 39 ls []) := by
          intro H locs ls hl hP hS h
          rw [fM_sheet_J39] at h
          refine u_aload_n X hl dX10_sheet_39 0 rfl ?_
          refine gf_X10_75_56 X hP dX10_sheet_40 ?_
          refine u_iload_n X hl dX10_sheet_43 1 rfl ?_
          refine u_iload_n X hl dX10_sheet_44 2 rfl ?_
          obtain ⟨hin, h⟩ := ifn_inv h
          refine as_77 X hP hS rfl hin dX10_sheet_45 (fun H locs hP hS => ?_)
          refine u_aload_n X hl dX10_sheet_46 0 rfl ?_
          refine gf_X10_78_56 X hP dX10_sheet_47 ?_
          refine u_iload_n X hl dX10_sheet_50 1 rfl ?_
          refine u_iload_n X hl dX10_sheet_51 2 rfl ?_
          refine u_if_ge 59 X dX10_sheet_52 rfl (fun hc => ?_) (fun hc => ?_)
          · rw [if_pos hc] at h
            refine u_iload_n X hl dX10_sheet_59 3 rfl ?_
            obtain ⟨hin, h⟩ := ifn_inv h
            refine as_78 X hP hS rfl hin dX10_sheet_60 (fun H locs hP hS => ?_)
            refine u_iconst (v := 0) X dX10_sheet_61 rfl ?_
            refine u_istore [(4, .int 0), (0, .ref (ad 56)), (1, .int a0), (2, .int a1), (3, .int a2)] X hl dX10_sheet_62 (Nat.le_of_ble_eq_true rfl) rfl (fun ls hl => ?_)
            have L64 : ∀ (n : Nat) (H : Heap) (locs : List Loc) (ls : Array Slot) (z_64 : MS) (l4_64 : Int32), lv_has ls 5 [(0, .ref (ad 56)), (1, .int a0), (4, .int l4_64)] → va_P D clss (wld cs ad z_64) H → va_S A s.heap H locs → fM_sheet_L64 a0 n z_64 l4_64 = some (r, z1) → W p l e R s m args below meth c H locs 0 0 Q (F0 m 64 ls []) := by
              intro n
              induction n with
              | zero =>
                intro H locs ls z_64 l4_64 hl hP hS h
                rw [fM_sheet_L64] at h
                cases h
              | succ n64 ih64 =>
                intro H locs ls z_64 l4_64 hl hP hS h
                rw [fM_sheet_L64] at h
                refine u_iload X hl dX10_sheet_64 2 rfl ?_
                refine u_bipush (v := 40) X dX10_sheet_66 rfl ?_
                refine u_icmp_ge 90 X dX10_sheet_68 rfl (fun hc => ?_) (fun hc => ?_)
                · rw [if_pos hc] at h
                  refine u_iconst (v := 1) X dX10_sheet_90 rfl ?_
                  exact u_iretM X hr hret h hP hS dX10_sheet_91
                · rw [if_neg hc] at h
                  refine u_aload_n X hl dX10_sheet_71 0 rfl ?_
                  refine gf_X10_81_56 X hP dX10_sheet_72 ?_
                  refine u_bipush (v := 40) X dX10_sheet_75 rfl ?_
                  refine u_iload_n X hl dX10_sheet_77 1 rfl ?_
                  refine u_imul X dX10_sheet_78 ?_
                  refine u_iload X hl dX10_sheet_79 2 rfl ?_
                  refine u_iadd X dX10_sheet_81 ?_
                  refine u_lconst (v := 0) X dX10_sheet_82 rfl ?_
                  obtain ⟨hin, h⟩ := ifn_inv h
                  refine as_79 X hP hS rfl hin dX10_sheet_83 (fun H locs hP hS => ?_)
                  refine u_iinc [(4, .int (l4_64 + 1)), (0, .ref (ad 56)), (1, .int a0)] X hl dX10_sheet_84 2 rfl rfl (Nat.le_of_ble_eq_true rfl) rfl (fun ls hl => ?_)
                  refine u_goto 64 X dX10_sheet_87 rfl ?_
                  exact ih64 _ _ _ _ _ (lv_sub hl [1, 2, 0] rfl) hP hS h
            exact L64 LF _ _ _ _ _ (lv_sub hl [1, 2, 0] rfl) hP hS h
          · rw [if_neg hc] at h
            refine u_iconst (v := 0) X dX10_sheet_55 rfl ?_
            refine u_goto 60 X dX10_sheet_56 rfl ?_
            obtain ⟨hin, h⟩ := ifn_inv h
            refine as_78 X hP hS rfl hin dX10_sheet_60 (fun H locs hP hS => ?_)
            refine u_iconst (v := 0) X dX10_sheet_61 rfl ?_
            refine u_istore [(4, .int 0), (0, .ref (ad 56)), (1, .int a0), (2, .int a1), (3, .int a2)] X hl dX10_sheet_62 (Nat.le_of_ble_eq_true rfl) rfl (fun ls hl => ?_)
            have L64 : ∀ (n : Nat) (H : Heap) (locs : List Loc) (ls : Array Slot) (z_64 : MS) (l4_64 : Int32), lv_has ls 5 [(0, .ref (ad 56)), (1, .int a0), (4, .int l4_64)] → va_P D clss (wld cs ad z_64) H → va_S A s.heap H locs → fM_sheet_L64 a0 n z_64 l4_64 = some (r, z1) → W p l e R s m args below meth c H locs 0 0 Q (F0 m 64 ls []) := by
              intro n
              induction n with
              | zero =>
                intro H locs ls z_64 l4_64 hl hP hS h
                rw [fM_sheet_L64] at h
                cases h
              | succ n64 ih64 =>
                intro H locs ls z_64 l4_64 hl hP hS h
                rw [fM_sheet_L64] at h
                refine u_iload X hl dX10_sheet_64 2 rfl ?_
                refine u_bipush (v := 40) X dX10_sheet_66 rfl ?_
                refine u_icmp_ge 90 X dX10_sheet_68 rfl (fun hc => ?_) (fun hc => ?_)
                · rw [if_pos hc] at h
                  refine u_iconst (v := 1) X dX10_sheet_90 rfl ?_
                  exact u_iretM X hr hret h hP hS dX10_sheet_91
                · rw [if_neg hc] at h
                  refine u_aload_n X hl dX10_sheet_71 0 rfl ?_
                  refine gf_X10_81_56 X hP dX10_sheet_72 ?_
                  refine u_bipush (v := 40) X dX10_sheet_75 rfl ?_
                  refine u_iload_n X hl dX10_sheet_77 1 rfl ?_
                  refine u_imul X dX10_sheet_78 ?_
                  refine u_iload X hl dX10_sheet_79 2 rfl ?_
                  refine u_iadd X dX10_sheet_81 ?_
                  refine u_lconst (v := 0) X dX10_sheet_82 rfl ?_
                  obtain ⟨hin, h⟩ := ifn_inv h
                  refine as_79 X hP hS rfl hin dX10_sheet_83 (fun H locs hP hS => ?_)
                  refine u_iinc [(4, .int (l4_64 + 1)), (0, .ref (ad 56)), (1, .int a0)] X hl dX10_sheet_84 2 rfl rfl (Nat.le_of_ble_eq_true rfl) rfl (fun ls hl => ?_)
                  refine u_goto 64 X dX10_sheet_87 rfl ?_
                  exact ih64 _ _ _ _ _ (lv_sub hl [1, 2, 0] rfl) hP hS h
            exact L64 LF _ _ _ _ _ (lv_sub hl [1, 2, 0] rfl) hP hS h
        refine u_if_lt 39 X dX10_sheet_29 rfl (fun hc => ?_) (fun hc => ?_)
        · rw [if_pos hc] at h
          exact J39 _ _ _ hl hP hS h
        · rw [if_neg hc] at h
          refine u_iload_n X hl dX10_sheet_32 3 rfl ?_
          refine u_if_ge 39 X dX10_sheet_33 rfl (fun hc => ?_) (fun hc => ?_)
          · rw [if_pos hc] at h
            exact J39 _ _ _ hl hP hS h
          · rw [if_neg hc] at h
            refine u_bipush (v := (-14)) X dX10_sheet_36 rfl ?_
            exact u_iretM X hr hret h hP hS dX10_sheet_38
      refine u_if_lt 28 X dX10_sheet_17 rfl (fun hc => ?_) (fun hc => ?_)
      · rw [if_pos hc] at h
        exact J28 _ _ _ hl hP hS h
      · rw [if_neg hc] at h
        refine u_iload_n X hl dX10_sheet_20 3 rfl ?_
        refine u_bipush (v := 40) X dX10_sheet_21 rfl ?_
        refine u_icmp_le 28 X dX10_sheet_23 rfl (fun hc => ?_) (fun hc => ?_)
        · rw [if_pos hc] at h
          exact J28 _ _ _ hl hP hS h
        · rw [if_neg hc] at h
          refine u_iconst (v := (-1)) X dX10_sheet_26 rfl ?_
          exact u_iretM X hr hret h hP hS dX10_sheet_27
def fM_put (z : MS) (a0 : Int32) (a1 : Int32) (a2 : Int32) : Option (Int32 × MS) :=
  if (fM_isShelf a0) = 0 then some ((-1), z) else (if a0 < 0 ∨ 4 ≤ a0.toNatClampNeg then none else if 0 ≤ (gI z 77 a0.toNatClampNeg) then (if a0 < 0 ∨ 4 ≤ a0.toNatClampNeg then none else if (fM_in a1 0 ((gI z 78 a0.toNatClampNeg) - 1)) = 0 then some ((-12), z) else (if a0 < 0 ∨ 4 ≤ a0.toNatClampNeg then none else if (gI z 77 a0.toNatClampNeg) = 0 then (if ((40 * a0) + a1) < 0 ∨ 160 ≤ ((40 * a0) + a1).toNatClampNeg then none else some (1, pJ z 79 ((40 * a0) + a1).toNatClampNeg a2.toInt8.toInt32.toInt64)) else (if a0 < 0 ∨ 4 ≤ a0.toNatClampNeg then none else if (gI z 77 a0.toNatClampNeg) = 1 then (if ((40 * a0) + a1) < 0 ∨ 160 ≤ ((40 * a0) + a1).toNatClampNeg then none else some (1, pJ z 79 ((40 * a0) + a1).toNatClampNeg a2.toInt16.toInt32.toInt64)) else (if ((40 * a0) + a1) < 0 ∨ 160 ≤ ((40 * a0) + a1).toNatClampNeg then none else some (1, pJ z 79 ((40 * a0) + a1).toNatClampNeg a2.toInt64))))) else some ((-11), z))
set_option maxRecDepth 4000 in
theorem cM_put (l : Launch) {z : MS} {a0 : Int32} {a1 : Int32} {a2 : Int32} {r : Int32} {z1 : MS} (h : fM_put z a0 a1 a2 = some (r, z1)) : CT l yX10_put cX10_put 4 (some .int) 2 42 (fun ad sd => [.ref (ad 56), .int a0, .int a1, .int a2]) z (some (.int r)) z1 := by
  rw [fM_put] at h
  refine u_start RX10 rfl (by decide) (fun _ _ => Nat.le_of_ble_eq_true rfl) (fun p e s m args below meth c R D ad cs sd A Q ls X hP hS hl hr hret => ?_)
  have hl : lv_has ls 4 [(0, .ref (ad 56)), (1, .int a0), (2, .int a1), (3, .int a2)] := hl
  refine u_iload_n X hl dX10_put_0 1 rfl ?_
  refine u_callSi X hP hS hl dX10_put_1 (cM_isShelf l z a0) cw_X10_347 rfl rfl rfl rfl ⟨rfl, rfl⟩ (fun H locs hP hS => ?_)
  refine u_if_ne 9 X dX10_put_4 rfl (fun hc => ?_) (fun hc => ?_)
  · rw [if_neg hc] at h
    refine u_aload_n X hl dX10_put_9 0 rfl ?_
    refine gf_X10_75_56 X hP dX10_put_10 ?_
    refine u_iload_n X hl dX10_put_13 1 rfl ?_
    obtain ⟨hin, h⟩ := ifn_inv h
    refine ld_77 X hP rfl hin dX10_put_14 ?_
    refine u_if_ge 21 X dX10_put_15 rfl (fun hc => ?_) (fun hc => ?_)
    · rw [if_pos hc] at h
      refine u_iload_n X hl dX10_put_21 2 rfl ?_
      refine u_iconst (v := 0) X dX10_put_22 rfl ?_
      refine u_aload_n X hl dX10_put_23 0 rfl ?_
      refine gf_X10_78_56 X hP dX10_put_24 ?_
      refine u_iload_n X hl dX10_put_27 1 rfl ?_
      obtain ⟨hin, h⟩ := ifn_inv h
      refine ld_78 X hP rfl hin dX10_put_28 ?_
      refine u_iconst (v := 1) X dX10_put_29 rfl ?_
      refine u_isub X dX10_put_30 ?_
      refine u_callSi X hP hS hl dX10_put_31 (cM_in l z a1 0 ((gI z 78 a0.toNatClampNeg) - 1)) cw_X10_105 rfl rfl rfl rfl ⟨rfl, rfl⟩ (fun H locs hP hS => ?_)
      refine u_if_ne 40 X dX10_put_34 rfl (fun hc => ?_) (fun hc => ?_)
      · rw [if_neg hc] at h
        refine u_aload_n X hl dX10_put_40 0 rfl ?_
        refine gf_X10_81_56 X hP dX10_put_41 ?_
        refine u_bipush (v := 40) X dX10_put_44 rfl ?_
        refine u_iload_n X hl dX10_put_46 1 rfl ?_
        refine u_imul X dX10_put_47 ?_
        refine u_iload_n X hl dX10_put_48 2 rfl ?_
        refine u_iadd X dX10_put_49 ?_
        refine u_aload_n X hl dX10_put_50 0 rfl ?_
        refine gf_X10_75_56 X hP dX10_put_51 ?_
        refine u_iload_n X hl dX10_put_54 1 rfl ?_
        obtain ⟨hin, h⟩ := ifn_inv h
        refine ld_77 X hP rfl hin dX10_put_55 ?_
        refine u_if_ne 65 X dX10_put_56 rfl (fun hc => ?_) (fun hc => ?_)
        · rw [if_neg hc] at h
          refine u_aload_n X hl dX10_put_65 0 rfl ?_
          refine gf_X10_75_56 X hP dX10_put_66 ?_
          refine u_iload_n X hl dX10_put_69 1 rfl ?_
          obtain ⟨hin, h⟩ := ifn_inv h
          refine ld_77 X hP rfl hin dX10_put_70 ?_
          refine u_iconst (v := 1) X dX10_put_71 rfl ?_
          refine u_icmp_ne 81 X dX10_put_72 rfl (fun hc => ?_) (fun hc => ?_)
          · rw [if_neg hc] at h
            refine u_iload_n X hl dX10_put_81 3 rfl ?_
            refine u_i2l X dX10_put_82 ?_
            obtain ⟨hin, h⟩ := ifn_inv h
            refine as_79 X hP hS rfl hin dX10_put_83 (fun H locs hP hS => ?_)
            refine u_iconst (v := 1) X dX10_put_84 rfl ?_
            exact u_iretM X hr hret h hP hS dX10_put_85
          · rw [if_pos hc] at h
            refine u_iload_n X hl dX10_put_75 3 rfl ?_
            refine u_i2s X dX10_put_76 ?_
            refine u_i2l X dX10_put_77 ?_
            refine u_goto 83 X dX10_put_78 rfl ?_
            obtain ⟨hin, h⟩ := ifn_inv h
            refine as_79 X hP hS rfl hin dX10_put_83 (fun H locs hP hS => ?_)
            refine u_iconst (v := 1) X dX10_put_84 rfl ?_
            exact u_iretM X hr hret h hP hS dX10_put_85
        · rw [if_pos hc] at h
          refine u_iload_n X hl dX10_put_59 3 rfl ?_
          refine u_i2b X dX10_put_60 ?_
          refine u_i2l X dX10_put_61 ?_
          refine u_goto 83 X dX10_put_62 rfl ?_
          obtain ⟨hin, h⟩ := ifn_inv h
          refine as_79 X hP hS rfl hin dX10_put_83 (fun H locs hP hS => ?_)
          refine u_iconst (v := 1) X dX10_put_84 rfl ?_
          exact u_iretM X hr hret h hP hS dX10_put_85
      · rw [if_pos hc] at h
        refine u_bipush (v := (-12)) X dX10_put_37 rfl ?_
        exact u_iretM X hr hret h hP hS dX10_put_39
    · rw [if_neg hc] at h
      refine u_bipush (v := (-11)) X dX10_put_18 rfl ?_
      exact u_iretM X hr hret h hP hS dX10_put_20
  · rw [if_pos hc] at h
    refine u_iconst (v := (-1)) X dX10_put_7 rfl ?_
    exact u_iretM X hr hret h hP hS dX10_put_8
def fM_item (z : MS) (a0 : Int32) (a1 : Int32) (a2 : Int32) : Option Int32 :=
  if (fM_isShelf a0) = 0 then some (-1) else (if (fM_in a1 0 3) = 0 then some (-1) else Option.bind (fM_lacksSort z a0 a1) (fun w21 => if w21 = 0 then (if a0 < 0 ∨ 4 ≤ a0.toNatClampNeg then none else if (fM_in a2 0 ((gI z 78 a0.toNatClampNeg) - 1)) = 0 then some (-12) else (if ((40 * a0) + a2) < 0 ∨ 160 ≤ ((40 * a0) + a2).toNatClampNeg then none else some ((gJ z 79 ((40 * a0) + a2).toNatClampNeg).toInt32))) else some w21))
set_option maxRecDepth 4000 in
theorem cM_item (l : Launch) {z : MS} {a0 : Int32} {a1 : Int32} {a2 : Int32} {r : Int32} (h : fM_item z a0 a1 a2 = some r) : CT l yX10_item cX10_item 5 (some .int) 2 42 (fun ad sd => [.ref (ad 56), .int a0, .int a1, .int a2]) z (some (.int r)) z := by
  rw [fM_item] at h
  refine u_start RX10 rfl (by decide) (fun _ _ => Nat.le_of_ble_eq_true rfl) (fun p e s m args below meth c R D ad cs sd A Q ls X hP hS hl hr hret => ?_)
  have hl : lv_has ls 5 [(0, .ref (ad 56)), (1, .int a0), (2, .int a1), (3, .int a2)] := hl
  refine u_iload_n X hl dX10_item_0 1 rfl ?_
  refine u_callSi X hP hS hl dX10_item_1 (cM_isShelf l z a0) cw_X10_347 rfl rfl rfl rfl ⟨rfl, rfl⟩ (fun H locs hP hS => ?_)
  refine u_if_eq 16 X dX10_item_4 rfl (fun hc => ?_) (fun hc => ?_)
  · rw [if_pos hc] at h
    refine u_iconst (v := (-1)) X dX10_item_16 rfl ?_
    exact u_iretP X hr hret h hP hS dX10_item_17
  · rw [if_neg hc] at h
    refine u_iload_n X hl dX10_item_7 2 rfl ?_
    refine u_iconst (v := 0) X dX10_item_8 rfl ?_
    refine u_iconst (v := 3) X dX10_item_9 rfl ?_
    refine u_callSi X hP hS hl dX10_item_10 (cM_in l z a1 0 3) cw_X10_105 rfl rfl rfl rfl ⟨rfl, rfl⟩ (fun H locs hP hS => ?_)
    refine u_if_ne 18 X dX10_item_13 rfl (fun hc => ?_) (fun hc => ?_)
    · rw [if_neg hc] at h
      refine u_aload_n X hl dX10_item_18 0 rfl ?_
      refine u_iload_n X hl dX10_item_19 1 rfl ?_
      refine u_iload_n X hl dX10_item_20 2 rfl ?_
      obtain ⟨w21, hc21, h⟩ := ob_inv h
      refine u_callVi X hP hS hl dX10_item_21 (cM_lacksSort l hc21) cw_X10_350 io_56 rfl rfl rfl rfl ⟨rfl, rfl⟩ (fun H locs hP hS => ?_)
      refine u_istore [(4, .int w21), (0, .ref (ad 56)), (1, .int a0), (2, .int a1), (3, .int a2)] X hl dX10_item_24 (Nat.le_of_ble_eq_true rfl) rfl (fun ls hl => ?_)
      refine u_iload X hl dX10_item_26 0 rfl ?_
      refine u_if_eq 34 X dX10_item_28 rfl (fun hc => ?_) (fun hc => ?_)
      · rw [if_pos hc] at h
        refine u_iload_n X hl dX10_item_34 4 rfl ?_
        refine u_iconst (v := 0) X dX10_item_35 rfl ?_
        refine u_aload_n X hl dX10_item_36 1 rfl ?_
        refine gf_X10_78_56 X hP dX10_item_37 ?_
        refine u_iload_n X hl dX10_item_40 2 rfl ?_
        obtain ⟨hin, h⟩ := ifn_inv h
        refine ld_78 X hP rfl hin dX10_item_41 ?_
        refine u_iconst (v := 1) X dX10_item_42 rfl ?_
        refine u_isub X dX10_item_43 ?_
        refine u_callSi X hP hS hl dX10_item_44 (cM_in l z a2 0 ((gI z 78 a0.toNatClampNeg) - 1)) cw_X10_105 rfl rfl rfl rfl ⟨rfl, rfl⟩ (fun H locs hP hS => ?_)
        refine u_if_eq 65 X dX10_item_47 rfl (fun hc => ?_) (fun hc => ?_)
        · rw [if_pos hc] at h
          refine u_bipush (v := (-12)) X dX10_item_65 rfl ?_
          exact u_iretP X hr hret h hP hS dX10_item_67
        · rw [if_neg hc] at h
          refine u_aload_n X hl dX10_item_50 1 rfl ?_
          refine gf_X10_81_56 X hP dX10_item_51 ?_
          refine u_bipush (v := 40) X dX10_item_54 rfl ?_
          refine u_iload_n X hl dX10_item_56 2 rfl ?_
          refine u_imul X dX10_item_57 ?_
          refine u_iload_n X hl dX10_item_58 4 rfl ?_
          refine u_iadd X dX10_item_59 ?_
          obtain ⟨hin, h⟩ := ifn_inv h
          refine ld_79 X hP rfl hin dX10_item_60 ?_
          refine u_l2i X dX10_item_61 ?_
          refine u_goto 67 X dX10_item_62 rfl ?_
          exact u_iretP X hr hret h hP hS dX10_item_67
      · rw [if_neg hc] at h
        refine u_iload X hl dX10_item_31 0 rfl ?_
        exact u_iretP X hr hret h hP hS dX10_item_33
    · rw [if_pos hc] at h
      refine u_iconst (v := (-1)) X dX10_item_16 rfl ?_
      exact u_iretP X hr hret h hP hS dX10_item_17
def fM_isHeld (z : MS) (a0 : Int32) (a1 : Int32) : Int32 :=
  if a0 = 0 then fM_isPlan z a1 else (if a0 = 1 then fM_isShelf a1 else (if a0 = 2 then 1 else 0))
theorem fM_isHeld_b (z : MS) (a0 : Int32) (a1 : Int32) : fM_isHeld z a0 a1 = 0 ∨ fM_isHeld z a0 a1 = 1 := by
  unfold fM_isHeld
  (repeat' split) <;> first | with_reducible exact Or.inl rfl | with_reducible exact Or.inr rfl | with_reducible exact fM_isPlan_b _ _ | with_reducible exact fM_isShelf_b _
set_option maxRecDepth 4000 in
theorem cM_isHeld (l : Launch) (z : MS) (a0 : Int32) (a1 : Int32) : CT l yX10_isHeld cX10_isHeld 3 (some .boolean) 2 43 (fun ad sd => [.ref (ad 56), .int a0, .int a1]) z (some (.int (fM_isHeld z a0 a1))) z := by
  generalize h : fM_isHeld z a0 a1 = r
  rw [fM_isHeld] at h
  refine u_start RX10 rfl (by decide) (fun _ _ => Nat.le_of_ble_eq_true rfl) (fun p e s m args below meth c R D ad cs sd A Q ls X hP hS hl hr hret => ?_)
  have hl : lv_has ls 3 [(0, .ref (ad 56)), (1, .int a0), (2, .int a1)] := hl
  refine u_iload_n X hl dX10_isHeld_0 1 rfl ?_
  refine u_if_ne 12 X dX10_isHeld_1 rfl (fun hc => ?_) (fun hc => ?_)
  · rw [if_neg hc] at h
    refine u_iload_n X hl dX10_isHeld_12 1 rfl ?_
    refine u_iconst (v := 1) X dX10_isHeld_13 rfl ?_
    refine u_icmp_ne 24 X dX10_isHeld_14 rfl (fun hc => ?_) (fun hc => ?_)
    · rw [if_neg hc] at h
      refine u_iload_n X hl dX10_isHeld_24 1 rfl ?_
      refine u_iconst (v := 2) X dX10_isHeld_25 rfl ?_
      refine u_icmp_ne 33 X dX10_isHeld_26 rfl (fun hc => ?_) (fun hc => ?_)
      · rw [if_neg hc] at h
        refine u_iconst (v := 0) X dX10_isHeld_33 rfl ?_
        exact u_zretT X hr hret h hP hS (Or.inl rfl) dX10_isHeld_34
      · rw [if_pos hc] at h
        refine u_iconst (v := 1) X dX10_isHeld_29 rfl ?_
        refine u_goto 34 X dX10_isHeld_30 rfl ?_
        exact u_zretT X hr hret h hP hS (Or.inr rfl) dX10_isHeld_34
    · rw [if_pos hc] at h
      refine u_iload_n X hl dX10_isHeld_17 2 rfl ?_
      refine u_callSi X hP hS hl dX10_isHeld_18 (cM_isShelf l z a1) cw_X10_347 rfl rfl rfl rfl ⟨rfl, rfl⟩ (fun H locs hP hS => ?_)
      refine u_goto 34 X dX10_isHeld_21 rfl ?_
      exact u_zretT X hr hret h hP hS (fM_isShelf_b _) dX10_isHeld_34
  · rw [if_pos hc] at h
    refine u_aload_n X hl dX10_isHeld_4 0 rfl ?_
    refine u_iload_n X hl dX10_isHeld_5 2 rfl ?_
    refine u_callVi X hP hS hl dX10_isHeld_6 (cM_isPlan l z a1) cw_X10_318 io_56 rfl rfl rfl rfl ⟨rfl, rfl⟩ (fun H locs hP hS => ?_)
    refine u_goto 34 X dX10_isHeld_9 rfl ?_
    exact u_zretT X hr hret h hP hS (fM_isPlan_b _ _) dX10_isHeld_34
def fM_shelf_J68 (z : MS) (l1 : Int32) (l2 : Int32) (l3 : Int32) (s1 : Int32) (s2 : Int32) : Option (Int32 × MS) :=
  if s1 < 0 ∨ 4 ≤ s1.toNatClampNeg then none else if l2 = 1 then (if l3 < 0 ∨ 4 ≤ l3.toNatClampNeg then none else if l1 < 0 ∨ 4 ≤ l1.toNatClampNeg then none else some (1, pI (pI z 81 s1.toNatClampNeg s2) 82 l1.toNatClampNeg (gI (pI z 81 s1.toNatClampNeg s2) 78 l3.toNatClampNeg))) else (if l1 < 0 ∨ 4 ≤ l1.toNatClampNeg then none else some (1, pI (pI z 81 s1.toNatClampNeg s2) 82 l1.toNatClampNeg 0))
def fM_shelf_J47 (z : MS) (l1 : Int32) (l2 : Int32) (l3 : Int32) (s1 : Int32) (s2 : Int32) : Option (Int32 × MS) :=
  if s1 < 0 ∨ 4 ≤ s1.toNatClampNeg then none else if l2 = 1 then (if l3 < 0 ∨ 4 ≤ l3.toNatClampNeg then none else fM_shelf_J68 (pI z 80 s1.toNatClampNeg s2) l1 l2 l3 l1 (gI (pI z 80 s1.toNatClampNeg s2) 77 l3.toNatClampNeg)) else fM_shelf_J68 (pI z 80 s1.toNatClampNeg s2) l1 l2 l3 l1 l3
def fM_shelf_J42 (z : MS) (l1 : Int32) (l2 : Int32) (l3 : Int32) (s1 : Int32) : Option (Int32 × MS) :=
  fM_shelf_J47 z l1 l2 l3 s1 (-1)
def fM_shelf_J46 (z : MS) (l1 : Int32) (l2 : Int32) (l3 : Int32) (s1 : Int32) : Option (Int32 × MS) :=
  fM_shelf_J47 z l1 l2 l3 s1 l2
def fM_shelf (z : MS) (a0 : Int32) (a1 : Int32) (a2 : Int32) : Option (Int32 × MS) :=
  if (fM_isShelf a0) = 0 then some ((-1), z) else (if (fM_isHeld z a1 a2) = 0 then some ((-1), z) else (if a1 = 2 then fM_shelf_J42 z a0 a1 a2 a0 else (if a1 = 1 then (if a2 < 0 ∨ 4 ≤ a2.toNatClampNeg then none else if 0 ≤ (gI z 77 a2.toNatClampNeg) then fM_shelf_J46 z a0 a1 a2 a0 else fM_shelf_J42 z a0 a1 a2 a0) else fM_shelf_J46 z a0 a1 a2 a0)))
set_option maxRecDepth 4000 in
theorem cM_shelf (l : Launch) {z : MS} {a0 : Int32} {a1 : Int32} {a2 : Int32} {r : Int32} {z1 : MS} (h : fM_shelf z a0 a1 a2 = some (r, z1)) : CT l yX10_shelf cX10_shelf 4 (some .int) 3 65 (fun ad sd => [.ref (ad 56), .int a0, .int a1, .int a2]) z (some (.int r)) z1 := by
  rw [fM_shelf] at h
  refine u_start RX10 rfl (by decide) (fun _ _ => Nat.le_of_ble_eq_true rfl) (fun p e s m args below meth c R D ad cs sd A Q ls X hP hS hl hr hret => ?_)
  have hl : lv_has ls 4 [(0, .ref (ad 56)), (1, .int a0), (2, .int a1), (3, .int a2)] := hl
  refine u_iload_n X hl dX10_shelf_0 1 rfl ?_
  refine u_callSi X hP hS hl dX10_shelf_1 (cM_isShelf l z a0) cw_X10_347 rfl rfl rfl rfl ⟨rfl, rfl⟩ (fun H locs hP hS => ?_)
  refine u_if_eq 16 X dX10_shelf_4 rfl (fun hc => ?_) (fun hc => ?_)
  · rw [if_pos hc] at h
    refine u_iconst (v := (-1)) X dX10_shelf_16 rfl ?_
    exact u_iretM X hr hret h hP hS dX10_shelf_17
  · rw [if_neg hc] at h
    refine u_aload_n X hl dX10_shelf_7 0 rfl ?_
    refine u_iload_n X hl dX10_shelf_8 2 rfl ?_
    refine u_iload_n X hl dX10_shelf_9 3 rfl ?_
    refine u_callVi X hP hS hl dX10_shelf_10 (cM_isHeld l z a1 a2) cw_X10_353 io_56 rfl rfl rfl rfl ⟨rfl, rfl⟩ (fun H locs hP hS => ?_)
    refine u_if_ne 18 X dX10_shelf_13 rfl (fun hc => ?_) (fun hc => ?_)
    · rw [if_neg hc] at h
      refine u_aload_n X hl dX10_shelf_18 0 rfl ?_
      refine gf_X10_84_56 X hP dX10_shelf_19 ?_
      refine u_iload_n X hl dX10_shelf_22 1 rfl ?_
      refine u_iload_n X hl dX10_shelf_23 2 rfl ?_
      refine u_iconst (v := 2) X dX10_shelf_24 rfl ?_
      have J47 : ∀ (H : Heap) (locs : List Loc) (ls : Array Slot) (s2_47 : Int32), lv_has ls 4 [(0, .ref (ad 56)), (1, .int a0), (2, .int a1), (3, .int a2)] → va_P D clss (wld cs ad z) H → va_S A s.heap H locs → fM_shelf_J47 z a0 a1 a2 a0 s2_47 = some (r, z1) → W p l e R s m args below meth c H locs 0 0 Q (F0 m 47 ls [.int s2_47, .int a0, .ref (ad 80)]) := by
        intro H locs ls s2_47 hl hP hS h
        rw [fM_shelf_J47] at h
        obtain ⟨hin, h⟩ := ifn_inv h
        refine as_80 X hP hS rfl hin dX10_shelf_47 (fun H locs hP hS => ?_)
        refine u_aload_n X hl dX10_shelf_48 0 rfl ?_
        refine gf_X10_87_56 X hP dX10_shelf_49 ?_
        refine u_iload_n X hl dX10_shelf_52 1 rfl ?_
        refine u_iload_n X hl dX10_shelf_53 2 rfl ?_
        refine u_iconst (v := 1) X dX10_shelf_54 rfl ?_
        have J68 : ∀ (H : Heap) (locs : List Loc) (ls : Array Slot) (s2_68 : Int32), lv_has ls 4 [(0, .ref (ad 56)), (1, .int a0), (2, .int a1), (3, .int a2)] → va_P D clss (wld cs ad (pI z 80 a0.toNatClampNeg s2_47)) H → va_S A s.heap H locs → fM_shelf_J68 (pI z 80 a0.toNatClampNeg s2_47) a0 a1 a2 a0 s2_68 = some (r, z1) → W p l e R s m args below meth c H locs 0 0 Q (F0 m 68 ls [.int s2_68, .int a0, .ref (ad 81)]) := by
          intro H locs ls s2_68 hl hP hS h
          rw [fM_shelf_J68] at h
          obtain ⟨hin, h⟩ := ifn_inv h
          refine as_81 X hP hS rfl hin dX10_shelf_68 (fun H locs hP hS => ?_)
          refine u_aload_n X hl dX10_shelf_69 0 rfl ?_
          refine gf_X10_90_56 X hP dX10_shelf_70 ?_
          refine u_iload_n X hl dX10_shelf_73 1 rfl ?_
          refine u_iload_n X hl dX10_shelf_74 2 rfl ?_
          refine u_iconst (v := 1) X dX10_shelf_75 rfl ?_
          refine u_icmp_ne 88 X dX10_shelf_76 rfl (fun hc => ?_) (fun hc => ?_)
          · rw [if_neg hc] at h
            refine u_iconst (v := 0) X dX10_shelf_88 rfl ?_
            obtain ⟨hin, h⟩ := ifn_inv h
            refine as_82 X hP hS rfl hin dX10_shelf_89 (fun H locs hP hS => ?_)
            refine u_iconst (v := 1) X dX10_shelf_90 rfl ?_
            exact u_iretM X hr hret h hP hS dX10_shelf_91
          · rw [if_pos hc] at h
            refine u_aload_n X hl dX10_shelf_79 0 rfl ?_
            refine gf_X10_78_56 X hP dX10_shelf_80 ?_
            refine u_iload_n X hl dX10_shelf_83 3 rfl ?_
            obtain ⟨hin, h⟩ := ifn_inv h
            refine ld_78 X hP rfl hin dX10_shelf_84 ?_
            refine u_goto 89 X dX10_shelf_85 rfl ?_
            obtain ⟨hin, h⟩ := ifn_inv h
            refine as_82 X hP hS rfl hin dX10_shelf_89 (fun H locs hP hS => ?_)
            refine u_iconst (v := 1) X dX10_shelf_90 rfl ?_
            exact u_iretM X hr hret h hP hS dX10_shelf_91
        refine u_icmp_ne 67 X dX10_shelf_55 rfl (fun hc => ?_) (fun hc => ?_)
        · rw [if_neg hc] at h
          refine u_iload_n X hl dX10_shelf_67 3 rfl ?_
          exact J68 _ _ _ _ hl hP hS h
        · rw [if_pos hc] at h
          refine u_aload_n X hl dX10_shelf_58 0 rfl ?_
          refine gf_X10_75_56 X hP dX10_shelf_59 ?_
          refine u_iload_n X hl dX10_shelf_62 3 rfl ?_
          obtain ⟨hin, h⟩ := ifn_inv h
          refine ld_77 X hP rfl hin dX10_shelf_63 ?_
          refine u_goto 68 X dX10_shelf_64 rfl ?_
          exact J68 _ _ _ _ hl hP hS h
      have J42 : ∀ (H : Heap) (locs : List Loc) (ls : Array Slot), lv_has ls 4 [(0, .ref (ad 56)), (1, .int a0), (2, .int a1), (3, .int a2)] → va_P D clss (wld cs ad z) H → va_S A s.heap H locs → fM_shelf_J42 z a0 a1 a2 a0 = some (r, z1) → W p l e R s m args below meth c H locs 0 0 Q (F0 m 42 ls [.int a0, .ref (ad 80)]) := by
        intro H locs ls hl hP hS h
        rw [fM_shelf_J42] at h
        refine u_iconst (v := (-1)) X dX10_shelf_42 rfl ?_
        refine u_goto 47 X dX10_shelf_43 rfl ?_
        exact J47 _ _ _ _ hl hP hS h
      refine u_icmp_eq 42 X dX10_shelf_25 rfl (fun hc => ?_) (fun hc => ?_)
      · rw [if_pos hc] at h
        exact J42 _ _ _ hl hP hS h
      · rw [if_neg hc] at h
        refine u_iload_n X hl dX10_shelf_28 2 rfl ?_
        refine u_iconst (v := 1) X dX10_shelf_29 rfl ?_
        have J46 : ∀ (H : Heap) (locs : List Loc) (ls : Array Slot), lv_has ls 4 [(0, .ref (ad 56)), (1, .int a0), (2, .int a1), (3, .int a2)] → va_P D clss (wld cs ad z) H → va_S A s.heap H locs → fM_shelf_J46 z a0 a1 a2 a0 = some (r, z1) → W p l e R s m args below meth c H locs 0 0 Q (F0 m 46 ls [.int a0, .ref (ad 80)]) := by
          intro H locs ls hl hP hS h
          rw [fM_shelf_J46] at h
          refine u_iload_n X hl dX10_shelf_46 2 rfl ?_
          exact J47 _ _ _ _ hl hP hS h
        refine u_icmp_ne 46 X dX10_shelf_30 rfl (fun hc => ?_) (fun hc => ?_)
        · rw [if_neg hc] at h
          exact J46 _ _ _ hl hP hS h
        · rw [if_pos hc] at h
          refine u_aload_n X hl dX10_shelf_33 0 rfl ?_
          refine gf_X10_75_56 X hP dX10_shelf_34 ?_
          refine u_iload_n X hl dX10_shelf_37 3 rfl ?_
          obtain ⟨hin, h⟩ := ifn_inv h
          refine ld_77 X hP rfl hin dX10_shelf_38 ?_
          refine u_if_ge 46 X dX10_shelf_39 rfl (fun hc => ?_) (fun hc => ?_)
          · rw [if_pos hc] at h
            exact J46 _ _ _ hl hP hS h
          · rw [if_neg hc] at h
            exact J42 _ _ _ hl hP hS h
    · rw [if_pos hc] at h
      refine u_iconst (v := (-1)) X dX10_shelf_16 rfl ?_
      exact u_iretM X hr hret h hP hS dX10_shelf_17
def fM_kindOn (z : MS) (a0 : Int32) : Option Int32 :=
  if a0 < 0 ∨ 4 ≤ a0.toNatClampNeg then none else if (gI z 80 a0.toNatClampNeg) = 0 then (if a0 < 0 ∨ 4 ≤ a0.toNatClampNeg then none else if (fM_isPlan z (gI z 81 a0.toNatClampNeg)) = 0 then some (-1) else (if a0 < 0 ∨ 4 ≤ a0.toNatClampNeg then none else if (2 * (gI z 81 a0.toNatClampNeg)) < 0 ∨ 8 ≤ (2 * (gI z 81 a0.toNatClampNeg)).toNatClampNeg then none else some (gI z 64 (2 * (gI z 81 a0.toNatClampNeg)).toNatClampNeg))) else (if a0 < 0 ∨ 4 ≤ a0.toNatClampNeg then none else if 0 ≤ (gI z 80 a0.toNatClampNeg) then some 9 else some (-1))
set_option maxRecDepth 4000 in
theorem cM_kindOn (l : Launch) {z : MS} {a0 : Int32} {r : Int32} (h : fM_kindOn z a0 = some r) : CT l yX10_kindOn cX10_kindOn 2 (some .int) 2 43 (fun ad sd => [.ref (ad 56), .int a0]) z (some (.int r)) z := by
  rw [fM_kindOn] at h
  refine u_start RX10 rfl (by decide) (fun _ _ => Nat.le_of_ble_eq_true rfl) (fun p e s m args below meth c R D ad cs sd A Q ls X hP hS hl hr hret => ?_)
  have hl : lv_has ls 2 [(0, .ref (ad 56)), (1, .int a0)] := hl
  refine u_aload_n X hl dX10_kindOn_0 0 rfl ?_
  refine gf_X10_84_56 X hP dX10_kindOn_1 ?_
  refine u_iload_n X hl dX10_kindOn_4 1 rfl ?_
  obtain ⟨hin, h⟩ := ifn_inv h
  refine ld_80 X hP rfl hin dX10_kindOn_5 ?_
  refine u_if_eq 25 X dX10_kindOn_6 rfl (fun hc => ?_) (fun hc => ?_)
  · rw [if_pos hc] at h
    refine u_aload_n X hl dX10_kindOn_25 0 rfl ?_
    refine u_aload_n X hl dX10_kindOn_26 0 rfl ?_
    refine gf_X10_87_56 X hP dX10_kindOn_27 ?_
    refine u_iload_n X hl dX10_kindOn_30 1 rfl ?_
    obtain ⟨hin, h⟩ := ifn_inv h
    refine ld_81 X hP rfl hin dX10_kindOn_31 ?_
    refine u_callVi X hP hS hl dX10_kindOn_32 (cM_isPlan l z (gI z 81 a0.toNatClampNeg)) cw_X10_318 io_56 rfl rfl rfl rfl ⟨rfl, rfl⟩ (fun H locs hP hS => ?_)
    refine u_if_eq 54 X dX10_kindOn_35 rfl (fun hc => ?_) (fun hc => ?_)
    · rw [if_pos hc] at h
      refine u_iconst (v := (-1)) X dX10_kindOn_54 rfl ?_
      exact u_iretP X hr hret h hP hS dX10_kindOn_55
    · rw [if_neg hc] at h
      refine u_aload_n X hl dX10_kindOn_38 0 rfl ?_
      refine gf_X10_31_56 X hP dX10_kindOn_39 ?_
      refine u_iconst (v := 2) X dX10_kindOn_42 rfl ?_
      refine u_aload_n X hl dX10_kindOn_43 0 rfl ?_
      refine gf_X10_87_56 X hP dX10_kindOn_44 ?_
      refine u_iload_n X hl dX10_kindOn_47 1 rfl ?_
      obtain ⟨hin, h⟩ := ifn_inv h
      refine ld_81 X hP rfl hin dX10_kindOn_48 ?_
      refine u_imul X dX10_kindOn_49 ?_
      obtain ⟨hin, h⟩ := ifn_inv h
      refine ld_64 X hP rfl hin dX10_kindOn_50 ?_
      refine u_goto 55 X dX10_kindOn_51 rfl ?_
      exact u_iretP X hr hret h hP hS dX10_kindOn_55
  · rw [if_neg hc] at h
    refine u_aload_n X hl dX10_kindOn_9 0 rfl ?_
    refine gf_X10_84_56 X hP dX10_kindOn_10 ?_
    refine u_iload_n X hl dX10_kindOn_13 1 rfl ?_
    obtain ⟨hin, h⟩ := ifn_inv h
    refine ld_80 X hP rfl hin dX10_kindOn_14 ?_
    refine u_if_ge 22 X dX10_kindOn_15 rfl (fun hc => ?_) (fun hc => ?_)
    · rw [if_pos hc] at h
      refine u_bipush (v := 9) X dX10_kindOn_22 rfl ?_
      exact u_iretP X hr hret h hP hS dX10_kindOn_24
    · rw [if_neg hc] at h
      refine u_iconst (v := (-1)) X dX10_kindOn_18 rfl ?_
      refine u_goto 24 X dX10_kindOn_19 rfl ?_
      exact u_iretP X hr hret h hP hS dX10_kindOn_24
def fM_isUnder_J19 (l0 : Int32) (l1 : Int32) : Int32 :=
  if l1 = 1 then (if l0 = 4 then 1 else 0) else 0
def fM_isUnder (a0 : Int32) (a1 : Int32) : Int32 :=
  if a1 = 0 then 1 else (if a1 = a0 then 1 else (if a1 = 2 then (if a0 = 3 then 1 else fM_isUnder_J19 a0 a1) else fM_isUnder_J19 a0 a1))
theorem fM_isUnder_b (a0 : Int32) (a1 : Int32) : fM_isUnder a0 a1 = 0 ∨ fM_isUnder a0 a1 = 1 := by
  unfold fM_isUnder
  (repeat' split) <;> first | with_reducible exact Or.inl rfl | with_reducible exact Or.inr rfl | (unfold fM_isUnder_J19; (repeat' split) <;> first | with_reducible exact Or.inl rfl | with_reducible exact Or.inr rfl)
set_option maxRecDepth 4000 in
theorem cM_isUnder (l : Launch) (z : MS) (a0 : Int32) (a1 : Int32) : CT l yX10_isUnder cX10_isUnder 2 (some .boolean) 0 0 (fun ad sd => [.int a0, .int a1]) z (some (.int (fM_isUnder a0 a1))) z := by
  generalize h : fM_isUnder a0 a1 = r
  rw [fM_isUnder] at h
  refine u_start RX10 rfl (by decide) (fun _ _ => Nat.le_of_ble_eq_true rfl) (fun p e s m args below meth c R D ad cs sd A Q ls X hP hS hl hr hret => ?_)
  have hl : lv_has ls 2 [(0, .int a0), (1, .int a1)] := hl
  refine u_iload_n X hl dX10_isUnder_0 1 rfl ?_
  refine u_if_eq 29 X dX10_isUnder_1 rfl (fun hc => ?_) (fun hc => ?_)
  · rw [if_pos hc] at h
    refine u_iconst (v := 1) X dX10_isUnder_29 rfl ?_
    refine u_goto 34 X dX10_isUnder_30 rfl ?_
    exact u_zretT X hr hret h hP hS (Or.inr rfl) dX10_isUnder_34
  · rw [if_neg hc] at h
    refine u_iload_n X hl dX10_isUnder_4 1 rfl ?_
    refine u_iload_n X hl dX10_isUnder_5 0 rfl ?_
    refine u_icmp_eq 29 X dX10_isUnder_6 rfl (fun hc => ?_) (fun hc => ?_)
    · rw [if_pos hc] at h
      refine u_iconst (v := 1) X dX10_isUnder_29 rfl ?_
      refine u_goto 34 X dX10_isUnder_30 rfl ?_
      exact u_zretT X hr hret h hP hS (Or.inr rfl) dX10_isUnder_34
    · rw [if_neg hc] at h
      refine u_iload_n X hl dX10_isUnder_9 1 rfl ?_
      refine u_iconst (v := 2) X dX10_isUnder_10 rfl ?_
      have J19 : ∀ (H : Heap) (locs : List Loc) (ls : Array Slot), lv_has ls 2 [(0, .int a0), (1, .int a1)] → va_P D clss (wld cs ad z) H → va_S A s.heap H locs → fM_isUnder_J19 a0 a1 = r → W p l e R s m args below meth c H locs 0 0 Q (F0 m 19 ls []) := by
        intro H locs ls hl hP hS h
        rw [fM_isUnder_J19] at h
        refine u_iload_n X hl dX10_isUnder_19 1 rfl ?_
        refine u_iconst (v := 1) X dX10_isUnder_20 rfl ?_
        refine u_icmp_ne 33 X dX10_isUnder_21 rfl (fun hc => ?_) (fun hc => ?_)
        · rw [if_neg hc] at h
          refine u_iconst (v := 0) X dX10_isUnder_33 rfl ?_
          exact u_zretT X hr hret h hP hS (Or.inl rfl) dX10_isUnder_34
        · rw [if_pos hc] at h
          refine u_iload_n X hl dX10_isUnder_24 0 rfl ?_
          refine u_iconst (v := 4) X dX10_isUnder_25 rfl ?_
          refine u_icmp_ne 33 X dX10_isUnder_26 rfl (fun hc => ?_) (fun hc => ?_)
          · rw [if_neg hc] at h
            refine u_iconst (v := 0) X dX10_isUnder_33 rfl ?_
            exact u_zretT X hr hret h hP hS (Or.inl rfl) dX10_isUnder_34
          · rw [if_pos hc] at h
            refine u_iconst (v := 1) X dX10_isUnder_29 rfl ?_
            refine u_goto 34 X dX10_isUnder_30 rfl ?_
            exact u_zretT X hr hret h hP hS (Or.inr rfl) dX10_isUnder_34
      refine u_icmp_ne 19 X dX10_isUnder_11 rfl (fun hc => ?_) (fun hc => ?_)
      · rw [if_neg hc] at h
        exact J19 _ _ _ hl hP hS h
      · rw [if_pos hc] at h
        refine u_iload_n X hl dX10_isUnder_14 0 rfl ?_
        refine u_iconst (v := 3) X dX10_isUnder_15 rfl ?_
        refine u_icmp_eq 29 X dX10_isUnder_16 rfl (fun hc => ?_) (fun hc => ?_)
        · rw [if_pos hc] at h
          refine u_iconst (v := 1) X dX10_isUnder_29 rfl ?_
          refine u_goto 34 X dX10_isUnder_30 rfl ?_
          exact u_zretT X hr hret h hP hS (Or.inr rfl) dX10_isUnder_34
        · rw [if_neg hc] at h
          exact J19 _ _ _ hl hP hS h
def fM_taken_J29 (z : MS) (l1 : Int32) (l2 : Int32) : Option Int32 :=
  Option.bind (fM_kindOn z l1) (fun w31 => if 0 ≤ w31 then (if w31 = 9 then (if l1 < 0 ∨ 4 ≤ l1.toNatClampNeg then none else if l2 = (10 + (gI z 81 l1.toNatClampNeg)) then (if l1 < 0 ∨ 4 ≤ l1.toNatClampNeg then none else some (gI z 82 l1.toNatClampNeg)) else some (-13)) else (if 10 ≤ l2 then some (-13) else (if (fM_isUnder w31 l2) = 0 then some (-13) else (if l1 < 0 ∨ 4 ≤ l1.toNatClampNeg then none else some (gI z 81 l1.toNatClampNeg))))) else some (-11))
def fM_taken (z : MS) (a0 : Int32) (a1 : Int32) : Option Int32 :=
  if (fM_isShelf a0) = 0 then some (-1) else (if (fM_in a1 0 5) = 0 then (if (fM_in a1 10 13) = 0 then some (-1) else fM_taken_J29 z a0 a1) else fM_taken_J29 z a0 a1)
set_option maxRecDepth 4000 in
theorem cM_taken (l : Launch) {z : MS} {a0 : Int32} {a1 : Int32} {r : Int32} (h : fM_taken z a0 a1 = some r) : CT l yX10_taken cX10_taken 4 (some .int) 3 64 (fun ad sd => [.ref (ad 56), .int a0, .int a1]) z (some (.int r)) z := by
  rw [fM_taken] at h
  refine u_start RX10 rfl (by decide) (fun _ _ => Nat.le_of_ble_eq_true rfl) (fun p e s m args below meth c R D ad cs sd A Q ls X hP hS hl hr hret => ?_)
  have hl : lv_has ls 4 [(0, .ref (ad 56)), (1, .int a0), (2, .int a1)] := hl
  refine u_iload_n X hl dX10_taken_0 1 rfl ?_
  refine u_callSi X hP hS hl dX10_taken_1 (cM_isShelf l z a0) cw_X10_347 rfl rfl rfl rfl ⟨rfl, rfl⟩ (fun H locs hP hS => ?_)
  refine u_if_eq 27 X dX10_taken_4 rfl (fun hc => ?_) (fun hc => ?_)
  · rw [if_pos hc] at h
    refine u_iconst (v := (-1)) X dX10_taken_27 rfl ?_
    exact u_iretP X hr hret h hP hS dX10_taken_28
  · rw [if_neg hc] at h
    refine u_iload_n X hl dX10_taken_7 2 rfl ?_
    refine u_iconst (v := 0) X dX10_taken_8 rfl ?_
    refine u_iconst (v := 5) X dX10_taken_9 rfl ?_
    refine u_callSi X hP hS hl dX10_taken_10 (cM_in l z a1 0 5) cw_X10_105 rfl rfl rfl rfl ⟨rfl, rfl⟩ (fun H locs hP hS => ?_)
    have J29 : ∀ (H : Heap) (locs : List Loc) (ls : Array Slot), lv_has ls 4 [(0, .ref (ad 56)), (1, .int a0), (2, .int a1)] → va_P D clss (wld cs ad z) H → va_S A s.heap H locs → fM_taken_J29 z a0 a1 = some r → W p l e R s m args below meth c H locs 0 0 Q (F0 m 29 ls []) := by
      intro H locs ls hl hP hS h
      rw [fM_taken_J29] at h
      refine u_aload_n X hl dX10_taken_29 0 rfl ?_
      refine u_iload_n X hl dX10_taken_30 1 rfl ?_
      obtain ⟨w31, hc31, h⟩ := ob_inv h
      refine u_callVi X hP hS hl dX10_taken_31 (cM_kindOn l hc31) cw_X10_356 io_56 rfl rfl rfl rfl ⟨rfl, rfl⟩ (fun H locs hP hS => ?_)
      refine u_istore_n [(3, .int w31), (0, .ref (ad 56)), (1, .int a0), (2, .int a1)] X hl dX10_taken_34 (Nat.le_of_ble_eq_true rfl) rfl (fun ls hl => ?_)
      refine u_iload_n X hl dX10_taken_35 0 rfl ?_
      refine u_if_ge 42 X dX10_taken_36 rfl (fun hc => ?_) (fun hc => ?_)
      · rw [if_pos hc] at h
        refine u_iload_n X hl dX10_taken_42 0 rfl ?_
        refine u_bipush (v := 9) X dX10_taken_43 rfl ?_
        refine u_icmp_ne 73 X dX10_taken_45 rfl (fun hc => ?_) (fun hc => ?_)
        · rw [if_neg hc] at h
          refine u_iload_n X hl dX10_taken_73 3 rfl ?_
          refine u_bipush (v := 10) X dX10_taken_74 rfl ?_
          refine u_icmp_ge 96 X dX10_taken_76 rfl (fun hc => ?_) (fun hc => ?_)
          · rw [if_pos hc] at h
            refine u_bipush (v := (-13)) X dX10_taken_96 rfl ?_
            exact u_iretP X hr hret h hP hS dX10_taken_98
          · rw [if_neg hc] at h
            refine u_iload_n X hl dX10_taken_79 0 rfl ?_
            refine u_iload_n X hl dX10_taken_80 3 rfl ?_
            refine u_callSi X hP hS hl dX10_taken_81 (cM_isUnder l z w31 a1) cw_X10_359 rfl rfl rfl rfl ⟨rfl, rfl⟩ (fun H locs hP hS => ?_)
            refine u_if_eq 96 X dX10_taken_84 rfl (fun hc => ?_) (fun hc => ?_)
            · rw [if_pos hc] at h
              refine u_bipush (v := (-13)) X dX10_taken_96 rfl ?_
              exact u_iretP X hr hret h hP hS dX10_taken_98
            · rw [if_neg hc] at h
              refine u_aload_n X hl dX10_taken_87 1 rfl ?_
              refine gf_X10_87_56 X hP dX10_taken_88 ?_
              refine u_iload_n X hl dX10_taken_91 2 rfl ?_
              obtain ⟨hin, h⟩ := ifn_inv h
              refine ld_81 X hP rfl hin dX10_taken_92 ?_
              refine u_goto 98 X dX10_taken_93 rfl ?_
              exact u_iretP X hr hret h hP hS dX10_taken_98
        · rw [if_pos hc] at h
          refine u_iload_n X hl dX10_taken_48 3 rfl ?_
          refine u_bipush (v := 10) X dX10_taken_49 rfl ?_
          refine u_aload_n X hl dX10_taken_51 1 rfl ?_
          refine gf_X10_87_56 X hP dX10_taken_52 ?_
          refine u_iload_n X hl dX10_taken_55 2 rfl ?_
          obtain ⟨hin, h⟩ := ifn_inv h
          refine ld_81 X hP rfl hin dX10_taken_56 ?_
          refine u_iadd X dX10_taken_57 ?_
          refine u_icmp_ne 70 X dX10_taken_58 rfl (fun hc => ?_) (fun hc => ?_)
          · rw [if_neg hc] at h
            refine u_bipush (v := (-13)) X dX10_taken_70 rfl ?_
            exact u_iretP X hr hret h hP hS dX10_taken_72
          · rw [if_pos hc] at h
            refine u_aload_n X hl dX10_taken_61 1 rfl ?_
            refine gf_X10_90_56 X hP dX10_taken_62 ?_
            refine u_iload_n X hl dX10_taken_65 2 rfl ?_
            obtain ⟨hin, h⟩ := ifn_inv h
            refine ld_82 X hP rfl hin dX10_taken_66 ?_
            refine u_goto 72 X dX10_taken_67 rfl ?_
            exact u_iretP X hr hret h hP hS dX10_taken_72
      · rw [if_neg hc] at h
        refine u_bipush (v := (-11)) X dX10_taken_39 rfl ?_
        exact u_iretP X hr hret h hP hS dX10_taken_41
    refine u_if_ne 29 X dX10_taken_13 rfl (fun hc => ?_) (fun hc => ?_)
    · rw [if_neg hc] at h
      exact J29 _ _ _ hl hP hS h
    · rw [if_pos hc] at h
      refine u_iload_n X hl dX10_taken_16 2 rfl ?_
      refine u_bipush (v := 10) X dX10_taken_17 rfl ?_
      refine u_bipush (v := 13) X dX10_taken_19 rfl ?_
      refine u_callSi X hP hS hl dX10_taken_21 (cM_in l z a1 10 13) cw_X10_105 rfl rfl rfl rfl ⟨rfl, rfl⟩ (fun H locs hP hS => ?_)
      refine u_if_ne 29 X dX10_taken_24 rfl (fun hc => ?_) (fun hc => ?_)
      · rw [if_neg hc] at h
        exact J29 _ _ _ hl hP hS h
      · rw [if_pos hc] at h
        refine u_iconst (v := (-1)) X dX10_taken_27 rfl ?_
        exact u_iretP X hr hret h hP hS dX10_taken_28
def fM_ran (z : MS) (a0 : Int32) : Option MS :=
  if 30 ≤ (gI z 56 45) then some z else (if (gI z 56 45) < 0 ∨ 30 ≤ (gI z 56 45).toNatClampNeg then none else some (pI (pI z 83 (gI z 56 45).toNatClampNeg a0) 56 45 ((gI (pI z 83 (gI z 56 45).toNatClampNeg a0) 56 45) + 1)))
set_option maxRecDepth 4000 in
theorem cM_ran (l : Launch) {z : MS} {a0 : Int32} {z1 : MS} (h : fM_ran z a0 = some z1) : CT l yX10_ran cX10_ran 2 none 0 0 (fun ad sd => [.ref (ad 56), .int a0]) z none z1 := by
  rw [fM_ran] at h
  refine u_start RX10 rfl (by decide) (fun _ _ => Nat.le_of_ble_eq_true rfl) (fun p e s m args below meth c R D ad cs sd A Q ls X hP hS hl hr hret => ?_)
  have hl : lv_has ls 2 [(0, .ref (ad 56)), (1, .int a0)] := hl
  refine u_aload_n X hl dX10_ran_0 0 rfl ?_
  refine gf_X10_362_56 X hP dX10_ran_1 ?_
  refine u_bipush (v := 30) X dX10_ran_4 rfl ?_
  refine u_icmp_ge 29 X dX10_ran_6 rfl (fun hc => ?_) (fun hc => ?_)
  · rw [if_pos hc] at h
    exact u_vretM X hr hret h hP hS dX10_ran_29
  · rw [if_neg hc] at h
    refine u_aload_n X hl dX10_ran_9 0 rfl ?_
    refine gf_X10_93_56 X hP dX10_ran_10 ?_
    refine u_aload_n X hl dX10_ran_13 0 rfl ?_
    refine gf_X10_362_56 X hP dX10_ran_14 ?_
    refine u_iload_n X hl dX10_ran_17 1 rfl ?_
    obtain ⟨hin, h⟩ := ifn_inv h
    refine as_83 X hP hS rfl hin dX10_ran_18 (fun H locs hP hS => ?_)
    refine u_aload_n X hl dX10_ran_19 0 rfl ?_
    refine u_dup X rfl dX10_ran_20 ?_
    refine gf_X10_362_56 X hP dX10_ran_21 ?_
    refine u_iconst (v := 1) X dX10_ran_24 rfl ?_
    refine u_iadd X dX10_ran_25 ?_
    refine pf_X10_362_56 X hP hS dX10_ran_26 (fun H locs hP hS => ?_)
    exact u_vretM X hr hret h hP hS dX10_ran_29
def fM_plainSits (z : MS) (a0 : Int32) : Option (Int32 × MS) :=
  Option.bind (fM_ran z 10) (fun zc3 => some (a0 + (gI zc3 56 42), zc3))
set_option maxRecDepth 4000 in
theorem cM_plainSits (l : Launch) {z : MS} {a0 : Int32} {r : Int32} {z1 : MS} (h : fM_plainSits z a0 = some (r, z1)) : CT l yX10_plainSits cX10_plainSits 2 (some .int) 1 21 (fun ad sd => [.ref (ad 56), .int a0]) z (some (.int r)) z1 := by
  rw [fM_plainSits] at h
  refine u_start RX10 rfl (by decide) (fun _ _ => Nat.le_of_ble_eq_true rfl) (fun p e s m args below meth c R D ad cs sd A Q ls X hP hS hl hr hret => ?_)
  have hl : lv_has ls 2 [(0, .ref (ad 56)), (1, .int a0)] := hl
  refine u_aload_n X hl dX10_plainSits_0 0 rfl ?_
  refine u_bipush (v := 10) X dX10_plainSits_1 rfl ?_
  obtain ⟨zc3, hc3, h⟩ := ob_inv h
  refine u_callVv X hP hS hl dX10_plainSits_3 (cM_ran l hc3) cw_X10_365 io_56 rfl rfl rfl rfl ⟨rfl, rfl⟩ (fun H locs hP hS => ?_)
  refine u_iload_n X hl dX10_plainSits_6 1 rfl ?_
  refine u_aload_n X hl dX10_plainSits_7 0 rfl ?_
  refine gf_X10_368_56 X hP dX10_plainSits_8 ?_
  refine u_iadd X dX10_plainSits_11 ?_
  exact u_iretM X hr hret h hP hS dX10_plainSits_12
def fM_sitsIt (z : MS) (a0 : Int32) : Option (Int32 × MS) :=
  if (gI z 56 41) = 2 then Option.bind (fM_ran z 30) (fun zc35 => ob2 (fM_plainSits zc35 a0) (fun w40 zc40 => some (w40 * 3, zc40))) else if (gI z 56 41) = 3 then Option.bind (fM_ran z 40) (fun zc49 => Option.bind (fM_ran zc49 30) (fun zc55 => ob2 (fM_plainSits zc55 a0) (fun w61 zc61 => some (0 - (w61 * 3), zc61)))) else if (gI z 56 41) = 4 then Option.bind (fM_ran z 51) (fun zc71 => ob2 (fM_plainSits zc71 a0) (fun w76 zc76 => some (w76 - (gI zc76 56 42), zc76))) else ob2 (fM_plainSits z a0) (fun w87 zc87 => some (w87, zc87))
set_option maxRecDepth 4000 in
theorem cM_sitsIt (l : Launch) {z : MS} {a0 : Int32} {r : Int32} {z1 : MS} (h : fM_sitsIt z a0 = some (r, z1)) : CT l yX10_sitsIt cX10_sitsIt 2 (some .int) 2 42 (fun ad sd => [.ref (ad 56), .int a0]) z (some (.int r)) z1 := by
  rw [fM_sitsIt] at h
  refine u_start RX10 rfl (by decide) (fun _ _ => Nat.le_of_ble_eq_true rfl) (fun p e s m args below meth c R D ad cs sd A Q ls X hP hS hl hr hret => ?_)
  have hl : lv_has ls 2 [(0, .ref (ad 56)), (1, .int a0)] := hl
  refine u_aload_n X hl dX10_sitsIt_0 0 rfl ?_
  refine gf_X10_371_56 X hP dX10_sitsIt_1 ?_
  by_cases hc0 : (gI z 56 41) = 2
  · rw [if_pos hc0] at h
    refine u_tsw 32 X dX10_sitsIt_4 (v := 2) (by rw [hc0]; rfl) (by decide) ?_
    refine u_aload_n X hl dX10_sitsIt_32 0 rfl ?_
    refine u_bipush (v := 30) X dX10_sitsIt_33 rfl ?_
    obtain ⟨zc35, hc35, h⟩ := ob_inv h
    refine u_callVv X hP hS hl dX10_sitsIt_35 (cM_ran l hc35) cw_X10_365 io_56 rfl rfl rfl rfl ⟨rfl, rfl⟩ (fun H locs hP hS => ?_)
    refine u_aload_n X hl dX10_sitsIt_38 0 rfl ?_
    refine u_iload_n X hl dX10_sitsIt_39 1 rfl ?_
    obtain ⟨w40, zc40, hc40, h⟩ := ob2_inv h
    refine u_callVi X hP hS hl dX10_sitsIt_40 (cM_plainSits l hc40) cw_X10_374 io_56 rfl rfl rfl rfl ⟨rfl, rfl⟩ (fun H locs hP hS => ?_)
    refine u_iconst (v := 3) X dX10_sitsIt_43 rfl ?_
    refine u_imul X dX10_sitsIt_44 ?_
    exact u_iretM X hr hret h hP hS dX10_sitsIt_45
  rw [if_neg hc0] at h
  by_cases hc1 : (gI z 56 41) = 3
  · rw [if_pos hc1] at h
    refine u_tsw 46 X dX10_sitsIt_4 (v := 3) (by rw [hc1]; rfl) (by decide) ?_
    refine u_aload_n X hl dX10_sitsIt_46 0 rfl ?_
    refine u_bipush (v := 40) X dX10_sitsIt_47 rfl ?_
    obtain ⟨zc49, hc49, h⟩ := ob_inv h
    refine u_callVv X hP hS hl dX10_sitsIt_49 (cM_ran l hc49) cw_X10_365 io_56 rfl rfl rfl rfl ⟨rfl, rfl⟩ (fun H locs hP hS => ?_)
    refine u_aload_n X hl dX10_sitsIt_52 0 rfl ?_
    refine u_bipush (v := 30) X dX10_sitsIt_53 rfl ?_
    obtain ⟨zc55, hc55, h⟩ := ob_inv h
    refine u_callVv X hP hS hl dX10_sitsIt_55 (cM_ran l hc55) cw_X10_365 io_56 rfl rfl rfl rfl ⟨rfl, rfl⟩ (fun H locs hP hS => ?_)
    refine u_iconst (v := 0) X dX10_sitsIt_58 rfl ?_
    refine u_aload_n X hl dX10_sitsIt_59 0 rfl ?_
    refine u_iload_n X hl dX10_sitsIt_60 1 rfl ?_
    obtain ⟨w61, zc61, hc61, h⟩ := ob2_inv h
    refine u_callVi X hP hS hl dX10_sitsIt_61 (cM_plainSits l hc61) cw_X10_374 io_56 rfl rfl rfl rfl ⟨rfl, rfl⟩ (fun H locs hP hS => ?_)
    refine u_iconst (v := 3) X dX10_sitsIt_64 rfl ?_
    refine u_imul X dX10_sitsIt_65 ?_
    refine u_isub X dX10_sitsIt_66 ?_
    exact u_iretM X hr hret h hP hS dX10_sitsIt_67
  rw [if_neg hc1] at h
  by_cases hc2 : (gI z 56 41) = 4
  · rw [if_pos hc2] at h
    refine u_tsw 68 X dX10_sitsIt_4 (v := 4) (by rw [hc2]; rfl) (by decide) ?_
    refine u_aload_n X hl dX10_sitsIt_68 0 rfl ?_
    refine u_bipush (v := 51) X dX10_sitsIt_69 rfl ?_
    obtain ⟨zc71, hc71, h⟩ := ob_inv h
    refine u_callVv X hP hS hl dX10_sitsIt_71 (cM_ran l hc71) cw_X10_365 io_56 rfl rfl rfl rfl ⟨rfl, rfl⟩ (fun H locs hP hS => ?_)
    refine u_aload_n X hl dX10_sitsIt_74 0 rfl ?_
    refine u_iload_n X hl dX10_sitsIt_75 1 rfl ?_
    obtain ⟨w76, zc76, hc76, h⟩ := ob2_inv h
    refine u_callVi X hP hS hl dX10_sitsIt_76 (cM_plainSits l hc76) cw_X10_374 io_56 rfl rfl rfl rfl ⟨rfl, rfl⟩ (fun H locs hP hS => ?_)
    refine u_aload_n X hl dX10_sitsIt_79 0 rfl ?_
    refine gf_X10_368_56 X hP dX10_sitsIt_80 ?_
    refine u_isub X dX10_sitsIt_83 ?_
    exact u_iretM X hr hret h hP hS dX10_sitsIt_84
  rw [if_neg hc2] at h
  refine u_tswD 85 X dX10_sitsIt_4 rfl (vs := [2, 3, 4]) (List.forall_mem_cons.mpr ⟨fun q9 => hc0 (Int32.toInt_inj.mp q9), (List.forall_mem_cons.mpr ⟨fun q9 => hc1 (Int32.toInt_inj.mp q9), (List.forall_mem_cons.mpr ⟨fun q9 => hc2 (Int32.toInt_inj.mp q9), (fun _ h9 => by cases h9)⟩)⟩)⟩) (by decide) ?_
  refine u_aload_n X hl dX10_sitsIt_85 0 rfl ?_
  refine u_iload_n X hl dX10_sitsIt_86 1 rfl ?_
  obtain ⟨w87, zc87, hc87, h⟩ := ob2_inv h
  refine u_callVi X hP hS hl dX10_sitsIt_87 (cM_plainSits l hc87) cw_X10_374 io_56 rfl rfl rfl rfl ⟨rfl, rfl⟩ (fun H locs hP hS => ?_)
  exact u_iretM X hr hret h hP hS dX10_sitsIt_90
def fM_plainCounts (z : MS) (a0 : Int32) : Option (Int32 × MS) :=
  Option.bind (fM_ran z 11) (fun zc3 => ob2 (fM_sitsIt zc3 a0) (fun w8 zc8 => some (w8 * 2, zc8)))
set_option maxRecDepth 4000 in
theorem cM_plainCounts (l : Launch) {z : MS} {a0 : Int32} {r : Int32} {z1 : MS} (h : fM_plainCounts z a0 = some (r, z1)) : CT l yX10_plainCounts cX10_plainCounts 2 (some .int) 3 63 (fun ad sd => [.ref (ad 56), .int a0]) z (some (.int r)) z1 := by
  rw [fM_plainCounts] at h
  refine u_start RX10 rfl (by decide) (fun _ _ => Nat.le_of_ble_eq_true rfl) (fun p e s m args below meth c R D ad cs sd A Q ls X hP hS hl hr hret => ?_)
  have hl : lv_has ls 2 [(0, .ref (ad 56)), (1, .int a0)] := hl
  refine u_aload_n X hl dX10_plainCounts_0 0 rfl ?_
  refine u_bipush (v := 11) X dX10_plainCounts_1 rfl ?_
  obtain ⟨zc3, hc3, h⟩ := ob_inv h
  refine u_callVv X hP hS hl dX10_plainCounts_3 (cM_ran l hc3) cw_X10_365 io_56 rfl rfl rfl rfl ⟨rfl, rfl⟩ (fun H locs hP hS => ?_)
  refine u_aload_n X hl dX10_plainCounts_6 0 rfl ?_
  refine u_iload_n X hl dX10_plainCounts_7 1 rfl ?_
  obtain ⟨w8, zc8, hc8, h⟩ := ob2_inv h
  refine u_callVi X hP hS hl dX10_plainCounts_8 (cM_sitsIt l hc8) cw_X10_377 io_56 rfl rfl rfl rfl ⟨rfl, rfl⟩ (fun H locs hP hS => ?_)
  refine u_iconst (v := 2) X dX10_plainCounts_11 rfl ?_
  refine u_imul X dX10_plainCounts_12 ?_
  exact u_iretM X hr hret h hP hS dX10_plainCounts_13
def fM_turnCounts (z : MS) (a0 : Int32) : Option (Int32 × MS) :=
  Option.bind (fM_ran z 20) (fun zc3 => ob2 (fM_plainCounts zc3 a0) (fun w8 zc8 => some (w8 - (gI zc8 56 43), zc8)))
set_option maxRecDepth 4000 in
theorem cM_turnCounts (l : Launch) {z : MS} {a0 : Int32} {r : Int32} {z1 : MS} (h : fM_turnCounts z a0 = some (r, z1)) : CT l yX10_turnCounts cX10_turnCounts 2 (some .int) 4 84 (fun ad sd => [.ref (ad 56), .int a0]) z (some (.int r)) z1 := by
  rw [fM_turnCounts] at h
  refine u_start RX10 rfl (by decide) (fun _ _ => Nat.le_of_ble_eq_true rfl) (fun p e s m args below meth c R D ad cs sd A Q ls X hP hS hl hr hret => ?_)
  have hl : lv_has ls 2 [(0, .ref (ad 56)), (1, .int a0)] := hl
  refine u_aload_n X hl dX10_turnCounts_0 0 rfl ?_
  refine u_bipush (v := 20) X dX10_turnCounts_1 rfl ?_
  obtain ⟨zc3, hc3, h⟩ := ob_inv h
  refine u_callVv X hP hS hl dX10_turnCounts_3 (cM_ran l hc3) cw_X10_365 io_56 rfl rfl rfl rfl ⟨rfl, rfl⟩ (fun H locs hP hS => ?_)
  refine u_aload_n X hl dX10_turnCounts_6 0 rfl ?_
  refine u_iload_n X hl dX10_turnCounts_7 1 rfl ?_
  obtain ⟨w8, zc8, hc8, h⟩ := ob2_inv h
  refine u_callVi X hP hS hl dX10_turnCounts_8 (cM_plainCounts l hc8) cw_X10_380 io_56 rfl rfl rfl rfl ⟨rfl, rfl⟩ (fun H locs hP hS => ?_)
  refine u_aload_n X hl dX10_turnCounts_11 0 rfl ?_
  refine gf_X10_383_56 X hP dX10_turnCounts_12 ?_
  refine u_isub X dX10_turnCounts_15 ?_
  exact u_iretM X hr hret h hP hS dX10_turnCounts_16
def fM_countsIt_J47 (z : MS) (l1 : Int32) : Option (Int32 × MS) :=
  ob2 (fM_turnCounts z l1) (fun w49 zc49 => some (w49, zc49))
def fM_countsIt (z : MS) (a0 : Int32) : Option (Int32 × MS) :=
  if (gI z 56 41) = 3 then Option.bind (fM_ran z 41) (fun zc11 => ob2 (fM_plainCounts zc11 a0) (fun w16 zc16 => ob2 (fM_sitsIt zc16 (gI zc16 56 42)) (fun w26 zc26 => some (w16 + w26, zc26)))) else (if (gI z 56 41) = 1 then fM_countsIt_J47 z a0 else (if (gI z 56 41) = 4 then fM_countsIt_J47 z a0 else ob2 (fM_plainCounts z a0) (fun w57 zc57 => some (w57, zc57))))
set_option maxRecDepth 4000 in
theorem cM_countsIt (l : Launch) {z : MS} {a0 : Int32} {r : Int32} {z1 : MS} (h : fM_countsIt z a0 = some (r, z1)) : CT l yX10_countsIt cX10_countsIt 3 (some .int) 5 105 (fun ad sd => [.ref (ad 56), .int a0]) z (some (.int r)) z1 := by
  rw [fM_countsIt] at h
  refine u_start RX10 rfl (by decide) (fun _ _ => Nat.le_of_ble_eq_true rfl) (fun p e s m args below meth c R D ad cs sd A Q ls X hP hS hl hr hret => ?_)
  have hl : lv_has ls 3 [(0, .ref (ad 56)), (1, .int a0)] := hl
  refine u_aload_n X hl dX10_countsIt_0 0 rfl ?_
  refine gf_X10_371_56 X hP dX10_countsIt_1 ?_
  refine u_iconst (v := 3) X dX10_countsIt_4 rfl ?_
  refine u_icmp_ne 31 X dX10_countsIt_5 rfl (fun hc => ?_) (fun hc => ?_)
  · rw [if_neg hc] at h
    refine u_aload_n X hl dX10_countsIt_31 0 rfl ?_
    refine gf_X10_371_56 X hP dX10_countsIt_32 ?_
    refine u_iconst (v := 1) X dX10_countsIt_35 rfl ?_
    have J47 : ∀ (H : Heap) (locs : List Loc) (ls : Array Slot), lv_has ls 3 [(0, .ref (ad 56)), (1, .int a0)] → va_P D clss (wld cs ad z) H → va_S A s.heap H locs → fM_countsIt_J47 z a0 = some (r, z1) → W p l e R s m args below meth c H locs 0 0 Q (F0 m 47 ls []) := by
      intro H locs ls hl hP hS h
      rw [fM_countsIt_J47] at h
      refine u_aload_n X hl dX10_countsIt_47 0 rfl ?_
      refine u_iload_n X hl dX10_countsIt_48 1 rfl ?_
      obtain ⟨w49, zc49, hc49, h⟩ := ob2_inv h
      refine u_callVi X hP hS hl dX10_countsIt_49 (cM_turnCounts l hc49) cw_X10_386 io_56 rfl rfl rfl rfl ⟨rfl, rfl⟩ (fun H locs hP hS => ?_)
      refine u_goto 60 X dX10_countsIt_52 rfl ?_
      exact u_iretM X hr hret h hP hS dX10_countsIt_60
    refine u_icmp_eq 47 X dX10_countsIt_36 rfl (fun hc => ?_) (fun hc => ?_)
    · rw [if_pos hc] at h
      exact J47 _ _ _ hl hP hS h
    · rw [if_neg hc] at h
      refine u_aload_n X hl dX10_countsIt_39 0 rfl ?_
      refine gf_X10_371_56 X hP dX10_countsIt_40 ?_
      refine u_iconst (v := 4) X dX10_countsIt_43 rfl ?_
      refine u_icmp_ne 55 X dX10_countsIt_44 rfl (fun hc => ?_) (fun hc => ?_)
      · rw [if_neg hc] at h
        refine u_aload_n X hl dX10_countsIt_55 0 rfl ?_
        refine u_iload_n X hl dX10_countsIt_56 1 rfl ?_
        obtain ⟨w57, zc57, hc57, h⟩ := ob2_inv h
        refine u_callVi X hP hS hl dX10_countsIt_57 (cM_plainCounts l hc57) cw_X10_380 io_56 rfl rfl rfl rfl ⟨rfl, rfl⟩ (fun H locs hP hS => ?_)
        exact u_iretM X hr hret h hP hS dX10_countsIt_60
      · rw [if_pos hc] at h
        exact J47 _ _ _ hl hP hS h
  · rw [if_pos hc] at h
    refine u_aload_n X hl dX10_countsIt_8 0 rfl ?_
    refine u_bipush (v := 41) X dX10_countsIt_9 rfl ?_
    obtain ⟨zc11, hc11, h⟩ := ob_inv h
    refine u_callVv X hP hS hl dX10_countsIt_11 (cM_ran l hc11) cw_X10_365 io_56 rfl rfl rfl rfl ⟨rfl, rfl⟩ (fun H locs hP hS => ?_)
    refine u_aload_n X hl dX10_countsIt_14 0 rfl ?_
    refine u_iload_n X hl dX10_countsIt_15 1 rfl ?_
    obtain ⟨w16, zc16, hc16, h⟩ := ob2_inv h
    refine u_callVi X hP hS hl dX10_countsIt_16 (cM_plainCounts l hc16) cw_X10_380 io_56 rfl rfl rfl rfl ⟨rfl, rfl⟩ (fun H locs hP hS => ?_)
    refine u_istore_n [(2, .int w16), (0, .ref (ad 56)), (1, .int a0)] X hl dX10_countsIt_19 (Nat.le_of_ble_eq_true rfl) rfl (fun ls hl => ?_)
    refine u_iload_n X hl dX10_countsIt_20 0 rfl ?_
    refine u_aload_n X hl dX10_countsIt_21 1 rfl ?_
    refine u_aload_n X hl dX10_countsIt_22 1 rfl ?_
    refine gf_X10_368_56 X hP dX10_countsIt_23 ?_
    obtain ⟨w26, zc26, hc26, h⟩ := ob2_inv h
    refine u_callVi X hP hS hl dX10_countsIt_26 (cM_sitsIt l hc26) cw_X10_377 io_56 rfl rfl rfl rfl ⟨rfl, rfl⟩ (fun H locs hP hS => ?_)
    refine u_iadd X dX10_countsIt_29 ?_
    exact u_iretM X hr hret h hP hS dX10_countsIt_30
def fM_plainShares (z : MS) (a0 : Int32) : Option (Int32 × MS) :=
  Option.bind (fM_ran z 12) (fun zc3 => if (gI zc3 56 43) = (gI zc3 56 42) then some (0, pI zc3 56 46 1) else (if ((gI zc3 56 43) - (gI zc3 56 42)) = 0 then none else some (a0 / ((gI zc3 56 43) - (gI zc3 56 42)), zc3)))
set_option maxRecDepth 4000 in
theorem cM_plainShares (l : Launch) {z : MS} {a0 : Int32} {r : Int32} {z1 : MS} (h : fM_plainShares z a0 = some (r, z1)) : CT l yX10_plainShares cX10_plainShares 2 (some .int) 1 21 (fun ad sd => [.ref (ad 56), .int a0]) z (some (.int r)) z1 := by
  rw [fM_plainShares] at h
  refine u_start RX10 rfl (by decide) (fun _ _ => Nat.le_of_ble_eq_true rfl) (fun p e s m args below meth c R D ad cs sd A Q ls X hP hS hl hr hret => ?_)
  have hl : lv_has ls 2 [(0, .ref (ad 56)), (1, .int a0)] := hl
  refine u_aload_n X hl dX10_plainShares_0 0 rfl ?_
  refine u_bipush (v := 12) X dX10_plainShares_1 rfl ?_
  obtain ⟨zc3, hc3, h⟩ := ob_inv h
  refine u_callVv X hP hS hl dX10_plainShares_3 (cM_ran l hc3) cw_X10_365 io_56 rfl rfl rfl rfl ⟨rfl, rfl⟩ (fun H locs hP hS => ?_)
  refine u_aload_n X hl dX10_plainShares_6 0 rfl ?_
  refine gf_X10_383_56 X hP dX10_plainShares_7 ?_
  refine u_aload_n X hl dX10_plainShares_10 0 rfl ?_
  refine gf_X10_368_56 X hP dX10_plainShares_11 ?_
  refine u_icmp_ne 24 X dX10_plainShares_14 rfl (fun hc => ?_) (fun hc => ?_)
  · rw [if_neg hc] at h
    refine u_iload_n X hl dX10_plainShares_24 1 rfl ?_
    refine u_aload_n X hl dX10_plainShares_25 0 rfl ?_
    refine gf_X10_383_56 X hP dX10_plainShares_26 ?_
    refine u_aload_n X hl dX10_plainShares_29 0 rfl ?_
    refine gf_X10_368_56 X hP dX10_plainShares_30 ?_
    refine u_isub X dX10_plainShares_33 ?_
    obtain ⟨hn, h⟩ := ifn_inv h
    refine u_idiv X hn dX10_plainShares_34 ?_
    exact u_iretM X hr hret h hP hS dX10_plainShares_35
  · rw [if_pos hc] at h
    refine u_aload_n X hl dX10_plainShares_17 0 rfl ?_
    refine u_iconst (v := 1) X dX10_plainShares_18 rfl ?_
    refine pf_X10_389_56 X hP hS (Or.inr rfl) dX10_plainShares_19 (fun H locs hP hS => ?_)
    refine u_iconst (v := 0) X dX10_plainShares_22 rfl ?_
    exact u_iretM X hr hret h hP hS dX10_plainShares_23
def fM_sharesIt (z : MS) (a0 : Int32) : Option (Int32 × MS) :=
  if (gI z 56 41) = 4 then Option.bind (fM_ran z 50) (fun zc11 => ob2 (fM_plainShares zc11 (a0 + 2)) (fun w18 zc18 => some (w18 ^^^ 1, zc18))) else (if (gI z 56 41) = 5 then Option.bind (fM_ran z 61) (fun zc35 => ob2 (fM_plainShares zc35 a0) (fun w40 zc40 => if (gI zc40 56 46) = 0 then ob2 (fM_sitsIt zc40 (gI zc40 56 43)) (fun w61 zc61 => some (w40 + w61, zc61)) else some (0, zc40))) else ob2 (fM_plainShares z a0) (fun w68 zc68 => some (w68, zc68)))
set_option maxRecDepth 4000 in
theorem cM_sharesIt (l : Launch) {z : MS} {a0 : Int32} {r : Int32} {z1 : MS} (h : fM_sharesIt z a0 = some (r, z1)) : CT l yX10_sharesIt cX10_sharesIt 3 (some .int) 3 63 (fun ad sd => [.ref (ad 56), .int a0]) z (some (.int r)) z1 := by
  rw [fM_sharesIt] at h
  refine u_start RX10 rfl (by decide) (fun _ _ => Nat.le_of_ble_eq_true rfl) (fun p e s m args below meth c R D ad cs sd A Q ls X hP hS hl hr hret => ?_)
  have hl : lv_has ls 3 [(0, .ref (ad 56)), (1, .int a0)] := hl
  refine u_aload_n X hl dX10_sharesIt_0 0 rfl ?_
  refine gf_X10_371_56 X hP dX10_sharesIt_1 ?_
  refine u_iconst (v := 4) X dX10_sharesIt_4 rfl ?_
  refine u_icmp_ne 24 X dX10_sharesIt_5 rfl (fun hc => ?_) (fun hc => ?_)
  · rw [if_neg hc] at h
    refine u_aload_n X hl dX10_sharesIt_24 0 rfl ?_
    refine gf_X10_371_56 X hP dX10_sharesIt_25 ?_
    refine u_iconst (v := 5) X dX10_sharesIt_28 rfl ?_
    refine u_icmp_ne 66 X dX10_sharesIt_29 rfl (fun hc => ?_) (fun hc => ?_)
    · rw [if_neg hc] at h
      refine u_aload_n X hl dX10_sharesIt_66 0 rfl ?_
      refine u_iload_n X hl dX10_sharesIt_67 1 rfl ?_
      obtain ⟨w68, zc68, hc68, h⟩ := ob2_inv h
      refine u_callVi X hP hS hl dX10_sharesIt_68 (cM_plainShares l hc68) cw_X10_392 io_56 rfl rfl rfl rfl ⟨rfl, rfl⟩ (fun H locs hP hS => ?_)
      exact u_iretM X hr hret h hP hS dX10_sharesIt_71
    · rw [if_pos hc] at h
      refine u_aload_n X hl dX10_sharesIt_32 0 rfl ?_
      refine u_bipush (v := 61) X dX10_sharesIt_33 rfl ?_
      obtain ⟨zc35, hc35, h⟩ := ob_inv h
      refine u_callVv X hP hS hl dX10_sharesIt_35 (cM_ran l hc35) cw_X10_365 io_56 rfl rfl rfl rfl ⟨rfl, rfl⟩ (fun H locs hP hS => ?_)
      refine u_aload_n X hl dX10_sharesIt_38 0 rfl ?_
      refine u_iload_n X hl dX10_sharesIt_39 1 rfl ?_
      obtain ⟨w40, zc40, hc40, h⟩ := ob2_inv h
      refine u_callVi X hP hS hl dX10_sharesIt_40 (cM_plainShares l hc40) cw_X10_392 io_56 rfl rfl rfl rfl ⟨rfl, rfl⟩ (fun H locs hP hS => ?_)
      refine u_istore_n [(2, .int w40), (0, .ref (ad 56)), (1, .int a0)] X hl dX10_sharesIt_43 (Nat.le_of_ble_eq_true rfl) rfl (fun ls hl => ?_)
      refine u_aload_n X hl dX10_sharesIt_44 1 rfl ?_
      refine gf_X10_389_56 X hP dX10_sharesIt_45 ?_
      refine u_if_eq 55 X dX10_sharesIt_48 rfl (fun hc => ?_) (fun hc => ?_)
      · rw [if_pos hc] at h
        refine u_iload_n X hl dX10_sharesIt_55 0 rfl ?_
        refine u_aload_n X hl dX10_sharesIt_56 1 rfl ?_
        refine u_aload_n X hl dX10_sharesIt_57 1 rfl ?_
        refine gf_X10_383_56 X hP dX10_sharesIt_58 ?_
        obtain ⟨w61, zc61, hc61, h⟩ := ob2_inv h
        refine u_callVi X hP hS hl dX10_sharesIt_61 (cM_sitsIt l hc61) cw_X10_377 io_56 rfl rfl rfl rfl ⟨rfl, rfl⟩ (fun H locs hP hS => ?_)
        refine u_iadd X dX10_sharesIt_64 ?_
        exact u_iretM X hr hret h hP hS dX10_sharesIt_65
      · rw [if_neg hc] at h
        refine u_iconst (v := 0) X dX10_sharesIt_51 rfl ?_
        refine u_goto 65 X dX10_sharesIt_52 rfl ?_
        exact u_iretM X hr hret h hP hS dX10_sharesIt_65
  · rw [if_pos hc] at h
    refine u_aload_n X hl dX10_sharesIt_8 0 rfl ?_
    refine u_bipush (v := 50) X dX10_sharesIt_9 rfl ?_
    obtain ⟨zc11, hc11, h⟩ := ob_inv h
    refine u_callVv X hP hS hl dX10_sharesIt_11 (cM_ran l hc11) cw_X10_365 io_56 rfl rfl rfl rfl ⟨rfl, rfl⟩ (fun H locs hP hS => ?_)
    refine u_aload_n X hl dX10_sharesIt_14 0 rfl ?_
    refine u_iload_n X hl dX10_sharesIt_15 1 rfl ?_
    refine u_iconst (v := 2) X dX10_sharesIt_16 rfl ?_
    refine u_iadd X dX10_sharesIt_17 ?_
    obtain ⟨w18, zc18, hc18, h⟩ := ob2_inv h
    refine u_callVi X hP hS hl dX10_sharesIt_18 (cM_plainShares l hc18) cw_X10_392 io_56 rfl rfl rfl rfl ⟨rfl, rfl⟩ (fun H locs hP hS => ?_)
    refine u_iconst (v := 1) X dX10_sharesIt_21 rfl ?_
    refine u_ixor X dX10_sharesIt_22 ?_
    exact u_iretM X hr hret h hP hS dX10_sharesIt_23
def fM_plainTells (z : MS) (a0 : Int32) : Option (Int32 × MS) :=
  Option.bind (fM_ran z 13) (fun zc3 => ob2 (fM_countsIt zc3 a0) (fun w8 zc8 => some (w8 ^^^ (gI zc8 56 43), zc8)))
set_option maxRecDepth 4000 in
theorem cM_plainTells (l : Launch) {z : MS} {a0 : Int32} {r : Int32} {z1 : MS} (h : fM_plainTells z a0 = some (r, z1)) : CT l yX10_plainTells cX10_plainTells 2 (some .int) 6 127 (fun ad sd => [.ref (ad 56), .int a0]) z (some (.int r)) z1 := by
  rw [fM_plainTells] at h
  refine u_start RX10 rfl (by decide) (fun _ _ => Nat.le_of_ble_eq_true rfl) (fun p e s m args below meth c R D ad cs sd A Q ls X hP hS hl hr hret => ?_)
  have hl : lv_has ls 2 [(0, .ref (ad 56)), (1, .int a0)] := hl
  refine u_aload_n X hl dX10_plainTells_0 0 rfl ?_
  refine u_bipush (v := 13) X dX10_plainTells_1 rfl ?_
  obtain ⟨zc3, hc3, h⟩ := ob_inv h
  refine u_callVv X hP hS hl dX10_plainTells_3 (cM_ran l hc3) cw_X10_365 io_56 rfl rfl rfl rfl ⟨rfl, rfl⟩ (fun H locs hP hS => ?_)
  refine u_aload_n X hl dX10_plainTells_6 0 rfl ?_
  refine u_iload_n X hl dX10_plainTells_7 1 rfl ?_
  obtain ⟨w8, zc8, hc8, h⟩ := ob2_inv h
  refine u_callVi X hP hS hl dX10_plainTells_8 (cM_countsIt l hc8) cw_X10_395 io_56 rfl rfl rfl rfl ⟨rfl, rfl⟩ (fun H locs hP hS => ?_)
  refine u_aload_n X hl dX10_plainTells_11 0 rfl ?_
  refine gf_X10_383_56 X hP dX10_plainTells_12 ?_
  refine u_ixor X dX10_plainTells_15 ?_
  exact u_iretM X hr hret h hP hS dX10_plainTells_16
def fM_tellsIt_J16 (z : MS) (l1 : Int32) : Option (Int32 × MS) :=
  Option.bind (fM_ran z 31) (fun zc19 => ob2 (fM_plainTells zc19 l1) (fun w24 zc24 => ob2 (fM_sharesIt zc24 (gI zc24 56 42)) (fun w34 zc34 => some (w24 + w34, zc34))))
def fM_tellsIt (z : MS) (a0 : Int32) : Option (Int32 × MS) :=
  if (gI z 56 41) = 2 then fM_tellsIt_J16 z a0 else (if (gI z 56 41) = 3 then fM_tellsIt_J16 z a0 else (if (gI z 56 41) = 5 then Option.bind (fM_ran z 60) (fun zc50 => ob2 (fM_plainTells zc50 a0) (fun w55 zc55 => some (w55 * 2, zc55))) else ob2 (fM_plainTells z a0) (fun w63 zc63 => some (w63, zc63))))
set_option maxRecDepth 4000 in
theorem cM_tellsIt (l : Launch) {z : MS} {a0 : Int32} {r : Int32} {z1 : MS} (h : fM_tellsIt z a0 = some (r, z1)) : CT l yX10_tellsIt cX10_tellsIt 3 (some .int) 7 148 (fun ad sd => [.ref (ad 56), .int a0]) z (some (.int r)) z1 := by
  rw [fM_tellsIt] at h
  refine u_start RX10 rfl (by decide) (fun _ _ => Nat.le_of_ble_eq_true rfl) (fun p e s m args below meth c R D ad cs sd A Q ls X hP hS hl hr hret => ?_)
  have hl : lv_has ls 3 [(0, .ref (ad 56)), (1, .int a0)] := hl
  refine u_aload_n X hl dX10_tellsIt_0 0 rfl ?_
  refine gf_X10_371_56 X hP dX10_tellsIt_1 ?_
  refine u_iconst (v := 2) X dX10_tellsIt_4 rfl ?_
  have J16 : ∀ (H : Heap) (locs : List Loc) (ls : Array Slot), lv_has ls 3 [(0, .ref (ad 56)), (1, .int a0)] → va_P D clss (wld cs ad z) H → va_S A s.heap H locs → fM_tellsIt_J16 z a0 = some (r, z1) → W p l e R s m args below meth c H locs 0 0 Q (F0 m 16 ls []) := by
    intro H locs ls hl hP hS h
    rw [fM_tellsIt_J16] at h
    refine u_aload_n X hl dX10_tellsIt_16 0 rfl ?_
    refine u_bipush (v := 31) X dX10_tellsIt_17 rfl ?_
    obtain ⟨zc19, hc19, h⟩ := ob_inv h
    refine u_callVv X hP hS hl dX10_tellsIt_19 (cM_ran l hc19) cw_X10_365 io_56 rfl rfl rfl rfl ⟨rfl, rfl⟩ (fun H locs hP hS => ?_)
    refine u_aload_n X hl dX10_tellsIt_22 0 rfl ?_
    refine u_iload_n X hl dX10_tellsIt_23 1 rfl ?_
    obtain ⟨w24, zc24, hc24, h⟩ := ob2_inv h
    refine u_callVi X hP hS hl dX10_tellsIt_24 (cM_plainTells l hc24) cw_X10_398 io_56 rfl rfl rfl rfl ⟨rfl, rfl⟩ (fun H locs hP hS => ?_)
    refine u_istore_n [(2, .int w24), (0, .ref (ad 56)), (1, .int a0)] X hl dX10_tellsIt_27 (Nat.le_of_ble_eq_true rfl) rfl (fun ls hl => ?_)
    refine u_iload_n X hl dX10_tellsIt_28 0 rfl ?_
    refine u_aload_n X hl dX10_tellsIt_29 1 rfl ?_
    refine u_aload_n X hl dX10_tellsIt_30 1 rfl ?_
    refine gf_X10_368_56 X hP dX10_tellsIt_31 ?_
    obtain ⟨w34, zc34, hc34, h⟩ := ob2_inv h
    refine u_callVi X hP hS hl dX10_tellsIt_34 (cM_sharesIt l hc34) cw_X10_401 io_56 rfl rfl rfl rfl ⟨rfl, rfl⟩ (fun H locs hP hS => ?_)
    refine u_iadd X dX10_tellsIt_37 ?_
    exact u_iretM X hr hret h hP hS dX10_tellsIt_38
  refine u_icmp_eq 16 X dX10_tellsIt_5 rfl (fun hc => ?_) (fun hc => ?_)
  · rw [if_pos hc] at h
    exact J16 _ _ _ hl hP hS h
  · rw [if_neg hc] at h
    refine u_aload_n X hl dX10_tellsIt_8 0 rfl ?_
    refine gf_X10_371_56 X hP dX10_tellsIt_9 ?_
    refine u_iconst (v := 3) X dX10_tellsIt_12 rfl ?_
    refine u_icmp_ne 39 X dX10_tellsIt_13 rfl (fun hc => ?_) (fun hc => ?_)
    · rw [if_neg hc] at h
      refine u_aload_n X hl dX10_tellsIt_39 0 rfl ?_
      refine gf_X10_371_56 X hP dX10_tellsIt_40 ?_
      refine u_iconst (v := 5) X dX10_tellsIt_43 rfl ?_
      refine u_icmp_ne 61 X dX10_tellsIt_44 rfl (fun hc => ?_) (fun hc => ?_)
      · rw [if_neg hc] at h
        refine u_aload_n X hl dX10_tellsIt_61 0 rfl ?_
        refine u_iload_n X hl dX10_tellsIt_62 1 rfl ?_
        obtain ⟨w63, zc63, hc63, h⟩ := ob2_inv h
        refine u_callVi X hP hS hl dX10_tellsIt_63 (cM_plainTells l hc63) cw_X10_398 io_56 rfl rfl rfl rfl ⟨rfl, rfl⟩ (fun H locs hP hS => ?_)
        exact u_iretM X hr hret h hP hS dX10_tellsIt_66
      · rw [if_pos hc] at h
        refine u_aload_n X hl dX10_tellsIt_47 0 rfl ?_
        refine u_bipush (v := 60) X dX10_tellsIt_48 rfl ?_
        obtain ⟨zc50, hc50, h⟩ := ob_inv h
        refine u_callVv X hP hS hl dX10_tellsIt_50 (cM_ran l hc50) cw_X10_365 io_56 rfl rfl rfl rfl ⟨rfl, rfl⟩ (fun H locs hP hS => ?_)
        refine u_aload_n X hl dX10_tellsIt_53 0 rfl ?_
        refine u_iload_n X hl dX10_tellsIt_54 1 rfl ?_
        obtain ⟨w55, zc55, hc55, h⟩ := ob2_inv h
        refine u_callVi X hP hS hl dX10_tellsIt_55 (cM_plainTells l hc55) cw_X10_398 io_56 rfl rfl rfl rfl ⟨rfl, rfl⟩ (fun H locs hP hS => ?_)
        refine u_iconst (v := 2) X dX10_tellsIt_58 rfl ?_
        refine u_imul X dX10_tellsIt_59 ?_
        exact u_iretM X hr hret h hP hS dX10_tellsIt_60
    · rw [if_pos hc] at h
      exact J16 _ _ _ hl hP hS h
def fM_act_J125 (z : MS) (s0 : Int32) : Option (Int32 × MS) :=
  if (gI z 56 46) = 0 then some (s0, z) else some ((-15), z)
def fM_act_J21 (z : MS) (l1 : Int32) (l2 : Int32) (l3 : Int32) (s0 : Int32) : Option (Int32 × MS) :=
  if (fM_in l2 0 3) = 0 then some (0, z) else (if (fM_in s0 1 5) = 0 then some (0, z) else (if l1 < 0 ∨ 4 ≤ l1.toNatClampNeg then none else if ((2 * (gI (pI (pI z 56 41 s0) 56 42 (gI (pI z 56 41 s0) 81 l1.toNatClampNeg)) 56 42)) + 1) < 0 ∨ 8 ≤ ((2 * (gI (pI (pI z 56 41 s0) 56 42 (gI (pI z 56 41 s0) 81 l1.toNatClampNeg)) 56 42)) + 1).toNatClampNeg then none else if l2 = 0 then ob2 (fM_sitsIt (pI (pI (pI (pI z 56 41 s0) 56 42 (gI (pI z 56 41 s0) 81 l1.toNatClampNeg)) 56 43 (gI (pI (pI z 56 41 s0) 56 42 (gI (pI z 56 41 s0) 81 l1.toNatClampNeg)) 64 ((2 * (gI (pI (pI z 56 41 s0) 56 42 (gI (pI z 56 41 s0) 81 l1.toNatClampNeg)) 56 42)) + 1).toNatClampNeg)) 56 46 0) l3) (fun w88 zc88 => fM_act_J125 zc88 w88) else (if l2 = 1 then ob2 (fM_countsIt (pI (pI (pI (pI z 56 41 s0) 56 42 (gI (pI z 56 41 s0) 81 l1.toNatClampNeg)) 56 43 (gI (pI (pI z 56 41 s0) 56 42 (gI (pI z 56 41 s0) 81 l1.toNatClampNeg)) 64 ((2 * (gI (pI (pI z 56 41 s0) 56 42 (gI (pI z 56 41 s0) 81 l1.toNatClampNeg)) 56 42)) + 1).toNatClampNeg)) 56 46 0) l3) (fun w101 zc101 => fM_act_J125 zc101 w101) else (if l2 = 2 then ob2 (fM_sharesIt (pI (pI (pI (pI z 56 41 s0) 56 42 (gI (pI z 56 41 s0) 81 l1.toNatClampNeg)) 56 43 (gI (pI (pI z 56 41 s0) 56 42 (gI (pI z 56 41 s0) 81 l1.toNatClampNeg)) 64 ((2 * (gI (pI (pI z 56 41 s0) 56 42 (gI (pI z 56 41 s0) 81 l1.toNatClampNeg)) 56 42)) + 1).toNatClampNeg)) 56 46 0) l3) (fun w114 zc114 => fM_act_J125 zc114 w114) else ob2 (fM_tellsIt (pI (pI (pI (pI z 56 41 s0) 56 42 (gI (pI z 56 41 s0) 81 l1.toNatClampNeg)) 56 43 (gI (pI (pI z 56 41 s0) 56 42 (gI (pI z 56 41 s0) 81 l1.toNatClampNeg)) 64 ((2 * (gI (pI (pI z 56 41 s0) 56 42 (gI (pI z 56 41 s0) 81 l1.toNatClampNeg)) 56 42)) + 1).toNatClampNeg)) 56 46 0) l3) (fun w122 zc122 => fM_act_J125 zc122 w122)))))
def fM_act (z : MS) (a0 : Int32) (a1 : Int32) (a2 : Int32) : Option (Int32 × MS) :=
  if (fM_isShelf a0) = 0 then fM_act_J21 (pI z 56 45 0) a0 a1 a2 (-1) else Option.bind (fM_kindOn (pI z 56 45 0) a0) (fun w14 => fM_act_J21 (pI z 56 45 0) a0 a1 a2 w14)
set_option maxRecDepth 4000 in
theorem cM_act (l : Launch) {z : MS} {a0 : Int32} {a1 : Int32} {a2 : Int32} {r : Int32} {z1 : MS} (h : fM_act z a0 a1 a2 = some (r, z1)) : CT l yX10_act cX10_act 6 (some .int) 8 170 (fun ad sd => [.ref (ad 56), .int a0, .int a1, .int a2]) z (some (.int r)) z1 := by
  rw [fM_act] at h
  refine u_start RX10 rfl (by decide) (fun _ _ => Nat.le_of_ble_eq_true rfl) (fun p e s m args below meth c R D ad cs sd A Q ls X hP hS hl hr hret => ?_)
  have hl : lv_has ls 6 [(0, .ref (ad 56)), (1, .int a0), (2, .int a1), (3, .int a2)] := hl
  refine u_aload_n X hl dX10_act_0 0 rfl ?_
  refine u_iconst (v := 0) X dX10_act_1 rfl ?_
  refine pf_X10_362_56 X hP hS dX10_act_2 (fun H locs hP hS => ?_)
  refine u_iload_n X hl dX10_act_5 1 rfl ?_
  refine u_callSi X hP hS hl dX10_act_6 (cM_isShelf l (pI z 56 45 0) a0) cw_X10_347 rfl rfl rfl rfl ⟨rfl, rfl⟩ (fun H locs hP hS => ?_)
  have J21 : ∀ (H : Heap) (locs : List Loc) (ls : Array Slot) (s0_21 : Int32), lv_has ls 6 [(0, .ref (ad 56)), (1, .int a0), (2, .int a1), (3, .int a2)] → va_P D clss (wld cs ad (pI z 56 45 0)) H → va_S A s.heap H locs → fM_act_J21 (pI z 56 45 0) a0 a1 a2 s0_21 = some (r, z1) → W p l e R s m args below meth c H locs 0 0 Q (F0 m 21 ls [.int s0_21]) := by
    intro H locs ls s0_21 hl hP hS h
    rw [fM_act_J21] at h
    refine u_istore [(4, .int s0_21), (0, .ref (ad 56)), (1, .int a0), (2, .int a1), (3, .int a2)] X hl dX10_act_21 (Nat.le_of_ble_eq_true rfl) rfl (fun ls hl => ?_)
    refine u_iload_n X hl dX10_act_23 3 rfl ?_
    refine u_iconst (v := 0) X dX10_act_24 rfl ?_
    refine u_iconst (v := 3) X dX10_act_25 rfl ?_
    refine u_callSi X hP hS hl dX10_act_26 (cM_in l (pI z 56 45 0) a1 0 3) cw_X10_105 rfl rfl rfl rfl ⟨rfl, rfl⟩ (fun H locs hP hS => ?_)
    refine u_if_eq 42 X dX10_act_29 rfl (fun hc => ?_) (fun hc => ?_)
    · rw [if_pos hc] at h
      refine u_iconst (v := 0) X dX10_act_42 rfl ?_
      exact u_iretM X hr hret h hP hS dX10_act_43
    · rw [if_neg hc] at h
      refine u_iload X hl dX10_act_32 0 rfl ?_
      refine u_iconst (v := 1) X dX10_act_34 rfl ?_
      refine u_iconst (v := 5) X dX10_act_35 rfl ?_
      refine u_callSi X hP hS hl dX10_act_36 (cM_in l (pI z 56 45 0) s0_21 1 5) cw_X10_105 rfl rfl rfl rfl ⟨rfl, rfl⟩ (fun H locs hP hS => ?_)
      refine u_if_ne 44 X dX10_act_39 rfl (fun hc => ?_) (fun hc => ?_)
      · rw [if_neg hc] at h
        refine u_aload_n X hl dX10_act_44 1 rfl ?_
        refine u_iload X hl dX10_act_45 0 rfl ?_
        refine pf_X10_371_56 X hP hS dX10_act_47 (fun H locs hP hS => ?_)
        refine u_aload_n X hl dX10_act_50 1 rfl ?_
        refine u_aload_n X hl dX10_act_51 1 rfl ?_
        refine gf_X10_87_56 X hP dX10_act_52 ?_
        refine u_iload_n X hl dX10_act_55 2 rfl ?_
        obtain ⟨hin, h⟩ := ifn_inv h
        refine ld_81 X hP rfl hin dX10_act_56 ?_
        refine pf_X10_368_56 X hP hS dX10_act_57 (fun H locs hP hS => ?_)
        refine u_aload_n X hl dX10_act_60 1 rfl ?_
        refine u_aload_n X hl dX10_act_61 1 rfl ?_
        refine gf_X10_31_56 X hP dX10_act_62 ?_
        refine u_iconst (v := 2) X dX10_act_65 rfl ?_
        refine u_aload_n X hl dX10_act_66 1 rfl ?_
        refine gf_X10_368_56 X hP dX10_act_67 ?_
        refine u_imul X dX10_act_70 ?_
        refine u_iconst (v := 1) X dX10_act_71 rfl ?_
        refine u_iadd X dX10_act_72 ?_
        obtain ⟨hin, h⟩ := ifn_inv h
        refine ld_64 X hP rfl hin dX10_act_73 ?_
        refine pf_X10_383_56 X hP hS dX10_act_74 (fun H locs hP hS => ?_)
        refine u_aload_n X hl dX10_act_77 1 rfl ?_
        refine u_iconst (v := 0) X dX10_act_78 rfl ?_
        refine pf_X10_389_56 X hP hS (Or.inl rfl) dX10_act_79 (fun H locs hP hS => ?_)
        refine u_iload_n X hl dX10_act_82 3 rfl ?_
        have J125 : ∀ (H : Heap) (locs : List Loc) (ls : Array Slot) (z_125 : MS) (s0_125 : Int32), lv_has ls 6 [(0, .ref (ad 56))] → va_P D clss (wld cs ad z_125) H → va_S A s.heap H locs → fM_act_J125 z_125 s0_125 = some (r, z1) → W p l e R s m args below meth c H locs 0 0 Q (F0 m 125 ls [.int s0_125]) := by
          intro H locs ls z_125 s0_125 hl hP hS h
          rw [fM_act_J125] at h
          refine u_istore [(5, .int s0_125), (0, .ref (ad 56))] X hl dX10_act_125 (Nat.le_of_ble_eq_true rfl) rfl (fun ls hl => ?_)
          refine u_aload_n X hl dX10_act_127 1 rfl ?_
          refine gf_X10_389_56 X hP dX10_act_128 ?_
          refine u_if_eq 139 X dX10_act_131 rfl (fun hc => ?_) (fun hc => ?_)
          · rw [if_pos hc] at h
            refine u_iload X hl dX10_act_139 0 rfl ?_
            exact u_iretM X hr hret h hP hS dX10_act_141
          · rw [if_neg hc] at h
            refine u_bipush (v := (-15)) X dX10_act_134 rfl ?_
            refine u_goto 141 X dX10_act_136 rfl ?_
            exact u_iretM X hr hret h hP hS dX10_act_141
        refine u_if_ne 94 X dX10_act_83 rfl (fun hc => ?_) (fun hc => ?_)
        · rw [if_neg hc] at h
          refine u_iload_n X hl dX10_act_94 3 rfl ?_
          refine u_iconst (v := 1) X dX10_act_95 rfl ?_
          refine u_icmp_ne 107 X dX10_act_96 rfl (fun hc => ?_) (fun hc => ?_)
          · rw [if_neg hc] at h
            refine u_iload_n X hl dX10_act_107 3 rfl ?_
            refine u_iconst (v := 2) X dX10_act_108 rfl ?_
            refine u_icmp_ne 120 X dX10_act_109 rfl (fun hc => ?_) (fun hc => ?_)
            · rw [if_neg hc] at h
              refine u_aload_n X hl dX10_act_120 1 rfl ?_
              refine u_iload_n X hl dX10_act_121 4 rfl ?_
              obtain ⟨w122, zc122, hc122, h⟩ := ob2_inv h
              refine u_callVi X hP hS hl dX10_act_122 (cM_tellsIt l hc122) cw_X10_404 io_56 rfl rfl rfl rfl ⟨rfl, rfl⟩ (fun H locs hP hS => ?_)
              exact J125 _ _ _ _ _ (lv_sub hl [1] rfl) hP hS h
            · rw [if_pos hc] at h
              refine u_aload_n X hl dX10_act_112 1 rfl ?_
              refine u_iload_n X hl dX10_act_113 4 rfl ?_
              obtain ⟨w114, zc114, hc114, h⟩ := ob2_inv h
              refine u_callVi X hP hS hl dX10_act_114 (cM_sharesIt l hc114) cw_X10_401 io_56 rfl rfl rfl rfl ⟨rfl, rfl⟩ (fun H locs hP hS => ?_)
              refine u_goto 125 X dX10_act_117 rfl ?_
              exact J125 _ _ _ _ _ (lv_sub hl [1] rfl) hP hS h
          · rw [if_pos hc] at h
            refine u_aload_n X hl dX10_act_99 1 rfl ?_
            refine u_iload_n X hl dX10_act_100 4 rfl ?_
            obtain ⟨w101, zc101, hc101, h⟩ := ob2_inv h
            refine u_callVi X hP hS hl dX10_act_101 (cM_countsIt l hc101) cw_X10_395 io_56 rfl rfl rfl rfl ⟨rfl, rfl⟩ (fun H locs hP hS => ?_)
            refine u_goto 125 X dX10_act_104 rfl ?_
            exact J125 _ _ _ _ _ (lv_sub hl [1] rfl) hP hS h
        · rw [if_pos hc] at h
          refine u_aload_n X hl dX10_act_86 1 rfl ?_
          refine u_iload_n X hl dX10_act_87 4 rfl ?_
          obtain ⟨w88, zc88, hc88, h⟩ := ob2_inv h
          refine u_callVi X hP hS hl dX10_act_88 (cM_sitsIt l hc88) cw_X10_377 io_56 rfl rfl rfl rfl ⟨rfl, rfl⟩ (fun H locs hP hS => ?_)
          refine u_goto 125 X dX10_act_91 rfl ?_
          exact J125 _ _ _ _ _ (lv_sub hl [1] rfl) hP hS h
      · rw [if_pos hc] at h
        refine u_iconst (v := 0) X dX10_act_42 rfl ?_
        exact u_iretM X hr hret h hP hS dX10_act_43
  refine u_if_eq 20 X dX10_act_9 rfl (fun hc => ?_) (fun hc => ?_)
  · rw [if_pos hc] at h
    refine u_iconst (v := (-1)) X dX10_act_20 rfl ?_
    exact J21 _ _ _ _ hl hP hS h
  · rw [if_neg hc] at h
    refine u_aload_n X hl dX10_act_12 0 rfl ?_
    refine u_iload_n X hl dX10_act_13 1 rfl ?_
    obtain ⟨w14, hc14, h⟩ := ob_inv h
    refine u_callVi X hP hS hl dX10_act_14 (cM_kindOn l hc14) cw_X10_356 io_56 rfl rfl rfl rfl ⟨rfl, rfl⟩ (fun H locs hP hS => ?_)
    refine u_goto 21 X dX10_act_17 rfl ?_
    exact J21 _ _ _ _ hl hP hS h
def fM_trace (z : MS) (a0 : Int32) : Option Int32 :=
  if (fM_in a0 0 ((gI z 56 45) - 1)) = 0 then some (-3) else (if a0 < 0 ∨ 30 ≤ a0.toNatClampNeg then none else some (gI z 83 a0.toNatClampNeg))
set_option maxRecDepth 4000 in
theorem cM_trace (l : Launch) {z : MS} {a0 : Int32} {r : Int32} (h : fM_trace z a0 = some r) : CT l yX10_trace cX10_trace 2 (some .int) 1 22 (fun ad sd => [.ref (ad 56), .int a0]) z (some (.int r)) z := by
  rw [fM_trace] at h
  refine u_start RX10 rfl (by decide) (fun _ _ => Nat.le_of_ble_eq_true rfl) (fun p e s m args below meth c R D ad cs sd A Q ls X hP hS hl hr hret => ?_)
  have hl : lv_has ls 2 [(0, .ref (ad 56)), (1, .int a0)] := hl
  refine u_iload_n X hl dX10_trace_0 1 rfl ?_
  refine u_iconst (v := 0) X dX10_trace_1 rfl ?_
  refine u_aload_n X hl dX10_trace_2 0 rfl ?_
  refine gf_X10_362_56 X hP dX10_trace_3 ?_
  refine u_iconst (v := 1) X dX10_trace_6 rfl ?_
  refine u_isub X dX10_trace_7 ?_
  refine u_callSi X hP hS hl dX10_trace_8 (cM_in l z a0 0 ((gI z 56 45) - 1)) cw_X10_105 rfl rfl rfl rfl ⟨rfl, rfl⟩ (fun H locs hP hS => ?_)
  refine u_if_eq 23 X dX10_trace_11 rfl (fun hc => ?_) (fun hc => ?_)
  · rw [if_pos hc] at h
    refine u_bipush (v := (-3)) X dX10_trace_23 rfl ?_
    exact u_iretP X hr hret h hP hS dX10_trace_25
  · rw [if_neg hc] at h
    refine u_aload_n X hl dX10_trace_14 0 rfl ?_
    refine gf_X10_93_56 X hP dX10_trace_15 ?_
    refine u_iload_n X hl dX10_trace_18 1 rfl ?_
    obtain ⟨hin, h⟩ := ifn_inv h
    refine ld_83 X hP rfl hin dX10_trace_19 ?_
    refine u_goto 25 X dX10_trace_20 rfl ?_
    exact u_iretP X hr hret h hP hS dX10_trace_25
def fM_many (z : MS) (a0 : Int32) : Option Int32 :=
  if a0 = 0 then some (gI z 56 0) else if a0 = 1 then some (gI z 56 9) else if a0 = 2 then Option.bind (fM_sitting z) (fun w51 => some w51) else if a0 = 3 then some (gI z 56 34) else if a0 = 4 then some (gI z 56 13) else if a0 = 5 then some (gI z 56 45) else some (-1)
set_option maxRecDepth 4000 in
theorem cM_many (l : Launch) {z : MS} {a0 : Int32} {r : Int32} (h : fM_many z a0 = some r) : CT l yX10_many cX10_many 2 (some .int) 2 45 (fun ad sd => [.ref (ad 56), .int a0]) z (some (.int r)) z := by
  rw [fM_many] at h
  refine u_start RX10 rfl (by decide) (fun _ _ => Nat.le_of_ble_eq_true rfl) (fun p e s m args below meth c R D ad cs sd A Q ls X hP hS hl hr hret => ?_)
  have hl : lv_has ls 2 [(0, .ref (ad 56)), (1, .int a0)] := hl
  refine u_iload_n X hl dX10_many_0 1 rfl ?_
  by_cases hc0 : a0 = 0
  · rw [if_pos hc0] at h
    refine u_tsw 40 X dX10_many_1 (v := 0) (by rw [hc0]; rfl) (by decide) ?_
    refine u_aload_n X hl dX10_many_40 0 rfl ?_
    refine gf_X10_102_56 X hP dX10_many_41 ?_
    exact u_iretP X hr hret h hP hS dX10_many_44
  rw [if_neg hc0] at h
  by_cases hc1 : a0 = 1
  · rw [if_pos hc1] at h
    refine u_tsw 45 X dX10_many_1 (v := 1) (by rw [hc1]; rfl) (by decide) ?_
    refine u_aload_n X hl dX10_many_45 0 rfl ?_
    refine gf_X10_315_56 X hP dX10_many_46 ?_
    exact u_iretP X hr hret h hP hS dX10_many_49
  rw [if_neg hc1] at h
  by_cases hc2 : a0 = 2
  · rw [if_pos hc2] at h
    refine u_tsw 50 X dX10_many_1 (v := 2) (by rw [hc2]; rfl) (by decide) ?_
    refine u_aload_n X hl dX10_many_50 0 rfl ?_
    obtain ⟨w51, hc51, h⟩ := ob_inv h
    refine u_callVi X hP hS hl dX10_many_51 (cM_sitting l hc51) cw_X10_309 io_56 rfl rfl rfl rfl ⟨rfl, rfl⟩ (fun H locs hP hS => ?_)
    exact u_iretP X hr hret h hP hS dX10_many_54
  rw [if_neg hc2] at h
  by_cases hc3 : a0 = 3
  · rw [if_pos hc3] at h
    refine u_tsw 55 X dX10_many_1 (v := 3) (by rw [hc3]; rfl) (by decide) ?_
    refine u_aload_n X hl dX10_many_55 0 rfl ?_
    refine gf_X10_223_56 X hP dX10_many_56 ?_
    exact u_iretP X hr hret h hP hS dX10_many_59
  rw [if_neg hc3] at h
  by_cases hc4 : a0 = 4
  · rw [if_pos hc4] at h
    refine u_tsw 60 X dX10_many_1 (v := 4) (by rw [hc4]; rfl) (by decide) ?_
    refine u_aload_n X hl dX10_many_60 0 rfl ?_
    refine gf_X10_113_56 X hP dX10_many_61 ?_
    exact u_iretP X hr hret h hP hS dX10_many_64
  rw [if_neg hc4] at h
  by_cases hc5 : a0 = 5
  · rw [if_pos hc5] at h
    refine u_tsw 65 X dX10_many_1 (v := 5) (by rw [hc5]; rfl) (by decide) ?_
    refine u_aload_n X hl dX10_many_65 0 rfl ?_
    refine gf_X10_362_56 X hP dX10_many_66 ?_
    exact u_iretP X hr hret h hP hS dX10_many_69
  rw [if_neg hc5] at h
  refine u_tswD 70 X dX10_many_1 rfl (vs := [0, 1, 2, 3, 4, 5]) (List.forall_mem_cons.mpr ⟨fun q9 => hc0 (Int32.toInt_inj.mp q9), (List.forall_mem_cons.mpr ⟨fun q9 => hc1 (Int32.toInt_inj.mp q9), (List.forall_mem_cons.mpr ⟨fun q9 => hc2 (Int32.toInt_inj.mp q9), (List.forall_mem_cons.mpr ⟨fun q9 => hc3 (Int32.toInt_inj.mp q9), (List.forall_mem_cons.mpr ⟨fun q9 => hc4 (Int32.toInt_inj.mp q9), (List.forall_mem_cons.mpr ⟨fun q9 => hc5 (Int32.toInt_inj.mp q9), (fun _ h9 => by cases h9)⟩)⟩)⟩)⟩)⟩)⟩) (by decide) ?_
  refine u_iconst (v := (-1)) X dX10_many_70 rfl ?_
  exact u_iretP X hr hret h hP hS dX10_many_71
def fM_move_85_J42 (z : MS) (K3 : MS → Int32 → Option MS) (l4 : Int32) : Option MS :=
  K3 (pI z 56 49 ((gI z 56 49) + 1)) (l4 + 1)
def fM_move_85_L3 (l2 : Int32) (l3 : Int32) : Nat → MS → Int32 → Option MS
  | 0, _, _ => none
  | n + 1, z, l4 => if l2 ≤ l4 then some z else (if l3 = 0 then (if (gI z 56 49) < 0 ∨ 200 ≤ (gI z 56 49).toNatClampNeg then none else if l4 < 0 ∨ 4 ≤ l4.toNatClampNeg then none else fM_move_85_J42 (pI z 85 l4.toNatClampNeg (gI z 84 (gI z 56 49).toNatClampNeg)) (fM_move_85_L3 l2 l3 n) l4) else (if l4 < 0 ∨ 4 ≤ l4.toNatClampNeg then none else if (gI z 56 49) < 0 ∨ 200 ≤ (gI z 56 49).toNatClampNeg then none else fM_move_85_J42 (pI z 84 (gI z 56 49).toNatClampNeg (gI z 85 l4.toNatClampNeg)) (fM_move_85_L3 l2 l3 n) l4))
def fM_move_85 (z : MS) (a0 : Int32) (a1 : Int32) : Option MS :=
  fM_move_85_L3 a0 a1 LF z 0
set_option maxRecDepth 4000 in
theorem cM_move_85 (l : Launch) {z : MS} {a0 : Int32} {a1 : Int32} {z1 : MS} (h : fM_move_85 z a0 a1 = some z1) : CT l yX10_move cX10_move 5 none 0 0 (fun ad sd => [.ref (ad 56), .ref (ad 85), .int a0, .int a1]) z none z1 := by
  rw [fM_move_85] at h
  refine u_start RX10 rfl (by decide) (fun _ _ => Nat.le_of_ble_eq_true rfl) (fun p e s m args below meth c R D ad cs sd A Q ls X hP hS hl hr hret => ?_)
  have hl : lv_has ls 5 [(0, .ref (ad 56)), (1, .ref (ad 85)), (2, .int a0), (3, .int a1)] := hl
  refine u_iconst (v := 0) X dX10_move_0 rfl ?_
  refine u_istore [(4, .int 0), (0, .ref (ad 56)), (1, .ref (ad 85)), (2, .int a0), (3, .int a1)] X hl dX10_move_1 (Nat.le_of_ble_eq_true rfl) rfl (fun ls hl => ?_)
  have L3 : ∀ (n : Nat) (H : Heap) (locs : List Loc) (ls : Array Slot) (z_3 : MS) (l4_3 : Int32), lv_has ls 5 [(0, .ref (ad 56)), (1, .ref (ad 85)), (2, .int a0), (3, .int a1), (4, .int l4_3)] → va_P D clss (wld cs ad z_3) H → va_S A s.heap H locs → fM_move_85_L3 a0 a1 n z_3 l4_3 = some z1 → W p l e R s m args below meth c H locs 0 0 Q (F0 m 3 ls []) := by
    intro n
    induction n with
    | zero =>
      intro H locs ls z_3 l4_3 hl hP hS h
      rw [fM_move_85_L3] at h
      cases h
    | succ n3 ih3 =>
      intro H locs ls z_3 l4_3 hl hP hS h
      rw [fM_move_85_L3] at h
      refine u_iload X hl dX10_move_3 4 rfl ?_
      refine u_iload_n X hl dX10_move_5 2 rfl ?_
      refine u_icmp_ge 58 X dX10_move_6 rfl (fun hc => ?_) (fun hc => ?_)
      · rw [if_pos hc] at h
        exact u_vretM X hr hret h hP hS dX10_move_58
      · rw [if_neg hc] at h
        refine u_iload_n X hl dX10_move_9 3 rfl ?_
        have J42 : ∀ (H : Heap) (locs : List Loc) (ls : Array Slot) (z_42 : MS), lv_has ls 5 [(0, .ref (ad 56)), (1, .ref (ad 85)), (2, .int a0), (3, .int a1), (4, .int l4_3)] → va_P D clss (wld cs ad z_42) H → va_S A s.heap H locs → fM_move_85_J42 z_42 (fM_move_85_L3 a0 a1 n3) l4_3 = some z1 → W p l e R s m args below meth c H locs 0 0 Q (F0 m 42 ls []) := by
          intro H locs ls z_42 hl hP hS h
          rw [fM_move_85_J42] at h
          refine u_aload_n X hl dX10_move_42 0 rfl ?_
          refine u_dup X rfl dX10_move_43 ?_
          refine gf_X10_407_56 X hP dX10_move_44 ?_
          refine u_iconst (v := 1) X dX10_move_47 rfl ?_
          refine u_iadd X dX10_move_48 ?_
          refine pf_X10_407_56 X hP hS dX10_move_49 (fun H locs hP hS => ?_)
          refine u_iinc [(4, .int (l4_3 + 1)), (0, .ref (ad 56)), (1, .ref (ad 85)), (2, .int a0), (3, .int a1)] X hl dX10_move_52 4 rfl rfl (Nat.le_of_ble_eq_true rfl) rfl (fun ls hl => ?_)
          refine u_goto 3 X dX10_move_55 rfl ?_
          exact ih3 _ _ _ _ _ (lv_sub hl [1, 2, 3, 4, 0] rfl) hP hS h
        refine u_if_eq 29 X dX10_move_10 rfl (fun hc => ?_) (fun hc => ?_)
        · rw [if_pos hc] at h
          refine u_aload_n X hl dX10_move_29 1 rfl ?_
          refine u_iload X hl dX10_move_30 4 rfl ?_
          refine u_aload_n X hl dX10_move_32 0 rfl ?_
          refine gf_X10_96_56 X hP dX10_move_33 ?_
          refine u_aload_n X hl dX10_move_36 0 rfl ?_
          refine gf_X10_407_56 X hP dX10_move_37 ?_
          obtain ⟨hin, h⟩ := ifn_inv h
          refine ld_84 X hP rfl hin dX10_move_40 ?_
          obtain ⟨hin, h⟩ := ifn_inv h
          refine as_85 X hP hS rfl hin dX10_move_41 (fun H locs hP hS => ?_)
          exact J42 _ _ _ _ hl hP hS h
        · rw [if_neg hc] at h
          refine u_aload_n X hl dX10_move_13 0 rfl ?_
          refine gf_X10_96_56 X hP dX10_move_14 ?_
          refine u_aload_n X hl dX10_move_17 0 rfl ?_
          refine gf_X10_407_56 X hP dX10_move_18 ?_
          refine u_aload_n X hl dX10_move_21 1 rfl ?_
          refine u_iload X hl dX10_move_22 4 rfl ?_
          obtain ⟨hin, h⟩ := ifn_inv h
          refine ld_85 X hP rfl hin dX10_move_24 ?_
          obtain ⟨hin, h⟩ := ifn_inv h
          refine as_84 X hP hS rfl hin dX10_move_25 (fun H locs hP hS => ?_)
          refine u_goto 42 X dX10_move_26 rfl ?_
          exact J42 _ _ _ _ hl hP hS h
  exact L3 LF _ _ _ _ _ (lv_sub hl [1, 2, 3, 4, 0] rfl) hP hS h
def fM_move_57_J42 (z : MS) (K3 : MS → Int32 → Option MS) (l4 : Int32) : Option MS :=
  K3 (pI z 56 49 ((gI z 56 49) + 1)) (l4 + 1)
def fM_move_57_L3 (l2 : Int32) (l3 : Int32) : Nat → MS → Int32 → Option MS
  | 0, _, _ => none
  | n + 1, z, l4 => if l2 ≤ l4 then some z else (if l3 = 0 then (if (gI z 56 49) < 0 ∨ 200 ≤ (gI z 56 49).toNatClampNeg then none else if l4 < 0 ∨ 8 ≤ l4.toNatClampNeg then none else fM_move_57_J42 (pI z 57 l4.toNatClampNeg (gI z 84 (gI z 56 49).toNatClampNeg)) (fM_move_57_L3 l2 l3 n) l4) else (if l4 < 0 ∨ 8 ≤ l4.toNatClampNeg then none else if (gI z 56 49) < 0 ∨ 200 ≤ (gI z 56 49).toNatClampNeg then none else fM_move_57_J42 (pI z 84 (gI z 56 49).toNatClampNeg (gI z 57 l4.toNatClampNeg)) (fM_move_57_L3 l2 l3 n) l4))
def fM_move_57 (z : MS) (a0 : Int32) (a1 : Int32) : Option MS :=
  fM_move_57_L3 a0 a1 LF z 0
set_option maxRecDepth 4000 in
theorem cM_move_57 (l : Launch) {z : MS} {a0 : Int32} {a1 : Int32} {z1 : MS} (h : fM_move_57 z a0 a1 = some z1) : CT l yX10_move cX10_move 5 none 0 0 (fun ad sd => [.ref (ad 56), .ref (ad 57), .int a0, .int a1]) z none z1 := by
  rw [fM_move_57] at h
  refine u_start RX10 rfl (by decide) (fun _ _ => Nat.le_of_ble_eq_true rfl) (fun p e s m args below meth c R D ad cs sd A Q ls X hP hS hl hr hret => ?_)
  have hl : lv_has ls 5 [(0, .ref (ad 56)), (1, .ref (ad 57)), (2, .int a0), (3, .int a1)] := hl
  refine u_iconst (v := 0) X dX10_move_0 rfl ?_
  refine u_istore [(4, .int 0), (0, .ref (ad 56)), (1, .ref (ad 57)), (2, .int a0), (3, .int a1)] X hl dX10_move_1 (Nat.le_of_ble_eq_true rfl) rfl (fun ls hl => ?_)
  have L3 : ∀ (n : Nat) (H : Heap) (locs : List Loc) (ls : Array Slot) (z_3 : MS) (l4_3 : Int32), lv_has ls 5 [(0, .ref (ad 56)), (1, .ref (ad 57)), (2, .int a0), (3, .int a1), (4, .int l4_3)] → va_P D clss (wld cs ad z_3) H → va_S A s.heap H locs → fM_move_57_L3 a0 a1 n z_3 l4_3 = some z1 → W p l e R s m args below meth c H locs 0 0 Q (F0 m 3 ls []) := by
    intro n
    induction n with
    | zero =>
      intro H locs ls z_3 l4_3 hl hP hS h
      rw [fM_move_57_L3] at h
      cases h
    | succ n3 ih3 =>
      intro H locs ls z_3 l4_3 hl hP hS h
      rw [fM_move_57_L3] at h
      refine u_iload X hl dX10_move_3 4 rfl ?_
      refine u_iload_n X hl dX10_move_5 2 rfl ?_
      refine u_icmp_ge 58 X dX10_move_6 rfl (fun hc => ?_) (fun hc => ?_)
      · rw [if_pos hc] at h
        exact u_vretM X hr hret h hP hS dX10_move_58
      · rw [if_neg hc] at h
        refine u_iload_n X hl dX10_move_9 3 rfl ?_
        have J42 : ∀ (H : Heap) (locs : List Loc) (ls : Array Slot) (z_42 : MS), lv_has ls 5 [(0, .ref (ad 56)), (1, .ref (ad 57)), (2, .int a0), (3, .int a1), (4, .int l4_3)] → va_P D clss (wld cs ad z_42) H → va_S A s.heap H locs → fM_move_57_J42 z_42 (fM_move_57_L3 a0 a1 n3) l4_3 = some z1 → W p l e R s m args below meth c H locs 0 0 Q (F0 m 42 ls []) := by
          intro H locs ls z_42 hl hP hS h
          rw [fM_move_57_J42] at h
          refine u_aload_n X hl dX10_move_42 0 rfl ?_
          refine u_dup X rfl dX10_move_43 ?_
          refine gf_X10_407_56 X hP dX10_move_44 ?_
          refine u_iconst (v := 1) X dX10_move_47 rfl ?_
          refine u_iadd X dX10_move_48 ?_
          refine pf_X10_407_56 X hP hS dX10_move_49 (fun H locs hP hS => ?_)
          refine u_iinc [(4, .int (l4_3 + 1)), (0, .ref (ad 56)), (1, .ref (ad 57)), (2, .int a0), (3, .int a1)] X hl dX10_move_52 4 rfl rfl (Nat.le_of_ble_eq_true rfl) rfl (fun ls hl => ?_)
          refine u_goto 3 X dX10_move_55 rfl ?_
          exact ih3 _ _ _ _ _ (lv_sub hl [1, 2, 3, 4, 0] rfl) hP hS h
        refine u_if_eq 29 X dX10_move_10 rfl (fun hc => ?_) (fun hc => ?_)
        · rw [if_pos hc] at h
          refine u_aload_n X hl dX10_move_29 1 rfl ?_
          refine u_iload X hl dX10_move_30 4 rfl ?_
          refine u_aload_n X hl dX10_move_32 0 rfl ?_
          refine gf_X10_96_56 X hP dX10_move_33 ?_
          refine u_aload_n X hl dX10_move_36 0 rfl ?_
          refine gf_X10_407_56 X hP dX10_move_37 ?_
          obtain ⟨hin, h⟩ := ifn_inv h
          refine ld_84 X hP rfl hin dX10_move_40 ?_
          obtain ⟨hin, h⟩ := ifn_inv h
          refine as_57 X hP hS rfl hin dX10_move_41 (fun H locs hP hS => ?_)
          exact J42 _ _ _ _ hl hP hS h
        · rw [if_neg hc] at h
          refine u_aload_n X hl dX10_move_13 0 rfl ?_
          refine gf_X10_96_56 X hP dX10_move_14 ?_
          refine u_aload_n X hl dX10_move_17 0 rfl ?_
          refine gf_X10_407_56 X hP dX10_move_18 ?_
          refine u_aload_n X hl dX10_move_21 1 rfl ?_
          refine u_iload X hl dX10_move_22 4 rfl ?_
          obtain ⟨hin, h⟩ := ifn_inv h
          refine ld_57 X hP rfl hin dX10_move_24 ?_
          obtain ⟨hin, h⟩ := ifn_inv h
          refine as_84 X hP hS rfl hin dX10_move_25 (fun H locs hP hS => ?_)
          refine u_goto 42 X dX10_move_26 rfl ?_
          exact J42 _ _ _ _ hl hP hS h
  exact L3 LF _ _ _ _ _ (lv_sub hl [1, 2, 3, 4, 0] rfl) hP hS h
def fM_move_58_J42 (z : MS) (K3 : MS → Int32 → Option MS) (l4 : Int32) : Option MS :=
  K3 (pI z 56 49 ((gI z 56 49) + 1)) (l4 + 1)
def fM_move_58_L3 (l2 : Int32) (l3 : Int32) : Nat → MS → Int32 → Option MS
  | 0, _, _ => none
  | n + 1, z, l4 => if l2 ≤ l4 then some z else (if l3 = 0 then (if (gI z 56 49) < 0 ∨ 200 ≤ (gI z 56 49).toNatClampNeg then none else if l4 < 0 ∨ 8 ≤ l4.toNatClampNeg then none else fM_move_58_J42 (pI z 58 l4.toNatClampNeg (gI z 84 (gI z 56 49).toNatClampNeg)) (fM_move_58_L3 l2 l3 n) l4) else (if l4 < 0 ∨ 8 ≤ l4.toNatClampNeg then none else if (gI z 56 49) < 0 ∨ 200 ≤ (gI z 56 49).toNatClampNeg then none else fM_move_58_J42 (pI z 84 (gI z 56 49).toNatClampNeg (gI z 58 l4.toNatClampNeg)) (fM_move_58_L3 l2 l3 n) l4))
def fM_move_58 (z : MS) (a0 : Int32) (a1 : Int32) : Option MS :=
  fM_move_58_L3 a0 a1 LF z 0
set_option maxRecDepth 4000 in
theorem cM_move_58 (l : Launch) {z : MS} {a0 : Int32} {a1 : Int32} {z1 : MS} (h : fM_move_58 z a0 a1 = some z1) : CT l yX10_move cX10_move 5 none 0 0 (fun ad sd => [.ref (ad 56), .ref (ad 58), .int a0, .int a1]) z none z1 := by
  rw [fM_move_58] at h
  refine u_start RX10 rfl (by decide) (fun _ _ => Nat.le_of_ble_eq_true rfl) (fun p e s m args below meth c R D ad cs sd A Q ls X hP hS hl hr hret => ?_)
  have hl : lv_has ls 5 [(0, .ref (ad 56)), (1, .ref (ad 58)), (2, .int a0), (3, .int a1)] := hl
  refine u_iconst (v := 0) X dX10_move_0 rfl ?_
  refine u_istore [(4, .int 0), (0, .ref (ad 56)), (1, .ref (ad 58)), (2, .int a0), (3, .int a1)] X hl dX10_move_1 (Nat.le_of_ble_eq_true rfl) rfl (fun ls hl => ?_)
  have L3 : ∀ (n : Nat) (H : Heap) (locs : List Loc) (ls : Array Slot) (z_3 : MS) (l4_3 : Int32), lv_has ls 5 [(0, .ref (ad 56)), (1, .ref (ad 58)), (2, .int a0), (3, .int a1), (4, .int l4_3)] → va_P D clss (wld cs ad z_3) H → va_S A s.heap H locs → fM_move_58_L3 a0 a1 n z_3 l4_3 = some z1 → W p l e R s m args below meth c H locs 0 0 Q (F0 m 3 ls []) := by
    intro n
    induction n with
    | zero =>
      intro H locs ls z_3 l4_3 hl hP hS h
      rw [fM_move_58_L3] at h
      cases h
    | succ n3 ih3 =>
      intro H locs ls z_3 l4_3 hl hP hS h
      rw [fM_move_58_L3] at h
      refine u_iload X hl dX10_move_3 4 rfl ?_
      refine u_iload_n X hl dX10_move_5 2 rfl ?_
      refine u_icmp_ge 58 X dX10_move_6 rfl (fun hc => ?_) (fun hc => ?_)
      · rw [if_pos hc] at h
        exact u_vretM X hr hret h hP hS dX10_move_58
      · rw [if_neg hc] at h
        refine u_iload_n X hl dX10_move_9 3 rfl ?_
        have J42 : ∀ (H : Heap) (locs : List Loc) (ls : Array Slot) (z_42 : MS), lv_has ls 5 [(0, .ref (ad 56)), (1, .ref (ad 58)), (2, .int a0), (3, .int a1), (4, .int l4_3)] → va_P D clss (wld cs ad z_42) H → va_S A s.heap H locs → fM_move_58_J42 z_42 (fM_move_58_L3 a0 a1 n3) l4_3 = some z1 → W p l e R s m args below meth c H locs 0 0 Q (F0 m 42 ls []) := by
          intro H locs ls z_42 hl hP hS h
          rw [fM_move_58_J42] at h
          refine u_aload_n X hl dX10_move_42 0 rfl ?_
          refine u_dup X rfl dX10_move_43 ?_
          refine gf_X10_407_56 X hP dX10_move_44 ?_
          refine u_iconst (v := 1) X dX10_move_47 rfl ?_
          refine u_iadd X dX10_move_48 ?_
          refine pf_X10_407_56 X hP hS dX10_move_49 (fun H locs hP hS => ?_)
          refine u_iinc [(4, .int (l4_3 + 1)), (0, .ref (ad 56)), (1, .ref (ad 58)), (2, .int a0), (3, .int a1)] X hl dX10_move_52 4 rfl rfl (Nat.le_of_ble_eq_true rfl) rfl (fun ls hl => ?_)
          refine u_goto 3 X dX10_move_55 rfl ?_
          exact ih3 _ _ _ _ _ (lv_sub hl [1, 2, 3, 4, 0] rfl) hP hS h
        refine u_if_eq 29 X dX10_move_10 rfl (fun hc => ?_) (fun hc => ?_)
        · rw [if_pos hc] at h
          refine u_aload_n X hl dX10_move_29 1 rfl ?_
          refine u_iload X hl dX10_move_30 4 rfl ?_
          refine u_aload_n X hl dX10_move_32 0 rfl ?_
          refine gf_X10_96_56 X hP dX10_move_33 ?_
          refine u_aload_n X hl dX10_move_36 0 rfl ?_
          refine gf_X10_407_56 X hP dX10_move_37 ?_
          obtain ⟨hin, h⟩ := ifn_inv h
          refine ld_84 X hP rfl hin dX10_move_40 ?_
          obtain ⟨hin, h⟩ := ifn_inv h
          refine as_58 X hP hS rfl hin dX10_move_41 (fun H locs hP hS => ?_)
          exact J42 _ _ _ _ hl hP hS h
        · rw [if_neg hc] at h
          refine u_aload_n X hl dX10_move_13 0 rfl ?_
          refine gf_X10_96_56 X hP dX10_move_14 ?_
          refine u_aload_n X hl dX10_move_17 0 rfl ?_
          refine gf_X10_407_56 X hP dX10_move_18 ?_
          refine u_aload_n X hl dX10_move_21 1 rfl ?_
          refine u_iload X hl dX10_move_22 4 rfl ?_
          obtain ⟨hin, h⟩ := ifn_inv h
          refine ld_58 X hP rfl hin dX10_move_24 ?_
          obtain ⟨hin, h⟩ := ifn_inv h
          refine as_84 X hP hS rfl hin dX10_move_25 (fun H locs hP hS => ?_)
          refine u_goto 42 X dX10_move_26 rfl ?_
          exact J42 _ _ _ _ hl hP hS h
  exact L3 LF _ _ _ _ _ (lv_sub hl [1, 2, 3, 4, 0] rfl) hP hS h
def fM_move_59_J42 (z : MS) (K3 : MS → Int32 → Option MS) (l4 : Int32) : Option MS :=
  K3 (pI z 56 49 ((gI z 56 49) + 1)) (l4 + 1)
def fM_move_59_L3 (l2 : Int32) (l3 : Int32) : Nat → MS → Int32 → Option MS
  | 0, _, _ => none
  | n + 1, z, l4 => if l2 ≤ l4 then some z else (if l3 = 0 then (if (gI z 56 49) < 0 ∨ 200 ≤ (gI z 56 49).toNatClampNeg then none else if l4 < 0 ∨ 64 ≤ l4.toNatClampNeg then none else fM_move_59_J42 (pI z 59 l4.toNatClampNeg (gI z 84 (gI z 56 49).toNatClampNeg)) (fM_move_59_L3 l2 l3 n) l4) else (if l4 < 0 ∨ 64 ≤ l4.toNatClampNeg then none else if (gI z 56 49) < 0 ∨ 200 ≤ (gI z 56 49).toNatClampNeg then none else fM_move_59_J42 (pI z 84 (gI z 56 49).toNatClampNeg (gI z 59 l4.toNatClampNeg)) (fM_move_59_L3 l2 l3 n) l4))
def fM_move_59 (z : MS) (a0 : Int32) (a1 : Int32) : Option MS :=
  fM_move_59_L3 a0 a1 LF z 0
set_option maxRecDepth 4000 in
theorem cM_move_59 (l : Launch) {z : MS} {a0 : Int32} {a1 : Int32} {z1 : MS} (h : fM_move_59 z a0 a1 = some z1) : CT l yX10_move cX10_move 5 none 0 0 (fun ad sd => [.ref (ad 56), .ref (ad 59), .int a0, .int a1]) z none z1 := by
  rw [fM_move_59] at h
  refine u_start RX10 rfl (by decide) (fun _ _ => Nat.le_of_ble_eq_true rfl) (fun p e s m args below meth c R D ad cs sd A Q ls X hP hS hl hr hret => ?_)
  have hl : lv_has ls 5 [(0, .ref (ad 56)), (1, .ref (ad 59)), (2, .int a0), (3, .int a1)] := hl
  refine u_iconst (v := 0) X dX10_move_0 rfl ?_
  refine u_istore [(4, .int 0), (0, .ref (ad 56)), (1, .ref (ad 59)), (2, .int a0), (3, .int a1)] X hl dX10_move_1 (Nat.le_of_ble_eq_true rfl) rfl (fun ls hl => ?_)
  have L3 : ∀ (n : Nat) (H : Heap) (locs : List Loc) (ls : Array Slot) (z_3 : MS) (l4_3 : Int32), lv_has ls 5 [(0, .ref (ad 56)), (1, .ref (ad 59)), (2, .int a0), (3, .int a1), (4, .int l4_3)] → va_P D clss (wld cs ad z_3) H → va_S A s.heap H locs → fM_move_59_L3 a0 a1 n z_3 l4_3 = some z1 → W p l e R s m args below meth c H locs 0 0 Q (F0 m 3 ls []) := by
    intro n
    induction n with
    | zero =>
      intro H locs ls z_3 l4_3 hl hP hS h
      rw [fM_move_59_L3] at h
      cases h
    | succ n3 ih3 =>
      intro H locs ls z_3 l4_3 hl hP hS h
      rw [fM_move_59_L3] at h
      refine u_iload X hl dX10_move_3 4 rfl ?_
      refine u_iload_n X hl dX10_move_5 2 rfl ?_
      refine u_icmp_ge 58 X dX10_move_6 rfl (fun hc => ?_) (fun hc => ?_)
      · rw [if_pos hc] at h
        exact u_vretM X hr hret h hP hS dX10_move_58
      · rw [if_neg hc] at h
        refine u_iload_n X hl dX10_move_9 3 rfl ?_
        have J42 : ∀ (H : Heap) (locs : List Loc) (ls : Array Slot) (z_42 : MS), lv_has ls 5 [(0, .ref (ad 56)), (1, .ref (ad 59)), (2, .int a0), (3, .int a1), (4, .int l4_3)] → va_P D clss (wld cs ad z_42) H → va_S A s.heap H locs → fM_move_59_J42 z_42 (fM_move_59_L3 a0 a1 n3) l4_3 = some z1 → W p l e R s m args below meth c H locs 0 0 Q (F0 m 42 ls []) := by
          intro H locs ls z_42 hl hP hS h
          rw [fM_move_59_J42] at h
          refine u_aload_n X hl dX10_move_42 0 rfl ?_
          refine u_dup X rfl dX10_move_43 ?_
          refine gf_X10_407_56 X hP dX10_move_44 ?_
          refine u_iconst (v := 1) X dX10_move_47 rfl ?_
          refine u_iadd X dX10_move_48 ?_
          refine pf_X10_407_56 X hP hS dX10_move_49 (fun H locs hP hS => ?_)
          refine u_iinc [(4, .int (l4_3 + 1)), (0, .ref (ad 56)), (1, .ref (ad 59)), (2, .int a0), (3, .int a1)] X hl dX10_move_52 4 rfl rfl (Nat.le_of_ble_eq_true rfl) rfl (fun ls hl => ?_)
          refine u_goto 3 X dX10_move_55 rfl ?_
          exact ih3 _ _ _ _ _ (lv_sub hl [1, 2, 3, 4, 0] rfl) hP hS h
        refine u_if_eq 29 X dX10_move_10 rfl (fun hc => ?_) (fun hc => ?_)
        · rw [if_pos hc] at h
          refine u_aload_n X hl dX10_move_29 1 rfl ?_
          refine u_iload X hl dX10_move_30 4 rfl ?_
          refine u_aload_n X hl dX10_move_32 0 rfl ?_
          refine gf_X10_96_56 X hP dX10_move_33 ?_
          refine u_aload_n X hl dX10_move_36 0 rfl ?_
          refine gf_X10_407_56 X hP dX10_move_37 ?_
          obtain ⟨hin, h⟩ := ifn_inv h
          refine ld_84 X hP rfl hin dX10_move_40 ?_
          obtain ⟨hin, h⟩ := ifn_inv h
          refine as_59 X hP hS rfl hin dX10_move_41 (fun H locs hP hS => ?_)
          exact J42 _ _ _ _ hl hP hS h
        · rw [if_neg hc] at h
          refine u_aload_n X hl dX10_move_13 0 rfl ?_
          refine gf_X10_96_56 X hP dX10_move_14 ?_
          refine u_aload_n X hl dX10_move_17 0 rfl ?_
          refine gf_X10_407_56 X hP dX10_move_18 ?_
          refine u_aload_n X hl dX10_move_21 1 rfl ?_
          refine u_iload X hl dX10_move_22 4 rfl ?_
          obtain ⟨hin, h⟩ := ifn_inv h
          refine ld_59 X hP rfl hin dX10_move_24 ?_
          obtain ⟨hin, h⟩ := ifn_inv h
          refine as_84 X hP hS rfl hin dX10_move_25 (fun H locs hP hS => ?_)
          refine u_goto 42 X dX10_move_26 rfl ?_
          exact J42 _ _ _ _ hl hP hS h
  exact L3 LF _ _ _ _ _ (lv_sub hl [1, 2, 3, 4, 0] rfl) hP hS h
def fM_move_60_J42 (z : MS) (K3 : MS → Int32 → Option MS) (l4 : Int32) : Option MS :=
  K3 (pI z 56 49 ((gI z 56 49) + 1)) (l4 + 1)
def fM_move_60_L3 (l2 : Int32) (l3 : Int32) : Nat → MS → Int32 → Option MS
  | 0, _, _ => none
  | n + 1, z, l4 => if l2 ≤ l4 then some z else (if l3 = 0 then (if (gI z 56 49) < 0 ∨ 200 ≤ (gI z 56 49).toNatClampNeg then none else if l4 < 0 ∨ 40 ≤ l4.toNatClampNeg then none else fM_move_60_J42 (pI z 60 l4.toNatClampNeg (gI z 84 (gI z 56 49).toNatClampNeg)) (fM_move_60_L3 l2 l3 n) l4) else (if l4 < 0 ∨ 40 ≤ l4.toNatClampNeg then none else if (gI z 56 49) < 0 ∨ 200 ≤ (gI z 56 49).toNatClampNeg then none else fM_move_60_J42 (pI z 84 (gI z 56 49).toNatClampNeg (gI z 60 l4.toNatClampNeg)) (fM_move_60_L3 l2 l3 n) l4))
def fM_move_60 (z : MS) (a0 : Int32) (a1 : Int32) : Option MS :=
  fM_move_60_L3 a0 a1 LF z 0
set_option maxRecDepth 4000 in
theorem cM_move_60 (l : Launch) {z : MS} {a0 : Int32} {a1 : Int32} {z1 : MS} (h : fM_move_60 z a0 a1 = some z1) : CT l yX10_move cX10_move 5 none 0 0 (fun ad sd => [.ref (ad 56), .ref (ad 60), .int a0, .int a1]) z none z1 := by
  rw [fM_move_60] at h
  refine u_start RX10 rfl (by decide) (fun _ _ => Nat.le_of_ble_eq_true rfl) (fun p e s m args below meth c R D ad cs sd A Q ls X hP hS hl hr hret => ?_)
  have hl : lv_has ls 5 [(0, .ref (ad 56)), (1, .ref (ad 60)), (2, .int a0), (3, .int a1)] := hl
  refine u_iconst (v := 0) X dX10_move_0 rfl ?_
  refine u_istore [(4, .int 0), (0, .ref (ad 56)), (1, .ref (ad 60)), (2, .int a0), (3, .int a1)] X hl dX10_move_1 (Nat.le_of_ble_eq_true rfl) rfl (fun ls hl => ?_)
  have L3 : ∀ (n : Nat) (H : Heap) (locs : List Loc) (ls : Array Slot) (z_3 : MS) (l4_3 : Int32), lv_has ls 5 [(0, .ref (ad 56)), (1, .ref (ad 60)), (2, .int a0), (3, .int a1), (4, .int l4_3)] → va_P D clss (wld cs ad z_3) H → va_S A s.heap H locs → fM_move_60_L3 a0 a1 n z_3 l4_3 = some z1 → W p l e R s m args below meth c H locs 0 0 Q (F0 m 3 ls []) := by
    intro n
    induction n with
    | zero =>
      intro H locs ls z_3 l4_3 hl hP hS h
      rw [fM_move_60_L3] at h
      cases h
    | succ n3 ih3 =>
      intro H locs ls z_3 l4_3 hl hP hS h
      rw [fM_move_60_L3] at h
      refine u_iload X hl dX10_move_3 4 rfl ?_
      refine u_iload_n X hl dX10_move_5 2 rfl ?_
      refine u_icmp_ge 58 X dX10_move_6 rfl (fun hc => ?_) (fun hc => ?_)
      · rw [if_pos hc] at h
        exact u_vretM X hr hret h hP hS dX10_move_58
      · rw [if_neg hc] at h
        refine u_iload_n X hl dX10_move_9 3 rfl ?_
        have J42 : ∀ (H : Heap) (locs : List Loc) (ls : Array Slot) (z_42 : MS), lv_has ls 5 [(0, .ref (ad 56)), (1, .ref (ad 60)), (2, .int a0), (3, .int a1), (4, .int l4_3)] → va_P D clss (wld cs ad z_42) H → va_S A s.heap H locs → fM_move_60_J42 z_42 (fM_move_60_L3 a0 a1 n3) l4_3 = some z1 → W p l e R s m args below meth c H locs 0 0 Q (F0 m 42 ls []) := by
          intro H locs ls z_42 hl hP hS h
          rw [fM_move_60_J42] at h
          refine u_aload_n X hl dX10_move_42 0 rfl ?_
          refine u_dup X rfl dX10_move_43 ?_
          refine gf_X10_407_56 X hP dX10_move_44 ?_
          refine u_iconst (v := 1) X dX10_move_47 rfl ?_
          refine u_iadd X dX10_move_48 ?_
          refine pf_X10_407_56 X hP hS dX10_move_49 (fun H locs hP hS => ?_)
          refine u_iinc [(4, .int (l4_3 + 1)), (0, .ref (ad 56)), (1, .ref (ad 60)), (2, .int a0), (3, .int a1)] X hl dX10_move_52 4 rfl rfl (Nat.le_of_ble_eq_true rfl) rfl (fun ls hl => ?_)
          refine u_goto 3 X dX10_move_55 rfl ?_
          exact ih3 _ _ _ _ _ (lv_sub hl [1, 2, 3, 4, 0] rfl) hP hS h
        refine u_if_eq 29 X dX10_move_10 rfl (fun hc => ?_) (fun hc => ?_)
        · rw [if_pos hc] at h
          refine u_aload_n X hl dX10_move_29 1 rfl ?_
          refine u_iload X hl dX10_move_30 4 rfl ?_
          refine u_aload_n X hl dX10_move_32 0 rfl ?_
          refine gf_X10_96_56 X hP dX10_move_33 ?_
          refine u_aload_n X hl dX10_move_36 0 rfl ?_
          refine gf_X10_407_56 X hP dX10_move_37 ?_
          obtain ⟨hin, h⟩ := ifn_inv h
          refine ld_84 X hP rfl hin dX10_move_40 ?_
          obtain ⟨hin, h⟩ := ifn_inv h
          refine as_60 X hP hS rfl hin dX10_move_41 (fun H locs hP hS => ?_)
          exact J42 _ _ _ _ hl hP hS h
        · rw [if_neg hc] at h
          refine u_aload_n X hl dX10_move_13 0 rfl ?_
          refine gf_X10_96_56 X hP dX10_move_14 ?_
          refine u_aload_n X hl dX10_move_17 0 rfl ?_
          refine gf_X10_407_56 X hP dX10_move_18 ?_
          refine u_aload_n X hl dX10_move_21 1 rfl ?_
          refine u_iload X hl dX10_move_22 4 rfl ?_
          obtain ⟨hin, h⟩ := ifn_inv h
          refine ld_60 X hP rfl hin dX10_move_24 ?_
          obtain ⟨hin, h⟩ := ifn_inv h
          refine as_84 X hP hS rfl hin dX10_move_25 (fun H locs hP hS => ?_)
          refine u_goto 42 X dX10_move_26 rfl ?_
          exact J42 _ _ _ _ hl hP hS h
  exact L3 LF _ _ _ _ _ (lv_sub hl [1, 2, 3, 4, 0] rfl) hP hS h
def fM_move_61_J42 (z : MS) (K3 : MS → Int32 → Option MS) (l4 : Int32) : Option MS :=
  K3 (pI z 56 49 ((gI z 56 49) + 1)) (l4 + 1)
def fM_move_61_L3 (l2 : Int32) (l3 : Int32) : Nat → MS → Int32 → Option MS
  | 0, _, _ => none
  | n + 1, z, l4 => if l2 ≤ l4 then some z else (if l3 = 0 then (if (gI z 56 49) < 0 ∨ 200 ≤ (gI z 56 49).toNatClampNeg then none else if l4 < 0 ∨ 10 ≤ l4.toNatClampNeg then none else fM_move_61_J42 (pI z 61 l4.toNatClampNeg (gI z 84 (gI z 56 49).toNatClampNeg)) (fM_move_61_L3 l2 l3 n) l4) else (if l4 < 0 ∨ 10 ≤ l4.toNatClampNeg then none else if (gI z 56 49) < 0 ∨ 200 ≤ (gI z 56 49).toNatClampNeg then none else fM_move_61_J42 (pI z 84 (gI z 56 49).toNatClampNeg (gI z 61 l4.toNatClampNeg)) (fM_move_61_L3 l2 l3 n) l4))
def fM_move_61 (z : MS) (a0 : Int32) (a1 : Int32) : Option MS :=
  fM_move_61_L3 a0 a1 LF z 0
set_option maxRecDepth 4000 in
theorem cM_move_61 (l : Launch) {z : MS} {a0 : Int32} {a1 : Int32} {z1 : MS} (h : fM_move_61 z a0 a1 = some z1) : CT l yX10_move cX10_move 5 none 0 0 (fun ad sd => [.ref (ad 56), .ref (ad 61), .int a0, .int a1]) z none z1 := by
  rw [fM_move_61] at h
  refine u_start RX10 rfl (by decide) (fun _ _ => Nat.le_of_ble_eq_true rfl) (fun p e s m args below meth c R D ad cs sd A Q ls X hP hS hl hr hret => ?_)
  have hl : lv_has ls 5 [(0, .ref (ad 56)), (1, .ref (ad 61)), (2, .int a0), (3, .int a1)] := hl
  refine u_iconst (v := 0) X dX10_move_0 rfl ?_
  refine u_istore [(4, .int 0), (0, .ref (ad 56)), (1, .ref (ad 61)), (2, .int a0), (3, .int a1)] X hl dX10_move_1 (Nat.le_of_ble_eq_true rfl) rfl (fun ls hl => ?_)
  have L3 : ∀ (n : Nat) (H : Heap) (locs : List Loc) (ls : Array Slot) (z_3 : MS) (l4_3 : Int32), lv_has ls 5 [(0, .ref (ad 56)), (1, .ref (ad 61)), (2, .int a0), (3, .int a1), (4, .int l4_3)] → va_P D clss (wld cs ad z_3) H → va_S A s.heap H locs → fM_move_61_L3 a0 a1 n z_3 l4_3 = some z1 → W p l e R s m args below meth c H locs 0 0 Q (F0 m 3 ls []) := by
    intro n
    induction n with
    | zero =>
      intro H locs ls z_3 l4_3 hl hP hS h
      rw [fM_move_61_L3] at h
      cases h
    | succ n3 ih3 =>
      intro H locs ls z_3 l4_3 hl hP hS h
      rw [fM_move_61_L3] at h
      refine u_iload X hl dX10_move_3 4 rfl ?_
      refine u_iload_n X hl dX10_move_5 2 rfl ?_
      refine u_icmp_ge 58 X dX10_move_6 rfl (fun hc => ?_) (fun hc => ?_)
      · rw [if_pos hc] at h
        exact u_vretM X hr hret h hP hS dX10_move_58
      · rw [if_neg hc] at h
        refine u_iload_n X hl dX10_move_9 3 rfl ?_
        have J42 : ∀ (H : Heap) (locs : List Loc) (ls : Array Slot) (z_42 : MS), lv_has ls 5 [(0, .ref (ad 56)), (1, .ref (ad 61)), (2, .int a0), (3, .int a1), (4, .int l4_3)] → va_P D clss (wld cs ad z_42) H → va_S A s.heap H locs → fM_move_61_J42 z_42 (fM_move_61_L3 a0 a1 n3) l4_3 = some z1 → W p l e R s m args below meth c H locs 0 0 Q (F0 m 42 ls []) := by
          intro H locs ls z_42 hl hP hS h
          rw [fM_move_61_J42] at h
          refine u_aload_n X hl dX10_move_42 0 rfl ?_
          refine u_dup X rfl dX10_move_43 ?_
          refine gf_X10_407_56 X hP dX10_move_44 ?_
          refine u_iconst (v := 1) X dX10_move_47 rfl ?_
          refine u_iadd X dX10_move_48 ?_
          refine pf_X10_407_56 X hP hS dX10_move_49 (fun H locs hP hS => ?_)
          refine u_iinc [(4, .int (l4_3 + 1)), (0, .ref (ad 56)), (1, .ref (ad 61)), (2, .int a0), (3, .int a1)] X hl dX10_move_52 4 rfl rfl (Nat.le_of_ble_eq_true rfl) rfl (fun ls hl => ?_)
          refine u_goto 3 X dX10_move_55 rfl ?_
          exact ih3 _ _ _ _ _ (lv_sub hl [1, 2, 3, 4, 0] rfl) hP hS h
        refine u_if_eq 29 X dX10_move_10 rfl (fun hc => ?_) (fun hc => ?_)
        · rw [if_pos hc] at h
          refine u_aload_n X hl dX10_move_29 1 rfl ?_
          refine u_iload X hl dX10_move_30 4 rfl ?_
          refine u_aload_n X hl dX10_move_32 0 rfl ?_
          refine gf_X10_96_56 X hP dX10_move_33 ?_
          refine u_aload_n X hl dX10_move_36 0 rfl ?_
          refine gf_X10_407_56 X hP dX10_move_37 ?_
          obtain ⟨hin, h⟩ := ifn_inv h
          refine ld_84 X hP rfl hin dX10_move_40 ?_
          obtain ⟨hin, h⟩ := ifn_inv h
          refine as_61 X hP hS rfl hin dX10_move_41 (fun H locs hP hS => ?_)
          exact J42 _ _ _ _ hl hP hS h
        · rw [if_neg hc] at h
          refine u_aload_n X hl dX10_move_13 0 rfl ?_
          refine gf_X10_96_56 X hP dX10_move_14 ?_
          refine u_aload_n X hl dX10_move_17 0 rfl ?_
          refine gf_X10_407_56 X hP dX10_move_18 ?_
          refine u_aload_n X hl dX10_move_21 1 rfl ?_
          refine u_iload X hl dX10_move_22 4 rfl ?_
          obtain ⟨hin, h⟩ := ifn_inv h
          refine ld_61 X hP rfl hin dX10_move_24 ?_
          obtain ⟨hin, h⟩ := ifn_inv h
          refine as_84 X hP hS rfl hin dX10_move_25 (fun H locs hP hS => ?_)
          refine u_goto 42 X dX10_move_26 rfl ?_
          exact J42 _ _ _ _ hl hP hS h
  exact L3 LF _ _ _ _ _ (lv_sub hl [1, 2, 3, 4, 0] rfl) hP hS h
def fM_move_62_J42 (z : MS) (K3 : MS → Int32 → Option MS) (l4 : Int32) : Option MS :=
  K3 (pI z 56 49 ((gI z 56 49) + 1)) (l4 + 1)
def fM_move_62_L3 (l2 : Int32) (l3 : Int32) : Nat → MS → Int32 → Option MS
  | 0, _, _ => none
  | n + 1, z, l4 => if l2 ≤ l4 then some z else (if l3 = 0 then (if (gI z 56 49) < 0 ∨ 200 ≤ (gI z 56 49).toNatClampNeg then none else if l4 < 0 ∨ 8 ≤ l4.toNatClampNeg then none else fM_move_62_J42 (pI z 62 l4.toNatClampNeg (gI z 84 (gI z 56 49).toNatClampNeg)) (fM_move_62_L3 l2 l3 n) l4) else (if l4 < 0 ∨ 8 ≤ l4.toNatClampNeg then none else if (gI z 56 49) < 0 ∨ 200 ≤ (gI z 56 49).toNatClampNeg then none else fM_move_62_J42 (pI z 84 (gI z 56 49).toNatClampNeg (gI z 62 l4.toNatClampNeg)) (fM_move_62_L3 l2 l3 n) l4))
def fM_move_62 (z : MS) (a0 : Int32) (a1 : Int32) : Option MS :=
  fM_move_62_L3 a0 a1 LF z 0
set_option maxRecDepth 4000 in
theorem cM_move_62 (l : Launch) {z : MS} {a0 : Int32} {a1 : Int32} {z1 : MS} (h : fM_move_62 z a0 a1 = some z1) : CT l yX10_move cX10_move 5 none 0 0 (fun ad sd => [.ref (ad 56), .ref (ad 62), .int a0, .int a1]) z none z1 := by
  rw [fM_move_62] at h
  refine u_start RX10 rfl (by decide) (fun _ _ => Nat.le_of_ble_eq_true rfl) (fun p e s m args below meth c R D ad cs sd A Q ls X hP hS hl hr hret => ?_)
  have hl : lv_has ls 5 [(0, .ref (ad 56)), (1, .ref (ad 62)), (2, .int a0), (3, .int a1)] := hl
  refine u_iconst (v := 0) X dX10_move_0 rfl ?_
  refine u_istore [(4, .int 0), (0, .ref (ad 56)), (1, .ref (ad 62)), (2, .int a0), (3, .int a1)] X hl dX10_move_1 (Nat.le_of_ble_eq_true rfl) rfl (fun ls hl => ?_)
  have L3 : ∀ (n : Nat) (H : Heap) (locs : List Loc) (ls : Array Slot) (z_3 : MS) (l4_3 : Int32), lv_has ls 5 [(0, .ref (ad 56)), (1, .ref (ad 62)), (2, .int a0), (3, .int a1), (4, .int l4_3)] → va_P D clss (wld cs ad z_3) H → va_S A s.heap H locs → fM_move_62_L3 a0 a1 n z_3 l4_3 = some z1 → W p l e R s m args below meth c H locs 0 0 Q (F0 m 3 ls []) := by
    intro n
    induction n with
    | zero =>
      intro H locs ls z_3 l4_3 hl hP hS h
      rw [fM_move_62_L3] at h
      cases h
    | succ n3 ih3 =>
      intro H locs ls z_3 l4_3 hl hP hS h
      rw [fM_move_62_L3] at h
      refine u_iload X hl dX10_move_3 4 rfl ?_
      refine u_iload_n X hl dX10_move_5 2 rfl ?_
      refine u_icmp_ge 58 X dX10_move_6 rfl (fun hc => ?_) (fun hc => ?_)
      · rw [if_pos hc] at h
        exact u_vretM X hr hret h hP hS dX10_move_58
      · rw [if_neg hc] at h
        refine u_iload_n X hl dX10_move_9 3 rfl ?_
        have J42 : ∀ (H : Heap) (locs : List Loc) (ls : Array Slot) (z_42 : MS), lv_has ls 5 [(0, .ref (ad 56)), (1, .ref (ad 62)), (2, .int a0), (3, .int a1), (4, .int l4_3)] → va_P D clss (wld cs ad z_42) H → va_S A s.heap H locs → fM_move_62_J42 z_42 (fM_move_62_L3 a0 a1 n3) l4_3 = some z1 → W p l e R s m args below meth c H locs 0 0 Q (F0 m 42 ls []) := by
          intro H locs ls z_42 hl hP hS h
          rw [fM_move_62_J42] at h
          refine u_aload_n X hl dX10_move_42 0 rfl ?_
          refine u_dup X rfl dX10_move_43 ?_
          refine gf_X10_407_56 X hP dX10_move_44 ?_
          refine u_iconst (v := 1) X dX10_move_47 rfl ?_
          refine u_iadd X dX10_move_48 ?_
          refine pf_X10_407_56 X hP hS dX10_move_49 (fun H locs hP hS => ?_)
          refine u_iinc [(4, .int (l4_3 + 1)), (0, .ref (ad 56)), (1, .ref (ad 62)), (2, .int a0), (3, .int a1)] X hl dX10_move_52 4 rfl rfl (Nat.le_of_ble_eq_true rfl) rfl (fun ls hl => ?_)
          refine u_goto 3 X dX10_move_55 rfl ?_
          exact ih3 _ _ _ _ _ (lv_sub hl [1, 2, 3, 4, 0] rfl) hP hS h
        refine u_if_eq 29 X dX10_move_10 rfl (fun hc => ?_) (fun hc => ?_)
        · rw [if_pos hc] at h
          refine u_aload_n X hl dX10_move_29 1 rfl ?_
          refine u_iload X hl dX10_move_30 4 rfl ?_
          refine u_aload_n X hl dX10_move_32 0 rfl ?_
          refine gf_X10_96_56 X hP dX10_move_33 ?_
          refine u_aload_n X hl dX10_move_36 0 rfl ?_
          refine gf_X10_407_56 X hP dX10_move_37 ?_
          obtain ⟨hin, h⟩ := ifn_inv h
          refine ld_84 X hP rfl hin dX10_move_40 ?_
          obtain ⟨hin, h⟩ := ifn_inv h
          refine as_62 X hP hS rfl hin dX10_move_41 (fun H locs hP hS => ?_)
          exact J42 _ _ _ _ hl hP hS h
        · rw [if_neg hc] at h
          refine u_aload_n X hl dX10_move_13 0 rfl ?_
          refine gf_X10_96_56 X hP dX10_move_14 ?_
          refine u_aload_n X hl dX10_move_17 0 rfl ?_
          refine gf_X10_407_56 X hP dX10_move_18 ?_
          refine u_aload_n X hl dX10_move_21 1 rfl ?_
          refine u_iload X hl dX10_move_22 4 rfl ?_
          obtain ⟨hin, h⟩ := ifn_inv h
          refine ld_62 X hP rfl hin dX10_move_24 ?_
          obtain ⟨hin, h⟩ := ifn_inv h
          refine as_84 X hP hS rfl hin dX10_move_25 (fun H locs hP hS => ?_)
          refine u_goto 42 X dX10_move_26 rfl ?_
          exact J42 _ _ _ _ hl hP hS h
  exact L3 LF _ _ _ _ _ (lv_sub hl [1, 2, 3, 4, 0] rfl) hP hS h
def fM_move_64_J42 (z : MS) (K3 : MS → Int32 → Option MS) (l4 : Int32) : Option MS :=
  K3 (pI z 56 49 ((gI z 56 49) + 1)) (l4 + 1)
def fM_move_64_L3 (l2 : Int32) (l3 : Int32) : Nat → MS → Int32 → Option MS
  | 0, _, _ => none
  | n + 1, z, l4 => if l2 ≤ l4 then some z else (if l3 = 0 then (if (gI z 56 49) < 0 ∨ 200 ≤ (gI z 56 49).toNatClampNeg then none else if l4 < 0 ∨ 8 ≤ l4.toNatClampNeg then none else fM_move_64_J42 (pI z 64 l4.toNatClampNeg (gI z 84 (gI z 56 49).toNatClampNeg)) (fM_move_64_L3 l2 l3 n) l4) else (if l4 < 0 ∨ 8 ≤ l4.toNatClampNeg then none else if (gI z 56 49) < 0 ∨ 200 ≤ (gI z 56 49).toNatClampNeg then none else fM_move_64_J42 (pI z 84 (gI z 56 49).toNatClampNeg (gI z 64 l4.toNatClampNeg)) (fM_move_64_L3 l2 l3 n) l4))
def fM_move_64 (z : MS) (a0 : Int32) (a1 : Int32) : Option MS :=
  fM_move_64_L3 a0 a1 LF z 0
set_option maxRecDepth 4000 in
theorem cM_move_64 (l : Launch) {z : MS} {a0 : Int32} {a1 : Int32} {z1 : MS} (h : fM_move_64 z a0 a1 = some z1) : CT l yX10_move cX10_move 5 none 0 0 (fun ad sd => [.ref (ad 56), .ref (ad 64), .int a0, .int a1]) z none z1 := by
  rw [fM_move_64] at h
  refine u_start RX10 rfl (by decide) (fun _ _ => Nat.le_of_ble_eq_true rfl) (fun p e s m args below meth c R D ad cs sd A Q ls X hP hS hl hr hret => ?_)
  have hl : lv_has ls 5 [(0, .ref (ad 56)), (1, .ref (ad 64)), (2, .int a0), (3, .int a1)] := hl
  refine u_iconst (v := 0) X dX10_move_0 rfl ?_
  refine u_istore [(4, .int 0), (0, .ref (ad 56)), (1, .ref (ad 64)), (2, .int a0), (3, .int a1)] X hl dX10_move_1 (Nat.le_of_ble_eq_true rfl) rfl (fun ls hl => ?_)
  have L3 : ∀ (n : Nat) (H : Heap) (locs : List Loc) (ls : Array Slot) (z_3 : MS) (l4_3 : Int32), lv_has ls 5 [(0, .ref (ad 56)), (1, .ref (ad 64)), (2, .int a0), (3, .int a1), (4, .int l4_3)] → va_P D clss (wld cs ad z_3) H → va_S A s.heap H locs → fM_move_64_L3 a0 a1 n z_3 l4_3 = some z1 → W p l e R s m args below meth c H locs 0 0 Q (F0 m 3 ls []) := by
    intro n
    induction n with
    | zero =>
      intro H locs ls z_3 l4_3 hl hP hS h
      rw [fM_move_64_L3] at h
      cases h
    | succ n3 ih3 =>
      intro H locs ls z_3 l4_3 hl hP hS h
      rw [fM_move_64_L3] at h
      refine u_iload X hl dX10_move_3 4 rfl ?_
      refine u_iload_n X hl dX10_move_5 2 rfl ?_
      refine u_icmp_ge 58 X dX10_move_6 rfl (fun hc => ?_) (fun hc => ?_)
      · rw [if_pos hc] at h
        exact u_vretM X hr hret h hP hS dX10_move_58
      · rw [if_neg hc] at h
        refine u_iload_n X hl dX10_move_9 3 rfl ?_
        have J42 : ∀ (H : Heap) (locs : List Loc) (ls : Array Slot) (z_42 : MS), lv_has ls 5 [(0, .ref (ad 56)), (1, .ref (ad 64)), (2, .int a0), (3, .int a1), (4, .int l4_3)] → va_P D clss (wld cs ad z_42) H → va_S A s.heap H locs → fM_move_64_J42 z_42 (fM_move_64_L3 a0 a1 n3) l4_3 = some z1 → W p l e R s m args below meth c H locs 0 0 Q (F0 m 42 ls []) := by
          intro H locs ls z_42 hl hP hS h
          rw [fM_move_64_J42] at h
          refine u_aload_n X hl dX10_move_42 0 rfl ?_
          refine u_dup X rfl dX10_move_43 ?_
          refine gf_X10_407_56 X hP dX10_move_44 ?_
          refine u_iconst (v := 1) X dX10_move_47 rfl ?_
          refine u_iadd X dX10_move_48 ?_
          refine pf_X10_407_56 X hP hS dX10_move_49 (fun H locs hP hS => ?_)
          refine u_iinc [(4, .int (l4_3 + 1)), (0, .ref (ad 56)), (1, .ref (ad 64)), (2, .int a0), (3, .int a1)] X hl dX10_move_52 4 rfl rfl (Nat.le_of_ble_eq_true rfl) rfl (fun ls hl => ?_)
          refine u_goto 3 X dX10_move_55 rfl ?_
          exact ih3 _ _ _ _ _ (lv_sub hl [1, 2, 3, 4, 0] rfl) hP hS h
        refine u_if_eq 29 X dX10_move_10 rfl (fun hc => ?_) (fun hc => ?_)
        · rw [if_pos hc] at h
          refine u_aload_n X hl dX10_move_29 1 rfl ?_
          refine u_iload X hl dX10_move_30 4 rfl ?_
          refine u_aload_n X hl dX10_move_32 0 rfl ?_
          refine gf_X10_96_56 X hP dX10_move_33 ?_
          refine u_aload_n X hl dX10_move_36 0 rfl ?_
          refine gf_X10_407_56 X hP dX10_move_37 ?_
          obtain ⟨hin, h⟩ := ifn_inv h
          refine ld_84 X hP rfl hin dX10_move_40 ?_
          obtain ⟨hin, h⟩ := ifn_inv h
          refine as_64 X hP hS rfl hin dX10_move_41 (fun H locs hP hS => ?_)
          exact J42 _ _ _ _ hl hP hS h
        · rw [if_neg hc] at h
          refine u_aload_n X hl dX10_move_13 0 rfl ?_
          refine gf_X10_96_56 X hP dX10_move_14 ?_
          refine u_aload_n X hl dX10_move_17 0 rfl ?_
          refine gf_X10_407_56 X hP dX10_move_18 ?_
          refine u_aload_n X hl dX10_move_21 1 rfl ?_
          refine u_iload X hl dX10_move_22 4 rfl ?_
          obtain ⟨hin, h⟩ := ifn_inv h
          refine ld_64 X hP rfl hin dX10_move_24 ?_
          obtain ⟨hin, h⟩ := ifn_inv h
          refine as_84 X hP hS rfl hin dX10_move_25 (fun H locs hP hS => ?_)
          refine u_goto 42 X dX10_move_26 rfl ?_
          exact J42 _ _ _ _ hl hP hS h
  exact L3 LF _ _ _ _ _ (lv_sub hl [1, 2, 3, 4, 0] rfl) hP hS h
def fM_moveAll (z : MS) (a0 : Int32) : Option MS :=
  Option.bind (fM_move_85 (pI (pI (pI (pI (pI z 56 49 0) 85 0 (gI (pI z 56 49 0) 56 0)) 85 1 (gI (pI (pI z 56 49 0) 85 0 (gI (pI z 56 49 0) 56 0)) 56 5)) 85 2 (gI (pI (pI (pI z 56 49 0) 85 0 (gI (pI z 56 49 0) 56 0)) 85 1 (gI (pI (pI z 56 49 0) 85 0 (gI (pI z 56 49 0) 56 0)) 56 5)) 56 9)) 85 3 (gI (pI (pI (pI (pI z 56 49 0) 85 0 (gI (pI z 56 49 0) 56 0)) 85 1 (gI (pI (pI z 56 49 0) 85 0 (gI (pI z 56 49 0) 56 0)) 56 5)) 85 2 (gI (pI (pI (pI z 56 49 0) 85 0 (gI (pI z 56 49 0) 56 0)) 85 1 (gI (pI (pI z 56 49 0) 85 0 (gI (pI z 56 49 0) 56 0)) 56 5)) 56 9)) 56 11)) 4 a0) (fun zc52 => Option.bind (fM_move_57 zc52 8 a0) (fun zc63 => Option.bind (fM_move_58 zc63 8 a0) (fun zc74 => Option.bind (fM_move_59 zc74 64 a0) (fun zc85 => Option.bind (fM_move_60 zc85 40 a0) (fun zc96 => Option.bind (fM_move_61 zc96 10 a0) (fun zc107 => Option.bind (fM_move_62 zc107 8 a0) (fun zc118 => Option.bind (fM_move_64 zc118 8 a0) (fun zc129 => some zc129))))))))
set_option maxRecDepth 4000 in
theorem cM_moveAll (l : Launch) {z : MS} {a0 : Int32} {z1 : MS} (h : fM_moveAll z a0 = some z1) : CT l yX10_moveAll cX10_moveAll 2 none 1 24 (fun ad sd => [.ref (ad 56), .int a0]) z none z1 := by
  rw [fM_moveAll] at h
  refine u_start RX10 rfl (by decide) (fun _ _ => Nat.le_of_ble_eq_true rfl) (fun p e s m args below meth c R D ad cs sd A Q ls X hP hS hl hr hret => ?_)
  have hl : lv_has ls 2 [(0, .ref (ad 56)), (1, .int a0)] := hl
  refine u_aload_n X hl dX10_moveAll_0 0 rfl ?_
  refine u_iconst (v := 0) X dX10_moveAll_1 rfl ?_
  refine pf_X10_407_56 X hP hS dX10_moveAll_2 (fun H locs hP hS => ?_)
  refine u_aload_n X hl dX10_moveAll_5 0 rfl ?_
  refine gf_X10_99_56 X hP dX10_moveAll_6 ?_
  refine u_iconst (v := 0) X dX10_moveAll_9 rfl ?_
  refine u_aload_n X hl dX10_moveAll_10 0 rfl ?_
  refine gf_X10_102_56 X hP dX10_moveAll_11 ?_
  refine as_85 (w := 0) X hP hS rfl (by decide) dX10_moveAll_14 (fun H locs hP hS => ?_)
  refine u_aload_n X hl dX10_moveAll_15 0 rfl ?_
  refine gf_X10_99_56 X hP dX10_moveAll_16 ?_
  refine u_iconst (v := 1) X dX10_moveAll_19 rfl ?_
  refine u_aload_n X hl dX10_moveAll_20 0 rfl ?_
  refine gf_X10_220_56 X hP dX10_moveAll_21 ?_
  refine as_85 (w := 1) X hP hS rfl (by decide) dX10_moveAll_24 (fun H locs hP hS => ?_)
  refine u_aload_n X hl dX10_moveAll_25 0 rfl ?_
  refine gf_X10_99_56 X hP dX10_moveAll_26 ?_
  refine u_iconst (v := 2) X dX10_moveAll_29 rfl ?_
  refine u_aload_n X hl dX10_moveAll_30 0 rfl ?_
  refine gf_X10_315_56 X hP dX10_moveAll_31 ?_
  refine as_85 (w := 2) X hP hS rfl (by decide) dX10_moveAll_34 (fun H locs hP hS => ?_)
  refine u_aload_n X hl dX10_moveAll_35 0 rfl ?_
  refine gf_X10_99_56 X hP dX10_moveAll_36 ?_
  refine u_iconst (v := 3) X dX10_moveAll_39 rfl ?_
  refine u_aload_n X hl dX10_moveAll_40 0 rfl ?_
  refine gf_X10_34_56 X hP dX10_moveAll_41 ?_
  refine as_85 (w := 3) X hP hS rfl (by decide) dX10_moveAll_44 (fun H locs hP hS => ?_)
  refine u_aload_n X hl dX10_moveAll_45 0 rfl ?_
  refine u_aload_n X hl dX10_moveAll_46 0 rfl ?_
  refine gf_X10_99_56 X hP dX10_moveAll_47 ?_
  refine u_iconst (v := 4) X dX10_moveAll_50 rfl ?_
  refine u_iload_n X hl dX10_moveAll_51 1 rfl ?_
  obtain ⟨zc52, hc52, h⟩ := ob_inv h
  refine u_callVv X hP hS hl dX10_moveAll_52 (cM_move_85 l hc52) cw_X10_410 io_56 rfl rfl rfl rfl ⟨rfl, rfl⟩ (fun H locs hP hS => ?_)
  refine u_aload_n X hl dX10_moveAll_55 0 rfl ?_
  refine u_aload_n X hl dX10_moveAll_56 0 rfl ?_
  refine gf_X10_7_56 X hP dX10_moveAll_57 ?_
  refine u_bipush (v := 8) X dX10_moveAll_60 rfl ?_
  refine u_iload_n X hl dX10_moveAll_62 1 rfl ?_
  obtain ⟨zc63, hc63, h⟩ := ob_inv h
  refine u_callVv X hP hS hl dX10_moveAll_63 (cM_move_57 l hc63) cw_X10_410 io_56 rfl rfl rfl rfl ⟨rfl, rfl⟩ (fun H locs hP hS => ?_)
  refine u_aload_n X hl dX10_moveAll_66 0 rfl ?_
  refine u_aload_n X hl dX10_moveAll_67 0 rfl ?_
  refine gf_X10_13_56 X hP dX10_moveAll_68 ?_
  refine u_bipush (v := 8) X dX10_moveAll_71 rfl ?_
  refine u_iload_n X hl dX10_moveAll_73 1 rfl ?_
  obtain ⟨zc74, hc74, h⟩ := ob_inv h
  refine u_callVv X hP hS hl dX10_moveAll_74 (cM_move_58 l hc74) cw_X10_410 io_56 rfl rfl rfl rfl ⟨rfl, rfl⟩ (fun H locs hP hS => ?_)
  refine u_aload_n X hl dX10_moveAll_77 0 rfl ?_
  refine u_aload_n X hl dX10_moveAll_78 0 rfl ?_
  refine gf_X10_16_56 X hP dX10_moveAll_79 ?_
  refine u_bipush (v := 64) X dX10_moveAll_82 rfl ?_
  refine u_iload_n X hl dX10_moveAll_84 1 rfl ?_
  obtain ⟨zc85, hc85, h⟩ := ob_inv h
  refine u_callVv X hP hS hl dX10_moveAll_85 (cM_move_59 l hc85) cw_X10_410 io_56 rfl rfl rfl rfl ⟨rfl, rfl⟩ (fun H locs hP hS => ?_)
  refine u_aload_n X hl dX10_moveAll_88 0 rfl ?_
  refine u_aload_n X hl dX10_moveAll_89 0 rfl ?_
  refine gf_X10_19_56 X hP dX10_moveAll_90 ?_
  refine u_bipush (v := 40) X dX10_moveAll_93 rfl ?_
  refine u_iload_n X hl dX10_moveAll_95 1 rfl ?_
  obtain ⟨zc96, hc96, h⟩ := ob_inv h
  refine u_callVv X hP hS hl dX10_moveAll_96 (cM_move_60 l hc96) cw_X10_410 io_56 rfl rfl rfl rfl ⟨rfl, rfl⟩ (fun H locs hP hS => ?_)
  refine u_aload_n X hl dX10_moveAll_99 0 rfl ?_
  refine u_aload_n X hl dX10_moveAll_100 0 rfl ?_
  refine gf_X10_22_56 X hP dX10_moveAll_101 ?_
  refine u_bipush (v := 10) X dX10_moveAll_104 rfl ?_
  refine u_iload_n X hl dX10_moveAll_106 1 rfl ?_
  obtain ⟨zc107, hc107, h⟩ := ob_inv h
  refine u_callVv X hP hS hl dX10_moveAll_107 (cM_move_61 l hc107) cw_X10_410 io_56 rfl rfl rfl rfl ⟨rfl, rfl⟩ (fun H locs hP hS => ?_)
  refine u_aload_n X hl dX10_moveAll_110 0 rfl ?_
  refine u_aload_n X hl dX10_moveAll_111 0 rfl ?_
  refine gf_X10_25_56 X hP dX10_moveAll_112 ?_
  refine u_bipush (v := 8) X dX10_moveAll_115 rfl ?_
  refine u_iload_n X hl dX10_moveAll_117 1 rfl ?_
  obtain ⟨zc118, hc118, h⟩ := ob_inv h
  refine u_callVv X hP hS hl dX10_moveAll_118 (cM_move_62 l hc118) cw_X10_410 io_56 rfl rfl rfl rfl ⟨rfl, rfl⟩ (fun H locs hP hS => ?_)
  refine u_aload_n X hl dX10_moveAll_121 0 rfl ?_
  refine u_aload_n X hl dX10_moveAll_122 0 rfl ?_
  refine gf_X10_31_56 X hP dX10_moveAll_123 ?_
  refine u_bipush (v := 8) X dX10_moveAll_126 rfl ?_
  refine u_iload_n X hl dX10_moveAll_128 1 rfl ?_
  obtain ⟨zc129, hc129, h⟩ := ob_inv h
  refine u_callVv X hP hS hl dX10_moveAll_129 (cM_move_64 l hc129) cw_X10_410 io_56 rfl rfl rfl rfl ⟨rfl, rfl⟩ (fun H locs hP hS => ?_)
  exact u_vretM X hr hret h hP hS dX10_moveAll_132
def fM_keep (z : MS) : Option (Int32 × MS) :=
  Option.bind (fM_moveAll z 1) (fun zc2 => some (1, pI zc2 56 47 1))
set_option maxRecDepth 4000 in
theorem cM_keep (l : Launch) {z : MS} {r : Int32} {z1 : MS} (h : fM_keep z = some (r, z1)) : CT l yX10_keep cX10_keep 1 (some .int) 2 45 (fun ad sd => [.ref (ad 56)]) z (some (.int r)) z1 := by
  rw [fM_keep] at h
  refine u_start RX10 rfl (by decide) (fun _ _ => Nat.le_of_ble_eq_true rfl) (fun p e s m args below meth c R D ad cs sd A Q ls X hP hS hl hr hret => ?_)
  have hl : lv_has ls 1 [(0, .ref (ad 56))] := hl
  refine u_aload_n X hl dX10_keep_0 0 rfl ?_
  refine u_iconst (v := 1) X dX10_keep_1 rfl ?_
  obtain ⟨zc2, hc2, h⟩ := ob_inv h
  refine u_callVv X hP hS hl dX10_keep_2 (cM_moveAll l hc2) cw_X10_414 io_56 rfl rfl rfl rfl ⟨rfl, rfl⟩ (fun H locs hP hS => ?_)
  refine u_aload_n X hl dX10_keep_5 0 rfl ?_
  refine u_iconst (v := 1) X dX10_keep_6 rfl ?_
  refine pf_X10_417_56 X hP hS (Or.inr rfl) dX10_keep_7 (fun H locs hP hS => ?_)
  refine u_iconst (v := 1) X dX10_keep_10 rfl ?_
  exact u_iretM X hr hret h hP hS dX10_keep_11
def fM_again (z : MS) : Option (Int32 × MS) :=
  if (gI z 56 47) = 0 then some ((-3), z) else Option.bind (fM_moveAll z 0) (fun zc12 => some (gI (pI (pI (pI (pI zc12 56 0 (gI zc12 85 0)) 56 5 (gI (pI zc12 56 0 (gI zc12 85 0)) 85 1)) 56 9 (gI (pI (pI zc12 56 0 (gI zc12 85 0)) 56 5 (gI (pI zc12 56 0 (gI zc12 85 0)) 85 1)) 85 2)) 56 11 (gI (pI (pI (pI zc12 56 0 (gI zc12 85 0)) 56 5 (gI (pI zc12 56 0 (gI zc12 85 0)) 85 1)) 56 9 (gI (pI (pI zc12 56 0 (gI zc12 85 0)) 56 5 (gI (pI zc12 56 0 (gI zc12 85 0)) 85 1)) 85 2)) 85 3)) 56 0, pI (pI (pI (pI zc12 56 0 (gI zc12 85 0)) 56 5 (gI (pI zc12 56 0 (gI zc12 85 0)) 85 1)) 56 9 (gI (pI (pI zc12 56 0 (gI zc12 85 0)) 56 5 (gI (pI zc12 56 0 (gI zc12 85 0)) 85 1)) 85 2)) 56 11 (gI (pI (pI (pI zc12 56 0 (gI zc12 85 0)) 56 5 (gI (pI zc12 56 0 (gI zc12 85 0)) 85 1)) 56 9 (gI (pI (pI zc12 56 0 (gI zc12 85 0)) 56 5 (gI (pI zc12 56 0 (gI zc12 85 0)) 85 1)) 85 2)) 85 3)))
set_option maxRecDepth 4000 in
theorem cM_again (l : Launch) {z : MS} {r : Int32} {z1 : MS} (h : fM_again z = some (r, z1)) : CT l yX10_again cX10_again 1 (some .int) 2 45 (fun ad sd => [.ref (ad 56)]) z (some (.int r)) z1 := by
  rw [fM_again] at h
  refine u_start RX10 rfl (by decide) (fun _ _ => Nat.le_of_ble_eq_true rfl) (fun p e s m args below meth c R D ad cs sd A Q ls X hP hS hl hr hret => ?_)
  have hl : lv_has ls 1 [(0, .ref (ad 56))] := hl
  refine u_aload_n X hl dX10_again_0 0 rfl ?_
  refine gf_X10_417_56 X hP dX10_again_1 ?_
  refine u_if_ne 10 X dX10_again_4 rfl (fun hc => ?_) (fun hc => ?_)
  · rw [if_neg hc] at h
    refine u_aload_n X hl dX10_again_10 0 rfl ?_
    refine u_iconst (v := 0) X dX10_again_11 rfl ?_
    obtain ⟨zc12, hc12, h⟩ := ob_inv h
    refine u_callVv X hP hS hl dX10_again_12 (cM_moveAll l hc12) cw_X10_414 io_56 rfl rfl rfl rfl ⟨rfl, rfl⟩ (fun H locs hP hS => ?_)
    refine u_aload_n X hl dX10_again_15 0 rfl ?_
    refine u_aload_n X hl dX10_again_16 0 rfl ?_
    refine gf_X10_99_56 X hP dX10_again_17 ?_
    refine u_iconst (v := 0) X dX10_again_20 rfl ?_
    refine ld_85 (w := 0) X hP rfl (by decide) dX10_again_21 ?_
    refine pf_X10_102_56 X hP hS dX10_again_22 (fun H locs hP hS => ?_)
    refine u_aload_n X hl dX10_again_25 0 rfl ?_
    refine u_aload_n X hl dX10_again_26 0 rfl ?_
    refine gf_X10_99_56 X hP dX10_again_27 ?_
    refine u_iconst (v := 1) X dX10_again_30 rfl ?_
    refine ld_85 (w := 1) X hP rfl (by decide) dX10_again_31 ?_
    refine pf_X10_220_56 X hP hS dX10_again_32 (fun H locs hP hS => ?_)
    refine u_aload_n X hl dX10_again_35 0 rfl ?_
    refine u_aload_n X hl dX10_again_36 0 rfl ?_
    refine gf_X10_99_56 X hP dX10_again_37 ?_
    refine u_iconst (v := 2) X dX10_again_40 rfl ?_
    refine ld_85 (w := 2) X hP rfl (by decide) dX10_again_41 ?_
    refine pf_X10_315_56 X hP hS dX10_again_42 (fun H locs hP hS => ?_)
    refine u_aload_n X hl dX10_again_45 0 rfl ?_
    refine u_aload_n X hl dX10_again_46 0 rfl ?_
    refine gf_X10_99_56 X hP dX10_again_47 ?_
    refine u_iconst (v := 3) X dX10_again_50 rfl ?_
    refine ld_85 (w := 3) X hP rfl (by decide) dX10_again_51 ?_
    refine pf_X10_34_56 X hP hS dX10_again_52 (fun H locs hP hS => ?_)
    refine u_aload_n X hl dX10_again_55 0 rfl ?_
    refine gf_X10_102_56 X hP dX10_again_56 ?_
    exact u_iretM X hr hret h hP hS dX10_again_59
  · rw [if_pos hc] at h
    refine u_bipush (v := (-3)) X dX10_again_7 rfl ?_
    exact u_iretM X hr hret h hP hS dX10_again_9
