theorem dX10_in_0 : decode cX10_in 0 = .ok (.iload_n 0, 1) := by decide +kernel
theorem dX10_in_1 : decode cX10_in 1 = .ok (.iload_n 1, 1) := by decide +kernel
theorem dX10_in_2 : decode cX10_in 2 = .ok (.if_icmp .lt 12, 3) := by decide +kernel
theorem dX10_in_5 : decode cX10_in 5 = .ok (.iload_n 0, 1) := by decide +kernel
theorem dX10_in_6 : decode cX10_in 6 = .ok (.iload_n 2, 1) := by decide +kernel
theorem dX10_in_7 : decode cX10_in 7 = .ok (.if_icmp .gt 7, 3) := by decide +kernel
theorem dX10_in_10 : decode cX10_in 10 = .ok (.iconst 1, 1) := by decide +kernel
theorem dX10_in_11 : decode cX10_in 11 = .ok (.goto 4, 3) := by decide +kernel
theorem dX10_in_14 : decode cX10_in 14 = .ok (.iconst 0, 1) := by decide +kernel
theorem dX10_in_15 : decode cX10_in 15 = .ok (.ireturn, 1) := by decide +kernel
theorem dX10_isPerson_0 : decode cX10_isPerson 0 = .ok (.iload_n 1, 1) := by decide +kernel
theorem dX10_isPerson_1 : decode cX10_isPerson 1 = .ok (.iconst 0, 1) := by decide +kernel
theorem dX10_isPerson_2 : decode cX10_isPerson 2 = .ok (.aload_n 0, 1) := by decide +kernel
theorem dX10_isPerson_3 : decode cX10_isPerson 3 = .ok (.getfield 102, 3) := by decide +kernel
theorem dX10_isPerson_6 : decode cX10_isPerson 6 = .ok (.iconst 1, 1) := by decide +kernel
theorem dX10_isPerson_7 : decode cX10_isPerson 7 = .ok (.isub, 1) := by decide +kernel
theorem dX10_isPerson_8 : decode cX10_isPerson 8 = .ok (.invokestatic 105, 3) := by decide +kernel
theorem dX10_isPerson_11 : decode cX10_isPerson 11 = .ok (.ireturn, 1) := by decide +kernel
theorem dX10_areTwo_0 : decode cX10_areTwo 0 = .ok (.aload_n 0, 1) := by decide +kernel
theorem dX10_areTwo_1 : decode cX10_areTwo 1 = .ok (.iload_n 1, 1) := by decide +kernel
theorem dX10_areTwo_2 : decode cX10_areTwo 2 = .ok (.invokevirtual 109, 3) := by decide +kernel
theorem dX10_areTwo_5 : decode cX10_areTwo 5 = .ok (.ifCond .eq 20, 3) := by decide +kernel
theorem dX10_areTwo_8 : decode cX10_areTwo 8 = .ok (.aload_n 0, 1) := by decide +kernel
theorem dX10_areTwo_9 : decode cX10_areTwo 9 = .ok (.iload_n 2, 1) := by decide +kernel
theorem dX10_areTwo_10 : decode cX10_areTwo 10 = .ok (.invokevirtual 109, 3) := by decide +kernel
theorem dX10_areTwo_13 : decode cX10_areTwo 13 = .ok (.ifCond .eq 12, 3) := by decide +kernel
theorem dX10_areTwo_16 : decode cX10_areTwo 16 = .ok (.iload_n 1, 1) := by decide +kernel
theorem dX10_areTwo_17 : decode cX10_areTwo 17 = .ok (.iload_n 2, 1) := by decide +kernel
theorem dX10_areTwo_18 : decode cX10_areTwo 18 = .ok (.if_icmp .eq 7, 3) := by decide +kernel
theorem dX10_areTwo_21 : decode cX10_areTwo 21 = .ok (.iconst 1, 1) := by decide +kernel
theorem dX10_areTwo_22 : decode cX10_areTwo 22 = .ok (.goto 4, 3) := by decide +kernel
theorem dX10_areTwo_25 : decode cX10_areTwo 25 = .ok (.iconst 0, 1) := by decide +kernel
theorem dX10_areTwo_26 : decode cX10_areTwo 26 = .ok (.ireturn, 1) := by decide +kernel
theorem dX10_isDay_0 : decode cX10_isDay 0 = .ok (.iload_n 0, 1) := by decide +kernel
theorem dX10_isDay_1 : decode cX10_isDay 1 = .ok (.iconst 0, 1) := by decide +kernel
theorem dX10_isDay_2 : decode cX10_isDay 2 = .ok (.bipush 9, 2) := by decide +kernel
theorem dX10_isDay_4 : decode cX10_isDay 4 = .ok (.invokestatic 105, 3) := by decide +kernel
theorem dX10_isDay_7 : decode cX10_isDay 7 = .ok (.ireturn, 1) := by decide +kernel
theorem dX10_isPost_0 : decode cX10_isPost 0 = .ok (.iload_n 0, 1) := by decide +kernel
theorem dX10_isPost_1 : decode cX10_isPost 1 = .ok (.iconst 0, 1) := by decide +kernel
theorem dX10_isPost_2 : decode cX10_isPost 2 = .ok (.iconst 3, 1) := by decide +kernel
theorem dX10_isPost_3 : decode cX10_isPost 3 = .ok (.invokestatic 105, 3) := by decide +kernel
theorem dX10_isPost_6 : decode cX10_isPost 6 = .ok (.ireturn, 1) := by decide +kernel
theorem dX10_isSide_0 : decode cX10_isSide 0 = .ok (.iload_n 0, 1) := by decide +kernel
theorem dX10_isSide_1 : decode cX10_isSide 1 = .ok (.iconst 0, 1) := by decide +kernel
theorem dX10_isSide_2 : decode cX10_isSide 2 = .ok (.iconst 1, 1) := by decide +kernel
theorem dX10_isSide_3 : decode cX10_isSide 3 = .ok (.invokestatic 105, 3) := by decide +kernel
theorem dX10_isSide_6 : decode cX10_isSide 6 = .ok (.ireturn, 1) := by decide +kernel
theorem dX10_areKin_0 : decode cX10_areKin 0 = .ok (.aload_n 0, 1) := by decide +kernel
theorem dX10_areKin_1 : decode cX10_areKin 1 = .ok (.getfield 7, 3) := by decide +kernel
theorem dX10_areKin_4 : decode cX10_areKin 4 = .ok (.iload_n 1, 1) := by decide +kernel
theorem dX10_areKin_5 : decode cX10_areKin 5 = .ok (.iaload, 1) := by decide +kernel
theorem dX10_areKin_6 : decode cX10_areKin 6 = .ok (.iload_n 2, 1) := by decide +kernel
theorem dX10_areKin_7 : decode cX10_areKin 7 = .ok (.ishr, 1) := by decide +kernel
theorem dX10_areKin_8 : decode cX10_areKin 8 = .ok (.iconst 1, 1) := by decide +kernel
theorem dX10_areKin_9 : decode cX10_areKin 9 = .ok (.iand, 1) := by decide +kernel
theorem dX10_areKin_10 : decode cX10_areKin 10 = .ok (.iconst 1, 1) := by decide +kernel
theorem dX10_areKin_11 : decode cX10_areKin 11 = .ok (.if_icmp .ne 7, 3) := by decide +kernel
theorem dX10_areKin_14 : decode cX10_areKin 14 = .ok (.iconst 1, 1) := by decide +kernel
theorem dX10_areKin_15 : decode cX10_areKin 15 = .ok (.goto 4, 3) := by decide +kernel
theorem dX10_areKin_18 : decode cX10_areKin 18 = .ok (.iconst 0, 1) := by decide +kernel
theorem dX10_areKin_19 : decode cX10_areKin 19 = .ok (.ireturn, 1) := by decide +kernel
theorem dX10_isAway_0 : decode cX10_isAway 0 = .ok (.aload_n 0, 1) := by decide +kernel
theorem dX10_isAway_1 : decode cX10_isAway 1 = .ok (.getfield 13, 3) := by decide +kernel
theorem dX10_isAway_4 : decode cX10_isAway 4 = .ok (.iload_n 1, 1) := by decide +kernel
theorem dX10_isAway_5 : decode cX10_isAway 5 = .ok (.iaload, 1) := by decide +kernel
theorem dX10_isAway_6 : decode cX10_isAway 6 = .ok (.iload_n 2, 1) := by decide +kernel
theorem dX10_isAway_7 : decode cX10_isAway 7 = .ok (.ishr, 1) := by decide +kernel
theorem dX10_isAway_8 : decode cX10_isAway 8 = .ok (.iconst 1, 1) := by decide +kernel
theorem dX10_isAway_9 : decode cX10_isAway 9 = .ok (.iand, 1) := by decide +kernel
theorem dX10_isAway_10 : decode cX10_isAway 10 = .ok (.iconst 1, 1) := by decide +kernel
theorem dX10_isAway_11 : decode cX10_isAway 11 = .ok (.if_icmp .ne 7, 3) := by decide +kernel
theorem dX10_isAway_14 : decode cX10_isAway 14 = .ok (.iconst 1, 1) := by decide +kernel
theorem dX10_isAway_15 : decode cX10_isAway 15 = .ok (.goto 4, 3) := by decide +kernel
theorem dX10_isAway_18 : decode cX10_isAway 18 = .ok (.iconst 0, 1) := by decide +kernel
theorem dX10_isAway_19 : decode cX10_isAway 19 = .ok (.ireturn, 1) := by decide +kernel
theorem dX10_feed_0 : decode cX10_feed 0 = .ok (.iload_n 3, 1) := by decide +kernel
theorem dX10_feed_1 : decode cX10_feed 1 = .ok (.iconst 1, 1) := by decide +kernel
theorem dX10_feed_2 : decode cX10_feed 2 = .ok (.bipush 8, 2) := by decide +kernel
theorem dX10_feed_4 : decode cX10_feed 4 = .ok (.invokestatic 105, 3) := by decide +kernel
theorem dX10_feed_7 : decode cX10_feed 7 = .ok (.ifCond .ne 5, 3) := by decide +kernel
theorem dX10_feed_10 : decode cX10_feed 10 = .ok (.iconst (-1), 1) := by decide +kernel
theorem dX10_feed_11 : decode cX10_feed 11 = .ok (.ireturn, 1) := by decide +kernel
theorem dX10_feed_12 : decode cX10_feed 12 = .ok (.aload_n 0, 1) := by decide +kernel
theorem dX10_feed_13 : decode cX10_feed 13 = .ok (.getfield 113, 3) := by decide +kernel
theorem dX10_feed_16 : decode cX10_feed 16 = .ok (.iload_n 3, 1) := by decide +kernel
theorem dX10_feed_17 : decode cX10_feed 17 = .ok (.iadd, 1) := by decide +kernel
theorem dX10_feed_18 : decode cX10_feed 18 = .ok (.sipush 200, 3) := by decide +kernel
theorem dX10_feed_21 : decode cX10_feed 21 = .ok (.if_icmp .le 6, 3) := by decide +kernel
theorem dX10_feed_24 : decode cX10_feed 24 = .ok (.bipush (-2), 2) := by decide +kernel
theorem dX10_feed_26 : decode cX10_feed 26 = .ok (.ireturn, 1) := by decide +kernel
theorem dX10_feed_27 : decode cX10_feed 27 = .ok (.iconst 0, 1) := by decide +kernel
theorem dX10_feed_28 : decode cX10_feed 28 = .ok (.istore 4, 2) := by decide +kernel
theorem dX10_feed_30 : decode cX10_feed 30 = .ok (.iload 4, 2) := by decide +kernel
theorem dX10_feed_32 : decode cX10_feed 32 = .ok (.iload_n 3, 1) := by decide +kernel
theorem dX10_feed_33 : decode cX10_feed 33 = .ok (.if_icmp .ge 40, 3) := by decide +kernel
theorem dX10_feed_36 : decode cX10_feed 36 = .ok (.aload_n 0, 1) := by decide +kernel
theorem dX10_feed_37 : decode cX10_feed 37 = .ok (.getfield 38, 3) := by decide +kernel
theorem dX10_feed_40 : decode cX10_feed 40 = .ok (.aload_n 0, 1) := by decide +kernel
theorem dX10_feed_41 : decode cX10_feed 41 = .ok (.getfield 113, 3) := by decide +kernel
theorem dX10_feed_44 : decode cX10_feed 44 = .ok (.lload_n 1, 1) := by decide +kernel
theorem dX10_feed_45 : decode cX10_feed 45 = .ok (.bipush 8, 2) := by decide +kernel
theorem dX10_feed_47 : decode cX10_feed 47 = .ok (.iload 4, 2) := by decide +kernel
theorem dX10_feed_49 : decode cX10_feed 49 = .ok (.imul, 1) := by decide +kernel
theorem dX10_feed_50 : decode cX10_feed 50 = .ok (.lshr, 1) := by decide +kernel
theorem dX10_feed_51 : decode cX10_feed 51 = .ok (.ldc2_w 116, 3) := by decide +kernel
theorem dX10_feed_54 : decode cX10_feed 54 = .ok (.land, 1) := by decide +kernel
theorem dX10_feed_55 : decode cX10_feed 55 = .ok (.l2i, 1) := by decide +kernel
theorem dX10_feed_56 : decode cX10_feed 56 = .ok (.iastore, 1) := by decide +kernel
theorem dX10_feed_57 : decode cX10_feed 57 = .ok (.aload_n 0, 1) := by decide +kernel
theorem dX10_feed_58 : decode cX10_feed 58 = .ok (.dup, 1) := by decide +kernel
theorem dX10_feed_59 : decode cX10_feed 59 = .ok (.getfield 113, 3) := by decide +kernel
theorem dX10_feed_62 : decode cX10_feed 62 = .ok (.iconst 1, 1) := by decide +kernel
theorem dX10_feed_63 : decode cX10_feed 63 = .ok (.iadd, 1) := by decide +kernel
theorem dX10_feed_64 : decode cX10_feed 64 = .ok (.putfield 113, 3) := by decide +kernel
theorem dX10_feed_67 : decode cX10_feed 67 = .ok (.iinc 4 1, 3) := by decide +kernel
theorem dX10_feed_70 : decode cX10_feed 70 = .ok (.goto (-40), 3) := by decide +kernel
theorem dX10_feed_73 : decode cX10_feed 73 = .ok (.aload_n 0, 1) := by decide +kernel
theorem dX10_feed_74 : decode cX10_feed 74 = .ok (.getfield 113, 3) := by decide +kernel
theorem dX10_feed_77 : decode cX10_feed 77 = .ok (.ireturn, 1) := by decide +kernel
theorem dX10_byteAt_0 : decode cX10_byteAt 0 = .ok (.iload_n 1, 1) := by decide +kernel
theorem dX10_byteAt_1 : decode cX10_byteAt 1 = .ok (.aload_n 0, 1) := by decide +kernel
theorem dX10_byteAt_2 : decode cX10_byteAt 2 = .ok (.getfield 113, 3) := by decide +kernel
theorem dX10_byteAt_5 : decode cX10_byteAt 5 = .ok (.if_icmp .ge 12, 3) := by decide +kernel
theorem dX10_byteAt_8 : decode cX10_byteAt 8 = .ok (.aload_n 0, 1) := by decide +kernel
theorem dX10_byteAt_9 : decode cX10_byteAt 9 = .ok (.getfield 38, 3) := by decide +kernel
theorem dX10_byteAt_12 : decode cX10_byteAt 12 = .ok (.iload_n 1, 1) := by decide +kernel
theorem dX10_byteAt_13 : decode cX10_byteAt 13 = .ok (.iaload, 1) := by decide +kernel
theorem dX10_byteAt_14 : decode cX10_byteAt 14 = .ok (.goto 4, 3) := by decide +kernel
theorem dX10_byteAt_17 : decode cX10_byteAt 17 = .ok (.iconst (-1), 1) := by decide +kernel
theorem dX10_byteAt_18 : decode cX10_byteAt 18 = .ok (.ireturn, 1) := by decide +kernel
theorem dX10_isLetter_0 : decode cX10_isLetter 0 = .ok (.iload_n 0, 1) := by decide +kernel
theorem dX10_isLetter_1 : decode cX10_isLetter 1 = .ok (.bipush 97, 2) := by decide +kernel
theorem dX10_isLetter_3 : decode cX10_isLetter 3 = .ok (.bipush 122, 2) := by decide +kernel
theorem dX10_isLetter_5 : decode cX10_isLetter 5 = .ok (.invokestatic 105, 3) := by decide +kernel
theorem dX10_isLetter_8 : decode cX10_isLetter 8 = .ok (.ireturn, 1) := by decide +kernel
theorem dX10_isDigit_0 : decode cX10_isDigit 0 = .ok (.iload_n 0, 1) := by decide +kernel
theorem dX10_isDigit_1 : decode cX10_isDigit 1 = .ok (.bipush 48, 2) := by decide +kernel
theorem dX10_isDigit_3 : decode cX10_isDigit 3 = .ok (.bipush 57, 2) := by decide +kernel
theorem dX10_isDigit_5 : decode cX10_isDigit 5 = .ok (.invokestatic 105, 3) := by decide +kernel
theorem dX10_isDigit_8 : decode cX10_isDigit 8 = .ok (.ireturn, 1) := by decide +kernel
theorem dX10_advance_0 : decode cX10_advance 0 = .ok (.aload_n 0, 1) := by decide +kernel
theorem dX10_advance_1 : decode cX10_advance 1 = .ok (.aload_n 0, 1) := by decide +kernel
theorem dX10_advance_2 : decode cX10_advance 2 = .ok (.getfield 118, 3) := by decide +kernel
theorem dX10_advance_5 : decode cX10_advance 5 = .ok (.putfield 121, 3) := by decide +kernel
theorem dX10_advance_8 : decode cX10_advance 8 = .ok (.aload_n 0, 1) := by decide +kernel
theorem dX10_advance_9 : decode cX10_advance 9 = .ok (.aload_n 0, 1) := by decide +kernel
theorem dX10_advance_10 : decode cX10_advance 10 = .ok (.getfield 121, 3) := by decide +kernel
theorem dX10_advance_13 : decode cX10_advance 13 = .ok (.invokevirtual 124, 3) := by decide +kernel
theorem dX10_advance_16 : decode cX10_advance 16 = .ok (.bipush 32, 2) := by decide +kernel
theorem dX10_advance_18 : decode cX10_advance 18 = .ok (.if_icmp .ne 16, 3) := by decide +kernel
theorem dX10_advance_21 : decode cX10_advance 21 = .ok (.aload_n 0, 1) := by decide +kernel
theorem dX10_advance_22 : decode cX10_advance 22 = .ok (.dup, 1) := by decide +kernel
theorem dX10_advance_23 : decode cX10_advance 23 = .ok (.getfield 121, 3) := by decide +kernel
theorem dX10_advance_26 : decode cX10_advance 26 = .ok (.iconst 1, 1) := by decide +kernel
theorem dX10_advance_27 : decode cX10_advance 27 = .ok (.iadd, 1) := by decide +kernel
theorem dX10_advance_28 : decode cX10_advance 28 = .ok (.putfield 121, 3) := by decide +kernel
theorem dX10_advance_31 : decode cX10_advance 31 = .ok (.goto (-23), 3) := by decide +kernel
theorem dX10_advance_34 : decode cX10_advance 34 = .ok (.aload_n 0, 1) := by decide +kernel
theorem dX10_advance_35 : decode cX10_advance 35 = .ok (.aload_n 0, 1) := by decide +kernel
theorem dX10_advance_36 : decode cX10_advance 36 = .ok (.getfield 121, 3) := by decide +kernel
theorem dX10_advance_39 : decode cX10_advance 39 = .ok (.putfield 118, 3) := by decide +kernel
theorem dX10_advance_42 : decode cX10_advance 42 = .ok (.aload_n 0, 1) := by decide +kernel
theorem dX10_advance_43 : decode cX10_advance 43 = .ok (.aload_n 0, 1) := by decide +kernel
theorem dX10_advance_44 : decode cX10_advance 44 = .ok (.getfield 121, 3) := by decide +kernel
theorem dX10_advance_47 : decode cX10_advance 47 = .ok (.invokevirtual 124, 3) := by decide +kernel
theorem dX10_advance_50 : decode cX10_advance 50 = .ok (.istore_n 1, 1) := by decide +kernel
theorem dX10_advance_51 : decode cX10_advance 51 = .ok (.aload_n 0, 1) := by decide +kernel
theorem dX10_advance_52 : decode cX10_advance 52 = .ok (.iload_n 1, 1) := by decide +kernel
theorem dX10_advance_53 : decode cX10_advance 53 = .ok (.ifCond .ge 7, 3) := by decide +kernel
theorem dX10_advance_56 : decode cX10_advance 56 = .ok (.iconst 0, 1) := by decide +kernel
theorem dX10_advance_57 : decode cX10_advance 57 = .ok (.goto 26, 3) := by decide +kernel
theorem dX10_advance_60 : decode cX10_advance 60 = .ok (.iload_n 1, 1) := by decide +kernel
theorem dX10_advance_61 : decode cX10_advance 61 = .ok (.invokestatic 128, 3) := by decide +kernel
theorem dX10_advance_64 : decode cX10_advance 64 = .ok (.ifCond .eq 7, 3) := by decide +kernel
theorem dX10_advance_67 : decode cX10_advance 67 = .ok (.iconst 1, 1) := by decide +kernel
theorem dX10_advance_68 : decode cX10_advance 68 = .ok (.goto 15, 3) := by decide +kernel
theorem dX10_advance_71 : decode cX10_advance 71 = .ok (.iload_n 1, 1) := by decide +kernel
theorem dX10_advance_72 : decode cX10_advance 72 = .ok (.invokestatic 131, 3) := by decide +kernel
theorem dX10_advance_75 : decode cX10_advance 75 = .ok (.ifCond .eq 7, 3) := by decide +kernel
theorem dX10_advance_78 : decode cX10_advance 78 = .ok (.iconst 2, 1) := by decide +kernel
theorem dX10_advance_79 : decode cX10_advance 79 = .ok (.goto 4, 3) := by decide +kernel
theorem dX10_advance_82 : decode cX10_advance 82 = .ok (.iconst 3, 1) := by decide +kernel
theorem dX10_advance_83 : decode cX10_advance 83 = .ok (.putfield 134, 3) := by decide +kernel
theorem dX10_advance_86 : decode cX10_advance 86 = .ok (.aload_n 0, 1) := by decide +kernel
theorem dX10_advance_87 : decode cX10_advance 87 = .ok (.lconst 0, 1) := by decide +kernel
theorem dX10_advance_88 : decode cX10_advance 88 = .ok (.putfield 137, 3) := by decide +kernel
theorem dX10_advance_91 : decode cX10_advance 91 = .ok (.aload_n 0, 1) := by decide +kernel
theorem dX10_advance_92 : decode cX10_advance 92 = .ok (.aload_n 0, 1) := by decide +kernel
theorem dX10_advance_93 : decode cX10_advance 93 = .ok (.getfield 134, 3) := by decide +kernel
theorem dX10_advance_96 : decode cX10_advance 96 = .ok (.iconst 2, 1) := by decide +kernel
theorem dX10_advance_97 : decode cX10_advance 97 = .ok (.if_icmp .ne 7, 3) := by decide +kernel
theorem dX10_advance_100 : decode cX10_advance 100 = .ok (.iconst 0, 1) := by decide +kernel
theorem dX10_advance_101 : decode cX10_advance 101 = .ok (.goto 4, 3) := by decide +kernel
theorem dX10_advance_104 : decode cX10_advance 104 = .ok (.iload_n 1, 1) := by decide +kernel
theorem dX10_advance_105 : decode cX10_advance 105 = .ok (.putfield 141, 3) := by decide +kernel
theorem dX10_advance_108 : decode cX10_advance 108 = .ok (.aload_n 0, 1) := by decide +kernel
theorem dX10_advance_109 : decode cX10_advance 109 = .ok (.getfield 134, 3) := by decide +kernel
theorem dX10_advance_112 : decode cX10_advance 112 = .ok (.iconst 3, 1) := by decide +kernel
theorem dX10_advance_113 : decode cX10_advance 113 = .ok (.if_icmp .ne 13, 3) := by decide +kernel
theorem dX10_advance_116 : decode cX10_advance 116 = .ok (.aload_n 0, 1) := by decide +kernel
theorem dX10_advance_117 : decode cX10_advance 117 = .ok (.dup, 1) := by decide +kernel
theorem dX10_advance_118 : decode cX10_advance 118 = .ok (.getfield 118, 3) := by decide +kernel
theorem dX10_advance_121 : decode cX10_advance 121 = .ok (.iconst 1, 1) := by decide +kernel
theorem dX10_advance_122 : decode cX10_advance 122 = .ok (.iadd, 1) := by decide +kernel
theorem dX10_advance_123 : decode cX10_advance 123 = .ok (.putfield 118, 3) := by decide +kernel
theorem dX10_advance_126 : decode cX10_advance 126 = .ok (.aload_n 0, 1) := by decide +kernel
theorem dX10_advance_127 : decode cX10_advance 127 = .ok (.getfield 134, 3) := by decide +kernel
theorem dX10_advance_130 : decode cX10_advance 130 = .ok (.iconst 1, 1) := by decide +kernel
theorem dX10_advance_131 : decode cX10_advance 131 = .ok (.if_icmp .ne 76, 3) := by decide +kernel
theorem dX10_advance_134 : decode cX10_advance 134 = .ok (.aload_n 0, 1) := by decide +kernel
theorem dX10_advance_135 : decode cX10_advance 135 = .ok (.aload_n 0, 1) := by decide +kernel
theorem dX10_advance_136 : decode cX10_advance 136 = .ok (.getfield 118, 3) := by decide +kernel
theorem dX10_advance_139 : decode cX10_advance 139 = .ok (.invokevirtual 124, 3) := by decide +kernel
theorem dX10_advance_142 : decode cX10_advance 142 = .ok (.invokestatic 128, 3) := by decide +kernel
theorem dX10_advance_145 : decode cX10_advance 145 = .ok (.ifCond .eq 62, 3) := by decide +kernel
theorem dX10_advance_148 : decode cX10_advance 148 = .ok (.aload_n 0, 1) := by decide +kernel
theorem dX10_advance_149 : decode cX10_advance 149 = .ok (.aload_n 0, 1) := by decide +kernel
theorem dX10_advance_150 : decode cX10_advance 150 = .ok (.getfield 118, 3) := by decide +kernel
theorem dX10_advance_153 : decode cX10_advance 153 = .ok (.aload_n 0, 1) := by decide +kernel
theorem dX10_advance_154 : decode cX10_advance 154 = .ok (.getfield 121, 3) := by decide +kernel
theorem dX10_advance_157 : decode cX10_advance 157 = .ok (.isub, 1) := by decide +kernel
theorem dX10_advance_158 : decode cX10_advance 158 = .ok (.bipush 8, 2) := by decide +kernel
theorem dX10_advance_160 : decode cX10_advance 160 = .ok (.if_icmp .ge 28, 3) := by decide +kernel
theorem dX10_advance_163 : decode cX10_advance 163 = .ok (.ldc2_w 144, 3) := by decide +kernel
theorem dX10_advance_166 : decode cX10_advance 166 = .ok (.aload_n 0, 1) := by decide +kernel
theorem dX10_advance_167 : decode cX10_advance 167 = .ok (.getfield 137, 3) := by decide +kernel
theorem dX10_advance_170 : decode cX10_advance 170 = .ok (.lmul, 1) := by decide +kernel
theorem dX10_advance_171 : decode cX10_advance 171 = .ok (.aload_n 0, 1) := by decide +kernel
theorem dX10_advance_172 : decode cX10_advance 172 = .ok (.aload_n 0, 1) := by decide +kernel
theorem dX10_advance_173 : decode cX10_advance 173 = .ok (.getfield 118, 3) := by decide +kernel
theorem dX10_advance_176 : decode cX10_advance 176 = .ok (.invokevirtual 124, 3) := by decide +kernel
theorem dX10_advance_179 : decode cX10_advance 179 = .ok (.i2l, 1) := by decide +kernel
theorem dX10_advance_180 : decode cX10_advance 180 = .ok (.ladd, 1) := by decide +kernel
theorem dX10_advance_181 : decode cX10_advance 181 = .ok (.ldc2_w 146, 3) := by decide +kernel
theorem dX10_advance_184 : decode cX10_advance 184 = .ok (.lsub, 1) := by decide +kernel
theorem dX10_advance_185 : decode cX10_advance 185 = .ok (.goto 6, 3) := by decide +kernel
theorem dX10_advance_188 : decode cX10_advance 188 = .ok (.ldc2_w 148, 3) := by decide +kernel
theorem dX10_advance_191 : decode cX10_advance 191 = .ok (.putfield 137, 3) := by decide +kernel
theorem dX10_advance_194 : decode cX10_advance 194 = .ok (.aload_n 0, 1) := by decide +kernel
theorem dX10_advance_195 : decode cX10_advance 195 = .ok (.dup, 1) := by decide +kernel
theorem dX10_advance_196 : decode cX10_advance 196 = .ok (.getfield 118, 3) := by decide +kernel
theorem dX10_advance_199 : decode cX10_advance 199 = .ok (.iconst 1, 1) := by decide +kernel
theorem dX10_advance_200 : decode cX10_advance 200 = .ok (.iadd, 1) := by decide +kernel
theorem dX10_advance_201 : decode cX10_advance 201 = .ok (.putfield 118, 3) := by decide +kernel
theorem dX10_advance_204 : decode cX10_advance 204 = .ok (.goto (-78), 3) := by decide +kernel
theorem dX10_advance_207 : decode cX10_advance 207 = .ok (.aload_n 0, 1) := by decide +kernel
theorem dX10_advance_208 : decode cX10_advance 208 = .ok (.getfield 134, 3) := by decide +kernel
theorem dX10_advance_211 : decode cX10_advance 211 = .ok (.iconst 2, 1) := by decide +kernel
theorem dX10_advance_212 : decode cX10_advance 212 = .ok (.if_icmp .ne 70, 3) := by decide +kernel
theorem dX10_advance_215 : decode cX10_advance 215 = .ok (.aload_n 0, 1) := by decide +kernel
theorem dX10_advance_216 : decode cX10_advance 216 = .ok (.aload_n 0, 1) := by decide +kernel
theorem dX10_advance_217 : decode cX10_advance 217 = .ok (.getfield 118, 3) := by decide +kernel
theorem dX10_advance_220 : decode cX10_advance 220 = .ok (.invokevirtual 124, 3) := by decide +kernel
theorem dX10_advance_223 : decode cX10_advance 223 = .ok (.invokestatic 131, 3) := by decide +kernel
theorem dX10_advance_226 : decode cX10_advance 226 = .ok (.ifCond .eq 56, 3) := by decide +kernel
theorem dX10_advance_229 : decode cX10_advance 229 = .ok (.aload_n 0, 1) := by decide +kernel
theorem dX10_advance_230 : decode cX10_advance 230 = .ok (.aload_n 0, 1) := by decide +kernel
theorem dX10_advance_231 : decode cX10_advance 231 = .ok (.getfield 118, 3) := by decide +kernel
theorem dX10_advance_234 : decode cX10_advance 234 = .ok (.aload_n 0, 1) := by decide +kernel
theorem dX10_advance_235 : decode cX10_advance 235 = .ok (.getfield 121, 3) := by decide +kernel
theorem dX10_advance_238 : decode cX10_advance 238 = .ok (.isub, 1) := by decide +kernel
theorem dX10_advance_239 : decode cX10_advance 239 = .ok (.iconst 2, 1) := by decide +kernel
theorem dX10_advance_240 : decode cX10_advance 240 = .ok (.if_icmp .ge 25, 3) := by decide +kernel
theorem dX10_advance_243 : decode cX10_advance 243 = .ok (.bipush 10, 2) := by decide +kernel
theorem dX10_advance_245 : decode cX10_advance 245 = .ok (.aload_n 0, 1) := by decide +kernel
theorem dX10_advance_246 : decode cX10_advance 246 = .ok (.getfield 141, 3) := by decide +kernel
theorem dX10_advance_249 : decode cX10_advance 249 = .ok (.imul, 1) := by decide +kernel
theorem dX10_advance_250 : decode cX10_advance 250 = .ok (.aload_n 0, 1) := by decide +kernel
theorem dX10_advance_251 : decode cX10_advance 251 = .ok (.aload_n 0, 1) := by decide +kernel
theorem dX10_advance_252 : decode cX10_advance 252 = .ok (.getfield 118, 3) := by decide +kernel
theorem dX10_advance_255 : decode cX10_advance 255 = .ok (.invokevirtual 124, 3) := by decide +kernel
theorem dX10_advance_258 : decode cX10_advance 258 = .ok (.iadd, 1) := by decide +kernel
theorem dX10_advance_259 : decode cX10_advance 259 = .ok (.bipush 48, 2) := by decide +kernel
theorem dX10_advance_261 : decode cX10_advance 261 = .ok (.isub, 1) := by decide +kernel
theorem dX10_advance_262 : decode cX10_advance 262 = .ok (.goto 4, 3) := by decide +kernel
theorem dX10_advance_265 : decode cX10_advance 265 = .ok (.iconst (-1), 1) := by decide +kernel
theorem dX10_advance_266 : decode cX10_advance 266 = .ok (.putfield 141, 3) := by decide +kernel
theorem dX10_advance_269 : decode cX10_advance 269 = .ok (.aload_n 0, 1) := by decide +kernel
theorem dX10_advance_270 : decode cX10_advance 270 = .ok (.dup, 1) := by decide +kernel
theorem dX10_advance_271 : decode cX10_advance 271 = .ok (.getfield 118, 3) := by decide +kernel
theorem dX10_advance_274 : decode cX10_advance 274 = .ok (.iconst 1, 1) := by decide +kernel
theorem dX10_advance_275 : decode cX10_advance 275 = .ok (.iadd, 1) := by decide +kernel
theorem dX10_advance_276 : decode cX10_advance 276 = .ok (.putfield 118, 3) := by decide +kernel
theorem dX10_advance_279 : decode cX10_advance 279 = .ok (.goto (-72), 3) := by decide +kernel
theorem dX10_advance_282 : decode cX10_advance 282 = .ok (.return_, 1) := by decide +kernel
theorem dX10_isWord_0 : decode cX10_isWord 0 = .ok (.aload_n 0, 1) := by decide +kernel
theorem dX10_isWord_1 : decode cX10_isWord 1 = .ok (.getfield 134, 3) := by decide +kernel
theorem dX10_isWord_4 : decode cX10_isWord 4 = .ok (.iconst 1, 1) := by decide +kernel
theorem dX10_isWord_5 : decode cX10_isWord 5 = .ok (.if_icmp .ne 16, 3) := by decide +kernel
theorem dX10_isWord_8 : decode cX10_isWord 8 = .ok (.aload_n 0, 1) := by decide +kernel
theorem dX10_isWord_9 : decode cX10_isWord 9 = .ok (.getfield 137, 3) := by decide +kernel
theorem dX10_isWord_12 : decode cX10_isWord 12 = .ok (.lload_n 1, 1) := by decide +kernel
theorem dX10_isWord_13 : decode cX10_isWord 13 = .ok (.lcmp, 1) := by decide +kernel
theorem dX10_isWord_14 : decode cX10_isWord 14 = .ok (.ifCond .ne 7, 3) := by decide +kernel
theorem dX10_isWord_17 : decode cX10_isWord 17 = .ok (.iconst 1, 1) := by decide +kernel
theorem dX10_isWord_18 : decode cX10_isWord 18 = .ok (.goto 4, 3) := by decide +kernel
theorem dX10_isWord_21 : decode cX10_isWord 21 = .ok (.iconst 0, 1) := by decide +kernel
theorem dX10_isWord_22 : decode cX10_isWord 22 = .ok (.ireturn, 1) := by decide +kernel
theorem dX10_isMark_0 : decode cX10_isMark 0 = .ok (.aload_n 0, 1) := by decide +kernel
theorem dX10_isMark_1 : decode cX10_isMark 1 = .ok (.getfield 134, 3) := by decide +kernel
theorem dX10_isMark_4 : decode cX10_isMark 4 = .ok (.iconst 3, 1) := by decide +kernel
theorem dX10_isMark_5 : decode cX10_isMark 5 = .ok (.if_icmp .ne 15, 3) := by decide +kernel
theorem dX10_isMark_8 : decode cX10_isMark 8 = .ok (.aload_n 0, 1) := by decide +kernel
theorem dX10_isMark_9 : decode cX10_isMark 9 = .ok (.getfield 141, 3) := by decide +kernel
theorem dX10_isMark_12 : decode cX10_isMark 12 = .ok (.iload_n 1, 1) := by decide +kernel
theorem dX10_isMark_13 : decode cX10_isMark 13 = .ok (.if_icmp .ne 7, 3) := by decide +kernel
theorem dX10_isMark_16 : decode cX10_isMark 16 = .ok (.iconst 1, 1) := by decide +kernel
theorem dX10_isMark_17 : decode cX10_isMark 17 = .ok (.goto 4, 3) := by decide +kernel
theorem dX10_isMark_20 : decode cX10_isMark 20 = .ok (.iconst 0, 1) := by decide +kernel
theorem dX10_isMark_21 : decode cX10_isMark 21 = .ok (.ireturn, 1) := by decide +kernel
theorem dX10_lawHere_0 : decode cX10_lawHere 0 = .ok (.aload_n 0, 1) := by decide +kernel
theorem dX10_lawHere_1 : decode cX10_lawHere 1 = .ok (.ldc2_w 150, 3) := by decide +kernel
theorem dX10_lawHere_4 : decode cX10_lawHere 4 = .ok (.invokevirtual 152, 3) := by decide +kernel
theorem dX10_lawHere_7 : decode cX10_lawHere 7 = .ok (.ifCond .eq 7, 3) := by decide +kernel
theorem dX10_lawHere_10 : decode cX10_lawHere 10 = .ok (.iconst 0, 1) := by decide +kernel
theorem dX10_lawHere_11 : decode cX10_lawHere 11 = .ok (.goto 104, 3) := by decide +kernel
theorem dX10_lawHere_14 : decode cX10_lawHere 14 = .ok (.aload_n 0, 1) := by decide +kernel
theorem dX10_lawHere_15 : decode cX10_lawHere 15 = .ok (.ldc2_w 156, 3) := by decide +kernel
theorem dX10_lawHere_18 : decode cX10_lawHere 18 = .ok (.invokevirtual 152, 3) := by decide +kernel
theorem dX10_lawHere_21 : decode cX10_lawHere 21 = .ok (.ifCond .eq 7, 3) := by decide +kernel
theorem dX10_lawHere_24 : decode cX10_lawHere 24 = .ok (.iconst 1, 1) := by decide +kernel
theorem dX10_lawHere_25 : decode cX10_lawHere 25 = .ok (.goto 90, 3) := by decide +kernel
theorem dX10_lawHere_28 : decode cX10_lawHere 28 = .ok (.aload_n 0, 1) := by decide +kernel
theorem dX10_lawHere_29 : decode cX10_lawHere 29 = .ok (.ldc2_w 158, 3) := by decide +kernel
theorem dX10_lawHere_32 : decode cX10_lawHere 32 = .ok (.invokevirtual 152, 3) := by decide +kernel
theorem dX10_lawHere_35 : decode cX10_lawHere 35 = .ok (.ifCond .eq 7, 3) := by decide +kernel
theorem dX10_lawHere_38 : decode cX10_lawHere 38 = .ok (.iconst 2, 1) := by decide +kernel
theorem dX10_lawHere_39 : decode cX10_lawHere 39 = .ok (.goto 76, 3) := by decide +kernel
theorem dX10_lawHere_42 : decode cX10_lawHere 42 = .ok (.aload_n 0, 1) := by decide +kernel
theorem dX10_lawHere_43 : decode cX10_lawHere 43 = .ok (.ldc2_w 160, 3) := by decide +kernel
theorem dX10_lawHere_46 : decode cX10_lawHere 46 = .ok (.invokevirtual 152, 3) := by decide +kernel
theorem dX10_lawHere_49 : decode cX10_lawHere 49 = .ok (.ifCond .eq 7, 3) := by decide +kernel
theorem dX10_lawHere_52 : decode cX10_lawHere 52 = .ok (.iconst 3, 1) := by decide +kernel
theorem dX10_lawHere_53 : decode cX10_lawHere 53 = .ok (.goto 62, 3) := by decide +kernel
theorem dX10_lawHere_56 : decode cX10_lawHere 56 = .ok (.aload_n 0, 1) := by decide +kernel
theorem dX10_lawHere_57 : decode cX10_lawHere 57 = .ok (.ldc2_w 162, 3) := by decide +kernel
theorem dX10_lawHere_60 : decode cX10_lawHere 60 = .ok (.invokevirtual 152, 3) := by decide +kernel
theorem dX10_lawHere_63 : decode cX10_lawHere 63 = .ok (.ifCond .eq 7, 3) := by decide +kernel
theorem dX10_lawHere_66 : decode cX10_lawHere 66 = .ok (.iconst 4, 1) := by decide +kernel
theorem dX10_lawHere_67 : decode cX10_lawHere 67 = .ok (.goto 48, 3) := by decide +kernel
theorem dX10_lawHere_70 : decode cX10_lawHere 70 = .ok (.aload_n 0, 1) := by decide +kernel
theorem dX10_lawHere_71 : decode cX10_lawHere 71 = .ok (.ldc2_w 164, 3) := by decide +kernel
theorem dX10_lawHere_74 : decode cX10_lawHere 74 = .ok (.invokevirtual 152, 3) := by decide +kernel
theorem dX10_lawHere_77 : decode cX10_lawHere 77 = .ok (.ifCond .eq 7, 3) := by decide +kernel
theorem dX10_lawHere_80 : decode cX10_lawHere 80 = .ok (.iconst 5, 1) := by decide +kernel
theorem dX10_lawHere_81 : decode cX10_lawHere 81 = .ok (.goto 34, 3) := by decide +kernel
theorem dX10_lawHere_84 : decode cX10_lawHere 84 = .ok (.aload_n 0, 1) := by decide +kernel
theorem dX10_lawHere_85 : decode cX10_lawHere 85 = .ok (.ldc2_w 166, 3) := by decide +kernel
theorem dX10_lawHere_88 : decode cX10_lawHere 88 = .ok (.invokevirtual 152, 3) := by decide +kernel
theorem dX10_lawHere_91 : decode cX10_lawHere 91 = .ok (.ifCond .eq 8, 3) := by decide +kernel
theorem dX10_lawHere_94 : decode cX10_lawHere 94 = .ok (.bipush 6, 2) := by decide +kernel
theorem dX10_lawHere_96 : decode cX10_lawHere 96 = .ok (.goto 19, 3) := by decide +kernel
theorem dX10_lawHere_99 : decode cX10_lawHere 99 = .ok (.aload_n 0, 1) := by decide +kernel
theorem dX10_lawHere_100 : decode cX10_lawHere 100 = .ok (.ldc2_w 168, 3) := by decide +kernel
theorem dX10_lawHere_103 : decode cX10_lawHere 103 = .ok (.invokevirtual 152, 3) := by decide +kernel
theorem dX10_lawHere_106 : decode cX10_lawHere 106 = .ok (.ifCond .eq 8, 3) := by decide +kernel
theorem dX10_lawHere_109 : decode cX10_lawHere 109 = .ok (.bipush 7, 2) := by decide +kernel
theorem dX10_lawHere_111 : decode cX10_lawHere 111 = .ok (.goto 4, 3) := by decide +kernel
theorem dX10_lawHere_114 : decode cX10_lawHere 114 = .ok (.iconst (-1), 1) := by decide +kernel
theorem dX10_lawHere_115 : decode cX10_lawHere 115 = .ok (.ireturn, 1) := by decide +kernel
theorem dX10_wantNumber_0 : decode cX10_wantNumber 0 = .ok (.aload_n 0, 1) := by decide +kernel
theorem dX10_wantNumber_1 : decode cX10_wantNumber 1 = .ok (.getfield 141, 3) := by decide +kernel
theorem dX10_wantNumber_4 : decode cX10_wantNumber 4 = .ok (.istore_n 3, 1) := by decide +kernel
theorem dX10_wantNumber_5 : decode cX10_wantNumber 5 = .ok (.aload_n 0, 1) := by decide +kernel
theorem dX10_wantNumber_6 : decode cX10_wantNumber 6 = .ok (.aload_n 0, 1) := by decide +kernel
theorem dX10_wantNumber_7 : decode cX10_wantNumber 7 = .ok (.getfield 170, 3) := by decide +kernel
theorem dX10_wantNumber_10 : decode cX10_wantNumber 10 = .ok (.ifCond .eq 24, 3) := by decide +kernel
theorem dX10_wantNumber_13 : decode cX10_wantNumber 13 = .ok (.aload_n 0, 1) := by decide +kernel
theorem dX10_wantNumber_14 : decode cX10_wantNumber 14 = .ok (.getfield 134, 3) := by decide +kernel
theorem dX10_wantNumber_17 : decode cX10_wantNumber 17 = .ok (.iconst 2, 1) := by decide +kernel
theorem dX10_wantNumber_18 : decode cX10_wantNumber 18 = .ok (.if_icmp .ne 16, 3) := by decide +kernel
theorem dX10_wantNumber_21 : decode cX10_wantNumber 21 = .ok (.iload_n 3, 1) := by decide +kernel
theorem dX10_wantNumber_22 : decode cX10_wantNumber 22 = .ok (.iload_n 1, 1) := by decide +kernel
theorem dX10_wantNumber_23 : decode cX10_wantNumber 23 = .ok (.iload_n 2, 1) := by decide +kernel
theorem dX10_wantNumber_24 : decode cX10_wantNumber 24 = .ok (.invokestatic 105, 3) := by decide +kernel
theorem dX10_wantNumber_27 : decode cX10_wantNumber 27 = .ok (.ifCond .eq 7, 3) := by decide +kernel
theorem dX10_wantNumber_30 : decode cX10_wantNumber 30 = .ok (.iconst 1, 1) := by decide +kernel
theorem dX10_wantNumber_31 : decode cX10_wantNumber 31 = .ok (.goto 4, 3) := by decide +kernel
theorem dX10_wantNumber_34 : decode cX10_wantNumber 34 = .ok (.iconst 0, 1) := by decide +kernel
theorem dX10_wantNumber_35 : decode cX10_wantNumber 35 = .ok (.putfield 170, 3) := by decide +kernel
theorem dX10_wantNumber_38 : decode cX10_wantNumber 38 = .ok (.aload_n 0, 1) := by decide +kernel
theorem dX10_wantNumber_39 : decode cX10_wantNumber 39 = .ok (.getfield 170, 3) := by decide +kernel
theorem dX10_wantNumber_42 : decode cX10_wantNumber 42 = .ok (.ifCond .eq 7, 3) := by decide +kernel
theorem dX10_wantNumber_45 : decode cX10_wantNumber 45 = .ok (.aload_n 0, 1) := by decide +kernel
theorem dX10_wantNumber_46 : decode cX10_wantNumber 46 = .ok (.invokevirtual 174, 3) := by decide +kernel
theorem dX10_wantNumber_49 : decode cX10_wantNumber 49 = .ok (.iload_n 3, 1) := by decide +kernel
theorem dX10_wantNumber_50 : decode cX10_wantNumber 50 = .ok (.ireturn, 1) := by decide +kernel
theorem dX10_wantWord_0 : decode cX10_wantWord 0 = .ok (.aload_n 0, 1) := by decide +kernel
theorem dX10_wantWord_1 : decode cX10_wantWord 1 = .ok (.aload_n 0, 1) := by decide +kernel
theorem dX10_wantWord_2 : decode cX10_wantWord 2 = .ok (.getfield 170, 3) := by decide +kernel
theorem dX10_wantWord_5 : decode cX10_wantWord 5 = .ok (.ifCond .eq 15, 3) := by decide +kernel
theorem dX10_wantWord_8 : decode cX10_wantWord 8 = .ok (.aload_n 0, 1) := by decide +kernel
theorem dX10_wantWord_9 : decode cX10_wantWord 9 = .ok (.lload_n 1, 1) := by decide +kernel
theorem dX10_wantWord_10 : decode cX10_wantWord 10 = .ok (.invokevirtual 152, 3) := by decide +kernel
theorem dX10_wantWord_13 : decode cX10_wantWord 13 = .ok (.ifCond .eq 7, 3) := by decide +kernel
theorem dX10_wantWord_16 : decode cX10_wantWord 16 = .ok (.iconst 1, 1) := by decide +kernel
theorem dX10_wantWord_17 : decode cX10_wantWord 17 = .ok (.goto 4, 3) := by decide +kernel
theorem dX10_wantWord_20 : decode cX10_wantWord 20 = .ok (.iconst 0, 1) := by decide +kernel
theorem dX10_wantWord_21 : decode cX10_wantWord 21 = .ok (.putfield 170, 3) := by decide +kernel
theorem dX10_wantWord_24 : decode cX10_wantWord 24 = .ok (.aload_n 0, 1) := by decide +kernel
theorem dX10_wantWord_25 : decode cX10_wantWord 25 = .ok (.getfield 170, 3) := by decide +kernel
theorem dX10_wantWord_28 : decode cX10_wantWord 28 = .ok (.ifCond .eq 7, 3) := by decide +kernel
theorem dX10_wantWord_31 : decode cX10_wantWord 31 = .ok (.aload_n 0, 1) := by decide +kernel
theorem dX10_wantWord_32 : decode cX10_wantWord 32 = .ok (.invokevirtual 174, 3) := by decide +kernel
theorem dX10_wantWord_35 : decode cX10_wantWord 35 = .ok (.return_, 1) := by decide +kernel
theorem dX10_wantEnd_0 : decode cX10_wantEnd 0 = .ok (.aload_n 0, 1) := by decide +kernel
theorem dX10_wantEnd_1 : decode cX10_wantEnd 1 = .ok (.aload_n 0, 1) := by decide +kernel
theorem dX10_wantEnd_2 : decode cX10_wantEnd 2 = .ok (.getfield 170, 3) := by decide +kernel
theorem dX10_wantEnd_5 : decode cX10_wantEnd 5 = .ok (.ifCond .eq 16, 3) := by decide +kernel
theorem dX10_wantEnd_8 : decode cX10_wantEnd 8 = .ok (.aload_n 0, 1) := by decide +kernel
theorem dX10_wantEnd_9 : decode cX10_wantEnd 9 = .ok (.bipush 59, 2) := by decide +kernel
theorem dX10_wantEnd_11 : decode cX10_wantEnd 11 = .ok (.invokevirtual 177, 3) := by decide +kernel
theorem dX10_wantEnd_14 : decode cX10_wantEnd 14 = .ok (.ifCond .eq 7, 3) := by decide +kernel
theorem dX10_wantEnd_17 : decode cX10_wantEnd 17 = .ok (.iconst 1, 1) := by decide +kernel
theorem dX10_wantEnd_18 : decode cX10_wantEnd 18 = .ok (.goto 4, 3) := by decide +kernel
theorem dX10_wantEnd_21 : decode cX10_wantEnd 21 = .ok (.iconst 0, 1) := by decide +kernel
theorem dX10_wantEnd_22 : decode cX10_wantEnd 22 = .ok (.putfield 170, 3) := by decide +kernel
theorem dX10_wantEnd_25 : decode cX10_wantEnd 25 = .ok (.aload_n 0, 1) := by decide +kernel
theorem dX10_wantEnd_26 : decode cX10_wantEnd 26 = .ok (.getfield 170, 3) := by decide +kernel
theorem dX10_wantEnd_29 : decode cX10_wantEnd 29 = .ok (.ifCond .eq 7, 3) := by decide +kernel
theorem dX10_wantEnd_32 : decode cX10_wantEnd 32 = .ok (.aload_n 0, 1) := by decide +kernel
theorem dX10_wantEnd_33 : decode cX10_wantEnd 33 = .ok (.invokevirtual 174, 3) := by decide +kernel
theorem dX10_wantEnd_36 : decode cX10_wantEnd 36 = .ok (.return_, 1) := by decide +kernel
theorem dX10_wantTwo_0 : decode cX10_wantTwo 0 = .ok (.aload_n 0, 1) := by decide +kernel
theorem dX10_wantTwo_1 : decode cX10_wantTwo 1 = .ok (.invokevirtual 174, 3) := by decide +kernel
theorem dX10_wantTwo_4 : decode cX10_wantTwo 4 = .ok (.aload_n 0, 1) := by decide +kernel
theorem dX10_wantTwo_5 : decode cX10_wantTwo 5 = .ok (.iconst 0, 1) := by decide +kernel
theorem dX10_wantTwo_6 : decode cX10_wantTwo 6 = .ok (.aload_n 0, 1) := by decide +kernel
theorem dX10_wantTwo_7 : decode cX10_wantTwo 7 = .ok (.getfield 180, 3) := by decide +kernel
theorem dX10_wantTwo_10 : decode cX10_wantTwo 10 = .ok (.iconst 1, 1) := by decide +kernel
theorem dX10_wantTwo_11 : decode cX10_wantTwo 11 = .ok (.isub, 1) := by decide +kernel
theorem dX10_wantTwo_12 : decode cX10_wantTwo 12 = .ok (.invokevirtual 183, 3) := by decide +kernel
theorem dX10_wantTwo_15 : decode cX10_wantTwo 15 = .ok (.istore_n 2, 1) := by decide +kernel
theorem dX10_wantTwo_16 : decode cX10_wantTwo 16 = .ok (.aload_n 0, 1) := by decide +kernel
theorem dX10_wantTwo_17 : decode cX10_wantTwo 17 = .ok (.aload_n 0, 1) := by decide +kernel
theorem dX10_wantTwo_18 : decode cX10_wantTwo 18 = .ok (.getfield 170, 3) := by decide +kernel
theorem dX10_wantTwo_21 : decode cX10_wantTwo 21 = .ok (.ifCond .eq 23, 3) := by decide +kernel
theorem dX10_wantTwo_24 : decode cX10_wantTwo 24 = .ok (.aload_n 0, 1) := by decide +kernel
theorem dX10_wantTwo_25 : decode cX10_wantTwo 25 = .ok (.getfield 134, 3) := by decide +kernel
theorem dX10_wantTwo_28 : decode cX10_wantTwo 28 = .ok (.iconst 2, 1) := by decide +kernel
theorem dX10_wantTwo_29 : decode cX10_wantTwo 29 = .ok (.if_icmp .ne 11, 3) := by decide +kernel
theorem dX10_wantTwo_32 : decode cX10_wantTwo 32 = .ok (.aload_n 0, 1) := by decide +kernel
theorem dX10_wantTwo_33 : decode cX10_wantTwo 33 = .ok (.getfield 141, 3) := by decide +kernel
theorem dX10_wantTwo_36 : decode cX10_wantTwo 36 = .ok (.iload_n 2, 1) := by decide +kernel
theorem dX10_wantTwo_37 : decode cX10_wantTwo 37 = .ok (.if_icmp .eq 7, 3) := by decide +kernel
theorem dX10_wantTwo_40 : decode cX10_wantTwo 40 = .ok (.iconst 1, 1) := by decide +kernel
theorem dX10_wantTwo_41 : decode cX10_wantTwo 41 = .ok (.goto 4, 3) := by decide +kernel
theorem dX10_wantTwo_44 : decode cX10_wantTwo 44 = .ok (.iconst 0, 1) := by decide +kernel
theorem dX10_wantTwo_45 : decode cX10_wantTwo 45 = .ok (.putfield 170, 3) := by decide +kernel
theorem dX10_wantTwo_48 : decode cX10_wantTwo 48 = .ok (.aload_n 0, 1) := by decide +kernel
theorem dX10_wantTwo_49 : decode cX10_wantTwo 49 = .ok (.iconst 0, 1) := by decide +kernel
theorem dX10_wantTwo_50 : decode cX10_wantTwo 50 = .ok (.aload_n 0, 1) := by decide +kernel
theorem dX10_wantTwo_51 : decode cX10_wantTwo 51 = .ok (.getfield 180, 3) := by decide +kernel
theorem dX10_wantTwo_54 : decode cX10_wantTwo 54 = .ok (.iconst 1, 1) := by decide +kernel
theorem dX10_wantTwo_55 : decode cX10_wantTwo 55 = .ok (.isub, 1) := by decide +kernel
theorem dX10_wantTwo_56 : decode cX10_wantTwo 56 = .ok (.invokevirtual 183, 3) := by decide +kernel
theorem dX10_wantTwo_59 : decode cX10_wantTwo 59 = .ok (.istore_n 3, 1) := by decide +kernel
theorem dX10_wantTwo_60 : decode cX10_wantTwo 60 = .ok (.iload_n 1, 1) := by decide +kernel
theorem dX10_wantTwo_61 : decode cX10_wantTwo 61 = .ok (.ifCond .eq 13, 3) := by decide +kernel
theorem dX10_wantTwo_64 : decode cX10_wantTwo 64 = .ok (.aload_n 0, 1) := by decide +kernel
theorem dX10_wantTwo_65 : decode cX10_wantTwo 65 = .ok (.iconst 0, 1) := by decide +kernel
theorem dX10_wantTwo_66 : decode cX10_wantTwo 66 = .ok (.bipush 9, 2) := by decide +kernel
theorem dX10_wantTwo_68 : decode cX10_wantTwo 68 = .ok (.invokevirtual 183, 3) := by decide +kernel
theorem dX10_wantTwo_71 : decode cX10_wantTwo 71 = .ok (.goto 4, 3) := by decide +kernel
theorem dX10_wantTwo_74 : decode cX10_wantTwo 74 = .ok (.iconst 0, 1) := by decide +kernel
theorem dX10_wantTwo_75 : decode cX10_wantTwo 75 = .ok (.istore 4, 2) := by decide +kernel
theorem dX10_wantTwo_77 : decode cX10_wantTwo 77 = .ok (.aload_n 0, 1) := by decide +kernel
theorem dX10_wantTwo_78 : decode cX10_wantTwo 78 = .ok (.invokevirtual 187, 3) := by decide +kernel
theorem dX10_wantTwo_81 : decode cX10_wantTwo 81 = .ok (.aload_n 0, 1) := by decide +kernel
theorem dX10_wantTwo_82 : decode cX10_wantTwo 82 = .ok (.getfield 170, 3) := by decide +kernel
theorem dX10_wantTwo_85 : decode cX10_wantTwo 85 = .ok (.ifCond .eq 36, 3) := by decide +kernel
theorem dX10_wantTwo_88 : decode cX10_wantTwo 88 = .ok (.iload_n 1, 1) := by decide +kernel
theorem dX10_wantTwo_89 : decode cX10_wantTwo 89 = .ok (.ifCond .eq 32, 3) := by decide +kernel
theorem dX10_wantTwo_92 : decode cX10_wantTwo 92 = .ok (.aload_n 0, 1) := by decide +kernel
theorem dX10_wantTwo_93 : decode cX10_wantTwo 93 = .ok (.getfield 47, 3) := by decide +kernel
theorem dX10_wantTwo_96 : decode cX10_wantTwo 96 = .ok (.bipush 8, 2) := by decide +kernel
theorem dX10_wantTwo_98 : decode cX10_wantTwo 98 = .ok (.iload_n 2, 1) := by decide +kernel
theorem dX10_wantTwo_99 : decode cX10_wantTwo 99 = .ok (.imul, 1) := by decide +kernel
theorem dX10_wantTwo_100 : decode cX10_wantTwo 100 = .ok (.iload_n 3, 1) := by decide +kernel
theorem dX10_wantTwo_101 : decode cX10_wantTwo 101 = .ok (.iadd, 1) := by decide +kernel
theorem dX10_wantTwo_102 : decode cX10_wantTwo 102 = .ok (.iload 4, 2) := by decide +kernel
theorem dX10_wantTwo_104 : decode cX10_wantTwo 104 = .ok (.iastore, 1) := by decide +kernel
theorem dX10_wantTwo_105 : decode cX10_wantTwo 105 = .ok (.aload_n 0, 1) := by decide +kernel
theorem dX10_wantTwo_106 : decode cX10_wantTwo 106 = .ok (.getfield 47, 3) := by decide +kernel
theorem dX10_wantTwo_109 : decode cX10_wantTwo 109 = .ok (.bipush 8, 2) := by decide +kernel
theorem dX10_wantTwo_111 : decode cX10_wantTwo 111 = .ok (.iload_n 3, 1) := by decide +kernel
theorem dX10_wantTwo_112 : decode cX10_wantTwo 112 = .ok (.imul, 1) := by decide +kernel
theorem dX10_wantTwo_113 : decode cX10_wantTwo 113 = .ok (.iload_n 2, 1) := by decide +kernel
theorem dX10_wantTwo_114 : decode cX10_wantTwo 114 = .ok (.iadd, 1) := by decide +kernel
theorem dX10_wantTwo_115 : decode cX10_wantTwo 115 = .ok (.iload 4, 2) := by decide +kernel
theorem dX10_wantTwo_117 : decode cX10_wantTwo 117 = .ok (.iastore, 1) := by decide +kernel
theorem dX10_wantTwo_118 : decode cX10_wantTwo 118 = .ok (.goto 34, 3) := by decide +kernel
theorem dX10_wantTwo_121 : decode cX10_wantTwo 121 = .ok (.aload_n 0, 1) := by decide +kernel
theorem dX10_wantTwo_122 : decode cX10_wantTwo 122 = .ok (.getfield 170, 3) := by decide +kernel
theorem dX10_wantTwo_125 : decode cX10_wantTwo 125 = .ok (.ifCond .eq 27, 3) := by decide +kernel
theorem dX10_wantTwo_128 : decode cX10_wantTwo 128 = .ok (.aload_n 0, 1) := by decide +kernel
theorem dX10_wantTwo_129 : decode cX10_wantTwo 129 = .ok (.getfield 41, 3) := by decide +kernel
theorem dX10_wantTwo_132 : decode cX10_wantTwo 132 = .ok (.iload_n 2, 1) := by decide +kernel
theorem dX10_wantTwo_133 : decode cX10_wantTwo 133 = .ok (.dup2, 1) := by decide +kernel
theorem dX10_wantTwo_134 : decode cX10_wantTwo 134 = .ok (.iaload, 1) := by decide +kernel
theorem dX10_wantTwo_135 : decode cX10_wantTwo 135 = .ok (.iconst 1, 1) := by decide +kernel
theorem dX10_wantTwo_136 : decode cX10_wantTwo 136 = .ok (.iload_n 3, 1) := by decide +kernel
theorem dX10_wantTwo_137 : decode cX10_wantTwo 137 = .ok (.ishl, 1) := by decide +kernel
theorem dX10_wantTwo_138 : decode cX10_wantTwo 138 = .ok (.ior, 1) := by decide +kernel
theorem dX10_wantTwo_139 : decode cX10_wantTwo 139 = .ok (.iastore, 1) := by decide +kernel
theorem dX10_wantTwo_140 : decode cX10_wantTwo 140 = .ok (.aload_n 0, 1) := by decide +kernel
theorem dX10_wantTwo_141 : decode cX10_wantTwo 141 = .ok (.getfield 41, 3) := by decide +kernel
theorem dX10_wantTwo_144 : decode cX10_wantTwo 144 = .ok (.iload_n 3, 1) := by decide +kernel
theorem dX10_wantTwo_145 : decode cX10_wantTwo 145 = .ok (.dup2, 1) := by decide +kernel
theorem dX10_wantTwo_146 : decode cX10_wantTwo 146 = .ok (.iaload, 1) := by decide +kernel
theorem dX10_wantTwo_147 : decode cX10_wantTwo 147 = .ok (.iconst 1, 1) := by decide +kernel
theorem dX10_wantTwo_148 : decode cX10_wantTwo 148 = .ok (.iload_n 2, 1) := by decide +kernel
theorem dX10_wantTwo_149 : decode cX10_wantTwo 149 = .ok (.ishl, 1) := by decide +kernel
theorem dX10_wantTwo_150 : decode cX10_wantTwo 150 = .ok (.ior, 1) := by decide +kernel
theorem dX10_wantTwo_151 : decode cX10_wantTwo 151 = .ok (.iastore, 1) := by decide +kernel
theorem dX10_wantTwo_152 : decode cX10_wantTwo 152 = .ok (.return_, 1) := by decide +kernel
theorem dX10_wantAway_0 : decode cX10_wantAway 0 = .ok (.aload_n 0, 1) := by decide +kernel
theorem dX10_wantAway_1 : decode cX10_wantAway 1 = .ok (.invokevirtual 174, 3) := by decide +kernel
theorem dX10_wantAway_4 : decode cX10_wantAway 4 = .ok (.aload_n 0, 1) := by decide +kernel
theorem dX10_wantAway_5 : decode cX10_wantAway 5 = .ok (.iconst 0, 1) := by decide +kernel
theorem dX10_wantAway_6 : decode cX10_wantAway 6 = .ok (.aload_n 0, 1) := by decide +kernel
theorem dX10_wantAway_7 : decode cX10_wantAway 7 = .ok (.getfield 180, 3) := by decide +kernel
theorem dX10_wantAway_10 : decode cX10_wantAway 10 = .ok (.iconst 1, 1) := by decide +kernel
theorem dX10_wantAway_11 : decode cX10_wantAway 11 = .ok (.isub, 1) := by decide +kernel
theorem dX10_wantAway_12 : decode cX10_wantAway 12 = .ok (.invokevirtual 183, 3) := by decide +kernel
theorem dX10_wantAway_15 : decode cX10_wantAway 15 = .ok (.istore_n 1, 1) := by decide +kernel
theorem dX10_wantAway_16 : decode cX10_wantAway 16 = .ok (.aload_n 0, 1) := by decide +kernel
theorem dX10_wantAway_17 : decode cX10_wantAway 17 = .ok (.ldc2_w 190, 3) := by decide +kernel
theorem dX10_wantAway_20 : decode cX10_wantAway 20 = .ok (.invokevirtual 192, 3) := by decide +kernel
theorem dX10_wantAway_23 : decode cX10_wantAway 23 = .ok (.iconst 0, 1) := by decide +kernel
theorem dX10_wantAway_24 : decode cX10_wantAway 24 = .ok (.istore_n 2, 1) := by decide +kernel
theorem dX10_wantAway_25 : decode cX10_wantAway 25 = .ok (.aload_n 0, 1) := by decide +kernel
theorem dX10_wantAway_26 : decode cX10_wantAway 26 = .ok (.getfield 170, 3) := by decide +kernel
theorem dX10_wantAway_29 : decode cX10_wantAway 29 = .ok (.istore_n 3, 1) := by decide +kernel
theorem dX10_wantAway_30 : decode cX10_wantAway 30 = .ok (.aload_n 0, 1) := by decide +kernel
theorem dX10_wantAway_31 : decode cX10_wantAway 31 = .ok (.getfield 170, 3) := by decide +kernel
theorem dX10_wantAway_34 : decode cX10_wantAway 34 = .ok (.ifCond .eq 68, 3) := by decide +kernel
theorem dX10_wantAway_37 : decode cX10_wantAway 37 = .ok (.iload_n 3, 1) := by decide +kernel
theorem dX10_wantAway_38 : decode cX10_wantAway 38 = .ok (.ifCond .eq 64, 3) := by decide +kernel
theorem dX10_wantAway_41 : decode cX10_wantAway 41 = .ok (.aload_n 0, 1) := by decide +kernel
theorem dX10_wantAway_42 : decode cX10_wantAway 42 = .ok (.iconst 0, 1) := by decide +kernel
theorem dX10_wantAway_43 : decode cX10_wantAway 43 = .ok (.bipush 9, 2) := by decide +kernel
theorem dX10_wantAway_45 : decode cX10_wantAway 45 = .ok (.invokevirtual 183, 3) := by decide +kernel
theorem dX10_wantAway_48 : decode cX10_wantAway 48 = .ok (.istore 4, 2) := by decide +kernel
theorem dX10_wantAway_50 : decode cX10_wantAway 50 = .ok (.iload_n 2, 1) := by decide +kernel
theorem dX10_wantAway_51 : decode cX10_wantAway 51 = .ok (.aload_n 0, 1) := by decide +kernel
theorem dX10_wantAway_52 : decode cX10_wantAway 52 = .ok (.getfield 170, 3) := by decide +kernel
theorem dX10_wantAway_55 : decode cX10_wantAway 55 = .ok (.ifCond .eq 10, 3) := by decide +kernel
theorem dX10_wantAway_58 : decode cX10_wantAway 58 = .ok (.iconst 1, 1) := by decide +kernel
theorem dX10_wantAway_59 : decode cX10_wantAway 59 = .ok (.iload 4, 2) := by decide +kernel
theorem dX10_wantAway_61 : decode cX10_wantAway 61 = .ok (.ishl, 1) := by decide +kernel
theorem dX10_wantAway_62 : decode cX10_wantAway 62 = .ok (.goto 4, 3) := by decide +kernel
theorem dX10_wantAway_65 : decode cX10_wantAway 65 = .ok (.iconst 0, 1) := by decide +kernel
theorem dX10_wantAway_66 : decode cX10_wantAway 66 = .ok (.ior, 1) := by decide +kernel
theorem dX10_wantAway_67 : decode cX10_wantAway 67 = .ok (.istore_n 2, 1) := by decide +kernel
theorem dX10_wantAway_68 : decode cX10_wantAway 68 = .ok (.aload_n 0, 1) := by decide +kernel
theorem dX10_wantAway_69 : decode cX10_wantAway 69 = .ok (.getfield 170, 3) := by decide +kernel
theorem dX10_wantAway_72 : decode cX10_wantAway 72 = .ok (.ifCond .eq 17, 3) := by decide +kernel
theorem dX10_wantAway_75 : decode cX10_wantAway 75 = .ok (.aload_n 0, 1) := by decide +kernel
theorem dX10_wantAway_76 : decode cX10_wantAway 76 = .ok (.ldc2_w 196, 3) := by decide +kernel
theorem dX10_wantAway_79 : decode cX10_wantAway 79 = .ok (.invokevirtual 152, 3) := by decide +kernel
theorem dX10_wantAway_82 : decode cX10_wantAway 82 = .ok (.ifCond .eq 7, 3) := by decide +kernel
theorem dX10_wantAway_85 : decode cX10_wantAway 85 = .ok (.iconst 1, 1) := by decide +kernel
theorem dX10_wantAway_86 : decode cX10_wantAway 86 = .ok (.goto 4, 3) := by decide +kernel
theorem dX10_wantAway_89 : decode cX10_wantAway 89 = .ok (.iconst 0, 1) := by decide +kernel
theorem dX10_wantAway_90 : decode cX10_wantAway 90 = .ok (.istore_n 3, 1) := by decide +kernel
theorem dX10_wantAway_91 : decode cX10_wantAway 91 = .ok (.iload_n 3, 1) := by decide +kernel
theorem dX10_wantAway_92 : decode cX10_wantAway 92 = .ok (.ifCond .eq 7, 3) := by decide +kernel
theorem dX10_wantAway_95 : decode cX10_wantAway 95 = .ok (.aload_n 0, 1) := by decide +kernel
theorem dX10_wantAway_96 : decode cX10_wantAway 96 = .ok (.invokevirtual 174, 3) := by decide +kernel
theorem dX10_wantAway_99 : decode cX10_wantAway 99 = .ok (.goto (-69), 3) := by decide +kernel
theorem dX10_wantAway_102 : decode cX10_wantAway 102 = .ok (.aload_n 0, 1) := by decide +kernel
theorem dX10_wantAway_103 : decode cX10_wantAway 103 = .ok (.invokevirtual 187, 3) := by decide +kernel
theorem dX10_wantAway_106 : decode cX10_wantAway 106 = .ok (.aload_n 0, 1) := by decide +kernel
theorem dX10_wantAway_107 : decode cX10_wantAway 107 = .ok (.getfield 170, 3) := by decide +kernel
theorem dX10_wantAway_110 : decode cX10_wantAway 110 = .ok (.ifCond .eq 13, 3) := by decide +kernel
theorem dX10_wantAway_113 : decode cX10_wantAway 113 = .ok (.aload_n 0, 1) := by decide +kernel
theorem dX10_wantAway_114 : decode cX10_wantAway 114 = .ok (.getfield 44, 3) := by decide +kernel
theorem dX10_wantAway_117 : decode cX10_wantAway 117 = .ok (.iload_n 1, 1) := by decide +kernel
theorem dX10_wantAway_118 : decode cX10_wantAway 118 = .ok (.dup2, 1) := by decide +kernel
theorem dX10_wantAway_119 : decode cX10_wantAway 119 = .ok (.iaload, 1) := by decide +kernel
theorem dX10_wantAway_120 : decode cX10_wantAway 120 = .ok (.iload_n 2, 1) := by decide +kernel
theorem dX10_wantAway_121 : decode cX10_wantAway 121 = .ok (.ior, 1) := by decide +kernel
theorem dX10_wantAway_122 : decode cX10_wantAway 122 = .ok (.iastore, 1) := by decide +kernel
theorem dX10_wantAway_123 : decode cX10_wantAway 123 = .ok (.return_, 1) := by decide +kernel
theorem dX10_wantClause_0 : decode cX10_wantClause 0 = .ok (.aload_n 0, 1) := by decide +kernel
theorem dX10_wantClause_1 : decode cX10_wantClause 1 = .ok (.ldc2_w 198, 3) := by decide +kernel
theorem dX10_wantClause_4 : decode cX10_wantClause 4 = .ok (.invokevirtual 152, 3) := by decide +kernel
theorem dX10_wantClause_7 : decode cX10_wantClause 7 = .ok (.ifCond .eq 60, 3) := by decide +kernel
theorem dX10_wantClause_10 : decode cX10_wantClause 10 = .ok (.aload_n 0, 1) := by decide +kernel
theorem dX10_wantClause_11 : decode cX10_wantClause 11 = .ok (.aload_n 0, 1) := by decide +kernel
theorem dX10_wantClause_12 : decode cX10_wantClause 12 = .ok (.getfield 180, 3) := by decide +kernel
theorem dX10_wantClause_15 : decode cX10_wantClause 15 = .ok (.bipush 8, 2) := by decide +kernel
theorem dX10_wantClause_17 : decode cX10_wantClause 17 = .ok (.if_icmp .ge 7, 3) := by decide +kernel
theorem dX10_wantClause_20 : decode cX10_wantClause 20 = .ok (.iconst 1, 1) := by decide +kernel
theorem dX10_wantClause_21 : decode cX10_wantClause 21 = .ok (.goto 4, 3) := by decide +kernel
theorem dX10_wantClause_24 : decode cX10_wantClause 24 = .ok (.iconst 0, 1) := by decide +kernel
theorem dX10_wantClause_25 : decode cX10_wantClause 25 = .ok (.putfield 170, 3) := by decide +kernel
theorem dX10_wantClause_28 : decode cX10_wantClause 28 = .ok (.aload_n 0, 1) := by decide +kernel
theorem dX10_wantClause_29 : decode cX10_wantClause 29 = .ok (.getfield 170, 3) := by decide +kernel
theorem dX10_wantClause_32 : decode cX10_wantClause 32 = .ok (.ifCond .eq 7, 3) := by decide +kernel
theorem dX10_wantClause_35 : decode cX10_wantClause 35 = .ok (.aload_n 0, 1) := by decide +kernel
theorem dX10_wantClause_36 : decode cX10_wantClause 36 = .ok (.invokevirtual 174, 3) := by decide +kernel
theorem dX10_wantClause_39 : decode cX10_wantClause 39 = .ok (.aload_n 0, 1) := by decide +kernel
theorem dX10_wantClause_40 : decode cX10_wantClause 40 = .ok (.invokevirtual 187, 3) := by decide +kernel
theorem dX10_wantClause_43 : decode cX10_wantClause 43 = .ok (.aload_n 0, 1) := by decide +kernel
theorem dX10_wantClause_44 : decode cX10_wantClause 44 = .ok (.dup, 1) := by decide +kernel
theorem dX10_wantClause_45 : decode cX10_wantClause 45 = .ok (.getfield 180, 3) := by decide +kernel
theorem dX10_wantClause_48 : decode cX10_wantClause 48 = .ok (.aload_n 0, 1) := by decide +kernel
theorem dX10_wantClause_49 : decode cX10_wantClause 49 = .ok (.getfield 170, 3) := by decide +kernel
theorem dX10_wantClause_52 : decode cX10_wantClause 52 = .ok (.ifCond .eq 7, 3) := by decide +kernel
theorem dX10_wantClause_55 : decode cX10_wantClause 55 = .ok (.iconst 1, 1) := by decide +kernel
theorem dX10_wantClause_56 : decode cX10_wantClause 56 = .ok (.goto 4, 3) := by decide +kernel
theorem dX10_wantClause_59 : decode cX10_wantClause 59 = .ok (.iconst 0, 1) := by decide +kernel
theorem dX10_wantClause_60 : decode cX10_wantClause 60 = .ok (.iadd, 1) := by decide +kernel
theorem dX10_wantClause_61 : decode cX10_wantClause 61 = .ok (.putfield 180, 3) := by decide +kernel
theorem dX10_wantClause_64 : decode cX10_wantClause 64 = .ok (.goto 112, 3) := by decide +kernel
theorem dX10_wantClause_67 : decode cX10_wantClause 67 = .ok (.aload_n 0, 1) := by decide +kernel
theorem dX10_wantClause_68 : decode cX10_wantClause 68 = .ok (.ldc2_w 200, 3) := by decide +kernel
theorem dX10_wantClause_71 : decode cX10_wantClause 71 = .ok (.invokevirtual 152, 3) := by decide +kernel
theorem dX10_wantClause_74 : decode cX10_wantClause 74 = .ok (.ifCond .ne 13, 3) := by decide +kernel
theorem dX10_wantClause_77 : decode cX10_wantClause 77 = .ok (.aload_n 0, 1) := by decide +kernel
theorem dX10_wantClause_78 : decode cX10_wantClause 78 = .ok (.ldc2_w 202, 3) := by decide +kernel
theorem dX10_wantClause_81 : decode cX10_wantClause 81 = .ok (.invokevirtual 152, 3) := by decide +kernel
theorem dX10_wantClause_84 : decode cX10_wantClause 84 = .ok (.ifCond .eq 17, 3) := by decide +kernel
theorem dX10_wantClause_87 : decode cX10_wantClause 87 = .ok (.aload_n 0, 1) := by decide +kernel
theorem dX10_wantClause_88 : decode cX10_wantClause 88 = .ok (.aload_n 0, 1) := by decide +kernel
theorem dX10_wantClause_89 : decode cX10_wantClause 89 = .ok (.ldc2_w 202, 3) := by decide +kernel
theorem dX10_wantClause_92 : decode cX10_wantClause 92 = .ok (.invokevirtual 152, 3) := by decide +kernel
theorem dX10_wantClause_95 : decode cX10_wantClause 95 = .ok (.invokevirtual 204, 3) := by decide +kernel
theorem dX10_wantClause_98 : decode cX10_wantClause 98 = .ok (.goto 78, 3) := by decide +kernel
theorem dX10_wantClause_101 : decode cX10_wantClause 101 = .ok (.aload_n 0, 1) := by decide +kernel
theorem dX10_wantClause_102 : decode cX10_wantClause 102 = .ok (.ldc2_w 208, 3) := by decide +kernel
theorem dX10_wantClause_105 : decode cX10_wantClause 105 = .ok (.invokevirtual 152, 3) := by decide +kernel
theorem dX10_wantClause_108 : decode cX10_wantClause 108 = .ok (.ifCond .eq 10, 3) := by decide +kernel
theorem dX10_wantClause_111 : decode cX10_wantClause 111 = .ok (.aload_n 0, 1) := by decide +kernel
theorem dX10_wantClause_112 : decode cX10_wantClause 112 = .ok (.invokevirtual 210, 3) := by decide +kernel
theorem dX10_wantClause_115 : decode cX10_wantClause 115 = .ok (.goto 61, 3) := by decide +kernel
theorem dX10_wantClause_118 : decode cX10_wantClause 118 = .ok (.aload_n 0, 1) := by decide +kernel
theorem dX10_wantClause_119 : decode cX10_wantClause 119 = .ok (.invokevirtual 213, 3) := by decide +kernel
theorem dX10_wantClause_122 : decode cX10_wantClause 122 = .ok (.ifCond .lt 49, 3) := by decide +kernel
theorem dX10_wantClause_125 : decode cX10_wantClause 125 = .ok (.aload_n 0, 1) := by decide +kernel
theorem dX10_wantClause_126 : decode cX10_wantClause 126 = .ok (.invokevirtual 213, 3) := by decide +kernel
theorem dX10_wantClause_129 : decode cX10_wantClause 129 = .ok (.istore_n 1, 1) := by decide +kernel
theorem dX10_wantClause_130 : decode cX10_wantClause 130 = .ok (.aload_n 0, 1) := by decide +kernel
theorem dX10_wantClause_131 : decode cX10_wantClause 131 = .ok (.invokevirtual 174, 3) := by decide +kernel
theorem dX10_wantClause_134 : decode cX10_wantClause 134 = .ok (.aload_n 0, 1) := by decide +kernel
theorem dX10_wantClause_135 : decode cX10_wantClause 135 = .ok (.iconst 0, 1) := by decide +kernel
theorem dX10_wantClause_136 : decode cX10_wantClause 136 = .ok (.aload_n 0, 1) := by decide +kernel
theorem dX10_wantClause_137 : decode cX10_wantClause 137 = .ok (.getfield 28, 3) := by decide +kernel
theorem dX10_wantClause_140 : decode cX10_wantClause 140 = .ok (.iload_n 1, 1) := by decide +kernel
theorem dX10_wantClause_141 : decode cX10_wantClause 141 = .ok (.iaload, 1) := by decide +kernel
theorem dX10_wantClause_142 : decode cX10_wantClause 142 = .ok (.invokevirtual 183, 3) := by decide +kernel
theorem dX10_wantClause_145 : decode cX10_wantClause 145 = .ok (.istore_n 2, 1) := by decide +kernel
theorem dX10_wantClause_146 : decode cX10_wantClause 146 = .ok (.aload_n 0, 1) := by decide +kernel
theorem dX10_wantClause_147 : decode cX10_wantClause 147 = .ok (.invokevirtual 187, 3) := by decide +kernel
theorem dX10_wantClause_150 : decode cX10_wantClause 150 = .ok (.aload_n 0, 1) := by decide +kernel
theorem dX10_wantClause_151 : decode cX10_wantClause 151 = .ok (.getfield 50, 3) := by decide +kernel
theorem dX10_wantClause_154 : decode cX10_wantClause 154 = .ok (.iload_n 1, 1) := by decide +kernel
theorem dX10_wantClause_155 : decode cX10_wantClause 155 = .ok (.aload_n 0, 1) := by decide +kernel
theorem dX10_wantClause_156 : decode cX10_wantClause 156 = .ok (.getfield 170, 3) := by decide +kernel
theorem dX10_wantClause_159 : decode cX10_wantClause 159 = .ok (.ifCond .eq 7, 3) := by decide +kernel
theorem dX10_wantClause_162 : decode cX10_wantClause 162 = .ok (.iload_n 2, 1) := by decide +kernel
theorem dX10_wantClause_163 : decode cX10_wantClause 163 = .ok (.goto 4, 3) := by decide +kernel
theorem dX10_wantClause_166 : decode cX10_wantClause 166 = .ok (.iconst 0, 1) := by decide +kernel
theorem dX10_wantClause_167 : decode cX10_wantClause 167 = .ok (.iastore, 1) := by decide +kernel
theorem dX10_wantClause_168 : decode cX10_wantClause 168 = .ok (.goto 8, 3) := by decide +kernel
theorem dX10_wantClause_171 : decode cX10_wantClause 171 = .ok (.aload_n 0, 1) := by decide +kernel
theorem dX10_wantClause_172 : decode cX10_wantClause 172 = .ok (.iconst 0, 1) := by decide +kernel
theorem dX10_wantClause_173 : decode cX10_wantClause 173 = .ok (.putfield 170, 3) := by decide +kernel
theorem dX10_wantClause_176 : decode cX10_wantClause 176 = .ok (.return_, 1) := by decide +kernel
theorem dX10_house_0 : decode cX10_house 0 = .ok (.aload_n 0, 1) := by decide +kernel
theorem dX10_house_1 : decode cX10_house 1 = .ok (.iconst 0, 1) := by decide +kernel
theorem dX10_house_2 : decode cX10_house 2 = .ok (.putfield 118, 3) := by decide +kernel
theorem dX10_house_5 : decode cX10_house 5 = .ok (.aload_n 0, 1) := by decide +kernel
theorem dX10_house_6 : decode cX10_house 6 = .ok (.iconst 1, 1) := by decide +kernel
theorem dX10_house_7 : decode cX10_house 7 = .ok (.putfield 170, 3) := by decide +kernel
theorem dX10_house_10 : decode cX10_house 10 = .ok (.aload_n 0, 1) := by decide +kernel
theorem dX10_house_11 : decode cX10_house 11 = .ok (.iconst 0, 1) := by decide +kernel
theorem dX10_house_12 : decode cX10_house 12 = .ok (.putfield 180, 3) := by decide +kernel
theorem dX10_house_15 : decode cX10_house 15 = .ok (.iconst 0, 1) := by decide +kernel
theorem dX10_house_16 : decode cX10_house 16 = .ok (.istore_n 1, 1) := by decide +kernel
theorem dX10_house_17 : decode cX10_house 17 = .ok (.iload_n 1, 1) := by decide +kernel
theorem dX10_house_18 : decode cX10_house 18 = .ok (.bipush 8, 2) := by decide +kernel
theorem dX10_house_20 : decode cX10_house 20 = .ok (.if_icmp .ge 35, 3) := by decide +kernel
theorem dX10_house_23 : decode cX10_house 23 = .ok (.aload_n 0, 1) := by decide +kernel
theorem dX10_house_24 : decode cX10_house 24 = .ok (.getfield 41, 3) := by decide +kernel
theorem dX10_house_27 : decode cX10_house 27 = .ok (.iload_n 1, 1) := by decide +kernel
theorem dX10_house_28 : decode cX10_house 28 = .ok (.iconst 0, 1) := by decide +kernel
theorem dX10_house_29 : decode cX10_house 29 = .ok (.iastore, 1) := by decide +kernel
theorem dX10_house_30 : decode cX10_house 30 = .ok (.aload_n 0, 1) := by decide +kernel
theorem dX10_house_31 : decode cX10_house 31 = .ok (.getfield 44, 3) := by decide +kernel
theorem dX10_house_34 : decode cX10_house 34 = .ok (.iload_n 1, 1) := by decide +kernel
theorem dX10_house_35 : decode cX10_house 35 = .ok (.iconst 0, 1) := by decide +kernel
theorem dX10_house_36 : decode cX10_house 36 = .ok (.iastore, 1) := by decide +kernel
theorem dX10_house_37 : decode cX10_house 37 = .ok (.aload_n 0, 1) := by decide +kernel
theorem dX10_house_38 : decode cX10_house 38 = .ok (.getfield 50, 3) := by decide +kernel
theorem dX10_house_41 : decode cX10_house 41 = .ok (.iload_n 1, 1) := by decide +kernel
theorem dX10_house_42 : decode cX10_house 42 = .ok (.aload_n 0, 1) := by decide +kernel
theorem dX10_house_43 : decode cX10_house 43 = .ok (.getfield 25, 3) := by decide +kernel
theorem dX10_house_46 : decode cX10_house 46 = .ok (.iload_n 1, 1) := by decide +kernel
theorem dX10_house_47 : decode cX10_house 47 = .ok (.iaload, 1) := by decide +kernel
theorem dX10_house_48 : decode cX10_house 48 = .ok (.iastore, 1) := by decide +kernel
theorem dX10_house_49 : decode cX10_house 49 = .ok (.iinc 1 1, 3) := by decide +kernel
theorem dX10_house_52 : decode cX10_house 52 = .ok (.goto (-35), 3) := by decide +kernel
theorem dX10_house_55 : decode cX10_house 55 = .ok (.iconst 0, 1) := by decide +kernel
theorem dX10_house_56 : decode cX10_house 56 = .ok (.istore_n 1, 1) := by decide +kernel
theorem dX10_house_57 : decode cX10_house 57 = .ok (.iload_n 1, 1) := by decide +kernel
theorem dX10_house_58 : decode cX10_house 58 = .ok (.bipush 64, 2) := by decide +kernel
theorem dX10_house_60 : decode cX10_house 60 = .ok (.if_icmp .ge 16, 3) := by decide +kernel
theorem dX10_house_63 : decode cX10_house 63 = .ok (.aload_n 0, 1) := by decide +kernel
theorem dX10_house_64 : decode cX10_house 64 = .ok (.getfield 47, 3) := by decide +kernel
theorem dX10_house_67 : decode cX10_house 67 = .ok (.iload_n 1, 1) := by decide +kernel
theorem dX10_house_68 : decode cX10_house 68 = .ok (.iconst 0, 1) := by decide +kernel
theorem dX10_house_69 : decode cX10_house 69 = .ok (.iastore, 1) := by decide +kernel
theorem dX10_house_70 : decode cX10_house 70 = .ok (.iinc 1 1, 3) := by decide +kernel
theorem dX10_house_73 : decode cX10_house 73 = .ok (.goto (-16), 3) := by decide +kernel
theorem dX10_house_76 : decode cX10_house 76 = .ok (.aload_n 0, 1) := by decide +kernel
theorem dX10_house_77 : decode cX10_house 77 = .ok (.invokevirtual 174, 3) := by decide +kernel
theorem dX10_house_80 : decode cX10_house 80 = .ok (.aload_n 0, 1) := by decide +kernel
theorem dX10_house_81 : decode cX10_house 81 = .ok (.getfield 170, 3) := by decide +kernel
theorem dX10_house_84 : decode cX10_house 84 = .ok (.ifCond .eq 17, 3) := by decide +kernel
theorem dX10_house_87 : decode cX10_house 87 = .ok (.aload_n 0, 1) := by decide +kernel
theorem dX10_house_88 : decode cX10_house 88 = .ok (.getfield 134, 3) := by decide +kernel
theorem dX10_house_91 : decode cX10_house 91 = .ok (.ifCond .eq 10, 3) := by decide +kernel
theorem dX10_house_94 : decode cX10_house 94 = .ok (.aload_n 0, 1) := by decide +kernel
theorem dX10_house_95 : decode cX10_house 95 = .ok (.invokevirtual 217, 3) := by decide +kernel
theorem dX10_house_98 : decode cX10_house 98 = .ok (.goto (-18), 3) := by decide +kernel
theorem dX10_house_101 : decode cX10_house 101 = .ok (.aload_n 0, 1) := by decide +kernel
theorem dX10_house_102 : decode cX10_house 102 = .ok (.iconst 0, 1) := by decide +kernel
theorem dX10_house_103 : decode cX10_house 103 = .ok (.putfield 113, 3) := by decide +kernel
theorem dX10_house_106 : decode cX10_house 106 = .ok (.aload_n 0, 1) := by decide +kernel
theorem dX10_house_107 : decode cX10_house 107 = .ok (.getfield 170, 3) := by decide +kernel
theorem dX10_house_110 : decode cX10_house 110 = .ok (.ifCond .ne 11, 3) := by decide +kernel
theorem dX10_house_113 : decode cX10_house 113 = .ok (.bipush (-100), 2) := by decide +kernel
theorem dX10_house_115 : decode cX10_house 115 = .ok (.aload_n 0, 1) := by decide +kernel
theorem dX10_house_116 : decode cX10_house 116 = .ok (.getfield 121, 3) := by decide +kernel
theorem dX10_house_119 : decode cX10_house 119 = .ok (.isub, 1) := by decide +kernel
theorem dX10_house_120 : decode cX10_house 120 = .ok (.ireturn, 1) := by decide +kernel
theorem dX10_house_121 : decode cX10_house 121 = .ok (.aload_n 0, 1) := by decide +kernel
theorem dX10_house_122 : decode cX10_house 122 = .ok (.aload_n 0, 1) := by decide +kernel
theorem dX10_house_123 : decode cX10_house 123 = .ok (.getfield 180, 3) := by decide +kernel
theorem dX10_house_126 : decode cX10_house 126 = .ok (.putfield 102, 3) := by decide +kernel
theorem dX10_house_129 : decode cX10_house 129 = .ok (.iconst 0, 1) := by decide +kernel
theorem dX10_house_130 : decode cX10_house 130 = .ok (.istore_n 1, 1) := by decide +kernel
theorem dX10_house_131 : decode cX10_house 131 = .ok (.iload_n 1, 1) := by decide +kernel
theorem dX10_house_132 : decode cX10_house 132 = .ok (.bipush 8, 2) := by decide +kernel
theorem dX10_house_134 : decode cX10_house 134 = .ok (.if_icmp .ge 45, 3) := by decide +kernel
theorem dX10_house_137 : decode cX10_house 137 = .ok (.aload_n 0, 1) := by decide +kernel
theorem dX10_house_138 : decode cX10_house 138 = .ok (.getfield 7, 3) := by decide +kernel
theorem dX10_house_141 : decode cX10_house 141 = .ok (.iload_n 1, 1) := by decide +kernel
theorem dX10_house_142 : decode cX10_house 142 = .ok (.aload_n 0, 1) := by decide +kernel
theorem dX10_house_143 : decode cX10_house 143 = .ok (.getfield 41, 3) := by decide +kernel
theorem dX10_house_146 : decode cX10_house 146 = .ok (.iload_n 1, 1) := by decide +kernel
theorem dX10_house_147 : decode cX10_house 147 = .ok (.iaload, 1) := by decide +kernel
theorem dX10_house_148 : decode cX10_house 148 = .ok (.iastore, 1) := by decide +kernel
theorem dX10_house_149 : decode cX10_house 149 = .ok (.aload_n 0, 1) := by decide +kernel
theorem dX10_house_150 : decode cX10_house 150 = .ok (.getfield 13, 3) := by decide +kernel
theorem dX10_house_153 : decode cX10_house 153 = .ok (.iload_n 1, 1) := by decide +kernel
theorem dX10_house_154 : decode cX10_house 154 = .ok (.aload_n 0, 1) := by decide +kernel
theorem dX10_house_155 : decode cX10_house 155 = .ok (.getfield 44, 3) := by decide +kernel
theorem dX10_house_158 : decode cX10_house 158 = .ok (.iload_n 1, 1) := by decide +kernel
theorem dX10_house_159 : decode cX10_house 159 = .ok (.iaload, 1) := by decide +kernel
theorem dX10_house_160 : decode cX10_house 160 = .ok (.iastore, 1) := by decide +kernel
theorem dX10_house_161 : decode cX10_house 161 = .ok (.aload_n 0, 1) := by decide +kernel
theorem dX10_house_162 : decode cX10_house 162 = .ok (.getfield 25, 3) := by decide +kernel
theorem dX10_house_165 : decode cX10_house 165 = .ok (.iload_n 1, 1) := by decide +kernel
theorem dX10_house_166 : decode cX10_house 166 = .ok (.aload_n 0, 1) := by decide +kernel
theorem dX10_house_167 : decode cX10_house 167 = .ok (.getfield 50, 3) := by decide +kernel
theorem dX10_house_170 : decode cX10_house 170 = .ok (.iload_n 1, 1) := by decide +kernel
theorem dX10_house_171 : decode cX10_house 171 = .ok (.iaload, 1) := by decide +kernel
theorem dX10_house_172 : decode cX10_house 172 = .ok (.iastore, 1) := by decide +kernel
theorem dX10_house_173 : decode cX10_house 173 = .ok (.iinc 1 1, 3) := by decide +kernel
theorem dX10_house_176 : decode cX10_house 176 = .ok (.goto (-45), 3) := by decide +kernel
theorem dX10_house_179 : decode cX10_house 179 = .ok (.iconst 0, 1) := by decide +kernel
theorem dX10_house_180 : decode cX10_house 180 = .ok (.istore_n 1, 1) := by decide +kernel
theorem dX10_house_181 : decode cX10_house 181 = .ok (.iload_n 1, 1) := by decide +kernel
theorem dX10_house_182 : decode cX10_house 182 = .ok (.bipush 64, 2) := by decide +kernel
theorem dX10_house_184 : decode cX10_house 184 = .ok (.if_icmp .ge 21, 3) := by decide +kernel
theorem dX10_house_187 : decode cX10_house 187 = .ok (.aload_n 0, 1) := by decide +kernel
theorem dX10_house_188 : decode cX10_house 188 = .ok (.getfield 16, 3) := by decide +kernel
theorem dX10_house_191 : decode cX10_house 191 = .ok (.iload_n 1, 1) := by decide +kernel
theorem dX10_house_192 : decode cX10_house 192 = .ok (.aload_n 0, 1) := by decide +kernel
theorem dX10_house_193 : decode cX10_house 193 = .ok (.getfield 47, 3) := by decide +kernel
theorem dX10_house_196 : decode cX10_house 196 = .ok (.iload_n 1, 1) := by decide +kernel
theorem dX10_house_197 : decode cX10_house 197 = .ok (.iaload, 1) := by decide +kernel
theorem dX10_house_198 : decode cX10_house 198 = .ok (.iastore, 1) := by decide +kernel
theorem dX10_house_199 : decode cX10_house 199 = .ok (.iinc 1 1, 3) := by decide +kernel
theorem dX10_house_202 : decode cX10_house 202 = .ok (.goto (-21), 3) := by decide +kernel
theorem dX10_house_205 : decode cX10_house 205 = .ok (.iconst 0, 1) := by decide +kernel
theorem dX10_house_206 : decode cX10_house 206 = .ok (.istore_n 1, 1) := by decide +kernel
theorem dX10_house_207 : decode cX10_house 207 = .ok (.iload_n 1, 1) := by decide +kernel
theorem dX10_house_208 : decode cX10_house 208 = .ok (.bipush 40, 2) := by decide +kernel
theorem dX10_house_210 : decode cX10_house 210 = .ok (.if_icmp .ge 16, 3) := by decide +kernel
theorem dX10_house_213 : decode cX10_house 213 = .ok (.aload_n 0, 1) := by decide +kernel
theorem dX10_house_214 : decode cX10_house 214 = .ok (.getfield 19, 3) := by decide +kernel
theorem dX10_house_217 : decode cX10_house 217 = .ok (.iload_n 1, 1) := by decide +kernel
theorem dX10_house_218 : decode cX10_house 218 = .ok (.iconst (-1), 1) := by decide +kernel
theorem dX10_house_219 : decode cX10_house 219 = .ok (.iastore, 1) := by decide +kernel
theorem dX10_house_220 : decode cX10_house 220 = .ok (.iinc 1 1, 3) := by decide +kernel
theorem dX10_house_223 : decode cX10_house 223 = .ok (.goto (-16), 3) := by decide +kernel
theorem dX10_house_226 : decode cX10_house 226 = .ok (.iconst 0, 1) := by decide +kernel
theorem dX10_house_227 : decode cX10_house 227 = .ok (.istore_n 1, 1) := by decide +kernel
theorem dX10_house_228 : decode cX10_house 228 = .ok (.iload_n 1, 1) := by decide +kernel
theorem dX10_house_229 : decode cX10_house 229 = .ok (.bipush 10, 2) := by decide +kernel
theorem dX10_house_231 : decode cX10_house 231 = .ok (.if_icmp .ge 16, 3) := by decide +kernel
theorem dX10_house_234 : decode cX10_house 234 = .ok (.aload_n 0, 1) := by decide +kernel
theorem dX10_house_235 : decode cX10_house 235 = .ok (.getfield 22, 3) := by decide +kernel
theorem dX10_house_238 : decode cX10_house 238 = .ok (.iload_n 1, 1) := by decide +kernel
theorem dX10_house_239 : decode cX10_house 239 = .ok (.iconst 0, 1) := by decide +kernel
theorem dX10_house_240 : decode cX10_house 240 = .ok (.iastore, 1) := by decide +kernel
theorem dX10_house_241 : decode cX10_house 241 = .ok (.iinc 1 1, 3) := by decide +kernel
theorem dX10_house_244 : decode cX10_house 244 = .ok (.goto (-16), 3) := by decide +kernel
theorem dX10_house_247 : decode cX10_house 247 = .ok (.aload_n 0, 1) := by decide +kernel
theorem dX10_house_248 : decode cX10_house 248 = .ok (.iconst 0, 1) := by decide +kernel
theorem dX10_house_249 : decode cX10_house 249 = .ok (.putfield 220, 3) := by decide +kernel
theorem dX10_house_252 : decode cX10_house 252 = .ok (.aload_n 0, 1) := by decide +kernel
theorem dX10_house_253 : decode cX10_house 253 = .ok (.iconst 0, 1) := by decide +kernel
theorem dX10_house_254 : decode cX10_house 254 = .ok (.putfield 223, 3) := by decide +kernel
theorem dX10_house_257 : decode cX10_house 257 = .ok (.aload_n 0, 1) := by decide +kernel
theorem dX10_house_258 : decode cX10_house 258 = .ok (.getfield 102, 3) := by decide +kernel
theorem dX10_house_261 : decode cX10_house 261 = .ok (.ireturn, 1) := by decide +kernel
theorem dX10_person_0 : decode cX10_person 0 = .ok (.aload_n 0, 1) := by decide +kernel
theorem dX10_person_1 : decode cX10_person 1 = .ok (.getfield 102, 3) := by decide +kernel
theorem dX10_person_4 : decode cX10_person 4 = .ok (.bipush 8, 2) := by decide +kernel
theorem dX10_person_6 : decode cX10_person 6 = .ok (.if_icmp .ne 6, 3) := by decide +kernel
theorem dX10_person_9 : decode cX10_person 9 = .ok (.bipush (-2), 2) := by decide +kernel
theorem dX10_person_11 : decode cX10_person 11 = .ok (.ireturn, 1) := by decide +kernel
theorem dX10_person_12 : decode cX10_person 12 = .ok (.iconst 0, 1) := by decide +kernel
theorem dX10_person_13 : decode cX10_person 13 = .ok (.istore_n 1, 1) := by decide +kernel
theorem dX10_person_14 : decode cX10_person 14 = .ok (.iload_n 1, 1) := by decide +kernel
theorem dX10_person_15 : decode cX10_person 15 = .ok (.bipush 8, 2) := by decide +kernel
theorem dX10_person_17 : decode cX10_person 17 = .ok (.if_icmp .ge 56, 3) := by decide +kernel
theorem dX10_person_20 : decode cX10_person 20 = .ok (.aload_n 0, 1) := by decide +kernel
theorem dX10_person_21 : decode cX10_person 21 = .ok (.getfield 16, 3) := by decide +kernel
theorem dX10_person_24 : decode cX10_person 24 = .ok (.bipush 8, 2) := by decide +kernel
theorem dX10_person_26 : decode cX10_person 26 = .ok (.aload_n 0, 1) := by decide +kernel
theorem dX10_person_27 : decode cX10_person 27 = .ok (.getfield 102, 3) := by decide +kernel
theorem dX10_person_30 : decode cX10_person 30 = .ok (.imul, 1) := by decide +kernel
theorem dX10_person_31 : decode cX10_person 31 = .ok (.iload_n 1, 1) := by decide +kernel
theorem dX10_person_32 : decode cX10_person 32 = .ok (.iadd, 1) := by decide +kernel
theorem dX10_person_33 : decode cX10_person 33 = .ok (.iconst 0, 1) := by decide +kernel
theorem dX10_person_34 : decode cX10_person 34 = .ok (.iastore, 1) := by decide +kernel
theorem dX10_person_35 : decode cX10_person 35 = .ok (.aload_n 0, 1) := by decide +kernel
theorem dX10_person_36 : decode cX10_person 36 = .ok (.getfield 16, 3) := by decide +kernel
theorem dX10_person_39 : decode cX10_person 39 = .ok (.bipush 8, 2) := by decide +kernel
theorem dX10_person_41 : decode cX10_person 41 = .ok (.iload_n 1, 1) := by decide +kernel
theorem dX10_person_42 : decode cX10_person 42 = .ok (.imul, 1) := by decide +kernel
theorem dX10_person_43 : decode cX10_person 43 = .ok (.aload_n 0, 1) := by decide +kernel
theorem dX10_person_44 : decode cX10_person 44 = .ok (.getfield 102, 3) := by decide +kernel
theorem dX10_person_47 : decode cX10_person 47 = .ok (.iadd, 1) := by decide +kernel
theorem dX10_person_48 : decode cX10_person 48 = .ok (.iconst 0, 1) := by decide +kernel
theorem dX10_person_49 : decode cX10_person 49 = .ok (.iastore, 1) := by decide +kernel
theorem dX10_person_50 : decode cX10_person 50 = .ok (.aload_n 0, 1) := by decide +kernel
theorem dX10_person_51 : decode cX10_person 51 = .ok (.getfield 7, 3) := by decide +kernel
theorem dX10_person_54 : decode cX10_person 54 = .ok (.iload_n 1, 1) := by decide +kernel
theorem dX10_person_55 : decode cX10_person 55 = .ok (.dup2, 1) := by decide +kernel
theorem dX10_person_56 : decode cX10_person 56 = .ok (.iaload, 1) := by decide +kernel
theorem dX10_person_57 : decode cX10_person 57 = .ok (.iconst 1, 1) := by decide +kernel
theorem dX10_person_58 : decode cX10_person 58 = .ok (.aload_n 0, 1) := by decide +kernel
theorem dX10_person_59 : decode cX10_person 59 = .ok (.getfield 102, 3) := by decide +kernel
theorem dX10_person_62 : decode cX10_person 62 = .ok (.ishl, 1) := by decide +kernel
theorem dX10_person_63 : decode cX10_person 63 = .ok (.iconst (-1), 1) := by decide +kernel
theorem dX10_person_64 : decode cX10_person 64 = .ok (.ixor, 1) := by decide +kernel
theorem dX10_person_65 : decode cX10_person 65 = .ok (.iand, 1) := by decide +kernel
theorem dX10_person_66 : decode cX10_person 66 = .ok (.iastore, 1) := by decide +kernel
theorem dX10_person_67 : decode cX10_person 67 = .ok (.iinc 1 1, 3) := by decide +kernel
theorem dX10_person_70 : decode cX10_person 70 = .ok (.goto (-56), 3) := by decide +kernel
theorem dX10_person_73 : decode cX10_person 73 = .ok (.aload_n 0, 1) := by decide +kernel
theorem dX10_person_74 : decode cX10_person 74 = .ok (.getfield 7, 3) := by decide +kernel
theorem dX10_person_77 : decode cX10_person 77 = .ok (.aload_n 0, 1) := by decide +kernel
theorem dX10_person_78 : decode cX10_person 78 = .ok (.getfield 102, 3) := by decide +kernel
theorem dX10_person_81 : decode cX10_person 81 = .ok (.iconst 0, 1) := by decide +kernel
theorem dX10_person_82 : decode cX10_person 82 = .ok (.iastore, 1) := by decide +kernel
theorem dX10_person_83 : decode cX10_person 83 = .ok (.aload_n 0, 1) := by decide +kernel
theorem dX10_person_84 : decode cX10_person 84 = .ok (.getfield 13, 3) := by decide +kernel
theorem dX10_person_87 : decode cX10_person 87 = .ok (.aload_n 0, 1) := by decide +kernel
theorem dX10_person_88 : decode cX10_person 88 = .ok (.getfield 102, 3) := by decide +kernel
theorem dX10_person_91 : decode cX10_person 91 = .ok (.iconst 0, 1) := by decide +kernel
theorem dX10_person_92 : decode cX10_person 92 = .ok (.iastore, 1) := by decide +kernel
theorem dX10_person_93 : decode cX10_person 93 = .ok (.aload_n 0, 1) := by decide +kernel
theorem dX10_person_94 : decode cX10_person 94 = .ok (.dup, 1) := by decide +kernel
theorem dX10_person_95 : decode cX10_person 95 = .ok (.getfield 102, 3) := by decide +kernel
theorem dX10_person_98 : decode cX10_person 98 = .ok (.iconst 1, 1) := by decide +kernel
theorem dX10_person_99 : decode cX10_person 99 = .ok (.iadd, 1) := by decide +kernel
theorem dX10_person_100 : decode cX10_person 100 = .ok (.putfield 102, 3) := by decide +kernel
theorem dX10_person_103 : decode cX10_person 103 = .ok (.aload_n 0, 1) := by decide +kernel
theorem dX10_person_104 : decode cX10_person 104 = .ok (.getfield 102, 3) := by decide +kernel
theorem dX10_person_107 : decode cX10_person 107 = .ok (.iconst 1, 1) := by decide +kernel
theorem dX10_person_108 : decode cX10_person 108 = .ok (.isub, 1) := by decide +kernel
theorem dX10_person_109 : decode cX10_person 109 = .ok (.ireturn, 1) := by decide +kernel
theorem dX10_kin_0 : decode cX10_kin 0 = .ok (.aload_n 0, 1) := by decide +kernel
theorem dX10_kin_1 : decode cX10_kin 1 = .ok (.iload_n 1, 1) := by decide +kernel
theorem dX10_kin_2 : decode cX10_kin 2 = .ok (.iload_n 2, 1) := by decide +kernel
theorem dX10_kin_3 : decode cX10_kin 3 = .ok (.invokevirtual 226, 3) := by decide +kernel
theorem dX10_kin_6 : decode cX10_kin 6 = .ok (.ifCond .ne 5, 3) := by decide +kernel
theorem dX10_kin_9 : decode cX10_kin 9 = .ok (.iconst (-1), 1) := by decide +kernel
theorem dX10_kin_10 : decode cX10_kin 10 = .ok (.ireturn, 1) := by decide +kernel
theorem dX10_kin_11 : decode cX10_kin 11 = .ok (.aload_n 0, 1) := by decide +kernel
theorem dX10_kin_12 : decode cX10_kin 12 = .ok (.iload_n 1, 1) := by decide +kernel
theorem dX10_kin_13 : decode cX10_kin 13 = .ok (.iload_n 2, 1) := by decide +kernel
theorem dX10_kin_14 : decode cX10_kin 14 = .ok (.invokevirtual 230, 3) := by decide +kernel
theorem dX10_kin_17 : decode cX10_kin 17 = .ok (.iload_n 3, 1) := by decide +kernel
theorem dX10_kin_18 : decode cX10_kin 18 = .ok (.if_icmp .ne 5, 3) := by decide +kernel
theorem dX10_kin_21 : decode cX10_kin 21 = .ok (.iconst 0, 1) := by decide +kernel
theorem dX10_kin_22 : decode cX10_kin 22 = .ok (.ireturn, 1) := by decide +kernel
theorem dX10_kin_23 : decode cX10_kin 23 = .ok (.aload_n 0, 1) := by decide +kernel
theorem dX10_kin_24 : decode cX10_kin 24 = .ok (.getfield 7, 3) := by decide +kernel
theorem dX10_kin_27 : decode cX10_kin 27 = .ok (.iload_n 1, 1) := by decide +kernel
theorem dX10_kin_28 : decode cX10_kin 28 = .ok (.dup2, 1) := by decide +kernel
theorem dX10_kin_29 : decode cX10_kin 29 = .ok (.iaload, 1) := by decide +kernel
theorem dX10_kin_30 : decode cX10_kin 30 = .ok (.iconst 1, 1) := by decide +kernel
theorem dX10_kin_31 : decode cX10_kin 31 = .ok (.iload_n 2, 1) := by decide +kernel
theorem dX10_kin_32 : decode cX10_kin 32 = .ok (.ishl, 1) := by decide +kernel
theorem dX10_kin_33 : decode cX10_kin 33 = .ok (.ixor, 1) := by decide +kernel
theorem dX10_kin_34 : decode cX10_kin 34 = .ok (.iastore, 1) := by decide +kernel
theorem dX10_kin_35 : decode cX10_kin 35 = .ok (.aload_n 0, 1) := by decide +kernel
theorem dX10_kin_36 : decode cX10_kin 36 = .ok (.getfield 7, 3) := by decide +kernel
theorem dX10_kin_39 : decode cX10_kin 39 = .ok (.iload_n 2, 1) := by decide +kernel
theorem dX10_kin_40 : decode cX10_kin 40 = .ok (.dup2, 1) := by decide +kernel
theorem dX10_kin_41 : decode cX10_kin 41 = .ok (.iaload, 1) := by decide +kernel
theorem dX10_kin_42 : decode cX10_kin 42 = .ok (.iconst 1, 1) := by decide +kernel
theorem dX10_kin_43 : decode cX10_kin 43 = .ok (.iload_n 1, 1) := by decide +kernel
theorem dX10_kin_44 : decode cX10_kin 44 = .ok (.ishl, 1) := by decide +kernel
theorem dX10_kin_45 : decode cX10_kin 45 = .ok (.ixor, 1) := by decide +kernel
theorem dX10_kin_46 : decode cX10_kin 46 = .ok (.iastore, 1) := by decide +kernel
theorem dX10_kin_47 : decode cX10_kin 47 = .ok (.iconst 1, 1) := by decide +kernel
theorem dX10_kin_48 : decode cX10_kin 48 = .ok (.ireturn, 1) := by decide +kernel
theorem dX10_trust_0 : decode cX10_trust 0 = .ok (.aload_n 0, 1) := by decide +kernel
theorem dX10_trust_1 : decode cX10_trust 1 = .ok (.iload_n 1, 1) := by decide +kernel
theorem dX10_trust_2 : decode cX10_trust 2 = .ok (.iload_n 2, 1) := by decide +kernel
theorem dX10_trust_3 : decode cX10_trust 3 = .ok (.invokevirtual 226, 3) := by decide +kernel
theorem dX10_trust_6 : decode cX10_trust 6 = .ok (.ifCond .eq 13, 3) := by decide +kernel
theorem dX10_trust_9 : decode cX10_trust 9 = .ok (.iload_n 3, 1) := by decide +kernel
theorem dX10_trust_10 : decode cX10_trust 10 = .ok (.iconst 0, 1) := by decide +kernel
theorem dX10_trust_11 : decode cX10_trust 11 = .ok (.bipush 9, 2) := by decide +kernel
theorem dX10_trust_13 : decode cX10_trust 13 = .ok (.invokestatic 105, 3) := by decide +kernel
theorem dX10_trust_16 : decode cX10_trust 16 = .ok (.ifCond .ne 5, 3) := by decide +kernel
theorem dX10_trust_19 : decode cX10_trust 19 = .ok (.iconst (-1), 1) := by decide +kernel
theorem dX10_trust_20 : decode cX10_trust 20 = .ok (.ireturn, 1) := by decide +kernel
theorem dX10_trust_21 : decode cX10_trust 21 = .ok (.aload_n 0, 1) := by decide +kernel
theorem dX10_trust_22 : decode cX10_trust 22 = .ok (.getfield 16, 3) := by decide +kernel
theorem dX10_trust_25 : decode cX10_trust 25 = .ok (.bipush 8, 2) := by decide +kernel
theorem dX10_trust_27 : decode cX10_trust 27 = .ok (.iload_n 1, 1) := by decide +kernel
theorem dX10_trust_28 : decode cX10_trust 28 = .ok (.imul, 1) := by decide +kernel
theorem dX10_trust_29 : decode cX10_trust 29 = .ok (.iload_n 2, 1) := by decide +kernel
theorem dX10_trust_30 : decode cX10_trust 30 = .ok (.iadd, 1) := by decide +kernel
theorem dX10_trust_31 : decode cX10_trust 31 = .ok (.iaload, 1) := by decide +kernel
theorem dX10_trust_32 : decode cX10_trust 32 = .ok (.istore 4, 2) := by decide +kernel
theorem dX10_trust_34 : decode cX10_trust 34 = .ok (.aload_n 0, 1) := by decide +kernel
theorem dX10_trust_35 : decode cX10_trust 35 = .ok (.getfield 16, 3) := by decide +kernel
theorem dX10_trust_38 : decode cX10_trust 38 = .ok (.bipush 8, 2) := by decide +kernel
theorem dX10_trust_40 : decode cX10_trust 40 = .ok (.iload_n 1, 1) := by decide +kernel
theorem dX10_trust_41 : decode cX10_trust 41 = .ok (.imul, 1) := by decide +kernel
theorem dX10_trust_42 : decode cX10_trust 42 = .ok (.iload_n 2, 1) := by decide +kernel
theorem dX10_trust_43 : decode cX10_trust 43 = .ok (.iadd, 1) := by decide +kernel
theorem dX10_trust_44 : decode cX10_trust 44 = .ok (.iload_n 3, 1) := by decide +kernel
theorem dX10_trust_45 : decode cX10_trust 45 = .ok (.iastore, 1) := by decide +kernel
theorem dX10_trust_46 : decode cX10_trust 46 = .ok (.aload_n 0, 1) := by decide +kernel
theorem dX10_trust_47 : decode cX10_trust 47 = .ok (.getfield 16, 3) := by decide +kernel
theorem dX10_trust_50 : decode cX10_trust 50 = .ok (.bipush 8, 2) := by decide +kernel
theorem dX10_trust_52 : decode cX10_trust 52 = .ok (.iload_n 2, 1) := by decide +kernel
theorem dX10_trust_53 : decode cX10_trust 53 = .ok (.imul, 1) := by decide +kernel
theorem dX10_trust_54 : decode cX10_trust 54 = .ok (.iload_n 1, 1) := by decide +kernel
theorem dX10_trust_55 : decode cX10_trust 55 = .ok (.iadd, 1) := by decide +kernel
theorem dX10_trust_56 : decode cX10_trust 56 = .ok (.iload_n 3, 1) := by decide +kernel
theorem dX10_trust_57 : decode cX10_trust 57 = .ok (.iastore, 1) := by decide +kernel
theorem dX10_trust_58 : decode cX10_trust 58 = .ok (.iload 4, 2) := by decide +kernel
theorem dX10_trust_60 : decode cX10_trust 60 = .ok (.ireturn, 1) := by decide +kernel
theorem dX10_away_0 : decode cX10_away 0 = .ok (.aload_n 0, 1) := by decide +kernel
theorem dX10_away_1 : decode cX10_away 1 = .ok (.iload_n 1, 1) := by decide +kernel
theorem dX10_away_2 : decode cX10_away 2 = .ok (.invokevirtual 109, 3) := by decide +kernel
theorem dX10_away_5 : decode cX10_away 5 = .ok (.ifCond .eq 10, 3) := by decide +kernel
theorem dX10_away_8 : decode cX10_away 8 = .ok (.iload_n 2, 1) := by decide +kernel
theorem dX10_away_9 : decode cX10_away 9 = .ok (.invokestatic 233, 3) := by decide +kernel
theorem dX10_away_12 : decode cX10_away 12 = .ok (.ifCond .ne 5, 3) := by decide +kernel
theorem dX10_away_15 : decode cX10_away 15 = .ok (.iconst (-1), 1) := by decide +kernel
theorem dX10_away_16 : decode cX10_away 16 = .ok (.ireturn, 1) := by decide +kernel
theorem dX10_away_17 : decode cX10_away 17 = .ok (.aload_n 0, 1) := by decide +kernel
theorem dX10_away_18 : decode cX10_away 18 = .ok (.iload_n 1, 1) := by decide +kernel
theorem dX10_away_19 : decode cX10_away 19 = .ok (.iload_n 2, 1) := by decide +kernel
theorem dX10_away_20 : decode cX10_away 20 = .ok (.invokevirtual 236, 3) := by decide +kernel
theorem dX10_away_23 : decode cX10_away 23 = .ok (.iload_n 3, 1) := by decide +kernel
theorem dX10_away_24 : decode cX10_away 24 = .ok (.if_icmp .ne 5, 3) := by decide +kernel
theorem dX10_away_27 : decode cX10_away 27 = .ok (.iconst 0, 1) := by decide +kernel
theorem dX10_away_28 : decode cX10_away 28 = .ok (.ireturn, 1) := by decide +kernel
theorem dX10_away_29 : decode cX10_away 29 = .ok (.aload_n 0, 1) := by decide +kernel
theorem dX10_away_30 : decode cX10_away 30 = .ok (.getfield 13, 3) := by decide +kernel
theorem dX10_away_33 : decode cX10_away 33 = .ok (.iload_n 1, 1) := by decide +kernel
theorem dX10_away_34 : decode cX10_away 34 = .ok (.dup2, 1) := by decide +kernel
theorem dX10_away_35 : decode cX10_away 35 = .ok (.iaload, 1) := by decide +kernel
theorem dX10_away_36 : decode cX10_away 36 = .ok (.iconst 1, 1) := by decide +kernel
theorem dX10_away_37 : decode cX10_away 37 = .ok (.iload_n 2, 1) := by decide +kernel
theorem dX10_away_38 : decode cX10_away 38 = .ok (.ishl, 1) := by decide +kernel
theorem dX10_away_39 : decode cX10_away 39 = .ok (.ixor, 1) := by decide +kernel
theorem dX10_away_40 : decode cX10_away 40 = .ok (.iastore, 1) := by decide +kernel
theorem dX10_away_41 : decode cX10_away 41 = .ok (.iconst 1, 1) := by decide +kernel
theorem dX10_away_42 : decode cX10_away 42 = .ok (.ireturn, 1) := by decide +kernel
theorem dX10_isLaw_0 : decode cX10_isLaw 0 = .ok (.iload_n 0, 1) := by decide +kernel
theorem dX10_isLaw_1 : decode cX10_isLaw 1 = .ok (.iconst 0, 1) := by decide +kernel
theorem dX10_isLaw_2 : decode cX10_isLaw 2 = .ok (.bipush 7, 2) := by decide +kernel
theorem dX10_isLaw_4 : decode cX10_isLaw 4 = .ok (.invokestatic 105, 3) := by decide +kernel
theorem dX10_isLaw_7 : decode cX10_isLaw 7 = .ok (.ireturn, 1) := by decide +kernel
theorem dX10_set_0 : decode cX10_set 0 = .ok (.iload_n 1, 1) := by decide +kernel
theorem dX10_set_1 : decode cX10_set 1 = .ok (.invokestatic 239, 3) := by decide +kernel
theorem dX10_set_4 : decode cX10_set 4 = .ok (.ifCond .eq 28, 3) := by decide +kernel
theorem dX10_set_7 : decode cX10_set 7 = .ok (.iload_n 2, 1) := by decide +kernel
theorem dX10_set_8 : decode cX10_set 8 = .ok (.iconst 0, 1) := by decide +kernel
theorem dX10_set_9 : decode cX10_set 9 = .ok (.aload_n 0, 1) := by decide +kernel
theorem dX10_set_10 : decode cX10_set 10 = .ok (.getfield 28, 3) := by decide +kernel
theorem dX10_set_13 : decode cX10_set 13 = .ok (.iload_n 1, 1) := by decide +kernel
theorem dX10_set_14 : decode cX10_set 14 = .ok (.invokestatic 239, 3) := by decide +kernel
theorem dX10_set_17 : decode cX10_set 17 = .ok (.ifCond .eq 7, 3) := by decide +kernel
theorem dX10_set_20 : decode cX10_set 20 = .ok (.iload_n 1, 1) := by decide +kernel
theorem dX10_set_21 : decode cX10_set 21 = .ok (.goto 4, 3) := by decide +kernel
theorem dX10_set_24 : decode cX10_set 24 = .ok (.iconst 0, 1) := by decide +kernel
theorem dX10_set_25 : decode cX10_set 25 = .ok (.iaload, 1) := by decide +kernel
theorem dX10_set_26 : decode cX10_set 26 = .ok (.invokestatic 105, 3) := by decide +kernel
theorem dX10_set_29 : decode cX10_set 29 = .ok (.ifCond .ne 5, 3) := by decide +kernel
theorem dX10_set_32 : decode cX10_set 32 = .ok (.iconst (-1), 1) := by decide +kernel
theorem dX10_set_33 : decode cX10_set 33 = .ok (.ireturn, 1) := by decide +kernel
theorem dX10_set_34 : decode cX10_set 34 = .ok (.aload_n 0, 1) := by decide +kernel
theorem dX10_set_35 : decode cX10_set 35 = .ok (.getfield 25, 3) := by decide +kernel
theorem dX10_set_38 : decode cX10_set 38 = .ok (.iload_n 1, 1) := by decide +kernel
theorem dX10_set_39 : decode cX10_set 39 = .ok (.iaload, 1) := by decide +kernel
theorem dX10_set_40 : decode cX10_set 40 = .ok (.istore_n 3, 1) := by decide +kernel
theorem dX10_set_41 : decode cX10_set 41 = .ok (.aload_n 0, 1) := by decide +kernel
theorem dX10_set_42 : decode cX10_set 42 = .ok (.getfield 25, 3) := by decide +kernel
theorem dX10_set_45 : decode cX10_set 45 = .ok (.iload_n 1, 1) := by decide +kernel
theorem dX10_set_46 : decode cX10_set 46 = .ok (.iload_n 2, 1) := by decide +kernel
theorem dX10_set_47 : decode cX10_set 47 = .ok (.iastore, 1) := by decide +kernel
theorem dX10_set_48 : decode cX10_set 48 = .ok (.iload_n 3, 1) := by decide +kernel
theorem dX10_set_49 : decode cX10_set 49 = .ok (.ireturn, 1) := by decide +kernel
theorem dX10_law_0 : decode cX10_law 0 = .ok (.iload_n 1, 1) := by decide +kernel
theorem dX10_law_1 : decode cX10_law 1 = .ok (.invokestatic 239, 3) := by decide +kernel
theorem dX10_law_4 : decode cX10_law 4 = .ok (.ifCond .eq 12, 3) := by decide +kernel
theorem dX10_law_7 : decode cX10_law 7 = .ok (.aload_n 0, 1) := by decide +kernel
theorem dX10_law_8 : decode cX10_law 8 = .ok (.getfield 25, 3) := by decide +kernel
theorem dX10_law_11 : decode cX10_law 11 = .ok (.iload_n 1, 1) := by decide +kernel
theorem dX10_law_12 : decode cX10_law 12 = .ok (.iaload, 1) := by decide +kernel
theorem dX10_law_13 : decode cX10_law 13 = .ok (.goto 4, 3) := by decide +kernel
theorem dX10_law_16 : decode cX10_law 16 = .ok (.iconst (-1), 1) := by decide +kernel
theorem dX10_law_17 : decode cX10_law 17 = .ok (.ireturn, 1) := by decide +kernel
theorem dX10_orNobody_0 : decode cX10_orNobody 0 = .ok (.iload_n 0, 1) := by decide +kernel
theorem dX10_orNobody_1 : decode cX10_orNobody 1 = .ok (.ifCond .ge 8, 3) := by decide +kernel
theorem dX10_orNobody_4 : decode cX10_orNobody 4 = .ok (.bipush (-9), 2) := by decide +kernel
theorem dX10_orNobody_6 : decode cX10_orNobody 6 = .ok (.goto 4, 3) := by decide +kernel
theorem dX10_orNobody_9 : decode cX10_orNobody 9 = .ok (.iload_n 0, 1) := by decide +kernel
theorem dX10_orNobody_10 : decode cX10_orNobody 10 = .ok (.ireturn, 1) := by decide +kernel
theorem dX10_post_0 : decode cX10_post 0 = .ok (.iload_n 1, 1) := by decide +kernel
theorem dX10_post_1 : decode cX10_post 1 = .ok (.invokestatic 233, 3) := by decide +kernel
theorem dX10_post_4 : decode cX10_post 4 = .ok (.ifCond .eq 23, 3) := by decide +kernel
theorem dX10_post_7 : decode cX10_post 7 = .ok (.iload_n 2, 1) := by decide +kernel
theorem dX10_post_8 : decode cX10_post 8 = .ok (.invokestatic 242, 3) := by decide +kernel
theorem dX10_post_11 : decode cX10_post 11 = .ok (.ifCond .eq 16, 3) := by decide +kernel
theorem dX10_post_14 : decode cX10_post 14 = .ok (.iload_n 3, 1) := by decide +kernel
theorem dX10_post_15 : decode cX10_post 15 = .ok (.iconst (-1), 1) := by decide +kernel
theorem dX10_post_16 : decode cX10_post 16 = .ok (.if_icmp .eq 13, 3) := by decide +kernel
theorem dX10_post_19 : decode cX10_post 19 = .ok (.aload_n 0, 1) := by decide +kernel
theorem dX10_post_20 : decode cX10_post 20 = .ok (.iload_n 3, 1) := by decide +kernel
theorem dX10_post_21 : decode cX10_post 21 = .ok (.invokevirtual 109, 3) := by decide +kernel
theorem dX10_post_24 : decode cX10_post 24 = .ok (.ifCond .ne 5, 3) := by decide +kernel
theorem dX10_post_27 : decode cX10_post 27 = .ok (.iconst (-1), 1) := by decide +kernel
theorem dX10_post_28 : decode cX10_post 28 = .ok (.ireturn, 1) := by decide +kernel
theorem dX10_post_29 : decode cX10_post 29 = .ok (.aload_n 0, 1) := by decide +kernel
theorem dX10_post_30 : decode cX10_post 30 = .ok (.getfield 19, 3) := by decide +kernel
theorem dX10_post_33 : decode cX10_post 33 = .ok (.iconst 4, 1) := by decide +kernel
theorem dX10_post_34 : decode cX10_post 34 = .ok (.iload_n 1, 1) := by decide +kernel
theorem dX10_post_35 : decode cX10_post 35 = .ok (.imul, 1) := by decide +kernel
theorem dX10_post_36 : decode cX10_post 36 = .ok (.iload_n 2, 1) := by decide +kernel
theorem dX10_post_37 : decode cX10_post 37 = .ok (.iadd, 1) := by decide +kernel
theorem dX10_post_38 : decode cX10_post 38 = .ok (.iaload, 1) := by decide +kernel
theorem dX10_post_39 : decode cX10_post 39 = .ok (.istore 4, 2) := by decide +kernel
theorem dX10_post_41 : decode cX10_post 41 = .ok (.aload_n 0, 1) := by decide +kernel
theorem dX10_post_42 : decode cX10_post 42 = .ok (.getfield 19, 3) := by decide +kernel
theorem dX10_post_45 : decode cX10_post 45 = .ok (.iconst 4, 1) := by decide +kernel
theorem dX10_post_46 : decode cX10_post 46 = .ok (.iload_n 1, 1) := by decide +kernel
theorem dX10_post_47 : decode cX10_post 47 = .ok (.imul, 1) := by decide +kernel
theorem dX10_post_48 : decode cX10_post 48 = .ok (.iload_n 2, 1) := by decide +kernel
theorem dX10_post_49 : decode cX10_post 49 = .ok (.iadd, 1) := by decide +kernel
theorem dX10_post_50 : decode cX10_post 50 = .ok (.iload_n 3, 1) := by decide +kernel
theorem dX10_post_51 : decode cX10_post 51 = .ok (.iastore, 1) := by decide +kernel
theorem dX10_post_52 : decode cX10_post 52 = .ok (.iload 4, 2) := by decide +kernel
theorem dX10_post_54 : decode cX10_post 54 = .ok (.invokestatic 245, 3) := by decide +kernel
theorem dX10_post_57 : decode cX10_post 57 = .ok (.ireturn, 1) := by decide +kernel
theorem dX10_postOf_0 : decode cX10_postOf 0 = .ok (.iload_n 1, 1) := by decide +kernel
theorem dX10_postOf_1 : decode cX10_postOf 1 = .ok (.invokestatic 233, 3) := by decide +kernel
theorem dX10_postOf_4 : decode cX10_postOf 4 = .ok (.ifCond .eq 26, 3) := by decide +kernel
theorem dX10_postOf_7 : decode cX10_postOf 7 = .ok (.iload_n 2, 1) := by decide +kernel
theorem dX10_postOf_8 : decode cX10_postOf 8 = .ok (.invokestatic 242, 3) := by decide +kernel
theorem dX10_postOf_11 : decode cX10_postOf 11 = .ok (.ifCond .eq 19, 3) := by decide +kernel
theorem dX10_postOf_14 : decode cX10_postOf 14 = .ok (.aload_n 0, 1) := by decide +kernel
theorem dX10_postOf_15 : decode cX10_postOf 15 = .ok (.getfield 19, 3) := by decide +kernel
theorem dX10_postOf_18 : decode cX10_postOf 18 = .ok (.iconst 4, 1) := by decide +kernel
theorem dX10_postOf_19 : decode cX10_postOf 19 = .ok (.iload_n 1, 1) := by decide +kernel
theorem dX10_postOf_20 : decode cX10_postOf 20 = .ok (.imul, 1) := by decide +kernel
theorem dX10_postOf_21 : decode cX10_postOf 21 = .ok (.iload_n 2, 1) := by decide +kernel
theorem dX10_postOf_22 : decode cX10_postOf 22 = .ok (.iadd, 1) := by decide +kernel
theorem dX10_postOf_23 : decode cX10_postOf 23 = .ok (.iaload, 1) := by decide +kernel
theorem dX10_postOf_24 : decode cX10_postOf 24 = .ok (.invokestatic 245, 3) := by decide +kernel
theorem dX10_postOf_27 : decode cX10_postOf 27 = .ok (.goto 4, 3) := by decide +kernel
theorem dX10_postOf_30 : decode cX10_postOf 30 = .ok (.iconst (-1), 1) := by decide +kernel
theorem dX10_postOf_31 : decode cX10_postOf 31 = .ok (.ireturn, 1) := by decide +kernel
theorem dX10_surprise_0 : decode cX10_surprise 0 = .ok (.iload_n 1, 1) := by decide +kernel
theorem dX10_surprise_1 : decode cX10_surprise 1 = .ok (.invokestatic 233, 3) := by decide +kernel
theorem dX10_surprise_4 : decode cX10_surprise 4 = .ok (.ifCond .ne 5, 3) := by decide +kernel
theorem dX10_surprise_7 : decode cX10_surprise 7 = .ok (.iconst (-1), 1) := by decide +kernel
theorem dX10_surprise_8 : decode cX10_surprise 8 = .ok (.ireturn, 1) := by decide +kernel
theorem dX10_surprise_9 : decode cX10_surprise 9 = .ok (.aload_n 0, 1) := by decide +kernel
theorem dX10_surprise_10 : decode cX10_surprise 10 = .ok (.getfield 220, 3) := by decide +kernel
theorem dX10_surprise_13 : decode cX10_surprise 13 = .ok (.iload_n 1, 1) := by decide +kernel
theorem dX10_surprise_14 : decode cX10_surprise 14 = .ok (.ishr, 1) := by decide +kernel
theorem dX10_surprise_15 : decode cX10_surprise 15 = .ok (.iconst 1, 1) := by decide +kernel
theorem dX10_surprise_16 : decode cX10_surprise 16 = .ok (.iand, 1) := by decide +kernel
theorem dX10_surprise_17 : decode cX10_surprise 17 = .ok (.iconst 1, 1) := by decide +kernel
theorem dX10_surprise_18 : decode cX10_surprise 18 = .ok (.if_icmp .ne 7, 3) := by decide +kernel
theorem dX10_surprise_21 : decode cX10_surprise 21 = .ok (.iconst 1, 1) := by decide +kernel
theorem dX10_surprise_22 : decode cX10_surprise 22 = .ok (.goto 4, 3) := by decide +kernel
theorem dX10_surprise_25 : decode cX10_surprise 25 = .ok (.iconst 0, 1) := by decide +kernel
theorem dX10_surprise_26 : decode cX10_surprise 26 = .ok (.iload_n 2, 1) := by decide +kernel
theorem dX10_surprise_27 : decode cX10_surprise 27 = .ok (.if_icmp .ne 5, 3) := by decide +kernel
theorem dX10_surprise_30 : decode cX10_surprise 30 = .ok (.iconst 0, 1) := by decide +kernel
theorem dX10_surprise_31 : decode cX10_surprise 31 = .ok (.ireturn, 1) := by decide +kernel
theorem dX10_surprise_32 : decode cX10_surprise 32 = .ok (.aload_n 0, 1) := by decide +kernel
theorem dX10_surprise_33 : decode cX10_surprise 33 = .ok (.dup, 1) := by decide +kernel
theorem dX10_surprise_34 : decode cX10_surprise 34 = .ok (.getfield 220, 3) := by decide +kernel
theorem dX10_surprise_37 : decode cX10_surprise 37 = .ok (.iconst 1, 1) := by decide +kernel
theorem dX10_surprise_38 : decode cX10_surprise 38 = .ok (.iload_n 1, 1) := by decide +kernel
theorem dX10_surprise_39 : decode cX10_surprise 39 = .ok (.ishl, 1) := by decide +kernel
theorem dX10_surprise_40 : decode cX10_surprise 40 = .ok (.ixor, 1) := by decide +kernel
theorem dX10_surprise_41 : decode cX10_surprise 41 = .ok (.putfield 220, 3) := by decide +kernel
theorem dX10_surprise_44 : decode cX10_surprise 44 = .ok (.iconst 1, 1) := by decide +kernel
theorem dX10_surprise_45 : decode cX10_surprise 45 = .ok (.ireturn, 1) := by decide +kernel
theorem dX10_loss_0 : decode cX10_loss 0 = .ok (.iload_n 1, 1) := by decide +kernel
theorem dX10_loss_1 : decode cX10_loss 1 = .ok (.invokestatic 233, 3) := by decide +kernel
theorem dX10_loss_4 : decode cX10_loss 4 = .ok (.ifCond .eq 13, 3) := by decide +kernel
theorem dX10_loss_7 : decode cX10_loss 7 = .ok (.iload_n 2, 1) := by decide +kernel
theorem dX10_loss_8 : decode cX10_loss 8 = .ok (.iconst 0, 1) := by decide +kernel
theorem dX10_loss_9 : decode cX10_loss 9 = .ok (.bipush 99, 2) := by decide +kernel
theorem dX10_loss_11 : decode cX10_loss 11 = .ok (.invokestatic 105, 3) := by decide +kernel
theorem dX10_loss_14 : decode cX10_loss 14 = .ok (.ifCond .ne 5, 3) := by decide +kernel
theorem dX10_loss_17 : decode cX10_loss 17 = .ok (.iconst (-1), 1) := by decide +kernel
theorem dX10_loss_18 : decode cX10_loss 18 = .ok (.ireturn, 1) := by decide +kernel
theorem dX10_loss_19 : decode cX10_loss 19 = .ok (.aload_n 0, 1) := by decide +kernel
theorem dX10_loss_20 : decode cX10_loss 20 = .ok (.getfield 22, 3) := by decide +kernel
theorem dX10_loss_23 : decode cX10_loss 23 = .ok (.iload_n 1, 1) := by decide +kernel
theorem dX10_loss_24 : decode cX10_loss 24 = .ok (.iaload, 1) := by decide +kernel
theorem dX10_loss_25 : decode cX10_loss 25 = .ok (.istore_n 3, 1) := by decide +kernel
theorem dX10_loss_26 : decode cX10_loss 26 = .ok (.aload_n 0, 1) := by decide +kernel
theorem dX10_loss_27 : decode cX10_loss 27 = .ok (.getfield 22, 3) := by decide +kernel
theorem dX10_loss_30 : decode cX10_loss 30 = .ok (.iload_n 1, 1) := by decide +kernel
theorem dX10_loss_31 : decode cX10_loss 31 = .ok (.iload_n 2, 1) := by decide +kernel
theorem dX10_loss_32 : decode cX10_loss 32 = .ok (.iastore, 1) := by decide +kernel
theorem dX10_loss_33 : decode cX10_loss 33 = .ok (.iload_n 3, 1) := by decide +kernel
theorem dX10_loss_34 : decode cX10_loss 34 = .ok (.ireturn, 1) := by decide +kernel
theorem dX10_twoOn_0 : decode cX10_twoOn 0 = .ok (.aload_n 0, 1) := by decide +kernel
theorem dX10_twoOn_1 : decode cX10_twoOn 1 = .ok (.getfield 19, 3) := by decide +kernel
theorem dX10_twoOn_4 : decode cX10_twoOn 4 = .ok (.iconst 4, 1) := by decide +kernel
theorem dX10_twoOn_5 : decode cX10_twoOn 5 = .ok (.iload_n 1, 1) := by decide +kernel
theorem dX10_twoOn_6 : decode cX10_twoOn 6 = .ok (.imul, 1) := by decide +kernel
theorem dX10_twoOn_7 : decode cX10_twoOn 7 = .ok (.iaload, 1) := by decide +kernel
theorem dX10_twoOn_8 : decode cX10_twoOn 8 = .ok (.istore_n 2, 1) := by decide +kernel
theorem dX10_twoOn_9 : decode cX10_twoOn 9 = .ok (.aload_n 0, 1) := by decide +kernel
theorem dX10_twoOn_10 : decode cX10_twoOn 10 = .ok (.getfield 19, 3) := by decide +kernel
theorem dX10_twoOn_13 : decode cX10_twoOn 13 = .ok (.iconst 4, 1) := by decide +kernel
theorem dX10_twoOn_14 : decode cX10_twoOn 14 = .ok (.iload_n 1, 1) := by decide +kernel
theorem dX10_twoOn_15 : decode cX10_twoOn 15 = .ok (.imul, 1) := by decide +kernel
theorem dX10_twoOn_16 : decode cX10_twoOn 16 = .ok (.iconst 1, 1) := by decide +kernel
theorem dX10_twoOn_17 : decode cX10_twoOn 17 = .ok (.iadd, 1) := by decide +kernel
theorem dX10_twoOn_18 : decode cX10_twoOn 18 = .ok (.iaload, 1) := by decide +kernel
theorem dX10_twoOn_19 : decode cX10_twoOn 19 = .ok (.istore_n 3, 1) := by decide +kernel
theorem dX10_twoOn_20 : decode cX10_twoOn 20 = .ok (.iload_n 2, 1) := by decide +kernel
theorem dX10_twoOn_21 : decode cX10_twoOn 21 = .ok (.ifCond .lt 12, 3) := by decide +kernel
theorem dX10_twoOn_24 : decode cX10_twoOn 24 = .ok (.iload_n 3, 1) := by decide +kernel
theorem dX10_twoOn_25 : decode cX10_twoOn 25 = .ok (.ifCond .lt 8, 3) := by decide +kernel
theorem dX10_twoOn_28 : decode cX10_twoOn 28 = .ok (.iload_n 2, 1) := by decide +kernel
theorem dX10_twoOn_29 : decode cX10_twoOn 29 = .ok (.iload_n 3, 1) := by decide +kernel
theorem dX10_twoOn_30 : decode cX10_twoOn 30 = .ok (.if_icmp .ne 5, 3) := by decide +kernel
theorem dX10_twoOn_33 : decode cX10_twoOn 33 = .ok (.iconst (-1), 1) := by decide +kernel
theorem dX10_twoOn_34 : decode cX10_twoOn 34 = .ok (.ireturn, 1) := by decide +kernel
theorem dX10_twoOn_35 : decode cX10_twoOn 35 = .ok (.iload_n 2, 1) := by decide +kernel
theorem dX10_twoOn_36 : decode cX10_twoOn 36 = .ok (.iload_n 3, 1) := by decide +kernel
theorem dX10_twoOn_37 : decode cX10_twoOn 37 = .ok (.if_icmp .ge 12, 3) := by decide +kernel
theorem dX10_twoOn_40 : decode cX10_twoOn 40 = .ok (.bipush 8, 2) := by decide +kernel
theorem dX10_twoOn_42 : decode cX10_twoOn 42 = .ok (.iload_n 2, 1) := by decide +kernel
theorem dX10_twoOn_43 : decode cX10_twoOn 43 = .ok (.imul, 1) := by decide +kernel
theorem dX10_twoOn_44 : decode cX10_twoOn 44 = .ok (.iload_n 3, 1) := by decide +kernel
theorem dX10_twoOn_45 : decode cX10_twoOn 45 = .ok (.iadd, 1) := by decide +kernel
theorem dX10_twoOn_46 : decode cX10_twoOn 46 = .ok (.goto 9, 3) := by decide +kernel
theorem dX10_twoOn_49 : decode cX10_twoOn 49 = .ok (.bipush 8, 2) := by decide +kernel
theorem dX10_twoOn_51 : decode cX10_twoOn 51 = .ok (.iload_n 3, 1) := by decide +kernel
theorem dX10_twoOn_52 : decode cX10_twoOn 52 = .ok (.imul, 1) := by decide +kernel
theorem dX10_twoOn_53 : decode cX10_twoOn 53 = .ok (.iload_n 2, 1) := by decide +kernel
theorem dX10_twoOn_54 : decode cX10_twoOn 54 = .ok (.iadd, 1) := by decide +kernel
theorem dX10_twoOn_55 : decode cX10_twoOn 55 = .ok (.ireturn, 1) := by decide +kernel
theorem dX10_pair_0 : decode cX10_pair 0 = .ok (.iload_n 0, 1) := by decide +kernel
theorem dX10_pair_1 : decode cX10_pair 1 = .ok (.iload_n 1, 1) := by decide +kernel
theorem dX10_pair_2 : decode cX10_pair 2 = .ok (.if_icmp .ge 12, 3) := by decide +kernel
theorem dX10_pair_5 : decode cX10_pair 5 = .ok (.bipush 8, 2) := by decide +kernel
theorem dX10_pair_7 : decode cX10_pair 7 = .ok (.iload_n 0, 1) := by decide +kernel
theorem dX10_pair_8 : decode cX10_pair 8 = .ok (.imul, 1) := by decide +kernel
theorem dX10_pair_9 : decode cX10_pair 9 = .ok (.iload_n 1, 1) := by decide +kernel
theorem dX10_pair_10 : decode cX10_pair 10 = .ok (.iadd, 1) := by decide +kernel
theorem dX10_pair_11 : decode cX10_pair 11 = .ok (.goto 9, 3) := by decide +kernel
theorem dX10_pair_14 : decode cX10_pair 14 = .ok (.bipush 8, 2) := by decide +kernel
theorem dX10_pair_16 : decode cX10_pair 16 = .ok (.iload_n 1, 1) := by decide +kernel
theorem dX10_pair_17 : decode cX10_pair 17 = .ok (.imul, 1) := by decide +kernel
theorem dX10_pair_18 : decode cX10_pair 18 = .ok (.iload_n 0, 1) := by decide +kernel
theorem dX10_pair_19 : decode cX10_pair 19 = .ok (.iadd, 1) := by decide +kernel
theorem dX10_pair_20 : decode cX10_pair 20 = .ok (.ireturn, 1) := by decide +kernel
theorem dX10_trustOf_0 : decode cX10_trustOf 0 = .ok (.aload_n 0, 1) := by decide +kernel
theorem dX10_trustOf_1 : decode cX10_trustOf 1 = .ok (.getfield 16, 3) := by decide +kernel
theorem dX10_trustOf_4 : decode cX10_trustOf 4 = .ok (.bipush 8, 2) := by decide +kernel
theorem dX10_trustOf_6 : decode cX10_trustOf 6 = .ok (.iload_n 1, 1) := by decide +kernel
theorem dX10_trustOf_7 : decode cX10_trustOf 7 = .ok (.imul, 1) := by decide +kernel
theorem dX10_trustOf_8 : decode cX10_trustOf 8 = .ok (.iload_n 2, 1) := by decide +kernel
theorem dX10_trustOf_9 : decode cX10_trustOf 9 = .ok (.iadd, 1) := by decide +kernel
theorem dX10_trustOf_10 : decode cX10_trustOf 10 = .ok (.iaload, 1) := by decide +kernel
theorem dX10_trustOf_11 : decode cX10_trustOf 11 = .ok (.istore 4, 2) := by decide +kernel
theorem dX10_trustOf_13 : decode cX10_trustOf 13 = .ok (.iconst 0, 1) := by decide +kernel
theorem dX10_trustOf_14 : decode cX10_trustOf 14 = .ok (.istore 5, 2) := by decide +kernel
theorem dX10_trustOf_16 : decode cX10_trustOf 16 = .ok (.iload 5, 2) := by decide +kernel
theorem dX10_trustOf_18 : decode cX10_trustOf 18 = .ok (.iload_n 3, 1) := by decide +kernel
theorem dX10_trustOf_19 : decode cX10_trustOf 19 = .ok (.if_icmp .ge 70, 3) := by decide +kernel
theorem dX10_trustOf_22 : decode cX10_trustOf 22 = .ok (.aload_n 0, 1) := by decide +kernel
theorem dX10_trustOf_23 : decode cX10_trustOf 23 = .ok (.iload 5, 2) := by decide +kernel
theorem dX10_trustOf_25 : decode cX10_trustOf 25 = .ok (.invokevirtual 248, 3) := by decide +kernel
theorem dX10_trustOf_28 : decode cX10_trustOf 28 = .ok (.iload_n 1, 1) := by decide +kernel
theorem dX10_trustOf_29 : decode cX10_trustOf 29 = .ok (.iload_n 2, 1) := by decide +kernel
theorem dX10_trustOf_30 : decode cX10_trustOf 30 = .ok (.invokestatic 251, 3) := by decide +kernel
theorem dX10_trustOf_33 : decode cX10_trustOf 33 = .ok (.if_icmp .ne 24, 3) := by decide +kernel
theorem dX10_trustOf_36 : decode cX10_trustOf 36 = .ok (.iload 4, 2) := by decide +kernel
theorem dX10_trustOf_38 : decode cX10_trustOf 38 = .ok (.bipush 9, 2) := by decide +kernel
theorem dX10_trustOf_40 : decode cX10_trustOf 40 = .ok (.if_icmp .ge 10, 3) := by decide +kernel
theorem dX10_trustOf_43 : decode cX10_trustOf 43 = .ok (.iload 4, 2) := by decide +kernel
theorem dX10_trustOf_45 : decode cX10_trustOf 45 = .ok (.iconst 1, 1) := by decide +kernel
theorem dX10_trustOf_46 : decode cX10_trustOf 46 = .ok (.iadd, 1) := by decide +kernel
theorem dX10_trustOf_47 : decode cX10_trustOf 47 = .ok (.goto 5, 3) := by decide +kernel
theorem dX10_trustOf_50 : decode cX10_trustOf 50 = .ok (.bipush 9, 2) := by decide +kernel
theorem dX10_trustOf_52 : decode cX10_trustOf 52 = .ok (.istore 4, 2) := by decide +kernel
theorem dX10_trustOf_54 : decode cX10_trustOf 54 = .ok (.goto 29, 3) := by decide +kernel
theorem dX10_trustOf_57 : decode cX10_trustOf 57 = .ok (.iload 4, 2) := by decide +kernel
theorem dX10_trustOf_59 : decode cX10_trustOf 59 = .ok (.aload_n 0, 1) := by decide +kernel
theorem dX10_trustOf_60 : decode cX10_trustOf 60 = .ok (.getfield 25, 3) := by decide +kernel
theorem dX10_trustOf_63 : decode cX10_trustOf 63 = .ok (.iconst 5, 1) := by decide +kernel
theorem dX10_trustOf_64 : decode cX10_trustOf 64 = .ok (.iaload, 1) := by decide +kernel
theorem dX10_trustOf_65 : decode cX10_trustOf 65 = .ok (.if_icmp .le 15, 3) := by decide +kernel
theorem dX10_trustOf_68 : decode cX10_trustOf 68 = .ok (.iload 4, 2) := by decide +kernel
theorem dX10_trustOf_70 : decode cX10_trustOf 70 = .ok (.aload_n 0, 1) := by decide +kernel
theorem dX10_trustOf_71 : decode cX10_trustOf 71 = .ok (.getfield 25, 3) := by decide +kernel
theorem dX10_trustOf_74 : decode cX10_trustOf 74 = .ok (.iconst 5, 1) := by decide +kernel
theorem dX10_trustOf_75 : decode cX10_trustOf 75 = .ok (.iaload, 1) := by decide +kernel
theorem dX10_trustOf_76 : decode cX10_trustOf 76 = .ok (.isub, 1) := by decide +kernel
theorem dX10_trustOf_77 : decode cX10_trustOf 77 = .ok (.goto 4, 3) := by decide +kernel
theorem dX10_trustOf_80 : decode cX10_trustOf 80 = .ok (.iconst 0, 1) := by decide +kernel
theorem dX10_trustOf_81 : decode cX10_trustOf 81 = .ok (.istore 4, 2) := by decide +kernel
theorem dX10_trustOf_83 : decode cX10_trustOf 83 = .ok (.iinc 5 1, 3) := by decide +kernel
theorem dX10_trustOf_86 : decode cX10_trustOf 86 = .ok (.goto (-70), 3) := by decide +kernel
theorem dX10_trustOf_89 : decode cX10_trustOf 89 = .ok (.iload 4, 2) := by decide +kernel
theorem dX10_trustOf_91 : decode cX10_trustOf 91 = .ok (.ireturn, 1) := by decide +kernel
theorem dX10_trustOn_0 : decode cX10_trustOn 0 = .ok (.aload_n 0, 1) := by decide +kernel
theorem dX10_trustOn_1 : decode cX10_trustOn 1 = .ok (.iload_n 1, 1) := by decide +kernel
theorem dX10_trustOn_2 : decode cX10_trustOn 2 = .ok (.iload_n 2, 1) := by decide +kernel
theorem dX10_trustOn_3 : decode cX10_trustOn 3 = .ok (.invokevirtual 226, 3) := by decide +kernel
theorem dX10_trustOn_6 : decode cX10_trustOn 6 = .ok (.ifCond .eq 20, 3) := by decide +kernel
theorem dX10_trustOn_9 : decode cX10_trustOn 9 = .ok (.iload_n 3, 1) := by decide +kernel
theorem dX10_trustOn_10 : decode cX10_trustOn 10 = .ok (.invokestatic 233, 3) := by decide +kernel
theorem dX10_trustOn_13 : decode cX10_trustOn 13 = .ok (.ifCond .eq 13, 3) := by decide +kernel
theorem dX10_trustOn_16 : decode cX10_trustOn 16 = .ok (.aload_n 0, 1) := by decide +kernel
theorem dX10_trustOn_17 : decode cX10_trustOn 17 = .ok (.iload_n 1, 1) := by decide +kernel
theorem dX10_trustOn_18 : decode cX10_trustOn 18 = .ok (.iload_n 2, 1) := by decide +kernel
theorem dX10_trustOn_19 : decode cX10_trustOn 19 = .ok (.iload_n 3, 1) := by decide +kernel
theorem dX10_trustOn_20 : decode cX10_trustOn 20 = .ok (.invokevirtual 254, 3) := by decide +kernel
theorem dX10_trustOn_23 : decode cX10_trustOn 23 = .ok (.goto 4, 3) := by decide +kernel
theorem dX10_trustOn_26 : decode cX10_trustOn 26 = .ok (.iconst (-1), 1) := by decide +kernel
theorem dX10_trustOn_27 : decode cX10_trustOn 27 = .ok (.ireturn, 1) := by decide +kernel
theorem dX10_isNeither_0 : decode cX10_isNeither 0 = .ok (.aload_n 0, 1) := by decide +kernel
theorem dX10_isNeither_1 : decode cX10_isNeither 1 = .ok (.getfield 19, 3) := by decide +kernel
theorem dX10_isNeither_4 : decode cX10_isNeither 4 = .ok (.iconst 4, 1) := by decide +kernel
theorem dX10_isNeither_5 : decode cX10_isNeither 5 = .ok (.iload_n 1, 1) := by decide +kernel
theorem dX10_isNeither_6 : decode cX10_isNeither 6 = .ok (.imul, 1) := by decide +kernel
theorem dX10_isNeither_7 : decode cX10_isNeither 7 = .ok (.iload_n 2, 1) := by decide +kernel
theorem dX10_isNeither_8 : decode cX10_isNeither 8 = .ok (.iadd, 1) := by decide +kernel
theorem dX10_isNeither_9 : decode cX10_isNeither 9 = .ok (.iaload, 1) := by decide +kernel
theorem dX10_isNeither_10 : decode cX10_isNeither 10 = .ok (.istore 4, 2) := by decide +kernel
theorem dX10_isNeither_12 : decode cX10_isNeither 12 = .ok (.iload 4, 2) := by decide +kernel
theorem dX10_isNeither_14 : decode cX10_isNeither 14 = .ok (.ifCond .lt 51, 3) := by decide +kernel
theorem dX10_isNeither_17 : decode cX10_isNeither 17 = .ok (.aload_n 0, 1) := by decide +kernel
theorem dX10_isNeither_18 : decode cX10_isNeither 18 = .ok (.iload 4, 2) := by decide +kernel
theorem dX10_isNeither_20 : decode cX10_isNeither 20 = .ok (.ifCond .ge 7, 3) := by decide +kernel
theorem dX10_isNeither_23 : decode cX10_isNeither 23 = .ok (.iconst 0, 1) := by decide +kernel
theorem dX10_isNeither_24 : decode cX10_isNeither 24 = .ok (.goto 5, 3) := by decide +kernel
theorem dX10_isNeither_27 : decode cX10_isNeither 27 = .ok (.iload 4, 2) := by decide +kernel
theorem dX10_isNeither_29 : decode cX10_isNeither 29 = .ok (.iload_n 3, 1) := by decide +kernel
theorem dX10_isNeither_30 : decode cX10_isNeither 30 = .ok (.bipush 8, 2) := by decide +kernel
theorem dX10_isNeither_32 : decode cX10_isNeither 32 = .ok (.idiv, 1) := by decide +kernel
theorem dX10_isNeither_33 : decode cX10_isNeither 33 = .ok (.invokevirtual 230, 3) := by decide +kernel
theorem dX10_isNeither_36 : decode cX10_isNeither 36 = .ok (.ifCond .ne 29, 3) := by decide +kernel
theorem dX10_isNeither_39 : decode cX10_isNeither 39 = .ok (.aload_n 0, 1) := by decide +kernel
theorem dX10_isNeither_40 : decode cX10_isNeither 40 = .ok (.iload 4, 2) := by decide +kernel
theorem dX10_isNeither_42 : decode cX10_isNeither 42 = .ok (.ifCond .ge 7, 3) := by decide +kernel
theorem dX10_isNeither_45 : decode cX10_isNeither 45 = .ok (.iconst 0, 1) := by decide +kernel
theorem dX10_isNeither_46 : decode cX10_isNeither 46 = .ok (.goto 5, 3) := by decide +kernel
theorem dX10_isNeither_49 : decode cX10_isNeither 49 = .ok (.iload 4, 2) := by decide +kernel
theorem dX10_isNeither_51 : decode cX10_isNeither 51 = .ok (.iload_n 3, 1) := by decide +kernel
theorem dX10_isNeither_52 : decode cX10_isNeither 52 = .ok (.bipush 8, 2) := by decide +kernel
theorem dX10_isNeither_54 : decode cX10_isNeither 54 = .ok (.irem, 1) := by decide +kernel
theorem dX10_isNeither_55 : decode cX10_isNeither 55 = .ok (.invokevirtual 230, 3) := by decide +kernel
theorem dX10_isNeither_58 : decode cX10_isNeither 58 = .ok (.ifCond .ne 7, 3) := by decide +kernel
theorem dX10_isNeither_61 : decode cX10_isNeither 61 = .ok (.iconst 1, 1) := by decide +kernel
theorem dX10_isNeither_62 : decode cX10_isNeither 62 = .ok (.goto 4, 3) := by decide +kernel
theorem dX10_isNeither_65 : decode cX10_isNeither 65 = .ok (.iconst 0, 1) := by decide +kernel
theorem dX10_isNeither_66 : decode cX10_isNeither 66 = .ok (.ireturn, 1) := by decide +kernel
theorem dX10_seenBy_0 : decode cX10_seenBy 0 = .ok (.aload_n 0, 1) := by decide +kernel
theorem dX10_seenBy_1 : decode cX10_seenBy 1 = .ok (.iload_n 1, 1) := by decide +kernel
theorem dX10_seenBy_2 : decode cX10_seenBy 2 = .ok (.invokevirtual 248, 3) := by decide +kernel
theorem dX10_seenBy_5 : decode cX10_seenBy 5 = .ok (.istore_n 3, 1) := by decide +kernel
theorem dX10_seenBy_6 : decode cX10_seenBy 6 = .ok (.aload_n 0, 1) := by decide +kernel
theorem dX10_seenBy_7 : decode cX10_seenBy 7 = .ok (.getfield 25, 3) := by decide +kernel
theorem dX10_seenBy_10 : decode cX10_seenBy 10 = .ok (.iconst 2, 1) := by decide +kernel
theorem dX10_seenBy_11 : decode cX10_seenBy 11 = .ok (.iaload, 1) := by decide +kernel
theorem dX10_seenBy_12 : decode cX10_seenBy 12 = .ok (.iload_n 2, 1) := by decide +kernel
theorem dX10_seenBy_13 : decode cX10_seenBy 13 = .ok (.ifCond .eq 8, 3) := by decide +kernel
theorem dX10_seenBy_16 : decode cX10_seenBy 16 = .ok (.bipush 6, 2) := by decide +kernel
theorem dX10_seenBy_18 : decode cX10_seenBy 18 = .ok (.goto 4, 3) := by decide +kernel
theorem dX10_seenBy_21 : decode cX10_seenBy 21 = .ok (.iconst 0, 1) := by decide +kernel
theorem dX10_seenBy_22 : decode cX10_seenBy 22 = .ok (.iadd, 1) := by decide +kernel
theorem dX10_seenBy_23 : decode cX10_seenBy 23 = .ok (.istore 4, 2) := by decide +kernel
theorem dX10_seenBy_25 : decode cX10_seenBy 25 = .ok (.iload 4, 2) := by decide +kernel
theorem dX10_seenBy_27 : decode cX10_seenBy 27 = .ok (.aload_n 0, 1) := by decide +kernel
theorem dX10_seenBy_28 : decode cX10_seenBy 28 = .ok (.iload_n 1, 1) := by decide +kernel
theorem dX10_seenBy_29 : decode cX10_seenBy 29 = .ok (.iconst 3, 1) := by decide +kernel
theorem dX10_seenBy_30 : decode cX10_seenBy 30 = .ok (.iload_n 3, 1) := by decide +kernel
theorem dX10_seenBy_31 : decode cX10_seenBy 31 = .ok (.invokevirtual 258, 3) := by decide +kernel
theorem dX10_seenBy_34 : decode cX10_seenBy 34 = .ok (.ifCond .eq 12, 3) := by decide +kernel
theorem dX10_seenBy_37 : decode cX10_seenBy 37 = .ok (.aload_n 0, 1) := by decide +kernel
theorem dX10_seenBy_38 : decode cX10_seenBy 38 = .ok (.getfield 25, 3) := by decide +kernel
theorem dX10_seenBy_41 : decode cX10_seenBy 41 = .ok (.iconst 3, 1) := by decide +kernel
theorem dX10_seenBy_42 : decode cX10_seenBy 42 = .ok (.iaload, 1) := by decide +kernel
theorem dX10_seenBy_43 : decode cX10_seenBy 43 = .ok (.goto 4, 3) := by decide +kernel
theorem dX10_seenBy_46 : decode cX10_seenBy 46 = .ok (.iconst 0, 1) := by decide +kernel
theorem dX10_seenBy_47 : decode cX10_seenBy 47 = .ok (.iadd, 1) := by decide +kernel
theorem dX10_seenBy_48 : decode cX10_seenBy 48 = .ok (.istore 4, 2) := by decide +kernel
theorem dX10_seenBy_50 : decode cX10_seenBy 50 = .ok (.iload 4, 2) := by decide +kernel
theorem dX10_seenBy_52 : decode cX10_seenBy 52 = .ok (.aload_n 0, 1) := by decide +kernel
theorem dX10_seenBy_53 : decode cX10_seenBy 53 = .ok (.iload_n 1, 1) := by decide +kernel
theorem dX10_seenBy_54 : decode cX10_seenBy 54 = .ok (.iconst 2, 1) := by decide +kernel
theorem dX10_seenBy_55 : decode cX10_seenBy 55 = .ok (.iload_n 3, 1) := by decide +kernel
theorem dX10_seenBy_56 : decode cX10_seenBy 56 = .ok (.invokevirtual 258, 3) := by decide +kernel
theorem dX10_seenBy_59 : decode cX10_seenBy 59 = .ok (.ifCond .eq 12, 3) := by decide +kernel
theorem dX10_seenBy_62 : decode cX10_seenBy 62 = .ok (.aload_n 0, 1) := by decide +kernel
theorem dX10_seenBy_63 : decode cX10_seenBy 63 = .ok (.getfield 25, 3) := by decide +kernel
theorem dX10_seenBy_66 : decode cX10_seenBy 66 = .ok (.iconst 4, 1) := by decide +kernel
theorem dX10_seenBy_67 : decode cX10_seenBy 67 = .ok (.iaload, 1) := by decide +kernel
theorem dX10_seenBy_68 : decode cX10_seenBy 68 = .ok (.goto 4, 3) := by decide +kernel
theorem dX10_seenBy_71 : decode cX10_seenBy 71 = .ok (.iconst 0, 1) := by decide +kernel
theorem dX10_seenBy_72 : decode cX10_seenBy 72 = .ok (.iadd, 1) := by decide +kernel
theorem dX10_seenBy_73 : decode cX10_seenBy 73 = .ok (.istore 4, 2) := by decide +kernel
theorem dX10_seenBy_75 : decode cX10_seenBy 75 = .ok (.iload 4, 2) := by decide +kernel
theorem dX10_seenBy_77 : decode cX10_seenBy 77 = .ok (.bipush 12, 2) := by decide +kernel
theorem dX10_seenBy_79 : decode cX10_seenBy 79 = .ok (.if_icmp .le 8, 3) := by decide +kernel
theorem dX10_seenBy_82 : decode cX10_seenBy 82 = .ok (.bipush 12, 2) := by decide +kernel
theorem dX10_seenBy_84 : decode cX10_seenBy 84 = .ok (.goto 5, 3) := by decide +kernel
theorem dX10_seenBy_87 : decode cX10_seenBy 87 = .ok (.iload 4, 2) := by decide +kernel
theorem dX10_seenBy_89 : decode cX10_seenBy 89 = .ok (.ireturn, 1) := by decide +kernel
theorem dX10_isSurprise_0 : decode cX10_isSurprise 0 = .ok (.aload_n 0, 1) := by decide +kernel
theorem dX10_isSurprise_1 : decode cX10_isSurprise 1 = .ok (.getfield 220, 3) := by decide +kernel
theorem dX10_isSurprise_4 : decode cX10_isSurprise 4 = .ok (.iload_n 1, 1) := by decide +kernel
theorem dX10_isSurprise_5 : decode cX10_isSurprise 5 = .ok (.ishr, 1) := by decide +kernel
theorem dX10_isSurprise_6 : decode cX10_isSurprise 6 = .ok (.iconst 1, 1) := by decide +kernel
theorem dX10_isSurprise_7 : decode cX10_isSurprise 7 = .ok (.iand, 1) := by decide +kernel
theorem dX10_isSurprise_8 : decode cX10_isSurprise 8 = .ok (.iconst 1, 1) := by decide +kernel
theorem dX10_isSurprise_9 : decode cX10_isSurprise 9 = .ok (.if_icmp .ne 7, 3) := by decide +kernel
theorem dX10_isSurprise_12 : decode cX10_isSurprise 12 = .ok (.iconst 1, 1) := by decide +kernel
theorem dX10_isSurprise_13 : decode cX10_isSurprise 13 = .ok (.goto 4, 3) := by decide +kernel
theorem dX10_isSurprise_16 : decode cX10_isSurprise 16 = .ok (.iconst 0, 1) := by decide +kernel
theorem dX10_isSurprise_17 : decode cX10_isSurprise 17 = .ok (.ireturn, 1) := by decide +kernel
theorem dX10_seen_0 : decode cX10_seen 0 = .ok (.iload_n 1, 1) := by decide +kernel
theorem dX10_seen_1 : decode cX10_seen 1 = .ok (.invokestatic 233, 3) := by decide +kernel
theorem dX10_seen_4 : decode cX10_seen 4 = .ok (.ifCond .ne 5, 3) := by decide +kernel
theorem dX10_seen_7 : decode cX10_seen 7 = .ok (.iconst (-1), 1) := by decide +kernel
theorem dX10_seen_8 : decode cX10_seen 8 = .ok (.ireturn, 1) := by decide +kernel
theorem dX10_seen_9 : decode cX10_seen 9 = .ok (.aload_n 0, 1) := by decide +kernel
theorem dX10_seen_10 : decode cX10_seen 10 = .ok (.iload_n 1, 1) := by decide +kernel
theorem dX10_seen_11 : decode cX10_seen 11 = .ok (.invokevirtual 248, 3) := by decide +kernel
theorem dX10_seen_14 : decode cX10_seen 14 = .ok (.ifCond .ge 8, 3) := by decide +kernel
theorem dX10_seen_17 : decode cX10_seen 17 = .ok (.bipush (-3), 2) := by decide +kernel
theorem dX10_seen_19 : decode cX10_seen 19 = .ok (.goto 13, 3) := by decide +kernel
theorem dX10_seen_22 : decode cX10_seen 22 = .ok (.aload_n 0, 1) := by decide +kernel
theorem dX10_seen_23 : decode cX10_seen 23 = .ok (.iload_n 1, 1) := by decide +kernel
theorem dX10_seen_24 : decode cX10_seen 24 = .ok (.aload_n 0, 1) := by decide +kernel
theorem dX10_seen_25 : decode cX10_seen 25 = .ok (.iload_n 1, 1) := by decide +kernel
theorem dX10_seen_26 : decode cX10_seen 26 = .ok (.invokevirtual 261, 3) := by decide +kernel
theorem dX10_seen_29 : decode cX10_seen 29 = .ok (.invokevirtual 264, 3) := by decide +kernel
theorem dX10_seen_32 : decode cX10_seen 32 = .ok (.ireturn, 1) := by decide +kernel
theorem dX10_worthBy_0 : decode cX10_worthBy 0 = .ok (.aload_n 0, 1) := by decide +kernel
theorem dX10_worthBy_1 : decode cX10_worthBy 1 = .ok (.iload_n 1, 1) := by decide +kernel
theorem dX10_worthBy_2 : decode cX10_worthBy 2 = .ok (.invokevirtual 248, 3) := by decide +kernel
theorem dX10_worthBy_5 : decode cX10_worthBy 5 = .ok (.istore_n 3, 1) := by decide +kernel
theorem dX10_worthBy_6 : decode cX10_worthBy 6 = .ok (.bipush 12, 2) := by decide +kernel
theorem dX10_worthBy_8 : decode cX10_worthBy 8 = .ok (.aload_n 0, 1) := by decide +kernel
theorem dX10_worthBy_9 : decode cX10_worthBy 9 = .ok (.getfield 25, 3) := by decide +kernel
theorem dX10_worthBy_12 : decode cX10_worthBy 12 = .ok (.iconst 0, 1) := by decide +kernel
theorem dX10_worthBy_13 : decode cX10_worthBy 13 = .ok (.iaload, 1) := by decide +kernel
theorem dX10_worthBy_14 : decode cX10_worthBy 14 = .ok (.imul, 1) := by decide +kernel
theorem dX10_worthBy_15 : decode cX10_worthBy 15 = .ok (.aload_n 0, 1) := by decide +kernel
theorem dX10_worthBy_16 : decode cX10_worthBy 16 = .ok (.iload_n 3, 1) := by decide +kernel
theorem dX10_worthBy_17 : decode cX10_worthBy 17 = .ok (.bipush 8, 2) := by decide +kernel
theorem dX10_worthBy_19 : decode cX10_worthBy 19 = .ok (.idiv, 1) := by decide +kernel
theorem dX10_worthBy_20 : decode cX10_worthBy 20 = .ok (.iload_n 3, 1) := by decide +kernel
theorem dX10_worthBy_21 : decode cX10_worthBy 21 = .ok (.bipush 8, 2) := by decide +kernel
theorem dX10_worthBy_23 : decode cX10_worthBy 23 = .ok (.irem, 1) := by decide +kernel
theorem dX10_worthBy_24 : decode cX10_worthBy 24 = .ok (.iload_n 1, 1) := by decide +kernel
theorem dX10_worthBy_25 : decode cX10_worthBy 25 = .ok (.invokevirtual 254, 3) := by decide +kernel
theorem dX10_worthBy_28 : decode cX10_worthBy 28 = .ok (.imul, 1) := by decide +kernel
theorem dX10_worthBy_29 : decode cX10_worthBy 29 = .ok (.aload_n 0, 1) := by decide +kernel
theorem dX10_worthBy_30 : decode cX10_worthBy 30 = .ok (.getfield 25, 3) := by decide +kernel
theorem dX10_worthBy_33 : decode cX10_worthBy 33 = .ok (.iconst 1, 1) := by decide +kernel
theorem dX10_worthBy_34 : decode cX10_worthBy 34 = .ok (.iaload, 1) := by decide +kernel
theorem dX10_worthBy_35 : decode cX10_worthBy 35 = .ok (.aload_n 0, 1) := by decide +kernel
theorem dX10_worthBy_36 : decode cX10_worthBy 36 = .ok (.iload_n 1, 1) := by decide +kernel
theorem dX10_worthBy_37 : decode cX10_worthBy 37 = .ok (.iload_n 2, 1) := by decide +kernel
theorem dX10_worthBy_38 : decode cX10_worthBy 38 = .ok (.invokevirtual 264, 3) := by decide +kernel
theorem dX10_worthBy_41 : decode cX10_worthBy 41 = .ok (.imul, 1) := by decide +kernel
theorem dX10_worthBy_42 : decode cX10_worthBy 42 = .ok (.isub, 1) := by decide +kernel
theorem dX10_worthBy_43 : decode cX10_worthBy 43 = .ok (.ireturn, 1) := by decide +kernel
theorem dX10_worth_0 : decode cX10_worth 0 = .ok (.iload_n 1, 1) := by decide +kernel
theorem dX10_worth_1 : decode cX10_worth 1 = .ok (.invokestatic 233, 3) := by decide +kernel
theorem dX10_worth_4 : decode cX10_worth 4 = .ok (.ifCond .ne 5, 3) := by decide +kernel
theorem dX10_worth_7 : decode cX10_worth 7 = .ok (.iconst (-1), 1) := by decide +kernel
theorem dX10_worth_8 : decode cX10_worth 8 = .ok (.ireturn, 1) := by decide +kernel
theorem dX10_worth_9 : decode cX10_worth 9 = .ok (.aload_n 0, 1) := by decide +kernel
theorem dX10_worth_10 : decode cX10_worth 10 = .ok (.iload_n 1, 1) := by decide +kernel
theorem dX10_worth_11 : decode cX10_worth 11 = .ok (.invokevirtual 248, 3) := by decide +kernel
theorem dX10_worth_14 : decode cX10_worth 14 = .ok (.ifCond .ge 8, 3) := by decide +kernel
theorem dX10_worth_17 : decode cX10_worth 17 = .ok (.bipush (-3), 2) := by decide +kernel
theorem dX10_worth_19 : decode cX10_worth 19 = .ok (.goto 17, 3) := by decide +kernel
theorem dX10_worth_22 : decode cX10_worth 22 = .ok (.sipush 10000, 3) := by decide +kernel
theorem dX10_worth_25 : decode cX10_worth 25 = .ok (.aload_n 0, 1) := by decide +kernel
theorem dX10_worth_26 : decode cX10_worth 26 = .ok (.iload_n 1, 1) := by decide +kernel
theorem dX10_worth_27 : decode cX10_worth 27 = .ok (.aload_n 0, 1) := by decide +kernel
theorem dX10_worth_28 : decode cX10_worth 28 = .ok (.iload_n 1, 1) := by decide +kernel
theorem dX10_worth_29 : decode cX10_worth 29 = .ok (.invokevirtual 261, 3) := by decide +kernel
theorem dX10_worth_32 : decode cX10_worth 32 = .ok (.invokevirtual 268, 3) := by decide +kernel
theorem dX10_worth_35 : decode cX10_worth 35 = .ok (.iadd, 1) := by decide +kernel
theorem dX10_worth_36 : decode cX10_worth 36 = .ok (.ireturn, 1) := by decide +kernel
theorem dX10_paysBy_0 : decode cX10_paysBy 0 = .ok (.aload_n 0, 1) := by decide +kernel
theorem dX10_paysBy_1 : decode cX10_paysBy 1 = .ok (.iload_n 1, 1) := by decide +kernel
theorem dX10_paysBy_2 : decode cX10_paysBy 2 = .ok (.invokevirtual 248, 3) := by decide +kernel
theorem dX10_paysBy_5 : decode cX10_paysBy 5 = .ok (.ifCond .ge 5, 3) := by decide +kernel
theorem dX10_paysBy_8 : decode cX10_paysBy 8 = .ok (.iconst 0, 1) := by decide +kernel
theorem dX10_paysBy_9 : decode cX10_paysBy 9 = .ok (.ireturn, 1) := by decide +kernel
theorem dX10_paysBy_10 : decode cX10_paysBy 10 = .ok (.aload_n 0, 1) := by decide +kernel
theorem dX10_paysBy_11 : decode cX10_paysBy 11 = .ok (.iload_n 1, 1) := by decide +kernel
theorem dX10_paysBy_12 : decode cX10_paysBy 12 = .ok (.iload_n 2, 1) := by decide +kernel
theorem dX10_paysBy_13 : decode cX10_paysBy 13 = .ok (.invokevirtual 268, 3) := by decide +kernel
theorem dX10_paysBy_16 : decode cX10_paysBy 16 = .ok (.istore 4, 2) := by decide +kernel
theorem dX10_paysBy_18 : decode cX10_paysBy 18 = .ok (.iload 4, 2) := by decide +kernel
theorem dX10_paysBy_20 : decode cX10_paysBy 20 = .ok (.ifCond .le 16, 3) := by decide +kernel
theorem dX10_paysBy_23 : decode cX10_paysBy 23 = .ok (.iload 4, 2) := by decide +kernel
theorem dX10_paysBy_25 : decode cX10_paysBy 25 = .ok (.bipush 24, 2) := by decide +kernel
theorem dX10_paysBy_27 : decode cX10_paysBy 27 = .ok (.iload_n 3, 1) := by decide +kernel
theorem dX10_paysBy_28 : decode cX10_paysBy 28 = .ok (.imul, 1) := by decide +kernel
theorem dX10_paysBy_29 : decode cX10_paysBy 29 = .ok (.if_icmp .le 7, 3) := by decide +kernel
theorem dX10_paysBy_32 : decode cX10_paysBy 32 = .ok (.iconst 1, 1) := by decide +kernel
theorem dX10_paysBy_33 : decode cX10_paysBy 33 = .ok (.goto 4, 3) := by decide +kernel
theorem dX10_paysBy_36 : decode cX10_paysBy 36 = .ok (.iconst 0, 1) := by decide +kernel
theorem dX10_paysBy_37 : decode cX10_paysBy 37 = .ok (.ireturn, 1) := by decide +kernel
theorem dX10_pays_0 : decode cX10_pays 0 = .ok (.iconst 0, 1) := by decide +kernel
theorem dX10_pays_1 : decode cX10_pays 1 = .ok (.istore_n 1, 1) := by decide +kernel
theorem dX10_pays_2 : decode cX10_pays 2 = .ok (.iconst 0, 1) := by decide +kernel
theorem dX10_pays_3 : decode cX10_pays 3 = .ok (.istore_n 2, 1) := by decide +kernel
theorem dX10_pays_4 : decode cX10_pays 4 = .ok (.iload_n 2, 1) := by decide +kernel
theorem dX10_pays_5 : decode cX10_pays 5 = .ok (.bipush 10, 2) := by decide +kernel
theorem dX10_pays_7 : decode cX10_pays 7 = .ok (.if_icmp .ge 39, 3) := by decide +kernel
theorem dX10_pays_10 : decode cX10_pays 10 = .ok (.iload_n 1, 1) := by decide +kernel
theorem dX10_pays_11 : decode cX10_pays 11 = .ok (.aload_n 0, 1) := by decide +kernel
theorem dX10_pays_12 : decode cX10_pays 12 = .ok (.iload_n 2, 1) := by decide +kernel
theorem dX10_pays_13 : decode cX10_pays 13 = .ok (.aload_n 0, 1) := by decide +kernel
theorem dX10_pays_14 : decode cX10_pays 14 = .ok (.iload_n 2, 1) := by decide +kernel
theorem dX10_pays_15 : decode cX10_pays 15 = .ok (.invokevirtual 261, 3) := by decide +kernel
theorem dX10_pays_18 : decode cX10_pays 18 = .ok (.aload_n 0, 1) := by decide +kernel
theorem dX10_pays_19 : decode cX10_pays 19 = .ok (.getfield 25, 3) := by decide +kernel
theorem dX10_pays_22 : decode cX10_pays 22 = .ok (.bipush 6, 2) := by decide +kernel
theorem dX10_pays_24 : decode cX10_pays 24 = .ok (.iaload, 1) := by decide +kernel
theorem dX10_pays_25 : decode cX10_pays 25 = .ok (.invokevirtual 271, 3) := by decide +kernel
theorem dX10_pays_28 : decode cX10_pays 28 = .ok (.ifCond .eq 9, 3) := by decide +kernel
theorem dX10_pays_31 : decode cX10_pays 31 = .ok (.iconst 1, 1) := by decide +kernel
theorem dX10_pays_32 : decode cX10_pays 32 = .ok (.iload_n 2, 1) := by decide +kernel
theorem dX10_pays_33 : decode cX10_pays 33 = .ok (.ishl, 1) := by decide +kernel
theorem dX10_pays_34 : decode cX10_pays 34 = .ok (.goto 4, 3) := by decide +kernel
theorem dX10_pays_37 : decode cX10_pays 37 = .ok (.iconst 0, 1) := by decide +kernel
theorem dX10_pays_38 : decode cX10_pays 38 = .ok (.ior, 1) := by decide +kernel
theorem dX10_pays_39 : decode cX10_pays 39 = .ok (.istore_n 1, 1) := by decide +kernel
theorem dX10_pays_40 : decode cX10_pays 40 = .ok (.iinc 2 1, 3) := by decide +kernel
theorem dX10_pays_43 : decode cX10_pays 43 = .ok (.goto (-39), 3) := by decide +kernel
theorem dX10_pays_46 : decode cX10_pays 46 = .ok (.iload_n 1, 1) := by decide +kernel
theorem dX10_pays_47 : decode cX10_pays 47 = .ok (.ireturn, 1) := by decide +kernel
theorem dX10_lowest_0 : decode cX10_lowest 0 = .ok (.lload_n 1, 1) := by decide +kernel
theorem dX10_lowest_1 : decode cX10_lowest 1 = .ok (.lstore 5, 2) := by decide +kernel
theorem dX10_lowest_3 : decode cX10_lowest 3 = .ok (.lload_n 3, 1) := by decide +kernel
theorem dX10_lowest_4 : decode cX10_lowest 4 = .ok (.lstore 7, 2) := by decide +kernel
theorem dX10_lowest_6 : decode cX10_lowest 6 = .ok (.lload 7, 2) := by decide +kernel
theorem dX10_lowest_8 : decode cX10_lowest 8 = .ok (.lconst 0, 1) := by decide +kernel
theorem dX10_lowest_9 : decode cX10_lowest 9 = .ok (.lcmp, 1) := by decide +kernel
theorem dX10_lowest_10 : decode cX10_lowest 10 = .ok (.ifCond .eq 21, 3) := by decide +kernel
theorem dX10_lowest_13 : decode cX10_lowest 13 = .ok (.lload 5, 2) := by decide +kernel
theorem dX10_lowest_15 : decode cX10_lowest 15 = .ok (.lload 7, 2) := by decide +kernel
theorem dX10_lowest_17 : decode cX10_lowest 17 = .ok (.lrem, 1) := by decide +kernel
theorem dX10_lowest_18 : decode cX10_lowest 18 = .ok (.lstore 9, 2) := by decide +kernel
theorem dX10_lowest_20 : decode cX10_lowest 20 = .ok (.lload 7, 2) := by decide +kernel
theorem dX10_lowest_22 : decode cX10_lowest 22 = .ok (.lstore 5, 2) := by decide +kernel
theorem dX10_lowest_24 : decode cX10_lowest 24 = .ok (.lload 9, 2) := by decide +kernel
theorem dX10_lowest_26 : decode cX10_lowest 26 = .ok (.lstore 7, 2) := by decide +kernel
theorem dX10_lowest_28 : decode cX10_lowest 28 = .ok (.goto (-22), 3) := by decide +kernel
theorem dX10_lowest_31 : decode cX10_lowest 31 = .ok (.aload_n 0, 1) := by decide +kernel
theorem dX10_lowest_32 : decode cX10_lowest 32 = .ok (.lload_n 1, 1) := by decide +kernel
theorem dX10_lowest_33 : decode cX10_lowest 33 = .ok (.lload 5, 2) := by decide +kernel
theorem dX10_lowest_35 : decode cX10_lowest 35 = .ok (.ldiv, 1) := by decide +kernel
theorem dX10_lowest_36 : decode cX10_lowest 36 = .ok (.putfield 275, 3) := by decide +kernel
theorem dX10_lowest_39 : decode cX10_lowest 39 = .ok (.aload_n 0, 1) := by decide +kernel
theorem dX10_lowest_40 : decode cX10_lowest 40 = .ok (.lload_n 3, 1) := by decide +kernel
theorem dX10_lowest_41 : decode cX10_lowest 41 = .ok (.lload 5, 2) := by decide +kernel
theorem dX10_lowest_43 : decode cX10_lowest 43 = .ok (.ldiv, 1) := by decide +kernel
theorem dX10_lowest_44 : decode cX10_lowest 44 = .ok (.putfield 278, 3) := by decide +kernel
theorem dX10_lowest_47 : decode cX10_lowest 47 = .ok (.return_, 1) := by decide +kernel
theorem dX10_best_0 : decode cX10_best 0 = .ok (.aload_n 0, 1) := by decide +kernel
theorem dX10_best_1 : decode cX10_best 1 = .ok (.iload_n 1, 1) := by decide +kernel
theorem dX10_best_2 : decode cX10_best 2 = .ok (.iload_n 2, 1) := by decide +kernel
theorem dX10_best_3 : decode cX10_best 3 = .ok (.invokevirtual 226, 3) := by decide +kernel
theorem dX10_best_6 : decode cX10_best 6 = .ok (.ifCond .eq 10, 3) := by decide +kernel
theorem dX10_best_9 : decode cX10_best 9 = .ok (.iload_n 3, 1) := by decide +kernel
theorem dX10_best_10 : decode cX10_best 10 = .ok (.invokestatic 281, 3) := by decide +kernel
theorem dX10_best_13 : decode cX10_best 13 = .ok (.ifCond .ne 7, 3) := by decide +kernel
theorem dX10_best_16 : decode cX10_best 16 = .ok (.ldc2_w 148, 3) := by decide +kernel
theorem dX10_best_19 : decode cX10_best 19 = .ok (.lreturn, 1) := by decide +kernel
theorem dX10_best_20 : decode cX10_best 20 = .ok (.lconst 0, 1) := by decide +kernel
theorem dX10_best_21 : decode cX10_best 21 = .ok (.lstore 4, 2) := by decide +kernel
theorem dX10_best_23 : decode cX10_best 23 = .ok (.lconst 1, 1) := by decide +kernel
theorem dX10_best_24 : decode cX10_best 24 = .ok (.lstore 6, 2) := by decide +kernel
theorem dX10_best_26 : decode cX10_best 26 = .ok (.bipush 9, 2) := by decide +kernel
theorem dX10_best_28 : decode cX10_best 28 = .ok (.istore 8, 2) := by decide +kernel
theorem dX10_best_30 : decode cX10_best 30 = .ok (.iload 8, 2) := by decide +kernel
theorem dX10_best_32 : decode cX10_best 32 = .ok (.ifCond .lt 116, 3) := by decide +kernel
theorem dX10_best_35 : decode cX10_best 35 = .ok (.aload_n 0, 1) := by decide +kernel
theorem dX10_best_36 : decode cX10_best 36 = .ok (.iload 8, 2) := by decide +kernel
theorem dX10_best_38 : decode cX10_best 38 = .ok (.invokevirtual 248, 3) := by decide +kernel
theorem dX10_best_41 : decode cX10_best 41 = .ok (.iload_n 1, 1) := by decide +kernel
theorem dX10_best_42 : decode cX10_best 42 = .ok (.iload_n 2, 1) := by decide +kernel
theorem dX10_best_43 : decode cX10_best 43 = .ok (.invokestatic 251, 3) := by decide +kernel
theorem dX10_best_46 : decode cX10_best 46 = .ok (.if_icmp .ne 96, 3) := by decide +kernel
theorem dX10_best_49 : decode cX10_best 49 = .ok (.aload_n 0, 1) := by decide +kernel
theorem dX10_best_50 : decode cX10_best 50 = .ok (.iload 8, 2) := by decide +kernel
theorem dX10_best_52 : decode cX10_best 52 = .ok (.aload_n 0, 1) := by decide +kernel
theorem dX10_best_53 : decode cX10_best 53 = .ok (.iload 8, 2) := by decide +kernel
theorem dX10_best_55 : decode cX10_best 55 = .ok (.invokevirtual 261, 3) := by decide +kernel
theorem dX10_best_58 : decode cX10_best 58 = .ok (.invokevirtual 264, 3) := by decide +kernel
theorem dX10_best_61 : decode cX10_best 61 = .ok (.istore 9, 2) := by decide +kernel
theorem dX10_best_63 : decode cX10_best 63 = .ok (.bipush 12, 2) := by decide +kernel
theorem dX10_best_65 : decode cX10_best 65 = .ok (.iload 9, 2) := by decide +kernel
theorem dX10_best_67 : decode cX10_best 67 = .ok (.isub, 1) := by decide +kernel
theorem dX10_best_68 : decode cX10_best 68 = .ok (.i2l, 1) := by decide +kernel
theorem dX10_best_69 : decode cX10_best 69 = .ok (.aload_n 0, 1) := by decide +kernel
theorem dX10_best_70 : decode cX10_best 70 = .ok (.getfield 25, 3) := by decide +kernel
theorem dX10_best_73 : decode cX10_best 73 = .ok (.iconst 0, 1) := by decide +kernel
theorem dX10_best_74 : decode cX10_best 74 = .ok (.iaload, 1) := by decide +kernel
theorem dX10_best_75 : decode cX10_best 75 = .ok (.aload_n 0, 1) := by decide +kernel
theorem dX10_best_76 : decode cX10_best 76 = .ok (.iload_n 1, 1) := by decide +kernel
theorem dX10_best_77 : decode cX10_best 77 = .ok (.iload_n 2, 1) := by decide +kernel
theorem dX10_best_78 : decode cX10_best 78 = .ok (.iload 8, 2) := by decide +kernel
theorem dX10_best_80 : decode cX10_best 80 = .ok (.invokevirtual 254, 3) := by decide +kernel
theorem dX10_best_83 : decode cX10_best 83 = .ok (.imul, 1) := by decide +kernel
theorem dX10_best_84 : decode cX10_best 84 = .ok (.i2l, 1) := by decide +kernel
theorem dX10_best_85 : decode cX10_best 85 = .ok (.lload 6, 2) := by decide +kernel
theorem dX10_best_87 : decode cX10_best 87 = .ok (.lmul, 1) := by decide +kernel
theorem dX10_best_88 : decode cX10_best 88 = .ok (.lload 4, 2) := by decide +kernel
theorem dX10_best_90 : decode cX10_best 90 = .ok (.ladd, 1) := by decide +kernel
theorem dX10_best_91 : decode cX10_best 91 = .ok (.lmul, 1) := by decide +kernel
theorem dX10_best_92 : decode cX10_best 92 = .ok (.iload 9, 2) := by decide +kernel
theorem dX10_best_94 : decode cX10_best 94 = .ok (.i2l, 1) := by decide +kernel
theorem dX10_best_95 : decode cX10_best 95 = .ok (.aload_n 0, 1) := by decide +kernel
theorem dX10_best_96 : decode cX10_best 96 = .ok (.getfield 25, 3) := by decide +kernel
theorem dX10_best_99 : decode cX10_best 99 = .ok (.iconst 1, 1) := by decide +kernel
theorem dX10_best_100 : decode cX10_best 100 = .ok (.iaload, 1) := by decide +kernel
theorem dX10_best_101 : decode cX10_best 101 = .ok (.i2l, 1) := by decide +kernel
theorem dX10_best_102 : decode cX10_best 102 = .ok (.lmul, 1) := by decide +kernel
theorem dX10_best_103 : decode cX10_best 103 = .ok (.lload 6, 2) := by decide +kernel
theorem dX10_best_105 : decode cX10_best 105 = .ok (.lmul, 1) := by decide +kernel
theorem dX10_best_106 : decode cX10_best 106 = .ok (.lsub, 1) := by decide +kernel
theorem dX10_best_107 : decode cX10_best 107 = .ok (.lstore 10, 2) := by decide +kernel
theorem dX10_best_109 : decode cX10_best 109 = .ok (.ldc2_w 284, 3) := by decide +kernel
theorem dX10_best_112 : decode cX10_best 112 = .ok (.lload 4, 2) := by decide +kernel
theorem dX10_best_114 : decode cX10_best 114 = .ok (.lmul, 1) := by decide +kernel
theorem dX10_best_115 : decode cX10_best 115 = .ok (.lload 10, 2) := by decide +kernel
theorem dX10_best_117 : decode cX10_best 117 = .ok (.lcmp, 1) := by decide +kernel
theorem dX10_best_118 : decode cX10_best 118 = .ok (.ifCond .le 12, 3) := by decide +kernel
theorem dX10_best_121 : decode cX10_best 121 = .ok (.ldc2_w 284, 3) := by decide +kernel
theorem dX10_best_124 : decode cX10_best 124 = .ok (.lload 4, 2) := by decide +kernel
theorem dX10_best_126 : decode cX10_best 126 = .ok (.lmul, 1) := by decide +kernel
theorem dX10_best_127 : decode cX10_best 127 = .ok (.goto 5, 3) := by decide +kernel
theorem dX10_best_130 : decode cX10_best 130 = .ok (.lload 10, 2) := by decide +kernel
theorem dX10_best_132 : decode cX10_best 132 = .ok (.lstore 4, 2) := by decide +kernel
theorem dX10_best_134 : decode cX10_best 134 = .ok (.lload 6, 2) := by decide +kernel
theorem dX10_best_136 : decode cX10_best 136 = .ok (.ldc2_w 284, 3) := by decide +kernel
theorem dX10_best_139 : decode cX10_best 139 = .ok (.lmul, 1) := by decide +kernel
theorem dX10_best_140 : decode cX10_best 140 = .ok (.lstore 6, 2) := by decide +kernel
theorem dX10_best_142 : decode cX10_best 142 = .ok (.iinc 8 (-1), 3) := by decide +kernel
theorem dX10_best_145 : decode cX10_best 145 = .ok (.goto (-115), 3) := by decide +kernel
theorem dX10_best_148 : decode cX10_best 148 = .ok (.aload_n 0, 1) := by decide +kernel
theorem dX10_best_149 : decode cX10_best 149 = .ok (.lload 4, 2) := by decide +kernel
theorem dX10_best_151 : decode cX10_best 151 = .ok (.lload 6, 2) := by decide +kernel
theorem dX10_best_153 : decode cX10_best 153 = .ok (.invokevirtual 286, 3) := by decide +kernel
theorem dX10_best_156 : decode cX10_best 156 = .ok (.iload_n 3, 1) := by decide +kernel
theorem dX10_best_157 : decode cX10_best 157 = .ok (.ifCond .ne 10, 3) := by decide +kernel
theorem dX10_best_160 : decode cX10_best 160 = .ok (.aload_n 0, 1) := by decide +kernel
theorem dX10_best_161 : decode cX10_best 161 = .ok (.getfield 275, 3) := by decide +kernel
theorem dX10_best_164 : decode cX10_best 164 = .ok (.goto 7, 3) := by decide +kernel
theorem dX10_best_167 : decode cX10_best 167 = .ok (.aload_n 0, 1) := by decide +kernel
theorem dX10_best_168 : decode cX10_best 168 = .ok (.getfield 278, 3) := by decide +kernel
theorem dX10_best_171 : decode cX10_best 171 = .ok (.lreturn, 1) := by decide +kernel
theorem dX10_enough_0 : decode cX10_enough 0 = .ok (.iconst 0, 1) := by decide +kernel
theorem dX10_enough_1 : decode cX10_enough 1 = .ok (.istore_n 1, 1) := by decide +kernel
theorem dX10_enough_2 : decode cX10_enough 2 = .ok (.iload_n 1, 1) := by decide +kernel
theorem dX10_enough_3 : decode cX10_enough 3 = .ok (.bipush 100, 2) := by decide +kernel
theorem dX10_enough_5 : decode cX10_enough 5 = .ok (.if_icmp .ge 55, 3) := by decide +kernel
theorem dX10_enough_8 : decode cX10_enough 8 = .ok (.iconst 1, 1) := by decide +kernel
theorem dX10_enough_9 : decode cX10_enough 9 = .ok (.istore_n 2, 1) := by decide +kernel
theorem dX10_enough_10 : decode cX10_enough 10 = .ok (.iconst 0, 1) := by decide +kernel
theorem dX10_enough_11 : decode cX10_enough 11 = .ok (.istore_n 3, 1) := by decide +kernel
theorem dX10_enough_12 : decode cX10_enough 12 = .ok (.iload_n 3, 1) := by decide +kernel
theorem dX10_enough_13 : decode cX10_enough 13 = .ok (.bipush 10, 2) := by decide +kernel
theorem dX10_enough_15 : decode cX10_enough 15 = .ok (.if_icmp .ge 33, 3) := by decide +kernel
theorem dX10_enough_18 : decode cX10_enough 18 = .ok (.iload_n 2, 1) := by decide +kernel
theorem dX10_enough_19 : decode cX10_enough 19 = .ok (.ifCond .eq 21, 3) := by decide +kernel
theorem dX10_enough_22 : decode cX10_enough 22 = .ok (.aload_n 0, 1) := by decide +kernel
theorem dX10_enough_23 : decode cX10_enough 23 = .ok (.iload_n 3, 1) := by decide +kernel
theorem dX10_enough_24 : decode cX10_enough 24 = .ok (.aload_n 0, 1) := by decide +kernel
theorem dX10_enough_25 : decode cX10_enough 25 = .ok (.iload_n 3, 1) := by decide +kernel
theorem dX10_enough_26 : decode cX10_enough 26 = .ok (.invokevirtual 261, 3) := by decide +kernel
theorem dX10_enough_29 : decode cX10_enough 29 = .ok (.iload_n 1, 1) := by decide +kernel
theorem dX10_enough_30 : decode cX10_enough 30 = .ok (.invokevirtual 271, 3) := by decide +kernel
theorem dX10_enough_33 : decode cX10_enough 33 = .ok (.ifCond .ne 7, 3) := by decide +kernel
theorem dX10_enough_36 : decode cX10_enough 36 = .ok (.iconst 1, 1) := by decide +kernel
theorem dX10_enough_37 : decode cX10_enough 37 = .ok (.goto 4, 3) := by decide +kernel
theorem dX10_enough_40 : decode cX10_enough 40 = .ok (.iconst 0, 1) := by decide +kernel
theorem dX10_enough_41 : decode cX10_enough 41 = .ok (.istore_n 2, 1) := by decide +kernel
theorem dX10_enough_42 : decode cX10_enough 42 = .ok (.iinc 3 1, 3) := by decide +kernel
theorem dX10_enough_45 : decode cX10_enough 45 = .ok (.goto (-33), 3) := by decide +kernel
theorem dX10_enough_48 : decode cX10_enough 48 = .ok (.iload_n 2, 1) := by decide +kernel
theorem dX10_enough_49 : decode cX10_enough 49 = .ok (.ifCond .eq 5, 3) := by decide +kernel
theorem dX10_enough_52 : decode cX10_enough 52 = .ok (.iload_n 1, 1) := by decide +kernel
theorem dX10_enough_53 : decode cX10_enough 53 = .ok (.ireturn, 1) := by decide +kernel
theorem dX10_enough_54 : decode cX10_enough 54 = .ok (.iinc 1 1, 3) := by decide +kernel
theorem dX10_enough_57 : decode cX10_enough 57 = .ok (.goto (-55), 3) := by decide +kernel
theorem dX10_enough_60 : decode cX10_enough 60 = .ok (.bipush (-3), 2) := by decide +kernel
theorem dX10_enough_62 : decode cX10_enough 62 = .ok (.ireturn, 1) := by decide +kernel
theorem dX10_needed_0 : decode cX10_needed 0 = .ok (.iconst 0, 1) := by decide +kernel
theorem dX10_needed_1 : decode cX10_needed 1 = .ok (.istore_n 1, 1) := by decide +kernel
theorem dX10_needed_2 : decode cX10_needed 2 = .ok (.iconst 0, 1) := by decide +kernel
theorem dX10_needed_3 : decode cX10_needed 3 = .ok (.istore_n 2, 1) := by decide +kernel
theorem dX10_needed_4 : decode cX10_needed 4 = .ok (.iload_n 2, 1) := by decide +kernel
theorem dX10_needed_5 : decode cX10_needed 5 = .ok (.bipush 10, 2) := by decide +kernel
theorem dX10_needed_7 : decode cX10_needed 7 = .ok (.if_icmp .ge 50, 3) := by decide +kernel
theorem dX10_needed_10 : decode cX10_needed 10 = .ok (.aload_n 0, 1) := by decide +kernel
theorem dX10_needed_11 : decode cX10_needed 11 = .ok (.iload_n 2, 1) := by decide +kernel
theorem dX10_needed_12 : decode cX10_needed 12 = .ok (.iconst 0, 1) := by decide +kernel
theorem dX10_needed_13 : decode cX10_needed 13 = .ok (.aload_n 0, 1) := by decide +kernel
theorem dX10_needed_14 : decode cX10_needed 14 = .ok (.getfield 25, 3) := by decide +kernel
theorem dX10_needed_17 : decode cX10_needed 17 = .ok (.bipush 6, 2) := by decide +kernel
theorem dX10_needed_19 : decode cX10_needed 19 = .ok (.iaload, 1) := by decide +kernel
theorem dX10_needed_20 : decode cX10_needed 20 = .ok (.invokevirtual 271, 3) := by decide +kernel
theorem dX10_needed_23 : decode cX10_needed 23 = .ok (.ifCond .eq 28, 3) := by decide +kernel
theorem dX10_needed_26 : decode cX10_needed 26 = .ok (.aload_n 0, 1) := by decide +kernel
theorem dX10_needed_27 : decode cX10_needed 27 = .ok (.iload_n 2, 1) := by decide +kernel
theorem dX10_needed_28 : decode cX10_needed 28 = .ok (.iconst 1, 1) := by decide +kernel
theorem dX10_needed_29 : decode cX10_needed 29 = .ok (.aload_n 0, 1) := by decide +kernel
theorem dX10_needed_30 : decode cX10_needed 30 = .ok (.getfield 25, 3) := by decide +kernel
theorem dX10_needed_33 : decode cX10_needed 33 = .ok (.bipush 6, 2) := by decide +kernel
theorem dX10_needed_35 : decode cX10_needed 35 = .ok (.iaload, 1) := by decide +kernel
theorem dX10_needed_36 : decode cX10_needed 36 = .ok (.invokevirtual 271, 3) := by decide +kernel
theorem dX10_needed_39 : decode cX10_needed 39 = .ok (.ifCond .eq 6, 3) := by decide +kernel
theorem dX10_needed_42 : decode cX10_needed 42 = .ok (.bipush (-3), 2) := by decide +kernel
theorem dX10_needed_44 : decode cX10_needed 44 = .ok (.ireturn, 1) := by decide +kernel
theorem dX10_needed_45 : decode cX10_needed 45 = .ok (.iload_n 1, 1) := by decide +kernel
theorem dX10_needed_46 : decode cX10_needed 46 = .ok (.iconst 1, 1) := by decide +kernel
theorem dX10_needed_47 : decode cX10_needed 47 = .ok (.iload_n 2, 1) := by decide +kernel
theorem dX10_needed_48 : decode cX10_needed 48 = .ok (.ishl, 1) := by decide +kernel
theorem dX10_needed_49 : decode cX10_needed 49 = .ok (.ior, 1) := by decide +kernel
theorem dX10_needed_50 : decode cX10_needed 50 = .ok (.istore_n 1, 1) := by decide +kernel
theorem dX10_needed_51 : decode cX10_needed 51 = .ok (.iinc 2 1, 3) := by decide +kernel
theorem dX10_needed_54 : decode cX10_needed 54 = .ok (.goto (-50), 3) := by decide +kernel
theorem dX10_needed_57 : decode cX10_needed 57 = .ok (.iload_n 1, 1) := by decide +kernel
theorem dX10_needed_58 : decode cX10_needed 58 = .ok (.ireturn, 1) := by decide +kernel
theorem dX10_brokenOn_0 : decode cX10_brokenOn 0 = .ok (.iconst 0, 1) := by decide +kernel
theorem dX10_brokenOn_1 : decode cX10_brokenOn 1 = .ok (.istore_n 2, 1) := by decide +kernel
theorem dX10_brokenOn_2 : decode cX10_brokenOn 2 = .ok (.iconst 0, 1) := by decide +kernel
theorem dX10_brokenOn_3 : decode cX10_brokenOn 3 = .ok (.istore_n 3, 1) := by decide +kernel
theorem dX10_brokenOn_4 : decode cX10_brokenOn 4 = .ok (.iconst 0, 1) := by decide +kernel
theorem dX10_brokenOn_5 : decode cX10_brokenOn 5 = .ok (.istore 4, 2) := by decide +kernel
theorem dX10_brokenOn_7 : decode cX10_brokenOn 7 = .ok (.iload 4, 2) := by decide +kernel
theorem dX10_brokenOn_9 : decode cX10_brokenOn 9 = .ok (.iconst 4, 1) := by decide +kernel
theorem dX10_brokenOn_10 : decode cX10_brokenOn 10 = .ok (.if_icmp .ge 66, 3) := by decide +kernel
theorem dX10_brokenOn_13 : decode cX10_brokenOn 13 = .ok (.aload_n 0, 1) := by decide +kernel
theorem dX10_brokenOn_14 : decode cX10_brokenOn 14 = .ok (.getfield 19, 3) := by decide +kernel
theorem dX10_brokenOn_17 : decode cX10_brokenOn 17 = .ok (.iconst 4, 1) := by decide +kernel
theorem dX10_brokenOn_18 : decode cX10_brokenOn 18 = .ok (.iload_n 1, 1) := by decide +kernel
theorem dX10_brokenOn_19 : decode cX10_brokenOn 19 = .ok (.imul, 1) := by decide +kernel
theorem dX10_brokenOn_20 : decode cX10_brokenOn 20 = .ok (.iload 4, 2) := by decide +kernel
theorem dX10_brokenOn_22 : decode cX10_brokenOn 22 = .ok (.iadd, 1) := by decide +kernel
theorem dX10_brokenOn_23 : decode cX10_brokenOn 23 = .ok (.iaload, 1) := by decide +kernel
theorem dX10_brokenOn_24 : decode cX10_brokenOn 24 = .ok (.istore 5, 2) := by decide +kernel
theorem dX10_brokenOn_26 : decode cX10_brokenOn 26 = .ok (.iload 5, 2) := by decide +kernel
theorem dX10_brokenOn_28 : decode cX10_brokenOn 28 = .ok (.ifCond .lt 42, 3) := by decide +kernel
theorem dX10_brokenOn_31 : decode cX10_brokenOn 31 = .ok (.aload_n 0, 1) := by decide +kernel
theorem dX10_brokenOn_32 : decode cX10_brokenOn 32 = .ok (.iload 5, 2) := by decide +kernel
theorem dX10_brokenOn_34 : decode cX10_brokenOn 34 = .ok (.iload_n 1, 1) := by decide +kernel
theorem dX10_brokenOn_35 : decode cX10_brokenOn 35 = .ok (.invokevirtual 236, 3) := by decide +kernel
theorem dX10_brokenOn_38 : decode cX10_brokenOn 38 = .ok (.ifCond .eq 5, 3) := by decide +kernel
theorem dX10_brokenOn_41 : decode cX10_brokenOn 41 = .ok (.iconst 1, 1) := by decide +kernel
theorem dX10_brokenOn_42 : decode cX10_brokenOn 42 = .ok (.ireturn, 1) := by decide +kernel
theorem dX10_brokenOn_43 : decode cX10_brokenOn 43 = .ok (.iload_n 3, 1) := by decide +kernel
theorem dX10_brokenOn_44 : decode cX10_brokenOn 44 = .ok (.ifCond .ne 13, 3) := by decide +kernel
theorem dX10_brokenOn_47 : decode cX10_brokenOn 47 = .ok (.iload_n 2, 1) := by decide +kernel
theorem dX10_brokenOn_48 : decode cX10_brokenOn 48 = .ok (.iload 5, 2) := by decide +kernel
theorem dX10_brokenOn_50 : decode cX10_brokenOn 50 = .ok (.ishr, 1) := by decide +kernel
theorem dX10_brokenOn_51 : decode cX10_brokenOn 51 = .ok (.iconst 1, 1) := by decide +kernel
theorem dX10_brokenOn_52 : decode cX10_brokenOn 52 = .ok (.iand, 1) := by decide +kernel
theorem dX10_brokenOn_53 : decode cX10_brokenOn 53 = .ok (.iconst 1, 1) := by decide +kernel
theorem dX10_brokenOn_54 : decode cX10_brokenOn 54 = .ok (.if_icmp .ne 7, 3) := by decide +kernel
theorem dX10_brokenOn_57 : decode cX10_brokenOn 57 = .ok (.iconst 1, 1) := by decide +kernel
theorem dX10_brokenOn_58 : decode cX10_brokenOn 58 = .ok (.goto 4, 3) := by decide +kernel
theorem dX10_brokenOn_61 : decode cX10_brokenOn 61 = .ok (.iconst 0, 1) := by decide +kernel
theorem dX10_brokenOn_62 : decode cX10_brokenOn 62 = .ok (.istore_n 3, 1) := by decide +kernel
theorem dX10_brokenOn_63 : decode cX10_brokenOn 63 = .ok (.iload_n 2, 1) := by decide +kernel
theorem dX10_brokenOn_64 : decode cX10_brokenOn 64 = .ok (.iconst 1, 1) := by decide +kernel
theorem dX10_brokenOn_65 : decode cX10_brokenOn 65 = .ok (.iload 5, 2) := by decide +kernel
theorem dX10_brokenOn_67 : decode cX10_brokenOn 67 = .ok (.ishl, 1) := by decide +kernel
theorem dX10_brokenOn_68 : decode cX10_brokenOn 68 = .ok (.ior, 1) := by decide +kernel
theorem dX10_brokenOn_69 : decode cX10_brokenOn 69 = .ok (.istore_n 2, 1) := by decide +kernel
theorem dX10_brokenOn_70 : decode cX10_brokenOn 70 = .ok (.iinc 4 1, 3) := by decide +kernel
theorem dX10_brokenOn_73 : decode cX10_brokenOn 73 = .ok (.goto (-66), 3) := by decide +kernel
theorem dX10_brokenOn_76 : decode cX10_brokenOn 76 = .ok (.iload_n 3, 1) := by decide +kernel
theorem dX10_brokenOn_77 : decode cX10_brokenOn 77 = .ok (.ifCond .eq 5, 3) := by decide +kernel
theorem dX10_brokenOn_80 : decode cX10_brokenOn 80 = .ok (.iconst 2, 1) := by decide +kernel
theorem dX10_brokenOn_81 : decode cX10_brokenOn 81 = .ok (.ireturn, 1) := by decide +kernel
theorem dX10_brokenOn_82 : decode cX10_brokenOn 82 = .ok (.aload_n 0, 1) := by decide +kernel
theorem dX10_brokenOn_83 : decode cX10_brokenOn 83 = .ok (.iload_n 1, 1) := by decide +kernel
theorem dX10_brokenOn_84 : decode cX10_brokenOn 84 = .ok (.invokevirtual 248, 3) := by decide +kernel
theorem dX10_brokenOn_87 : decode cX10_brokenOn 87 = .ok (.istore 4, 2) := by decide +kernel
theorem dX10_brokenOn_89 : decode cX10_brokenOn 89 = .ok (.iload 4, 2) := by decide +kernel
theorem dX10_brokenOn_91 : decode cX10_brokenOn 91 = .ok (.ifCond .ge 5, 3) := by decide +kernel
theorem dX10_brokenOn_94 : decode cX10_brokenOn 94 = .ok (.iconst 0, 1) := by decide +kernel
theorem dX10_brokenOn_95 : decode cX10_brokenOn 95 = .ok (.ireturn, 1) := by decide +kernel
theorem dX10_brokenOn_96 : decode cX10_brokenOn 96 = .ok (.aload_n 0, 1) := by decide +kernel
theorem dX10_brokenOn_97 : decode cX10_brokenOn 97 = .ok (.iload 4, 2) := by decide +kernel
theorem dX10_brokenOn_99 : decode cX10_brokenOn 99 = .ok (.bipush 8, 2) := by decide +kernel
theorem dX10_brokenOn_101 : decode cX10_brokenOn 101 = .ok (.idiv, 1) := by decide +kernel
theorem dX10_brokenOn_102 : decode cX10_brokenOn 102 = .ok (.iload 4, 2) := by decide +kernel
theorem dX10_brokenOn_104 : decode cX10_brokenOn 104 = .ok (.bipush 8, 2) := by decide +kernel
theorem dX10_brokenOn_106 : decode cX10_brokenOn 106 = .ok (.irem, 1) := by decide +kernel
theorem dX10_brokenOn_107 : decode cX10_brokenOn 107 = .ok (.invokevirtual 230, 3) := by decide +kernel
theorem dX10_brokenOn_110 : decode cX10_brokenOn 110 = .ok (.ifCond .eq 5, 3) := by decide +kernel
theorem dX10_brokenOn_113 : decode cX10_brokenOn 113 = .ok (.iconst 3, 1) := by decide +kernel
theorem dX10_brokenOn_114 : decode cX10_brokenOn 114 = .ok (.ireturn, 1) := by decide +kernel
theorem dX10_brokenOn_115 : decode cX10_brokenOn 115 = .ok (.iload_n 1, 1) := by decide +kernel
theorem dX10_brokenOn_116 : decode cX10_brokenOn 116 = .ok (.iconst 1, 1) := by decide +kernel
theorem dX10_brokenOn_117 : decode cX10_brokenOn 117 = .ok (.isub, 1) := by decide +kernel
theorem dX10_brokenOn_118 : decode cX10_brokenOn 118 = .ok (.istore 5, 2) := by decide +kernel
theorem dX10_brokenOn_120 : decode cX10_brokenOn 120 = .ok (.iload 5, 2) := by decide +kernel
theorem dX10_brokenOn_122 : decode cX10_brokenOn 122 = .ok (.ifCond .lt 36, 3) := by decide +kernel
theorem dX10_brokenOn_125 : decode cX10_brokenOn 125 = .ok (.iload 5, 2) := by decide +kernel
theorem dX10_brokenOn_127 : decode cX10_brokenOn 127 = .ok (.iload_n 1, 1) := by decide +kernel
theorem dX10_brokenOn_128 : decode cX10_brokenOn 128 = .ok (.aload_n 0, 1) := by decide +kernel
theorem dX10_brokenOn_129 : decode cX10_brokenOn 129 = .ok (.getfield 25, 3) := by decide +kernel
theorem dX10_brokenOn_132 : decode cX10_brokenOn 132 = .ok (.bipush 7, 2) := by decide +kernel
theorem dX10_brokenOn_134 : decode cX10_brokenOn 134 = .ok (.iaload, 1) := by decide +kernel
theorem dX10_brokenOn_135 : decode cX10_brokenOn 135 = .ok (.isub, 1) := by decide +kernel
theorem dX10_brokenOn_136 : decode cX10_brokenOn 136 = .ok (.if_icmp .lt 22, 3) := by decide +kernel
theorem dX10_brokenOn_139 : decode cX10_brokenOn 139 = .ok (.aload_n 0, 1) := by decide +kernel
theorem dX10_brokenOn_140 : decode cX10_brokenOn 140 = .ok (.iload 5, 2) := by decide +kernel
theorem dX10_brokenOn_142 : decode cX10_brokenOn 142 = .ok (.invokevirtual 248, 3) := by decide +kernel
theorem dX10_brokenOn_145 : decode cX10_brokenOn 145 = .ok (.iload 4, 2) := by decide +kernel
theorem dX10_brokenOn_147 : decode cX10_brokenOn 147 = .ok (.if_icmp .ne 5, 3) := by decide +kernel
theorem dX10_brokenOn_150 : decode cX10_brokenOn 150 = .ok (.iconst 4, 1) := by decide +kernel
theorem dX10_brokenOn_151 : decode cX10_brokenOn 151 = .ok (.ireturn, 1) := by decide +kernel
theorem dX10_brokenOn_152 : decode cX10_brokenOn 152 = .ok (.iinc 5 (-1), 3) := by decide +kernel
theorem dX10_brokenOn_155 : decode cX10_brokenOn 155 = .ok (.goto (-35), 3) := by decide +kernel
theorem dX10_brokenOn_158 : decode cX10_brokenOn 158 = .ok (.aload_n 0, 1) := by decide +kernel
theorem dX10_brokenOn_159 : decode cX10_brokenOn 159 = .ok (.iload_n 1, 1) := by decide +kernel
theorem dX10_brokenOn_160 : decode cX10_brokenOn 160 = .ok (.aload_n 0, 1) := by decide +kernel
theorem dX10_brokenOn_161 : decode cX10_brokenOn 161 = .ok (.iload_n 1, 1) := by decide +kernel
theorem dX10_brokenOn_162 : decode cX10_brokenOn 162 = .ok (.invokevirtual 261, 3) := by decide +kernel
theorem dX10_brokenOn_165 : decode cX10_brokenOn 165 = .ok (.aload_n 0, 1) := by decide +kernel
theorem dX10_brokenOn_166 : decode cX10_brokenOn 166 = .ok (.getfield 25, 3) := by decide +kernel
theorem dX10_brokenOn_169 : decode cX10_brokenOn 169 = .ok (.bipush 6, 2) := by decide +kernel
theorem dX10_brokenOn_171 : decode cX10_brokenOn 171 = .ok (.iaload, 1) := by decide +kernel
theorem dX10_brokenOn_172 : decode cX10_brokenOn 172 = .ok (.invokevirtual 271, 3) := by decide +kernel
theorem dX10_brokenOn_175 : decode cX10_brokenOn 175 = .ok (.ifCond .eq 7, 3) := by decide +kernel
theorem dX10_brokenOn_178 : decode cX10_brokenOn 178 = .ok (.iconst 5, 1) := by decide +kernel
theorem dX10_brokenOn_179 : decode cX10_brokenOn 179 = .ok (.goto 4, 3) := by decide +kernel
theorem dX10_brokenOn_182 : decode cX10_brokenOn 182 = .ok (.iconst 0, 1) := by decide +kernel
theorem dX10_brokenOn_183 : decode cX10_brokenOn 183 = .ok (.ireturn, 1) := by decide +kernel
theorem dX10_broken_0 : decode cX10_broken 0 = .ok (.iload_n 1, 1) := by decide +kernel
theorem dX10_broken_1 : decode cX10_broken 1 = .ok (.invokestatic 233, 3) := by decide +kernel
theorem dX10_broken_4 : decode cX10_broken 4 = .ok (.ifCond .eq 11, 3) := by decide +kernel
theorem dX10_broken_7 : decode cX10_broken 7 = .ok (.aload_n 0, 1) := by decide +kernel
theorem dX10_broken_8 : decode cX10_broken 8 = .ok (.iload_n 1, 1) := by decide +kernel
theorem dX10_broken_9 : decode cX10_broken 9 = .ok (.invokevirtual 290, 3) := by decide +kernel
theorem dX10_broken_12 : decode cX10_broken 12 = .ok (.goto 4, 3) := by decide +kernel
theorem dX10_broken_15 : decode cX10_broken 15 = .ok (.iconst (-1), 1) := by decide +kernel
theorem dX10_broken_16 : decode cX10_broken 16 = .ok (.ireturn, 1) := by decide +kernel
theorem dX10_keepsPosts_0 : decode cX10_keepsPosts 0 = .ok (.iconst 0, 1) := by decide +kernel
theorem dX10_keepsPosts_1 : decode cX10_keepsPosts 1 = .ok (.istore_n 3, 1) := by decide +kernel
theorem dX10_keepsPosts_2 : decode cX10_keepsPosts 2 = .ok (.iload_n 3, 1) := by decide +kernel
theorem dX10_keepsPosts_3 : decode cX10_keepsPosts 3 = .ok (.iconst 4, 1) := by decide +kernel
theorem dX10_keepsPosts_4 : decode cX10_keepsPosts 4 = .ok (.iload_n 2, 1) := by decide +kernel
theorem dX10_keepsPosts_5 : decode cX10_keepsPosts 5 = .ok (.imul, 1) := by decide +kernel
theorem dX10_keepsPosts_6 : decode cX10_keepsPosts 6 = .ok (.if_icmp .ge 25, 3) := by decide +kernel
theorem dX10_keepsPosts_9 : decode cX10_keepsPosts 9 = .ok (.aload_n 0, 1) := by decide +kernel
theorem dX10_keepsPosts_10 : decode cX10_keepsPosts 10 = .ok (.getfield 53, 3) := by decide +kernel
theorem dX10_keepsPosts_13 : decode cX10_keepsPosts 13 = .ok (.iload_n 3, 1) := by decide +kernel
theorem dX10_keepsPosts_14 : decode cX10_keepsPosts 14 = .ok (.aload_n 0, 1) := by decide +kernel
theorem dX10_keepsPosts_15 : decode cX10_keepsPosts 15 = .ok (.getfield 19, 3) := by decide +kernel
theorem dX10_keepsPosts_18 : decode cX10_keepsPosts 18 = .ok (.iconst 4, 1) := by decide +kernel
theorem dX10_keepsPosts_19 : decode cX10_keepsPosts 19 = .ok (.iload_n 1, 1) := by decide +kernel
theorem dX10_keepsPosts_20 : decode cX10_keepsPosts 20 = .ok (.imul, 1) := by decide +kernel
theorem dX10_keepsPosts_21 : decode cX10_keepsPosts 21 = .ok (.iload_n 3, 1) := by decide +kernel
theorem dX10_keepsPosts_22 : decode cX10_keepsPosts 22 = .ok (.iadd, 1) := by decide +kernel
theorem dX10_keepsPosts_23 : decode cX10_keepsPosts 23 = .ok (.iaload, 1) := by decide +kernel
theorem dX10_keepsPosts_24 : decode cX10_keepsPosts 24 = .ok (.iastore, 1) := by decide +kernel
theorem dX10_keepsPosts_25 : decode cX10_keepsPosts 25 = .ok (.iinc 3 1, 3) := by decide +kernel
theorem dX10_keepsPosts_28 : decode cX10_keepsPosts 28 = .ok (.goto (-26), 3) := by decide +kernel
theorem dX10_keepsPosts_31 : decode cX10_keepsPosts 31 = .ok (.return_, 1) := by decide +kernel
theorem dX10_givesPosts_0 : decode cX10_givesPosts 0 = .ok (.iconst 0, 1) := by decide +kernel
theorem dX10_givesPosts_1 : decode cX10_givesPosts 1 = .ok (.istore_n 3, 1) := by decide +kernel
theorem dX10_givesPosts_2 : decode cX10_givesPosts 2 = .ok (.iload_n 3, 1) := by decide +kernel
theorem dX10_givesPosts_3 : decode cX10_givesPosts 3 = .ok (.iconst 4, 1) := by decide +kernel
theorem dX10_givesPosts_4 : decode cX10_givesPosts 4 = .ok (.iload_n 2, 1) := by decide +kernel
theorem dX10_givesPosts_5 : decode cX10_givesPosts 5 = .ok (.imul, 1) := by decide +kernel
theorem dX10_givesPosts_6 : decode cX10_givesPosts 6 = .ok (.if_icmp .ge 25, 3) := by decide +kernel
theorem dX10_givesPosts_9 : decode cX10_givesPosts 9 = .ok (.aload_n 0, 1) := by decide +kernel
theorem dX10_givesPosts_10 : decode cX10_givesPosts 10 = .ok (.getfield 19, 3) := by decide +kernel
theorem dX10_givesPosts_13 : decode cX10_givesPosts 13 = .ok (.iconst 4, 1) := by decide +kernel
theorem dX10_givesPosts_14 : decode cX10_givesPosts 14 = .ok (.iload_n 1, 1) := by decide +kernel
theorem dX10_givesPosts_15 : decode cX10_givesPosts 15 = .ok (.imul, 1) := by decide +kernel
theorem dX10_givesPosts_16 : decode cX10_givesPosts 16 = .ok (.iload_n 3, 1) := by decide +kernel
theorem dX10_givesPosts_17 : decode cX10_givesPosts 17 = .ok (.iadd, 1) := by decide +kernel
theorem dX10_givesPosts_18 : decode cX10_givesPosts 18 = .ok (.aload_n 0, 1) := by decide +kernel
theorem dX10_givesPosts_19 : decode cX10_givesPosts 19 = .ok (.getfield 53, 3) := by decide +kernel
theorem dX10_givesPosts_22 : decode cX10_givesPosts 22 = .ok (.iload_n 3, 1) := by decide +kernel
theorem dX10_givesPosts_23 : decode cX10_givesPosts 23 = .ok (.iaload, 1) := by decide +kernel
theorem dX10_givesPosts_24 : decode cX10_givesPosts 24 = .ok (.iastore, 1) := by decide +kernel
theorem dX10_givesPosts_25 : decode cX10_givesPosts 25 = .ok (.iinc 3 1, 3) := by decide +kernel
theorem dX10_givesPosts_28 : decode cX10_givesPosts 28 = .ok (.goto (-26), 3) := by decide +kernel
theorem dX10_givesPosts_31 : decode cX10_givesPosts 31 = .ok (.return_, 1) := by decide +kernel
theorem dX10_comes_0 : decode cX10_comes 0 = .ok (.iconst 0, 1) := by decide +kernel
theorem dX10_comes_1 : decode cX10_comes 1 = .ok (.istore_n 3, 1) := by decide +kernel
theorem dX10_comes_2 : decode cX10_comes 2 = .ok (.iconst 0, 1) := by decide +kernel
theorem dX10_comes_3 : decode cX10_comes 3 = .ok (.istore 4, 2) := by decide +kernel
theorem dX10_comes_5 : decode cX10_comes 5 = .ok (.iload 4, 2) := by decide +kernel
theorem dX10_comes_7 : decode cX10_comes 7 = .ok (.iconst 4, 1) := by decide +kernel
theorem dX10_comes_8 : decode cX10_comes 8 = .ok (.if_icmp .ge 73, 3) := by decide +kernel
theorem dX10_comes_11 : decode cX10_comes 11 = .ok (.iload_n 2, 1) := by decide +kernel
theorem dX10_comes_12 : decode cX10_comes 12 = .ok (.iconst 3, 1) := by decide +kernel
theorem dX10_comes_13 : decode cX10_comes 13 = .ok (.iconst 3, 1) := by decide +kernel
theorem dX10_comes_14 : decode cX10_comes 14 = .ok (.iload 4, 2) := by decide +kernel
theorem dX10_comes_16 : decode cX10_comes 16 = .ok (.isub, 1) := by decide +kernel
theorem dX10_comes_17 : decode cX10_comes 17 = .ok (.imul, 1) := by decide +kernel
theorem dX10_comes_18 : decode cX10_comes 18 = .ok (.ishr, 1) := by decide +kernel
theorem dX10_comes_19 : decode cX10_comes 19 = .ok (.bipush 7, 2) := by decide +kernel
theorem dX10_comes_21 : decode cX10_comes 21 = .ok (.iand, 1) := by decide +kernel
theorem dX10_comes_22 : decode cX10_comes 22 = .ok (.istore 5, 2) := by decide +kernel
theorem dX10_comes_24 : decode cX10_comes 24 = .ok (.aload_n 0, 1) := by decide +kernel
theorem dX10_comes_25 : decode cX10_comes 25 = .ok (.iload 5, 2) := by decide +kernel
theorem dX10_comes_27 : decode cX10_comes 27 = .ok (.invokevirtual 109, 3) := by decide +kernel
theorem dX10_comes_30 : decode cX10_comes 30 = .ok (.ifCond .eq 23, 3) := by decide +kernel
theorem dX10_comes_33 : decode cX10_comes 33 = .ok (.aload_n 0, 1) := by decide +kernel
theorem dX10_comes_34 : decode cX10_comes 34 = .ok (.iload 5, 2) := by decide +kernel
theorem dX10_comes_36 : decode cX10_comes 36 = .ok (.iload_n 1, 1) := by decide +kernel
theorem dX10_comes_37 : decode cX10_comes 37 = .ok (.invokevirtual 236, 3) := by decide +kernel
theorem dX10_comes_40 : decode cX10_comes 40 = .ok (.ifCond .ne 13, 3) := by decide +kernel
theorem dX10_comes_43 : decode cX10_comes 43 = .ok (.iload_n 3, 1) := by decide +kernel
theorem dX10_comes_44 : decode cX10_comes 44 = .ok (.iload 5, 2) := by decide +kernel
theorem dX10_comes_46 : decode cX10_comes 46 = .ok (.ishr, 1) := by decide +kernel
theorem dX10_comes_47 : decode cX10_comes 47 = .ok (.iconst 1, 1) := by decide +kernel
theorem dX10_comes_48 : decode cX10_comes 48 = .ok (.iand, 1) := by decide +kernel
theorem dX10_comes_49 : decode cX10_comes 49 = .ok (.iconst 1, 1) := by decide +kernel
theorem dX10_comes_50 : decode cX10_comes 50 = .ok (.if_icmp .ne 5, 3) := by decide +kernel
theorem dX10_comes_53 : decode cX10_comes 53 = .ok (.iconst 0, 1) := by decide +kernel
theorem dX10_comes_54 : decode cX10_comes 54 = .ok (.ireturn, 1) := by decide +kernel
theorem dX10_comes_55 : decode cX10_comes 55 = .ok (.iload_n 3, 1) := by decide +kernel
theorem dX10_comes_56 : decode cX10_comes 56 = .ok (.iconst 1, 1) := by decide +kernel
theorem dX10_comes_57 : decode cX10_comes 57 = .ok (.iload 5, 2) := by decide +kernel
theorem dX10_comes_59 : decode cX10_comes 59 = .ok (.ishl, 1) := by decide +kernel
theorem dX10_comes_60 : decode cX10_comes 60 = .ok (.ior, 1) := by decide +kernel
theorem dX10_comes_61 : decode cX10_comes 61 = .ok (.istore_n 3, 1) := by decide +kernel
theorem dX10_comes_62 : decode cX10_comes 62 = .ok (.aload_n 0, 1) := by decide +kernel
theorem dX10_comes_63 : decode cX10_comes 63 = .ok (.getfield 19, 3) := by decide +kernel
theorem dX10_comes_66 : decode cX10_comes 66 = .ok (.iconst 4, 1) := by decide +kernel
theorem dX10_comes_67 : decode cX10_comes 67 = .ok (.iload_n 1, 1) := by decide +kernel
theorem dX10_comes_68 : decode cX10_comes 68 = .ok (.imul, 1) := by decide +kernel
theorem dX10_comes_69 : decode cX10_comes 69 = .ok (.iload 4, 2) := by decide +kernel
theorem dX10_comes_71 : decode cX10_comes 71 = .ok (.iadd, 1) := by decide +kernel
theorem dX10_comes_72 : decode cX10_comes 72 = .ok (.iload 5, 2) := by decide +kernel
theorem dX10_comes_74 : decode cX10_comes 74 = .ok (.iastore, 1) := by decide +kernel
theorem dX10_comes_75 : decode cX10_comes 75 = .ok (.iinc 4 1, 3) := by decide +kernel
theorem dX10_comes_78 : decode cX10_comes 78 = .ok (.goto (-73), 3) := by decide +kernel
theorem dX10_comes_81 : decode cX10_comes 81 = .ok (.iconst 1, 1) := by decide +kernel
theorem dX10_comes_82 : decode cX10_comes 82 = .ok (.ireturn, 1) := by decide +kernel
theorem dX10_mended_0 : decode cX10_mended 0 = .ok (.iload_n 1, 1) := by decide +kernel
theorem dX10_mended_1 : decode cX10_mended 1 = .ok (.invokestatic 233, 3) := by decide +kernel
theorem dX10_mended_4 : decode cX10_mended 4 = .ok (.ifCond .eq 10, 3) := by decide +kernel
theorem dX10_mended_7 : decode cX10_mended 7 = .ok (.iload_n 2, 1) := by decide +kernel
theorem dX10_mended_8 : decode cX10_mended 8 = .ok (.invokestatic 281, 3) := by decide +kernel
theorem dX10_mended_11 : decode cX10_mended 11 = .ok (.ifCond .ne 5, 3) := by decide +kernel
theorem dX10_mended_14 : decode cX10_mended 14 = .ok (.iconst (-1), 1) := by decide +kernel
theorem dX10_mended_15 : decode cX10_mended 15 = .ok (.ireturn, 1) := by decide +kernel
theorem dX10_mended_16 : decode cX10_mended 16 = .ok (.aload_n 0, 1) := by decide +kernel
theorem dX10_mended_17 : decode cX10_mended 17 = .ok (.iload_n 1, 1) := by decide +kernel
theorem dX10_mended_18 : decode cX10_mended 18 = .ok (.iconst 1, 1) := by decide +kernel
theorem dX10_mended_19 : decode cX10_mended 19 = .ok (.invokevirtual 293, 3) := by decide +kernel
theorem dX10_mended_22 : decode cX10_mended 22 = .ok (.bipush (-3), 2) := by decide +kernel
theorem dX10_mended_24 : decode cX10_mended 24 = .ok (.istore_n 3, 1) := by decide +kernel
theorem dX10_mended_25 : decode cX10_mended 25 = .ok (.iconst 0, 1) := by decide +kernel
theorem dX10_mended_26 : decode cX10_mended 26 = .ok (.istore 4, 2) := by decide +kernel
theorem dX10_mended_28 : decode cX10_mended 28 = .ok (.iload 4, 2) := by decide +kernel
theorem dX10_mended_30 : decode cX10_mended 30 = .ok (.sipush 4096, 3) := by decide +kernel
theorem dX10_mended_33 : decode cX10_mended 33 = .ok (.if_icmp .ge 122, 3) := by decide +kernel
theorem dX10_mended_36 : decode cX10_mended 36 = .ok (.aload_n 0, 1) := by decide +kernel
theorem dX10_mended_37 : decode cX10_mended 37 = .ok (.iload_n 1, 1) := by decide +kernel
theorem dX10_mended_38 : decode cX10_mended 38 = .ok (.iload 4, 2) := by decide +kernel
theorem dX10_mended_40 : decode cX10_mended 40 = .ok (.invokevirtual 297, 3) := by decide +kernel
theorem dX10_mended_43 : decode cX10_mended 43 = .ok (.ifCond .eq 106, 3) := by decide +kernel
theorem dX10_mended_46 : decode cX10_mended 46 = .ok (.aload_n 0, 1) := by decide +kernel
theorem dX10_mended_47 : decode cX10_mended 47 = .ok (.iload_n 1, 1) := by decide +kernel
theorem dX10_mended_48 : decode cX10_mended 48 = .ok (.invokevirtual 290, 3) := by decide +kernel
theorem dX10_mended_51 : decode cX10_mended 51 = .ok (.ifCond .ne 98, 3) := by decide +kernel
theorem dX10_mended_54 : decode cX10_mended 54 = .ok (.iconst 0, 1) := by decide +kernel
theorem dX10_mended_55 : decode cX10_mended 55 = .ok (.istore 5, 2) := by decide +kernel
theorem dX10_mended_57 : decode cX10_mended 57 = .ok (.iconst 0, 1) := by decide +kernel
theorem dX10_mended_58 : decode cX10_mended 58 = .ok (.istore 6, 2) := by decide +kernel
theorem dX10_mended_60 : decode cX10_mended 60 = .ok (.iload 6, 2) := by decide +kernel
theorem dX10_mended_62 : decode cX10_mended 62 = .ok (.iconst 4, 1) := by decide +kernel
theorem dX10_mended_63 : decode cX10_mended 63 = .ok (.if_icmp .ge 40, 3) := by decide +kernel
theorem dX10_mended_66 : decode cX10_mended 66 = .ok (.iload 5, 2) := by decide +kernel
theorem dX10_mended_68 : decode cX10_mended 68 = .ok (.aload_n 0, 1) := by decide +kernel
theorem dX10_mended_69 : decode cX10_mended 69 = .ok (.getfield 19, 3) := by decide +kernel
theorem dX10_mended_72 : decode cX10_mended 72 = .ok (.iconst 4, 1) := by decide +kernel
theorem dX10_mended_73 : decode cX10_mended 73 = .ok (.iload_n 1, 1) := by decide +kernel
theorem dX10_mended_74 : decode cX10_mended 74 = .ok (.imul, 1) := by decide +kernel
theorem dX10_mended_75 : decode cX10_mended 75 = .ok (.iload 6, 2) := by decide +kernel
theorem dX10_mended_77 : decode cX10_mended 77 = .ok (.iadd, 1) := by decide +kernel
theorem dX10_mended_78 : decode cX10_mended 78 = .ok (.iaload, 1) := by decide +kernel
theorem dX10_mended_79 : decode cX10_mended 79 = .ok (.aload_n 0, 1) := by decide +kernel
theorem dX10_mended_80 : decode cX10_mended 80 = .ok (.getfield 53, 3) := by decide +kernel
theorem dX10_mended_83 : decode cX10_mended 83 = .ok (.iload 6, 2) := by decide +kernel
theorem dX10_mended_85 : decode cX10_mended 85 = .ok (.iaload, 1) := by decide +kernel
theorem dX10_mended_86 : decode cX10_mended 86 = .ok (.if_icmp .eq 7, 3) := by decide +kernel
theorem dX10_mended_89 : decode cX10_mended 89 = .ok (.iconst 1, 1) := by decide +kernel
theorem dX10_mended_90 : decode cX10_mended 90 = .ok (.goto 4, 3) := by decide +kernel
theorem dX10_mended_93 : decode cX10_mended 93 = .ok (.iconst 0, 1) := by decide +kernel
theorem dX10_mended_94 : decode cX10_mended 94 = .ok (.iadd, 1) := by decide +kernel
theorem dX10_mended_95 : decode cX10_mended 95 = .ok (.istore 5, 2) := by decide +kernel
theorem dX10_mended_97 : decode cX10_mended 97 = .ok (.iinc 6 1, 3) := by decide +kernel
theorem dX10_mended_100 : decode cX10_mended 100 = .ok (.goto (-40), 3) := by decide +kernel
theorem dX10_mended_103 : decode cX10_mended 103 = .ok (.iload_n 3, 1) := by decide +kernel
theorem dX10_mended_104 : decode cX10_mended 104 = .ok (.ifCond .lt 9, 3) := by decide +kernel
theorem dX10_mended_107 : decode cX10_mended 107 = .ok (.iload 5, 2) := by decide +kernel
theorem dX10_mended_109 : decode cX10_mended 109 = .ok (.iload_n 3, 1) := by decide +kernel
theorem dX10_mended_110 : decode cX10_mended 110 = .ok (.if_icmp .ge 39, 3) := by decide +kernel
theorem dX10_mended_113 : decode cX10_mended 113 = .ok (.iload 5, 2) := by decide +kernel
theorem dX10_mended_115 : decode cX10_mended 115 = .ok (.istore_n 3, 1) := by decide +kernel
theorem dX10_mended_116 : decode cX10_mended 116 = .ok (.iconst 0, 1) := by decide +kernel
theorem dX10_mended_117 : decode cX10_mended 117 = .ok (.istore 6, 2) := by decide +kernel
theorem dX10_mended_119 : decode cX10_mended 119 = .ok (.iload 6, 2) := by decide +kernel
theorem dX10_mended_121 : decode cX10_mended 121 = .ok (.iconst 4, 1) := by decide +kernel
theorem dX10_mended_122 : decode cX10_mended 122 = .ok (.if_icmp .ge 27, 3) := by decide +kernel
theorem dX10_mended_125 : decode cX10_mended 125 = .ok (.aload_n 0, 1) := by decide +kernel
theorem dX10_mended_126 : decode cX10_mended 126 = .ok (.getfield 56, 3) := by decide +kernel
theorem dX10_mended_129 : decode cX10_mended 129 = .ok (.iload 6, 2) := by decide +kernel
theorem dX10_mended_131 : decode cX10_mended 131 = .ok (.aload_n 0, 1) := by decide +kernel
theorem dX10_mended_132 : decode cX10_mended 132 = .ok (.getfield 19, 3) := by decide +kernel
theorem dX10_mended_135 : decode cX10_mended 135 = .ok (.iconst 4, 1) := by decide +kernel
theorem dX10_mended_136 : decode cX10_mended 136 = .ok (.iload_n 1, 1) := by decide +kernel
theorem dX10_mended_137 : decode cX10_mended 137 = .ok (.imul, 1) := by decide +kernel
theorem dX10_mended_138 : decode cX10_mended 138 = .ok (.iload 6, 2) := by decide +kernel
theorem dX10_mended_140 : decode cX10_mended 140 = .ok (.iadd, 1) := by decide +kernel
theorem dX10_mended_141 : decode cX10_mended 141 = .ok (.iaload, 1) := by decide +kernel
theorem dX10_mended_142 : decode cX10_mended 142 = .ok (.iastore, 1) := by decide +kernel
theorem dX10_mended_143 : decode cX10_mended 143 = .ok (.iinc 6 1, 3) := by decide +kernel
theorem dX10_mended_146 : decode cX10_mended 146 = .ok (.goto (-27), 3) := by decide +kernel
theorem dX10_mended_149 : decode cX10_mended 149 = .ok (.iinc 4 1, 3) := by decide +kernel
theorem dX10_mended_152 : decode cX10_mended 152 = .ok (.goto (-124), 3) := by decide +kernel
theorem dX10_mended_155 : decode cX10_mended 155 = .ok (.aload_n 0, 1) := by decide +kernel
theorem dX10_mended_156 : decode cX10_mended 156 = .ok (.iload_n 1, 1) := by decide +kernel
theorem dX10_mended_157 : decode cX10_mended 157 = .ok (.iconst 1, 1) := by decide +kernel
theorem dX10_mended_158 : decode cX10_mended 158 = .ok (.invokevirtual 300, 3) := by decide +kernel
theorem dX10_mended_161 : decode cX10_mended 161 = .ok (.iload_n 3, 1) := by decide +kernel
theorem dX10_mended_162 : decode cX10_mended 162 = .ok (.ifCond .lt 7, 3) := by decide +kernel
theorem dX10_mended_165 : decode cX10_mended 165 = .ok (.iload_n 2, 1) := by decide +kernel
theorem dX10_mended_166 : decode cX10_mended 166 = .ok (.ifCond .ne 5, 3) := by decide +kernel
theorem dX10_mended_169 : decode cX10_mended 169 = .ok (.iload_n 3, 1) := by decide +kernel
theorem dX10_mended_170 : decode cX10_mended 170 = .ok (.ireturn, 1) := by decide +kernel
theorem dX10_mended_171 : decode cX10_mended 171 = .ok (.aload_n 0, 1) := by decide +kernel
theorem dX10_mended_172 : decode cX10_mended 172 = .ok (.getfield 56, 3) := by decide +kernel
theorem dX10_mended_175 : decode cX10_mended 175 = .ok (.iconst 0, 1) := by decide +kernel
theorem dX10_mended_176 : decode cX10_mended 176 = .ok (.iaload, 1) := by decide +kernel
theorem dX10_mended_177 : decode cX10_mended 177 = .ok (.aload_n 0, 1) := by decide +kernel
theorem dX10_mended_178 : decode cX10_mended 178 = .ok (.getfield 56, 3) := by decide +kernel
theorem dX10_mended_181 : decode cX10_mended 181 = .ok (.iconst 1, 1) := by decide +kernel
theorem dX10_mended_182 : decode cX10_mended 182 = .ok (.iaload, 1) := by decide +kernel
theorem dX10_mended_183 : decode cX10_mended 183 = .ok (.iconst 3, 1) := by decide +kernel
theorem dX10_mended_184 : decode cX10_mended 184 = .ok (.ishl, 1) := by decide +kernel
theorem dX10_mended_185 : decode cX10_mended 185 = .ok (.ior, 1) := by decide +kernel
theorem dX10_mended_186 : decode cX10_mended 186 = .ok (.aload_n 0, 1) := by decide +kernel
theorem dX10_mended_187 : decode cX10_mended 187 = .ok (.getfield 56, 3) := by decide +kernel
theorem dX10_mended_190 : decode cX10_mended 190 = .ok (.iconst 2, 1) := by decide +kernel
theorem dX10_mended_191 : decode cX10_mended 191 = .ok (.iaload, 1) := by decide +kernel
theorem dX10_mended_192 : decode cX10_mended 192 = .ok (.bipush 6, 2) := by decide +kernel
theorem dX10_mended_194 : decode cX10_mended 194 = .ok (.ishl, 1) := by decide +kernel
theorem dX10_mended_195 : decode cX10_mended 195 = .ok (.ior, 1) := by decide +kernel
theorem dX10_mended_196 : decode cX10_mended 196 = .ok (.aload_n 0, 1) := by decide +kernel
theorem dX10_mended_197 : decode cX10_mended 197 = .ok (.getfield 56, 3) := by decide +kernel
theorem dX10_mended_200 : decode cX10_mended 200 = .ok (.iconst 3, 1) := by decide +kernel
theorem dX10_mended_201 : decode cX10_mended 201 = .ok (.iaload, 1) := by decide +kernel
theorem dX10_mended_202 : decode cX10_mended 202 = .ok (.bipush 9, 2) := by decide +kernel
theorem dX10_mended_204 : decode cX10_mended 204 = .ok (.ishl, 1) := by decide +kernel
theorem dX10_mended_205 : decode cX10_mended 205 = .ok (.ior, 1) := by decide +kernel
theorem dX10_mended_206 : decode cX10_mended 206 = .ok (.ireturn, 1) := by decide +kernel
theorem dX10_sits_0 : decode cX10_sits 0 = .ok (.iload_n 2, 1) := by decide +kernel
theorem dX10_sits_1 : decode cX10_sits 1 = .ok (.bipush 8, 2) := by decide +kernel
theorem dX10_sits_3 : decode cX10_sits 3 = .ok (.idiv, 1) := by decide +kernel
theorem dX10_sits_4 : decode cX10_sits 4 = .ok (.istore_n 3, 1) := by decide +kernel
theorem dX10_sits_5 : decode cX10_sits 5 = .ok (.iload_n 2, 1) := by decide +kernel
theorem dX10_sits_6 : decode cX10_sits 6 = .ok (.bipush 8, 2) := by decide +kernel
theorem dX10_sits_8 : decode cX10_sits 8 = .ok (.irem, 1) := by decide +kernel
theorem dX10_sits_9 : decode cX10_sits 9 = .ok (.istore 4, 2) := by decide +kernel
theorem dX10_sits_11 : decode cX10_sits 11 = .ok (.iload_n 3, 1) := by decide +kernel
theorem dX10_sits_12 : decode cX10_sits 12 = .ok (.iload 4, 2) := by decide +kernel
theorem dX10_sits_14 : decode cX10_sits 14 = .ok (.if_icmp .ge 31, 3) := by decide +kernel
theorem dX10_sits_17 : decode cX10_sits 17 = .ok (.aload_n 0, 1) := by decide +kernel
theorem dX10_sits_18 : decode cX10_sits 18 = .ok (.iload 4, 2) := by decide +kernel
theorem dX10_sits_20 : decode cX10_sits 20 = .ok (.invokevirtual 109, 3) := by decide +kernel
theorem dX10_sits_23 : decode cX10_sits 23 = .ok (.ifCond .eq 22, 3) := by decide +kernel
theorem dX10_sits_26 : decode cX10_sits 26 = .ok (.aload_n 0, 1) := by decide +kernel
theorem dX10_sits_27 : decode cX10_sits 27 = .ok (.iload_n 3, 1) := by decide +kernel
theorem dX10_sits_28 : decode cX10_sits 28 = .ok (.iload_n 1, 1) := by decide +kernel
theorem dX10_sits_29 : decode cX10_sits 29 = .ok (.invokevirtual 236, 3) := by decide +kernel
theorem dX10_sits_32 : decode cX10_sits 32 = .ok (.ifCond .ne 13, 3) := by decide +kernel
theorem dX10_sits_35 : decode cX10_sits 35 = .ok (.aload_n 0, 1) := by decide +kernel
theorem dX10_sits_36 : decode cX10_sits 36 = .ok (.iload 4, 2) := by decide +kernel
theorem dX10_sits_38 : decode cX10_sits 38 = .ok (.iload_n 1, 1) := by decide +kernel
theorem dX10_sits_39 : decode cX10_sits 39 = .ok (.invokevirtual 236, 3) := by decide +kernel
theorem dX10_sits_42 : decode cX10_sits 42 = .ok (.ifCond .eq 5, 3) := by decide +kernel
theorem dX10_sits_45 : decode cX10_sits 45 = .ok (.iconst 0, 1) := by decide +kernel
theorem dX10_sits_46 : decode cX10_sits 46 = .ok (.ireturn, 1) := by decide +kernel
theorem dX10_sits_47 : decode cX10_sits 47 = .ok (.aload_n 0, 1) := by decide +kernel
theorem dX10_sits_48 : decode cX10_sits 48 = .ok (.getfield 19, 3) := by decide +kernel
theorem dX10_sits_51 : decode cX10_sits 51 = .ok (.iconst 4, 1) := by decide +kernel
theorem dX10_sits_52 : decode cX10_sits 52 = .ok (.iload_n 1, 1) := by decide +kernel
theorem dX10_sits_53 : decode cX10_sits 53 = .ok (.imul, 1) := by decide +kernel
theorem dX10_sits_54 : decode cX10_sits 54 = .ok (.iload_n 3, 1) := by decide +kernel
theorem dX10_sits_55 : decode cX10_sits 55 = .ok (.iastore, 1) := by decide +kernel
theorem dX10_sits_56 : decode cX10_sits 56 = .ok (.aload_n 0, 1) := by decide +kernel
theorem dX10_sits_57 : decode cX10_sits 57 = .ok (.getfield 19, 3) := by decide +kernel
theorem dX10_sits_60 : decode cX10_sits 60 = .ok (.iconst 4, 1) := by decide +kernel
theorem dX10_sits_61 : decode cX10_sits 61 = .ok (.iload_n 1, 1) := by decide +kernel
theorem dX10_sits_62 : decode cX10_sits 62 = .ok (.imul, 1) := by decide +kernel
theorem dX10_sits_63 : decode cX10_sits 63 = .ok (.iconst 1, 1) := by decide +kernel
theorem dX10_sits_64 : decode cX10_sits 64 = .ok (.iadd, 1) := by decide +kernel
theorem dX10_sits_65 : decode cX10_sits 65 = .ok (.iload 4, 2) := by decide +kernel
theorem dX10_sits_67 : decode cX10_sits 67 = .ok (.iastore, 1) := by decide +kernel
theorem dX10_sits_68 : decode cX10_sits 68 = .ok (.aload_n 0, 1) := by decide +kernel
theorem dX10_sits_69 : decode cX10_sits 69 = .ok (.iload_n 1, 1) := by decide +kernel
theorem dX10_sits_70 : decode cX10_sits 70 = .ok (.invokevirtual 290, 3) := by decide +kernel
theorem dX10_sits_73 : decode cX10_sits 73 = .ok (.ifCond .ne 7, 3) := by decide +kernel
theorem dX10_sits_76 : decode cX10_sits 76 = .ok (.iconst 1, 1) := by decide +kernel
theorem dX10_sits_77 : decode cX10_sits 77 = .ok (.goto 4, 3) := by decide +kernel
theorem dX10_sits_80 : decode cX10_sits 80 = .ok (.iconst 0, 1) := by decide +kernel
theorem dX10_sits_81 : decode cX10_sits 81 = .ok (.ireturn, 1) := by decide +kernel
def fM_in (a0 : Int32) (a1 : Int32) (a2 : Int32) : Int32 :=
  if a0 < a1 then 0 else (if a2 < a0 then 0 else 1)
theorem fM_in_b (a0 : Int32) (a1 : Int32) (a2 : Int32) : fM_in a0 a1 a2 = 0 ∨ fM_in a0 a1 a2 = 1 := by
  unfold fM_in
  (repeat' split) <;> first | with_reducible exact Or.inl rfl | with_reducible exact Or.inr rfl
set_option maxRecDepth 4000 in
theorem cM_in (l : Launch) (z : MS) (a0 : Int32) (a1 : Int32) (a2 : Int32) : CT l yX10_in cX10_in 3 (some .boolean) 0 0 (fun ad sd => [.int a0, .int a1, .int a2]) z (some (.int (fM_in a0 a1 a2))) z := by
  generalize h : fM_in a0 a1 a2 = r
  rw [fM_in] at h
  refine u_start RX10 rfl (by decide) (fun _ _ => Nat.le_of_ble_eq_true rfl) (fun p e s m args below meth c R D ad cs sd A Q ls X hP hS hl hr hret => ?_)
  have hl : lv_has ls 3 [(0, .int a0), (1, .int a1), (2, .int a2)] := hl
  refine u_iload_n X hl dX10_in_0 0 rfl ?_
  refine u_iload_n X hl dX10_in_1 1 rfl ?_
  refine u_icmp_lt 14 X dX10_in_2 rfl (fun hc => ?_) (fun hc => ?_)
  · rw [if_pos hc] at h
    refine u_iconst (v := 0) X dX10_in_14 rfl ?_
    exact u_zretT X hr hret h hP hS (Or.inl rfl) dX10_in_15
  · rw [if_neg hc] at h
    refine u_iload_n X hl dX10_in_5 0 rfl ?_
    refine u_iload_n X hl dX10_in_6 2 rfl ?_
    refine u_icmp_gt 14 X dX10_in_7 rfl (fun hc => ?_) (fun hc => ?_)
    · rw [if_pos hc] at h
      refine u_iconst (v := 0) X dX10_in_14 rfl ?_
      exact u_zretT X hr hret h hP hS (Or.inl rfl) dX10_in_15
    · rw [if_neg hc] at h
      refine u_iconst (v := 1) X dX10_in_10 rfl ?_
      refine u_goto 15 X dX10_in_11 rfl ?_
      exact u_zretT X hr hret h hP hS (Or.inr rfl) dX10_in_15
def fM_isPerson (z : MS) (a0 : Int32) : Int32 :=
  fM_in a0 0 ((gI z 56 0) - 1)
theorem fM_isPerson_b (z : MS) (a0 : Int32) : fM_isPerson z a0 = 0 ∨ fM_isPerson z a0 = 1 := by
  unfold fM_isPerson
  (repeat' split) <;> first | with_reducible exact Or.inl rfl | with_reducible exact Or.inr rfl | with_reducible exact fM_in_b _ _ _
set_option maxRecDepth 4000 in
theorem cM_isPerson (l : Launch) (z : MS) (a0 : Int32) : CT l yX10_isPerson cX10_isPerson 2 (some .boolean) 1 22 (fun ad sd => [.ref (ad 56), .int a0]) z (some (.int (fM_isPerson z a0))) z := by
  generalize h : fM_isPerson z a0 = r
  rw [fM_isPerson] at h
  refine u_start RX10 rfl (by decide) (fun _ _ => Nat.le_of_ble_eq_true rfl) (fun p e s m args below meth c R D ad cs sd A Q ls X hP hS hl hr hret => ?_)
  have hl : lv_has ls 2 [(0, .ref (ad 56)), (1, .int a0)] := hl
  refine u_iload_n X hl dX10_isPerson_0 1 rfl ?_
  refine u_iconst (v := 0) X dX10_isPerson_1 rfl ?_
  refine u_aload_n X hl dX10_isPerson_2 0 rfl ?_
  refine gf_X10_102_56 X hP dX10_isPerson_3 ?_
  refine u_iconst (v := 1) X dX10_isPerson_6 rfl ?_
  refine u_isub X dX10_isPerson_7 ?_
  refine u_callSi X hP hS hl dX10_isPerson_8 (cM_in l z a0 0 ((gI z 56 0) - 1)) cw_X10_105 rfl rfl rfl rfl ⟨rfl, rfl⟩ (fun H locs hP hS => ?_)
  exact u_zretT X hr hret h hP hS (fM_in_b _ _ _) dX10_isPerson_11
def fM_areTwo (z : MS) (a0 : Int32) (a1 : Int32) : Int32 :=
  if (fM_isPerson z a0) = 0 then 0 else (if (fM_isPerson z a1) = 0 then 0 else (if a0 = a1 then 0 else 1))
theorem fM_areTwo_b (z : MS) (a0 : Int32) (a1 : Int32) : fM_areTwo z a0 a1 = 0 ∨ fM_areTwo z a0 a1 = 1 := by
  unfold fM_areTwo
  (repeat' split) <;> first | with_reducible exact Or.inl rfl | with_reducible exact Or.inr rfl | with_reducible exact fM_isPerson_b _ _
set_option maxRecDepth 4000 in
theorem cM_areTwo (l : Launch) (z : MS) (a0 : Int32) (a1 : Int32) : CT l yX10_areTwo cX10_areTwo 3 (some .boolean) 2 43 (fun ad sd => [.ref (ad 56), .int a0, .int a1]) z (some (.int (fM_areTwo z a0 a1))) z := by
  generalize h : fM_areTwo z a0 a1 = r
  rw [fM_areTwo] at h
  refine u_start RX10 rfl (by decide) (fun _ _ => Nat.le_of_ble_eq_true rfl) (fun p e s m args below meth c R D ad cs sd A Q ls X hP hS hl hr hret => ?_)
  have hl : lv_has ls 3 [(0, .ref (ad 56)), (1, .int a0), (2, .int a1)] := hl
  refine u_aload_n X hl dX10_areTwo_0 0 rfl ?_
  refine u_iload_n X hl dX10_areTwo_1 1 rfl ?_
  refine u_callVi X hP hS hl dX10_areTwo_2 (cM_isPerson l z a0) cw_X10_109 io_56 rfl rfl rfl rfl ⟨rfl, rfl⟩ (fun H locs hP hS => ?_)
  refine u_if_eq 25 X dX10_areTwo_5 rfl (fun hc => ?_) (fun hc => ?_)
  · rw [if_pos hc] at h
    refine u_iconst (v := 0) X dX10_areTwo_25 rfl ?_
    exact u_zretT X hr hret h hP hS (Or.inl rfl) dX10_areTwo_26
  · rw [if_neg hc] at h
    refine u_aload_n X hl dX10_areTwo_8 0 rfl ?_
    refine u_iload_n X hl dX10_areTwo_9 2 rfl ?_
    refine u_callVi X hP hS hl dX10_areTwo_10 (cM_isPerson l z a1) cw_X10_109 io_56 rfl rfl rfl rfl ⟨rfl, rfl⟩ (fun H locs hP hS => ?_)
    refine u_if_eq 25 X dX10_areTwo_13 rfl (fun hc => ?_) (fun hc => ?_)
    · rw [if_pos hc] at h
      refine u_iconst (v := 0) X dX10_areTwo_25 rfl ?_
      exact u_zretT X hr hret h hP hS (Or.inl rfl) dX10_areTwo_26
    · rw [if_neg hc] at h
      refine u_iload_n X hl dX10_areTwo_16 1 rfl ?_
      refine u_iload_n X hl dX10_areTwo_17 2 rfl ?_
      refine u_icmp_eq 25 X dX10_areTwo_18 rfl (fun hc => ?_) (fun hc => ?_)
      · rw [if_pos hc] at h
        refine u_iconst (v := 0) X dX10_areTwo_25 rfl ?_
        exact u_zretT X hr hret h hP hS (Or.inl rfl) dX10_areTwo_26
      · rw [if_neg hc] at h
        refine u_iconst (v := 1) X dX10_areTwo_21 rfl ?_
        refine u_goto 26 X dX10_areTwo_22 rfl ?_
        exact u_zretT X hr hret h hP hS (Or.inr rfl) dX10_areTwo_26
def fM_areKin (z : MS) (a0 : Int32) (a1 : Int32) : Option Int32 :=
  if a0 < 0 ∨ 8 ≤ a0.toNatClampNeg then none else if (((gI z 57 a0.toNatClampNeg) >>> (a1 &&& 31)) &&& 1) = 1 then some 1 else some 0
set_option maxRecDepth 4000 in
theorem cM_areKin (l : Launch) {z : MS} {a0 : Int32} {a1 : Int32} {r : Int32} (h : fM_areKin z a0 a1 = some r) : CT l yX10_areKin cX10_areKin 3 (some .boolean) 0 0 (fun ad sd => [.ref (ad 56), .int a0, .int a1]) z (some (.int r)) z := by
  rw [fM_areKin] at h
  refine u_start RX10 rfl (by decide) (fun _ _ => Nat.le_of_ble_eq_true rfl) (fun p e s m args below meth c R D ad cs sd A Q ls X hP hS hl hr hret => ?_)
  have hl : lv_has ls 3 [(0, .ref (ad 56)), (1, .int a0), (2, .int a1)] := hl
  refine u_aload_n X hl dX10_areKin_0 0 rfl ?_
  refine gf_X10_7_56 X hP dX10_areKin_1 ?_
  refine u_iload_n X hl dX10_areKin_4 1 rfl ?_
  obtain ⟨hin, h⟩ := ifn_inv h
  refine ld_57 X hP rfl hin dX10_areKin_5 ?_
  refine u_iload_n X hl dX10_areKin_6 2 rfl ?_
  refine u_ishr X dX10_areKin_7 ?_
  refine u_iconst (v := 1) X dX10_areKin_8 rfl ?_
  refine u_iand X dX10_areKin_9 ?_
  refine u_iconst (v := 1) X dX10_areKin_10 rfl ?_
  refine u_icmp_ne 18 X dX10_areKin_11 rfl (fun hc => ?_) (fun hc => ?_)
  · rw [if_neg hc] at h
    refine u_iconst (v := 0) X dX10_areKin_18 rfl ?_
    exact u_zretP X hr hret h hP hS (Or.inl rfl) dX10_areKin_19
  · rw [if_pos hc] at h
    refine u_iconst (v := 1) X dX10_areKin_14 rfl ?_
    refine u_goto 19 X dX10_areKin_15 rfl ?_
    exact u_zretP X hr hret h hP hS (Or.inr rfl) dX10_areKin_19
def fM_isAway (z : MS) (a0 : Int32) (a1 : Int32) : Option Int32 :=
  if a0 < 0 ∨ 8 ≤ a0.toNatClampNeg then none else if (((gI z 58 a0.toNatClampNeg) >>> (a1 &&& 31)) &&& 1) = 1 then some 1 else some 0
set_option maxRecDepth 4000 in
theorem cM_isAway (l : Launch) {z : MS} {a0 : Int32} {a1 : Int32} {r : Int32} (h : fM_isAway z a0 a1 = some r) : CT l yX10_isAway cX10_isAway 3 (some .boolean) 0 0 (fun ad sd => [.ref (ad 56), .int a0, .int a1]) z (some (.int r)) z := by
  rw [fM_isAway] at h
  refine u_start RX10 rfl (by decide) (fun _ _ => Nat.le_of_ble_eq_true rfl) (fun p e s m args below meth c R D ad cs sd A Q ls X hP hS hl hr hret => ?_)
  have hl : lv_has ls 3 [(0, .ref (ad 56)), (1, .int a0), (2, .int a1)] := hl
  refine u_aload_n X hl dX10_isAway_0 0 rfl ?_
  refine gf_X10_13_56 X hP dX10_isAway_1 ?_
  refine u_iload_n X hl dX10_isAway_4 1 rfl ?_
  obtain ⟨hin, h⟩ := ifn_inv h
  refine ld_58 X hP rfl hin dX10_isAway_5 ?_
  refine u_iload_n X hl dX10_isAway_6 2 rfl ?_
  refine u_ishr X dX10_isAway_7 ?_
  refine u_iconst (v := 1) X dX10_isAway_8 rfl ?_
  refine u_iand X dX10_isAway_9 ?_
  refine u_iconst (v := 1) X dX10_isAway_10 rfl ?_
  refine u_icmp_ne 18 X dX10_isAway_11 rfl (fun hc => ?_) (fun hc => ?_)
  · rw [if_neg hc] at h
    refine u_iconst (v := 0) X dX10_isAway_18 rfl ?_
    exact u_zretP X hr hret h hP hS (Or.inl rfl) dX10_isAway_19
  · rw [if_pos hc] at h
    refine u_iconst (v := 1) X dX10_isAway_14 rfl ?_
    refine u_goto 19 X dX10_isAway_15 rfl ?_
    exact u_zretP X hr hret h hP hS (Or.inr rfl) dX10_isAway_19
def fM_feed_L30 (l1 : Int64) (l3 : Int32) : Nat → MS → Int32 → Option (Int32 × MS)
  | 0, _, _ => none
  | n + 1, z, l4 => if l3 ≤ l4 then some (gI z 56 13, z) else (if (gI z 56 13) < 0 ∨ 200 ≤ (gI z 56 13).toNatClampNeg then none else fM_feed_L30 l1 l3 n (pI (pI z 65 (gI z 56 13).toNatClampNeg (((jshr l1 (8 * l4)) &&& 255).toInt32)) 56 13 ((gI (pI z 65 (gI z 56 13).toNatClampNeg (((jshr l1 (8 * l4)) &&& 255).toInt32)) 56 13) + 1)) (l4 + 1))
def fM_feed (z : MS) (a0 : Int64) (a1 : Int32) : Option (Int32 × MS) :=
  if (fM_in a1 1 8) = 0 then some ((-1), z) else (if ((gI z 56 13) + a1) ≤ 200 then fM_feed_L30 a0 a1 LF z 0 else some ((-2), z))
set_option maxRecDepth 4000 in
theorem cM_feed (l : Launch) {z : MS} {a0 : Int64} {a1 : Int32} {r : Int32} {z1 : MS} (h : fM_feed z a0 a1 = some (r, z1)) : CT l yX10_feed cX10_feed 5 (some .int) 1 22 (fun ad sd => [.ref (ad 56), .long a0, .int a1]) z (some (.int r)) z1 := by
  rw [fM_feed] at h
  refine u_start RX10 rfl (by decide) (fun _ _ => Nat.le_of_ble_eq_true rfl) (fun p e s m args below meth c R D ad cs sd A Q ls X hP hS hl hr hret => ?_)
  have hl : lv_has ls 5 [(0, .ref (ad 56)), (1, .long a0), (3, .int a1)] := hl
  refine u_iload_n X hl dX10_feed_0 2 rfl ?_
  refine u_iconst (v := 1) X dX10_feed_1 rfl ?_
  refine u_bipush (v := 8) X dX10_feed_2 rfl ?_
  refine u_callSi X hP hS hl dX10_feed_4 (cM_in l z a1 1 8) cw_X10_105 rfl rfl rfl rfl ⟨rfl, rfl⟩ (fun H locs hP hS => ?_)
  refine u_if_ne 12 X dX10_feed_7 rfl (fun hc => ?_) (fun hc => ?_)
  · rw [if_neg hc] at h
    refine u_aload_n X hl dX10_feed_12 0 rfl ?_
    refine gf_X10_113_56 X hP dX10_feed_13 ?_
    refine u_iload_n X hl dX10_feed_16 2 rfl ?_
    refine u_iadd X dX10_feed_17 ?_
    refine u_sipush (v := 200) X dX10_feed_18 rfl ?_
    refine u_icmp_le 27 X dX10_feed_21 rfl (fun hc => ?_) (fun hc => ?_)
    · rw [if_pos hc] at h
      refine u_iconst (v := 0) X dX10_feed_27 rfl ?_
      refine u_istore [(4, .int 0), (0, .ref (ad 56)), (1, .long a0), (3, .int a1)] X hl dX10_feed_28 (Nat.le_of_ble_eq_true rfl) rfl (fun ls hl => ?_)
      have L30 : ∀ (n : Nat) (H : Heap) (locs : List Loc) (ls : Array Slot) (z_30 : MS) (l4_30 : Int32), lv_has ls 5 [(0, .ref (ad 56)), (1, .long a0), (3, .int a1), (4, .int l4_30)] → va_P D clss (wld cs ad z_30) H → va_S A s.heap H locs → fM_feed_L30 a0 a1 n z_30 l4_30 = some (r, z1) → W p l e R s m args below meth c H locs 0 0 Q (F0 m 30 ls []) := by
        intro n
        induction n with
        | zero =>
          intro H locs ls z_30 l4_30 hl hP hS h
          rw [fM_feed_L30] at h
          cases h
        | succ n30 ih30 =>
          intro H locs ls z_30 l4_30 hl hP hS h
          rw [fM_feed_L30] at h
          refine u_iload X hl dX10_feed_30 3 rfl ?_
          refine u_iload_n X hl dX10_feed_32 2 rfl ?_
          refine u_icmp_ge 73 X dX10_feed_33 rfl (fun hc => ?_) (fun hc => ?_)
          · rw [if_pos hc] at h
            refine u_aload_n X hl dX10_feed_73 0 rfl ?_
            refine gf_X10_113_56 X hP dX10_feed_74 ?_
            exact u_iretM X hr hret h hP hS dX10_feed_77
          · rw [if_neg hc] at h
            refine u_aload_n X hl dX10_feed_36 0 rfl ?_
            refine gf_X10_38_56 X hP dX10_feed_37 ?_
            refine u_aload_n X hl dX10_feed_40 0 rfl ?_
            refine gf_X10_113_56 X hP dX10_feed_41 ?_
            refine u_lload_n X hl dX10_feed_44 1 rfl ?_
            refine u_bipush (v := 8) X dX10_feed_45 rfl ?_
            refine u_iload X hl dX10_feed_47 3 rfl ?_
            refine u_imul X dX10_feed_49 ?_
            refine u_lshr X dX10_feed_50 ?_
            refine u_ldc2 X kw_X10_116 dX10_feed_51 ?_
            refine u_land X dX10_feed_54 ?_
            refine u_l2i X dX10_feed_55 ?_
            obtain ⟨hin, h⟩ := ifn_inv h
            refine as_65 X hP hS rfl hin dX10_feed_56 (fun H locs hP hS => ?_)
            refine u_aload_n X hl dX10_feed_57 0 rfl ?_
            refine u_dup X rfl dX10_feed_58 ?_
            refine gf_X10_113_56 X hP dX10_feed_59 ?_
            refine u_iconst (v := 1) X dX10_feed_62 rfl ?_
            refine u_iadd X dX10_feed_63 ?_
            refine pf_X10_113_56 X hP hS dX10_feed_64 (fun H locs hP hS => ?_)
            refine u_iinc [(4, .int (l4_30 + 1)), (0, .ref (ad 56)), (1, .long a0), (3, .int a1)] X hl dX10_feed_67 3 rfl rfl (Nat.le_of_ble_eq_true rfl) rfl (fun ls hl => ?_)
            refine u_goto 30 X dX10_feed_70 rfl ?_
            exact ih30 _ _ _ _ _ (lv_sub hl [1, 2, 3, 0] rfl) hP hS h
      exact L30 LF _ _ _ _ _ (lv_sub hl [1, 2, 3, 0] rfl) hP hS h
    · rw [if_neg hc] at h
      refine u_bipush (v := (-2)) X dX10_feed_24 rfl ?_
      exact u_iretM X hr hret h hP hS dX10_feed_26
  · rw [if_pos hc] at h
    refine u_iconst (v := (-1)) X dX10_feed_10 rfl ?_
    exact u_iretM X hr hret h hP hS dX10_feed_11
def fM_byteAt (z : MS) (a0 : Int32) : Option Int32 :=
  if (gI z 56 13) ≤ a0 then some (-1) else (if a0 < 0 ∨ 200 ≤ a0.toNatClampNeg then none else some (gI z 65 a0.toNatClampNeg))
set_option maxRecDepth 4000 in
theorem cM_byteAt (l : Launch) {z : MS} {a0 : Int32} {r : Int32} (h : fM_byteAt z a0 = some r) : CT l yX10_byteAt cX10_byteAt 2 (some .int) 0 0 (fun ad sd => [.ref (ad 56), .int a0]) z (some (.int r)) z := by
  rw [fM_byteAt] at h
  refine u_start RX10 rfl (by decide) (fun _ _ => Nat.le_of_ble_eq_true rfl) (fun p e s m args below meth c R D ad cs sd A Q ls X hP hS hl hr hret => ?_)
  have hl : lv_has ls 2 [(0, .ref (ad 56)), (1, .int a0)] := hl
  refine u_iload_n X hl dX10_byteAt_0 1 rfl ?_
  refine u_aload_n X hl dX10_byteAt_1 0 rfl ?_
  refine gf_X10_113_56 X hP dX10_byteAt_2 ?_
  refine u_icmp_ge 17 X dX10_byteAt_5 rfl (fun hc => ?_) (fun hc => ?_)
  · rw [if_pos hc] at h
    refine u_iconst (v := (-1)) X dX10_byteAt_17 rfl ?_
    exact u_iretP X hr hret h hP hS dX10_byteAt_18
  · rw [if_neg hc] at h
    refine u_aload_n X hl dX10_byteAt_8 0 rfl ?_
    refine gf_X10_38_56 X hP dX10_byteAt_9 ?_
    refine u_iload_n X hl dX10_byteAt_12 1 rfl ?_
    obtain ⟨hin, h⟩ := ifn_inv h
    refine ld_65 X hP rfl hin dX10_byteAt_13 ?_
    refine u_goto 18 X dX10_byteAt_14 rfl ?_
    exact u_iretP X hr hret h hP hS dX10_byteAt_18
def fM_isLetter (a0 : Int32) : Int32 :=
  fM_in a0 97 122
theorem fM_isLetter_b (a0 : Int32) : fM_isLetter a0 = 0 ∨ fM_isLetter a0 = 1 := by
  unfold fM_isLetter
  (repeat' split) <;> first | with_reducible exact Or.inl rfl | with_reducible exact Or.inr rfl | with_reducible exact fM_in_b _ _ _
set_option maxRecDepth 4000 in
theorem cM_isLetter (l : Launch) (z : MS) (a0 : Int32) : CT l yX10_isLetter cX10_isLetter 1 (some .boolean) 1 22 (fun ad sd => [.int a0]) z (some (.int (fM_isLetter a0))) z := by
  generalize h : fM_isLetter a0 = r
  rw [fM_isLetter] at h
  refine u_start RX10 rfl (by decide) (fun _ _ => Nat.le_of_ble_eq_true rfl) (fun p e s m args below meth c R D ad cs sd A Q ls X hP hS hl hr hret => ?_)
  have hl : lv_has ls 1 [(0, .int a0)] := hl
  refine u_iload_n X hl dX10_isLetter_0 0 rfl ?_
  refine u_bipush (v := 97) X dX10_isLetter_1 rfl ?_
  refine u_bipush (v := 122) X dX10_isLetter_3 rfl ?_
  refine u_callSi X hP hS hl dX10_isLetter_5 (cM_in l z a0 97 122) cw_X10_105 rfl rfl rfl rfl ⟨rfl, rfl⟩ (fun H locs hP hS => ?_)
  exact u_zretT X hr hret h hP hS (fM_in_b _ _ _) dX10_isLetter_8
def fM_isDigit (a0 : Int32) : Int32 :=
  fM_in a0 48 57
theorem fM_isDigit_b (a0 : Int32) : fM_isDigit a0 = 0 ∨ fM_isDigit a0 = 1 := by
  unfold fM_isDigit
  (repeat' split) <;> first | with_reducible exact Or.inl rfl | with_reducible exact Or.inr rfl | with_reducible exact fM_in_b _ _ _
set_option maxRecDepth 4000 in
theorem cM_isDigit (l : Launch) (z : MS) (a0 : Int32) : CT l yX10_isDigit cX10_isDigit 1 (some .boolean) 1 22 (fun ad sd => [.int a0]) z (some (.int (fM_isDigit a0))) z := by
  generalize h : fM_isDigit a0 = r
  rw [fM_isDigit] at h
  refine u_start RX10 rfl (by decide) (fun _ _ => Nat.le_of_ble_eq_true rfl) (fun p e s m args below meth c R D ad cs sd A Q ls X hP hS hl hr hret => ?_)
  have hl : lv_has ls 1 [(0, .int a0)] := hl
  refine u_iload_n X hl dX10_isDigit_0 0 rfl ?_
  refine u_bipush (v := 48) X dX10_isDigit_1 rfl ?_
  refine u_bipush (v := 57) X dX10_isDigit_3 rfl ?_
  refine u_callSi X hP hS hl dX10_isDigit_5 (cM_in l z a0 48 57) cw_X10_105 rfl rfl rfl rfl ⟨rfl, rfl⟩ (fun H locs hP hS => ?_)
  exact u_zretT X hr hret h hP hS (fM_in_b _ _ _) dX10_isDigit_8
def fM_advance_J266 (z : MS) (K207 : MS → Option MS) (s1 : Int32) : Option MS :=
  K207 (pI (pI z 56 18 s1) 56 16 ((gI (pI z 56 18 s1) 56 16) + 1))
def fM_advance_L207 : Nat → MS → Option MS
  | 0, _ => none
  | n + 1, z => if (gI z 56 14) = 2 then Option.bind (fM_byteAt z (gI z 56 16)) (fun w220 => if (fM_isDigit w220) = 0 then some z else (if 2 ≤ ((gI z 56 16) - (gI z 56 15)) then fM_advance_J266 z (fM_advance_L207 n) (-1) else Option.bind (fM_byteAt z (gI z 56 16)) (fun w255 => fM_advance_J266 z (fM_advance_L207 n) (((10 * (gI z 56 18)) + w255) - 48)))) else some z
def fM_advance_J191 (z : MS) (K126 : MS → Option MS) (s1 : Int64) : Option MS :=
  K126 (pI (pJ z 56 17 s1) 56 16 ((gI (pJ z 56 17 s1) 56 16) + 1))
def fM_advance_L126 : Nat → MS → Option MS
  | 0, _ => none
  | n + 1, z => if (gI z 56 14) = 1 then Option.bind (fM_byteAt z (gI z 56 16)) (fun w139 => if (fM_isLetter w139) = 0 then fM_advance_L207 LF z else (if 8 ≤ ((gI z 56 16) - (gI z 56 15)) then fM_advance_J191 z (fM_advance_L126 n) (-1) else Option.bind (fM_byteAt z (gI z 56 16)) (fun w176 => fM_advance_J191 z (fM_advance_L126 n) (((27 * (gJ z 56 17)) + w176.toInt64) - 96)))) else fM_advance_L207 LF z
def fM_advance_J105 (z : MS) (s1 : Int32) : Option MS :=
  if (gI (pI z 56 18 s1) 56 14) = 3 then fM_advance_L126 LF (pI (pI z 56 18 s1) 56 16 ((gI (pI z 56 18 s1) 56 16) + 1)) else fM_advance_L126 LF (pI z 56 18 s1)
def fM_advance_J83 (z : MS) (l1 : Int32) (s1 : Int32) : Option MS :=
  if (gI (pJ (pI z 56 14 s1) 56 17 0) 56 14) = 2 then fM_advance_J105 (pJ (pI z 56 14 s1) 56 17 0) 0 else fM_advance_J105 (pJ (pI z 56 14 s1) 56 17 0) l1
def fM_advance_L8 : Nat → MS → Option MS
  | 0, _ => none
  | n + 1, z => Option.bind (fM_byteAt z (gI z 56 15)) (fun w13 => if w13 = 32 then fM_advance_L8 n (pI z 56 15 ((gI z 56 15) + 1)) else Option.bind (fM_byteAt (pI z 56 16 (gI z 56 15)) (gI (pI z 56 16 (gI z 56 15)) 56 15)) (fun w47 => if 0 ≤ w47 then (if (fM_isLetter w47) = 0 then (if (fM_isDigit w47) = 0 then fM_advance_J83 (pI z 56 16 (gI z 56 15)) w47 3 else fM_advance_J83 (pI z 56 16 (gI z 56 15)) w47 2) else fM_advance_J83 (pI z 56 16 (gI z 56 15)) w47 1) else fM_advance_J83 (pI z 56 16 (gI z 56 15)) w47 0))
def fM_advance (z : MS) : Option MS :=
  fM_advance_L8 LF (pI z 56 15 (gI z 56 16))
set_option maxRecDepth 4000 in
theorem cM_advance (l : Launch) {z : MS} {z1 : MS} (h : fM_advance z = some z1) : CT l yX10_advance cX10_advance 2 none 2 42 (fun ad sd => [.ref (ad 56)]) z none z1 := by
  rw [fM_advance] at h
  refine u_start RX10 rfl (by decide) (fun _ _ => Nat.le_of_ble_eq_true rfl) (fun p e s m args below meth c R D ad cs sd A Q ls X hP hS hl hr hret => ?_)
  have hl : lv_has ls 2 [(0, .ref (ad 56))] := hl
  refine u_aload_n X hl dX10_advance_0 0 rfl ?_
  refine u_aload_n X hl dX10_advance_1 0 rfl ?_
  refine gf_X10_118_56 X hP dX10_advance_2 ?_
  refine pf_X10_121_56 X hP hS dX10_advance_5 (fun H locs hP hS => ?_)
  have L8 : ∀ (n : Nat) (H : Heap) (locs : List Loc) (ls : Array Slot) (z_8 : MS), lv_has ls 2 [(0, .ref (ad 56))] → va_P D clss (wld cs ad z_8) H → va_S A s.heap H locs → fM_advance_L8 n z_8 = some z1 → W p l e R s m args below meth c H locs 0 0 Q (F0 m 8 ls []) := by
    intro n
    induction n with
    | zero =>
      intro H locs ls z_8 hl hP hS h
      rw [fM_advance_L8] at h
      cases h
    | succ n8 ih8 =>
      intro H locs ls z_8 hl hP hS h
      rw [fM_advance_L8] at h
      refine u_aload_n X hl dX10_advance_8 0 rfl ?_
      refine u_aload_n X hl dX10_advance_9 0 rfl ?_
      refine gf_X10_121_56 X hP dX10_advance_10 ?_
      obtain ⟨w13, hc13, h⟩ := ob_inv h
      refine u_callVi X hP hS hl dX10_advance_13 (cM_byteAt l hc13) cw_X10_124 io_56 rfl rfl rfl rfl ⟨rfl, rfl⟩ (fun H locs hP hS => ?_)
      refine u_bipush (v := 32) X dX10_advance_16 rfl ?_
      refine u_icmp_ne 34 X dX10_advance_18 rfl (fun hc => ?_) (fun hc => ?_)
      · rw [if_neg hc] at h
        refine u_aload_n X hl dX10_advance_34 0 rfl ?_
        refine u_aload_n X hl dX10_advance_35 0 rfl ?_
        refine gf_X10_121_56 X hP dX10_advance_36 ?_
        refine pf_X10_118_56 X hP hS dX10_advance_39 (fun H locs hP hS => ?_)
        refine u_aload_n X hl dX10_advance_42 0 rfl ?_
        refine u_aload_n X hl dX10_advance_43 0 rfl ?_
        refine gf_X10_121_56 X hP dX10_advance_44 ?_
        obtain ⟨w47, hc47, h⟩ := ob_inv h
        refine u_callVi X hP hS hl dX10_advance_47 (cM_byteAt l hc47) cw_X10_124 io_56 rfl rfl rfl rfl ⟨rfl, rfl⟩ (fun H locs hP hS => ?_)
        refine u_istore_n [(1, .int w47), (0, .ref (ad 56))] X hl dX10_advance_50 (Nat.le_of_ble_eq_true rfl) rfl (fun ls hl => ?_)
        refine u_aload_n X hl dX10_advance_51 1 rfl ?_
        refine u_iload_n X hl dX10_advance_52 0 rfl ?_
        have J83 : ∀ (H : Heap) (locs : List Loc) (ls : Array Slot) (s1_83 : Int32), lv_has ls 2 [(0, .ref (ad 56)), (1, .int w47)] → va_P D clss (wld cs ad (pI z_8 56 16 (gI z_8 56 15))) H → va_S A s.heap H locs → fM_advance_J83 (pI z_8 56 16 (gI z_8 56 15)) w47 s1_83 = some z1 → W p l e R s m args below meth c H locs 0 0 Q (F0 m 83 ls [.int s1_83, .ref (ad 56)]) := by
          intro H locs ls s1_83 hl hP hS h
          rw [fM_advance_J83] at h
          refine pf_X10_134_56 X hP hS dX10_advance_83 (fun H locs hP hS => ?_)
          refine u_aload_n X hl dX10_advance_86 0 rfl ?_
          refine u_lconst (v := 0) X dX10_advance_87 rfl ?_
          refine pf_X10_137_56 X hP hS dX10_advance_88 (fun H locs hP hS => ?_)
          refine u_aload_n X hl dX10_advance_91 0 rfl ?_
          refine u_aload_n X hl dX10_advance_92 0 rfl ?_
          refine gf_X10_134_56 X hP dX10_advance_93 ?_
          refine u_iconst (v := 2) X dX10_advance_96 rfl ?_
          have J105 : ∀ (H : Heap) (locs : List Loc) (ls : Array Slot) (s1_105 : Int32), lv_has ls 2 [(0, .ref (ad 56))] → va_P D clss (wld cs ad (pJ (pI (pI z_8 56 16 (gI z_8 56 15)) 56 14 s1_83) 56 17 0)) H → va_S A s.heap H locs → fM_advance_J105 (pJ (pI (pI z_8 56 16 (gI z_8 56 15)) 56 14 s1_83) 56 17 0) s1_105 = some z1 → W p l e R s m args below meth c H locs 0 0 Q (F0 m 105 ls [.int s1_105, .ref (ad 56)]) := by
            intro H locs ls s1_105 hl hP hS h
            rw [fM_advance_J105] at h
            refine pf_X10_141_56 X hP hS dX10_advance_105 (fun H locs hP hS => ?_)
            refine u_aload_n X hl dX10_advance_108 0 rfl ?_
            refine gf_X10_134_56 X hP dX10_advance_109 ?_
            refine u_iconst (v := 3) X dX10_advance_112 rfl ?_
            have L126 : ∀ (n : Nat) (H : Heap) (locs : List Loc) (ls : Array Slot) (z_126 : MS), lv_has ls 2 [(0, .ref (ad 56))] → va_P D clss (wld cs ad z_126) H → va_S A s.heap H locs → fM_advance_L126 n z_126 = some z1 → W p l e R s m args below meth c H locs 0 0 Q (F0 m 126 ls []) := by
              intro n
              induction n with
              | zero =>
                intro H locs ls z_126 hl hP hS h
                rw [fM_advance_L126] at h
                cases h
              | succ n126 ih126 =>
                intro H locs ls z_126 hl hP hS h
                rw [fM_advance_L126] at h
                refine u_aload_n X hl dX10_advance_126 0 rfl ?_
                refine gf_X10_134_56 X hP dX10_advance_127 ?_
                refine u_iconst (v := 1) X dX10_advance_130 rfl ?_
                have L207 : ∀ (n : Nat) (H : Heap) (locs : List Loc) (ls : Array Slot) (z_207 : MS), lv_has ls 2 [(0, .ref (ad 56))] → va_P D clss (wld cs ad z_207) H → va_S A s.heap H locs → fM_advance_L207 n z_207 = some z1 → W p l e R s m args below meth c H locs 0 0 Q (F0 m 207 ls []) := by
                  intro n
                  induction n with
                  | zero =>
                    intro H locs ls z_207 hl hP hS h
                    rw [fM_advance_L207] at h
                    cases h
                  | succ n207 ih207 =>
                    intro H locs ls z_207 hl hP hS h
                    rw [fM_advance_L207] at h
                    refine u_aload_n X hl dX10_advance_207 0 rfl ?_
                    refine gf_X10_134_56 X hP dX10_advance_208 ?_
                    refine u_iconst (v := 2) X dX10_advance_211 rfl ?_
                    refine u_icmp_ne 282 X dX10_advance_212 rfl (fun hc => ?_) (fun hc => ?_)
                    · rw [if_neg hc] at h
                      exact u_vretM X hr hret h hP hS dX10_advance_282
                    · rw [if_pos hc] at h
                      refine u_aload_n X hl dX10_advance_215 0 rfl ?_
                      refine u_aload_n X hl dX10_advance_216 0 rfl ?_
                      refine gf_X10_118_56 X hP dX10_advance_217 ?_
                      obtain ⟨w220, hc220, h⟩ := ob_inv h
                      refine u_callVi X hP hS hl dX10_advance_220 (cM_byteAt l hc220) cw_X10_124 io_56 rfl rfl rfl rfl ⟨rfl, rfl⟩ (fun H locs hP hS => ?_)
                      refine u_callSi X hP hS hl dX10_advance_223 (cM_isDigit l z_207 w220) cw_X10_131 rfl rfl rfl rfl ⟨rfl, rfl⟩ (fun H locs hP hS => ?_)
                      refine u_if_eq 282 X dX10_advance_226 rfl (fun hc => ?_) (fun hc => ?_)
                      · rw [if_pos hc] at h
                        exact u_vretM X hr hret h hP hS dX10_advance_282
                      · rw [if_neg hc] at h
                        refine u_aload_n X hl dX10_advance_229 0 rfl ?_
                        refine u_aload_n X hl dX10_advance_230 0 rfl ?_
                        refine gf_X10_118_56 X hP dX10_advance_231 ?_
                        refine u_aload_n X hl dX10_advance_234 0 rfl ?_
                        refine gf_X10_121_56 X hP dX10_advance_235 ?_
                        refine u_isub X dX10_advance_238 ?_
                        refine u_iconst (v := 2) X dX10_advance_239 rfl ?_
                        have J266 : ∀ (H : Heap) (locs : List Loc) (ls : Array Slot) (s1_266 : Int32), lv_has ls 2 [(0, .ref (ad 56))] → va_P D clss (wld cs ad z_207) H → va_S A s.heap H locs → fM_advance_J266 z_207 (fM_advance_L207 n207) s1_266 = some z1 → W p l e R s m args below meth c H locs 0 0 Q (F0 m 266 ls [.int s1_266, .ref (ad 56)]) := by
                          intro H locs ls s1_266 hl hP hS h
                          rw [fM_advance_J266] at h
                          refine pf_X10_141_56 X hP hS dX10_advance_266 (fun H locs hP hS => ?_)
                          refine u_aload_n X hl dX10_advance_269 0 rfl ?_
                          refine u_dup X rfl dX10_advance_270 ?_
                          refine gf_X10_118_56 X hP dX10_advance_271 ?_
                          refine u_iconst (v := 1) X dX10_advance_274 rfl ?_
                          refine u_iadd X dX10_advance_275 ?_
                          refine pf_X10_118_56 X hP hS dX10_advance_276 (fun H locs hP hS => ?_)
                          refine u_goto 207 X dX10_advance_279 rfl ?_
                          exact ih207 _ _ _ _ hl hP hS h
                        refine u_icmp_ge 265 X dX10_advance_240 rfl (fun hc => ?_) (fun hc => ?_)
                        · rw [if_pos hc] at h
                          refine u_iconst (v := (-1)) X dX10_advance_265 rfl ?_
                          exact J266 _ _ _ _ hl hP hS h
                        · rw [if_neg hc] at h
                          refine u_bipush (v := 10) X dX10_advance_243 rfl ?_
                          refine u_aload_n X hl dX10_advance_245 0 rfl ?_
                          refine gf_X10_141_56 X hP dX10_advance_246 ?_
                          refine u_imul X dX10_advance_249 ?_
                          refine u_aload_n X hl dX10_advance_250 0 rfl ?_
                          refine u_aload_n X hl dX10_advance_251 0 rfl ?_
                          refine gf_X10_118_56 X hP dX10_advance_252 ?_
                          obtain ⟨w255, hc255, h⟩ := ob_inv h
                          refine u_callVi X hP hS hl dX10_advance_255 (cM_byteAt l hc255) cw_X10_124 io_56 rfl rfl rfl rfl ⟨rfl, rfl⟩ (fun H locs hP hS => ?_)
                          refine u_iadd X dX10_advance_258 ?_
                          refine u_bipush (v := 48) X dX10_advance_259 rfl ?_
                          refine u_isub X dX10_advance_261 ?_
                          refine u_goto 266 X dX10_advance_262 rfl ?_
                          exact J266 _ _ _ _ hl hP hS h
                refine u_icmp_ne 207 X dX10_advance_131 rfl (fun hc => ?_) (fun hc => ?_)
                · rw [if_neg hc] at h
                  exact L207 LF _ _ _ _ hl hP hS h
                · rw [if_pos hc] at h
                  refine u_aload_n X hl dX10_advance_134 0 rfl ?_
                  refine u_aload_n X hl dX10_advance_135 0 rfl ?_
                  refine gf_X10_118_56 X hP dX10_advance_136 ?_
                  obtain ⟨w139, hc139, h⟩ := ob_inv h
                  refine u_callVi X hP hS hl dX10_advance_139 (cM_byteAt l hc139) cw_X10_124 io_56 rfl rfl rfl rfl ⟨rfl, rfl⟩ (fun H locs hP hS => ?_)
                  refine u_callSi X hP hS hl dX10_advance_142 (cM_isLetter l z_126 w139) cw_X10_128 rfl rfl rfl rfl ⟨rfl, rfl⟩ (fun H locs hP hS => ?_)
                  refine u_if_eq 207 X dX10_advance_145 rfl (fun hc => ?_) (fun hc => ?_)
                  · rw [if_pos hc] at h
                    exact L207 LF _ _ _ _ hl hP hS h
                  · rw [if_neg hc] at h
                    refine u_aload_n X hl dX10_advance_148 0 rfl ?_
                    refine u_aload_n X hl dX10_advance_149 0 rfl ?_
                    refine gf_X10_118_56 X hP dX10_advance_150 ?_
                    refine u_aload_n X hl dX10_advance_153 0 rfl ?_
                    refine gf_X10_121_56 X hP dX10_advance_154 ?_
                    refine u_isub X dX10_advance_157 ?_
                    refine u_bipush (v := 8) X dX10_advance_158 rfl ?_
                    have J191 : ∀ (H : Heap) (locs : List Loc) (ls : Array Slot) (s1_191 : Int64), lv_has ls 2 [(0, .ref (ad 56))] → va_P D clss (wld cs ad z_126) H → va_S A s.heap H locs → fM_advance_J191 z_126 (fM_advance_L126 n126) s1_191 = some z1 → W p l e R s m args below meth c H locs 0 0 Q (F0 m 191 ls [.long s1_191, .ref (ad 56)]) := by
                      intro H locs ls s1_191 hl hP hS h
                      rw [fM_advance_J191] at h
                      refine pf_X10_137_56 X hP hS dX10_advance_191 (fun H locs hP hS => ?_)
                      refine u_aload_n X hl dX10_advance_194 0 rfl ?_
                      refine u_dup X rfl dX10_advance_195 ?_
                      refine gf_X10_118_56 X hP dX10_advance_196 ?_
                      refine u_iconst (v := 1) X dX10_advance_199 rfl ?_
                      refine u_iadd X dX10_advance_200 ?_
                      refine pf_X10_118_56 X hP hS dX10_advance_201 (fun H locs hP hS => ?_)
                      refine u_goto 126 X dX10_advance_204 rfl ?_
                      exact ih126 _ _ _ _ hl hP hS h
                    refine u_icmp_ge 188 X dX10_advance_160 rfl (fun hc => ?_) (fun hc => ?_)
                    · rw [if_pos hc] at h
                      refine u_ldc2 X kw_X10_148 dX10_advance_188 ?_
                      exact J191 _ _ _ _ hl hP hS h
                    · rw [if_neg hc] at h
                      refine u_ldc2 X kw_X10_144 dX10_advance_163 ?_
                      refine u_aload_n X hl dX10_advance_166 0 rfl ?_
                      refine gf_X10_137_56 X hP dX10_advance_167 ?_
                      refine u_lmul X dX10_advance_170 ?_
                      refine u_aload_n X hl dX10_advance_171 0 rfl ?_
                      refine u_aload_n X hl dX10_advance_172 0 rfl ?_
                      refine gf_X10_118_56 X hP dX10_advance_173 ?_
                      obtain ⟨w176, hc176, h⟩ := ob_inv h
                      refine u_callVi X hP hS hl dX10_advance_176 (cM_byteAt l hc176) cw_X10_124 io_56 rfl rfl rfl rfl ⟨rfl, rfl⟩ (fun H locs hP hS => ?_)
                      refine u_i2l X dX10_advance_179 ?_
                      refine u_ladd X dX10_advance_180 ?_
                      refine u_ldc2 X kw_X10_146 dX10_advance_181 ?_
                      refine u_lsub X dX10_advance_184 ?_
                      refine u_goto 191 X dX10_advance_185 rfl ?_
                      exact J191 _ _ _ _ hl hP hS h
            refine u_icmp_ne 126 X dX10_advance_113 rfl (fun hc => ?_) (fun hc => ?_)
            · rw [if_neg hc] at h
              exact L126 LF _ _ _ _ hl hP hS h
            · rw [if_pos hc] at h
              refine u_aload_n X hl dX10_advance_116 0 rfl ?_
              refine u_dup X rfl dX10_advance_117 ?_
              refine gf_X10_118_56 X hP dX10_advance_118 ?_
              refine u_iconst (v := 1) X dX10_advance_121 rfl ?_
              refine u_iadd X dX10_advance_122 ?_
              refine pf_X10_118_56 X hP hS dX10_advance_123 (fun H locs hP hS => ?_)
              exact L126 LF _ _ _ _ hl hP hS h
          refine u_icmp_ne 104 X dX10_advance_97 rfl (fun hc => ?_) (fun hc => ?_)
          · rw [if_neg hc] at h
            refine u_iload_n X hl dX10_advance_104 1 rfl ?_
            exact J105 _ _ _ _ (lv_sub hl [0] rfl) hP hS h
          · rw [if_pos hc] at h
            refine u_iconst (v := 0) X dX10_advance_100 rfl ?_
            refine u_goto 105 X dX10_advance_101 rfl ?_
            exact J105 _ _ _ _ (lv_sub hl [0] rfl) hP hS h
        refine u_if_ge 60 X dX10_advance_53 rfl (fun hc => ?_) (fun hc => ?_)
        · rw [if_pos hc] at h
          refine u_iload_n X hl dX10_advance_60 0 rfl ?_
          refine u_callSi X hP hS hl dX10_advance_61 (cM_isLetter l (pI z_8 56 16 (gI z_8 56 15)) w47) cw_X10_128 rfl rfl rfl rfl ⟨rfl, rfl⟩ (fun H locs hP hS => ?_)
          refine u_if_eq 71 X dX10_advance_64 rfl (fun hc => ?_) (fun hc => ?_)
          · rw [if_pos hc] at h
            refine u_iload_n X hl dX10_advance_71 0 rfl ?_
            refine u_callSi X hP hS hl dX10_advance_72 (cM_isDigit l (pI z_8 56 16 (gI z_8 56 15)) w47) cw_X10_131 rfl rfl rfl rfl ⟨rfl, rfl⟩ (fun H locs hP hS => ?_)
            refine u_if_eq 82 X dX10_advance_75 rfl (fun hc => ?_) (fun hc => ?_)
            · rw [if_pos hc] at h
              refine u_iconst (v := 3) X dX10_advance_82 rfl ?_
              exact J83 _ _ _ _ (lv_sub hl [1, 0] rfl) hP hS h
            · rw [if_neg hc] at h
              refine u_iconst (v := 2) X dX10_advance_78 rfl ?_
              refine u_goto 83 X dX10_advance_79 rfl ?_
              exact J83 _ _ _ _ (lv_sub hl [1, 0] rfl) hP hS h
          · rw [if_neg hc] at h
            refine u_iconst (v := 1) X dX10_advance_67 rfl ?_
            refine u_goto 83 X dX10_advance_68 rfl ?_
            exact J83 _ _ _ _ (lv_sub hl [1, 0] rfl) hP hS h
        · rw [if_neg hc] at h
          refine u_iconst (v := 0) X dX10_advance_56 rfl ?_
          refine u_goto 83 X dX10_advance_57 rfl ?_
          exact J83 _ _ _ _ (lv_sub hl [1, 0] rfl) hP hS h
      · rw [if_pos hc] at h
        refine u_aload_n X hl dX10_advance_21 0 rfl ?_
        refine u_dup X rfl dX10_advance_22 ?_
        refine gf_X10_121_56 X hP dX10_advance_23 ?_
        refine u_iconst (v := 1) X dX10_advance_26 rfl ?_
        refine u_iadd X dX10_advance_27 ?_
        refine pf_X10_121_56 X hP hS dX10_advance_28 (fun H locs hP hS => ?_)
        refine u_goto 8 X dX10_advance_31 rfl ?_
        exact ih8 _ _ _ _ hl hP hS h
  exact L8 LF _ _ _ _ hl hP hS h
def fM_isWord (z : MS) (a0 : Int64) : Int32 :=
  if (gI z 56 14) = 1 then (if (lg_cmp (gJ z 56 17) a0) = 0 then 1 else 0) else 0
theorem fM_isWord_b (z : MS) (a0 : Int64) : fM_isWord z a0 = 0 ∨ fM_isWord z a0 = 1 := by
  unfold fM_isWord
  (repeat' split) <;> first | with_reducible exact Or.inl rfl | with_reducible exact Or.inr rfl
set_option maxRecDepth 4000 in
theorem cM_isWord (l : Launch) (z : MS) (a0 : Int64) : CT l yX10_isWord cX10_isWord 3 (some .boolean) 0 0 (fun ad sd => [.ref (ad 56), .long a0]) z (some (.int (fM_isWord z a0))) z := by
  generalize h : fM_isWord z a0 = r
  rw [fM_isWord] at h
  refine u_start RX10 rfl (by decide) (fun _ _ => Nat.le_of_ble_eq_true rfl) (fun p e s m args below meth c R D ad cs sd A Q ls X hP hS hl hr hret => ?_)
  have hl : lv_has ls 3 [(0, .ref (ad 56)), (1, .long a0)] := hl
  refine u_aload_n X hl dX10_isWord_0 0 rfl ?_
  refine gf_X10_134_56 X hP dX10_isWord_1 ?_
  refine u_iconst (v := 1) X dX10_isWord_4 rfl ?_
  refine u_icmp_ne 21 X dX10_isWord_5 rfl (fun hc => ?_) (fun hc => ?_)
  · rw [if_neg hc] at h
    refine u_iconst (v := 0) X dX10_isWord_21 rfl ?_
    exact u_zretT X hr hret h hP hS (Or.inl rfl) dX10_isWord_22
  · rw [if_pos hc] at h
    refine u_aload_n X hl dX10_isWord_8 0 rfl ?_
    refine gf_X10_137_56 X hP dX10_isWord_9 ?_
    refine u_lload_n X hl dX10_isWord_12 1 rfl ?_
    refine u_lcmp X dX10_isWord_13 ?_
    refine u_if_ne 21 X dX10_isWord_14 rfl (fun hc => ?_) (fun hc => ?_)
    · rw [if_neg hc] at h
      refine u_iconst (v := 0) X dX10_isWord_21 rfl ?_
      exact u_zretT X hr hret h hP hS (Or.inl rfl) dX10_isWord_22
    · rw [if_pos hc] at h
      refine u_iconst (v := 1) X dX10_isWord_17 rfl ?_
      refine u_goto 22 X dX10_isWord_18 rfl ?_
      exact u_zretT X hr hret h hP hS (Or.inr rfl) dX10_isWord_22
def fM_isMark (z : MS) (a0 : Int32) : Int32 :=
  if (gI z 56 14) = 3 then (if (gI z 56 18) = a0 then 1 else 0) else 0
theorem fM_isMark_b (z : MS) (a0 : Int32) : fM_isMark z a0 = 0 ∨ fM_isMark z a0 = 1 := by
  unfold fM_isMark
  (repeat' split) <;> first | with_reducible exact Or.inl rfl | with_reducible exact Or.inr rfl
set_option maxRecDepth 4000 in
theorem cM_isMark (l : Launch) (z : MS) (a0 : Int32) : CT l yX10_isMark cX10_isMark 2 (some .boolean) 0 0 (fun ad sd => [.ref (ad 56), .int a0]) z (some (.int (fM_isMark z a0))) z := by
  generalize h : fM_isMark z a0 = r
  rw [fM_isMark] at h
  refine u_start RX10 rfl (by decide) (fun _ _ => Nat.le_of_ble_eq_true rfl) (fun p e s m args below meth c R D ad cs sd A Q ls X hP hS hl hr hret => ?_)
  have hl : lv_has ls 2 [(0, .ref (ad 56)), (1, .int a0)] := hl
  refine u_aload_n X hl dX10_isMark_0 0 rfl ?_
  refine gf_X10_134_56 X hP dX10_isMark_1 ?_
  refine u_iconst (v := 3) X dX10_isMark_4 rfl ?_
  refine u_icmp_ne 20 X dX10_isMark_5 rfl (fun hc => ?_) (fun hc => ?_)
  · rw [if_neg hc] at h
    refine u_iconst (v := 0) X dX10_isMark_20 rfl ?_
    exact u_zretT X hr hret h hP hS (Or.inl rfl) dX10_isMark_21
  · rw [if_pos hc] at h
    refine u_aload_n X hl dX10_isMark_8 0 rfl ?_
    refine gf_X10_141_56 X hP dX10_isMark_9 ?_
    refine u_iload_n X hl dX10_isMark_12 1 rfl ?_
    refine u_icmp_ne 20 X dX10_isMark_13 rfl (fun hc => ?_) (fun hc => ?_)
    · rw [if_neg hc] at h
      refine u_iconst (v := 0) X dX10_isMark_20 rfl ?_
      exact u_zretT X hr hret h hP hS (Or.inl rfl) dX10_isMark_21
    · rw [if_pos hc] at h
      refine u_iconst (v := 1) X dX10_isMark_16 rfl ?_
      refine u_goto 21 X dX10_isMark_17 rfl ?_
      exact u_zretT X hr hret h hP hS (Or.inr rfl) dX10_isMark_21
def fM_lawHere (z : MS) : Int32 :=
  if (fM_isWord z 394691) = 0 then (if (fM_isWord z 315914) = 0 then (if (fM_isWord z 4325) = 0 then (if (fM_isWord z 1388945628) = 0 then (if (fM_isWord z 260960283) = 0 then (if (fM_isWord z 118940) = 0 then (if (fM_isWord z 397641) = 0 then (if (fM_isWord z 5146) = 0 then (-1) else 7) else 6) else 5) else 4) else 3) else 2) else 1) else 0
set_option maxRecDepth 4000 in
theorem cM_lawHere (l : Launch) (z : MS) : CT l yX10_lawHere cX10_lawHere 1 (some .int) 1 22 (fun ad sd => [.ref (ad 56)]) z (some (.int (fM_lawHere z))) z := by
  generalize h : fM_lawHere z = r
  rw [fM_lawHere] at h
  refine u_start RX10 rfl (by decide) (fun _ _ => Nat.le_of_ble_eq_true rfl) (fun p e s m args below meth c R D ad cs sd A Q ls X hP hS hl hr hret => ?_)
  have hl : lv_has ls 1 [(0, .ref (ad 56))] := hl
  refine u_aload_n X hl dX10_lawHere_0 0 rfl ?_
  refine u_ldc2 X kw_X10_150 dX10_lawHere_1 ?_
  refine u_callVi X hP hS hl dX10_lawHere_4 (cM_isWord l z 394691) cw_X10_152 io_56 rfl rfl rfl rfl ⟨rfl, rfl⟩ (fun H locs hP hS => ?_)
  refine u_if_eq 14 X dX10_lawHere_7 rfl (fun hc => ?_) (fun hc => ?_)
  · rw [if_pos hc] at h
    refine u_aload_n X hl dX10_lawHere_14 0 rfl ?_
    refine u_ldc2 X kw_X10_156 dX10_lawHere_15 ?_
    refine u_callVi X hP hS hl dX10_lawHere_18 (cM_isWord l z 315914) cw_X10_152 io_56 rfl rfl rfl rfl ⟨rfl, rfl⟩ (fun H locs hP hS => ?_)
    refine u_if_eq 28 X dX10_lawHere_21 rfl (fun hc => ?_) (fun hc => ?_)
    · rw [if_pos hc] at h
      refine u_aload_n X hl dX10_lawHere_28 0 rfl ?_
      refine u_ldc2 X kw_X10_158 dX10_lawHere_29 ?_
      refine u_callVi X hP hS hl dX10_lawHere_32 (cM_isWord l z 4325) cw_X10_152 io_56 rfl rfl rfl rfl ⟨rfl, rfl⟩ (fun H locs hP hS => ?_)
      refine u_if_eq 42 X dX10_lawHere_35 rfl (fun hc => ?_) (fun hc => ?_)
      · rw [if_pos hc] at h
        refine u_aload_n X hl dX10_lawHere_42 0 rfl ?_
        refine u_ldc2 X kw_X10_160 dX10_lawHere_43 ?_
        refine u_callVi X hP hS hl dX10_lawHere_46 (cM_isWord l z 1388945628) cw_X10_152 io_56 rfl rfl rfl rfl ⟨rfl, rfl⟩ (fun H locs hP hS => ?_)
        refine u_if_eq 56 X dX10_lawHere_49 rfl (fun hc => ?_) (fun hc => ?_)
        · rw [if_pos hc] at h
          refine u_aload_n X hl dX10_lawHere_56 0 rfl ?_
          refine u_ldc2 X kw_X10_162 dX10_lawHere_57 ?_
          refine u_callVi X hP hS hl dX10_lawHere_60 (cM_isWord l z 260960283) cw_X10_152 io_56 rfl rfl rfl rfl ⟨rfl, rfl⟩ (fun H locs hP hS => ?_)
          refine u_if_eq 70 X dX10_lawHere_63 rfl (fun hc => ?_) (fun hc => ?_)
          · rw [if_pos hc] at h
            refine u_aload_n X hl dX10_lawHere_70 0 rfl ?_
            refine u_ldc2 X kw_X10_164 dX10_lawHere_71 ?_
            refine u_callVi X hP hS hl dX10_lawHere_74 (cM_isWord l z 118940) cw_X10_152 io_56 rfl rfl rfl rfl ⟨rfl, rfl⟩ (fun H locs hP hS => ?_)
            refine u_if_eq 84 X dX10_lawHere_77 rfl (fun hc => ?_) (fun hc => ?_)
            · rw [if_pos hc] at h
              refine u_aload_n X hl dX10_lawHere_84 0 rfl ?_
              refine u_ldc2 X kw_X10_166 dX10_lawHere_85 ?_
              refine u_callVi X hP hS hl dX10_lawHere_88 (cM_isWord l z 397641) cw_X10_152 io_56 rfl rfl rfl rfl ⟨rfl, rfl⟩ (fun H locs hP hS => ?_)
              refine u_if_eq 99 X dX10_lawHere_91 rfl (fun hc => ?_) (fun hc => ?_)
              · rw [if_pos hc] at h
                refine u_aload_n X hl dX10_lawHere_99 0 rfl ?_
                refine u_ldc2 X kw_X10_168 dX10_lawHere_100 ?_
                refine u_callVi X hP hS hl dX10_lawHere_103 (cM_isWord l z 5146) cw_X10_152 io_56 rfl rfl rfl rfl ⟨rfl, rfl⟩ (fun H locs hP hS => ?_)
                refine u_if_eq 114 X dX10_lawHere_106 rfl (fun hc => ?_) (fun hc => ?_)
                · rw [if_pos hc] at h
                  refine u_iconst (v := (-1)) X dX10_lawHere_114 rfl ?_
                  exact u_iretT X hr hret h hP hS dX10_lawHere_115
                · rw [if_neg hc] at h
                  refine u_bipush (v := 7) X dX10_lawHere_109 rfl ?_
                  refine u_goto 115 X dX10_lawHere_111 rfl ?_
                  exact u_iretT X hr hret h hP hS dX10_lawHere_115
              · rw [if_neg hc] at h
                refine u_bipush (v := 6) X dX10_lawHere_94 rfl ?_
                refine u_goto 115 X dX10_lawHere_96 rfl ?_
                exact u_iretT X hr hret h hP hS dX10_lawHere_115
            · rw [if_neg hc] at h
              refine u_iconst (v := 5) X dX10_lawHere_80 rfl ?_
              refine u_goto 115 X dX10_lawHere_81 rfl ?_
              exact u_iretT X hr hret h hP hS dX10_lawHere_115
          · rw [if_neg hc] at h
            refine u_iconst (v := 4) X dX10_lawHere_66 rfl ?_
            refine u_goto 115 X dX10_lawHere_67 rfl ?_
            exact u_iretT X hr hret h hP hS dX10_lawHere_115
        · rw [if_neg hc] at h
          refine u_iconst (v := 3) X dX10_lawHere_52 rfl ?_
          refine u_goto 115 X dX10_lawHere_53 rfl ?_
          exact u_iretT X hr hret h hP hS dX10_lawHere_115
      · rw [if_neg hc] at h
        refine u_iconst (v := 2) X dX10_lawHere_38 rfl ?_
        refine u_goto 115 X dX10_lawHere_39 rfl ?_
        exact u_iretT X hr hret h hP hS dX10_lawHere_115
    · rw [if_neg hc] at h
      refine u_iconst (v := 1) X dX10_lawHere_24 rfl ?_
      refine u_goto 115 X dX10_lawHere_25 rfl ?_
      exact u_iretT X hr hret h hP hS dX10_lawHere_115
  · rw [if_neg hc] at h
    refine u_iconst (v := 0) X dX10_lawHere_10 rfl ?_
    refine u_goto 115 X dX10_lawHere_11 rfl ?_
    exact u_iretT X hr hret h hP hS dX10_lawHere_115
def fM_wantNumber_J35 (z : MS) (l3 : Int32) (s1 : Int32) : Option (Int32 × MS) :=
  if s1 = 0 ∨ s1 = 1 then if (gI (pI z 56 19 s1) 56 19) = 0 then some (l3, pI z 56 19 s1) else Option.bind (fM_advance (pI z 56 19 s1)) (fun zc46 => some (l3, zc46)) else none
def fM_wantNumber_J34 (z : MS) (l3 : Int32) : Option (Int32 × MS) :=
  fM_wantNumber_J35 z l3 0
def fM_wantNumber (z : MS) (a0 : Int32) (a1 : Int32) : Option (Int32 × MS) :=
  if (gI z 56 19) = 0 then fM_wantNumber_J34 z (gI z 56 18) else (if (gI z 56 14) = 2 then (if (fM_in (gI z 56 18) a0 a1) = 0 then fM_wantNumber_J34 z (gI z 56 18) else fM_wantNumber_J35 z (gI z 56 18) 1) else fM_wantNumber_J34 z (gI z 56 18))
set_option maxRecDepth 4000 in
theorem cM_wantNumber (l : Launch) {z : MS} {a0 : Int32} {a1 : Int32} {r : Int32} {z1 : MS} (h : fM_wantNumber z a0 a1 = some (r, z1)) : CT l yX10_wantNumber cX10_wantNumber 4 (some .int) 3 63 (fun ad sd => [.ref (ad 56), .int a0, .int a1]) z (some (.int r)) z1 := by
  rw [fM_wantNumber] at h
  refine u_start RX10 rfl (by decide) (fun _ _ => Nat.le_of_ble_eq_true rfl) (fun p e s m args below meth c R D ad cs sd A Q ls X hP hS hl hr hret => ?_)
  have hl : lv_has ls 4 [(0, .ref (ad 56)), (1, .int a0), (2, .int a1)] := hl
  refine u_aload_n X hl dX10_wantNumber_0 0 rfl ?_
  refine gf_X10_141_56 X hP dX10_wantNumber_1 ?_
  refine u_istore_n [(3, .int (gI z 56 18)), (0, .ref (ad 56)), (1, .int a0), (2, .int a1)] X hl dX10_wantNumber_4 (Nat.le_of_ble_eq_true rfl) rfl (fun ls hl => ?_)
  refine u_aload_n X hl dX10_wantNumber_5 1 rfl ?_
  refine u_aload_n X hl dX10_wantNumber_6 1 rfl ?_
  refine gf_X10_170_56 X hP dX10_wantNumber_7 ?_
  have J35 : ∀ (H : Heap) (locs : List Loc) (ls : Array Slot) (s1_35 : Int32), lv_has ls 4 [(0, .ref (ad 56)), (3, .int (gI z 56 18))] → va_P D clss (wld cs ad z) H → va_S A s.heap H locs → fM_wantNumber_J35 z (gI z 56 18) s1_35 = some (r, z1) → W p l e R s m args below meth c H locs 0 0 Q (F0 m 35 ls [.int s1_35, .ref (ad 56)]) := by
    intro H locs ls s1_35 hl hP hS h
    rw [fM_wantNumber_J35] at h
    obtain ⟨hb, h⟩ := ifb_inv h
    refine pf_X10_170_56 X hP hS hb dX10_wantNumber_35 (fun H locs hP hS => ?_)
    refine u_aload_n X hl dX10_wantNumber_38 0 rfl ?_
    refine gf_X10_170_56 X hP dX10_wantNumber_39 ?_
    refine u_if_eq 49 X dX10_wantNumber_42 rfl (fun hc => ?_) (fun hc => ?_)
    · rw [if_pos hc] at h
      refine u_iload_n X hl dX10_wantNumber_49 1 rfl ?_
      exact u_iretM X hr hret h hP hS dX10_wantNumber_50
    · rw [if_neg hc] at h
      refine u_aload_n X hl dX10_wantNumber_45 0 rfl ?_
      obtain ⟨zc46, hc46, h⟩ := ob_inv h
      refine u_callVv X hP hS hl dX10_wantNumber_46 (cM_advance l hc46) cw_X10_174 io_56 rfl rfl rfl rfl ⟨rfl, rfl⟩ (fun H locs hP hS => ?_)
      refine u_iload_n X hl dX10_wantNumber_49 1 rfl ?_
      exact u_iretM X hr hret h hP hS dX10_wantNumber_50
  have J34 : ∀ (H : Heap) (locs : List Loc) (ls : Array Slot), lv_has ls 4 [(0, .ref (ad 56)), (3, .int (gI z 56 18))] → va_P D clss (wld cs ad z) H → va_S A s.heap H locs → fM_wantNumber_J34 z (gI z 56 18) = some (r, z1) → W p l e R s m args below meth c H locs 0 0 Q (F0 m 34 ls [.ref (ad 56)]) := by
    intro H locs ls hl hP hS h
    rw [fM_wantNumber_J34] at h
    refine u_iconst (v := 0) X dX10_wantNumber_34 rfl ?_
    exact J35 _ _ _ _ hl hP hS h
  refine u_if_eq 34 X dX10_wantNumber_10 rfl (fun hc => ?_) (fun hc => ?_)
  · rw [if_pos hc] at h
    exact J34 _ _ _ (lv_sub hl [1, 0] rfl) hP hS h
  · rw [if_neg hc] at h
    refine u_aload_n X hl dX10_wantNumber_13 1 rfl ?_
    refine gf_X10_134_56 X hP dX10_wantNumber_14 ?_
    refine u_iconst (v := 2) X dX10_wantNumber_17 rfl ?_
    refine u_icmp_ne 34 X dX10_wantNumber_18 rfl (fun hc => ?_) (fun hc => ?_)
    · rw [if_neg hc] at h
      exact J34 _ _ _ (lv_sub hl [1, 0] rfl) hP hS h
    · rw [if_pos hc] at h
      refine u_iload_n X hl dX10_wantNumber_21 0 rfl ?_
      refine u_iload_n X hl dX10_wantNumber_22 2 rfl ?_
      refine u_iload_n X hl dX10_wantNumber_23 3 rfl ?_
      refine u_callSi X hP hS hl dX10_wantNumber_24 (cM_in l z (gI z 56 18) a0 a1) cw_X10_105 rfl rfl rfl rfl ⟨rfl, rfl⟩ (fun H locs hP hS => ?_)
      refine u_if_eq 34 X dX10_wantNumber_27 rfl (fun hc => ?_) (fun hc => ?_)
      · rw [if_pos hc] at h
        exact J34 _ _ _ (lv_sub hl [1, 0] rfl) hP hS h
      · rw [if_neg hc] at h
        refine u_iconst (v := 1) X dX10_wantNumber_30 rfl ?_
        refine u_goto 35 X dX10_wantNumber_31 rfl ?_
        exact J35 _ _ _ _ (lv_sub hl [1, 0] rfl) hP hS h
def fM_wantWord_J21 (z : MS) (s1 : Int32) : Option MS :=
  if s1 = 0 ∨ s1 = 1 then if (gI (pI z 56 19 s1) 56 19) = 0 then some (pI z 56 19 s1) else Option.bind (fM_advance (pI z 56 19 s1)) (fun zc32 => some zc32) else none
def fM_wantWord_J20 (z : MS) : Option MS :=
  fM_wantWord_J21 z 0
def fM_wantWord (z : MS) (a0 : Int64) : Option MS :=
  if (gI z 56 19) = 0 then fM_wantWord_J20 z else (if (fM_isWord z a0) = 0 then fM_wantWord_J20 z else fM_wantWord_J21 z 1)
set_option maxRecDepth 4000 in
theorem cM_wantWord (l : Launch) {z : MS} {a0 : Int64} {z1 : MS} (h : fM_wantWord z a0 = some z1) : CT l yX10_wantWord cX10_wantWord 3 none 3 63 (fun ad sd => [.ref (ad 56), .long a0]) z none z1 := by
  rw [fM_wantWord] at h
  refine u_start RX10 rfl (by decide) (fun _ _ => Nat.le_of_ble_eq_true rfl) (fun p e s m args below meth c R D ad cs sd A Q ls X hP hS hl hr hret => ?_)
  have hl : lv_has ls 3 [(0, .ref (ad 56)), (1, .long a0)] := hl
  refine u_aload_n X hl dX10_wantWord_0 0 rfl ?_
  refine u_aload_n X hl dX10_wantWord_1 0 rfl ?_
  refine gf_X10_170_56 X hP dX10_wantWord_2 ?_
  have J21 : ∀ (H : Heap) (locs : List Loc) (ls : Array Slot) (s1_21 : Int32), lv_has ls 3 [(0, .ref (ad 56))] → va_P D clss (wld cs ad z) H → va_S A s.heap H locs → fM_wantWord_J21 z s1_21 = some z1 → W p l e R s m args below meth c H locs 0 0 Q (F0 m 21 ls [.int s1_21, .ref (ad 56)]) := by
    intro H locs ls s1_21 hl hP hS h
    rw [fM_wantWord_J21] at h
    obtain ⟨hb, h⟩ := ifb_inv h
    refine pf_X10_170_56 X hP hS hb dX10_wantWord_21 (fun H locs hP hS => ?_)
    refine u_aload_n X hl dX10_wantWord_24 0 rfl ?_
    refine gf_X10_170_56 X hP dX10_wantWord_25 ?_
    refine u_if_eq 35 X dX10_wantWord_28 rfl (fun hc => ?_) (fun hc => ?_)
    · rw [if_pos hc] at h
      exact u_vretM X hr hret h hP hS dX10_wantWord_35
    · rw [if_neg hc] at h
      refine u_aload_n X hl dX10_wantWord_31 0 rfl ?_
      obtain ⟨zc32, hc32, h⟩ := ob_inv h
      refine u_callVv X hP hS hl dX10_wantWord_32 (cM_advance l hc32) cw_X10_174 io_56 rfl rfl rfl rfl ⟨rfl, rfl⟩ (fun H locs hP hS => ?_)
      exact u_vretM X hr hret h hP hS dX10_wantWord_35
  have J20 : ∀ (H : Heap) (locs : List Loc) (ls : Array Slot), lv_has ls 3 [(0, .ref (ad 56))] → va_P D clss (wld cs ad z) H → va_S A s.heap H locs → fM_wantWord_J20 z = some z1 → W p l e R s m args below meth c H locs 0 0 Q (F0 m 20 ls [.ref (ad 56)]) := by
    intro H locs ls hl hP hS h
    rw [fM_wantWord_J20] at h
    refine u_iconst (v := 0) X dX10_wantWord_20 rfl ?_
    exact J21 _ _ _ _ hl hP hS h
  refine u_if_eq 20 X dX10_wantWord_5 rfl (fun hc => ?_) (fun hc => ?_)
  · rw [if_pos hc] at h
    exact J20 _ _ _ (lv_sub hl [0] rfl) hP hS h
  · rw [if_neg hc] at h
    refine u_aload_n X hl dX10_wantWord_8 0 rfl ?_
    refine u_lload_n X hl dX10_wantWord_9 1 rfl ?_
    refine u_callVi X hP hS hl dX10_wantWord_10 (cM_isWord l z a0) cw_X10_152 io_56 rfl rfl rfl rfl ⟨rfl, rfl⟩ (fun H locs hP hS => ?_)
    refine u_if_eq 20 X dX10_wantWord_13 rfl (fun hc => ?_) (fun hc => ?_)
    · rw [if_pos hc] at h
      exact J20 _ _ _ (lv_sub hl [0] rfl) hP hS h
    · rw [if_neg hc] at h
      refine u_iconst (v := 1) X dX10_wantWord_16 rfl ?_
      refine u_goto 21 X dX10_wantWord_17 rfl ?_
      exact J21 _ _ _ _ (lv_sub hl [0] rfl) hP hS h
def fM_wantEnd_J22 (z : MS) (s1 : Int32) : Option MS :=
  if s1 = 0 ∨ s1 = 1 then if (gI (pI z 56 19 s1) 56 19) = 0 then some (pI z 56 19 s1) else Option.bind (fM_advance (pI z 56 19 s1)) (fun zc33 => some zc33) else none
def fM_wantEnd_J21 (z : MS) : Option MS :=
  fM_wantEnd_J22 z 0
def fM_wantEnd (z : MS) : Option MS :=
  if (gI z 56 19) = 0 then fM_wantEnd_J21 z else (if (fM_isMark z 59) = 0 then fM_wantEnd_J21 z else fM_wantEnd_J22 z 1)
set_option maxRecDepth 4000 in
theorem cM_wantEnd (l : Launch) {z : MS} {z1 : MS} (h : fM_wantEnd z = some z1) : CT l yX10_wantEnd cX10_wantEnd 1 none 3 63 (fun ad sd => [.ref (ad 56)]) z none z1 := by
  rw [fM_wantEnd] at h
  refine u_start RX10 rfl (by decide) (fun _ _ => Nat.le_of_ble_eq_true rfl) (fun p e s m args below meth c R D ad cs sd A Q ls X hP hS hl hr hret => ?_)
  have hl : lv_has ls 1 [(0, .ref (ad 56))] := hl
  refine u_aload_n X hl dX10_wantEnd_0 0 rfl ?_
  refine u_aload_n X hl dX10_wantEnd_1 0 rfl ?_
  refine gf_X10_170_56 X hP dX10_wantEnd_2 ?_
  have J22 : ∀ (H : Heap) (locs : List Loc) (ls : Array Slot) (s1_22 : Int32), lv_has ls 1 [(0, .ref (ad 56))] → va_P D clss (wld cs ad z) H → va_S A s.heap H locs → fM_wantEnd_J22 z s1_22 = some z1 → W p l e R s m args below meth c H locs 0 0 Q (F0 m 22 ls [.int s1_22, .ref (ad 56)]) := by
    intro H locs ls s1_22 hl hP hS h
    rw [fM_wantEnd_J22] at h
    obtain ⟨hb, h⟩ := ifb_inv h
    refine pf_X10_170_56 X hP hS hb dX10_wantEnd_22 (fun H locs hP hS => ?_)
    refine u_aload_n X hl dX10_wantEnd_25 0 rfl ?_
    refine gf_X10_170_56 X hP dX10_wantEnd_26 ?_
    refine u_if_eq 36 X dX10_wantEnd_29 rfl (fun hc => ?_) (fun hc => ?_)
    · rw [if_pos hc] at h
      exact u_vretM X hr hret h hP hS dX10_wantEnd_36
    · rw [if_neg hc] at h
      refine u_aload_n X hl dX10_wantEnd_32 0 rfl ?_
      obtain ⟨zc33, hc33, h⟩ := ob_inv h
      refine u_callVv X hP hS hl dX10_wantEnd_33 (cM_advance l hc33) cw_X10_174 io_56 rfl rfl rfl rfl ⟨rfl, rfl⟩ (fun H locs hP hS => ?_)
      exact u_vretM X hr hret h hP hS dX10_wantEnd_36
  have J21 : ∀ (H : Heap) (locs : List Loc) (ls : Array Slot), lv_has ls 1 [(0, .ref (ad 56))] → va_P D clss (wld cs ad z) H → va_S A s.heap H locs → fM_wantEnd_J21 z = some z1 → W p l e R s m args below meth c H locs 0 0 Q (F0 m 21 ls [.ref (ad 56)]) := by
    intro H locs ls hl hP hS h
    rw [fM_wantEnd_J21] at h
    refine u_iconst (v := 0) X dX10_wantEnd_21 rfl ?_
    exact J22 _ _ _ _ hl hP hS h
  refine u_if_eq 21 X dX10_wantEnd_5 rfl (fun hc => ?_) (fun hc => ?_)
  · rw [if_pos hc] at h
    exact J21 _ _ _ hl hP hS h
  · rw [if_neg hc] at h
    refine u_aload_n X hl dX10_wantEnd_8 0 rfl ?_
    refine u_bipush (v := 59) X dX10_wantEnd_9 rfl ?_
    refine u_callVi X hP hS hl dX10_wantEnd_11 (cM_isMark l z 59) cw_X10_177 io_56 rfl rfl rfl rfl ⟨rfl, rfl⟩ (fun H locs hP hS => ?_)
    refine u_if_eq 21 X dX10_wantEnd_14 rfl (fun hc => ?_) (fun hc => ?_)
    · rw [if_pos hc] at h
      exact J21 _ _ _ hl hP hS h
    · rw [if_neg hc] at h
      refine u_iconst (v := 1) X dX10_wantEnd_17 rfl ?_
      refine u_goto 22 X dX10_wantEnd_18 rfl ?_
      exact J22 _ _ _ _ hl hP hS h
def fM_wantTwo_J121 (z : MS) (l2 : Int32) (l3 : Int32) : Option MS :=
  if (gI z 56 19) = 0 then some z else (if l2 < 0 ∨ 8 ≤ l2.toNatClampNeg then none else if l2 < 0 ∨ 8 ≤ l2.toNatClampNeg then none else if l3 < 0 ∨ 8 ≤ l3.toNatClampNeg then none else if l3 < 0 ∨ 8 ≤ l3.toNatClampNeg then none else some (pI (pI z 66 l2.toNatClampNeg ((gI z 66 l2.toNatClampNeg) ||| ((1 : Int32) <<< (l3 &&& 31)))) 66 l3.toNatClampNeg ((gI (pI z 66 l2.toNatClampNeg ((gI z 66 l2.toNatClampNeg) ||| ((1 : Int32) <<< (l3 &&& 31)))) 66 l3.toNatClampNeg) ||| ((1 : Int32) <<< (l2 &&& 31)))))
def fM_wantTwo_J75 (z : MS) (l1 : Int32) (l2 : Int32) (l3 : Int32) (s0 : Int32) : Option MS :=
  Option.bind (fM_wantEnd z) (fun zc78 => if (gI zc78 56 19) = 0 then fM_wantTwo_J121 zc78 l2 l3 else (if l1 = 0 then fM_wantTwo_J121 zc78 l2 l3 else (if ((8 * l2) + l3) < 0 ∨ 64 ≤ ((8 * l2) + l3).toNatClampNeg then none else if ((8 * l3) + l2) < 0 ∨ 64 ≤ ((8 * l3) + l2).toNatClampNeg then none else some (pI (pI zc78 68 ((8 * l2) + l3).toNatClampNeg s0) 68 ((8 * l3) + l2).toNatClampNeg s0))))
def fM_wantTwo_J45 (z : MS) (l1 : Int32) (l2 : Int32) (s1 : Int32) : Option MS :=
  if s1 = 0 ∨ s1 = 1 then ob2 (fM_wantNumber (pI z 56 19 s1) 0 ((gI (pI z 56 19 s1) 56 20) - 1)) (fun w56 zc56 => if l1 = 0 then fM_wantTwo_J75 zc56 l1 l2 w56 0 else ob2 (fM_wantNumber zc56 0 9) (fun w68 zc68 => fM_wantTwo_J75 zc68 l1 l2 w56 w68)) else none
def fM_wantTwo_J44 (z : MS) (l1 : Int32) (l2 : Int32) : Option MS :=
  fM_wantTwo_J45 z l1 l2 0
def fM_wantTwo_J40 (z : MS) (l1 : Int32) (l2 : Int32) : Option MS :=
  fM_wantTwo_J45 z l1 l2 1
def fM_wantTwo (z : MS) (a0 : Int32) : Option MS :=
  Option.bind (fM_advance z) (fun zc1 => ob2 (fM_wantNumber zc1 0 ((gI zc1 56 20) - 1)) (fun w12 zc12 => if (gI zc12 56 19) = 0 then fM_wantTwo_J44 zc12 a0 w12 else (if (gI zc12 56 14) = 2 then (if (gI zc12 56 18) = w12 then fM_wantTwo_J44 zc12 a0 w12 else fM_wantTwo_J40 zc12 a0 w12) else fM_wantTwo_J40 zc12 a0 w12)))
set_option maxRecDepth 4000 in
theorem cM_wantTwo (l : Launch) {z : MS} {a0 : Int32} {z1 : MS} (h : fM_wantTwo z a0 = some z1) : CT l yX10_wantTwo cX10_wantTwo 5 none 4 86 (fun ad sd => [.ref (ad 56), .int a0]) z none z1 := by
  rw [fM_wantTwo] at h
  refine u_start RX10 rfl (by decide) (fun _ _ => Nat.le_of_ble_eq_true rfl) (fun p e s m args below meth c R D ad cs sd A Q ls X hP hS hl hr hret => ?_)
  have hl : lv_has ls 5 [(0, .ref (ad 56)), (1, .int a0)] := hl
  refine u_aload_n X hl dX10_wantTwo_0 0 rfl ?_
  obtain ⟨zc1, hc1, h⟩ := ob_inv h
  refine u_callVv X hP hS hl dX10_wantTwo_1 (cM_advance l hc1) cw_X10_174 io_56 rfl rfl rfl rfl ⟨rfl, rfl⟩ (fun H locs hP hS => ?_)
  refine u_aload_n X hl dX10_wantTwo_4 0 rfl ?_
  refine u_iconst (v := 0) X dX10_wantTwo_5 rfl ?_
  refine u_aload_n X hl dX10_wantTwo_6 0 rfl ?_
  refine gf_X10_180_56 X hP dX10_wantTwo_7 ?_
  refine u_iconst (v := 1) X dX10_wantTwo_10 rfl ?_
  refine u_isub X dX10_wantTwo_11 ?_
  obtain ⟨w12, zc12, hc12, h⟩ := ob2_inv h
  refine u_callVi X hP hS hl dX10_wantTwo_12 (cM_wantNumber l hc12) cw_X10_183 io_56 rfl rfl rfl rfl ⟨rfl, rfl⟩ (fun H locs hP hS => ?_)
  refine u_istore_n [(2, .int w12), (0, .ref (ad 56)), (1, .int a0)] X hl dX10_wantTwo_15 (Nat.le_of_ble_eq_true rfl) rfl (fun ls hl => ?_)
  refine u_aload_n X hl dX10_wantTwo_16 1 rfl ?_
  refine u_aload_n X hl dX10_wantTwo_17 1 rfl ?_
  refine gf_X10_170_56 X hP dX10_wantTwo_18 ?_
  have J45 : ∀ (H : Heap) (locs : List Loc) (ls : Array Slot) (s1_45 : Int32), lv_has ls 5 [(0, .ref (ad 56)), (1, .int a0), (2, .int w12)] → va_P D clss (wld cs ad zc12) H → va_S A s.heap H locs → fM_wantTwo_J45 zc12 a0 w12 s1_45 = some z1 → W p l e R s m args below meth c H locs 0 0 Q (F0 m 45 ls [.int s1_45, .ref (ad 56)]) := by
    intro H locs ls s1_45 hl hP hS h
    rw [fM_wantTwo_J45] at h
    obtain ⟨hb, h⟩ := ifb_inv h
    refine pf_X10_170_56 X hP hS hb dX10_wantTwo_45 (fun H locs hP hS => ?_)
    refine u_aload_n X hl dX10_wantTwo_48 0 rfl ?_
    refine u_iconst (v := 0) X dX10_wantTwo_49 rfl ?_
    refine u_aload_n X hl dX10_wantTwo_50 0 rfl ?_
    refine gf_X10_180_56 X hP dX10_wantTwo_51 ?_
    refine u_iconst (v := 1) X dX10_wantTwo_54 rfl ?_
    refine u_isub X dX10_wantTwo_55 ?_
    obtain ⟨w56, zc56, hc56, h⟩ := ob2_inv h
    refine u_callVi X hP hS hl dX10_wantTwo_56 (cM_wantNumber l hc56) cw_X10_183 io_56 rfl rfl rfl rfl ⟨rfl, rfl⟩ (fun H locs hP hS => ?_)
    refine u_istore_n [(3, .int w56), (0, .ref (ad 56)), (1, .int a0), (2, .int w12)] X hl dX10_wantTwo_59 (Nat.le_of_ble_eq_true rfl) rfl (fun ls hl => ?_)
    refine u_iload_n X hl dX10_wantTwo_60 2 rfl ?_
    have J75 : ∀ (H : Heap) (locs : List Loc) (ls : Array Slot) (z_75 : MS) (s0_75 : Int32), lv_has ls 5 [(0, .ref (ad 56)), (1, .int a0), (2, .int w12), (3, .int w56)] → va_P D clss (wld cs ad z_75) H → va_S A s.heap H locs → fM_wantTwo_J75 z_75 a0 w12 w56 s0_75 = some z1 → W p l e R s m args below meth c H locs 0 0 Q (F0 m 75 ls [.int s0_75]) := by
      intro H locs ls z_75 s0_75 hl hP hS h
      rw [fM_wantTwo_J75] at h
      refine u_istore [(4, .int s0_75), (0, .ref (ad 56)), (1, .int a0), (2, .int w12), (3, .int w56)] X hl dX10_wantTwo_75 (Nat.le_of_ble_eq_true rfl) rfl (fun ls hl => ?_)
      refine u_aload_n X hl dX10_wantTwo_77 1 rfl ?_
      obtain ⟨zc78, hc78, h⟩ := ob_inv h
      refine u_callVv X hP hS hl dX10_wantTwo_78 (cM_wantEnd l hc78) cw_X10_187 io_56 rfl rfl rfl rfl ⟨rfl, rfl⟩ (fun H locs hP hS => ?_)
      refine u_aload_n X hl dX10_wantTwo_81 1 rfl ?_
      refine gf_X10_170_56 X hP dX10_wantTwo_82 ?_
      have J121 : ∀ (H : Heap) (locs : List Loc) (ls : Array Slot), lv_has ls 5 [(0, .ref (ad 56)), (2, .int w12), (3, .int w56)] → va_P D clss (wld cs ad zc78) H → va_S A s.heap H locs → fM_wantTwo_J121 zc78 w12 w56 = some z1 → W p l e R s m args below meth c H locs 0 0 Q (F0 m 121 ls []) := by
        intro H locs ls hl hP hS h
        rw [fM_wantTwo_J121] at h
        refine u_aload_n X hl dX10_wantTwo_121 0 rfl ?_
        refine gf_X10_170_56 X hP dX10_wantTwo_122 ?_
        refine u_if_eq 152 X dX10_wantTwo_125 rfl (fun hc => ?_) (fun hc => ?_)
        · rw [if_pos hc] at h
          exact u_vretM X hr hret h hP hS dX10_wantTwo_152
        · rw [if_neg hc] at h
          refine u_aload_n X hl dX10_wantTwo_128 0 rfl ?_
          refine gf_X10_41_56 X hP dX10_wantTwo_129 ?_
          refine u_iload_n X hl dX10_wantTwo_132 1 rfl ?_
          refine u_dup2 X rfl rfl dX10_wantTwo_133 ?_
          obtain ⟨hin, h⟩ := ifn_inv h
          refine ld_66 X hP rfl hin dX10_wantTwo_134 ?_
          refine u_iconst (v := 1) X dX10_wantTwo_135 rfl ?_
          refine u_iload_n X hl dX10_wantTwo_136 2 rfl ?_
          refine u_ishl X dX10_wantTwo_137 ?_
          refine u_ior X dX10_wantTwo_138 ?_
          obtain ⟨hin, h⟩ := ifn_inv h
          refine as_66 X hP hS rfl hin dX10_wantTwo_139 (fun H locs hP hS => ?_)
          refine u_aload_n X hl dX10_wantTwo_140 0 rfl ?_
          refine gf_X10_41_56 X hP dX10_wantTwo_141 ?_
          refine u_iload_n X hl dX10_wantTwo_144 2 rfl ?_
          refine u_dup2 X rfl rfl dX10_wantTwo_145 ?_
          obtain ⟨hin, h⟩ := ifn_inv h
          refine ld_66 X hP rfl hin dX10_wantTwo_146 ?_
          refine u_iconst (v := 1) X dX10_wantTwo_147 rfl ?_
          refine u_iload_n X hl dX10_wantTwo_148 1 rfl ?_
          refine u_ishl X dX10_wantTwo_149 ?_
          refine u_ior X dX10_wantTwo_150 ?_
          obtain ⟨hin, h⟩ := ifn_inv h
          refine as_66 X hP hS rfl hin dX10_wantTwo_151 (fun H locs hP hS => ?_)
          exact u_vretM X hr hret h hP hS dX10_wantTwo_152
      refine u_if_eq 121 X dX10_wantTwo_85 rfl (fun hc => ?_) (fun hc => ?_)
      · rw [if_pos hc] at h
        exact J121 _ _ _ (lv_sub hl [1, 3, 4] rfl) hP hS h
      · rw [if_neg hc] at h
        refine u_iload_n X hl dX10_wantTwo_88 2 rfl ?_
        refine u_if_eq 121 X dX10_wantTwo_89 rfl (fun hc => ?_) (fun hc => ?_)
        · rw [if_pos hc] at h
          exact J121 _ _ _ (lv_sub hl [1, 3, 4] rfl) hP hS h
        · rw [if_neg hc] at h
          refine u_aload_n X hl dX10_wantTwo_92 1 rfl ?_
          refine gf_X10_47_56 X hP dX10_wantTwo_93 ?_
          refine u_bipush (v := 8) X dX10_wantTwo_96 rfl ?_
          refine u_iload_n X hl dX10_wantTwo_98 3 rfl ?_
          refine u_imul X dX10_wantTwo_99 ?_
          refine u_iload_n X hl dX10_wantTwo_100 4 rfl ?_
          refine u_iadd X dX10_wantTwo_101 ?_
          refine u_iload X hl dX10_wantTwo_102 0 rfl ?_
          obtain ⟨hin, h⟩ := ifn_inv h
          refine as_68 X hP hS rfl hin dX10_wantTwo_104 (fun H locs hP hS => ?_)
          refine u_aload_n X hl dX10_wantTwo_105 1 rfl ?_
          refine gf_X10_47_56 X hP dX10_wantTwo_106 ?_
          refine u_bipush (v := 8) X dX10_wantTwo_109 rfl ?_
          refine u_iload_n X hl dX10_wantTwo_111 4 rfl ?_
          refine u_imul X dX10_wantTwo_112 ?_
          refine u_iload_n X hl dX10_wantTwo_113 3 rfl ?_
          refine u_iadd X dX10_wantTwo_114 ?_
          refine u_iload X hl dX10_wantTwo_115 0 rfl ?_
          obtain ⟨hin, h⟩ := ifn_inv h
          refine as_68 X hP hS rfl hin dX10_wantTwo_117 (fun H locs hP hS => ?_)
          refine u_goto 152 X dX10_wantTwo_118 rfl ?_
          exact u_vretM X hr hret h hP hS dX10_wantTwo_152
    refine u_if_eq 74 X dX10_wantTwo_61 rfl (fun hc => ?_) (fun hc => ?_)
    · rw [if_pos hc] at h
      refine u_iconst (v := 0) X dX10_wantTwo_74 rfl ?_
      exact J75 _ _ _ _ _ (lv_sub hl [1, 2, 3, 0] rfl) hP hS h
    · rw [if_neg hc] at h
      refine u_aload_n X hl dX10_wantTwo_64 1 rfl ?_
      refine u_iconst (v := 0) X dX10_wantTwo_65 rfl ?_
      refine u_bipush (v := 9) X dX10_wantTwo_66 rfl ?_
      obtain ⟨w68, zc68, hc68, h⟩ := ob2_inv h
      refine u_callVi X hP hS hl dX10_wantTwo_68 (cM_wantNumber l hc68) cw_X10_183 io_56 rfl rfl rfl rfl ⟨rfl, rfl⟩ (fun H locs hP hS => ?_)
      refine u_goto 75 X dX10_wantTwo_71 rfl ?_
      exact J75 _ _ _ _ _ (lv_sub hl [1, 2, 3, 0] rfl) hP hS h
  have J44 : ∀ (H : Heap) (locs : List Loc) (ls : Array Slot), lv_has ls 5 [(0, .ref (ad 56)), (1, .int a0), (2, .int w12)] → va_P D clss (wld cs ad zc12) H → va_S A s.heap H locs → fM_wantTwo_J44 zc12 a0 w12 = some z1 → W p l e R s m args below meth c H locs 0 0 Q (F0 m 44 ls [.ref (ad 56)]) := by
    intro H locs ls hl hP hS h
    rw [fM_wantTwo_J44] at h
    refine u_iconst (v := 0) X dX10_wantTwo_44 rfl ?_
    exact J45 _ _ _ _ hl hP hS h
  refine u_if_eq 44 X dX10_wantTwo_21 rfl (fun hc => ?_) (fun hc => ?_)
  · rw [if_pos hc] at h
    exact J44 _ _ _ (lv_sub hl [1, 2, 0] rfl) hP hS h
  · rw [if_neg hc] at h
    refine u_aload_n X hl dX10_wantTwo_24 1 rfl ?_
    refine gf_X10_134_56 X hP dX10_wantTwo_25 ?_
    refine u_iconst (v := 2) X dX10_wantTwo_28 rfl ?_
    have J40 : ∀ (H : Heap) (locs : List Loc) (ls : Array Slot), lv_has ls 5 [(0, .ref (ad 56)), (1, .int a0), (2, .int w12)] → va_P D clss (wld cs ad zc12) H → va_S A s.heap H locs → fM_wantTwo_J40 zc12 a0 w12 = some z1 → W p l e R s m args below meth c H locs 0 0 Q (F0 m 40 ls [.ref (ad 56)]) := by
      intro H locs ls hl hP hS h
      rw [fM_wantTwo_J40] at h
      refine u_iconst (v := 1) X dX10_wantTwo_40 rfl ?_
      refine u_goto 45 X dX10_wantTwo_41 rfl ?_
      exact J45 _ _ _ _ hl hP hS h
    refine u_icmp_ne 40 X dX10_wantTwo_29 rfl (fun hc => ?_) (fun hc => ?_)
    · rw [if_neg hc] at h
      exact J40 _ _ _ (lv_sub hl [1, 2, 0] rfl) hP hS h
    · rw [if_pos hc] at h
      refine u_aload_n X hl dX10_wantTwo_32 1 rfl ?_
      refine gf_X10_141_56 X hP dX10_wantTwo_33 ?_
      refine u_iload_n X hl dX10_wantTwo_36 0 rfl ?_
      refine u_icmp_eq 44 X dX10_wantTwo_37 rfl (fun hc => ?_) (fun hc => ?_)
      · rw [if_pos hc] at h
        exact J44 _ _ _ (lv_sub hl [1, 2, 0] rfl) hP hS h
      · rw [if_neg hc] at h
        exact J40 _ _ _ (lv_sub hl [1, 2, 0] rfl) hP hS h
def fM_wantAway_J102 (z : MS) (l1 : Int32) (l2 : Int32) : Option MS :=
  Option.bind (fM_wantEnd z) (fun zc103 => if (gI zc103 56 19) = 0 then some zc103 else (if l1 < 0 ∨ 8 ≤ l1.toNatClampNeg then none else if l1 < 0 ∨ 8 ≤ l1.toNatClampNeg then none else some (pI zc103 67 l1.toNatClampNeg ((gI zc103 67 l1.toNatClampNeg) ||| l2))))
def fM_wantAway_J90 (z : MS) (K30 : MS → Int32 → Int32 → Option MS) (l2 : Int32) (s0 : Int32) : Option MS :=
  if s0 = 0 then K30 z l2 s0 else Option.bind (fM_advance z) (fun zc96 => K30 zc96 l2 s0)
def fM_wantAway_J89 (z : MS) (K30 : MS → Int32 → Int32 → Option MS) (l2 : Int32) : Option MS :=
  fM_wantAway_J90 z K30 l2 0
def fM_wantAway_J66 (z : MS) (K30 : MS → Int32 → Int32 → Option MS) (s0 : Int32) (s1 : Int32) : Option MS :=
  if (gI z 56 19) = 0 then fM_wantAway_J89 z K30 (s0 ||| s1) else (if (fM_isWord z 1111) = 0 then fM_wantAway_J89 z K30 (s0 ||| s1) else fM_wantAway_J90 z K30 (s0 ||| s1) 1)
def fM_wantAway_L30 (l1 : Int32) : Nat → MS → Int32 → Int32 → Option MS
  | 0, _, _, _ => none
  | n + 1, z, l2, l3 => if (gI z 56 19) = 0 then fM_wantAway_J102 z l1 l2 else (if l3 = 0 then fM_wantAway_J102 z l1 l2 else ob2 (fM_wantNumber z 0 9) (fun w45 zc45 => if (gI zc45 56 19) = 0 then fM_wantAway_J66 zc45 (fM_wantAway_L30 l1 n) l2 0 else fM_wantAway_J66 zc45 (fM_wantAway_L30 l1 n) l2 ((1 : Int32) <<< (w45 &&& 31))))
def fM_wantAway (z : MS) : Option MS :=
  Option.bind (fM_advance z) (fun zc1 => ob2 (fM_wantNumber zc1 0 ((gI zc1 56 20) - 1)) (fun w12 zc12 => Option.bind (fM_wantWord zc12 419) (fun zc20 => fM_wantAway_L30 w12 LF zc20 0 (gI zc20 56 19))))
set_option maxRecDepth 4000 in
theorem cM_wantAway (l : Launch) {z : MS} {z1 : MS} (h : fM_wantAway z = some z1) : CT l yX10_wantAway cX10_wantAway 5 none 4 86 (fun ad sd => [.ref (ad 56)]) z none z1 := by
  rw [fM_wantAway] at h
  refine u_start RX10 rfl (by decide) (fun _ _ => Nat.le_of_ble_eq_true rfl) (fun p e s m args below meth c R D ad cs sd A Q ls X hP hS hl hr hret => ?_)
  have hl : lv_has ls 5 [(0, .ref (ad 56))] := hl
  refine u_aload_n X hl dX10_wantAway_0 0 rfl ?_
  obtain ⟨zc1, hc1, h⟩ := ob_inv h
  refine u_callVv X hP hS hl dX10_wantAway_1 (cM_advance l hc1) cw_X10_174 io_56 rfl rfl rfl rfl ⟨rfl, rfl⟩ (fun H locs hP hS => ?_)
  refine u_aload_n X hl dX10_wantAway_4 0 rfl ?_
  refine u_iconst (v := 0) X dX10_wantAway_5 rfl ?_
  refine u_aload_n X hl dX10_wantAway_6 0 rfl ?_
  refine gf_X10_180_56 X hP dX10_wantAway_7 ?_
  refine u_iconst (v := 1) X dX10_wantAway_10 rfl ?_
  refine u_isub X dX10_wantAway_11 ?_
  obtain ⟨w12, zc12, hc12, h⟩ := ob2_inv h
  refine u_callVi X hP hS hl dX10_wantAway_12 (cM_wantNumber l hc12) cw_X10_183 io_56 rfl rfl rfl rfl ⟨rfl, rfl⟩ (fun H locs hP hS => ?_)
  refine u_istore_n [(1, .int w12), (0, .ref (ad 56))] X hl dX10_wantAway_15 (Nat.le_of_ble_eq_true rfl) rfl (fun ls hl => ?_)
  refine u_aload_n X hl dX10_wantAway_16 1 rfl ?_
  refine u_ldc2 X kw_X10_190 dX10_wantAway_17 ?_
  obtain ⟨zc20, hc20, h⟩ := ob_inv h
  refine u_callVv X hP hS hl dX10_wantAway_20 (cM_wantWord l hc20) cw_X10_192 io_56 rfl rfl rfl rfl ⟨rfl, rfl⟩ (fun H locs hP hS => ?_)
  refine u_iconst (v := 0) X dX10_wantAway_23 rfl ?_
  refine u_istore_n [(2, .int 0), (1, .int w12), (0, .ref (ad 56))] X hl dX10_wantAway_24 (Nat.le_of_ble_eq_true rfl) rfl (fun ls hl => ?_)
  refine u_aload_n X hl dX10_wantAway_25 2 rfl ?_
  refine gf_X10_170_56 X hP dX10_wantAway_26 ?_
  refine u_istore_n [(3, .int (gI zc20 56 19)), (2, .int 0), (1, .int w12), (0, .ref (ad 56))] X hl dX10_wantAway_29 (Nat.le_of_ble_eq_true rfl) rfl (fun ls hl => ?_)
  have L30 : ∀ (n : Nat) (H : Heap) (locs : List Loc) (ls : Array Slot) (z_30 : MS) (l2_30 : Int32) (l3_30 : Int32), lv_has ls 5 [(0, .ref (ad 56)), (1, .int w12), (2, .int l2_30), (3, .int l3_30)] → va_P D clss (wld cs ad z_30) H → va_S A s.heap H locs → fM_wantAway_L30 w12 n z_30 l2_30 l3_30 = some z1 → W p l e R s m args below meth c H locs 0 0 Q (F0 m 30 ls []) := by
    intro n
    induction n with
    | zero =>
      intro H locs ls z_30 l2_30 l3_30 hl hP hS h
      rw [fM_wantAway_L30] at h
      cases h
    | succ n30 ih30 =>
      intro H locs ls z_30 l2_30 l3_30 hl hP hS h
      rw [fM_wantAway_L30] at h
      refine u_aload_n X hl dX10_wantAway_30 0 rfl ?_
      refine gf_X10_170_56 X hP dX10_wantAway_31 ?_
      have J102 : ∀ (H : Heap) (locs : List Loc) (ls : Array Slot), lv_has ls 5 [(0, .ref (ad 56)), (1, .int w12), (2, .int l2_30)] → va_P D clss (wld cs ad z_30) H → va_S A s.heap H locs → fM_wantAway_J102 z_30 w12 l2_30 = some z1 → W p l e R s m args below meth c H locs 0 0 Q (F0 m 102 ls []) := by
        intro H locs ls hl hP hS h
        rw [fM_wantAway_J102] at h
        refine u_aload_n X hl dX10_wantAway_102 0 rfl ?_
        obtain ⟨zc103, hc103, h⟩ := ob_inv h
        refine u_callVv X hP hS hl dX10_wantAway_103 (cM_wantEnd l hc103) cw_X10_187 io_56 rfl rfl rfl rfl ⟨rfl, rfl⟩ (fun H locs hP hS => ?_)
        refine u_aload_n X hl dX10_wantAway_106 0 rfl ?_
        refine gf_X10_170_56 X hP dX10_wantAway_107 ?_
        refine u_if_eq 123 X dX10_wantAway_110 rfl (fun hc => ?_) (fun hc => ?_)
        · rw [if_pos hc] at h
          exact u_vretM X hr hret h hP hS dX10_wantAway_123
        · rw [if_neg hc] at h
          refine u_aload_n X hl dX10_wantAway_113 0 rfl ?_
          refine gf_X10_44_56 X hP dX10_wantAway_114 ?_
          refine u_iload_n X hl dX10_wantAway_117 1 rfl ?_
          refine u_dup2 X rfl rfl dX10_wantAway_118 ?_
          obtain ⟨hin, h⟩ := ifn_inv h
          refine ld_67 X hP rfl hin dX10_wantAway_119 ?_
          refine u_iload_n X hl dX10_wantAway_120 2 rfl ?_
          refine u_ior X dX10_wantAway_121 ?_
          obtain ⟨hin, h⟩ := ifn_inv h
          refine as_67 X hP hS rfl hin dX10_wantAway_122 (fun H locs hP hS => ?_)
          exact u_vretM X hr hret h hP hS dX10_wantAway_123
      refine u_if_eq 102 X dX10_wantAway_34 rfl (fun hc => ?_) (fun hc => ?_)
      · rw [if_pos hc] at h
        exact J102 _ _ _ (lv_sub hl [0, 1, 2] rfl) hP hS h
      · rw [if_neg hc] at h
        refine u_iload_n X hl dX10_wantAway_37 3 rfl ?_
        refine u_if_eq 102 X dX10_wantAway_38 rfl (fun hc => ?_) (fun hc => ?_)
        · rw [if_pos hc] at h
          exact J102 _ _ _ (lv_sub hl [0, 1, 2] rfl) hP hS h
        · rw [if_neg hc] at h
          refine u_aload_n X hl dX10_wantAway_41 0 rfl ?_
          refine u_iconst (v := 0) X dX10_wantAway_42 rfl ?_
          refine u_bipush (v := 9) X dX10_wantAway_43 rfl ?_
          obtain ⟨w45, zc45, hc45, h⟩ := ob2_inv h
          refine u_callVi X hP hS hl dX10_wantAway_45 (cM_wantNumber l hc45) cw_X10_183 io_56 rfl rfl rfl rfl ⟨rfl, rfl⟩ (fun H locs hP hS => ?_)
          refine u_istore [(4, .int w45), (0, .ref (ad 56)), (1, .int w12), (2, .int l2_30), (3, .int l3_30)] X hl dX10_wantAway_48 (Nat.le_of_ble_eq_true rfl) rfl (fun ls hl => ?_)
          refine u_iload_n X hl dX10_wantAway_50 3 rfl ?_
          refine u_aload_n X hl dX10_wantAway_51 1 rfl ?_
          refine gf_X10_170_56 X hP dX10_wantAway_52 ?_
          have J66 : ∀ (H : Heap) (locs : List Loc) (ls : Array Slot) (s1_66 : Int32), lv_has ls 5 [(0, .ref (ad 56)), (1, .int w12)] → va_P D clss (wld cs ad zc45) H → va_S A s.heap H locs → fM_wantAway_J66 zc45 (fM_wantAway_L30 w12 n30) l2_30 s1_66 = some z1 → W p l e R s m args below meth c H locs 0 0 Q (F0 m 66 ls [.int s1_66, .int l2_30]) := by
            intro H locs ls s1_66 hl hP hS h
            rw [fM_wantAway_J66] at h
            refine u_ior X dX10_wantAway_66 ?_
            refine u_istore_n [(2, .int (l2_30 ||| s1_66)), (0, .ref (ad 56)), (1, .int w12)] X hl dX10_wantAway_67 (Nat.le_of_ble_eq_true rfl) rfl (fun ls hl => ?_)
            refine u_aload_n X hl dX10_wantAway_68 1 rfl ?_
            refine gf_X10_170_56 X hP dX10_wantAway_69 ?_
            have J90 : ∀ (H : Heap) (locs : List Loc) (ls : Array Slot) (s0_90 : Int32), lv_has ls 5 [(0, .ref (ad 56)), (1, .int w12), (2, .int (l2_30 ||| s1_66))] → va_P D clss (wld cs ad zc45) H → va_S A s.heap H locs → fM_wantAway_J90 zc45 (fM_wantAway_L30 w12 n30) (l2_30 ||| s1_66) s0_90 = some z1 → W p l e R s m args below meth c H locs 0 0 Q (F0 m 90 ls [.int s0_90]) := by
              intro H locs ls s0_90 hl hP hS h
              rw [fM_wantAway_J90] at h
              refine u_istore_n [(3, .int s0_90), (0, .ref (ad 56)), (1, .int w12), (2, .int (l2_30 ||| s1_66))] X hl dX10_wantAway_90 (Nat.le_of_ble_eq_true rfl) rfl (fun ls hl => ?_)
              refine u_iload_n X hl dX10_wantAway_91 0 rfl ?_
              refine u_if_eq 99 X dX10_wantAway_92 rfl (fun hc => ?_) (fun hc => ?_)
              · rw [if_pos hc] at h
                refine u_goto 30 X dX10_wantAway_99 rfl ?_
                exact ih30 _ _ _ _ _ _ (lv_sub hl [1, 2, 3, 0] rfl) hP hS h
              · rw [if_neg hc] at h
                refine u_aload_n X hl dX10_wantAway_95 1 rfl ?_
                obtain ⟨zc96, hc96, h⟩ := ob_inv h
                refine u_callVv X hP hS hl dX10_wantAway_96 (cM_advance l hc96) cw_X10_174 io_56 rfl rfl rfl rfl ⟨rfl, rfl⟩ (fun H locs hP hS => ?_)
                refine u_goto 30 X dX10_wantAway_99 rfl ?_
                exact ih30 _ _ _ _ _ _ (lv_sub hl [1, 2, 3, 0] rfl) hP hS h
            have J89 : ∀ (H : Heap) (locs : List Loc) (ls : Array Slot), lv_has ls 5 [(0, .ref (ad 56)), (1, .int w12), (2, .int (l2_30 ||| s1_66))] → va_P D clss (wld cs ad zc45) H → va_S A s.heap H locs → fM_wantAway_J89 zc45 (fM_wantAway_L30 w12 n30) (l2_30 ||| s1_66) = some z1 → W p l e R s m args below meth c H locs 0 0 Q (F0 m 89 ls []) := by
              intro H locs ls hl hP hS h
              rw [fM_wantAway_J89] at h
              refine u_iconst (v := 0) X dX10_wantAway_89 rfl ?_
              exact J90 _ _ _ _ hl hP hS h
            refine u_if_eq 89 X dX10_wantAway_72 rfl (fun hc => ?_) (fun hc => ?_)
            · rw [if_pos hc] at h
              exact J89 _ _ _ (lv_sub hl [1, 2, 0] rfl) hP hS h
            · rw [if_neg hc] at h
              refine u_aload_n X hl dX10_wantAway_75 1 rfl ?_
              refine u_ldc2 X kw_X10_196 dX10_wantAway_76 ?_
              refine u_callVi X hP hS hl dX10_wantAway_79 (cM_isWord l zc45 1111) cw_X10_152 io_56 rfl rfl rfl rfl ⟨rfl, rfl⟩ (fun H locs hP hS => ?_)
              refine u_if_eq 89 X dX10_wantAway_82 rfl (fun hc => ?_) (fun hc => ?_)
              · rw [if_pos hc] at h
                exact J89 _ _ _ (lv_sub hl [1, 2, 0] rfl) hP hS h
              · rw [if_neg hc] at h
                refine u_iconst (v := 1) X dX10_wantAway_85 rfl ?_
                refine u_goto 90 X dX10_wantAway_86 rfl ?_
                exact J90 _ _ _ _ (lv_sub hl [1, 2, 0] rfl) hP hS h
          refine u_if_eq 65 X dX10_wantAway_55 rfl (fun hc => ?_) (fun hc => ?_)
          · rw [if_pos hc] at h
            refine u_iconst (v := 0) X dX10_wantAway_65 rfl ?_
            exact J66 _ _ _ _ (lv_sub hl [1, 2] rfl) hP hS h
          · rw [if_neg hc] at h
            refine u_iconst (v := 1) X dX10_wantAway_58 rfl ?_
            refine u_iload X hl dX10_wantAway_59 0 rfl ?_
            refine u_ishl X dX10_wantAway_61 ?_
            refine u_goto 66 X dX10_wantAway_62 rfl ?_
            exact J66 _ _ _ _ (lv_sub hl [1, 2] rfl) hP hS h
  exact L30 LF _ _ _ _ _ _ (lv_sub hl [3, 2, 1, 0] rfl) hP hS h
def fM_wantClause_J87 (z : MS) : Option MS :=
  Option.bind (fM_wantTwo z (fM_isWord z 10998956)) (fun zc95 => some zc95)
def fM_wantClause_J39 (z : MS) : Option MS :=
  Option.bind (fM_wantEnd z) (fun zc40 => if (gI zc40 56 19) = 0 then some (pI zc40 56 20 ((gI zc40 56 20) + 0)) else some (pI zc40 56 20 ((gI zc40 56 20) + 1)))
def fM_wantClause_J25 (z : MS) (s1 : Int32) : Option MS :=
  if s1 = 0 ∨ s1 = 1 then if (gI (pI z 56 19 s1) 56 19) = 0 then fM_wantClause_J39 (pI z 56 19 s1) else Option.bind (fM_advance (pI z 56 19 s1)) (fun zc36 => fM_wantClause_J39 zc36) else none
def fM_wantClause (z : MS) : Option MS :=
  if (fM_isWord z 232608281) = 0 then (if (fM_isWord z 8276) = 0 then (if (fM_isWord z 10998956) = 0 then (if (fM_isWord z 36502) = 0 then (if (fM_lawHere z) < 0 then some (pI z 56 19 0) else Option.bind (fM_advance z) (fun zc131 => if (fM_lawHere z) < 0 ∨ 8 ≤ (fM_lawHere z).toNatClampNeg then none else ob2 (fM_wantNumber zc131 0 (gI zc131 63 (fM_lawHere z).toNatClampNeg)) (fun w142 zc142 => Option.bind (fM_wantEnd zc142) (fun zc147 => if (gI zc147 56 19) = 0 then (if (fM_lawHere z) < 0 ∨ 8 ≤ (fM_lawHere z).toNatClampNeg then none else some (pI zc147 69 (fM_lawHere z).toNatClampNeg 0)) else (if (fM_lawHere z) < 0 ∨ 8 ≤ (fM_lawHere z).toNatClampNeg then none else some (pI zc147 69 (fM_lawHere z).toNatClampNeg w142)))))) else Option.bind (fM_wantAway z) (fun zc112 => some zc112)) else fM_wantClause_J87 z) else fM_wantClause_J87 z) else (if 8 ≤ (gI z 56 20) then fM_wantClause_J25 z 0 else fM_wantClause_J25 z 1)
set_option maxRecDepth 4000 in
theorem cM_wantClause (l : Launch) {z : MS} {z1 : MS} (h : fM_wantClause z = some z1) : CT l yX10_wantClause cX10_wantClause 3 none 5 110 (fun ad sd => [.ref (ad 56)]) z none z1 := by
  rw [fM_wantClause] at h
  refine u_start RX10 rfl (by decide) (fun _ _ => Nat.le_of_ble_eq_true rfl) (fun p e s m args below meth c R D ad cs sd A Q ls X hP hS hl hr hret => ?_)
  have hl : lv_has ls 3 [(0, .ref (ad 56))] := hl
  refine u_aload_n X hl dX10_wantClause_0 0 rfl ?_
  refine u_ldc2 X kw_X10_198 dX10_wantClause_1 ?_
  refine u_callVi X hP hS hl dX10_wantClause_4 (cM_isWord l z 232608281) cw_X10_152 io_56 rfl rfl rfl rfl ⟨rfl, rfl⟩ (fun H locs hP hS => ?_)
  refine u_if_eq 67 X dX10_wantClause_7 rfl (fun hc => ?_) (fun hc => ?_)
  · rw [if_pos hc] at h
    refine u_aload_n X hl dX10_wantClause_67 0 rfl ?_
    refine u_ldc2 X kw_X10_200 dX10_wantClause_68 ?_
    refine u_callVi X hP hS hl dX10_wantClause_71 (cM_isWord l z 8276) cw_X10_152 io_56 rfl rfl rfl rfl ⟨rfl, rfl⟩ (fun H locs hP hS => ?_)
    have J87 : ∀ (H : Heap) (locs : List Loc) (ls : Array Slot), lv_has ls 3 [(0, .ref (ad 56))] → va_P D clss (wld cs ad z) H → va_S A s.heap H locs → fM_wantClause_J87 z = some z1 → W p l e R s m args below meth c H locs 0 0 Q (F0 m 87 ls []) := by
      intro H locs ls hl hP hS h
      rw [fM_wantClause_J87] at h
      refine u_aload_n X hl dX10_wantClause_87 0 rfl ?_
      refine u_aload_n X hl dX10_wantClause_88 0 rfl ?_
      refine u_ldc2 X kw_X10_202 dX10_wantClause_89 ?_
      refine u_callVi X hP hS hl dX10_wantClause_92 (cM_isWord l z 10998956) cw_X10_152 io_56 rfl rfl rfl rfl ⟨rfl, rfl⟩ (fun H locs hP hS => ?_)
      obtain ⟨zc95, hc95, h⟩ := ob_inv h
      refine u_callVv X hP hS hl dX10_wantClause_95 (cM_wantTwo l hc95) cw_X10_204 io_56 rfl rfl rfl rfl ⟨rfl, rfl⟩ (fun H locs hP hS => ?_)
      refine u_goto 176 X dX10_wantClause_98 rfl ?_
      exact u_vretM X hr hret h hP hS dX10_wantClause_176
    refine u_if_ne 87 X dX10_wantClause_74 rfl (fun hc => ?_) (fun hc => ?_)
    · rw [if_neg hc] at h
      exact J87 _ _ _ hl hP hS h
    · rw [if_pos hc] at h
      refine u_aload_n X hl dX10_wantClause_77 0 rfl ?_
      refine u_ldc2 X kw_X10_202 dX10_wantClause_78 ?_
      refine u_callVi X hP hS hl dX10_wantClause_81 (cM_isWord l z 10998956) cw_X10_152 io_56 rfl rfl rfl rfl ⟨rfl, rfl⟩ (fun H locs hP hS => ?_)
      refine u_if_eq 101 X dX10_wantClause_84 rfl (fun hc => ?_) (fun hc => ?_)
      · rw [if_pos hc] at h
        refine u_aload_n X hl dX10_wantClause_101 0 rfl ?_
        refine u_ldc2 X kw_X10_208 dX10_wantClause_102 ?_
        refine u_callVi X hP hS hl dX10_wantClause_105 (cM_isWord l z 36502) cw_X10_152 io_56 rfl rfl rfl rfl ⟨rfl, rfl⟩ (fun H locs hP hS => ?_)
        refine u_if_eq 118 X dX10_wantClause_108 rfl (fun hc => ?_) (fun hc => ?_)
        · rw [if_pos hc] at h
          refine u_aload_n X hl dX10_wantClause_118 0 rfl ?_
          refine u_callVi X hP hS hl dX10_wantClause_119 (cM_lawHere l z ) cw_X10_213 io_56 rfl rfl rfl rfl ⟨rfl, rfl⟩ (fun H locs hP hS => ?_)
          refine u_if_lt 171 X dX10_wantClause_122 rfl (fun hc => ?_) (fun hc => ?_)
          · rw [if_pos hc] at h
            refine u_aload_n X hl dX10_wantClause_171 0 rfl ?_
            refine u_iconst (v := 0) X dX10_wantClause_172 rfl ?_
            refine pf_X10_170_56 X hP hS (Or.inl rfl) dX10_wantClause_173 (fun H locs hP hS => ?_)
            exact u_vretM X hr hret h hP hS dX10_wantClause_176
          · rw [if_neg hc] at h
            refine u_aload_n X hl dX10_wantClause_125 0 rfl ?_
            refine u_callVi X hP hS hl dX10_wantClause_126 (cM_lawHere l z ) cw_X10_213 io_56 rfl rfl rfl rfl ⟨rfl, rfl⟩ (fun H locs hP hS => ?_)
            refine u_istore_n [(1, .int (fM_lawHere z)), (0, .ref (ad 56))] X hl dX10_wantClause_129 (Nat.le_of_ble_eq_true rfl) rfl (fun ls hl => ?_)
            refine u_aload_n X hl dX10_wantClause_130 1 rfl ?_
            obtain ⟨zc131, hc131, h⟩ := ob_inv h
            refine u_callVv X hP hS hl dX10_wantClause_131 (cM_advance l hc131) cw_X10_174 io_56 rfl rfl rfl rfl ⟨rfl, rfl⟩ (fun H locs hP hS => ?_)
            refine u_aload_n X hl dX10_wantClause_134 1 rfl ?_
            refine u_iconst (v := 0) X dX10_wantClause_135 rfl ?_
            refine u_aload_n X hl dX10_wantClause_136 1 rfl ?_
            refine gf_X10_28_56 X hP dX10_wantClause_137 ?_
            refine u_iload_n X hl dX10_wantClause_140 0 rfl ?_
            obtain ⟨hin, h⟩ := ifn_inv h
            refine ld_63 X hP rfl hin dX10_wantClause_141 ?_
            obtain ⟨w142, zc142, hc142, h⟩ := ob2_inv h
            refine u_callVi X hP hS hl dX10_wantClause_142 (cM_wantNumber l hc142) cw_X10_183 io_56 rfl rfl rfl rfl ⟨rfl, rfl⟩ (fun H locs hP hS => ?_)
            refine u_istore_n [(2, .int w142), (1, .int (fM_lawHere z)), (0, .ref (ad 56))] X hl dX10_wantClause_145 (Nat.le_of_ble_eq_true rfl) rfl (fun ls hl => ?_)
            refine u_aload_n X hl dX10_wantClause_146 2 rfl ?_
            obtain ⟨zc147, hc147, h⟩ := ob_inv h
            refine u_callVv X hP hS hl dX10_wantClause_147 (cM_wantEnd l hc147) cw_X10_187 io_56 rfl rfl rfl rfl ⟨rfl, rfl⟩ (fun H locs hP hS => ?_)
            refine u_aload_n X hl dX10_wantClause_150 2 rfl ?_
            refine gf_X10_50_56 X hP dX10_wantClause_151 ?_
            refine u_iload_n X hl dX10_wantClause_154 1 rfl ?_
            refine u_aload_n X hl dX10_wantClause_155 2 rfl ?_
            refine gf_X10_170_56 X hP dX10_wantClause_156 ?_
            refine u_if_eq 166 X dX10_wantClause_159 rfl (fun hc => ?_) (fun hc => ?_)
            · rw [if_pos hc] at h
              refine u_iconst (v := 0) X dX10_wantClause_166 rfl ?_
              obtain ⟨hin, h⟩ := ifn_inv h
              refine as_69 X hP hS rfl hin dX10_wantClause_167 (fun H locs hP hS => ?_)
              refine u_goto 176 X dX10_wantClause_168 rfl ?_
              exact u_vretM X hr hret h hP hS dX10_wantClause_176
            · rw [if_neg hc] at h
              refine u_iload_n X hl dX10_wantClause_162 0 rfl ?_
              refine u_goto 167 X dX10_wantClause_163 rfl ?_
              obtain ⟨hin, h⟩ := ifn_inv h
              refine as_69 X hP hS rfl hin dX10_wantClause_167 (fun H locs hP hS => ?_)
              refine u_goto 176 X dX10_wantClause_168 rfl ?_
              exact u_vretM X hr hret h hP hS dX10_wantClause_176
        · rw [if_neg hc] at h
          refine u_aload_n X hl dX10_wantClause_111 0 rfl ?_
          obtain ⟨zc112, hc112, h⟩ := ob_inv h
          refine u_callVv X hP hS hl dX10_wantClause_112 (cM_wantAway l hc112) cw_X10_210 io_56 rfl rfl rfl rfl ⟨rfl, rfl⟩ (fun H locs hP hS => ?_)
          refine u_goto 176 X dX10_wantClause_115 rfl ?_
          exact u_vretM X hr hret h hP hS dX10_wantClause_176
      · rw [if_neg hc] at h
        exact J87 _ _ _ hl hP hS h
  · rw [if_neg hc] at h
    refine u_aload_n X hl dX10_wantClause_10 0 rfl ?_
    refine u_aload_n X hl dX10_wantClause_11 0 rfl ?_
    refine gf_X10_180_56 X hP dX10_wantClause_12 ?_
    refine u_bipush (v := 8) X dX10_wantClause_15 rfl ?_
    have J25 : ∀ (H : Heap) (locs : List Loc) (ls : Array Slot) (s1_25 : Int32), lv_has ls 3 [(0, .ref (ad 56))] → va_P D clss (wld cs ad z) H → va_S A s.heap H locs → fM_wantClause_J25 z s1_25 = some z1 → W p l e R s m args below meth c H locs 0 0 Q (F0 m 25 ls [.int s1_25, .ref (ad 56)]) := by
      intro H locs ls s1_25 hl hP hS h
      rw [fM_wantClause_J25] at h
      obtain ⟨hb, h⟩ := ifb_inv h
      refine pf_X10_170_56 X hP hS hb dX10_wantClause_25 (fun H locs hP hS => ?_)
      refine u_aload_n X hl dX10_wantClause_28 0 rfl ?_
      refine gf_X10_170_56 X hP dX10_wantClause_29 ?_
      have J39 : ∀ (H : Heap) (locs : List Loc) (ls : Array Slot) (z_39 : MS), lv_has ls 3 [(0, .ref (ad 56))] → va_P D clss (wld cs ad z_39) H → va_S A s.heap H locs → fM_wantClause_J39 z_39 = some z1 → W p l e R s m args below meth c H locs 0 0 Q (F0 m 39 ls []) := by
        intro H locs ls z_39 hl hP hS h
        rw [fM_wantClause_J39] at h
        refine u_aload_n X hl dX10_wantClause_39 0 rfl ?_
        obtain ⟨zc40, hc40, h⟩ := ob_inv h
        refine u_callVv X hP hS hl dX10_wantClause_40 (cM_wantEnd l hc40) cw_X10_187 io_56 rfl rfl rfl rfl ⟨rfl, rfl⟩ (fun H locs hP hS => ?_)
        refine u_aload_n X hl dX10_wantClause_43 0 rfl ?_
        refine u_dup X rfl dX10_wantClause_44 ?_
        refine gf_X10_180_56 X hP dX10_wantClause_45 ?_
        refine u_aload_n X hl dX10_wantClause_48 0 rfl ?_
        refine gf_X10_170_56 X hP dX10_wantClause_49 ?_
        refine u_if_eq 59 X dX10_wantClause_52 rfl (fun hc => ?_) (fun hc => ?_)
        · rw [if_pos hc] at h
          refine u_iconst (v := 0) X dX10_wantClause_59 rfl ?_
          refine u_iadd X dX10_wantClause_60 ?_
          refine pf_X10_180_56 X hP hS dX10_wantClause_61 (fun H locs hP hS => ?_)
          refine u_goto 176 X dX10_wantClause_64 rfl ?_
          exact u_vretM X hr hret h hP hS dX10_wantClause_176
        · rw [if_neg hc] at h
          refine u_iconst (v := 1) X dX10_wantClause_55 rfl ?_
          refine u_goto 60 X dX10_wantClause_56 rfl ?_
          refine u_iadd X dX10_wantClause_60 ?_
          refine pf_X10_180_56 X hP hS dX10_wantClause_61 (fun H locs hP hS => ?_)
          refine u_goto 176 X dX10_wantClause_64 rfl ?_
          exact u_vretM X hr hret h hP hS dX10_wantClause_176
      refine u_if_eq 39 X dX10_wantClause_32 rfl (fun hc => ?_) (fun hc => ?_)
      · rw [if_pos hc] at h
        exact J39 _ _ _ _ hl hP hS h
      · rw [if_neg hc] at h
        refine u_aload_n X hl dX10_wantClause_35 0 rfl ?_
        obtain ⟨zc36, hc36, h⟩ := ob_inv h
        refine u_callVv X hP hS hl dX10_wantClause_36 (cM_advance l hc36) cw_X10_174 io_56 rfl rfl rfl rfl ⟨rfl, rfl⟩ (fun H locs hP hS => ?_)
        exact J39 _ _ _ _ hl hP hS h
    refine u_icmp_ge 24 X dX10_wantClause_17 rfl (fun hc => ?_) (fun hc => ?_)
    · rw [if_pos hc] at h
      refine u_iconst (v := 0) X dX10_wantClause_24 rfl ?_
      exact J25 _ _ _ _ hl hP hS h
    · rw [if_neg hc] at h
      refine u_iconst (v := 1) X dX10_wantClause_20 rfl ?_
      refine u_goto 25 X dX10_wantClause_21 rfl ?_
      exact J25 _ _ _ _ hl hP hS h
def fM_house_L228 : Nat → MS → Int32 → Option (Int32 × MS)
  | 0, _, _ => none
  | n + 1, z, l1 => if 10 ≤ l1 then some (gI (pI (pI z 56 5 0) 56 34 0) 56 0, pI (pI z 56 5 0) 56 34 0) else (if l1 < 0 ∨ 10 ≤ l1.toNatClampNeg then none else fM_house_L228 n (pI z 61 l1.toNatClampNeg 0) (l1 + 1))
def fM_house_L207 : Nat → MS → Int32 → Option (Int32 × MS)
  | 0, _, _ => none
  | n + 1, z, l1 => if 40 ≤ l1 then fM_house_L228 LF z 0 else (if l1 < 0 ∨ 40 ≤ l1.toNatClampNeg then none else fM_house_L207 n (pI z 60 l1.toNatClampNeg (-1)) (l1 + 1))
def fM_house_L181 : Nat → MS → Int32 → Option (Int32 × MS)
  | 0, _, _ => none
  | n + 1, z, l1 => if 64 ≤ l1 then fM_house_L207 LF z 0 else (if l1 < 0 ∨ 64 ≤ l1.toNatClampNeg then none else if l1 < 0 ∨ 64 ≤ l1.toNatClampNeg then none else fM_house_L181 n (pI z 59 l1.toNatClampNeg (gI z 68 l1.toNatClampNeg)) (l1 + 1))
def fM_house_L131 : Nat → MS → Int32 → Option (Int32 × MS)
  | 0, _, _ => none
  | n + 1, z, l1 => if 8 ≤ l1 then fM_house_L181 LF z 0 else (if l1 < 0 ∨ 8 ≤ l1.toNatClampNeg then none else if l1 < 0 ∨ 8 ≤ l1.toNatClampNeg then none else if l1 < 0 ∨ 8 ≤ l1.toNatClampNeg then none else if l1 < 0 ∨ 8 ≤ l1.toNatClampNeg then none else if l1 < 0 ∨ 8 ≤ l1.toNatClampNeg then none else if l1 < 0 ∨ 8 ≤ l1.toNatClampNeg then none else fM_house_L131 n (pI (pI (pI z 57 l1.toNatClampNeg (gI z 66 l1.toNatClampNeg)) 58 l1.toNatClampNeg (gI (pI z 57 l1.toNatClampNeg (gI z 66 l1.toNatClampNeg)) 67 l1.toNatClampNeg)) 62 l1.toNatClampNeg (gI (pI (pI z 57 l1.toNatClampNeg (gI z 66 l1.toNatClampNeg)) 58 l1.toNatClampNeg (gI (pI z 57 l1.toNatClampNeg (gI z 66 l1.toNatClampNeg)) 67 l1.toNatClampNeg)) 69 l1.toNatClampNeg)) (l1 + 1))
def fM_house_J101 (z : MS) : Option (Int32 × MS) :=
  if (gI (pI z 56 13 0) 56 19) = 0 then some ((-100) - (gI (pI z 56 13 0) 56 15), pI z 56 13 0) else fM_house_L131 LF (pI (pI z 56 13 0) 56 0 (gI (pI z 56 13 0) 56 20)) 0
def fM_house_L80 : Nat → MS → Option (Int32 × MS)
  | 0, _ => none
  | n + 1, z => if (gI z 56 19) = 0 then fM_house_J101 z else (if (gI z 56 14) = 0 then fM_house_J101 z else Option.bind (fM_wantClause z) (fun zc95 => fM_house_L80 n zc95))
def fM_house_L57 : Nat → MS → Int32 → Option (Int32 × MS)
  | 0, _, _ => none
  | n + 1, z, l1 => if 64 ≤ l1 then Option.bind (fM_advance z) (fun zc77 => fM_house_L80 LF zc77) else (if l1 < 0 ∨ 64 ≤ l1.toNatClampNeg then none else fM_house_L57 n (pI z 68 l1.toNatClampNeg 0) (l1 + 1))
def fM_house_L17 : Nat → MS → Int32 → Option (Int32 × MS)
  | 0, _, _ => none
  | n + 1, z, l1 => if 8 ≤ l1 then fM_house_L57 LF z 0 else (if l1 < 0 ∨ 8 ≤ l1.toNatClampNeg then none else if l1 < 0 ∨ 8 ≤ l1.toNatClampNeg then none else if l1 < 0 ∨ 8 ≤ l1.toNatClampNeg then none else if l1 < 0 ∨ 8 ≤ l1.toNatClampNeg then none else fM_house_L17 n (pI (pI (pI z 66 l1.toNatClampNeg 0) 67 l1.toNatClampNeg 0) 69 l1.toNatClampNeg (gI (pI (pI z 66 l1.toNatClampNeg 0) 67 l1.toNatClampNeg 0) 62 l1.toNatClampNeg)) (l1 + 1))
def fM_house (z : MS) : Option (Int32 × MS) :=
  fM_house_L17 LF (pI (pI (pI z 56 16 0) 56 19 1) 56 20 0) 0
set_option maxRecDepth 4000 in
theorem cM_house (l : Launch) {z : MS} {r : Int32} {z1 : MS} (h : fM_house z = some (r, z1)) : CT l yX10_house cX10_house 2 (some .int) 6 132 (fun ad sd => [.ref (ad 56)]) z (some (.int r)) z1 := by
  rw [fM_house] at h
  refine u_start RX10 rfl (by decide) (fun _ _ => Nat.le_of_ble_eq_true rfl) (fun p e s m args below meth c R D ad cs sd A Q ls X hP hS hl hr hret => ?_)
  have hl : lv_has ls 2 [(0, .ref (ad 56))] := hl
  refine u_aload_n X hl dX10_house_0 0 rfl ?_
  refine u_iconst (v := 0) X dX10_house_1 rfl ?_
  refine pf_X10_118_56 X hP hS dX10_house_2 (fun H locs hP hS => ?_)
  refine u_aload_n X hl dX10_house_5 0 rfl ?_
  refine u_iconst (v := 1) X dX10_house_6 rfl ?_
  refine pf_X10_170_56 X hP hS (Or.inr rfl) dX10_house_7 (fun H locs hP hS => ?_)
  refine u_aload_n X hl dX10_house_10 0 rfl ?_
  refine u_iconst (v := 0) X dX10_house_11 rfl ?_
  refine pf_X10_180_56 X hP hS dX10_house_12 (fun H locs hP hS => ?_)
  refine u_iconst (v := 0) X dX10_house_15 rfl ?_
  refine u_istore_n [(1, .int 0), (0, .ref (ad 56))] X hl dX10_house_16 (Nat.le_of_ble_eq_true rfl) rfl (fun ls hl => ?_)
  have L17 : ∀ (n : Nat) (H : Heap) (locs : List Loc) (ls : Array Slot) (z_17 : MS) (l1_17 : Int32), lv_has ls 2 [(0, .ref (ad 56)), (1, .int l1_17)] → va_P D clss (wld cs ad z_17) H → va_S A s.heap H locs → fM_house_L17 n z_17 l1_17 = some (r, z1) → W p l e R s m args below meth c H locs 0 0 Q (F0 m 17 ls []) := by
    intro n
    induction n with
    | zero =>
      intro H locs ls z_17 l1_17 hl hP hS h
      rw [fM_house_L17] at h
      cases h
    | succ n17 ih17 =>
      intro H locs ls z_17 l1_17 hl hP hS h
      rw [fM_house_L17] at h
      refine u_iload_n X hl dX10_house_17 1 rfl ?_
      refine u_bipush (v := 8) X dX10_house_18 rfl ?_
      refine u_icmp_ge 55 X dX10_house_20 rfl (fun hc => ?_) (fun hc => ?_)
      · rw [if_pos hc] at h
        refine u_iconst (v := 0) X dX10_house_55 rfl ?_
        refine u_istore_n [(1, .int 0), (0, .ref (ad 56))] X hl dX10_house_56 (Nat.le_of_ble_eq_true rfl) rfl (fun ls hl => ?_)
        have L57 : ∀ (n : Nat) (H : Heap) (locs : List Loc) (ls : Array Slot) (z_57 : MS) (l1_57 : Int32), lv_has ls 2 [(0, .ref (ad 56)), (1, .int l1_57)] → va_P D clss (wld cs ad z_57) H → va_S A s.heap H locs → fM_house_L57 n z_57 l1_57 = some (r, z1) → W p l e R s m args below meth c H locs 0 0 Q (F0 m 57 ls []) := by
          intro n
          induction n with
          | zero =>
            intro H locs ls z_57 l1_57 hl hP hS h
            rw [fM_house_L57] at h
            cases h
          | succ n57 ih57 =>
            intro H locs ls z_57 l1_57 hl hP hS h
            rw [fM_house_L57] at h
            refine u_iload_n X hl dX10_house_57 1 rfl ?_
            refine u_bipush (v := 64) X dX10_house_58 rfl ?_
            refine u_icmp_ge 76 X dX10_house_60 rfl (fun hc => ?_) (fun hc => ?_)
            · rw [if_pos hc] at h
              refine u_aload_n X hl dX10_house_76 0 rfl ?_
              obtain ⟨zc77, hc77, h⟩ := ob_inv h
              refine u_callVv X hP hS hl dX10_house_77 (cM_advance l hc77) cw_X10_174 io_56 rfl rfl rfl rfl ⟨rfl, rfl⟩ (fun H locs hP hS => ?_)
              have L80 : ∀ (n : Nat) (H : Heap) (locs : List Loc) (ls : Array Slot) (z_80 : MS), lv_has ls 2 [(0, .ref (ad 56))] → va_P D clss (wld cs ad z_80) H → va_S A s.heap H locs → fM_house_L80 n z_80 = some (r, z1) → W p l e R s m args below meth c H locs 0 0 Q (F0 m 80 ls []) := by
                intro n
                induction n with
                | zero =>
                  intro H locs ls z_80 hl hP hS h
                  rw [fM_house_L80] at h
                  cases h
                | succ n80 ih80 =>
                  intro H locs ls z_80 hl hP hS h
                  rw [fM_house_L80] at h
                  refine u_aload_n X hl dX10_house_80 0 rfl ?_
                  refine gf_X10_170_56 X hP dX10_house_81 ?_
                  have J101 : ∀ (H : Heap) (locs : List Loc) (ls : Array Slot), lv_has ls 2 [(0, .ref (ad 56))] → va_P D clss (wld cs ad z_80) H → va_S A s.heap H locs → fM_house_J101 z_80 = some (r, z1) → W p l e R s m args below meth c H locs 0 0 Q (F0 m 101 ls []) := by
                    intro H locs ls hl hP hS h
                    rw [fM_house_J101] at h
                    refine u_aload_n X hl dX10_house_101 0 rfl ?_
                    refine u_iconst (v := 0) X dX10_house_102 rfl ?_
                    refine pf_X10_113_56 X hP hS dX10_house_103 (fun H locs hP hS => ?_)
                    refine u_aload_n X hl dX10_house_106 0 rfl ?_
                    refine gf_X10_170_56 X hP dX10_house_107 ?_
                    refine u_if_ne 121 X dX10_house_110 rfl (fun hc => ?_) (fun hc => ?_)
                    · rw [if_neg hc] at h
                      refine u_aload_n X hl dX10_house_121 0 rfl ?_
                      refine u_aload_n X hl dX10_house_122 0 rfl ?_
                      refine gf_X10_180_56 X hP dX10_house_123 ?_
                      refine pf_X10_102_56 X hP hS dX10_house_126 (fun H locs hP hS => ?_)
                      refine u_iconst (v := 0) X dX10_house_129 rfl ?_
                      refine u_istore_n [(1, .int 0), (0, .ref (ad 56))] X hl dX10_house_130 (Nat.le_of_ble_eq_true rfl) rfl (fun ls hl => ?_)
                      have L131 : ∀ (n : Nat) (H : Heap) (locs : List Loc) (ls : Array Slot) (z_131 : MS) (l1_131 : Int32), lv_has ls 2 [(0, .ref (ad 56)), (1, .int l1_131)] → va_P D clss (wld cs ad z_131) H → va_S A s.heap H locs → fM_house_L131 n z_131 l1_131 = some (r, z1) → W p l e R s m args below meth c H locs 0 0 Q (F0 m 131 ls []) := by
                        intro n
                        induction n with
                        | zero =>
                          intro H locs ls z_131 l1_131 hl hP hS h
                          rw [fM_house_L131] at h
                          cases h
                        | succ n131 ih131 =>
                          intro H locs ls z_131 l1_131 hl hP hS h
                          rw [fM_house_L131] at h
                          refine u_iload_n X hl dX10_house_131 1 rfl ?_
                          refine u_bipush (v := 8) X dX10_house_132 rfl ?_
                          refine u_icmp_ge 179 X dX10_house_134 rfl (fun hc => ?_) (fun hc => ?_)
                          · rw [if_pos hc] at h
                            refine u_iconst (v := 0) X dX10_house_179 rfl ?_
                            refine u_istore_n [(1, .int 0), (0, .ref (ad 56))] X hl dX10_house_180 (Nat.le_of_ble_eq_true rfl) rfl (fun ls hl => ?_)
                            have L181 : ∀ (n : Nat) (H : Heap) (locs : List Loc) (ls : Array Slot) (z_181 : MS) (l1_181 : Int32), lv_has ls 2 [(0, .ref (ad 56)), (1, .int l1_181)] → va_P D clss (wld cs ad z_181) H → va_S A s.heap H locs → fM_house_L181 n z_181 l1_181 = some (r, z1) → W p l e R s m args below meth c H locs 0 0 Q (F0 m 181 ls []) := by
                              intro n
                              induction n with
                              | zero =>
                                intro H locs ls z_181 l1_181 hl hP hS h
                                rw [fM_house_L181] at h
                                cases h
                              | succ n181 ih181 =>
                                intro H locs ls z_181 l1_181 hl hP hS h
                                rw [fM_house_L181] at h
                                refine u_iload_n X hl dX10_house_181 1 rfl ?_
                                refine u_bipush (v := 64) X dX10_house_182 rfl ?_
                                refine u_icmp_ge 205 X dX10_house_184 rfl (fun hc => ?_) (fun hc => ?_)
                                · rw [if_pos hc] at h
                                  refine u_iconst (v := 0) X dX10_house_205 rfl ?_
                                  refine u_istore_n [(1, .int 0), (0, .ref (ad 56))] X hl dX10_house_206 (Nat.le_of_ble_eq_true rfl) rfl (fun ls hl => ?_)
                                  have L207 : ∀ (n : Nat) (H : Heap) (locs : List Loc) (ls : Array Slot) (z_207 : MS) (l1_207 : Int32), lv_has ls 2 [(0, .ref (ad 56)), (1, .int l1_207)] → va_P D clss (wld cs ad z_207) H → va_S A s.heap H locs → fM_house_L207 n z_207 l1_207 = some (r, z1) → W p l e R s m args below meth c H locs 0 0 Q (F0 m 207 ls []) := by
                                    intro n
                                    induction n with
                                    | zero =>
                                      intro H locs ls z_207 l1_207 hl hP hS h
                                      rw [fM_house_L207] at h
                                      cases h
                                    | succ n207 ih207 =>
                                      intro H locs ls z_207 l1_207 hl hP hS h
                                      rw [fM_house_L207] at h
                                      refine u_iload_n X hl dX10_house_207 1 rfl ?_
                                      refine u_bipush (v := 40) X dX10_house_208 rfl ?_
                                      refine u_icmp_ge 226 X dX10_house_210 rfl (fun hc => ?_) (fun hc => ?_)
                                      · rw [if_pos hc] at h
                                        refine u_iconst (v := 0) X dX10_house_226 rfl ?_
                                        refine u_istore_n [(1, .int 0), (0, .ref (ad 56))] X hl dX10_house_227 (Nat.le_of_ble_eq_true rfl) rfl (fun ls hl => ?_)
                                        have L228 : ∀ (n : Nat) (H : Heap) (locs : List Loc) (ls : Array Slot) (z_228 : MS) (l1_228 : Int32), lv_has ls 2 [(0, .ref (ad 56)), (1, .int l1_228)] → va_P D clss (wld cs ad z_228) H → va_S A s.heap H locs → fM_house_L228 n z_228 l1_228 = some (r, z1) → W p l e R s m args below meth c H locs 0 0 Q (F0 m 228 ls []) := by
                                          intro n
                                          induction n with
                                          | zero =>
                                            intro H locs ls z_228 l1_228 hl hP hS h
                                            rw [fM_house_L228] at h
                                            cases h
                                          | succ n228 ih228 =>
                                            intro H locs ls z_228 l1_228 hl hP hS h
                                            rw [fM_house_L228] at h
                                            refine u_iload_n X hl dX10_house_228 1 rfl ?_
                                            refine u_bipush (v := 10) X dX10_house_229 rfl ?_
                                            refine u_icmp_ge 247 X dX10_house_231 rfl (fun hc => ?_) (fun hc => ?_)
                                            · rw [if_pos hc] at h
                                              refine u_aload_n X hl dX10_house_247 0 rfl ?_
                                              refine u_iconst (v := 0) X dX10_house_248 rfl ?_
                                              refine pf_X10_220_56 X hP hS dX10_house_249 (fun H locs hP hS => ?_)
                                              refine u_aload_n X hl dX10_house_252 0 rfl ?_
                                              refine u_iconst (v := 0) X dX10_house_253 rfl ?_
                                              refine pf_X10_223_56 X hP hS dX10_house_254 (fun H locs hP hS => ?_)
                                              refine u_aload_n X hl dX10_house_257 0 rfl ?_
                                              refine gf_X10_102_56 X hP dX10_house_258 ?_
                                              exact u_iretM X hr hret h hP hS dX10_house_261
                                            · rw [if_neg hc] at h
                                              refine u_aload_n X hl dX10_house_234 0 rfl ?_
                                              refine gf_X10_22_56 X hP dX10_house_235 ?_
                                              refine u_iload_n X hl dX10_house_238 1 rfl ?_
                                              refine u_iconst (v := 0) X dX10_house_239 rfl ?_
                                              obtain ⟨hin, h⟩ := ifn_inv h
                                              refine as_61 X hP hS rfl hin dX10_house_240 (fun H locs hP hS => ?_)
                                              refine u_iinc [(1, .int (l1_228 + 1)), (0, .ref (ad 56))] X hl dX10_house_241 1 rfl rfl (Nat.le_of_ble_eq_true rfl) rfl (fun ls hl => ?_)
                                              refine u_goto 228 X dX10_house_244 rfl ?_
                                              exact ih228 _ _ _ _ _ (lv_sub hl [1, 0] rfl) hP hS h
                                        exact L228 LF _ _ _ _ _ (lv_sub hl [1, 0] rfl) hP hS h
                                      · rw [if_neg hc] at h
                                        refine u_aload_n X hl dX10_house_213 0 rfl ?_
                                        refine gf_X10_19_56 X hP dX10_house_214 ?_
                                        refine u_iload_n X hl dX10_house_217 1 rfl ?_
                                        refine u_iconst (v := (-1)) X dX10_house_218 rfl ?_
                                        obtain ⟨hin, h⟩ := ifn_inv h
                                        refine as_60 X hP hS rfl hin dX10_house_219 (fun H locs hP hS => ?_)
                                        refine u_iinc [(1, .int (l1_207 + 1)), (0, .ref (ad 56))] X hl dX10_house_220 1 rfl rfl (Nat.le_of_ble_eq_true rfl) rfl (fun ls hl => ?_)
                                        refine u_goto 207 X dX10_house_223 rfl ?_
                                        exact ih207 _ _ _ _ _ (lv_sub hl [1, 0] rfl) hP hS h
                                  exact L207 LF _ _ _ _ _ (lv_sub hl [1, 0] rfl) hP hS h
                                · rw [if_neg hc] at h
                                  refine u_aload_n X hl dX10_house_187 0 rfl ?_
                                  refine gf_X10_16_56 X hP dX10_house_188 ?_
                                  refine u_iload_n X hl dX10_house_191 1 rfl ?_
                                  refine u_aload_n X hl dX10_house_192 0 rfl ?_
                                  refine gf_X10_47_56 X hP dX10_house_193 ?_
                                  refine u_iload_n X hl dX10_house_196 1 rfl ?_
                                  obtain ⟨hin, h⟩ := ifn_inv h
                                  refine ld_68 X hP rfl hin dX10_house_197 ?_
                                  obtain ⟨hin, h⟩ := ifn_inv h
                                  refine as_59 X hP hS rfl hin dX10_house_198 (fun H locs hP hS => ?_)
                                  refine u_iinc [(1, .int (l1_181 + 1)), (0, .ref (ad 56))] X hl dX10_house_199 1 rfl rfl (Nat.le_of_ble_eq_true rfl) rfl (fun ls hl => ?_)
                                  refine u_goto 181 X dX10_house_202 rfl ?_
                                  exact ih181 _ _ _ _ _ (lv_sub hl [1, 0] rfl) hP hS h
                            exact L181 LF _ _ _ _ _ (lv_sub hl [1, 0] rfl) hP hS h
                          · rw [if_neg hc] at h
                            refine u_aload_n X hl dX10_house_137 0 rfl ?_
                            refine gf_X10_7_56 X hP dX10_house_138 ?_
                            refine u_iload_n X hl dX10_house_141 1 rfl ?_
                            refine u_aload_n X hl dX10_house_142 0 rfl ?_
                            refine gf_X10_41_56 X hP dX10_house_143 ?_
                            refine u_iload_n X hl dX10_house_146 1 rfl ?_
                            obtain ⟨hin, h⟩ := ifn_inv h
                            refine ld_66 X hP rfl hin dX10_house_147 ?_
                            obtain ⟨hin, h⟩ := ifn_inv h
                            refine as_57 X hP hS rfl hin dX10_house_148 (fun H locs hP hS => ?_)
                            refine u_aload_n X hl dX10_house_149 0 rfl ?_
                            refine gf_X10_13_56 X hP dX10_house_150 ?_
                            refine u_iload_n X hl dX10_house_153 1 rfl ?_
                            refine u_aload_n X hl dX10_house_154 0 rfl ?_
                            refine gf_X10_44_56 X hP dX10_house_155 ?_
                            refine u_iload_n X hl dX10_house_158 1 rfl ?_
                            obtain ⟨hin, h⟩ := ifn_inv h
                            refine ld_67 X hP rfl hin dX10_house_159 ?_
                            obtain ⟨hin, h⟩ := ifn_inv h
                            refine as_58 X hP hS rfl hin dX10_house_160 (fun H locs hP hS => ?_)
                            refine u_aload_n X hl dX10_house_161 0 rfl ?_
                            refine gf_X10_25_56 X hP dX10_house_162 ?_
                            refine u_iload_n X hl dX10_house_165 1 rfl ?_
                            refine u_aload_n X hl dX10_house_166 0 rfl ?_
                            refine gf_X10_50_56 X hP dX10_house_167 ?_
                            refine u_iload_n X hl dX10_house_170 1 rfl ?_
                            obtain ⟨hin, h⟩ := ifn_inv h
                            refine ld_69 X hP rfl hin dX10_house_171 ?_
                            obtain ⟨hin, h⟩ := ifn_inv h
                            refine as_62 X hP hS rfl hin dX10_house_172 (fun H locs hP hS => ?_)
                            refine u_iinc [(1, .int (l1_131 + 1)), (0, .ref (ad 56))] X hl dX10_house_173 1 rfl rfl (Nat.le_of_ble_eq_true rfl) rfl (fun ls hl => ?_)
                            refine u_goto 131 X dX10_house_176 rfl ?_
                            exact ih131 _ _ _ _ _ (lv_sub hl [1, 0] rfl) hP hS h
                      exact L131 LF _ _ _ _ _ (lv_sub hl [1, 0] rfl) hP hS h
                    · rw [if_pos hc] at h
                      refine u_bipush (v := (-100)) X dX10_house_113 rfl ?_
                      refine u_aload_n X hl dX10_house_115 0 rfl ?_
                      refine gf_X10_121_56 X hP dX10_house_116 ?_
                      refine u_isub X dX10_house_119 ?_
                      exact u_iretM X hr hret h hP hS dX10_house_120
                  refine u_if_eq 101 X dX10_house_84 rfl (fun hc => ?_) (fun hc => ?_)
                  · rw [if_pos hc] at h
                    exact J101 _ _ _ hl hP hS h
                  · rw [if_neg hc] at h
                    refine u_aload_n X hl dX10_house_87 0 rfl ?_
                    refine gf_X10_134_56 X hP dX10_house_88 ?_
                    refine u_if_eq 101 X dX10_house_91 rfl (fun hc => ?_) (fun hc => ?_)
                    · rw [if_pos hc] at h
                      exact J101 _ _ _ hl hP hS h
                    · rw [if_neg hc] at h
                      refine u_aload_n X hl dX10_house_94 0 rfl ?_
                      obtain ⟨zc95, hc95, h⟩ := ob_inv h
                      refine u_callVv X hP hS hl dX10_house_95 (cM_wantClause l hc95) cw_X10_217 io_56 rfl rfl rfl rfl ⟨rfl, rfl⟩ (fun H locs hP hS => ?_)
                      refine u_goto 80 X dX10_house_98 rfl ?_
                      exact ih80 _ _ _ _ hl hP hS h
              exact L80 LF _ _ _ _ (lv_sub hl [0] rfl) hP hS h
            · rw [if_neg hc] at h
              refine u_aload_n X hl dX10_house_63 0 rfl ?_
              refine gf_X10_47_56 X hP dX10_house_64 ?_
              refine u_iload_n X hl dX10_house_67 1 rfl ?_
              refine u_iconst (v := 0) X dX10_house_68 rfl ?_
              obtain ⟨hin, h⟩ := ifn_inv h
              refine as_68 X hP hS rfl hin dX10_house_69 (fun H locs hP hS => ?_)
              refine u_iinc [(1, .int (l1_57 + 1)), (0, .ref (ad 56))] X hl dX10_house_70 1 rfl rfl (Nat.le_of_ble_eq_true rfl) rfl (fun ls hl => ?_)
              refine u_goto 57 X dX10_house_73 rfl ?_
              exact ih57 _ _ _ _ _ (lv_sub hl [1, 0] rfl) hP hS h
        exact L57 LF _ _ _ _ _ (lv_sub hl [1, 0] rfl) hP hS h
      · rw [if_neg hc] at h
        refine u_aload_n X hl dX10_house_23 0 rfl ?_
        refine gf_X10_41_56 X hP dX10_house_24 ?_
        refine u_iload_n X hl dX10_house_27 1 rfl ?_
        refine u_iconst (v := 0) X dX10_house_28 rfl ?_
        obtain ⟨hin, h⟩ := ifn_inv h
        refine as_66 X hP hS rfl hin dX10_house_29 (fun H locs hP hS => ?_)
        refine u_aload_n X hl dX10_house_30 0 rfl ?_
        refine gf_X10_44_56 X hP dX10_house_31 ?_
        refine u_iload_n X hl dX10_house_34 1 rfl ?_
        refine u_iconst (v := 0) X dX10_house_35 rfl ?_
        obtain ⟨hin, h⟩ := ifn_inv h
        refine as_67 X hP hS rfl hin dX10_house_36 (fun H locs hP hS => ?_)
        refine u_aload_n X hl dX10_house_37 0 rfl ?_
        refine gf_X10_50_56 X hP dX10_house_38 ?_
        refine u_iload_n X hl dX10_house_41 1 rfl ?_
        refine u_aload_n X hl dX10_house_42 0 rfl ?_
        refine gf_X10_25_56 X hP dX10_house_43 ?_
        refine u_iload_n X hl dX10_house_46 1 rfl ?_
        obtain ⟨hin, h⟩ := ifn_inv h
        refine ld_62 X hP rfl hin dX10_house_47 ?_
        obtain ⟨hin, h⟩ := ifn_inv h
        refine as_69 X hP hS rfl hin dX10_house_48 (fun H locs hP hS => ?_)
        refine u_iinc [(1, .int (l1_17 + 1)), (0, .ref (ad 56))] X hl dX10_house_49 1 rfl rfl (Nat.le_of_ble_eq_true rfl) rfl (fun ls hl => ?_)
        refine u_goto 17 X dX10_house_52 rfl ?_
        exact ih17 _ _ _ _ _ (lv_sub hl [1, 0] rfl) hP hS h
  exact L17 LF _ _ _ _ _ (lv_sub hl [1, 0] rfl) hP hS h
def fM_person_L14 : Nat → MS → Int32 → Option (Int32 × MS)
  | 0, _, _ => none
  | n + 1, z, l1 => if 8 ≤ l1 then (if (gI z 56 0) < 0 ∨ 8 ≤ (gI z 56 0).toNatClampNeg then none else if (gI (pI z 57 (gI z 56 0).toNatClampNeg 0) 56 0) < 0 ∨ 8 ≤ (gI (pI z 57 (gI z 56 0).toNatClampNeg 0) 56 0).toNatClampNeg then none else some ((gI (pI (pI (pI z 57 (gI z 56 0).toNatClampNeg 0) 58 (gI (pI z 57 (gI z 56 0).toNatClampNeg 0) 56 0).toNatClampNeg 0) 56 0 ((gI (pI (pI z 57 (gI z 56 0).toNatClampNeg 0) 58 (gI (pI z 57 (gI z 56 0).toNatClampNeg 0) 56 0).toNatClampNeg 0) 56 0) + 1)) 56 0) - 1, pI (pI (pI z 57 (gI z 56 0).toNatClampNeg 0) 58 (gI (pI z 57 (gI z 56 0).toNatClampNeg 0) 56 0).toNatClampNeg 0) 56 0 ((gI (pI (pI z 57 (gI z 56 0).toNatClampNeg 0) 58 (gI (pI z 57 (gI z 56 0).toNatClampNeg 0) 56 0).toNatClampNeg 0) 56 0) + 1))) else (if ((8 * (gI z 56 0)) + l1) < 0 ∨ 64 ≤ ((8 * (gI z 56 0)) + l1).toNatClampNeg then none else if ((8 * l1) + (gI (pI z 59 ((8 * (gI z 56 0)) + l1).toNatClampNeg 0) 56 0)) < 0 ∨ 64 ≤ ((8 * l1) + (gI (pI z 59 ((8 * (gI z 56 0)) + l1).toNatClampNeg 0) 56 0)).toNatClampNeg then none else if l1 < 0 ∨ 8 ≤ l1.toNatClampNeg then none else if l1 < 0 ∨ 8 ≤ l1.toNatClampNeg then none else fM_person_L14 n (pI (pI (pI z 59 ((8 * (gI z 56 0)) + l1).toNatClampNeg 0) 59 ((8 * l1) + (gI (pI z 59 ((8 * (gI z 56 0)) + l1).toNatClampNeg 0) 56 0)).toNatClampNeg 0) 57 l1.toNatClampNeg ((gI (pI (pI z 59 ((8 * (gI z 56 0)) + l1).toNatClampNeg 0) 59 ((8 * l1) + (gI (pI z 59 ((8 * (gI z 56 0)) + l1).toNatClampNeg 0) 56 0)).toNatClampNeg 0) 57 l1.toNatClampNeg) &&& (((1 : Int32) <<< ((gI (pI (pI z 59 ((8 * (gI z 56 0)) + l1).toNatClampNeg 0) 59 ((8 * l1) + (gI (pI z 59 ((8 * (gI z 56 0)) + l1).toNatClampNeg 0) 56 0)).toNatClampNeg 0) 56 0) &&& 31)) ^^^ (-1)))) (l1 + 1))
def fM_person (z : MS) : Option (Int32 × MS) :=
  if (gI z 56 0) = 8 then some ((-2), z) else fM_person_L14 LF z 0
set_option maxRecDepth 4000 in
theorem cM_person (l : Launch) {z : MS} {r : Int32} {z1 : MS} (h : fM_person z = some (r, z1)) : CT l yX10_person cX10_person 2 (some .int) 0 0 (fun ad sd => [.ref (ad 56)]) z (some (.int r)) z1 := by
  rw [fM_person] at h
  refine u_start RX10 rfl (by decide) (fun _ _ => Nat.le_of_ble_eq_true rfl) (fun p e s m args below meth c R D ad cs sd A Q ls X hP hS hl hr hret => ?_)
  have hl : lv_has ls 2 [(0, .ref (ad 56))] := hl
  refine u_aload_n X hl dX10_person_0 0 rfl ?_
  refine gf_X10_102_56 X hP dX10_person_1 ?_
  refine u_bipush (v := 8) X dX10_person_4 rfl ?_
  refine u_icmp_ne 12 X dX10_person_6 rfl (fun hc => ?_) (fun hc => ?_)
  · rw [if_neg hc] at h
    refine u_iconst (v := 0) X dX10_person_12 rfl ?_
    refine u_istore_n [(1, .int 0), (0, .ref (ad 56))] X hl dX10_person_13 (Nat.le_of_ble_eq_true rfl) rfl (fun ls hl => ?_)
    have L14 : ∀ (n : Nat) (H : Heap) (locs : List Loc) (ls : Array Slot) (z_14 : MS) (l1_14 : Int32), lv_has ls 2 [(0, .ref (ad 56)), (1, .int l1_14)] → va_P D clss (wld cs ad z_14) H → va_S A s.heap H locs → fM_person_L14 n z_14 l1_14 = some (r, z1) → W p l e R s m args below meth c H locs 0 0 Q (F0 m 14 ls []) := by
      intro n
      induction n with
      | zero =>
        intro H locs ls z_14 l1_14 hl hP hS h
        rw [fM_person_L14] at h
        cases h
      | succ n14 ih14 =>
        intro H locs ls z_14 l1_14 hl hP hS h
        rw [fM_person_L14] at h
        refine u_iload_n X hl dX10_person_14 1 rfl ?_
        refine u_bipush (v := 8) X dX10_person_15 rfl ?_
        refine u_icmp_ge 73 X dX10_person_17 rfl (fun hc => ?_) (fun hc => ?_)
        · rw [if_pos hc] at h
          refine u_aload_n X hl dX10_person_73 0 rfl ?_
          refine gf_X10_7_56 X hP dX10_person_74 ?_
          refine u_aload_n X hl dX10_person_77 0 rfl ?_
          refine gf_X10_102_56 X hP dX10_person_78 ?_
          refine u_iconst (v := 0) X dX10_person_81 rfl ?_
          obtain ⟨hin, h⟩ := ifn_inv h
          refine as_57 X hP hS rfl hin dX10_person_82 (fun H locs hP hS => ?_)
          refine u_aload_n X hl dX10_person_83 0 rfl ?_
          refine gf_X10_13_56 X hP dX10_person_84 ?_
          refine u_aload_n X hl dX10_person_87 0 rfl ?_
          refine gf_X10_102_56 X hP dX10_person_88 ?_
          refine u_iconst (v := 0) X dX10_person_91 rfl ?_
          obtain ⟨hin, h⟩ := ifn_inv h
          refine as_58 X hP hS rfl hin dX10_person_92 (fun H locs hP hS => ?_)
          refine u_aload_n X hl dX10_person_93 0 rfl ?_
          refine u_dup X rfl dX10_person_94 ?_
          refine gf_X10_102_56 X hP dX10_person_95 ?_
          refine u_iconst (v := 1) X dX10_person_98 rfl ?_
          refine u_iadd X dX10_person_99 ?_
          refine pf_X10_102_56 X hP hS dX10_person_100 (fun H locs hP hS => ?_)
          refine u_aload_n X hl dX10_person_103 0 rfl ?_
          refine gf_X10_102_56 X hP dX10_person_104 ?_
          refine u_iconst (v := 1) X dX10_person_107 rfl ?_
          refine u_isub X dX10_person_108 ?_
          exact u_iretM X hr hret h hP hS dX10_person_109
        · rw [if_neg hc] at h
          refine u_aload_n X hl dX10_person_20 0 rfl ?_
          refine gf_X10_16_56 X hP dX10_person_21 ?_
          refine u_bipush (v := 8) X dX10_person_24 rfl ?_
          refine u_aload_n X hl dX10_person_26 0 rfl ?_
          refine gf_X10_102_56 X hP dX10_person_27 ?_
          refine u_imul X dX10_person_30 ?_
          refine u_iload_n X hl dX10_person_31 1 rfl ?_
          refine u_iadd X dX10_person_32 ?_
          refine u_iconst (v := 0) X dX10_person_33 rfl ?_
          obtain ⟨hin, h⟩ := ifn_inv h
          refine as_59 X hP hS rfl hin dX10_person_34 (fun H locs hP hS => ?_)
          refine u_aload_n X hl dX10_person_35 0 rfl ?_
          refine gf_X10_16_56 X hP dX10_person_36 ?_
          refine u_bipush (v := 8) X dX10_person_39 rfl ?_
          refine u_iload_n X hl dX10_person_41 1 rfl ?_
          refine u_imul X dX10_person_42 ?_
          refine u_aload_n X hl dX10_person_43 0 rfl ?_
          refine gf_X10_102_56 X hP dX10_person_44 ?_
          refine u_iadd X dX10_person_47 ?_
          refine u_iconst (v := 0) X dX10_person_48 rfl ?_
          obtain ⟨hin, h⟩ := ifn_inv h
          refine as_59 X hP hS rfl hin dX10_person_49 (fun H locs hP hS => ?_)
          refine u_aload_n X hl dX10_person_50 0 rfl ?_
          refine gf_X10_7_56 X hP dX10_person_51 ?_
          refine u_iload_n X hl dX10_person_54 1 rfl ?_
          refine u_dup2 X rfl rfl dX10_person_55 ?_
          obtain ⟨hin, h⟩ := ifn_inv h
          refine ld_57 X hP rfl hin dX10_person_56 ?_
          refine u_iconst (v := 1) X dX10_person_57 rfl ?_
          refine u_aload_n X hl dX10_person_58 0 rfl ?_
          refine gf_X10_102_56 X hP dX10_person_59 ?_
          refine u_ishl X dX10_person_62 ?_
          refine u_iconst (v := (-1)) X dX10_person_63 rfl ?_
          refine u_ixor X dX10_person_64 ?_
          refine u_iand X dX10_person_65 ?_
          obtain ⟨hin, h⟩ := ifn_inv h
          refine as_57 X hP hS rfl hin dX10_person_66 (fun H locs hP hS => ?_)
          refine u_iinc [(1, .int (l1_14 + 1)), (0, .ref (ad 56))] X hl dX10_person_67 1 rfl rfl (Nat.le_of_ble_eq_true rfl) rfl (fun ls hl => ?_)
          refine u_goto 14 X dX10_person_70 rfl ?_
          exact ih14 _ _ _ _ _ (lv_sub hl [1, 0] rfl) hP hS h
    exact L14 LF _ _ _ _ _ (lv_sub hl [1, 0] rfl) hP hS h
  · rw [if_pos hc] at h
    refine u_bipush (v := (-2)) X dX10_person_9 rfl ?_
    exact u_iretM X hr hret h hP hS dX10_person_11
def fM_kin (z : MS) (a0 : Int32) (a1 : Int32) (a2 : Int32) : Option (Int32 × MS) :=
  if (fM_areTwo z a0 a1) = 0 then some ((-1), z) else Option.bind (fM_areKin z a0 a1) (fun w14 => if w14 = a2 then some (0, z) else (if a0 < 0 ∨ 8 ≤ a0.toNatClampNeg then none else if a0 < 0 ∨ 8 ≤ a0.toNatClampNeg then none else if a1 < 0 ∨ 8 ≤ a1.toNatClampNeg then none else if a1 < 0 ∨ 8 ≤ a1.toNatClampNeg then none else some (1, pI (pI z 57 a0.toNatClampNeg ((gI z 57 a0.toNatClampNeg) ^^^ ((1 : Int32) <<< (a1 &&& 31)))) 57 a1.toNatClampNeg ((gI (pI z 57 a0.toNatClampNeg ((gI z 57 a0.toNatClampNeg) ^^^ ((1 : Int32) <<< (a1 &&& 31)))) 57 a1.toNatClampNeg) ^^^ ((1 : Int32) <<< (a0 &&& 31))))))
set_option maxRecDepth 4000 in
theorem cM_kin (l : Launch) {z : MS} {a0 : Int32} {a1 : Int32} {a2 : Int32} {r : Int32} {z1 : MS} (h : fM_kin z a0 a1 a2 = some (r, z1)) : CT l yX10_kin cX10_kin 4 (some .int) 3 65 (fun ad sd => [.ref (ad 56), .int a0, .int a1, .int a2]) z (some (.int r)) z1 := by
  rw [fM_kin] at h
  refine u_start RX10 rfl (by decide) (fun _ _ => Nat.le_of_ble_eq_true rfl) (fun p e s m args below meth c R D ad cs sd A Q ls X hP hS hl hr hret => ?_)
  have hl : lv_has ls 4 [(0, .ref (ad 56)), (1, .int a0), (2, .int a1), (3, .int a2)] := hl
  refine u_aload_n X hl dX10_kin_0 0 rfl ?_
  refine u_iload_n X hl dX10_kin_1 1 rfl ?_
  refine u_iload_n X hl dX10_kin_2 2 rfl ?_
  refine u_callVi X hP hS hl dX10_kin_3 (cM_areTwo l z a0 a1) cw_X10_226 io_56 rfl rfl rfl rfl ⟨rfl, rfl⟩ (fun H locs hP hS => ?_)
  refine u_if_ne 11 X dX10_kin_6 rfl (fun hc => ?_) (fun hc => ?_)
  · rw [if_neg hc] at h
    refine u_aload_n X hl dX10_kin_11 0 rfl ?_
    refine u_iload_n X hl dX10_kin_12 1 rfl ?_
    refine u_iload_n X hl dX10_kin_13 2 rfl ?_
    obtain ⟨w14, hc14, h⟩ := ob_inv h
    refine u_callVi X hP hS hl dX10_kin_14 (cM_areKin l hc14) cw_X10_230 io_56 rfl rfl rfl rfl ⟨rfl, rfl⟩ (fun H locs hP hS => ?_)
    refine u_iload_n X hl dX10_kin_17 3 rfl ?_
    refine u_icmp_ne 23 X dX10_kin_18 rfl (fun hc => ?_) (fun hc => ?_)
    · rw [if_neg hc] at h
      refine u_aload_n X hl dX10_kin_23 0 rfl ?_
      refine gf_X10_7_56 X hP dX10_kin_24 ?_
      refine u_iload_n X hl dX10_kin_27 1 rfl ?_
      refine u_dup2 X rfl rfl dX10_kin_28 ?_
      obtain ⟨hin, h⟩ := ifn_inv h
      refine ld_57 X hP rfl hin dX10_kin_29 ?_
      refine u_iconst (v := 1) X dX10_kin_30 rfl ?_
      refine u_iload_n X hl dX10_kin_31 2 rfl ?_
      refine u_ishl X dX10_kin_32 ?_
      refine u_ixor X dX10_kin_33 ?_
      obtain ⟨hin, h⟩ := ifn_inv h
      refine as_57 X hP hS rfl hin dX10_kin_34 (fun H locs hP hS => ?_)
      refine u_aload_n X hl dX10_kin_35 0 rfl ?_
      refine gf_X10_7_56 X hP dX10_kin_36 ?_
      refine u_iload_n X hl dX10_kin_39 2 rfl ?_
      refine u_dup2 X rfl rfl dX10_kin_40 ?_
      obtain ⟨hin, h⟩ := ifn_inv h
      refine ld_57 X hP rfl hin dX10_kin_41 ?_
      refine u_iconst (v := 1) X dX10_kin_42 rfl ?_
      refine u_iload_n X hl dX10_kin_43 1 rfl ?_
      refine u_ishl X dX10_kin_44 ?_
      refine u_ixor X dX10_kin_45 ?_
      obtain ⟨hin, h⟩ := ifn_inv h
      refine as_57 X hP hS rfl hin dX10_kin_46 (fun H locs hP hS => ?_)
      refine u_iconst (v := 1) X dX10_kin_47 rfl ?_
      exact u_iretM X hr hret h hP hS dX10_kin_48
    · rw [if_pos hc] at h
      refine u_iconst (v := 0) X dX10_kin_21 rfl ?_
      exact u_iretM X hr hret h hP hS dX10_kin_22
  · rw [if_pos hc] at h
    refine u_iconst (v := (-1)) X dX10_kin_9 rfl ?_
    exact u_iretM X hr hret h hP hS dX10_kin_10
def fM_trust (z : MS) (a0 : Int32) (a1 : Int32) (a2 : Int32) : Option (Int32 × MS) :=
  if (fM_areTwo z a0 a1) = 0 then some ((-1), z) else (if (fM_in a2 0 9) = 0 then some ((-1), z) else (if ((8 * a0) + a1) < 0 ∨ 64 ≤ ((8 * a0) + a1).toNatClampNeg then none else if ((8 * a0) + a1) < 0 ∨ 64 ≤ ((8 * a0) + a1).toNatClampNeg then none else if ((8 * a1) + a0) < 0 ∨ 64 ≤ ((8 * a1) + a0).toNatClampNeg then none else some (gI z 59 ((8 * a0) + a1).toNatClampNeg, pI (pI z 59 ((8 * a0) + a1).toNatClampNeg a2) 59 ((8 * a1) + a0).toNatClampNeg a2)))
set_option maxRecDepth 4000 in
theorem cM_trust (l : Launch) {z : MS} {a0 : Int32} {a1 : Int32} {a2 : Int32} {r : Int32} {z1 : MS} (h : fM_trust z a0 a1 a2 = some (r, z1)) : CT l yX10_trust cX10_trust 5 (some .int) 3 65 (fun ad sd => [.ref (ad 56), .int a0, .int a1, .int a2]) z (some (.int r)) z1 := by
  rw [fM_trust] at h
  refine u_start RX10 rfl (by decide) (fun _ _ => Nat.le_of_ble_eq_true rfl) (fun p e s m args below meth c R D ad cs sd A Q ls X hP hS hl hr hret => ?_)
  have hl : lv_has ls 5 [(0, .ref (ad 56)), (1, .int a0), (2, .int a1), (3, .int a2)] := hl
  refine u_aload_n X hl dX10_trust_0 0 rfl ?_
  refine u_iload_n X hl dX10_trust_1 1 rfl ?_
  refine u_iload_n X hl dX10_trust_2 2 rfl ?_
  refine u_callVi X hP hS hl dX10_trust_3 (cM_areTwo l z a0 a1) cw_X10_226 io_56 rfl rfl rfl rfl ⟨rfl, rfl⟩ (fun H locs hP hS => ?_)
  refine u_if_eq 19 X dX10_trust_6 rfl (fun hc => ?_) (fun hc => ?_)
  · rw [if_pos hc] at h
    refine u_iconst (v := (-1)) X dX10_trust_19 rfl ?_
    exact u_iretM X hr hret h hP hS dX10_trust_20
  · rw [if_neg hc] at h
    refine u_iload_n X hl dX10_trust_9 3 rfl ?_
    refine u_iconst (v := 0) X dX10_trust_10 rfl ?_
    refine u_bipush (v := 9) X dX10_trust_11 rfl ?_
    refine u_callSi X hP hS hl dX10_trust_13 (cM_in l z a2 0 9) cw_X10_105 rfl rfl rfl rfl ⟨rfl, rfl⟩ (fun H locs hP hS => ?_)
    refine u_if_ne 21 X dX10_trust_16 rfl (fun hc => ?_) (fun hc => ?_)
    · rw [if_neg hc] at h
      refine u_aload_n X hl dX10_trust_21 0 rfl ?_
      refine gf_X10_16_56 X hP dX10_trust_22 ?_
      refine u_bipush (v := 8) X dX10_trust_25 rfl ?_
      refine u_iload_n X hl dX10_trust_27 1 rfl ?_
      refine u_imul X dX10_trust_28 ?_
      refine u_iload_n X hl dX10_trust_29 2 rfl ?_
      refine u_iadd X dX10_trust_30 ?_
      obtain ⟨hin, h⟩ := ifn_inv h
      refine ld_59 X hP rfl hin dX10_trust_31 ?_
      refine u_istore [(4, .int (gI z 59 ((8 * a0) + a1).toNatClampNeg)), (0, .ref (ad 56)), (1, .int a0), (2, .int a1), (3, .int a2)] X hl dX10_trust_32 (Nat.le_of_ble_eq_true rfl) rfl (fun ls hl => ?_)
      refine u_aload_n X hl dX10_trust_34 1 rfl ?_
      refine gf_X10_16_56 X hP dX10_trust_35 ?_
      refine u_bipush (v := 8) X dX10_trust_38 rfl ?_
      refine u_iload_n X hl dX10_trust_40 2 rfl ?_
      refine u_imul X dX10_trust_41 ?_
      refine u_iload_n X hl dX10_trust_42 3 rfl ?_
      refine u_iadd X dX10_trust_43 ?_
      refine u_iload_n X hl dX10_trust_44 4 rfl ?_
      obtain ⟨hin, h⟩ := ifn_inv h
      refine as_59 X hP hS rfl hin dX10_trust_45 (fun H locs hP hS => ?_)
      refine u_aload_n X hl dX10_trust_46 1 rfl ?_
      refine gf_X10_16_56 X hP dX10_trust_47 ?_
      refine u_bipush (v := 8) X dX10_trust_50 rfl ?_
      refine u_iload_n X hl dX10_trust_52 3 rfl ?_
      refine u_imul X dX10_trust_53 ?_
      refine u_iload_n X hl dX10_trust_54 2 rfl ?_
      refine u_iadd X dX10_trust_55 ?_
      refine u_iload_n X hl dX10_trust_56 4 rfl ?_
      obtain ⟨hin, h⟩ := ifn_inv h
      refine as_59 X hP hS rfl hin dX10_trust_57 (fun H locs hP hS => ?_)
      refine u_iload X hl dX10_trust_58 0 rfl ?_
      exact u_iretM X hr hret h hP hS dX10_trust_60
    · rw [if_pos hc] at h
      refine u_iconst (v := (-1)) X dX10_trust_19 rfl ?_
      exact u_iretM X hr hret h hP hS dX10_trust_20
def fM_isDay (a0 : Int32) : Int32 :=
  fM_in a0 0 9
theorem fM_isDay_b (a0 : Int32) : fM_isDay a0 = 0 ∨ fM_isDay a0 = 1 := by
  unfold fM_isDay
  (repeat' split) <;> first | with_reducible exact Or.inl rfl | with_reducible exact Or.inr rfl | with_reducible exact fM_in_b _ _ _
set_option maxRecDepth 4000 in
theorem cM_isDay (l : Launch) (z : MS) (a0 : Int32) : CT l yX10_isDay cX10_isDay 1 (some .boolean) 1 22 (fun ad sd => [.int a0]) z (some (.int (fM_isDay a0))) z := by
  generalize h : fM_isDay a0 = r
  rw [fM_isDay] at h
  refine u_start RX10 rfl (by decide) (fun _ _ => Nat.le_of_ble_eq_true rfl) (fun p e s m args below meth c R D ad cs sd A Q ls X hP hS hl hr hret => ?_)
  have hl : lv_has ls 1 [(0, .int a0)] := hl
  refine u_iload_n X hl dX10_isDay_0 0 rfl ?_
  refine u_iconst (v := 0) X dX10_isDay_1 rfl ?_
  refine u_bipush (v := 9) X dX10_isDay_2 rfl ?_
  refine u_callSi X hP hS hl dX10_isDay_4 (cM_in l z a0 0 9) cw_X10_105 rfl rfl rfl rfl ⟨rfl, rfl⟩ (fun H locs hP hS => ?_)
  exact u_zretT X hr hret h hP hS (fM_in_b _ _ _) dX10_isDay_7
def fM_away (z : MS) (a0 : Int32) (a1 : Int32) (a2 : Int32) : Option (Int32 × MS) :=
  if (fM_isPerson z a0) = 0 then some ((-1), z) else (if (fM_isDay a1) = 0 then some ((-1), z) else Option.bind (fM_isAway z a0 a1) (fun w20 => if w20 = a2 then some (0, z) else (if a0 < 0 ∨ 8 ≤ a0.toNatClampNeg then none else if a0 < 0 ∨ 8 ≤ a0.toNatClampNeg then none else some (1, pI z 58 a0.toNatClampNeg ((gI z 58 a0.toNatClampNeg) ^^^ ((1 : Int32) <<< (a1 &&& 31)))))))
set_option maxRecDepth 4000 in
theorem cM_away (l : Launch) {z : MS} {a0 : Int32} {a1 : Int32} {a2 : Int32} {r : Int32} {z1 : MS} (h : fM_away z a0 a1 a2 = some (r, z1)) : CT l yX10_away cX10_away 4 (some .int) 2 43 (fun ad sd => [.ref (ad 56), .int a0, .int a1, .int a2]) z (some (.int r)) z1 := by
  rw [fM_away] at h
  refine u_start RX10 rfl (by decide) (fun _ _ => Nat.le_of_ble_eq_true rfl) (fun p e s m args below meth c R D ad cs sd A Q ls X hP hS hl hr hret => ?_)
  have hl : lv_has ls 4 [(0, .ref (ad 56)), (1, .int a0), (2, .int a1), (3, .int a2)] := hl
  refine u_aload_n X hl dX10_away_0 0 rfl ?_
  refine u_iload_n X hl dX10_away_1 1 rfl ?_
  refine u_callVi X hP hS hl dX10_away_2 (cM_isPerson l z a0) cw_X10_109 io_56 rfl rfl rfl rfl ⟨rfl, rfl⟩ (fun H locs hP hS => ?_)
  refine u_if_eq 15 X dX10_away_5 rfl (fun hc => ?_) (fun hc => ?_)
  · rw [if_pos hc] at h
    refine u_iconst (v := (-1)) X dX10_away_15 rfl ?_
    exact u_iretM X hr hret h hP hS dX10_away_16
  · rw [if_neg hc] at h
    refine u_iload_n X hl dX10_away_8 2 rfl ?_
    refine u_callSi X hP hS hl dX10_away_9 (cM_isDay l z a1) cw_X10_233 rfl rfl rfl rfl ⟨rfl, rfl⟩ (fun H locs hP hS => ?_)
    refine u_if_ne 17 X dX10_away_12 rfl (fun hc => ?_) (fun hc => ?_)
    · rw [if_neg hc] at h
      refine u_aload_n X hl dX10_away_17 0 rfl ?_
      refine u_iload_n X hl dX10_away_18 1 rfl ?_
      refine u_iload_n X hl dX10_away_19 2 rfl ?_
      obtain ⟨w20, hc20, h⟩ := ob_inv h
      refine u_callVi X hP hS hl dX10_away_20 (cM_isAway l hc20) cw_X10_236 io_56 rfl rfl rfl rfl ⟨rfl, rfl⟩ (fun H locs hP hS => ?_)
      refine u_iload_n X hl dX10_away_23 3 rfl ?_
      refine u_icmp_ne 29 X dX10_away_24 rfl (fun hc => ?_) (fun hc => ?_)
      · rw [if_neg hc] at h
        refine u_aload_n X hl dX10_away_29 0 rfl ?_
        refine gf_X10_13_56 X hP dX10_away_30 ?_
        refine u_iload_n X hl dX10_away_33 1 rfl ?_
        refine u_dup2 X rfl rfl dX10_away_34 ?_
        obtain ⟨hin, h⟩ := ifn_inv h
        refine ld_58 X hP rfl hin dX10_away_35 ?_
        refine u_iconst (v := 1) X dX10_away_36 rfl ?_
        refine u_iload_n X hl dX10_away_37 2 rfl ?_
        refine u_ishl X dX10_away_38 ?_
        refine u_ixor X dX10_away_39 ?_
        obtain ⟨hin, h⟩ := ifn_inv h
        refine as_58 X hP hS rfl hin dX10_away_40 (fun H locs hP hS => ?_)
        refine u_iconst (v := 1) X dX10_away_41 rfl ?_
        exact u_iretM X hr hret h hP hS dX10_away_42
      · rw [if_pos hc] at h
        refine u_iconst (v := 0) X dX10_away_27 rfl ?_
        exact u_iretM X hr hret h hP hS dX10_away_28
    · rw [if_pos hc] at h
      refine u_iconst (v := (-1)) X dX10_away_15 rfl ?_
      exact u_iretM X hr hret h hP hS dX10_away_16
def fM_isLaw (a0 : Int32) : Int32 :=
  fM_in a0 0 7
theorem fM_isLaw_b (a0 : Int32) : fM_isLaw a0 = 0 ∨ fM_isLaw a0 = 1 := by
  unfold fM_isLaw
  (repeat' split) <;> first | with_reducible exact Or.inl rfl | with_reducible exact Or.inr rfl | with_reducible exact fM_in_b _ _ _
set_option maxRecDepth 4000 in
theorem cM_isLaw (l : Launch) (z : MS) (a0 : Int32) : CT l yX10_isLaw cX10_isLaw 1 (some .boolean) 1 22 (fun ad sd => [.int a0]) z (some (.int (fM_isLaw a0))) z := by
  generalize h : fM_isLaw a0 = r
  rw [fM_isLaw] at h
  refine u_start RX10 rfl (by decide) (fun _ _ => Nat.le_of_ble_eq_true rfl) (fun p e s m args below meth c R D ad cs sd A Q ls X hP hS hl hr hret => ?_)
  have hl : lv_has ls 1 [(0, .int a0)] := hl
  refine u_iload_n X hl dX10_isLaw_0 0 rfl ?_
  refine u_iconst (v := 0) X dX10_isLaw_1 rfl ?_
  refine u_bipush (v := 7) X dX10_isLaw_2 rfl ?_
  refine u_callSi X hP hS hl dX10_isLaw_4 (cM_in l z a0 0 7) cw_X10_105 rfl rfl rfl rfl ⟨rfl, rfl⟩ (fun H locs hP hS => ?_)
  exact u_zretT X hr hret h hP hS (fM_in_b _ _ _) dX10_isLaw_7
def fM_set_J25 (z : MS) (l1 : Int32) (l2 : Int32) (s0 : Int32) (s1 : Int32) (s3 : Int32) : Option (Int32 × MS) :=
  if s3 < 0 ∨ 8 ≤ s3.toNatClampNeg then none else if (fM_in s0 s1 (gI z 63 s3.toNatClampNeg)) = 0 then some ((-1), z) else (if l1 < 0 ∨ 8 ≤ l1.toNatClampNeg then none else if l1 < 0 ∨ 8 ≤ l1.toNatClampNeg then none else some (gI z 62 l1.toNatClampNeg, pI z 62 l1.toNatClampNeg l2))
def fM_set (z : MS) (a0 : Int32) (a1 : Int32) : Option (Int32 × MS) :=
  if (fM_isLaw a0) = 0 then some ((-1), z) else (if (fM_isLaw a0) = 0 then fM_set_J25 z a0 a1 a1 0 0 else fM_set_J25 z a0 a1 a1 0 a0)
set_option maxRecDepth 4000 in
theorem cM_set (l : Launch) {z : MS} {a0 : Int32} {a1 : Int32} {r : Int32} {z1 : MS} (h : fM_set z a0 a1 = some (r, z1)) : CT l yX10_set cX10_set 4 (some .int) 2 42 (fun ad sd => [.ref (ad 56), .int a0, .int a1]) z (some (.int r)) z1 := by
  rw [fM_set] at h
  refine u_start RX10 rfl (by decide) (fun _ _ => Nat.le_of_ble_eq_true rfl) (fun p e s m args below meth c R D ad cs sd A Q ls X hP hS hl hr hret => ?_)
  have hl : lv_has ls 4 [(0, .ref (ad 56)), (1, .int a0), (2, .int a1)] := hl
  refine u_iload_n X hl dX10_set_0 1 rfl ?_
  refine u_callSi X hP hS hl dX10_set_1 (cM_isLaw l z a0) cw_X10_239 rfl rfl rfl rfl ⟨rfl, rfl⟩ (fun H locs hP hS => ?_)
  refine u_if_eq 32 X dX10_set_4 rfl (fun hc => ?_) (fun hc => ?_)
  · rw [if_pos hc] at h
    refine u_iconst (v := (-1)) X dX10_set_32 rfl ?_
    exact u_iretM X hr hret h hP hS dX10_set_33
  · rw [if_neg hc] at h
    refine u_iload_n X hl dX10_set_7 2 rfl ?_
    refine u_iconst (v := 0) X dX10_set_8 rfl ?_
    refine u_aload_n X hl dX10_set_9 0 rfl ?_
    refine gf_X10_28_56 X hP dX10_set_10 ?_
    refine u_iload_n X hl dX10_set_13 1 rfl ?_
    refine u_callSi X hP hS hl dX10_set_14 (cM_isLaw l z a0) cw_X10_239 rfl rfl rfl rfl ⟨rfl, rfl⟩ (fun H locs hP hS => ?_)
    have J25 : ∀ (H : Heap) (locs : List Loc) (ls : Array Slot) (s3_25 : Int32), lv_has ls 4 [(0, .ref (ad 56)), (1, .int a0), (2, .int a1)] → va_P D clss (wld cs ad z) H → va_S A s.heap H locs → fM_set_J25 z a0 a1 a1 0 s3_25 = some (r, z1) → W p l e R s m args below meth c H locs 0 0 Q (F0 m 25 ls [.int s3_25, .ref (ad 63), .int 0, .int a1]) := by
      intro H locs ls s3_25 hl hP hS h
      rw [fM_set_J25] at h
      obtain ⟨hin, h⟩ := ifn_inv h
      refine ld_63 X hP rfl hin dX10_set_25 ?_
      refine u_callSi X hP hS hl dX10_set_26 (cM_in l z a1 0 (gI z 63 s3_25.toNatClampNeg)) cw_X10_105 rfl rfl rfl rfl ⟨rfl, rfl⟩ (fun H locs hP hS => ?_)
      refine u_if_ne 34 X dX10_set_29 rfl (fun hc => ?_) (fun hc => ?_)
      · rw [if_neg hc] at h
        refine u_aload_n X hl dX10_set_34 0 rfl ?_
        refine gf_X10_25_56 X hP dX10_set_35 ?_
        refine u_iload_n X hl dX10_set_38 1 rfl ?_
        obtain ⟨hin, h⟩ := ifn_inv h
        refine ld_62 X hP rfl hin dX10_set_39 ?_
        refine u_istore_n [(3, .int (gI z 62 a0.toNatClampNeg)), (0, .ref (ad 56)), (1, .int a0), (2, .int a1)] X hl dX10_set_40 (Nat.le_of_ble_eq_true rfl) rfl (fun ls hl => ?_)
        refine u_aload_n X hl dX10_set_41 1 rfl ?_
        refine gf_X10_25_56 X hP dX10_set_42 ?_
        refine u_iload_n X hl dX10_set_45 2 rfl ?_
        refine u_iload_n X hl dX10_set_46 3 rfl ?_
        obtain ⟨hin, h⟩ := ifn_inv h
        refine as_62 X hP hS rfl hin dX10_set_47 (fun H locs hP hS => ?_)
        refine u_iload_n X hl dX10_set_48 0 rfl ?_
        exact u_iretM X hr hret h hP hS dX10_set_49
      · rw [if_pos hc] at h
        refine u_iconst (v := (-1)) X dX10_set_32 rfl ?_
        exact u_iretM X hr hret h hP hS dX10_set_33
    refine u_if_eq 24 X dX10_set_17 rfl (fun hc => ?_) (fun hc => ?_)
    · rw [if_pos hc] at h
      refine u_iconst (v := 0) X dX10_set_24 rfl ?_
      exact J25 _ _ _ _ hl hP hS h
    · rw [if_neg hc] at h
      refine u_iload_n X hl dX10_set_20 1 rfl ?_
      refine u_goto 25 X dX10_set_21 rfl ?_
      exact J25 _ _ _ _ hl hP hS h
def fM_law (z : MS) (a0 : Int32) : Option Int32 :=
  if (fM_isLaw a0) = 0 then some (-1) else (if a0 < 0 ∨ 8 ≤ a0.toNatClampNeg then none else some (gI z 62 a0.toNatClampNeg))
set_option maxRecDepth 4000 in
theorem cM_law (l : Launch) {z : MS} {a0 : Int32} {r : Int32} (h : fM_law z a0 = some r) : CT l yX10_law cX10_law 2 (some .int) 2 42 (fun ad sd => [.ref (ad 56), .int a0]) z (some (.int r)) z := by
  rw [fM_law] at h
  refine u_start RX10 rfl (by decide) (fun _ _ => Nat.le_of_ble_eq_true rfl) (fun p e s m args below meth c R D ad cs sd A Q ls X hP hS hl hr hret => ?_)
  have hl : lv_has ls 2 [(0, .ref (ad 56)), (1, .int a0)] := hl
  refine u_iload_n X hl dX10_law_0 1 rfl ?_
  refine u_callSi X hP hS hl dX10_law_1 (cM_isLaw l z a0) cw_X10_239 rfl rfl rfl rfl ⟨rfl, rfl⟩ (fun H locs hP hS => ?_)
  refine u_if_eq 16 X dX10_law_4 rfl (fun hc => ?_) (fun hc => ?_)
  · rw [if_pos hc] at h
    refine u_iconst (v := (-1)) X dX10_law_16 rfl ?_
    exact u_iretP X hr hret h hP hS dX10_law_17
  · rw [if_neg hc] at h
    refine u_aload_n X hl dX10_law_7 0 rfl ?_
    refine gf_X10_25_56 X hP dX10_law_8 ?_
    refine u_iload_n X hl dX10_law_11 1 rfl ?_
    obtain ⟨hin, h⟩ := ifn_inv h
    refine ld_62 X hP rfl hin dX10_law_12 ?_
    refine u_goto 17 X dX10_law_13 rfl ?_
    exact u_iretP X hr hret h hP hS dX10_law_17
def fM_isPost (a0 : Int32) : Int32 :=
  fM_in a0 0 3
theorem fM_isPost_b (a0 : Int32) : fM_isPost a0 = 0 ∨ fM_isPost a0 = 1 := by
  unfold fM_isPost
  (repeat' split) <;> first | with_reducible exact Or.inl rfl | with_reducible exact Or.inr rfl | with_reducible exact fM_in_b _ _ _
set_option maxRecDepth 4000 in
theorem cM_isPost (l : Launch) (z : MS) (a0 : Int32) : CT l yX10_isPost cX10_isPost 1 (some .boolean) 1 22 (fun ad sd => [.int a0]) z (some (.int (fM_isPost a0))) z := by
  generalize h : fM_isPost a0 = r
  rw [fM_isPost] at h
  refine u_start RX10 rfl (by decide) (fun _ _ => Nat.le_of_ble_eq_true rfl) (fun p e s m args below meth c R D ad cs sd A Q ls X hP hS hl hr hret => ?_)
  have hl : lv_has ls 1 [(0, .int a0)] := hl
  refine u_iload_n X hl dX10_isPost_0 0 rfl ?_
  refine u_iconst (v := 0) X dX10_isPost_1 rfl ?_
  refine u_iconst (v := 3) X dX10_isPost_2 rfl ?_
  refine u_callSi X hP hS hl dX10_isPost_3 (cM_in l z a0 0 3) cw_X10_105 rfl rfl rfl rfl ⟨rfl, rfl⟩ (fun H locs hP hS => ?_)
  exact u_zretT X hr hret h hP hS (fM_in_b _ _ _) dX10_isPost_6
def fM_orNobody (a0 : Int32) : Int32 :=
  if 0 ≤ a0 then a0 else (-9)
set_option maxRecDepth 4000 in
theorem cM_orNobody (l : Launch) (z : MS) (a0 : Int32) : CT l yX10_orNobody cX10_orNobody 1 (some .int) 0 0 (fun ad sd => [.int a0]) z (some (.int (fM_orNobody a0))) z := by
  generalize h : fM_orNobody a0 = r
  rw [fM_orNobody] at h
  refine u_start RX10 rfl (by decide) (fun _ _ => Nat.le_of_ble_eq_true rfl) (fun p e s m args below meth c R D ad cs sd A Q ls X hP hS hl hr hret => ?_)
  have hl : lv_has ls 1 [(0, .int a0)] := hl
  refine u_iload_n X hl dX10_orNobody_0 0 rfl ?_
  refine u_if_ge 9 X dX10_orNobody_1 rfl (fun hc => ?_) (fun hc => ?_)
  · rw [if_pos hc] at h
    refine u_iload_n X hl dX10_orNobody_9 0 rfl ?_
    exact u_iretT X hr hret h hP hS dX10_orNobody_10
  · rw [if_neg hc] at h
    refine u_bipush (v := (-9)) X dX10_orNobody_4 rfl ?_
    refine u_goto 10 X dX10_orNobody_6 rfl ?_
    exact u_iretT X hr hret h hP hS dX10_orNobody_10
def fM_post_J29 (z : MS) (l1 : Int32) (l2 : Int32) (l3 : Int32) : Option (Int32 × MS) :=
  if ((4 * l1) + l2) < 0 ∨ 40 ≤ ((4 * l1) + l2).toNatClampNeg then none else if ((4 * l1) + l2) < 0 ∨ 40 ≤ ((4 * l1) + l2).toNatClampNeg then none else some (fM_orNobody (gI z 60 ((4 * l1) + l2).toNatClampNeg), pI z 60 ((4 * l1) + l2).toNatClampNeg l3)
def fM_post (z : MS) (a0 : Int32) (a1 : Int32) (a2 : Int32) : Option (Int32 × MS) :=
  if (fM_isDay a0) = 0 then some ((-1), z) else (if (fM_isPost a1) = 0 then some ((-1), z) else (if a2 = (-1) then fM_post_J29 z a0 a1 a2 else (if (fM_isPerson z a2) = 0 then some ((-1), z) else fM_post_J29 z a0 a1 a2)))
set_option maxRecDepth 4000 in
theorem cM_post (l : Launch) {z : MS} {a0 : Int32} {a1 : Int32} {a2 : Int32} {r : Int32} {z1 : MS} (h : fM_post z a0 a1 a2 = some (r, z1)) : CT l yX10_post cX10_post 5 (some .int) 2 43 (fun ad sd => [.ref (ad 56), .int a0, .int a1, .int a2]) z (some (.int r)) z1 := by
  rw [fM_post] at h
  refine u_start RX10 rfl (by decide) (fun _ _ => Nat.le_of_ble_eq_true rfl) (fun p e s m args below meth c R D ad cs sd A Q ls X hP hS hl hr hret => ?_)
  have hl : lv_has ls 5 [(0, .ref (ad 56)), (1, .int a0), (2, .int a1), (3, .int a2)] := hl
  refine u_iload_n X hl dX10_post_0 1 rfl ?_
  refine u_callSi X hP hS hl dX10_post_1 (cM_isDay l z a0) cw_X10_233 rfl rfl rfl rfl ⟨rfl, rfl⟩ (fun H locs hP hS => ?_)
  refine u_if_eq 27 X dX10_post_4 rfl (fun hc => ?_) (fun hc => ?_)
  · rw [if_pos hc] at h
    refine u_iconst (v := (-1)) X dX10_post_27 rfl ?_
    exact u_iretM X hr hret h hP hS dX10_post_28
  · rw [if_neg hc] at h
    refine u_iload_n X hl dX10_post_7 2 rfl ?_
    refine u_callSi X hP hS hl dX10_post_8 (cM_isPost l z a1) cw_X10_242 rfl rfl rfl rfl ⟨rfl, rfl⟩ (fun H locs hP hS => ?_)
    refine u_if_eq 27 X dX10_post_11 rfl (fun hc => ?_) (fun hc => ?_)
    · rw [if_pos hc] at h
      refine u_iconst (v := (-1)) X dX10_post_27 rfl ?_
      exact u_iretM X hr hret h hP hS dX10_post_28
    · rw [if_neg hc] at h
      refine u_iload_n X hl dX10_post_14 3 rfl ?_
      refine u_iconst (v := (-1)) X dX10_post_15 rfl ?_
      have J29 : ∀ (H : Heap) (locs : List Loc) (ls : Array Slot), lv_has ls 5 [(0, .ref (ad 56)), (1, .int a0), (2, .int a1), (3, .int a2)] → va_P D clss (wld cs ad z) H → va_S A s.heap H locs → fM_post_J29 z a0 a1 a2 = some (r, z1) → W p l e R s m args below meth c H locs 0 0 Q (F0 m 29 ls []) := by
        intro H locs ls hl hP hS h
        rw [fM_post_J29] at h
        refine u_aload_n X hl dX10_post_29 0 rfl ?_
        refine gf_X10_19_56 X hP dX10_post_30 ?_
        refine u_iconst (v := 4) X dX10_post_33 rfl ?_
        refine u_iload_n X hl dX10_post_34 1 rfl ?_
        refine u_imul X dX10_post_35 ?_
        refine u_iload_n X hl dX10_post_36 2 rfl ?_
        refine u_iadd X dX10_post_37 ?_
        obtain ⟨hin, h⟩ := ifn_inv h
        refine ld_60 X hP rfl hin dX10_post_38 ?_
        refine u_istore [(4, .int (gI z 60 ((4 * a0) + a1).toNatClampNeg)), (0, .ref (ad 56)), (1, .int a0), (2, .int a1), (3, .int a2)] X hl dX10_post_39 (Nat.le_of_ble_eq_true rfl) rfl (fun ls hl => ?_)
        refine u_aload_n X hl dX10_post_41 1 rfl ?_
        refine gf_X10_19_56 X hP dX10_post_42 ?_
        refine u_iconst (v := 4) X dX10_post_45 rfl ?_
        refine u_iload_n X hl dX10_post_46 2 rfl ?_
        refine u_imul X dX10_post_47 ?_
        refine u_iload_n X hl dX10_post_48 3 rfl ?_
        refine u_iadd X dX10_post_49 ?_
        refine u_iload_n X hl dX10_post_50 4 rfl ?_
        obtain ⟨hin, h⟩ := ifn_inv h
        refine as_60 X hP hS rfl hin dX10_post_51 (fun H locs hP hS => ?_)
        refine u_iload X hl dX10_post_52 0 rfl ?_
        refine u_callSi X hP hS hl dX10_post_54 (cM_orNobody l (pI z 60 ((4 * a0) + a1).toNatClampNeg a2) (gI z 60 ((4 * a0) + a1).toNatClampNeg)) cw_X10_245 rfl rfl rfl rfl ⟨rfl, rfl⟩ (fun H locs hP hS => ?_)
        exact u_iretM X hr hret h hP hS dX10_post_57
      refine u_icmp_eq 29 X dX10_post_16 rfl (fun hc => ?_) (fun hc => ?_)
      · rw [if_pos hc] at h
        exact J29 _ _ _ hl hP hS h
      · rw [if_neg hc] at h
        refine u_aload_n X hl dX10_post_19 0 rfl ?_
        refine u_iload_n X hl dX10_post_20 3 rfl ?_
        refine u_callVi X hP hS hl dX10_post_21 (cM_isPerson l z a2) cw_X10_109 io_56 rfl rfl rfl rfl ⟨rfl, rfl⟩ (fun H locs hP hS => ?_)
        refine u_if_ne 29 X dX10_post_24 rfl (fun hc => ?_) (fun hc => ?_)
        · rw [if_neg hc] at h
          exact J29 _ _ _ hl hP hS h
        · rw [if_pos hc] at h
          refine u_iconst (v := (-1)) X dX10_post_27 rfl ?_
          exact u_iretM X hr hret h hP hS dX10_post_28
def fM_postOf (z : MS) (a0 : Int32) (a1 : Int32) : Option Int32 :=
  if (fM_isDay a0) = 0 then some (-1) else (if (fM_isPost a1) = 0 then some (-1) else (if ((4 * a0) + a1) < 0 ∨ 40 ≤ ((4 * a0) + a1).toNatClampNeg then none else some (fM_orNobody (gI z 60 ((4 * a0) + a1).toNatClampNeg))))
set_option maxRecDepth 4000 in
theorem cM_postOf (l : Launch) {z : MS} {a0 : Int32} {a1 : Int32} {r : Int32} (h : fM_postOf z a0 a1 = some r) : CT l yX10_postOf cX10_postOf 3 (some .int) 2 42 (fun ad sd => [.ref (ad 56), .int a0, .int a1]) z (some (.int r)) z := by
  rw [fM_postOf] at h
  refine u_start RX10 rfl (by decide) (fun _ _ => Nat.le_of_ble_eq_true rfl) (fun p e s m args below meth c R D ad cs sd A Q ls X hP hS hl hr hret => ?_)
  have hl : lv_has ls 3 [(0, .ref (ad 56)), (1, .int a0), (2, .int a1)] := hl
  refine u_iload_n X hl dX10_postOf_0 1 rfl ?_
  refine u_callSi X hP hS hl dX10_postOf_1 (cM_isDay l z a0) cw_X10_233 rfl rfl rfl rfl ⟨rfl, rfl⟩ (fun H locs hP hS => ?_)
  refine u_if_eq 30 X dX10_postOf_4 rfl (fun hc => ?_) (fun hc => ?_)
  · rw [if_pos hc] at h
    refine u_iconst (v := (-1)) X dX10_postOf_30 rfl ?_
    exact u_iretP X hr hret h hP hS dX10_postOf_31
  · rw [if_neg hc] at h
    refine u_iload_n X hl dX10_postOf_7 2 rfl ?_
    refine u_callSi X hP hS hl dX10_postOf_8 (cM_isPost l z a1) cw_X10_242 rfl rfl rfl rfl ⟨rfl, rfl⟩ (fun H locs hP hS => ?_)
    refine u_if_eq 30 X dX10_postOf_11 rfl (fun hc => ?_) (fun hc => ?_)
    · rw [if_pos hc] at h
      refine u_iconst (v := (-1)) X dX10_postOf_30 rfl ?_
      exact u_iretP X hr hret h hP hS dX10_postOf_31
    · rw [if_neg hc] at h
      refine u_aload_n X hl dX10_postOf_14 0 rfl ?_
      refine gf_X10_19_56 X hP dX10_postOf_15 ?_
      refine u_iconst (v := 4) X dX10_postOf_18 rfl ?_
      refine u_iload_n X hl dX10_postOf_19 1 rfl ?_
      refine u_imul X dX10_postOf_20 ?_
      refine u_iload_n X hl dX10_postOf_21 2 rfl ?_
      refine u_iadd X dX10_postOf_22 ?_
      obtain ⟨hin, h⟩ := ifn_inv h
      refine ld_60 X hP rfl hin dX10_postOf_23 ?_
      refine u_callSi X hP hS hl dX10_postOf_24 (cM_orNobody l z (gI z 60 ((4 * a0) + a1).toNatClampNeg)) cw_X10_245 rfl rfl rfl rfl ⟨rfl, rfl⟩ (fun H locs hP hS => ?_)
      refine u_goto 31 X dX10_postOf_27 rfl ?_
      exact u_iretP X hr hret h hP hS dX10_postOf_31
def fM_surprise_J26 (z : MS) (l1 : Int32) (l2 : Int32) (s0 : Int32) : Option (Int32 × MS) :=
  if s0 = l2 then some (0, z) else some (1, pI z 56 5 ((gI z 56 5) ^^^ ((1 : Int32) <<< (l1 &&& 31))))
def fM_surprise (z : MS) (a0 : Int32) (a1 : Int32) : Option (Int32 × MS) :=
  if (fM_isDay a0) = 0 then some ((-1), z) else (if (((gI z 56 5) >>> (a0 &&& 31)) &&& 1) = 1 then fM_surprise_J26 z a0 a1 1 else fM_surprise_J26 z a0 a1 0)
set_option maxRecDepth 4000 in
theorem cM_surprise (l : Launch) {z : MS} {a0 : Int32} {a1 : Int32} {r : Int32} {z1 : MS} (h : fM_surprise z a0 a1 = some (r, z1)) : CT l yX10_surprise cX10_surprise 3 (some .int) 2 42 (fun ad sd => [.ref (ad 56), .int a0, .int a1]) z (some (.int r)) z1 := by
  rw [fM_surprise] at h
  refine u_start RX10 rfl (by decide) (fun _ _ => Nat.le_of_ble_eq_true rfl) (fun p e s m args below meth c R D ad cs sd A Q ls X hP hS hl hr hret => ?_)
  have hl : lv_has ls 3 [(0, .ref (ad 56)), (1, .int a0), (2, .int a1)] := hl
  refine u_iload_n X hl dX10_surprise_0 1 rfl ?_
  refine u_callSi X hP hS hl dX10_surprise_1 (cM_isDay l z a0) cw_X10_233 rfl rfl rfl rfl ⟨rfl, rfl⟩ (fun H locs hP hS => ?_)
  refine u_if_ne 9 X dX10_surprise_4 rfl (fun hc => ?_) (fun hc => ?_)
  · rw [if_neg hc] at h
    refine u_aload_n X hl dX10_surprise_9 0 rfl ?_
    refine gf_X10_220_56 X hP dX10_surprise_10 ?_
    refine u_iload_n X hl dX10_surprise_13 1 rfl ?_
    refine u_ishr X dX10_surprise_14 ?_
    refine u_iconst (v := 1) X dX10_surprise_15 rfl ?_
    refine u_iand X dX10_surprise_16 ?_
    refine u_iconst (v := 1) X dX10_surprise_17 rfl ?_
    have J26 : ∀ (H : Heap) (locs : List Loc) (ls : Array Slot) (s0_26 : Int32), lv_has ls 3 [(0, .ref (ad 56)), (1, .int a0), (2, .int a1)] → va_P D clss (wld cs ad z) H → va_S A s.heap H locs → fM_surprise_J26 z a0 a1 s0_26 = some (r, z1) → W p l e R s m args below meth c H locs 0 0 Q (F0 m 26 ls [.int s0_26]) := by
      intro H locs ls s0_26 hl hP hS h
      rw [fM_surprise_J26] at h
      refine u_iload_n X hl dX10_surprise_26 2 rfl ?_
      refine u_icmp_ne 32 X dX10_surprise_27 rfl (fun hc => ?_) (fun hc => ?_)
      · rw [if_neg hc] at h
        refine u_aload_n X hl dX10_surprise_32 0 rfl ?_
        refine u_dup X rfl dX10_surprise_33 ?_
        refine gf_X10_220_56 X hP dX10_surprise_34 ?_
        refine u_iconst (v := 1) X dX10_surprise_37 rfl ?_
        refine u_iload_n X hl dX10_surprise_38 1 rfl ?_
        refine u_ishl X dX10_surprise_39 ?_
        refine u_ixor X dX10_surprise_40 ?_
        refine pf_X10_220_56 X hP hS dX10_surprise_41 (fun H locs hP hS => ?_)
        refine u_iconst (v := 1) X dX10_surprise_44 rfl ?_
        exact u_iretM X hr hret h hP hS dX10_surprise_45
      · rw [if_pos hc] at h
        refine u_iconst (v := 0) X dX10_surprise_30 rfl ?_
        exact u_iretM X hr hret h hP hS dX10_surprise_31
    refine u_icmp_ne 25 X dX10_surprise_18 rfl (fun hc => ?_) (fun hc => ?_)
    · rw [if_neg hc] at h
      refine u_iconst (v := 0) X dX10_surprise_25 rfl ?_
      exact J26 _ _ _ _ hl hP hS h
    · rw [if_pos hc] at h
      refine u_iconst (v := 1) X dX10_surprise_21 rfl ?_
      refine u_goto 26 X dX10_surprise_22 rfl ?_
      exact J26 _ _ _ _ hl hP hS h
  · rw [if_pos hc] at h
    refine u_iconst (v := (-1)) X dX10_surprise_7 rfl ?_
    exact u_iretM X hr hret h hP hS dX10_surprise_8
def fM_loss (z : MS) (a0 : Int32) (a1 : Int32) : Option (Int32 × MS) :=
  if (fM_isDay a0) = 0 then some ((-1), z) else (if (fM_in a1 0 99) = 0 then some ((-1), z) else (if a0 < 0 ∨ 10 ≤ a0.toNatClampNeg then none else if a0 < 0 ∨ 10 ≤ a0.toNatClampNeg then none else some (gI z 61 a0.toNatClampNeg, pI z 61 a0.toNatClampNeg a1)))
set_option maxRecDepth 4000 in
theorem cM_loss (l : Launch) {z : MS} {a0 : Int32} {a1 : Int32} {r : Int32} {z1 : MS} (h : fM_loss z a0 a1 = some (r, z1)) : CT l yX10_loss cX10_loss 4 (some .int) 2 42 (fun ad sd => [.ref (ad 56), .int a0, .int a1]) z (some (.int r)) z1 := by
  rw [fM_loss] at h
  refine u_start RX10 rfl (by decide) (fun _ _ => Nat.le_of_ble_eq_true rfl) (fun p e s m args below meth c R D ad cs sd A Q ls X hP hS hl hr hret => ?_)
  have hl : lv_has ls 4 [(0, .ref (ad 56)), (1, .int a0), (2, .int a1)] := hl
  refine u_iload_n X hl dX10_loss_0 1 rfl ?_
  refine u_callSi X hP hS hl dX10_loss_1 (cM_isDay l z a0) cw_X10_233 rfl rfl rfl rfl ⟨rfl, rfl⟩ (fun H locs hP hS => ?_)
  refine u_if_eq 17 X dX10_loss_4 rfl (fun hc => ?_) (fun hc => ?_)
  · rw [if_pos hc] at h
    refine u_iconst (v := (-1)) X dX10_loss_17 rfl ?_
    exact u_iretM X hr hret h hP hS dX10_loss_18
  · rw [if_neg hc] at h
    refine u_iload_n X hl dX10_loss_7 2 rfl ?_
    refine u_iconst (v := 0) X dX10_loss_8 rfl ?_
    refine u_bipush (v := 99) X dX10_loss_9 rfl ?_
    refine u_callSi X hP hS hl dX10_loss_11 (cM_in l z a1 0 99) cw_X10_105 rfl rfl rfl rfl ⟨rfl, rfl⟩ (fun H locs hP hS => ?_)
    refine u_if_ne 19 X dX10_loss_14 rfl (fun hc => ?_) (fun hc => ?_)
    · rw [if_neg hc] at h
      refine u_aload_n X hl dX10_loss_19 0 rfl ?_
      refine gf_X10_22_56 X hP dX10_loss_20 ?_
      refine u_iload_n X hl dX10_loss_23 1 rfl ?_
      obtain ⟨hin, h⟩ := ifn_inv h
      refine ld_61 X hP rfl hin dX10_loss_24 ?_
      refine u_istore_n [(3, .int (gI z 61 a0.toNatClampNeg)), (0, .ref (ad 56)), (1, .int a0), (2, .int a1)] X hl dX10_loss_25 (Nat.le_of_ble_eq_true rfl) rfl (fun ls hl => ?_)
      refine u_aload_n X hl dX10_loss_26 1 rfl ?_
      refine gf_X10_22_56 X hP dX10_loss_27 ?_
      refine u_iload_n X hl dX10_loss_30 2 rfl ?_
      refine u_iload_n X hl dX10_loss_31 3 rfl ?_
      obtain ⟨hin, h⟩ := ifn_inv h
      refine as_61 X hP hS rfl hin dX10_loss_32 (fun H locs hP hS => ?_)
      refine u_iload_n X hl dX10_loss_33 0 rfl ?_
      exact u_iretM X hr hret h hP hS dX10_loss_34
    · rw [if_pos hc] at h
      refine u_iconst (v := (-1)) X dX10_loss_17 rfl ?_
      exact u_iretM X hr hret h hP hS dX10_loss_18
def fM_twoOn (z : MS) (a0 : Int32) : Option Int32 :=
  if (4 * a0) < 0 ∨ 40 ≤ (4 * a0).toNatClampNeg then none else if ((4 * a0) + 1) < 0 ∨ 40 ≤ ((4 * a0) + 1).toNatClampNeg then none else if (gI z 60 (4 * a0).toNatClampNeg) < 0 then some (-1) else (if (gI z 60 ((4 * a0) + 1).toNatClampNeg) < 0 then some (-1) else (if (gI z 60 (4 * a0).toNatClampNeg) = (gI z 60 ((4 * a0) + 1).toNatClampNeg) then some (-1) else (if (gI z 60 ((4 * a0) + 1).toNatClampNeg) ≤ (gI z 60 (4 * a0).toNatClampNeg) then some ((8 * (gI z 60 ((4 * a0) + 1).toNatClampNeg)) + (gI z 60 (4 * a0).toNatClampNeg)) else some ((8 * (gI z 60 (4 * a0).toNatClampNeg)) + (gI z 60 ((4 * a0) + 1).toNatClampNeg)))))
set_option maxRecDepth 4000 in
theorem cM_twoOn (l : Launch) {z : MS} {a0 : Int32} {r : Int32} (h : fM_twoOn z a0 = some r) : CT l yX10_twoOn cX10_twoOn 4 (some .int) 0 0 (fun ad sd => [.ref (ad 56), .int a0]) z (some (.int r)) z := by
  rw [fM_twoOn] at h
  refine u_start RX10 rfl (by decide) (fun _ _ => Nat.le_of_ble_eq_true rfl) (fun p e s m args below meth c R D ad cs sd A Q ls X hP hS hl hr hret => ?_)
  have hl : lv_has ls 4 [(0, .ref (ad 56)), (1, .int a0)] := hl
  refine u_aload_n X hl dX10_twoOn_0 0 rfl ?_
  refine gf_X10_19_56 X hP dX10_twoOn_1 ?_
  refine u_iconst (v := 4) X dX10_twoOn_4 rfl ?_
  refine u_iload_n X hl dX10_twoOn_5 1 rfl ?_
  refine u_imul X dX10_twoOn_6 ?_
  obtain ⟨hin, h⟩ := ifn_inv h
  refine ld_60 X hP rfl hin dX10_twoOn_7 ?_
  refine u_istore_n [(2, .int (gI z 60 (4 * a0).toNatClampNeg)), (0, .ref (ad 56)), (1, .int a0)] X hl dX10_twoOn_8 (Nat.le_of_ble_eq_true rfl) rfl (fun ls hl => ?_)
  refine u_aload_n X hl dX10_twoOn_9 1 rfl ?_
  refine gf_X10_19_56 X hP dX10_twoOn_10 ?_
  refine u_iconst (v := 4) X dX10_twoOn_13 rfl ?_
  refine u_iload_n X hl dX10_twoOn_14 2 rfl ?_
  refine u_imul X dX10_twoOn_15 ?_
  refine u_iconst (v := 1) X dX10_twoOn_16 rfl ?_
  refine u_iadd X dX10_twoOn_17 ?_
  obtain ⟨hin, h⟩ := ifn_inv h
  refine ld_60 X hP rfl hin dX10_twoOn_18 ?_
  refine u_istore_n [(3, .int (gI z 60 ((4 * a0) + 1).toNatClampNeg)), (2, .int (gI z 60 (4 * a0).toNatClampNeg)), (0, .ref (ad 56)), (1, .int a0)] X hl dX10_twoOn_19 (Nat.le_of_ble_eq_true rfl) rfl (fun ls hl => ?_)
  refine u_iload_n X hl dX10_twoOn_20 1 rfl ?_
  refine u_if_lt 33 X dX10_twoOn_21 rfl (fun hc => ?_) (fun hc => ?_)
  · rw [if_pos hc] at h
    refine u_iconst (v := (-1)) X dX10_twoOn_33 rfl ?_
    exact u_iretP X hr hret h hP hS dX10_twoOn_34
  · rw [if_neg hc] at h
    refine u_iload_n X hl dX10_twoOn_24 0 rfl ?_
    refine u_if_lt 33 X dX10_twoOn_25 rfl (fun hc => ?_) (fun hc => ?_)
    · rw [if_pos hc] at h
      refine u_iconst (v := (-1)) X dX10_twoOn_33 rfl ?_
      exact u_iretP X hr hret h hP hS dX10_twoOn_34
    · rw [if_neg hc] at h
      refine u_iload_n X hl dX10_twoOn_28 1 rfl ?_
      refine u_iload_n X hl dX10_twoOn_29 0 rfl ?_
      refine u_icmp_ne 35 X dX10_twoOn_30 rfl (fun hc => ?_) (fun hc => ?_)
      · rw [if_neg hc] at h
        refine u_iload_n X hl dX10_twoOn_35 1 rfl ?_
        refine u_iload_n X hl dX10_twoOn_36 0 rfl ?_
        refine u_icmp_ge 49 X dX10_twoOn_37 rfl (fun hc => ?_) (fun hc => ?_)
        · rw [if_pos hc] at h
          refine u_bipush (v := 8) X dX10_twoOn_49 rfl ?_
          refine u_iload_n X hl dX10_twoOn_51 0 rfl ?_
          refine u_imul X dX10_twoOn_52 ?_
          refine u_iload_n X hl dX10_twoOn_53 1 rfl ?_
          refine u_iadd X dX10_twoOn_54 ?_
          exact u_iretP X hr hret h hP hS dX10_twoOn_55
        · rw [if_neg hc] at h
          refine u_bipush (v := 8) X dX10_twoOn_40 rfl ?_
          refine u_iload_n X hl dX10_twoOn_42 1 rfl ?_
          refine u_imul X dX10_twoOn_43 ?_
          refine u_iload_n X hl dX10_twoOn_44 0 rfl ?_
          refine u_iadd X dX10_twoOn_45 ?_
          refine u_goto 55 X dX10_twoOn_46 rfl ?_
          exact u_iretP X hr hret h hP hS dX10_twoOn_55
      · rw [if_pos hc] at h
        refine u_iconst (v := (-1)) X dX10_twoOn_33 rfl ?_
        exact u_iretP X hr hret h hP hS dX10_twoOn_34
def fM_pair (a0 : Int32) (a1 : Int32) : Int32 :=
  if a1 ≤ a0 then (8 * a1) + a0 else (8 * a0) + a1
set_option maxRecDepth 4000 in
theorem cM_pair (l : Launch) (z : MS) (a0 : Int32) (a1 : Int32) : CT l yX10_pair cX10_pair 2 (some .int) 0 0 (fun ad sd => [.int a0, .int a1]) z (some (.int (fM_pair a0 a1))) z := by
  generalize h : fM_pair a0 a1 = r
  rw [fM_pair] at h
  refine u_start RX10 rfl (by decide) (fun _ _ => Nat.le_of_ble_eq_true rfl) (fun p e s m args below meth c R D ad cs sd A Q ls X hP hS hl hr hret => ?_)
  have hl : lv_has ls 2 [(0, .int a0), (1, .int a1)] := hl
  refine u_iload_n X hl dX10_pair_0 0 rfl ?_
  refine u_iload_n X hl dX10_pair_1 1 rfl ?_
  refine u_icmp_ge 14 X dX10_pair_2 rfl (fun hc => ?_) (fun hc => ?_)
  · rw [if_pos hc] at h
    refine u_bipush (v := 8) X dX10_pair_14 rfl ?_
    refine u_iload_n X hl dX10_pair_16 1 rfl ?_
    refine u_imul X dX10_pair_17 ?_
    refine u_iload_n X hl dX10_pair_18 0 rfl ?_
    refine u_iadd X dX10_pair_19 ?_
    exact u_iretT X hr hret h hP hS dX10_pair_20
  · rw [if_neg hc] at h
    refine u_bipush (v := 8) X dX10_pair_5 rfl ?_
    refine u_iload_n X hl dX10_pair_7 0 rfl ?_
    refine u_imul X dX10_pair_8 ?_
    refine u_iload_n X hl dX10_pair_9 1 rfl ?_
    refine u_iadd X dX10_pair_10 ?_
    refine u_goto 20 X dX10_pair_11 rfl ?_
    exact u_iretT X hr hret h hP hS dX10_pair_20
def fM_trustOf_L16 (z : MS) (l1 : Int32) (l2 : Int32) (l3 : Int32) : Nat → Int32 → Int32 → Option Int32
  | 0, _, _ => none
  | n + 1, l4, l5 => if l3 ≤ l5 then some l4 else Option.bind (fM_twoOn z l5) (fun w25 => if w25 = (fM_pair l1 l2) then (if 9 ≤ l4 then fM_trustOf_L16 z l1 l2 l3 n 9 (l5 + 1) else fM_trustOf_L16 z l1 l2 l3 n (l4 + 1) (l5 + 1)) else (if l4 ≤ (gI z 62 5) then fM_trustOf_L16 z l1 l2 l3 n 0 (l5 + 1) else fM_trustOf_L16 z l1 l2 l3 n (l4 - (gI z 62 5)) (l5 + 1)))
def fM_trustOf (z : MS) (a0 : Int32) (a1 : Int32) (a2 : Int32) : Option Int32 :=
  if ((8 * a0) + a1) < 0 ∨ 64 ≤ ((8 * a0) + a1).toNatClampNeg then none else fM_trustOf_L16 z a0 a1 a2 LF (gI z 59 ((8 * a0) + a1).toNatClampNeg) 0
set_option maxRecDepth 4000 in
theorem cM_trustOf (l : Launch) {z : MS} {a0 : Int32} {a1 : Int32} {a2 : Int32} {r : Int32} (h : fM_trustOf z a0 a1 a2 = some r) : CT l yX10_trustOf cX10_trustOf 6 (some .int) 1 23 (fun ad sd => [.ref (ad 56), .int a0, .int a1, .int a2]) z (some (.int r)) z := by
  rw [fM_trustOf] at h
  refine u_start RX10 rfl (by decide) (fun _ _ => Nat.le_of_ble_eq_true rfl) (fun p e s m args below meth c R D ad cs sd A Q ls X hP hS hl hr hret => ?_)
  have hl : lv_has ls 6 [(0, .ref (ad 56)), (1, .int a0), (2, .int a1), (3, .int a2)] := hl
  refine u_aload_n X hl dX10_trustOf_0 0 rfl ?_
  refine gf_X10_16_56 X hP dX10_trustOf_1 ?_
  refine u_bipush (v := 8) X dX10_trustOf_4 rfl ?_
  refine u_iload_n X hl dX10_trustOf_6 1 rfl ?_
  refine u_imul X dX10_trustOf_7 ?_
  refine u_iload_n X hl dX10_trustOf_8 2 rfl ?_
  refine u_iadd X dX10_trustOf_9 ?_
  obtain ⟨hin, h⟩ := ifn_inv h
  refine ld_59 X hP rfl hin dX10_trustOf_10 ?_
  refine u_istore [(4, .int (gI z 59 ((8 * a0) + a1).toNatClampNeg)), (0, .ref (ad 56)), (1, .int a0), (2, .int a1), (3, .int a2)] X hl dX10_trustOf_11 (Nat.le_of_ble_eq_true rfl) rfl (fun ls hl => ?_)
  refine u_iconst (v := 0) X dX10_trustOf_13 rfl ?_
  refine u_istore [(5, .int 0), (4, .int (gI z 59 ((8 * a0) + a1).toNatClampNeg)), (0, .ref (ad 56)), (1, .int a0), (2, .int a1), (3, .int a2)] X hl dX10_trustOf_14 (Nat.le_of_ble_eq_true rfl) rfl (fun ls hl => ?_)
  have L16 : ∀ (n : Nat) (H : Heap) (locs : List Loc) (ls : Array Slot) (l4_16 : Int32) (l5_16 : Int32), lv_has ls 6 [(0, .ref (ad 56)), (1, .int a0), (2, .int a1), (3, .int a2), (4, .int l4_16), (5, .int l5_16)] → va_P D clss (wld cs ad z) H → va_S A s.heap H locs → fM_trustOf_L16 z a0 a1 a2 n l4_16 l5_16 = some r → W p l e R s m args below meth c H locs 0 0 Q (F0 m 16 ls []) := by
    intro n
    induction n with
    | zero =>
      intro H locs ls l4_16 l5_16 hl hP hS h
      rw [fM_trustOf_L16] at h
      cases h
    | succ n16 ih16 =>
      intro H locs ls l4_16 l5_16 hl hP hS h
      rw [fM_trustOf_L16] at h
      refine u_iload X hl dX10_trustOf_16 5 rfl ?_
      refine u_iload_n X hl dX10_trustOf_18 3 rfl ?_
      refine u_icmp_ge 89 X dX10_trustOf_19 rfl (fun hc => ?_) (fun hc => ?_)
      · rw [if_pos hc] at h
        refine u_iload X hl dX10_trustOf_89 4 rfl ?_
        exact u_iretP X hr hret h hP hS dX10_trustOf_91
      · rw [if_neg hc] at h
        refine u_aload_n X hl dX10_trustOf_22 0 rfl ?_
        refine u_iload X hl dX10_trustOf_23 5 rfl ?_
        obtain ⟨w25, hc25, h⟩ := ob_inv h
        refine u_callVi X hP hS hl dX10_trustOf_25 (cM_twoOn l hc25) cw_X10_248 io_56 rfl rfl rfl rfl ⟨rfl, rfl⟩ (fun H locs hP hS => ?_)
        refine u_iload_n X hl dX10_trustOf_28 1 rfl ?_
        refine u_iload_n X hl dX10_trustOf_29 2 rfl ?_
        refine u_callSi X hP hS hl dX10_trustOf_30 (cM_pair l z a0 a1) cw_X10_251 rfl rfl rfl rfl ⟨rfl, rfl⟩ (fun H locs hP hS => ?_)
        refine u_icmp_ne 57 X dX10_trustOf_33 rfl (fun hc => ?_) (fun hc => ?_)
        · rw [if_neg hc] at h
          refine u_iload X hl dX10_trustOf_57 4 rfl ?_
          refine u_aload_n X hl dX10_trustOf_59 0 rfl ?_
          refine gf_X10_25_56 X hP dX10_trustOf_60 ?_
          refine u_iconst (v := 5) X dX10_trustOf_63 rfl ?_
          refine ld_62 (w := 5) X hP rfl (by decide) dX10_trustOf_64 ?_
          refine u_icmp_le 80 X dX10_trustOf_65 rfl (fun hc => ?_) (fun hc => ?_)
          · rw [if_pos hc] at h
            refine u_iconst (v := 0) X dX10_trustOf_80 rfl ?_
            refine u_istore [(4, .int 0), (0, .ref (ad 56)), (1, .int a0), (2, .int a1), (3, .int a2), (5, .int l5_16)] X hl dX10_trustOf_81 (Nat.le_of_ble_eq_true rfl) rfl (fun ls hl => ?_)
            refine u_iinc [(5, .int (l5_16 + 1)), (4, .int 0), (0, .ref (ad 56)), (1, .int a0), (2, .int a1), (3, .int a2)] X hl dX10_trustOf_83 5 rfl rfl (Nat.le_of_ble_eq_true rfl) rfl (fun ls hl => ?_)
            refine u_goto 16 X dX10_trustOf_86 rfl ?_
            exact ih16 _ _ _ _ _ (lv_sub hl [2, 3, 4, 5, 1, 0] rfl) hP hS h
          · rw [if_neg hc] at h
            refine u_iload X hl dX10_trustOf_68 4 rfl ?_
            refine u_aload_n X hl dX10_trustOf_70 0 rfl ?_
            refine gf_X10_25_56 X hP dX10_trustOf_71 ?_
            refine u_iconst (v := 5) X dX10_trustOf_74 rfl ?_
            refine ld_62 (w := 5) X hP rfl (by decide) dX10_trustOf_75 ?_
            refine u_isub X dX10_trustOf_76 ?_
            refine u_goto 81 X dX10_trustOf_77 rfl ?_
            refine u_istore [(4, .int (l4_16 - (gI z 62 5))), (0, .ref (ad 56)), (1, .int a0), (2, .int a1), (3, .int a2), (5, .int l5_16)] X hl dX10_trustOf_81 (Nat.le_of_ble_eq_true rfl) rfl (fun ls hl => ?_)
            refine u_iinc [(5, .int (l5_16 + 1)), (4, .int (l4_16 - (gI z 62 5))), (0, .ref (ad 56)), (1, .int a0), (2, .int a1), (3, .int a2)] X hl dX10_trustOf_83 5 rfl rfl (Nat.le_of_ble_eq_true rfl) rfl (fun ls hl => ?_)
            refine u_goto 16 X dX10_trustOf_86 rfl ?_
            exact ih16 _ _ _ _ _ (lv_sub hl [2, 3, 4, 5, 1, 0] rfl) hP hS h
        · rw [if_pos hc] at h
          refine u_iload X hl dX10_trustOf_36 4 rfl ?_
          refine u_bipush (v := 9) X dX10_trustOf_38 rfl ?_
          refine u_icmp_ge 50 X dX10_trustOf_40 rfl (fun hc => ?_) (fun hc => ?_)
          · rw [if_pos hc] at h
            refine u_bipush (v := 9) X dX10_trustOf_50 rfl ?_
            refine u_istore [(4, .int 9), (0, .ref (ad 56)), (1, .int a0), (2, .int a1), (3, .int a2), (5, .int l5_16)] X hl dX10_trustOf_52 (Nat.le_of_ble_eq_true rfl) rfl (fun ls hl => ?_)
            refine u_goto 83 X dX10_trustOf_54 rfl ?_
            refine u_iinc [(5, .int (l5_16 + 1)), (4, .int 9), (0, .ref (ad 56)), (1, .int a0), (2, .int a1), (3, .int a2)] X hl dX10_trustOf_83 5 rfl rfl (Nat.le_of_ble_eq_true rfl) rfl (fun ls hl => ?_)
            refine u_goto 16 X dX10_trustOf_86 rfl ?_
            exact ih16 _ _ _ _ _ (lv_sub hl [2, 3, 4, 5, 1, 0] rfl) hP hS h
          · rw [if_neg hc] at h
            refine u_iload X hl dX10_trustOf_43 4 rfl ?_
            refine u_iconst (v := 1) X dX10_trustOf_45 rfl ?_
            refine u_iadd X dX10_trustOf_46 ?_
            refine u_goto 52 X dX10_trustOf_47 rfl ?_
            refine u_istore [(4, .int (l4_16 + 1)), (0, .ref (ad 56)), (1, .int a0), (2, .int a1), (3, .int a2), (5, .int l5_16)] X hl dX10_trustOf_52 (Nat.le_of_ble_eq_true rfl) rfl (fun ls hl => ?_)
            refine u_goto 83 X dX10_trustOf_54 rfl ?_
            refine u_iinc [(5, .int (l5_16 + 1)), (4, .int (l4_16 + 1)), (0, .ref (ad 56)), (1, .int a0), (2, .int a1), (3, .int a2)] X hl dX10_trustOf_83 5 rfl rfl (Nat.le_of_ble_eq_true rfl) rfl (fun ls hl => ?_)
            refine u_goto 16 X dX10_trustOf_86 rfl ?_
            exact ih16 _ _ _ _ _ (lv_sub hl [2, 3, 4, 5, 1, 0] rfl) hP hS h
  exact L16 LF _ _ _ _ _ (lv_sub hl [2, 3, 4, 5, 1, 0] rfl) hP hS h
def fM_trustOn (z : MS) (a0 : Int32) (a1 : Int32) (a2 : Int32) : Option Int32 :=
  if (fM_areTwo z a0 a1) = 0 then some (-1) else (if (fM_isDay a2) = 0 then some (-1) else Option.bind (fM_trustOf z a0 a1 a2) (fun w20 => some w20))
set_option maxRecDepth 4000 in
theorem cM_trustOn (l : Launch) {z : MS} {a0 : Int32} {a1 : Int32} {a2 : Int32} {r : Int32} (h : fM_trustOn z a0 a1 a2 = some r) : CT l yX10_trustOn cX10_trustOn 4 (some .int) 3 65 (fun ad sd => [.ref (ad 56), .int a0, .int a1, .int a2]) z (some (.int r)) z := by
  rw [fM_trustOn] at h
  refine u_start RX10 rfl (by decide) (fun _ _ => Nat.le_of_ble_eq_true rfl) (fun p e s m args below meth c R D ad cs sd A Q ls X hP hS hl hr hret => ?_)
  have hl : lv_has ls 4 [(0, .ref (ad 56)), (1, .int a0), (2, .int a1), (3, .int a2)] := hl
  refine u_aload_n X hl dX10_trustOn_0 0 rfl ?_
  refine u_iload_n X hl dX10_trustOn_1 1 rfl ?_
  refine u_iload_n X hl dX10_trustOn_2 2 rfl ?_
  refine u_callVi X hP hS hl dX10_trustOn_3 (cM_areTwo l z a0 a1) cw_X10_226 io_56 rfl rfl rfl rfl ⟨rfl, rfl⟩ (fun H locs hP hS => ?_)
  refine u_if_eq 26 X dX10_trustOn_6 rfl (fun hc => ?_) (fun hc => ?_)
  · rw [if_pos hc] at h
    refine u_iconst (v := (-1)) X dX10_trustOn_26 rfl ?_
    exact u_iretP X hr hret h hP hS dX10_trustOn_27
  · rw [if_neg hc] at h
    refine u_iload_n X hl dX10_trustOn_9 3 rfl ?_
    refine u_callSi X hP hS hl dX10_trustOn_10 (cM_isDay l z a2) cw_X10_233 rfl rfl rfl rfl ⟨rfl, rfl⟩ (fun H locs hP hS => ?_)
    refine u_if_eq 26 X dX10_trustOn_13 rfl (fun hc => ?_) (fun hc => ?_)
    · rw [if_pos hc] at h
      refine u_iconst (v := (-1)) X dX10_trustOn_26 rfl ?_
      exact u_iretP X hr hret h hP hS dX10_trustOn_27
    · rw [if_neg hc] at h
      refine u_aload_n X hl dX10_trustOn_16 0 rfl ?_
      refine u_iload_n X hl dX10_trustOn_17 1 rfl ?_
      refine u_iload_n X hl dX10_trustOn_18 2 rfl ?_
      refine u_iload_n X hl dX10_trustOn_19 3 rfl ?_
      obtain ⟨w20, hc20, h⟩ := ob_inv h
      refine u_callVi X hP hS hl dX10_trustOn_20 (cM_trustOf l hc20) cw_X10_254 io_56 rfl rfl rfl rfl ⟨rfl, rfl⟩ (fun H locs hP hS => ?_)
      refine u_goto 27 X dX10_trustOn_23 rfl ?_
      exact u_iretP X hr hret h hP hS dX10_trustOn_27
def fM_isNeither_J51 (z : MS) (l3 : Int32) (s1 : Int32) : Option Int32 :=
  Option.bind (fM_areKin z s1 (irm l3 8)) (fun w55 => if w55 = 0 then some 1 else some 0)
def fM_isNeither_J29 (z : MS) (l3 : Int32) (l4 : Int32) (s1 : Int32) : Option Int32 :=
  Option.bind (fM_areKin z s1 (l3 / 8)) (fun w33 => if w33 = 0 then (if 0 ≤ l4 then fM_isNeither_J51 z l3 l4 else fM_isNeither_J51 z l3 0) else some 0)
def fM_isNeither (z : MS) (a0 : Int32) (a1 : Int32) (a2 : Int32) : Option Int32 :=
  if ((4 * a0) + a1) < 0 ∨ 40 ≤ ((4 * a0) + a1).toNatClampNeg then none else if (gI z 60 ((4 * a0) + a1).toNatClampNeg) < 0 then some 0 else (if 0 ≤ (gI z 60 ((4 * a0) + a1).toNatClampNeg) then fM_isNeither_J29 z a2 (gI z 60 ((4 * a0) + a1).toNatClampNeg) (gI z 60 ((4 * a0) + a1).toNatClampNeg) else fM_isNeither_J29 z a2 (gI z 60 ((4 * a0) + a1).toNatClampNeg) 0)
set_option maxRecDepth 4000 in
theorem cM_isNeither (l : Launch) {z : MS} {a0 : Int32} {a1 : Int32} {a2 : Int32} {r : Int32} (h : fM_isNeither z a0 a1 a2 = some r) : CT l yX10_isNeither cX10_isNeither 5 (some .boolean) 1 22 (fun ad sd => [.ref (ad 56), .int a0, .int a1, .int a2]) z (some (.int r)) z := by
  rw [fM_isNeither] at h
  refine u_start RX10 rfl (by decide) (fun _ _ => Nat.le_of_ble_eq_true rfl) (fun p e s m args below meth c R D ad cs sd A Q ls X hP hS hl hr hret => ?_)
  have hl : lv_has ls 5 [(0, .ref (ad 56)), (1, .int a0), (2, .int a1), (3, .int a2)] := hl
  refine u_aload_n X hl dX10_isNeither_0 0 rfl ?_
  refine gf_X10_19_56 X hP dX10_isNeither_1 ?_
  refine u_iconst (v := 4) X dX10_isNeither_4 rfl ?_
  refine u_iload_n X hl dX10_isNeither_5 1 rfl ?_
  refine u_imul X dX10_isNeither_6 ?_
  refine u_iload_n X hl dX10_isNeither_7 2 rfl ?_
  refine u_iadd X dX10_isNeither_8 ?_
  obtain ⟨hin, h⟩ := ifn_inv h
  refine ld_60 X hP rfl hin dX10_isNeither_9 ?_
  refine u_istore [(4, .int (gI z 60 ((4 * a0) + a1).toNatClampNeg)), (0, .ref (ad 56)), (1, .int a0), (2, .int a1), (3, .int a2)] X hl dX10_isNeither_10 (Nat.le_of_ble_eq_true rfl) rfl (fun ls hl => ?_)
  refine u_iload X hl dX10_isNeither_12 0 rfl ?_
  refine u_if_lt 65 X dX10_isNeither_14 rfl (fun hc => ?_) (fun hc => ?_)
  · rw [if_pos hc] at h
    refine u_iconst (v := 0) X dX10_isNeither_65 rfl ?_
    exact u_zretP X hr hret h hP hS (Or.inl rfl) dX10_isNeither_66
  · rw [if_neg hc] at h
    refine u_aload_n X hl dX10_isNeither_17 1 rfl ?_
    refine u_iload X hl dX10_isNeither_18 0 rfl ?_
    have J29 : ∀ (H : Heap) (locs : List Loc) (ls : Array Slot) (s1_29 : Int32), lv_has ls 5 [(0, .ref (ad 56)), (3, .int a2), (4, .int (gI z 60 ((4 * a0) + a1).toNatClampNeg))] → va_P D clss (wld cs ad z) H → va_S A s.heap H locs → fM_isNeither_J29 z a2 (gI z 60 ((4 * a0) + a1).toNatClampNeg) s1_29 = some r → W p l e R s m args below meth c H locs 0 0 Q (F0 m 29 ls [.int s1_29, .ref (ad 56)]) := by
      intro H locs ls s1_29 hl hP hS h
      rw [fM_isNeither_J29] at h
      refine u_iload_n X hl dX10_isNeither_29 1 rfl ?_
      refine u_bipush (v := 8) X dX10_isNeither_30 rfl ?_
      refine u_idiv X (by decide) dX10_isNeither_32 ?_
      obtain ⟨w33, hc33, h⟩ := ob_inv h
      refine u_callVi X hP hS hl dX10_isNeither_33 (cM_areKin l hc33) cw_X10_230 io_56 rfl rfl rfl rfl ⟨rfl, rfl⟩ (fun H locs hP hS => ?_)
      refine u_if_ne 65 X dX10_isNeither_36 rfl (fun hc => ?_) (fun hc => ?_)
      · rw [if_neg hc] at h
        refine u_iconst (v := 0) X dX10_isNeither_65 rfl ?_
        exact u_zretP X hr hret h hP hS (Or.inl rfl) dX10_isNeither_66
      · rw [if_pos hc] at h
        refine u_aload_n X hl dX10_isNeither_39 0 rfl ?_
        refine u_iload X hl dX10_isNeither_40 2 rfl ?_
        have J51 : ∀ (H : Heap) (locs : List Loc) (ls : Array Slot) (s1_51 : Int32), lv_has ls 5 [(3, .int a2)] → va_P D clss (wld cs ad z) H → va_S A s.heap H locs → fM_isNeither_J51 z a2 s1_51 = some r → W p l e R s m args below meth c H locs 0 0 Q (F0 m 51 ls [.int s1_51, .ref (ad 56)]) := by
          intro H locs ls s1_51 hl hP hS h
          rw [fM_isNeither_J51] at h
          refine u_iload_n X hl dX10_isNeither_51 0 rfl ?_
          refine u_bipush (v := 8) X dX10_isNeither_52 rfl ?_
          refine u_irem X (by decide) dX10_isNeither_54 ?_
          obtain ⟨w55, hc55, h⟩ := ob_inv h
          refine u_callVi X hP hS hl dX10_isNeither_55 (cM_areKin l hc55) cw_X10_230 io_56 rfl rfl rfl rfl ⟨rfl, rfl⟩ (fun H locs hP hS => ?_)
          refine u_if_ne 65 X dX10_isNeither_58 rfl (fun hc => ?_) (fun hc => ?_)
          · rw [if_neg hc] at h
            refine u_iconst (v := 0) X dX10_isNeither_65 rfl ?_
            exact u_zretP X hr hret h hP hS (Or.inl rfl) dX10_isNeither_66
          · rw [if_pos hc] at h
            refine u_iconst (v := 1) X dX10_isNeither_61 rfl ?_
            refine u_goto 66 X dX10_isNeither_62 rfl ?_
            exact u_zretP X hr hret h hP hS (Or.inr rfl) dX10_isNeither_66
        refine u_if_ge 49 X dX10_isNeither_42 rfl (fun hc => ?_) (fun hc => ?_)
        · rw [if_pos hc] at h
          refine u_iload X hl dX10_isNeither_49 2 rfl ?_
          exact J51 _ _ _ _ (lv_sub hl [1] rfl) hP hS h
        · rw [if_neg hc] at h
          refine u_iconst (v := 0) X dX10_isNeither_45 rfl ?_
          refine u_goto 51 X dX10_isNeither_46 rfl ?_
          exact J51 _ _ _ _ (lv_sub hl [1] rfl) hP hS h
    refine u_if_ge 27 X dX10_isNeither_20 rfl (fun hc => ?_) (fun hc => ?_)
    · rw [if_pos hc] at h
      refine u_iload X hl dX10_isNeither_27 0 rfl ?_
      exact J29 _ _ _ _ (lv_sub hl [1, 4, 0] rfl) hP hS h
    · rw [if_neg hc] at h
      refine u_iconst (v := 0) X dX10_isNeither_23 rfl ?_
      refine u_goto 29 X dX10_isNeither_24 rfl ?_
      exact J29 _ _ _ _ (lv_sub hl [1, 4, 0] rfl) hP hS h
def fM_seenBy_J72 (z : MS) (s0 : Int32) (s1 : Int32) : Option Int32 :=
  if (s0 + s1) ≤ 12 then some (s0 + s1) else some 12
def fM_seenBy_J47 (z : MS) (l1 : Int32) (l3 : Int32) (s0 : Int32) (s1 : Int32) : Option Int32 :=
  Option.bind (fM_isNeither z l1 2 l3) (fun w56 => if w56 = 0 then fM_seenBy_J72 z (s0 + s1) 0 else fM_seenBy_J72 z (s0 + s1) (gI z 62 4))
def fM_seenBy_J22 (z : MS) (l1 : Int32) (l3 : Int32) (s0 : Int32) (s1 : Int32) : Option Int32 :=
  Option.bind (fM_isNeither z l1 3 l3) (fun w31 => if w31 = 0 then fM_seenBy_J47 z l1 l3 (s0 + s1) 0 else fM_seenBy_J47 z l1 l3 (s0 + s1) (gI z 62 3))
def fM_seenBy (z : MS) (a0 : Int32) (a1 : Int32) : Option Int32 :=
  Option.bind (fM_twoOn z a0) (fun w2 => if a1 = 0 then fM_seenBy_J22 z a0 w2 (gI z 62 2) 0 else fM_seenBy_J22 z a0 w2 (gI z 62 2) 6)
set_option maxRecDepth 4000 in
theorem cM_seenBy (l : Launch) {z : MS} {a0 : Int32} {a1 : Int32} {r : Int32} (h : fM_seenBy z a0 a1 = some r) : CT l yX10_seenBy cX10_seenBy 5 (some .int) 2 46 (fun ad sd => [.ref (ad 56), .int a0, .int a1]) z (some (.int r)) z := by
  rw [fM_seenBy] at h
  refine u_start RX10 rfl (by decide) (fun _ _ => Nat.le_of_ble_eq_true rfl) (fun p e s m args below meth c R D ad cs sd A Q ls X hP hS hl hr hret => ?_)
  have hl : lv_has ls 5 [(0, .ref (ad 56)), (1, .int a0), (2, .int a1)] := hl
  refine u_aload_n X hl dX10_seenBy_0 0 rfl ?_
  refine u_iload_n X hl dX10_seenBy_1 1 rfl ?_
  obtain ⟨w2, hc2, h⟩ := ob_inv h
  refine u_callVi X hP hS hl dX10_seenBy_2 (cM_twoOn l hc2) cw_X10_248 io_56 rfl rfl rfl rfl ⟨rfl, rfl⟩ (fun H locs hP hS => ?_)
  refine u_istore_n [(3, .int w2), (0, .ref (ad 56)), (1, .int a0), (2, .int a1)] X hl dX10_seenBy_5 (Nat.le_of_ble_eq_true rfl) rfl (fun ls hl => ?_)
  refine u_aload_n X hl dX10_seenBy_6 1 rfl ?_
  refine gf_X10_25_56 X hP dX10_seenBy_7 ?_
  refine u_iconst (v := 2) X dX10_seenBy_10 rfl ?_
  refine ld_62 (w := 2) X hP rfl (by decide) dX10_seenBy_11 ?_
  refine u_iload_n X hl dX10_seenBy_12 3 rfl ?_
  have J22 : ∀ (H : Heap) (locs : List Loc) (ls : Array Slot) (s1_22 : Int32), lv_has ls 5 [(0, .ref (ad 56)), (1, .int a0), (3, .int w2)] → va_P D clss (wld cs ad z) H → va_S A s.heap H locs → fM_seenBy_J22 z a0 w2 (gI z 62 2) s1_22 = some r → W p l e R s m args below meth c H locs 0 0 Q (F0 m 22 ls [.int s1_22, .int (gI z 62 2)]) := by
    intro H locs ls s1_22 hl hP hS h
    rw [fM_seenBy_J22] at h
    refine u_iadd X dX10_seenBy_22 ?_
    refine u_istore [(4, .int ((gI z 62 2) + s1_22)), (0, .ref (ad 56)), (1, .int a0), (3, .int w2)] X hl dX10_seenBy_23 (Nat.le_of_ble_eq_true rfl) rfl (fun ls hl => ?_)
    refine u_iload X hl dX10_seenBy_25 0 rfl ?_
    refine u_aload_n X hl dX10_seenBy_27 1 rfl ?_
    refine u_iload_n X hl dX10_seenBy_28 2 rfl ?_
    refine u_iconst (v := 3) X dX10_seenBy_29 rfl ?_
    refine u_iload_n X hl dX10_seenBy_30 3 rfl ?_
    obtain ⟨w31, hc31, h⟩ := ob_inv h
    refine u_callVi X hP hS hl dX10_seenBy_31 (cM_isNeither l hc31) cw_X10_258 io_56 rfl rfl rfl rfl ⟨rfl, rfl⟩ (fun H locs hP hS => ?_)
    have J47 : ∀ (H : Heap) (locs : List Loc) (ls : Array Slot) (s1_47 : Int32), lv_has ls 5 [(0, .ref (ad 56)), (1, .int a0), (3, .int w2)] → va_P D clss (wld cs ad z) H → va_S A s.heap H locs → fM_seenBy_J47 z a0 w2 ((gI z 62 2) + s1_22) s1_47 = some r → W p l e R s m args below meth c H locs 0 0 Q (F0 m 47 ls [.int s1_47, .int ((gI z 62 2) + s1_22)]) := by
      intro H locs ls s1_47 hl hP hS h
      rw [fM_seenBy_J47] at h
      refine u_iadd X dX10_seenBy_47 ?_
      refine u_istore [(4, .int (((gI z 62 2) + s1_22) + s1_47)), (0, .ref (ad 56)), (1, .int a0), (3, .int w2)] X hl dX10_seenBy_48 (Nat.le_of_ble_eq_true rfl) rfl (fun ls hl => ?_)
      refine u_iload X hl dX10_seenBy_50 0 rfl ?_
      refine u_aload_n X hl dX10_seenBy_52 1 rfl ?_
      refine u_iload_n X hl dX10_seenBy_53 2 rfl ?_
      refine u_iconst (v := 2) X dX10_seenBy_54 rfl ?_
      refine u_iload_n X hl dX10_seenBy_55 3 rfl ?_
      obtain ⟨w56, hc56, h⟩ := ob_inv h
      refine u_callVi X hP hS hl dX10_seenBy_56 (cM_isNeither l hc56) cw_X10_258 io_56 rfl rfl rfl rfl ⟨rfl, rfl⟩ (fun H locs hP hS => ?_)
      have J72 : ∀ (H : Heap) (locs : List Loc) (ls : Array Slot) (s1_72 : Int32), lv_has ls 5 [] → va_P D clss (wld cs ad z) H → va_S A s.heap H locs → fM_seenBy_J72 z (((gI z 62 2) + s1_22) + s1_47) s1_72 = some r → W p l e R s m args below meth c H locs 0 0 Q (F0 m 72 ls [.int s1_72, .int (((gI z 62 2) + s1_22) + s1_47)]) := by
        intro H locs ls s1_72 hl hP hS h
        rw [fM_seenBy_J72] at h
        refine u_iadd X dX10_seenBy_72 ?_
        refine u_istore [(4, .int ((((gI z 62 2) + s1_22) + s1_47) + s1_72))] X hl dX10_seenBy_73 (Nat.le_of_ble_eq_true rfl) rfl (fun ls hl => ?_)
        refine u_iload X hl dX10_seenBy_75 0 rfl ?_
        refine u_bipush (v := 12) X dX10_seenBy_77 rfl ?_
        refine u_icmp_le 87 X dX10_seenBy_79 rfl (fun hc => ?_) (fun hc => ?_)
        · rw [if_pos hc] at h
          refine u_iload X hl dX10_seenBy_87 0 rfl ?_
          exact u_iretP X hr hret h hP hS dX10_seenBy_89
        · rw [if_neg hc] at h
          refine u_bipush (v := 12) X dX10_seenBy_82 rfl ?_
          refine u_goto 89 X dX10_seenBy_84 rfl ?_
          exact u_iretP X hr hret h hP hS dX10_seenBy_89
      refine u_if_eq 71 X dX10_seenBy_59 rfl (fun hc => ?_) (fun hc => ?_)
      · rw [if_pos hc] at h
        refine u_iconst (v := 0) X dX10_seenBy_71 rfl ?_
        exact J72 _ _ _ _ (lv_sub hl [] rfl) hP hS h
      · rw [if_neg hc] at h
        refine u_aload_n X hl dX10_seenBy_62 1 rfl ?_
        refine gf_X10_25_56 X hP dX10_seenBy_63 ?_
        refine u_iconst (v := 4) X dX10_seenBy_66 rfl ?_
        refine ld_62 (w := 4) X hP rfl (by decide) dX10_seenBy_67 ?_
        refine u_goto 72 X dX10_seenBy_68 rfl ?_
        exact J72 _ _ _ _ (lv_sub hl [] rfl) hP hS h
    refine u_if_eq 46 X dX10_seenBy_34 rfl (fun hc => ?_) (fun hc => ?_)
    · rw [if_pos hc] at h
      refine u_iconst (v := 0) X dX10_seenBy_46 rfl ?_
      exact J47 _ _ _ _ (lv_sub hl [1, 2, 3] rfl) hP hS h
    · rw [if_neg hc] at h
      refine u_aload_n X hl dX10_seenBy_37 1 rfl ?_
      refine gf_X10_25_56 X hP dX10_seenBy_38 ?_
      refine u_iconst (v := 3) X dX10_seenBy_41 rfl ?_
      refine ld_62 (w := 3) X hP rfl (by decide) dX10_seenBy_42 ?_
      refine u_goto 47 X dX10_seenBy_43 rfl ?_
      exact J47 _ _ _ _ (lv_sub hl [1, 2, 3] rfl) hP hS h
  refine u_if_eq 21 X dX10_seenBy_13 rfl (fun hc => ?_) (fun hc => ?_)
  · rw [if_pos hc] at h
    refine u_iconst (v := 0) X dX10_seenBy_21 rfl ?_
    exact J22 _ _ _ _ (lv_sub hl [1, 2, 0] rfl) hP hS h
  · rw [if_neg hc] at h
    refine u_bipush (v := 6) X dX10_seenBy_16 rfl ?_
    refine u_goto 22 X dX10_seenBy_18 rfl ?_
    exact J22 _ _ _ _ (lv_sub hl [1, 2, 0] rfl) hP hS h
def fM_isSurprise (z : MS) (a0 : Int32) : Int32 :=
  if (((gI z 56 5) >>> (a0 &&& 31)) &&& 1) = 1 then 1 else 0
theorem fM_isSurprise_b (z : MS) (a0 : Int32) : fM_isSurprise z a0 = 0 ∨ fM_isSurprise z a0 = 1 := by
  unfold fM_isSurprise
  (repeat' split) <;> first | with_reducible exact Or.inl rfl | with_reducible exact Or.inr rfl
set_option maxRecDepth 4000 in
theorem cM_isSurprise (l : Launch) (z : MS) (a0 : Int32) : CT l yX10_isSurprise cX10_isSurprise 2 (some .boolean) 0 0 (fun ad sd => [.ref (ad 56), .int a0]) z (some (.int (fM_isSurprise z a0))) z := by
  generalize h : fM_isSurprise z a0 = r
  rw [fM_isSurprise] at h
  refine u_start RX10 rfl (by decide) (fun _ _ => Nat.le_of_ble_eq_true rfl) (fun p e s m args below meth c R D ad cs sd A Q ls X hP hS hl hr hret => ?_)
  have hl : lv_has ls 2 [(0, .ref (ad 56)), (1, .int a0)] := hl
  refine u_aload_n X hl dX10_isSurprise_0 0 rfl ?_
  refine gf_X10_220_56 X hP dX10_isSurprise_1 ?_
  refine u_iload_n X hl dX10_isSurprise_4 1 rfl ?_
  refine u_ishr X dX10_isSurprise_5 ?_
  refine u_iconst (v := 1) X dX10_isSurprise_6 rfl ?_
  refine u_iand X dX10_isSurprise_7 ?_
  refine u_iconst (v := 1) X dX10_isSurprise_8 rfl ?_
  refine u_icmp_ne 16 X dX10_isSurprise_9 rfl (fun hc => ?_) (fun hc => ?_)
  · rw [if_neg hc] at h
    refine u_iconst (v := 0) X dX10_isSurprise_16 rfl ?_
    exact u_zretT X hr hret h hP hS (Or.inl rfl) dX10_isSurprise_17
  · rw [if_pos hc] at h
    refine u_iconst (v := 1) X dX10_isSurprise_12 rfl ?_
    refine u_goto 17 X dX10_isSurprise_13 rfl ?_
    exact u_zretT X hr hret h hP hS (Or.inr rfl) dX10_isSurprise_17
def fM_seen (z : MS) (a0 : Int32) : Option Int32 :=
  if (fM_isDay a0) = 0 then some (-1) else Option.bind (fM_twoOn z a0) (fun w11 => if 0 ≤ w11 then Option.bind (fM_seenBy z a0 (fM_isSurprise z a0)) (fun w29 => some w29) else some (-3))
set_option maxRecDepth 4000 in
theorem cM_seen (l : Launch) {z : MS} {a0 : Int32} {r : Int32} (h : fM_seen z a0 = some r) : CT l yX10_seen cX10_seen 2 (some .int) 3 70 (fun ad sd => [.ref (ad 56), .int a0]) z (some (.int r)) z := by
  rw [fM_seen] at h
  refine u_start RX10 rfl (by decide) (fun _ _ => Nat.le_of_ble_eq_true rfl) (fun p e s m args below meth c R D ad cs sd A Q ls X hP hS hl hr hret => ?_)
  have hl : lv_has ls 2 [(0, .ref (ad 56)), (1, .int a0)] := hl
  refine u_iload_n X hl dX10_seen_0 1 rfl ?_
  refine u_callSi X hP hS hl dX10_seen_1 (cM_isDay l z a0) cw_X10_233 rfl rfl rfl rfl ⟨rfl, rfl⟩ (fun H locs hP hS => ?_)
  refine u_if_ne 9 X dX10_seen_4 rfl (fun hc => ?_) (fun hc => ?_)
  · rw [if_neg hc] at h
    refine u_aload_n X hl dX10_seen_9 0 rfl ?_
    refine u_iload_n X hl dX10_seen_10 1 rfl ?_
    obtain ⟨w11, hc11, h⟩ := ob_inv h
    refine u_callVi X hP hS hl dX10_seen_11 (cM_twoOn l hc11) cw_X10_248 io_56 rfl rfl rfl rfl ⟨rfl, rfl⟩ (fun H locs hP hS => ?_)
    refine u_if_ge 22 X dX10_seen_14 rfl (fun hc => ?_) (fun hc => ?_)
    · rw [if_pos hc] at h
      refine u_aload_n X hl dX10_seen_22 0 rfl ?_
      refine u_iload_n X hl dX10_seen_23 1 rfl ?_
      refine u_aload_n X hl dX10_seen_24 0 rfl ?_
      refine u_iload_n X hl dX10_seen_25 1 rfl ?_
      refine u_callVi X hP hS hl dX10_seen_26 (cM_isSurprise l z a0) cw_X10_261 io_56 rfl rfl rfl rfl ⟨rfl, rfl⟩ (fun H locs hP hS => ?_)
      obtain ⟨w29, hc29, h⟩ := ob_inv h
      refine u_callVi X hP hS hl dX10_seen_29 (cM_seenBy l hc29) cw_X10_264 io_56 rfl rfl rfl rfl ⟨rfl, rfl⟩ (fun H locs hP hS => ?_)
      exact u_iretP X hr hret h hP hS dX10_seen_32
    · rw [if_neg hc] at h
      refine u_bipush (v := (-3)) X dX10_seen_17 rfl ?_
      refine u_goto 32 X dX10_seen_19 rfl ?_
      exact u_iretP X hr hret h hP hS dX10_seen_32
  · rw [if_pos hc] at h
    refine u_iconst (v := (-1)) X dX10_seen_7 rfl ?_
    exact u_iretP X hr hret h hP hS dX10_seen_8
def fM_worthBy (z : MS) (a0 : Int32) (a1 : Int32) : Option Int32 :=
  Option.bind (fM_twoOn z a0) (fun w2 => Option.bind (fM_trustOf z (w2 / 8) (irm w2 8) a0) (fun w25 => Option.bind (fM_seenBy z a0 a1) (fun w38 => some (((12 * (gI z 62 0)) * w25) - ((gI z 62 1) * w38)))))
set_option maxRecDepth 4000 in
theorem cM_worthBy (l : Launch) {z : MS} {a0 : Int32} {a1 : Int32} {r : Int32} (h : fM_worthBy z a0 a1 = some r) : CT l yX10_worthBy cX10_worthBy 4 (some .int) 3 70 (fun ad sd => [.ref (ad 56), .int a0, .int a1]) z (some (.int r)) z := by
  rw [fM_worthBy] at h
  refine u_start RX10 rfl (by decide) (fun _ _ => Nat.le_of_ble_eq_true rfl) (fun p e s m args below meth c R D ad cs sd A Q ls X hP hS hl hr hret => ?_)
  have hl : lv_has ls 4 [(0, .ref (ad 56)), (1, .int a0), (2, .int a1)] := hl
  refine u_aload_n X hl dX10_worthBy_0 0 rfl ?_
  refine u_iload_n X hl dX10_worthBy_1 1 rfl ?_
  obtain ⟨w2, hc2, h⟩ := ob_inv h
  refine u_callVi X hP hS hl dX10_worthBy_2 (cM_twoOn l hc2) cw_X10_248 io_56 rfl rfl rfl rfl ⟨rfl, rfl⟩ (fun H locs hP hS => ?_)
  refine u_istore_n [(3, .int w2), (0, .ref (ad 56)), (1, .int a0), (2, .int a1)] X hl dX10_worthBy_5 (Nat.le_of_ble_eq_true rfl) rfl (fun ls hl => ?_)
  refine u_bipush (v := 12) X dX10_worthBy_6 rfl ?_
  refine u_aload_n X hl dX10_worthBy_8 1 rfl ?_
  refine gf_X10_25_56 X hP dX10_worthBy_9 ?_
  refine u_iconst (v := 0) X dX10_worthBy_12 rfl ?_
  refine ld_62 (w := 0) X hP rfl (by decide) dX10_worthBy_13 ?_
  refine u_imul X dX10_worthBy_14 ?_
  refine u_aload_n X hl dX10_worthBy_15 1 rfl ?_
  refine u_iload_n X hl dX10_worthBy_16 0 rfl ?_
  refine u_bipush (v := 8) X dX10_worthBy_17 rfl ?_
  refine u_idiv X (by decide) dX10_worthBy_19 ?_
  refine u_iload_n X hl dX10_worthBy_20 0 rfl ?_
  refine u_bipush (v := 8) X dX10_worthBy_21 rfl ?_
  refine u_irem X (by decide) dX10_worthBy_23 ?_
  refine u_iload_n X hl dX10_worthBy_24 2 rfl ?_
  obtain ⟨w25, hc25, h⟩ := ob_inv h
  refine u_callVi X hP hS hl dX10_worthBy_25 (cM_trustOf l hc25) cw_X10_254 io_56 rfl rfl rfl rfl ⟨rfl, rfl⟩ (fun H locs hP hS => ?_)
  refine u_imul X dX10_worthBy_28 ?_
  refine u_aload_n X hl dX10_worthBy_29 1 rfl ?_
  refine gf_X10_25_56 X hP dX10_worthBy_30 ?_
  refine u_iconst (v := 1) X dX10_worthBy_33 rfl ?_
  refine ld_62 (w := 1) X hP rfl (by decide) dX10_worthBy_34 ?_
  refine u_aload_n X hl dX10_worthBy_35 1 rfl ?_
  refine u_iload_n X hl dX10_worthBy_36 2 rfl ?_
  refine u_iload_n X hl dX10_worthBy_37 3 rfl ?_
  obtain ⟨w38, hc38, h⟩ := ob_inv h
  refine u_callVi X hP hS hl dX10_worthBy_38 (cM_seenBy l hc38) cw_X10_264 io_56 rfl rfl rfl rfl ⟨rfl, rfl⟩ (fun H locs hP hS => ?_)
  refine u_imul X dX10_worthBy_41 ?_
  refine u_isub X dX10_worthBy_42 ?_
  exact u_iretP X hr hret h hP hS dX10_worthBy_43
def fM_worth (z : MS) (a0 : Int32) : Option Int32 :=
  if (fM_isDay a0) = 0 then some (-1) else Option.bind (fM_twoOn z a0) (fun w11 => if 0 ≤ w11 then Option.bind (fM_worthBy z a0 (fM_isSurprise z a0)) (fun w32 => some (10000 + w32)) else some (-3))
set_option maxRecDepth 4000 in
theorem cM_worth (l : Launch) {z : MS} {a0 : Int32} {r : Int32} (h : fM_worth z a0 = some r) : CT l yX10_worth cX10_worth 2 (some .int) 4 93 (fun ad sd => [.ref (ad 56), .int a0]) z (some (.int r)) z := by
  rw [fM_worth] at h
  refine u_start RX10 rfl (by decide) (fun _ _ => Nat.le_of_ble_eq_true rfl) (fun p e s m args below meth c R D ad cs sd A Q ls X hP hS hl hr hret => ?_)
  have hl : lv_has ls 2 [(0, .ref (ad 56)), (1, .int a0)] := hl
  refine u_iload_n X hl dX10_worth_0 1 rfl ?_
  refine u_callSi X hP hS hl dX10_worth_1 (cM_isDay l z a0) cw_X10_233 rfl rfl rfl rfl ⟨rfl, rfl⟩ (fun H locs hP hS => ?_)
  refine u_if_ne 9 X dX10_worth_4 rfl (fun hc => ?_) (fun hc => ?_)
  · rw [if_neg hc] at h
    refine u_aload_n X hl dX10_worth_9 0 rfl ?_
    refine u_iload_n X hl dX10_worth_10 1 rfl ?_
    obtain ⟨w11, hc11, h⟩ := ob_inv h
    refine u_callVi X hP hS hl dX10_worth_11 (cM_twoOn l hc11) cw_X10_248 io_56 rfl rfl rfl rfl ⟨rfl, rfl⟩ (fun H locs hP hS => ?_)
    refine u_if_ge 22 X dX10_worth_14 rfl (fun hc => ?_) (fun hc => ?_)
    · rw [if_pos hc] at h
      refine u_sipush (v := 10000) X dX10_worth_22 rfl ?_
      refine u_aload_n X hl dX10_worth_25 0 rfl ?_
      refine u_iload_n X hl dX10_worth_26 1 rfl ?_
      refine u_aload_n X hl dX10_worth_27 0 rfl ?_
      refine u_iload_n X hl dX10_worth_28 1 rfl ?_
      refine u_callVi X hP hS hl dX10_worth_29 (cM_isSurprise l z a0) cw_X10_261 io_56 rfl rfl rfl rfl ⟨rfl, rfl⟩ (fun H locs hP hS => ?_)
      obtain ⟨w32, hc32, h⟩ := ob_inv h
      refine u_callVi X hP hS hl dX10_worth_32 (cM_worthBy l hc32) cw_X10_268 io_56 rfl rfl rfl rfl ⟨rfl, rfl⟩ (fun H locs hP hS => ?_)
      refine u_iadd X dX10_worth_35 ?_
      exact u_iretP X hr hret h hP hS dX10_worth_36
    · rw [if_neg hc] at h
      refine u_bipush (v := (-3)) X dX10_worth_17 rfl ?_
      refine u_goto 36 X dX10_worth_19 rfl ?_
      exact u_iretP X hr hret h hP hS dX10_worth_36
  · rw [if_pos hc] at h
    refine u_iconst (v := (-1)) X dX10_worth_7 rfl ?_
    exact u_iretP X hr hret h hP hS dX10_worth_8
def fM_paysBy (z : MS) (a0 : Int32) (a1 : Int32) (a2 : Int32) : Option Int32 :=
  Option.bind (fM_twoOn z a0) (fun w2 => if 0 ≤ w2 then Option.bind (fM_worthBy z a0 a1) (fun w13 => if w13 ≤ 0 then some 0 else (if w13 ≤ (24 * a2) then some 0 else some 1)) else some 0)
set_option maxRecDepth 4000 in
theorem cM_paysBy (l : Launch) {z : MS} {a0 : Int32} {a1 : Int32} {a2 : Int32} {r : Int32} (h : fM_paysBy z a0 a1 a2 = some r) : CT l yX10_paysBy cX10_paysBy 5 (some .boolean) 4 93 (fun ad sd => [.ref (ad 56), .int a0, .int a1, .int a2]) z (some (.int r)) z := by
  rw [fM_paysBy] at h
  refine u_start RX10 rfl (by decide) (fun _ _ => Nat.le_of_ble_eq_true rfl) (fun p e s m args below meth c R D ad cs sd A Q ls X hP hS hl hr hret => ?_)
  have hl : lv_has ls 5 [(0, .ref (ad 56)), (1, .int a0), (2, .int a1), (3, .int a2)] := hl
  refine u_aload_n X hl dX10_paysBy_0 0 rfl ?_
  refine u_iload_n X hl dX10_paysBy_1 1 rfl ?_
  obtain ⟨w2, hc2, h⟩ := ob_inv h
  refine u_callVi X hP hS hl dX10_paysBy_2 (cM_twoOn l hc2) cw_X10_248 io_56 rfl rfl rfl rfl ⟨rfl, rfl⟩ (fun H locs hP hS => ?_)
  refine u_if_ge 10 X dX10_paysBy_5 rfl (fun hc => ?_) (fun hc => ?_)
  · rw [if_pos hc] at h
    refine u_aload_n X hl dX10_paysBy_10 0 rfl ?_
    refine u_iload_n X hl dX10_paysBy_11 1 rfl ?_
    refine u_iload_n X hl dX10_paysBy_12 2 rfl ?_
    obtain ⟨w13, hc13, h⟩ := ob_inv h
    refine u_callVi X hP hS hl dX10_paysBy_13 (cM_worthBy l hc13) cw_X10_268 io_56 rfl rfl rfl rfl ⟨rfl, rfl⟩ (fun H locs hP hS => ?_)
    refine u_istore [(4, .int w13), (0, .ref (ad 56)), (1, .int a0), (2, .int a1), (3, .int a2)] X hl dX10_paysBy_16 (Nat.le_of_ble_eq_true rfl) rfl (fun ls hl => ?_)
    refine u_iload X hl dX10_paysBy_18 0 rfl ?_
    refine u_if_le 36 X dX10_paysBy_20 rfl (fun hc => ?_) (fun hc => ?_)
    · rw [if_pos hc] at h
      refine u_iconst (v := 0) X dX10_paysBy_36 rfl ?_
      exact u_zretP X hr hret h hP hS (Or.inl rfl) dX10_paysBy_37
    · rw [if_neg hc] at h
      refine u_iload X hl dX10_paysBy_23 0 rfl ?_
      refine u_bipush (v := 24) X dX10_paysBy_25 rfl ?_
      refine u_iload_n X hl dX10_paysBy_27 4 rfl ?_
      refine u_imul X dX10_paysBy_28 ?_
      refine u_icmp_le 36 X dX10_paysBy_29 rfl (fun hc => ?_) (fun hc => ?_)
      · rw [if_pos hc] at h
        refine u_iconst (v := 0) X dX10_paysBy_36 rfl ?_
        exact u_zretP X hr hret h hP hS (Or.inl rfl) dX10_paysBy_37
      · rw [if_neg hc] at h
        refine u_iconst (v := 1) X dX10_paysBy_32 rfl ?_
        refine u_goto 37 X dX10_paysBy_33 rfl ?_
        exact u_zretP X hr hret h hP hS (Or.inr rfl) dX10_paysBy_37
  · rw [if_neg hc] at h
    refine u_iconst (v := 0) X dX10_paysBy_8 rfl ?_
    exact u_zretP X hr hret h hP hS (Or.inl rfl) dX10_paysBy_9
def fM_pays_L4 (z : MS) : Nat → Int32 → Int32 → Option Int32
  | 0, _, _ => none
  | n + 1, l1, l2 => if 10 ≤ l2 then some l1 else Option.bind (fM_paysBy z l2 (fM_isSurprise z l2) (gI z 62 6)) (fun w25 => if w25 = 0 then fM_pays_L4 z n (l1 ||| 0) (l2 + 1) else fM_pays_L4 z n (l1 ||| ((1 : Int32) <<< (l2 &&& 31))) (l2 + 1))
def fM_pays (z : MS) : Option Int32 :=
  fM_pays_L4 z LF 0 0
set_option maxRecDepth 4000 in
theorem cM_pays (l : Launch) {z : MS} {r : Int32} (h : fM_pays z = some r) : CT l yX10_pays cX10_pays 3 (some .int) 5 117 (fun ad sd => [.ref (ad 56)]) z (some (.int r)) z := by
  rw [fM_pays] at h
  refine u_start RX10 rfl (by decide) (fun _ _ => Nat.le_of_ble_eq_true rfl) (fun p e s m args below meth c R D ad cs sd A Q ls X hP hS hl hr hret => ?_)
  have hl : lv_has ls 3 [(0, .ref (ad 56))] := hl
  refine u_iconst (v := 0) X dX10_pays_0 rfl ?_
  refine u_istore_n [(1, .int 0), (0, .ref (ad 56))] X hl dX10_pays_1 (Nat.le_of_ble_eq_true rfl) rfl (fun ls hl => ?_)
  refine u_iconst (v := 0) X dX10_pays_2 rfl ?_
  refine u_istore_n [(2, .int 0), (1, .int 0), (0, .ref (ad 56))] X hl dX10_pays_3 (Nat.le_of_ble_eq_true rfl) rfl (fun ls hl => ?_)
  have L4 : ∀ (n : Nat) (H : Heap) (locs : List Loc) (ls : Array Slot) (l1_4 : Int32) (l2_4 : Int32), lv_has ls 3 [(0, .ref (ad 56)), (1, .int l1_4), (2, .int l2_4)] → va_P D clss (wld cs ad z) H → va_S A s.heap H locs → fM_pays_L4 z n l1_4 l2_4 = some r → W p l e R s m args below meth c H locs 0 0 Q (F0 m 4 ls []) := by
    intro n
    induction n with
    | zero =>
      intro H locs ls l1_4 l2_4 hl hP hS h
      rw [fM_pays_L4] at h
      cases h
    | succ n4 ih4 =>
      intro H locs ls l1_4 l2_4 hl hP hS h
      rw [fM_pays_L4] at h
      refine u_iload_n X hl dX10_pays_4 2 rfl ?_
      refine u_bipush (v := 10) X dX10_pays_5 rfl ?_
      refine u_icmp_ge 46 X dX10_pays_7 rfl (fun hc => ?_) (fun hc => ?_)
      · rw [if_pos hc] at h
        refine u_iload_n X hl dX10_pays_46 1 rfl ?_
        exact u_iretP X hr hret h hP hS dX10_pays_47
      · rw [if_neg hc] at h
        refine u_iload_n X hl dX10_pays_10 1 rfl ?_
        refine u_aload_n X hl dX10_pays_11 0 rfl ?_
        refine u_iload_n X hl dX10_pays_12 2 rfl ?_
        refine u_aload_n X hl dX10_pays_13 0 rfl ?_
        refine u_iload_n X hl dX10_pays_14 2 rfl ?_
        refine u_callVi X hP hS hl dX10_pays_15 (cM_isSurprise l z l2_4) cw_X10_261 io_56 rfl rfl rfl rfl ⟨rfl, rfl⟩ (fun H locs hP hS => ?_)
        refine u_aload_n X hl dX10_pays_18 0 rfl ?_
        refine gf_X10_25_56 X hP dX10_pays_19 ?_
        refine u_bipush (v := 6) X dX10_pays_22 rfl ?_
        refine ld_62 (w := 6) X hP rfl (by decide) dX10_pays_24 ?_
        obtain ⟨w25, hc25, h⟩ := ob_inv h
        refine u_callVi X hP hS hl dX10_pays_25 (cM_paysBy l hc25) cw_X10_271 io_56 rfl rfl rfl rfl ⟨rfl, rfl⟩ (fun H locs hP hS => ?_)
        refine u_if_eq 37 X dX10_pays_28 rfl (fun hc => ?_) (fun hc => ?_)
        · rw [if_pos hc] at h
          refine u_iconst (v := 0) X dX10_pays_37 rfl ?_
          refine u_ior X dX10_pays_38 ?_
          refine u_istore_n [(1, .int (l1_4 ||| 0)), (0, .ref (ad 56)), (2, .int l2_4)] X hl dX10_pays_39 (Nat.le_of_ble_eq_true rfl) rfl (fun ls hl => ?_)
          refine u_iinc [(2, .int (l2_4 + 1)), (1, .int (l1_4 ||| 0)), (0, .ref (ad 56))] X hl dX10_pays_40 2 rfl rfl (Nat.le_of_ble_eq_true rfl) rfl (fun ls hl => ?_)
          refine u_goto 4 X dX10_pays_43 rfl ?_
          exact ih4 _ _ _ _ _ (lv_sub hl [2, 1, 0] rfl) hP hS h
        · rw [if_neg hc] at h
          refine u_iconst (v := 1) X dX10_pays_31 rfl ?_
          refine u_iload_n X hl dX10_pays_32 2 rfl ?_
          refine u_ishl X dX10_pays_33 ?_
          refine u_goto 38 X dX10_pays_34 rfl ?_
          refine u_ior X dX10_pays_38 ?_
          refine u_istore_n [(1, .int (l1_4 ||| ((1 : Int32) <<< (l2_4 &&& 31)))), (0, .ref (ad 56)), (2, .int l2_4)] X hl dX10_pays_39 (Nat.le_of_ble_eq_true rfl) rfl (fun ls hl => ?_)
          refine u_iinc [(2, .int (l2_4 + 1)), (1, .int (l1_4 ||| ((1 : Int32) <<< (l2_4 &&& 31)))), (0, .ref (ad 56))] X hl dX10_pays_40 2 rfl rfl (Nat.le_of_ble_eq_true rfl) rfl (fun ls hl => ?_)
          refine u_goto 4 X dX10_pays_43 rfl ?_
          exact ih4 _ _ _ _ _ (lv_sub hl [2, 1, 0] rfl) hP hS h
  exact L4 LF _ _ _ _ _ (lv_sub hl [2, 1, 0] rfl) hP hS h
def fM_lowest_L6 (z : MS) (l1 : Int64) (l3 : Int64) : Nat → Int64 → Int64 → Option MS
  | 0, _, _ => none
  | n + 1, l5, l7 => if (lg_cmp l7 0) = 0 then (if l5 = 0 then none else if l5 = 0 then none else some (pJ (pJ z 56 25 (l1 / l5)) 56 26 (l3 / l5))) else (if l7 = 0 then none else fM_lowest_L6 z l1 l3 n l7 (lrm l5 l7))
def fM_lowest (z : MS) (a0 : Int64) (a1 : Int64) : Option MS :=
  fM_lowest_L6 z a0 a1 LF a0 a1
set_option maxRecDepth 4000 in
theorem cM_lowest (l : Launch) {z : MS} {a0 : Int64} {a1 : Int64} {z1 : MS} (h : fM_lowest z a0 a1 = some z1) : CT l yX10_lowest cX10_lowest 11 none 0 0 (fun ad sd => [.ref (ad 56), .long a0, .long a1]) z none z1 := by
  rw [fM_lowest] at h
  refine u_start RX10 rfl (by decide) (fun _ _ => Nat.le_of_ble_eq_true rfl) (fun p e s m args below meth c R D ad cs sd A Q ls X hP hS hl hr hret => ?_)
  have hl : lv_has ls 11 [(0, .ref (ad 56)), (1, .long a0), (3, .long a1)] := hl
  refine u_lload_n X hl dX10_lowest_0 1 rfl ?_
  refine u_lstore [(5, .long a0), (0, .ref (ad 56)), (1, .long a0), (3, .long a1)] X hl dX10_lowest_1 (Nat.le_of_ble_eq_true rfl) rfl (fun ls hl => ?_)
  refine u_lload_n X hl dX10_lowest_3 3 rfl ?_
  refine u_lstore [(7, .long a1), (5, .long a0), (0, .ref (ad 56)), (1, .long a0), (3, .long a1)] X hl dX10_lowest_4 (Nat.le_of_ble_eq_true rfl) rfl (fun ls hl => ?_)
  have L6 : ∀ (n : Nat) (H : Heap) (locs : List Loc) (ls : Array Slot) (l5_6 : Int64) (l7_6 : Int64), lv_has ls 11 [(0, .ref (ad 56)), (1, .long a0), (3, .long a1), (5, .long l5_6), (7, .long l7_6)] → va_P D clss (wld cs ad z) H → va_S A s.heap H locs → fM_lowest_L6 z a0 a1 n l5_6 l7_6 = some z1 → W p l e R s m args below meth c H locs 0 0 Q (F0 m 6 ls []) := by
    intro n
    induction n with
    | zero =>
      intro H locs ls l5_6 l7_6 hl hP hS h
      rw [fM_lowest_L6] at h
      cases h
    | succ n6 ih6 =>
      intro H locs ls l5_6 l7_6 hl hP hS h
      rw [fM_lowest_L6] at h
      refine u_lload X hl dX10_lowest_6 4 rfl ?_
      refine u_lconst (v := 0) X dX10_lowest_8 rfl ?_
      refine u_lcmp X dX10_lowest_9 ?_
      refine u_if_eq 31 X dX10_lowest_10 rfl (fun hc => ?_) (fun hc => ?_)
      · rw [if_pos hc] at h
        refine u_aload_n X hl dX10_lowest_31 0 rfl ?_
        refine u_lload_n X hl dX10_lowest_32 1 rfl ?_
        refine u_lload X hl dX10_lowest_33 3 rfl ?_
        obtain ⟨hn, h⟩ := ifn_inv h
        refine u_ldiv X hn dX10_lowest_35 ?_
        refine pf_X10_275_56 X hP hS dX10_lowest_36 (fun H locs hP hS => ?_)
        refine u_aload_n X hl dX10_lowest_39 0 rfl ?_
        refine u_lload_n X hl dX10_lowest_40 2 rfl ?_
        refine u_lload X hl dX10_lowest_41 3 rfl ?_
        obtain ⟨hn, h⟩ := ifn_inv h
        refine u_ldiv X hn dX10_lowest_43 ?_
        refine pf_X10_278_56 X hP hS dX10_lowest_44 (fun H locs hP hS => ?_)
        exact u_vretM X hr hret h hP hS dX10_lowest_47
      · rw [if_neg hc] at h
        refine u_lload X hl dX10_lowest_13 3 rfl ?_
        refine u_lload X hl dX10_lowest_15 4 rfl ?_
        obtain ⟨hn, h⟩ := ifn_inv h
        refine u_lrem X hn dX10_lowest_17 ?_
        refine u_lstore [(9, .long (lrm l5_6 l7_6)), (0, .ref (ad 56)), (1, .long a0), (3, .long a1), (5, .long l5_6), (7, .long l7_6)] X hl dX10_lowest_18 (Nat.le_of_ble_eq_true rfl) rfl (fun ls hl => ?_)
        refine u_lload X hl dX10_lowest_20 5 rfl ?_
        refine u_lstore [(5, .long l7_6), (9, .long (lrm l5_6 l7_6)), (0, .ref (ad 56)), (1, .long a0), (3, .long a1), (7, .long l7_6)] X hl dX10_lowest_22 (Nat.le_of_ble_eq_true rfl) rfl (fun ls hl => ?_)
        refine u_lload X hl dX10_lowest_24 1 rfl ?_
        refine u_lstore [(7, .long (lrm l5_6 l7_6)), (5, .long l7_6), (9, .long (lrm l5_6 l7_6)), (0, .ref (ad 56)), (1, .long a0), (3, .long a1)] X hl dX10_lowest_26 (Nat.le_of_ble_eq_true rfl) rfl (fun ls hl => ?_)
        refine u_goto 6 X dX10_lowest_28 rfl ?_
        exact ih6 _ _ _ _ _ (lv_sub hl [3, 4, 5, 1, 0] rfl) hP hS h
  exact L6 LF _ _ _ _ _ (lv_sub hl [2, 3, 4, 1, 0] rfl) hP hS h
def fM_isSide (a0 : Int32) : Int32 :=
  fM_in a0 0 1
theorem fM_isSide_b (a0 : Int32) : fM_isSide a0 = 0 ∨ fM_isSide a0 = 1 := by
  unfold fM_isSide
  (repeat' split) <;> first | with_reducible exact Or.inl rfl | with_reducible exact Or.inr rfl | with_reducible exact fM_in_b _ _ _
set_option maxRecDepth 4000 in
theorem cM_isSide (l : Launch) (z : MS) (a0 : Int32) : CT l yX10_isSide cX10_isSide 1 (some .boolean) 1 22 (fun ad sd => [.int a0]) z (some (.int (fM_isSide a0))) z := by
  generalize h : fM_isSide a0 = r
  rw [fM_isSide] at h
  refine u_start RX10 rfl (by decide) (fun _ _ => Nat.le_of_ble_eq_true rfl) (fun p e s m args below meth c R D ad cs sd A Q ls X hP hS hl hr hret => ?_)
  have hl : lv_has ls 1 [(0, .int a0)] := hl
  refine u_iload_n X hl dX10_isSide_0 0 rfl ?_
  refine u_iconst (v := 0) X dX10_isSide_1 rfl ?_
  refine u_iconst (v := 1) X dX10_isSide_2 rfl ?_
  refine u_callSi X hP hS hl dX10_isSide_3 (cM_in l z a0 0 1) cw_X10_105 rfl rfl rfl rfl ⟨rfl, rfl⟩ (fun H locs hP hS => ?_)
  exact u_zretT X hr hret h hP hS (fM_in_b _ _ _) dX10_isSide_6
def fM_best_L30 (z : MS) (l1 : Int32) (l2 : Int32) (l3 : Int32) : Nat → Int64 → Int64 → Int32 → Option (Int64 × MS)
  | 0, _, _, _ => none
  | n + 1, l4, l6, l8 => if l8 < 0 then Option.bind (fM_lowest z l4 l6) (fun zc153 => if l3 = 0 then some (gJ zc153 56 25, zc153) else some (gJ zc153 56 26, zc153)) else Option.bind (fM_twoOn z l8) (fun w38 => if w38 = (fM_pair l1 l2) then Option.bind (fM_seenBy z l8 (fM_isSurprise z l8)) (fun w58 => Option.bind (fM_trustOf z l1 l2 l8) (fun w80 => if (lg_cmp (12 * l4) ((((12 - w58).toInt64) * (((((gI z 62 0) * w80).toInt64) * l6) + l4)) - ((w58.toInt64 * ((gI z 62 1).toInt64)) * l6))) ≤ 0 then fM_best_L30 z l1 l2 l3 n ((((12 - w58).toInt64) * (((((gI z 62 0) * w80).toInt64) * l6) + l4)) - ((w58.toInt64 * ((gI z 62 1).toInt64)) * l6)) (l6 * 12) (l8 + (-1)) else fM_best_L30 z l1 l2 l3 n (12 * l4) (l6 * 12) (l8 + (-1)))) else fM_best_L30 z l1 l2 l3 n l4 l6 (l8 + (-1)))
def fM_best (z : MS) (a0 : Int32) (a1 : Int32) (a2 : Int32) : Option (Int64 × MS) :=
  if (fM_areTwo z a0 a1) = 0 then some ((-1), z) else (if (fM_isSide a2) = 0 then some ((-1), z) else fM_best_L30 z a0 a1 a2 LF 0 1 9)
set_option maxRecDepth 4000 in
theorem cM_best (l : Launch) {z : MS} {a0 : Int32} {a1 : Int32} {a2 : Int32} {r : Int64} {z1 : MS} (h : fM_best z a0 a1 a2 = some (r, z1)) : CT l yX10_best cX10_best 12 (some .long) 3 70 (fun ad sd => [.ref (ad 56), .int a0, .int a1, .int a2]) z (some (.long r)) z1 := by
  rw [fM_best] at h
  refine u_start RX10 rfl (by decide) (fun _ _ => Nat.le_of_ble_eq_true rfl) (fun p e s m args below meth c R D ad cs sd A Q ls X hP hS hl hr hret => ?_)
  have hl : lv_has ls 12 [(0, .ref (ad 56)), (1, .int a0), (2, .int a1), (3, .int a2)] := hl
  refine u_aload_n X hl dX10_best_0 0 rfl ?_
  refine u_iload_n X hl dX10_best_1 1 rfl ?_
  refine u_iload_n X hl dX10_best_2 2 rfl ?_
  refine u_callVi X hP hS hl dX10_best_3 (cM_areTwo l z a0 a1) cw_X10_226 io_56 rfl rfl rfl rfl ⟨rfl, rfl⟩ (fun H locs hP hS => ?_)
  refine u_if_eq 16 X dX10_best_6 rfl (fun hc => ?_) (fun hc => ?_)
  · rw [if_pos hc] at h
    refine u_ldc2 X kw_X10_148 dX10_best_16 ?_
    exact u_lretM X hr hret h hP hS dX10_best_19
  · rw [if_neg hc] at h
    refine u_iload_n X hl dX10_best_9 3 rfl ?_
    refine u_callSi X hP hS hl dX10_best_10 (cM_isSide l z a2) cw_X10_281 rfl rfl rfl rfl ⟨rfl, rfl⟩ (fun H locs hP hS => ?_)
    refine u_if_ne 20 X dX10_best_13 rfl (fun hc => ?_) (fun hc => ?_)
    · rw [if_neg hc] at h
      refine u_lconst (v := 0) X dX10_best_20 rfl ?_
      refine u_lstore [(4, .long 0), (0, .ref (ad 56)), (1, .int a0), (2, .int a1), (3, .int a2)] X hl dX10_best_21 (Nat.le_of_ble_eq_true rfl) rfl (fun ls hl => ?_)
      refine u_lconst (v := 1) X dX10_best_23 rfl ?_
      refine u_lstore [(6, .long 1), (4, .long 0), (0, .ref (ad 56)), (1, .int a0), (2, .int a1), (3, .int a2)] X hl dX10_best_24 (Nat.le_of_ble_eq_true rfl) rfl (fun ls hl => ?_)
      refine u_bipush (v := 9) X dX10_best_26 rfl ?_
      refine u_istore [(8, .int 9), (6, .long 1), (4, .long 0), (0, .ref (ad 56)), (1, .int a0), (2, .int a1), (3, .int a2)] X hl dX10_best_28 (Nat.le_of_ble_eq_true rfl) rfl (fun ls hl => ?_)
      have L30 : ∀ (n : Nat) (H : Heap) (locs : List Loc) (ls : Array Slot) (l4_30 : Int64) (l6_30 : Int64) (l8_30 : Int32), lv_has ls 12 [(0, .ref (ad 56)), (1, .int a0), (2, .int a1), (3, .int a2), (4, .long l4_30), (6, .long l6_30), (8, .int l8_30)] → va_P D clss (wld cs ad z) H → va_S A s.heap H locs → fM_best_L30 z a0 a1 a2 n l4_30 l6_30 l8_30 = some (r, z1) → W p l e R s m args below meth c H locs 0 0 Q (F0 m 30 ls []) := by
        intro n
        induction n with
        | zero =>
          intro H locs ls l4_30 l6_30 l8_30 hl hP hS h
          rw [fM_best_L30] at h
          cases h
        | succ n30 ih30 =>
          intro H locs ls l4_30 l6_30 l8_30 hl hP hS h
          rw [fM_best_L30] at h
          refine u_iload X hl dX10_best_30 6 rfl ?_
          refine u_if_lt 148 X dX10_best_32 rfl (fun hc => ?_) (fun hc => ?_)
          · rw [if_pos hc] at h
            refine u_aload_n X hl dX10_best_148 0 rfl ?_
            refine u_lload X hl dX10_best_149 4 rfl ?_
            refine u_lload X hl dX10_best_151 5 rfl ?_
            obtain ⟨zc153, hc153, h⟩ := ob_inv h
            refine u_callVv X hP hS hl dX10_best_153 (cM_lowest l hc153) cw_X10_286 io_56 rfl rfl rfl rfl ⟨rfl, rfl⟩ (fun H locs hP hS => ?_)
            refine u_iload_n X hl dX10_best_156 3 rfl ?_
            refine u_if_ne 167 X dX10_best_157 rfl (fun hc => ?_) (fun hc => ?_)
            · rw [if_neg hc] at h
              refine u_aload_n X hl dX10_best_167 0 rfl ?_
              refine gf_X10_278_56 X hP dX10_best_168 ?_
              exact u_lretM X hr hret h hP hS dX10_best_171
            · rw [if_pos hc] at h
              refine u_aload_n X hl dX10_best_160 0 rfl ?_
              refine gf_X10_275_56 X hP dX10_best_161 ?_
              refine u_goto 171 X dX10_best_164 rfl ?_
              exact u_lretM X hr hret h hP hS dX10_best_171
          · rw [if_neg hc] at h
            refine u_aload_n X hl dX10_best_35 0 rfl ?_
            refine u_iload X hl dX10_best_36 6 rfl ?_
            obtain ⟨w38, hc38, h⟩ := ob_inv h
            refine u_callVi X hP hS hl dX10_best_38 (cM_twoOn l hc38) cw_X10_248 io_56 rfl rfl rfl rfl ⟨rfl, rfl⟩ (fun H locs hP hS => ?_)
            refine u_iload_n X hl dX10_best_41 1 rfl ?_
            refine u_iload_n X hl dX10_best_42 2 rfl ?_
            refine u_callSi X hP hS hl dX10_best_43 (cM_pair l z a0 a1) cw_X10_251 rfl rfl rfl rfl ⟨rfl, rfl⟩ (fun H locs hP hS => ?_)
            refine u_icmp_ne 142 X dX10_best_46 rfl (fun hc => ?_) (fun hc => ?_)
            · rw [if_neg hc] at h
              refine u_iinc [(8, .int (l8_30 + (-1))), (0, .ref (ad 56)), (1, .int a0), (2, .int a1), (3, .int a2), (4, .long l4_30), (6, .long l6_30)] X hl dX10_best_142 6 rfl rfl (Nat.le_of_ble_eq_true rfl) rfl (fun ls hl => ?_)
              refine u_goto 30 X dX10_best_145 rfl ?_
              exact ih30 _ _ _ _ _ _ (lv_sub hl [1, 2, 3, 4, 5, 6, 0] rfl) hP hS h
            · rw [if_pos hc] at h
              refine u_aload_n X hl dX10_best_49 0 rfl ?_
              refine u_iload X hl dX10_best_50 6 rfl ?_
              refine u_aload_n X hl dX10_best_52 0 rfl ?_
              refine u_iload X hl dX10_best_53 6 rfl ?_
              refine u_callVi X hP hS hl dX10_best_55 (cM_isSurprise l z l8_30) cw_X10_261 io_56 rfl rfl rfl rfl ⟨rfl, rfl⟩ (fun H locs hP hS => ?_)
              obtain ⟨w58, hc58, h⟩ := ob_inv h
              refine u_callVi X hP hS hl dX10_best_58 (cM_seenBy l hc58) cw_X10_264 io_56 rfl rfl rfl rfl ⟨rfl, rfl⟩ (fun H locs hP hS => ?_)
              refine u_istore [(9, .int w58), (0, .ref (ad 56)), (1, .int a0), (2, .int a1), (3, .int a2), (4, .long l4_30), (6, .long l6_30), (8, .int l8_30)] X hl dX10_best_61 (Nat.le_of_ble_eq_true rfl) rfl (fun ls hl => ?_)
              refine u_bipush (v := 12) X dX10_best_63 rfl ?_
              refine u_iload X hl dX10_best_65 0 rfl ?_
              refine u_isub X dX10_best_67 ?_
              refine u_i2l X dX10_best_68 ?_
              refine u_aload_n X hl dX10_best_69 1 rfl ?_
              refine gf_X10_25_56 X hP dX10_best_70 ?_
              refine u_iconst (v := 0) X dX10_best_73 rfl ?_
              refine ld_62 (w := 0) X hP rfl (by decide) dX10_best_74 ?_
              refine u_aload_n X hl dX10_best_75 1 rfl ?_
              refine u_iload_n X hl dX10_best_76 2 rfl ?_
              refine u_iload_n X hl dX10_best_77 3 rfl ?_
              refine u_iload X hl dX10_best_78 7 rfl ?_
              obtain ⟨w80, hc80, h⟩ := ob_inv h
              refine u_callVi X hP hS hl dX10_best_80 (cM_trustOf l hc80) cw_X10_254 io_56 rfl rfl rfl rfl ⟨rfl, rfl⟩ (fun H locs hP hS => ?_)
              refine u_imul X dX10_best_83 ?_
              refine u_i2l X dX10_best_84 ?_
              refine u_lload X hl dX10_best_85 6 rfl ?_
              refine u_lmul X dX10_best_87 ?_
              refine u_lload X hl dX10_best_88 5 rfl ?_
              refine u_ladd X dX10_best_90 ?_
              refine u_lmul X dX10_best_91 ?_
              refine u_iload X hl dX10_best_92 0 rfl ?_
              refine u_i2l X dX10_best_94 ?_
              refine u_aload_n X hl dX10_best_95 1 rfl ?_
              refine gf_X10_25_56 X hP dX10_best_96 ?_
              refine u_iconst (v := 1) X dX10_best_99 rfl ?_
              refine ld_62 (w := 1) X hP rfl (by decide) dX10_best_100 ?_
              refine u_i2l X dX10_best_101 ?_
              refine u_lmul X dX10_best_102 ?_
              refine u_lload X hl dX10_best_103 6 rfl ?_
              refine u_lmul X dX10_best_105 ?_
              refine u_lsub X dX10_best_106 ?_
              refine u_lstore [(10, .long ((((12 - w58).toInt64) * (((((gI z 62 0) * w80).toInt64) * l6_30) + l4_30)) - ((w58.toInt64 * ((gI z 62 1).toInt64)) * l6_30))), (9, .int w58), (0, .ref (ad 56)), (1, .int a0), (2, .int a1), (3, .int a2), (4, .long l4_30), (6, .long l6_30), (8, .int l8_30)] X hl dX10_best_107 (Nat.le_of_ble_eq_true rfl) rfl (fun ls hl => ?_)
              refine u_ldc2 X kw_X10_284 dX10_best_109 ?_
              refine u_lload X hl dX10_best_112 6 rfl ?_
              refine u_lmul X dX10_best_114 ?_
              refine u_lload X hl dX10_best_115 0 rfl ?_
              refine u_lcmp X dX10_best_117 ?_
              refine u_if_le 130 X dX10_best_118 rfl (fun hc => ?_) (fun hc => ?_)
              · rw [if_pos hc] at h
                refine u_lload X hl dX10_best_130 0 rfl ?_
                refine u_lstore [(4, .long ((((12 - w58).toInt64) * (((((gI z 62 0) * w80).toInt64) * l6_30) + l4_30)) - ((w58.toInt64 * ((gI z 62 1).toInt64)) * l6_30))), (10, .long ((((12 - w58).toInt64) * (((((gI z 62 0) * w80).toInt64) * l6_30) + l4_30)) - ((w58.toInt64 * ((gI z 62 1).toInt64)) * l6_30))), (9, .int w58), (0, .ref (ad 56)), (1, .int a0), (2, .int a1), (3, .int a2), (6, .long l6_30), (8, .int l8_30)] X hl dX10_best_132 (Nat.le_of_ble_eq_true rfl) rfl (fun ls hl => ?_)
                refine u_lload X hl dX10_best_134 7 rfl ?_
                refine u_ldc2 X kw_X10_284 dX10_best_136 ?_
                refine u_lmul X dX10_best_139 ?_
                refine u_lstore [(6, .long (l6_30 * 12)), (4, .long ((((12 - w58).toInt64) * (((((gI z 62 0) * w80).toInt64) * l6_30) + l4_30)) - ((w58.toInt64 * ((gI z 62 1).toInt64)) * l6_30))), (10, .long ((((12 - w58).toInt64) * (((((gI z 62 0) * w80).toInt64) * l6_30) + l4_30)) - ((w58.toInt64 * ((gI z 62 1).toInt64)) * l6_30))), (9, .int w58), (0, .ref (ad 56)), (1, .int a0), (2, .int a1), (3, .int a2), (8, .int l8_30)] X hl dX10_best_140 (Nat.le_of_ble_eq_true rfl) rfl (fun ls hl => ?_)
                refine u_iinc [(8, .int (l8_30 + (-1))), (6, .long (l6_30 * 12)), (4, .long ((((12 - w58).toInt64) * (((((gI z 62 0) * w80).toInt64) * l6_30) + l4_30)) - ((w58.toInt64 * ((gI z 62 1).toInt64)) * l6_30))), (10, .long ((((12 - w58).toInt64) * (((((gI z 62 0) * w80).toInt64) * l6_30) + l4_30)) - ((w58.toInt64 * ((gI z 62 1).toInt64)) * l6_30))), (9, .int w58), (0, .ref (ad 56)), (1, .int a0), (2, .int a1), (3, .int a2)] X hl dX10_best_142 8 rfl rfl (Nat.le_of_ble_eq_true rfl) rfl (fun ls hl => ?_)
                refine u_goto 30 X dX10_best_145 rfl ?_
                exact ih30 _ _ _ _ _ _ (lv_sub hl [5, 6, 7, 8, 2, 1, 0] rfl) hP hS h
              · rw [if_neg hc] at h
                refine u_ldc2 X kw_X10_284 dX10_best_121 ?_
                refine u_lload X hl dX10_best_124 6 rfl ?_
                refine u_lmul X dX10_best_126 ?_
                refine u_goto 132 X dX10_best_127 rfl ?_
                refine u_lstore [(4, .long (12 * l4_30)), (10, .long ((((12 - w58).toInt64) * (((((gI z 62 0) * w80).toInt64) * l6_30) + l4_30)) - ((w58.toInt64 * ((gI z 62 1).toInt64)) * l6_30))), (9, .int w58), (0, .ref (ad 56)), (1, .int a0), (2, .int a1), (3, .int a2), (6, .long l6_30), (8, .int l8_30)] X hl dX10_best_132 (Nat.le_of_ble_eq_true rfl) rfl (fun ls hl => ?_)
                refine u_lload X hl dX10_best_134 7 rfl ?_
                refine u_ldc2 X kw_X10_284 dX10_best_136 ?_
                refine u_lmul X dX10_best_139 ?_
                refine u_lstore [(6, .long (l6_30 * 12)), (4, .long (12 * l4_30)), (10, .long ((((12 - w58).toInt64) * (((((gI z 62 0) * w80).toInt64) * l6_30) + l4_30)) - ((w58.toInt64 * ((gI z 62 1).toInt64)) * l6_30))), (9, .int w58), (0, .ref (ad 56)), (1, .int a0), (2, .int a1), (3, .int a2), (8, .int l8_30)] X hl dX10_best_140 (Nat.le_of_ble_eq_true rfl) rfl (fun ls hl => ?_)
                refine u_iinc [(8, .int (l8_30 + (-1))), (6, .long (l6_30 * 12)), (4, .long (12 * l4_30)), (10, .long ((((12 - w58).toInt64) * (((((gI z 62 0) * w80).toInt64) * l6_30) + l4_30)) - ((w58.toInt64 * ((gI z 62 1).toInt64)) * l6_30))), (9, .int w58), (0, .ref (ad 56)), (1, .int a0), (2, .int a1), (3, .int a2)] X hl dX10_best_142 8 rfl rfl (Nat.le_of_ble_eq_true rfl) rfl (fun ls hl => ?_)
                refine u_goto 30 X dX10_best_145 rfl ?_
                exact ih30 _ _ _ _ _ _ (lv_sub hl [5, 6, 7, 8, 2, 1, 0] rfl) hP hS h
      exact L30 LF _ _ _ _ _ _ (lv_sub hl [3, 4, 5, 6, 2, 1, 0] rfl) hP hS h
    · rw [if_pos hc] at h
      refine u_ldc2 X kw_X10_148 dX10_best_16 ?_
      exact u_lretM X hr hret h hP hS dX10_best_19
def fM_enough_L12 (z : MS) (K2 : Int32 → Option Int32) (l1 : Int32) : Nat → Int32 → Int32 → Option Int32
  | 0, _, _ => none
  | n + 1, l2, l3 => if 10 ≤ l3 then (if l2 = 0 then K2 (l1 + 1) else some l1) else (if l2 = 0 then fM_enough_L12 z K2 l1 n 0 (l3 + 1) else Option.bind (fM_paysBy z l3 (fM_isSurprise z l3) l1) (fun w30 => if w30 = 0 then fM_enough_L12 z K2 l1 n 1 (l3 + 1) else fM_enough_L12 z K2 l1 n 0 (l3 + 1)))
def fM_enough_L2 (z : MS) : Nat → Int32 → Option Int32
  | 0, _ => none
  | n + 1, l1 => if 100 ≤ l1 then some (-3) else fM_enough_L12 z (fM_enough_L2 z n) l1 LF 1 0
def fM_enough (z : MS) : Option Int32 :=
  fM_enough_L2 z LF 0
set_option maxRecDepth 4000 in
theorem cM_enough (l : Launch) {z : MS} {r : Int32} (h : fM_enough z = some r) : CT l yX10_enough cX10_enough 4 (some .int) 5 117 (fun ad sd => [.ref (ad 56)]) z (some (.int r)) z := by
  rw [fM_enough] at h
  refine u_start RX10 rfl (by decide) (fun _ _ => Nat.le_of_ble_eq_true rfl) (fun p e s m args below meth c R D ad cs sd A Q ls X hP hS hl hr hret => ?_)
  have hl : lv_has ls 4 [(0, .ref (ad 56))] := hl
  refine u_iconst (v := 0) X dX10_enough_0 rfl ?_
  refine u_istore_n [(1, .int 0), (0, .ref (ad 56))] X hl dX10_enough_1 (Nat.le_of_ble_eq_true rfl) rfl (fun ls hl => ?_)
  have L2 : ∀ (n : Nat) (H : Heap) (locs : List Loc) (ls : Array Slot) (l1_2 : Int32), lv_has ls 4 [(0, .ref (ad 56)), (1, .int l1_2)] → va_P D clss (wld cs ad z) H → va_S A s.heap H locs → fM_enough_L2 z n l1_2 = some r → W p l e R s m args below meth c H locs 0 0 Q (F0 m 2 ls []) := by
    intro n
    induction n with
    | zero =>
      intro H locs ls l1_2 hl hP hS h
      rw [fM_enough_L2] at h
      cases h
    | succ n2 ih2 =>
      intro H locs ls l1_2 hl hP hS h
      rw [fM_enough_L2] at h
      refine u_iload_n X hl dX10_enough_2 1 rfl ?_
      refine u_bipush (v := 100) X dX10_enough_3 rfl ?_
      refine u_icmp_ge 60 X dX10_enough_5 rfl (fun hc => ?_) (fun hc => ?_)
      · rw [if_pos hc] at h
        refine u_bipush (v := (-3)) X dX10_enough_60 rfl ?_
        exact u_iretP X hr hret h hP hS dX10_enough_62
      · rw [if_neg hc] at h
        refine u_iconst (v := 1) X dX10_enough_8 rfl ?_
        refine u_istore_n [(2, .int 1), (0, .ref (ad 56)), (1, .int l1_2)] X hl dX10_enough_9 (Nat.le_of_ble_eq_true rfl) rfl (fun ls hl => ?_)
        refine u_iconst (v := 0) X dX10_enough_10 rfl ?_
        refine u_istore_n [(3, .int 0), (2, .int 1), (0, .ref (ad 56)), (1, .int l1_2)] X hl dX10_enough_11 (Nat.le_of_ble_eq_true rfl) rfl (fun ls hl => ?_)
        have L12 : ∀ (n : Nat) (H : Heap) (locs : List Loc) (ls : Array Slot) (l2_12 : Int32) (l3_12 : Int32), lv_has ls 4 [(0, .ref (ad 56)), (1, .int l1_2), (2, .int l2_12), (3, .int l3_12)] → va_P D clss (wld cs ad z) H → va_S A s.heap H locs → fM_enough_L12 z (fM_enough_L2 z n2) l1_2 n l2_12 l3_12 = some r → W p l e R s m args below meth c H locs 0 0 Q (F0 m 12 ls []) := by
          intro n
          induction n with
          | zero =>
            intro H locs ls l2_12 l3_12 hl hP hS h
            rw [fM_enough_L12] at h
            cases h
          | succ n12 ih12 =>
            intro H locs ls l2_12 l3_12 hl hP hS h
            rw [fM_enough_L12] at h
            refine u_iload_n X hl dX10_enough_12 3 rfl ?_
            refine u_bipush (v := 10) X dX10_enough_13 rfl ?_
            refine u_icmp_ge 48 X dX10_enough_15 rfl (fun hc => ?_) (fun hc => ?_)
            · rw [if_pos hc] at h
              refine u_iload_n X hl dX10_enough_48 2 rfl ?_
              refine u_if_eq 54 X dX10_enough_49 rfl (fun hc => ?_) (fun hc => ?_)
              · rw [if_pos hc] at h
                refine u_iinc [(1, .int (l1_2 + 1)), (0, .ref (ad 56)), (2, .int l2_12), (3, .int l3_12)] X hl dX10_enough_54 1 rfl rfl (Nat.le_of_ble_eq_true rfl) rfl (fun ls hl => ?_)
                refine u_goto 2 X dX10_enough_57 rfl ?_
                exact ih2 _ _ _ _ (lv_sub hl [1, 0] rfl) hP hS h
              · rw [if_neg hc] at h
                refine u_iload_n X hl dX10_enough_52 1 rfl ?_
                exact u_iretP X hr hret h hP hS dX10_enough_53
            · rw [if_neg hc] at h
              refine u_iload_n X hl dX10_enough_18 2 rfl ?_
              refine u_if_eq 40 X dX10_enough_19 rfl (fun hc => ?_) (fun hc => ?_)
              · rw [if_pos hc] at h
                refine u_iconst (v := 0) X dX10_enough_40 rfl ?_
                refine u_istore_n [(2, .int 0), (0, .ref (ad 56)), (1, .int l1_2), (3, .int l3_12)] X hl dX10_enough_41 (Nat.le_of_ble_eq_true rfl) rfl (fun ls hl => ?_)
                refine u_iinc [(3, .int (l3_12 + 1)), (2, .int 0), (0, .ref (ad 56)), (1, .int l1_2)] X hl dX10_enough_42 3 rfl rfl (Nat.le_of_ble_eq_true rfl) rfl (fun ls hl => ?_)
                refine u_goto 12 X dX10_enough_45 rfl ?_
                exact ih12 _ _ _ _ _ (lv_sub hl [2, 3, 1, 0] rfl) hP hS h
              · rw [if_neg hc] at h
                refine u_aload_n X hl dX10_enough_22 0 rfl ?_
                refine u_iload_n X hl dX10_enough_23 3 rfl ?_
                refine u_aload_n X hl dX10_enough_24 0 rfl ?_
                refine u_iload_n X hl dX10_enough_25 3 rfl ?_
                refine u_callVi X hP hS hl dX10_enough_26 (cM_isSurprise l z l3_12) cw_X10_261 io_56 rfl rfl rfl rfl ⟨rfl, rfl⟩ (fun H locs hP hS => ?_)
                refine u_iload_n X hl dX10_enough_29 1 rfl ?_
                obtain ⟨w30, hc30, h⟩ := ob_inv h
                refine u_callVi X hP hS hl dX10_enough_30 (cM_paysBy l hc30) cw_X10_271 io_56 rfl rfl rfl rfl ⟨rfl, rfl⟩ (fun H locs hP hS => ?_)
                refine u_if_ne 40 X dX10_enough_33 rfl (fun hc => ?_) (fun hc => ?_)
                · rw [if_neg hc] at h
                  refine u_iconst (v := 0) X dX10_enough_40 rfl ?_
                  refine u_istore_n [(2, .int 0), (0, .ref (ad 56)), (1, .int l1_2), (3, .int l3_12)] X hl dX10_enough_41 (Nat.le_of_ble_eq_true rfl) rfl (fun ls hl => ?_)
                  refine u_iinc [(3, .int (l3_12 + 1)), (2, .int 0), (0, .ref (ad 56)), (1, .int l1_2)] X hl dX10_enough_42 3 rfl rfl (Nat.le_of_ble_eq_true rfl) rfl (fun ls hl => ?_)
                  refine u_goto 12 X dX10_enough_45 rfl ?_
                  exact ih12 _ _ _ _ _ (lv_sub hl [2, 3, 1, 0] rfl) hP hS h
                · rw [if_pos hc] at h
                  refine u_iconst (v := 1) X dX10_enough_36 rfl ?_
                  refine u_goto 41 X dX10_enough_37 rfl ?_
                  refine u_istore_n [(2, .int 1), (0, .ref (ad 56)), (1, .int l1_2), (3, .int l3_12)] X hl dX10_enough_41 (Nat.le_of_ble_eq_true rfl) rfl (fun ls hl => ?_)
                  refine u_iinc [(3, .int (l3_12 + 1)), (2, .int 1), (0, .ref (ad 56)), (1, .int l1_2)] X hl dX10_enough_42 3 rfl rfl (Nat.le_of_ble_eq_true rfl) rfl (fun ls hl => ?_)
                  refine u_goto 12 X dX10_enough_45 rfl ?_
                  exact ih12 _ _ _ _ _ (lv_sub hl [2, 3, 1, 0] rfl) hP hS h
        exact L12 LF _ _ _ _ _ (lv_sub hl [2, 3, 1, 0] rfl) hP hS h
  exact L2 LF _ _ _ _ (lv_sub hl [1, 0] rfl) hP hS h
def fM_needed_L4 (z : MS) : Nat → Int32 → Int32 → Option Int32
  | 0, _, _ => none
  | n + 1, l1, l2 => if 10 ≤ l2 then some l1 else Option.bind (fM_paysBy z l2 0 (gI z 62 6)) (fun w20 => if w20 = 0 then fM_needed_L4 z n l1 (l2 + 1) else Option.bind (fM_paysBy z l2 1 (gI z 62 6)) (fun w36 => if w36 = 0 then fM_needed_L4 z n (l1 ||| ((1 : Int32) <<< (l2 &&& 31))) (l2 + 1) else some (-3)))
def fM_needed (z : MS) : Option Int32 :=
  fM_needed_L4 z LF 0 0
set_option maxRecDepth 4000 in
theorem cM_needed (l : Launch) {z : MS} {r : Int32} (h : fM_needed z = some r) : CT l yX10_needed cX10_needed 3 (some .int) 5 117 (fun ad sd => [.ref (ad 56)]) z (some (.int r)) z := by
  rw [fM_needed] at h
  refine u_start RX10 rfl (by decide) (fun _ _ => Nat.le_of_ble_eq_true rfl) (fun p e s m args below meth c R D ad cs sd A Q ls X hP hS hl hr hret => ?_)
  have hl : lv_has ls 3 [(0, .ref (ad 56))] := hl
  refine u_iconst (v := 0) X dX10_needed_0 rfl ?_
  refine u_istore_n [(1, .int 0), (0, .ref (ad 56))] X hl dX10_needed_1 (Nat.le_of_ble_eq_true rfl) rfl (fun ls hl => ?_)
  refine u_iconst (v := 0) X dX10_needed_2 rfl ?_
  refine u_istore_n [(2, .int 0), (1, .int 0), (0, .ref (ad 56))] X hl dX10_needed_3 (Nat.le_of_ble_eq_true rfl) rfl (fun ls hl => ?_)
  have L4 : ∀ (n : Nat) (H : Heap) (locs : List Loc) (ls : Array Slot) (l1_4 : Int32) (l2_4 : Int32), lv_has ls 3 [(0, .ref (ad 56)), (1, .int l1_4), (2, .int l2_4)] → va_P D clss (wld cs ad z) H → va_S A s.heap H locs → fM_needed_L4 z n l1_4 l2_4 = some r → W p l e R s m args below meth c H locs 0 0 Q (F0 m 4 ls []) := by
    intro n
    induction n with
    | zero =>
      intro H locs ls l1_4 l2_4 hl hP hS h
      rw [fM_needed_L4] at h
      cases h
    | succ n4 ih4 =>
      intro H locs ls l1_4 l2_4 hl hP hS h
      rw [fM_needed_L4] at h
      refine u_iload_n X hl dX10_needed_4 2 rfl ?_
      refine u_bipush (v := 10) X dX10_needed_5 rfl ?_
      refine u_icmp_ge 57 X dX10_needed_7 rfl (fun hc => ?_) (fun hc => ?_)
      · rw [if_pos hc] at h
        refine u_iload_n X hl dX10_needed_57 1 rfl ?_
        exact u_iretP X hr hret h hP hS dX10_needed_58
      · rw [if_neg hc] at h
        refine u_aload_n X hl dX10_needed_10 0 rfl ?_
        refine u_iload_n X hl dX10_needed_11 2 rfl ?_
        refine u_iconst (v := 0) X dX10_needed_12 rfl ?_
        refine u_aload_n X hl dX10_needed_13 0 rfl ?_
        refine gf_X10_25_56 X hP dX10_needed_14 ?_
        refine u_bipush (v := 6) X dX10_needed_17 rfl ?_
        refine ld_62 (w := 6) X hP rfl (by decide) dX10_needed_19 ?_
        obtain ⟨w20, hc20, h⟩ := ob_inv h
        refine u_callVi X hP hS hl dX10_needed_20 (cM_paysBy l hc20) cw_X10_271 io_56 rfl rfl rfl rfl ⟨rfl, rfl⟩ (fun H locs hP hS => ?_)
        refine u_if_eq 51 X dX10_needed_23 rfl (fun hc => ?_) (fun hc => ?_)
        · rw [if_pos hc] at h
          refine u_iinc [(2, .int (l2_4 + 1)), (0, .ref (ad 56)), (1, .int l1_4)] X hl dX10_needed_51 2 rfl rfl (Nat.le_of_ble_eq_true rfl) rfl (fun ls hl => ?_)
          refine u_goto 4 X dX10_needed_54 rfl ?_
          exact ih4 _ _ _ _ _ (lv_sub hl [1, 2, 0] rfl) hP hS h
        · rw [if_neg hc] at h
          refine u_aload_n X hl dX10_needed_26 0 rfl ?_
          refine u_iload_n X hl dX10_needed_27 2 rfl ?_
          refine u_iconst (v := 1) X dX10_needed_28 rfl ?_
          refine u_aload_n X hl dX10_needed_29 0 rfl ?_
          refine gf_X10_25_56 X hP dX10_needed_30 ?_
          refine u_bipush (v := 6) X dX10_needed_33 rfl ?_
          refine ld_62 (w := 6) X hP rfl (by decide) dX10_needed_35 ?_
          obtain ⟨w36, hc36, h⟩ := ob_inv h
          refine u_callVi X hP hS hl dX10_needed_36 (cM_paysBy l hc36) cw_X10_271 io_56 rfl rfl rfl rfl ⟨rfl, rfl⟩ (fun H locs hP hS => ?_)
          refine u_if_eq 45 X dX10_needed_39 rfl (fun hc => ?_) (fun hc => ?_)
          · rw [if_pos hc] at h
            refine u_iload_n X hl dX10_needed_45 1 rfl ?_
            refine u_iconst (v := 1) X dX10_needed_46 rfl ?_
            refine u_iload_n X hl dX10_needed_47 2 rfl ?_
            refine u_ishl X dX10_needed_48 ?_
            refine u_ior X dX10_needed_49 ?_
            refine u_istore_n [(1, .int (l1_4 ||| ((1 : Int32) <<< (l2_4 &&& 31)))), (0, .ref (ad 56)), (2, .int l2_4)] X hl dX10_needed_50 (Nat.le_of_ble_eq_true rfl) rfl (fun ls hl => ?_)
            refine u_iinc [(2, .int (l2_4 + 1)), (1, .int (l1_4 ||| ((1 : Int32) <<< (l2_4 &&& 31)))), (0, .ref (ad 56))] X hl dX10_needed_51 2 rfl rfl (Nat.le_of_ble_eq_true rfl) rfl (fun ls hl => ?_)
            refine u_goto 4 X dX10_needed_54 rfl ?_
            exact ih4 _ _ _ _ _ (lv_sub hl [2, 1, 0] rfl) hP hS h
          · rw [if_neg hc] at h
            refine u_bipush (v := (-3)) X dX10_needed_42 rfl ?_
            exact u_iretP X hr hret h hP hS dX10_needed_44
  exact L4 LF _ _ _ _ _ (lv_sub hl [2, 1, 0] rfl) hP hS h
def fM_brokenOn_J158 (z : MS) (l1 : Int32) : Option Int32 :=
  Option.bind (fM_paysBy z l1 (fM_isSurprise z l1) (gI z 62 6)) (fun w172 => if w172 = 0 then some 0 else some 5)
def fM_brokenOn_L120 (z : MS) (l1 : Int32) (l4 : Int32) : Nat → Int32 → Option Int32
  | 0, _ => none
  | n + 1, l5 => if l5 < 0 then fM_brokenOn_J158 z l1 else (if l5 < (l1 - (gI z 62 7)) then fM_brokenOn_J158 z l1 else Option.bind (fM_twoOn z l5) (fun w142 => if w142 = l4 then some 4 else fM_brokenOn_L120 z l1 l4 n (l5 + (-1))))
def fM_brokenOn_J62 (z : MS) (K7 : Int32 → Int32 → Int32 → Option Int32) (l2 : Int32) (l4 : Int32) (l5 : Int32) (s0 : Int32) : Option Int32 :=
  K7 (l2 ||| ((1 : Int32) <<< (l5 &&& 31))) s0 (l4 + 1)
def fM_brokenOn_J57 (z : MS) (K7 : Int32 → Int32 → Int32 → Option Int32) (l2 : Int32) (l4 : Int32) (l5 : Int32) : Option Int32 :=
  fM_brokenOn_J62 z K7 l2 l4 l5 1
def fM_brokenOn_L7 (z : MS) (l1 : Int32) : Nat → Int32 → Int32 → Int32 → Option Int32
  | 0, _, _, _ => none
  | n + 1, l2, l3, l4 => if 4 ≤ l4 then (if l3 = 0 then Option.bind (fM_twoOn z l1) (fun w84 => if 0 ≤ w84 then Option.bind (fM_areKin z (w84 / 8) (irm w84 8)) (fun w107 => if w107 = 0 then fM_brokenOn_L120 z l1 w84 LF (l1 - 1) else some 3) else some 0) else some 2) else (if ((4 * l1) + l4) < 0 ∨ 40 ≤ ((4 * l1) + l4).toNatClampNeg then none else if (gI z 60 ((4 * l1) + l4).toNatClampNeg) < 0 then fM_brokenOn_L7 z l1 n l2 l3 (l4 + 1) else Option.bind (fM_isAway z (gI z 60 ((4 * l1) + l4).toNatClampNeg) l1) (fun w35 => if w35 = 0 then (if l3 = 0 then (if ((l2 >>> ((gI z 60 ((4 * l1) + l4).toNatClampNeg) &&& 31)) &&& 1) = 1 then fM_brokenOn_J57 z (fM_brokenOn_L7 z l1 n) l2 l4 (gI z 60 ((4 * l1) + l4).toNatClampNeg) else fM_brokenOn_J62 z (fM_brokenOn_L7 z l1 n) l2 l4 (gI z 60 ((4 * l1) + l4).toNatClampNeg) 0) else fM_brokenOn_J57 z (fM_brokenOn_L7 z l1 n) l2 l4 (gI z 60 ((4 * l1) + l4).toNatClampNeg)) else some 1))
def fM_brokenOn (z : MS) (a0 : Int32) : Option Int32 :=
  fM_brokenOn_L7 z a0 LF 0 0 0
set_option maxRecDepth 4000 in
theorem cM_brokenOn (l : Launch) {z : MS} {a0 : Int32} {r : Int32} (h : fM_brokenOn z a0 = some r) : CT l yX10_brokenOn cX10_brokenOn 6 (some .int) 5 117 (fun ad sd => [.ref (ad 56), .int a0]) z (some (.int r)) z := by
  rw [fM_brokenOn] at h
  refine u_start RX10 rfl (by decide) (fun _ _ => Nat.le_of_ble_eq_true rfl) (fun p e s m args below meth c R D ad cs sd A Q ls X hP hS hl hr hret => ?_)
  have hl : lv_has ls 6 [(0, .ref (ad 56)), (1, .int a0)] := hl
  refine u_iconst (v := 0) X dX10_brokenOn_0 rfl ?_
  refine u_istore_n [(2, .int 0), (0, .ref (ad 56)), (1, .int a0)] X hl dX10_brokenOn_1 (Nat.le_of_ble_eq_true rfl) rfl (fun ls hl => ?_)
  refine u_iconst (v := 0) X dX10_brokenOn_2 rfl ?_
  refine u_istore_n [(3, .int 0), (2, .int 0), (0, .ref (ad 56)), (1, .int a0)] X hl dX10_brokenOn_3 (Nat.le_of_ble_eq_true rfl) rfl (fun ls hl => ?_)
  refine u_iconst (v := 0) X dX10_brokenOn_4 rfl ?_
  refine u_istore [(4, .int 0), (3, .int 0), (2, .int 0), (0, .ref (ad 56)), (1, .int a0)] X hl dX10_brokenOn_5 (Nat.le_of_ble_eq_true rfl) rfl (fun ls hl => ?_)
  have L7 : ∀ (n : Nat) (H : Heap) (locs : List Loc) (ls : Array Slot) (l2_7 : Int32) (l3_7 : Int32) (l4_7 : Int32), lv_has ls 6 [(0, .ref (ad 56)), (1, .int a0), (2, .int l2_7), (3, .int l3_7), (4, .int l4_7)] → va_P D clss (wld cs ad z) H → va_S A s.heap H locs → fM_brokenOn_L7 z a0 n l2_7 l3_7 l4_7 = some r → W p l e R s m args below meth c H locs 0 0 Q (F0 m 7 ls []) := by
    intro n
    induction n with
    | zero =>
      intro H locs ls l2_7 l3_7 l4_7 hl hP hS h
      rw [fM_brokenOn_L7] at h
      cases h
    | succ n7 ih7 =>
      intro H locs ls l2_7 l3_7 l4_7 hl hP hS h
      rw [fM_brokenOn_L7] at h
      refine u_iload X hl dX10_brokenOn_7 4 rfl ?_
      refine u_iconst (v := 4) X dX10_brokenOn_9 rfl ?_
      refine u_icmp_ge 76 X dX10_brokenOn_10 rfl (fun hc => ?_) (fun hc => ?_)
      · rw [if_pos hc] at h
        refine u_iload_n X hl dX10_brokenOn_76 3 rfl ?_
        refine u_if_eq 82 X dX10_brokenOn_77 rfl (fun hc => ?_) (fun hc => ?_)
        · rw [if_pos hc] at h
          refine u_aload_n X hl dX10_brokenOn_82 0 rfl ?_
          refine u_iload_n X hl dX10_brokenOn_83 1 rfl ?_
          obtain ⟨w84, hc84, h⟩ := ob_inv h
          refine u_callVi X hP hS hl dX10_brokenOn_84 (cM_twoOn l hc84) cw_X10_248 io_56 rfl rfl rfl rfl ⟨rfl, rfl⟩ (fun H locs hP hS => ?_)
          refine u_istore [(4, .int w84), (0, .ref (ad 56)), (1, .int a0), (2, .int l2_7), (3, .int l3_7)] X hl dX10_brokenOn_87 (Nat.le_of_ble_eq_true rfl) rfl (fun ls hl => ?_)
          refine u_iload X hl dX10_brokenOn_89 0 rfl ?_
          refine u_if_ge 96 X dX10_brokenOn_91 rfl (fun hc => ?_) (fun hc => ?_)
          · rw [if_pos hc] at h
            refine u_aload_n X hl dX10_brokenOn_96 1 rfl ?_
            refine u_iload X hl dX10_brokenOn_97 0 rfl ?_
            refine u_bipush (v := 8) X dX10_brokenOn_99 rfl ?_
            refine u_idiv X (by decide) dX10_brokenOn_101 ?_
            refine u_iload X hl dX10_brokenOn_102 0 rfl ?_
            refine u_bipush (v := 8) X dX10_brokenOn_104 rfl ?_
            refine u_irem X (by decide) dX10_brokenOn_106 ?_
            obtain ⟨w107, hc107, h⟩ := ob_inv h
            refine u_callVi X hP hS hl dX10_brokenOn_107 (cM_areKin l hc107) cw_X10_230 io_56 rfl rfl rfl rfl ⟨rfl, rfl⟩ (fun H locs hP hS => ?_)
            refine u_if_eq 115 X dX10_brokenOn_110 rfl (fun hc => ?_) (fun hc => ?_)
            · rw [if_pos hc] at h
              refine u_iload_n X hl dX10_brokenOn_115 2 rfl ?_
              refine u_iconst (v := 1) X dX10_brokenOn_116 rfl ?_
              refine u_isub X dX10_brokenOn_117 ?_
              refine u_istore [(5, .int (a0 - 1)), (4, .int w84), (0, .ref (ad 56)), (1, .int a0), (2, .int l2_7), (3, .int l3_7)] X hl dX10_brokenOn_118 (Nat.le_of_ble_eq_true rfl) rfl (fun ls hl => ?_)
              have L120 : ∀ (n : Nat) (H : Heap) (locs : List Loc) (ls : Array Slot) (l5_120 : Int32), lv_has ls 6 [(0, .ref (ad 56)), (1, .int a0), (4, .int w84), (5, .int l5_120)] → va_P D clss (wld cs ad z) H → va_S A s.heap H locs → fM_brokenOn_L120 z a0 w84 n l5_120 = some r → W p l e R s m args below meth c H locs 0 0 Q (F0 m 120 ls []) := by
                intro n
                induction n with
                | zero =>
                  intro H locs ls l5_120 hl hP hS h
                  rw [fM_brokenOn_L120] at h
                  cases h
                | succ n120 ih120 =>
                  intro H locs ls l5_120 hl hP hS h
                  rw [fM_brokenOn_L120] at h
                  refine u_iload X hl dX10_brokenOn_120 3 rfl ?_
                  have J158 : ∀ (H : Heap) (locs : List Loc) (ls : Array Slot), lv_has ls 6 [(0, .ref (ad 56)), (1, .int a0)] → va_P D clss (wld cs ad z) H → va_S A s.heap H locs → fM_brokenOn_J158 z a0 = some r → W p l e R s m args below meth c H locs 0 0 Q (F0 m 158 ls []) := by
                    intro H locs ls hl hP hS h
                    rw [fM_brokenOn_J158] at h
                    refine u_aload_n X hl dX10_brokenOn_158 0 rfl ?_
                    refine u_iload_n X hl dX10_brokenOn_159 1 rfl ?_
                    refine u_aload_n X hl dX10_brokenOn_160 0 rfl ?_
                    refine u_iload_n X hl dX10_brokenOn_161 1 rfl ?_
                    refine u_callVi X hP hS hl dX10_brokenOn_162 (cM_isSurprise l z a0) cw_X10_261 io_56 rfl rfl rfl rfl ⟨rfl, rfl⟩ (fun H locs hP hS => ?_)
                    refine u_aload_n X hl dX10_brokenOn_165 0 rfl ?_
                    refine gf_X10_25_56 X hP dX10_brokenOn_166 ?_
                    refine u_bipush (v := 6) X dX10_brokenOn_169 rfl ?_
                    refine ld_62 (w := 6) X hP rfl (by decide) dX10_brokenOn_171 ?_
                    obtain ⟨w172, hc172, h⟩ := ob_inv h
                    refine u_callVi X hP hS hl dX10_brokenOn_172 (cM_paysBy l hc172) cw_X10_271 io_56 rfl rfl rfl rfl ⟨rfl, rfl⟩ (fun H locs hP hS => ?_)
                    refine u_if_eq 182 X dX10_brokenOn_175 rfl (fun hc => ?_) (fun hc => ?_)
                    · rw [if_pos hc] at h
                      refine u_iconst (v := 0) X dX10_brokenOn_182 rfl ?_
                      exact u_iretP X hr hret h hP hS dX10_brokenOn_183
                    · rw [if_neg hc] at h
                      refine u_iconst (v := 5) X dX10_brokenOn_178 rfl ?_
                      refine u_goto 183 X dX10_brokenOn_179 rfl ?_
                      exact u_iretP X hr hret h hP hS dX10_brokenOn_183
                  refine u_if_lt 158 X dX10_brokenOn_122 rfl (fun hc => ?_) (fun hc => ?_)
                  · rw [if_pos hc] at h
                    exact J158 _ _ _ (lv_sub hl [0, 1] rfl) hP hS h
                  · rw [if_neg hc] at h
                    refine u_iload X hl dX10_brokenOn_125 3 rfl ?_
                    refine u_iload_n X hl dX10_brokenOn_127 1 rfl ?_
                    refine u_aload_n X hl dX10_brokenOn_128 0 rfl ?_
                    refine gf_X10_25_56 X hP dX10_brokenOn_129 ?_
                    refine u_bipush (v := 7) X dX10_brokenOn_132 rfl ?_
                    refine ld_62 (w := 7) X hP rfl (by decide) dX10_brokenOn_134 ?_
                    refine u_isub X dX10_brokenOn_135 ?_
                    refine u_icmp_lt 158 X dX10_brokenOn_136 rfl (fun hc => ?_) (fun hc => ?_)
                    · rw [if_pos hc] at h
                      exact J158 _ _ _ (lv_sub hl [0, 1] rfl) hP hS h
                    · rw [if_neg hc] at h
                      refine u_aload_n X hl dX10_brokenOn_139 0 rfl ?_
                      refine u_iload X hl dX10_brokenOn_140 3 rfl ?_
                      obtain ⟨w142, hc142, h⟩ := ob_inv h
                      refine u_callVi X hP hS hl dX10_brokenOn_142 (cM_twoOn l hc142) cw_X10_248 io_56 rfl rfl rfl rfl ⟨rfl, rfl⟩ (fun H locs hP hS => ?_)
                      refine u_iload X hl dX10_brokenOn_145 2 rfl ?_
                      refine u_icmp_ne 152 X dX10_brokenOn_147 rfl (fun hc => ?_) (fun hc => ?_)
                      · rw [if_neg hc] at h
                        refine u_iinc [(5, .int (l5_120 + (-1))), (0, .ref (ad 56)), (1, .int a0), (4, .int w84)] X hl dX10_brokenOn_152 3 rfl rfl (Nat.le_of_ble_eq_true rfl) rfl (fun ls hl => ?_)
                        refine u_goto 120 X dX10_brokenOn_155 rfl ?_
                        exact ih120 _ _ _ _ (lv_sub hl [1, 2, 3, 0] rfl) hP hS h
                      · rw [if_pos hc] at h
                        refine u_iconst (v := 4) X dX10_brokenOn_150 rfl ?_
                        exact u_iretP X hr hret h hP hS dX10_brokenOn_151
              exact L120 LF _ _ _ _ (lv_sub hl [2, 3, 1, 0] rfl) hP hS h
            · rw [if_neg hc] at h
              refine u_iconst (v := 3) X dX10_brokenOn_113 rfl ?_
              exact u_iretP X hr hret h hP hS dX10_brokenOn_114
          · rw [if_neg hc] at h
            refine u_iconst (v := 0) X dX10_brokenOn_94 rfl ?_
            exact u_iretP X hr hret h hP hS dX10_brokenOn_95
        · rw [if_neg hc] at h
          refine u_iconst (v := 2) X dX10_brokenOn_80 rfl ?_
          exact u_iretP X hr hret h hP hS dX10_brokenOn_81
      · rw [if_neg hc] at h
        refine u_aload_n X hl dX10_brokenOn_13 0 rfl ?_
        refine gf_X10_19_56 X hP dX10_brokenOn_14 ?_
        refine u_iconst (v := 4) X dX10_brokenOn_17 rfl ?_
        refine u_iload_n X hl dX10_brokenOn_18 1 rfl ?_
        refine u_imul X dX10_brokenOn_19 ?_
        refine u_iload X hl dX10_brokenOn_20 4 rfl ?_
        refine u_iadd X dX10_brokenOn_22 ?_
        obtain ⟨hin, h⟩ := ifn_inv h
        refine ld_60 X hP rfl hin dX10_brokenOn_23 ?_
        refine u_istore [(5, .int (gI z 60 ((4 * a0) + l4_7).toNatClampNeg)), (0, .ref (ad 56)), (1, .int a0), (2, .int l2_7), (3, .int l3_7), (4, .int l4_7)] X hl dX10_brokenOn_24 (Nat.le_of_ble_eq_true rfl) rfl (fun ls hl => ?_)
        refine u_iload X hl dX10_brokenOn_26 0 rfl ?_
        refine u_if_lt 70 X dX10_brokenOn_28 rfl (fun hc => ?_) (fun hc => ?_)
        · rw [if_pos hc] at h
          refine u_iinc [(4, .int (l4_7 + 1)), (5, .int (gI z 60 ((4 * a0) + l4_7).toNatClampNeg)), (0, .ref (ad 56)), (1, .int a0), (2, .int l2_7), (3, .int l3_7)] X hl dX10_brokenOn_70 5 rfl rfl (Nat.le_of_ble_eq_true rfl) rfl (fun ls hl => ?_)
          refine u_goto 7 X dX10_brokenOn_73 rfl ?_
          exact ih7 _ _ _ _ _ _ (lv_sub hl [2, 3, 4, 5, 0] rfl) hP hS h
        · rw [if_neg hc] at h
          refine u_aload_n X hl dX10_brokenOn_31 1 rfl ?_
          refine u_iload X hl dX10_brokenOn_32 0 rfl ?_
          refine u_iload_n X hl dX10_brokenOn_34 2 rfl ?_
          obtain ⟨w35, hc35, h⟩ := ob_inv h
          refine u_callVi X hP hS hl dX10_brokenOn_35 (cM_isAway l hc35) cw_X10_236 io_56 rfl rfl rfl rfl ⟨rfl, rfl⟩ (fun H locs hP hS => ?_)
          refine u_if_eq 43 X dX10_brokenOn_38 rfl (fun hc => ?_) (fun hc => ?_)
          · rw [if_pos hc] at h
            refine u_iload_n X hl dX10_brokenOn_43 4 rfl ?_
            have J62 : ∀ (H : Heap) (locs : List Loc) (ls : Array Slot) (s0_62 : Int32), lv_has ls 6 [(0, .ref (ad 56)), (1, .int a0), (2, .int l2_7), (4, .int l4_7), (5, .int (gI z 60 ((4 * a0) + l4_7).toNatClampNeg))] → va_P D clss (wld cs ad z) H → va_S A s.heap H locs → fM_brokenOn_J62 z (fM_brokenOn_L7 z a0 n7) l2_7 l4_7 (gI z 60 ((4 * a0) + l4_7).toNatClampNeg) s0_62 = some r → W p l e R s m args below meth c H locs 0 0 Q (F0 m 62 ls [.int s0_62]) := by
              intro H locs ls s0_62 hl hP hS h
              rw [fM_brokenOn_J62] at h
              refine u_istore_n [(3, .int s0_62), (0, .ref (ad 56)), (1, .int a0), (2, .int l2_7), (4, .int l4_7), (5, .int (gI z 60 ((4 * a0) + l4_7).toNatClampNeg))] X hl dX10_brokenOn_62 (Nat.le_of_ble_eq_true rfl) rfl (fun ls hl => ?_)
              refine u_iload_n X hl dX10_brokenOn_63 3 rfl ?_
              refine u_iconst (v := 1) X dX10_brokenOn_64 rfl ?_
              refine u_iload X hl dX10_brokenOn_65 5 rfl ?_
              refine u_ishl X dX10_brokenOn_67 ?_
              refine u_ior X dX10_brokenOn_68 ?_
              refine u_istore_n [(2, .int (l2_7 ||| ((1 : Int32) <<< ((gI z 60 ((4 * a0) + l4_7).toNatClampNeg) &&& 31)))), (3, .int s0_62), (0, .ref (ad 56)), (1, .int a0), (4, .int l4_7), (5, .int (gI z 60 ((4 * a0) + l4_7).toNatClampNeg))] X hl dX10_brokenOn_69 (Nat.le_of_ble_eq_true rfl) rfl (fun ls hl => ?_)
              refine u_iinc [(4, .int (l4_7 + 1)), (2, .int (l2_7 ||| ((1 : Int32) <<< ((gI z 60 ((4 * a0) + l4_7).toNatClampNeg) &&& 31)))), (3, .int s0_62), (0, .ref (ad 56)), (1, .int a0), (5, .int (gI z 60 ((4 * a0) + l4_7).toNatClampNeg))] X hl dX10_brokenOn_70 4 rfl rfl (Nat.le_of_ble_eq_true rfl) rfl (fun ls hl => ?_)
              refine u_goto 7 X dX10_brokenOn_73 rfl ?_
              exact ih7 _ _ _ _ _ _ (lv_sub hl [3, 4, 1, 2, 0] rfl) hP hS h
            have J57 : ∀ (H : Heap) (locs : List Loc) (ls : Array Slot), lv_has ls 6 [(0, .ref (ad 56)), (1, .int a0), (2, .int l2_7), (4, .int l4_7), (5, .int (gI z 60 ((4 * a0) + l4_7).toNatClampNeg))] → va_P D clss (wld cs ad z) H → va_S A s.heap H locs → fM_brokenOn_J57 z (fM_brokenOn_L7 z a0 n7) l2_7 l4_7 (gI z 60 ((4 * a0) + l4_7).toNatClampNeg) = some r → W p l e R s m args below meth c H locs 0 0 Q (F0 m 57 ls []) := by
              intro H locs ls hl hP hS h
              rw [fM_brokenOn_J57] at h
              refine u_iconst (v := 1) X dX10_brokenOn_57 rfl ?_
              refine u_goto 62 X dX10_brokenOn_58 rfl ?_
              exact J62 _ _ _ _ hl hP hS h
            refine u_if_ne 57 X dX10_brokenOn_44 rfl (fun hc => ?_) (fun hc => ?_)
            · rw [if_neg hc] at h
              exact J57 _ _ _ (lv_sub hl [1, 2, 3, 5, 0] rfl) hP hS h
            · rw [if_pos hc] at h
              refine u_iload_n X hl dX10_brokenOn_47 3 rfl ?_
              refine u_iload X hl dX10_brokenOn_48 0 rfl ?_
              refine u_ishr X dX10_brokenOn_50 ?_
              refine u_iconst (v := 1) X dX10_brokenOn_51 rfl ?_
              refine u_iand X dX10_brokenOn_52 ?_
              refine u_iconst (v := 1) X dX10_brokenOn_53 rfl ?_
              refine u_icmp_ne 61 X dX10_brokenOn_54 rfl (fun hc => ?_) (fun hc => ?_)
              · rw [if_neg hc] at h
                refine u_iconst (v := 0) X dX10_brokenOn_61 rfl ?_
                exact J62 _ _ _ _ (lv_sub hl [1, 2, 3, 5, 0] rfl) hP hS h
              · rw [if_pos hc] at h
                exact J57 _ _ _ (lv_sub hl [1, 2, 3, 5, 0] rfl) hP hS h
          · rw [if_neg hc] at h
            refine u_iconst (v := 1) X dX10_brokenOn_41 rfl ?_
            exact u_iretP X hr hret h hP hS dX10_brokenOn_42
  exact L7 LF _ _ _ _ _ _ (lv_sub hl [3, 4, 2, 1, 0] rfl) hP hS h
def fM_broken (z : MS) (a0 : Int32) : Option Int32 :=
  if (fM_isDay a0) = 0 then some (-1) else Option.bind (fM_brokenOn z a0) (fun w9 => some w9)
set_option maxRecDepth 4000 in
theorem cM_broken (l : Launch) {z : MS} {a0 : Int32} {r : Int32} (h : fM_broken z a0 = some r) : CT l yX10_broken cX10_broken 2 (some .int) 6 142 (fun ad sd => [.ref (ad 56), .int a0]) z (some (.int r)) z := by
  rw [fM_broken] at h
  refine u_start RX10 rfl (by decide) (fun _ _ => Nat.le_of_ble_eq_true rfl) (fun p e s m args below meth c R D ad cs sd A Q ls X hP hS hl hr hret => ?_)
  have hl : lv_has ls 2 [(0, .ref (ad 56)), (1, .int a0)] := hl
  refine u_iload_n X hl dX10_broken_0 1 rfl ?_
  refine u_callSi X hP hS hl dX10_broken_1 (cM_isDay l z a0) cw_X10_233 rfl rfl rfl rfl ⟨rfl, rfl⟩ (fun H locs hP hS => ?_)
  refine u_if_eq 15 X dX10_broken_4 rfl (fun hc => ?_) (fun hc => ?_)
  · rw [if_pos hc] at h
    refine u_iconst (v := (-1)) X dX10_broken_15 rfl ?_
    exact u_iretP X hr hret h hP hS dX10_broken_16
  · rw [if_neg hc] at h
    refine u_aload_n X hl dX10_broken_7 0 rfl ?_
    refine u_iload_n X hl dX10_broken_8 1 rfl ?_
    obtain ⟨w9, hc9, h⟩ := ob_inv h
    refine u_callVi X hP hS hl dX10_broken_9 (cM_brokenOn l hc9) cw_X10_290 io_56 rfl rfl rfl rfl ⟨rfl, rfl⟩ (fun H locs hP hS => ?_)
    refine u_goto 16 X dX10_broken_12 rfl ?_
    exact u_iretP X hr hret h hP hS dX10_broken_16
def fM_keepsPosts_L2 (l1 : Int32) (l2 : Int32) : Nat → MS → Int32 → Option MS
  | 0, _, _ => none
  | n + 1, z, l3 => if (4 * l2) ≤ l3 then some z else (if ((4 * l1) + l3) < 0 ∨ 40 ≤ ((4 * l1) + l3).toNatClampNeg then none else if l3 < 0 ∨ 12 ≤ l3.toNatClampNeg then none else fM_keepsPosts_L2 l1 l2 n (pI z 70 l3.toNatClampNeg (gI z 60 ((4 * l1) + l3).toNatClampNeg)) (l3 + 1))
def fM_keepsPosts (z : MS) (a0 : Int32) (a1 : Int32) : Option MS :=
  fM_keepsPosts_L2 a0 a1 LF z 0
set_option maxRecDepth 4000 in
theorem cM_keepsPosts (l : Launch) {z : MS} {a0 : Int32} {a1 : Int32} {z1 : MS} (h : fM_keepsPosts z a0 a1 = some z1) : CT l yX10_keepsPosts cX10_keepsPosts 4 none 0 0 (fun ad sd => [.ref (ad 56), .int a0, .int a1]) z none z1 := by
  rw [fM_keepsPosts] at h
  refine u_start RX10 rfl (by decide) (fun _ _ => Nat.le_of_ble_eq_true rfl) (fun p e s m args below meth c R D ad cs sd A Q ls X hP hS hl hr hret => ?_)
  have hl : lv_has ls 4 [(0, .ref (ad 56)), (1, .int a0), (2, .int a1)] := hl
  refine u_iconst (v := 0) X dX10_keepsPosts_0 rfl ?_
  refine u_istore_n [(3, .int 0), (0, .ref (ad 56)), (1, .int a0), (2, .int a1)] X hl dX10_keepsPosts_1 (Nat.le_of_ble_eq_true rfl) rfl (fun ls hl => ?_)
  have L2 : ∀ (n : Nat) (H : Heap) (locs : List Loc) (ls : Array Slot) (z_2 : MS) (l3_2 : Int32), lv_has ls 4 [(0, .ref (ad 56)), (1, .int a0), (2, .int a1), (3, .int l3_2)] → va_P D clss (wld cs ad z_2) H → va_S A s.heap H locs → fM_keepsPosts_L2 a0 a1 n z_2 l3_2 = some z1 → W p l e R s m args below meth c H locs 0 0 Q (F0 m 2 ls []) := by
    intro n
    induction n with
    | zero =>
      intro H locs ls z_2 l3_2 hl hP hS h
      rw [fM_keepsPosts_L2] at h
      cases h
    | succ n2 ih2 =>
      intro H locs ls z_2 l3_2 hl hP hS h
      rw [fM_keepsPosts_L2] at h
      refine u_iload_n X hl dX10_keepsPosts_2 3 rfl ?_
      refine u_iconst (v := 4) X dX10_keepsPosts_3 rfl ?_
      refine u_iload_n X hl dX10_keepsPosts_4 2 rfl ?_
      refine u_imul X dX10_keepsPosts_5 ?_
      refine u_icmp_ge 31 X dX10_keepsPosts_6 rfl (fun hc => ?_) (fun hc => ?_)
      · rw [if_pos hc] at h
        exact u_vretM X hr hret h hP hS dX10_keepsPosts_31
      · rw [if_neg hc] at h
        refine u_aload_n X hl dX10_keepsPosts_9 0 rfl ?_
        refine gf_X10_53_56 X hP dX10_keepsPosts_10 ?_
        refine u_iload_n X hl dX10_keepsPosts_13 3 rfl ?_
        refine u_aload_n X hl dX10_keepsPosts_14 0 rfl ?_
        refine gf_X10_19_56 X hP dX10_keepsPosts_15 ?_
        refine u_iconst (v := 4) X dX10_keepsPosts_18 rfl ?_
        refine u_iload_n X hl dX10_keepsPosts_19 1 rfl ?_
        refine u_imul X dX10_keepsPosts_20 ?_
        refine u_iload_n X hl dX10_keepsPosts_21 3 rfl ?_
        refine u_iadd X dX10_keepsPosts_22 ?_
        obtain ⟨hin, h⟩ := ifn_inv h
        refine ld_60 X hP rfl hin dX10_keepsPosts_23 ?_
        obtain ⟨hin, h⟩ := ifn_inv h
        refine as_70 X hP hS rfl hin dX10_keepsPosts_24 (fun H locs hP hS => ?_)
        refine u_iinc [(3, .int (l3_2 + 1)), (0, .ref (ad 56)), (1, .int a0), (2, .int a1)] X hl dX10_keepsPosts_25 3 rfl rfl (Nat.le_of_ble_eq_true rfl) rfl (fun ls hl => ?_)
        refine u_goto 2 X dX10_keepsPosts_28 rfl ?_
        exact ih2 _ _ _ _ _ (lv_sub hl [1, 2, 3, 0] rfl) hP hS h
  exact L2 LF _ _ _ _ _ (lv_sub hl [1, 2, 3, 0] rfl) hP hS h
def fM_givesPosts_L2 (l1 : Int32) (l2 : Int32) : Nat → MS → Int32 → Option MS
  | 0, _, _ => none
  | n + 1, z, l3 => if (4 * l2) ≤ l3 then some z else (if l3 < 0 ∨ 12 ≤ l3.toNatClampNeg then none else if ((4 * l1) + l3) < 0 ∨ 40 ≤ ((4 * l1) + l3).toNatClampNeg then none else fM_givesPosts_L2 l1 l2 n (pI z 60 ((4 * l1) + l3).toNatClampNeg (gI z 70 l3.toNatClampNeg)) (l3 + 1))
def fM_givesPosts (z : MS) (a0 : Int32) (a1 : Int32) : Option MS :=
  fM_givesPosts_L2 a0 a1 LF z 0
set_option maxRecDepth 4000 in
theorem cM_givesPosts (l : Launch) {z : MS} {a0 : Int32} {a1 : Int32} {z1 : MS} (h : fM_givesPosts z a0 a1 = some z1) : CT l yX10_givesPosts cX10_givesPosts 4 none 0 0 (fun ad sd => [.ref (ad 56), .int a0, .int a1]) z none z1 := by
  rw [fM_givesPosts] at h
  refine u_start RX10 rfl (by decide) (fun _ _ => Nat.le_of_ble_eq_true rfl) (fun p e s m args below meth c R D ad cs sd A Q ls X hP hS hl hr hret => ?_)
  have hl : lv_has ls 4 [(0, .ref (ad 56)), (1, .int a0), (2, .int a1)] := hl
  refine u_iconst (v := 0) X dX10_givesPosts_0 rfl ?_
  refine u_istore_n [(3, .int 0), (0, .ref (ad 56)), (1, .int a0), (2, .int a1)] X hl dX10_givesPosts_1 (Nat.le_of_ble_eq_true rfl) rfl (fun ls hl => ?_)
  have L2 : ∀ (n : Nat) (H : Heap) (locs : List Loc) (ls : Array Slot) (z_2 : MS) (l3_2 : Int32), lv_has ls 4 [(0, .ref (ad 56)), (1, .int a0), (2, .int a1), (3, .int l3_2)] → va_P D clss (wld cs ad z_2) H → va_S A s.heap H locs → fM_givesPosts_L2 a0 a1 n z_2 l3_2 = some z1 → W p l e R s m args below meth c H locs 0 0 Q (F0 m 2 ls []) := by
    intro n
    induction n with
    | zero =>
      intro H locs ls z_2 l3_2 hl hP hS h
      rw [fM_givesPosts_L2] at h
      cases h
    | succ n2 ih2 =>
      intro H locs ls z_2 l3_2 hl hP hS h
      rw [fM_givesPosts_L2] at h
      refine u_iload_n X hl dX10_givesPosts_2 3 rfl ?_
      refine u_iconst (v := 4) X dX10_givesPosts_3 rfl ?_
      refine u_iload_n X hl dX10_givesPosts_4 2 rfl ?_
      refine u_imul X dX10_givesPosts_5 ?_
      refine u_icmp_ge 31 X dX10_givesPosts_6 rfl (fun hc => ?_) (fun hc => ?_)
      · rw [if_pos hc] at h
        exact u_vretM X hr hret h hP hS dX10_givesPosts_31
      · rw [if_neg hc] at h
        refine u_aload_n X hl dX10_givesPosts_9 0 rfl ?_
        refine gf_X10_19_56 X hP dX10_givesPosts_10 ?_
        refine u_iconst (v := 4) X dX10_givesPosts_13 rfl ?_
        refine u_iload_n X hl dX10_givesPosts_14 1 rfl ?_
        refine u_imul X dX10_givesPosts_15 ?_
        refine u_iload_n X hl dX10_givesPosts_16 3 rfl ?_
        refine u_iadd X dX10_givesPosts_17 ?_
        refine u_aload_n X hl dX10_givesPosts_18 0 rfl ?_
        refine gf_X10_53_56 X hP dX10_givesPosts_19 ?_
        refine u_iload_n X hl dX10_givesPosts_22 3 rfl ?_
        obtain ⟨hin, h⟩ := ifn_inv h
        refine ld_70 X hP rfl hin dX10_givesPosts_23 ?_
        obtain ⟨hin, h⟩ := ifn_inv h
        refine as_60 X hP hS rfl hin dX10_givesPosts_24 (fun H locs hP hS => ?_)
        refine u_iinc [(3, .int (l3_2 + 1)), (0, .ref (ad 56)), (1, .int a0), (2, .int a1)] X hl dX10_givesPosts_25 3 rfl rfl (Nat.le_of_ble_eq_true rfl) rfl (fun ls hl => ?_)
        refine u_goto 2 X dX10_givesPosts_28 rfl ?_
        exact ih2 _ _ _ _ _ (lv_sub hl [1, 2, 3, 0] rfl) hP hS h
  exact L2 LF _ _ _ _ _ (lv_sub hl [1, 2, 3, 0] rfl) hP hS h
def fM_comes_L5 (l1 : Int32) (l2 : Int32) : Nat → MS → Int32 → Int32 → Option (Int32 × MS)
  | 0, _, _, _ => none
  | n + 1, z, l3, l4 => if 4 ≤ l4 then some (1, z) else (if (fM_isPerson z ((l2 >>> ((3 * (3 - l4)) &&& 31)) &&& 7)) = 0 then some (0, z) else Option.bind (fM_isAway z ((l2 >>> ((3 * (3 - l4)) &&& 31)) &&& 7) l1) (fun w37 => if w37 = 0 then (if ((l3 >>> (((l2 >>> ((3 * (3 - l4)) &&& 31)) &&& 7) &&& 31)) &&& 1) = 1 then some (0, z) else (if ((4 * l1) + l4) < 0 ∨ 40 ≤ ((4 * l1) + l4).toNatClampNeg then none else fM_comes_L5 l1 l2 n (pI z 60 ((4 * l1) + l4).toNatClampNeg ((l2 >>> ((3 * (3 - l4)) &&& 31)) &&& 7)) (l3 ||| ((1 : Int32) <<< (((l2 >>> ((3 * (3 - l4)) &&& 31)) &&& 7) &&& 31))) (l4 + 1))) else some (0, z)))
def fM_comes (z : MS) (a0 : Int32) (a1 : Int32) : Option (Int32 × MS) :=
  fM_comes_L5 a0 a1 LF z 0 0
set_option maxRecDepth 4000 in
theorem cM_comes (l : Launch) {z : MS} {a0 : Int32} {a1 : Int32} {r : Int32} {z1 : MS} (h : fM_comes z a0 a1 = some (r, z1)) : CT l yX10_comes cX10_comes 6 (some .boolean) 2 43 (fun ad sd => [.ref (ad 56), .int a0, .int a1]) z (some (.int r)) z1 := by
  rw [fM_comes] at h
  refine u_start RX10 rfl (by decide) (fun _ _ => Nat.le_of_ble_eq_true rfl) (fun p e s m args below meth c R D ad cs sd A Q ls X hP hS hl hr hret => ?_)
  have hl : lv_has ls 6 [(0, .ref (ad 56)), (1, .int a0), (2, .int a1)] := hl
  refine u_iconst (v := 0) X dX10_comes_0 rfl ?_
  refine u_istore_n [(3, .int 0), (0, .ref (ad 56)), (1, .int a0), (2, .int a1)] X hl dX10_comes_1 (Nat.le_of_ble_eq_true rfl) rfl (fun ls hl => ?_)
  refine u_iconst (v := 0) X dX10_comes_2 rfl ?_
  refine u_istore [(4, .int 0), (3, .int 0), (0, .ref (ad 56)), (1, .int a0), (2, .int a1)] X hl dX10_comes_3 (Nat.le_of_ble_eq_true rfl) rfl (fun ls hl => ?_)
  have L5 : ∀ (n : Nat) (H : Heap) (locs : List Loc) (ls : Array Slot) (z_5 : MS) (l3_5 : Int32) (l4_5 : Int32), lv_has ls 6 [(0, .ref (ad 56)), (1, .int a0), (2, .int a1), (3, .int l3_5), (4, .int l4_5)] → va_P D clss (wld cs ad z_5) H → va_S A s.heap H locs → fM_comes_L5 a0 a1 n z_5 l3_5 l4_5 = some (r, z1) → W p l e R s m args below meth c H locs 0 0 Q (F0 m 5 ls []) := by
    intro n
    induction n with
    | zero =>
      intro H locs ls z_5 l3_5 l4_5 hl hP hS h
      rw [fM_comes_L5] at h
      cases h
    | succ n5 ih5 =>
      intro H locs ls z_5 l3_5 l4_5 hl hP hS h
      rw [fM_comes_L5] at h
      refine u_iload X hl dX10_comes_5 4 rfl ?_
      refine u_iconst (v := 4) X dX10_comes_7 rfl ?_
      refine u_icmp_ge 81 X dX10_comes_8 rfl (fun hc => ?_) (fun hc => ?_)
      · rw [if_pos hc] at h
        refine u_iconst (v := 1) X dX10_comes_81 rfl ?_
        exact u_zretM X hr hret h hP hS (Or.inr rfl) dX10_comes_82
      · rw [if_neg hc] at h
        refine u_iload_n X hl dX10_comes_11 2 rfl ?_
        refine u_iconst (v := 3) X dX10_comes_12 rfl ?_
        refine u_iconst (v := 3) X dX10_comes_13 rfl ?_
        refine u_iload X hl dX10_comes_14 4 rfl ?_
        refine u_isub X dX10_comes_16 ?_
        refine u_imul X dX10_comes_17 ?_
        refine u_ishr X dX10_comes_18 ?_
        refine u_bipush (v := 7) X dX10_comes_19 rfl ?_
        refine u_iand X dX10_comes_21 ?_
        refine u_istore [(5, .int ((a1 >>> ((3 * (3 - l4_5)) &&& 31)) &&& 7)), (0, .ref (ad 56)), (1, .int a0), (2, .int a1), (3, .int l3_5), (4, .int l4_5)] X hl dX10_comes_22 (Nat.le_of_ble_eq_true rfl) rfl (fun ls hl => ?_)
        refine u_aload_n X hl dX10_comes_24 1 rfl ?_
        refine u_iload X hl dX10_comes_25 0 rfl ?_
        refine u_callVi X hP hS hl dX10_comes_27 (cM_isPerson l z_5 ((a1 >>> ((3 * (3 - l4_5)) &&& 31)) &&& 7)) cw_X10_109 io_56 rfl rfl rfl rfl ⟨rfl, rfl⟩ (fun H locs hP hS => ?_)
        refine u_if_eq 53 X dX10_comes_30 rfl (fun hc => ?_) (fun hc => ?_)
        · rw [if_pos hc] at h
          refine u_iconst (v := 0) X dX10_comes_53 rfl ?_
          exact u_zretM X hr hret h hP hS (Or.inl rfl) dX10_comes_54
        · rw [if_neg hc] at h
          refine u_aload_n X hl dX10_comes_33 1 rfl ?_
          refine u_iload X hl dX10_comes_34 0 rfl ?_
          refine u_iload_n X hl dX10_comes_36 2 rfl ?_
          obtain ⟨w37, hc37, h⟩ := ob_inv h
          refine u_callVi X hP hS hl dX10_comes_37 (cM_isAway l hc37) cw_X10_236 io_56 rfl rfl rfl rfl ⟨rfl, rfl⟩ (fun H locs hP hS => ?_)
          refine u_if_ne 53 X dX10_comes_40 rfl (fun hc => ?_) (fun hc => ?_)
          · rw [if_neg hc] at h
            refine u_iconst (v := 0) X dX10_comes_53 rfl ?_
            exact u_zretM X hr hret h hP hS (Or.inl rfl) dX10_comes_54
          · rw [if_pos hc] at h
            refine u_iload_n X hl dX10_comes_43 4 rfl ?_
            refine u_iload X hl dX10_comes_44 0 rfl ?_
            refine u_ishr X dX10_comes_46 ?_
            refine u_iconst (v := 1) X dX10_comes_47 rfl ?_
            refine u_iand X dX10_comes_48 ?_
            refine u_iconst (v := 1) X dX10_comes_49 rfl ?_
            refine u_icmp_ne 55 X dX10_comes_50 rfl (fun hc => ?_) (fun hc => ?_)
            · rw [if_neg hc] at h
              refine u_iload_n X hl dX10_comes_55 4 rfl ?_
              refine u_iconst (v := 1) X dX10_comes_56 rfl ?_
              refine u_iload X hl dX10_comes_57 0 rfl ?_
              refine u_ishl X dX10_comes_59 ?_
              refine u_ior X dX10_comes_60 ?_
              refine u_istore_n [(3, .int (l3_5 ||| ((1 : Int32) <<< (((a1 >>> ((3 * (3 - l4_5)) &&& 31)) &&& 7) &&& 31)))), (5, .int ((a1 >>> ((3 * (3 - l4_5)) &&& 31)) &&& 7)), (0, .ref (ad 56)), (1, .int a0), (2, .int a1), (4, .int l4_5)] X hl dX10_comes_61 (Nat.le_of_ble_eq_true rfl) rfl (fun ls hl => ?_)
              refine u_aload_n X hl dX10_comes_62 2 rfl ?_
              refine gf_X10_19_56 X hP dX10_comes_63 ?_
              refine u_iconst (v := 4) X dX10_comes_66 rfl ?_
              refine u_iload_n X hl dX10_comes_67 3 rfl ?_
              refine u_imul X dX10_comes_68 ?_
              refine u_iload X hl dX10_comes_69 5 rfl ?_
              refine u_iadd X dX10_comes_71 ?_
              refine u_iload X hl dX10_comes_72 1 rfl ?_
              obtain ⟨hin, h⟩ := ifn_inv h
              refine as_60 X hP hS rfl hin dX10_comes_74 (fun H locs hP hS => ?_)
              refine u_iinc [(4, .int (l4_5 + 1)), (3, .int (l3_5 ||| ((1 : Int32) <<< (((a1 >>> ((3 * (3 - l4_5)) &&& 31)) &&& 7) &&& 31)))), (5, .int ((a1 >>> ((3 * (3 - l4_5)) &&& 31)) &&& 7)), (0, .ref (ad 56)), (1, .int a0), (2, .int a1)] X hl dX10_comes_75 5 rfl rfl (Nat.le_of_ble_eq_true rfl) rfl (fun ls hl => ?_)
              refine u_goto 5 X dX10_comes_78 rfl ?_
              exact ih5 _ _ _ _ _ _ (lv_sub hl [3, 4, 5, 1, 0] rfl) hP hS h
            · rw [if_pos hc] at h
              refine u_iconst (v := 0) X dX10_comes_53 rfl ?_
              exact u_zretM X hr hret h hP hS (Or.inl rfl) dX10_comes_54
  exact L5 LF _ _ _ _ _ _ (lv_sub hl [2, 3, 4, 1, 0] rfl) hP hS h
def fM_mended_L119 (K28 : MS → Int32 → Int32 → Option (Int32 × MS)) (l1 : Int32) (l3 : Int32) (l4 : Int32) : Nat → MS → Int32 → Option (Int32 × MS)
  | 0, _, _ => none
  | n + 1, z, l6 => if 4 ≤ l6 then K28 z l3 (l4 + 1) else (if ((4 * l1) + l6) < 0 ∨ 40 ≤ ((4 * l1) + l6).toNatClampNeg then none else if l6 < 0 ∨ 4 ≤ l6.toNatClampNeg then none else fM_mended_L119 K28 l1 l3 l4 n (pI z 71 l6.toNatClampNeg (gI z 60 ((4 * l1) + l6).toNatClampNeg)) (l6 + 1))
def fM_mended_L60 (z : MS) (K28 : MS → Int32 → Int32 → Option (Int32 × MS)) (l1 : Int32) (l3 : Int32) (l4 : Int32) : Nat → Int32 → Int32 → Option (Int32 × MS)
  | 0, _, _ => none
  | n + 1, l5, l6 => if 4 ≤ l6 then (if l3 < 0 then fM_mended_L119 K28 l1 l5 l4 LF z 0 else (if l3 ≤ l5 then K28 z l3 (l4 + 1) else fM_mended_L119 K28 l1 l5 l4 LF z 0)) else (if ((4 * l1) + l6) < 0 ∨ 40 ≤ ((4 * l1) + l6).toNatClampNeg then none else if l6 < 0 ∨ 12 ≤ l6.toNatClampNeg then none else if (gI z 60 ((4 * l1) + l6).toNatClampNeg) = (gI z 70 l6.toNatClampNeg) then fM_mended_L60 z K28 l1 l3 l4 n (l5 + 0) (l6 + 1) else fM_mended_L60 z K28 l1 l3 l4 n (l5 + 1) (l6 + 1))
def fM_mended_L28 (l1 : Int32) (l2 : Int32) : Nat → MS → Int32 → Int32 → Option (Int32 × MS)
  | 0, _, _, _ => none
  | n + 1, z, l3, l4 => if 4096 ≤ l4 then Option.bind (fM_givesPosts z l1 1) (fun zc158 => if l3 < 0 then some (l3, zc158) else (if l2 = 0 then some (l3, zc158) else some ((((gI zc158 71 0) ||| ((gI zc158 71 1) <<< (3 &&& 31))) ||| ((gI zc158 71 2) <<< (6 &&& 31))) ||| ((gI zc158 71 3) <<< (9 &&& 31)), zc158))) else ob2 (fM_comes z l1 l4) (fun w40 zc40 => if w40 = 0 then fM_mended_L28 l1 l2 n zc40 l3 (l4 + 1) else Option.bind (fM_brokenOn zc40 l1) (fun w48 => if w48 = 0 then fM_mended_L60 zc40 (fM_mended_L28 l1 l2 n) l1 l3 l4 LF 0 0 else fM_mended_L28 l1 l2 n zc40 l3 (l4 + 1)))
def fM_mended (z : MS) (a0 : Int32) (a1 : Int32) : Option (Int32 × MS) :=
  if (fM_isDay a0) = 0 then some ((-1), z) else (if (fM_isSide a1) = 0 then some ((-1), z) else Option.bind (fM_keepsPosts z a0 1) (fun zc19 => fM_mended_L28 a0 a1 LF zc19 (-3) 0))
set_option maxRecDepth 4000 in
theorem cM_mended (l : Launch) {z : MS} {a0 : Int32} {a1 : Int32} {r : Int32} {z1 : MS} (h : fM_mended z a0 a1 = some (r, z1)) : CT l yX10_mended cX10_mended 7 (some .int) 6 142 (fun ad sd => [.ref (ad 56), .int a0, .int a1]) z (some (.int r)) z1 := by
  rw [fM_mended] at h
  refine u_start RX10 rfl (by decide) (fun _ _ => Nat.le_of_ble_eq_true rfl) (fun p e s m args below meth c R D ad cs sd A Q ls X hP hS hl hr hret => ?_)
  have hl : lv_has ls 7 [(0, .ref (ad 56)), (1, .int a0), (2, .int a1)] := hl
  refine u_iload_n X hl dX10_mended_0 1 rfl ?_
  refine u_callSi X hP hS hl dX10_mended_1 (cM_isDay l z a0) cw_X10_233 rfl rfl rfl rfl ⟨rfl, rfl⟩ (fun H locs hP hS => ?_)
  refine u_if_eq 14 X dX10_mended_4 rfl (fun hc => ?_) (fun hc => ?_)
  · rw [if_pos hc] at h
    refine u_iconst (v := (-1)) X dX10_mended_14 rfl ?_
    exact u_iretM X hr hret h hP hS dX10_mended_15
  · rw [if_neg hc] at h
    refine u_iload_n X hl dX10_mended_7 2 rfl ?_
    refine u_callSi X hP hS hl dX10_mended_8 (cM_isSide l z a1) cw_X10_281 rfl rfl rfl rfl ⟨rfl, rfl⟩ (fun H locs hP hS => ?_)
    refine u_if_ne 16 X dX10_mended_11 rfl (fun hc => ?_) (fun hc => ?_)
    · rw [if_neg hc] at h
      refine u_aload_n X hl dX10_mended_16 0 rfl ?_
      refine u_iload_n X hl dX10_mended_17 1 rfl ?_
      refine u_iconst (v := 1) X dX10_mended_18 rfl ?_
      obtain ⟨zc19, hc19, h⟩ := ob_inv h
      refine u_callVv X hP hS hl dX10_mended_19 (cM_keepsPosts l hc19) cw_X10_293 io_56 rfl rfl rfl rfl ⟨rfl, rfl⟩ (fun H locs hP hS => ?_)
      refine u_bipush (v := (-3)) X dX10_mended_22 rfl ?_
      refine u_istore_n [(3, .int (-3)), (0, .ref (ad 56)), (1, .int a0), (2, .int a1)] X hl dX10_mended_24 (Nat.le_of_ble_eq_true rfl) rfl (fun ls hl => ?_)
      refine u_iconst (v := 0) X dX10_mended_25 rfl ?_
      refine u_istore [(4, .int 0), (3, .int (-3)), (0, .ref (ad 56)), (1, .int a0), (2, .int a1)] X hl dX10_mended_26 (Nat.le_of_ble_eq_true rfl) rfl (fun ls hl => ?_)
      have L28 : ∀ (n : Nat) (H : Heap) (locs : List Loc) (ls : Array Slot) (z_28 : MS) (l3_28 : Int32) (l4_28 : Int32), lv_has ls 7 [(0, .ref (ad 56)), (1, .int a0), (2, .int a1), (3, .int l3_28), (4, .int l4_28)] → va_P D clss (wld cs ad z_28) H → va_S A s.heap H locs → fM_mended_L28 a0 a1 n z_28 l3_28 l4_28 = some (r, z1) → W p l e R s m args below meth c H locs 0 0 Q (F0 m 28 ls []) := by
        intro n
        induction n with
        | zero =>
          intro H locs ls z_28 l3_28 l4_28 hl hP hS h
          rw [fM_mended_L28] at h
          cases h
        | succ n28 ih28 =>
          intro H locs ls z_28 l3_28 l4_28 hl hP hS h
          rw [fM_mended_L28] at h
          refine u_iload X hl dX10_mended_28 4 rfl ?_
          refine u_sipush (v := 4096) X dX10_mended_30 rfl ?_
          refine u_icmp_ge 155 X dX10_mended_33 rfl (fun hc => ?_) (fun hc => ?_)
          · rw [if_pos hc] at h
            refine u_aload_n X hl dX10_mended_155 0 rfl ?_
            refine u_iload_n X hl dX10_mended_156 1 rfl ?_
            refine u_iconst (v := 1) X dX10_mended_157 rfl ?_
            obtain ⟨zc158, hc158, h⟩ := ob_inv h
            refine u_callVv X hP hS hl dX10_mended_158 (cM_givesPosts l hc158) cw_X10_300 io_56 rfl rfl rfl rfl ⟨rfl, rfl⟩ (fun H locs hP hS => ?_)
            refine u_iload_n X hl dX10_mended_161 3 rfl ?_
            refine u_if_lt 169 X dX10_mended_162 rfl (fun hc => ?_) (fun hc => ?_)
            · rw [if_pos hc] at h
              refine u_iload_n X hl dX10_mended_169 3 rfl ?_
              exact u_iretM X hr hret h hP hS dX10_mended_170
            · rw [if_neg hc] at h
              refine u_iload_n X hl dX10_mended_165 2 rfl ?_
              refine u_if_ne 171 X dX10_mended_166 rfl (fun hc => ?_) (fun hc => ?_)
              · rw [if_neg hc] at h
                refine u_aload_n X hl dX10_mended_171 0 rfl ?_
                refine gf_X10_56_56 X hP dX10_mended_172 ?_
                refine u_iconst (v := 0) X dX10_mended_175 rfl ?_
                refine ld_71 (w := 0) X hP rfl (by decide) dX10_mended_176 ?_
                refine u_aload_n X hl dX10_mended_177 0 rfl ?_
                refine gf_X10_56_56 X hP dX10_mended_178 ?_
                refine u_iconst (v := 1) X dX10_mended_181 rfl ?_
                refine ld_71 (w := 1) X hP rfl (by decide) dX10_mended_182 ?_
                refine u_iconst (v := 3) X dX10_mended_183 rfl ?_
                refine u_ishl X dX10_mended_184 ?_
                refine u_ior X dX10_mended_185 ?_
                refine u_aload_n X hl dX10_mended_186 0 rfl ?_
                refine gf_X10_56_56 X hP dX10_mended_187 ?_
                refine u_iconst (v := 2) X dX10_mended_190 rfl ?_
                refine ld_71 (w := 2) X hP rfl (by decide) dX10_mended_191 ?_
                refine u_bipush (v := 6) X dX10_mended_192 rfl ?_
                refine u_ishl X dX10_mended_194 ?_
                refine u_ior X dX10_mended_195 ?_
                refine u_aload_n X hl dX10_mended_196 0 rfl ?_
                refine gf_X10_56_56 X hP dX10_mended_197 ?_
                refine u_iconst (v := 3) X dX10_mended_200 rfl ?_
                refine ld_71 (w := 3) X hP rfl (by decide) dX10_mended_201 ?_
                refine u_bipush (v := 9) X dX10_mended_202 rfl ?_
                refine u_ishl X dX10_mended_204 ?_
                refine u_ior X dX10_mended_205 ?_
                exact u_iretM X hr hret h hP hS dX10_mended_206
              · rw [if_pos hc] at h
                refine u_iload_n X hl dX10_mended_169 3 rfl ?_
                exact u_iretM X hr hret h hP hS dX10_mended_170
          · rw [if_neg hc] at h
            refine u_aload_n X hl dX10_mended_36 0 rfl ?_
            refine u_iload_n X hl dX10_mended_37 1 rfl ?_
            refine u_iload X hl dX10_mended_38 4 rfl ?_
            obtain ⟨w40, zc40, hc40, h⟩ := ob2_inv h
            refine u_callVi X hP hS hl dX10_mended_40 (cM_comes l hc40) cw_X10_297 io_56 rfl rfl rfl rfl ⟨rfl, rfl⟩ (fun H locs hP hS => ?_)
            refine u_if_eq 149 X dX10_mended_43 rfl (fun hc => ?_) (fun hc => ?_)
            · rw [if_pos hc] at h
              refine u_iinc [(4, .int (l4_28 + 1)), (0, .ref (ad 56)), (1, .int a0), (2, .int a1), (3, .int l3_28)] X hl dX10_mended_149 4 rfl rfl (Nat.le_of_ble_eq_true rfl) rfl (fun ls hl => ?_)
              refine u_goto 28 X dX10_mended_152 rfl ?_
              exact ih28 _ _ _ _ _ _ (lv_sub hl [1, 2, 3, 4, 0] rfl) hP hS h
            · rw [if_neg hc] at h
              refine u_aload_n X hl dX10_mended_46 0 rfl ?_
              refine u_iload_n X hl dX10_mended_47 1 rfl ?_
              obtain ⟨w48, hc48, h⟩ := ob_inv h
              refine u_callVi X hP hS hl dX10_mended_48 (cM_brokenOn l hc48) cw_X10_290 io_56 rfl rfl rfl rfl ⟨rfl, rfl⟩ (fun H locs hP hS => ?_)
              refine u_if_ne 149 X dX10_mended_51 rfl (fun hc => ?_) (fun hc => ?_)
              · rw [if_neg hc] at h
                refine u_iinc [(4, .int (l4_28 + 1)), (0, .ref (ad 56)), (1, .int a0), (2, .int a1), (3, .int l3_28)] X hl dX10_mended_149 4 rfl rfl (Nat.le_of_ble_eq_true rfl) rfl (fun ls hl => ?_)
                refine u_goto 28 X dX10_mended_152 rfl ?_
                exact ih28 _ _ _ _ _ _ (lv_sub hl [1, 2, 3, 4, 0] rfl) hP hS h
              · rw [if_pos hc] at h
                refine u_iconst (v := 0) X dX10_mended_54 rfl ?_
                refine u_istore [(5, .int 0), (0, .ref (ad 56)), (1, .int a0), (2, .int a1), (3, .int l3_28), (4, .int l4_28)] X hl dX10_mended_55 (Nat.le_of_ble_eq_true rfl) rfl (fun ls hl => ?_)
                refine u_iconst (v := 0) X dX10_mended_57 rfl ?_
                refine u_istore [(6, .int 0), (5, .int 0), (0, .ref (ad 56)), (1, .int a0), (2, .int a1), (3, .int l3_28), (4, .int l4_28)] X hl dX10_mended_58 (Nat.le_of_ble_eq_true rfl) rfl (fun ls hl => ?_)
                have L60 : ∀ (n : Nat) (H : Heap) (locs : List Loc) (ls : Array Slot) (l5_60 : Int32) (l6_60 : Int32), lv_has ls 7 [(0, .ref (ad 56)), (1, .int a0), (2, .int a1), (3, .int l3_28), (4, .int l4_28), (5, .int l5_60), (6, .int l6_60)] → va_P D clss (wld cs ad zc40) H → va_S A s.heap H locs → fM_mended_L60 zc40 (fM_mended_L28 a0 a1 n28) a0 l3_28 l4_28 n l5_60 l6_60 = some (r, z1) → W p l e R s m args below meth c H locs 0 0 Q (F0 m 60 ls []) := by
                  intro n
                  induction n with
                  | zero =>
                    intro H locs ls l5_60 l6_60 hl hP hS h
                    rw [fM_mended_L60] at h
                    cases h
                  | succ n60 ih60 =>
                    intro H locs ls l5_60 l6_60 hl hP hS h
                    rw [fM_mended_L60] at h
                    refine u_iload X hl dX10_mended_60 6 rfl ?_
                    refine u_iconst (v := 4) X dX10_mended_62 rfl ?_
                    refine u_icmp_ge 103 X dX10_mended_63 rfl (fun hc => ?_) (fun hc => ?_)
                    · rw [if_pos hc] at h
                      refine u_iload_n X hl dX10_mended_103 3 rfl ?_
                      refine u_if_lt 113 X dX10_mended_104 rfl (fun hc => ?_) (fun hc => ?_)
                      · rw [if_pos hc] at h
                        refine u_iload X hl dX10_mended_113 5 rfl ?_
                        refine u_istore_n [(3, .int l5_60), (0, .ref (ad 56)), (1, .int a0), (2, .int a1), (4, .int l4_28), (5, .int l5_60), (6, .int l6_60)] X hl dX10_mended_115 (Nat.le_of_ble_eq_true rfl) rfl (fun ls hl => ?_)
                        refine u_iconst (v := 0) X dX10_mended_116 rfl ?_
                        refine u_istore [(6, .int 0), (3, .int l5_60), (0, .ref (ad 56)), (1, .int a0), (2, .int a1), (4, .int l4_28), (5, .int l5_60)] X hl dX10_mended_117 (Nat.le_of_ble_eq_true rfl) rfl (fun ls hl => ?_)
                        have L119 : ∀ (n : Nat) (H : Heap) (locs : List Loc) (ls : Array Slot) (z_119 : MS) (l6_119 : Int32), lv_has ls 7 [(0, .ref (ad 56)), (1, .int a0), (2, .int a1), (3, .int l5_60), (4, .int l4_28), (6, .int l6_119)] → va_P D clss (wld cs ad z_119) H → va_S A s.heap H locs → fM_mended_L119 (fM_mended_L28 a0 a1 n28) a0 l5_60 l4_28 n z_119 l6_119 = some (r, z1) → W p l e R s m args below meth c H locs 0 0 Q (F0 m 119 ls []) := by
                          intro n
                          induction n with
                          | zero =>
                            intro H locs ls z_119 l6_119 hl hP hS h
                            rw [fM_mended_L119] at h
                            cases h
                          | succ n119 ih119 =>
                            intro H locs ls z_119 l6_119 hl hP hS h
                            rw [fM_mended_L119] at h
                            refine u_iload X hl dX10_mended_119 5 rfl ?_
                            refine u_iconst (v := 4) X dX10_mended_121 rfl ?_
                            refine u_icmp_ge 149 X dX10_mended_122 rfl (fun hc => ?_) (fun hc => ?_)
                            · rw [if_pos hc] at h
                              refine u_iinc [(4, .int (l4_28 + 1)), (0, .ref (ad 56)), (1, .int a0), (2, .int a1), (3, .int l5_60), (6, .int l6_119)] X hl dX10_mended_149 4 rfl rfl (Nat.le_of_ble_eq_true rfl) rfl (fun ls hl => ?_)
                              refine u_goto 28 X dX10_mended_152 rfl ?_
                              exact ih28 _ _ _ _ _ _ (lv_sub hl [1, 2, 3, 4, 0] rfl) hP hS h
                            · rw [if_neg hc] at h
                              refine u_aload_n X hl dX10_mended_125 0 rfl ?_
                              refine gf_X10_56_56 X hP dX10_mended_126 ?_
                              refine u_iload X hl dX10_mended_129 5 rfl ?_
                              refine u_aload_n X hl dX10_mended_131 0 rfl ?_
                              refine gf_X10_19_56 X hP dX10_mended_132 ?_
                              refine u_iconst (v := 4) X dX10_mended_135 rfl ?_
                              refine u_iload_n X hl dX10_mended_136 1 rfl ?_
                              refine u_imul X dX10_mended_137 ?_
                              refine u_iload X hl dX10_mended_138 5 rfl ?_
                              refine u_iadd X dX10_mended_140 ?_
                              obtain ⟨hin, h⟩ := ifn_inv h
                              refine ld_60 X hP rfl hin dX10_mended_141 ?_
                              obtain ⟨hin, h⟩ := ifn_inv h
                              refine as_71 X hP hS rfl hin dX10_mended_142 (fun H locs hP hS => ?_)
                              refine u_iinc [(6, .int (l6_119 + 1)), (0, .ref (ad 56)), (1, .int a0), (2, .int a1), (3, .int l5_60), (4, .int l4_28)] X hl dX10_mended_143 5 rfl rfl (Nat.le_of_ble_eq_true rfl) rfl (fun ls hl => ?_)
                              refine u_goto 119 X dX10_mended_146 rfl ?_
                              exact ih119 _ _ _ _ _ (lv_sub hl [1, 2, 3, 4, 5, 0] rfl) hP hS h
                        exact L119 LF _ _ _ _ _ (lv_sub hl [2, 3, 4, 1, 5, 0] rfl) hP hS h
                      · rw [if_neg hc] at h
                        refine u_iload X hl dX10_mended_107 5 rfl ?_
                        refine u_iload_n X hl dX10_mended_109 3 rfl ?_
                        refine u_icmp_ge 149 X dX10_mended_110 rfl (fun hc => ?_) (fun hc => ?_)
                        · rw [if_pos hc] at h
                          refine u_iinc [(4, .int (l4_28 + 1)), (0, .ref (ad 56)), (1, .int a0), (2, .int a1), (3, .int l3_28), (5, .int l5_60), (6, .int l6_60)] X hl dX10_mended_149 4 rfl rfl (Nat.le_of_ble_eq_true rfl) rfl (fun ls hl => ?_)
                          refine u_goto 28 X dX10_mended_152 rfl ?_
                          exact ih28 _ _ _ _ _ _ (lv_sub hl [1, 2, 3, 4, 0] rfl) hP hS h
                        · rw [if_neg hc] at h
                          refine u_iload X hl dX10_mended_113 5 rfl ?_
                          refine u_istore_n [(3, .int l5_60), (0, .ref (ad 56)), (1, .int a0), (2, .int a1), (4, .int l4_28), (5, .int l5_60), (6, .int l6_60)] X hl dX10_mended_115 (Nat.le_of_ble_eq_true rfl) rfl (fun ls hl => ?_)
                          refine u_iconst (v := 0) X dX10_mended_116 rfl ?_
                          refine u_istore [(6, .int 0), (3, .int l5_60), (0, .ref (ad 56)), (1, .int a0), (2, .int a1), (4, .int l4_28), (5, .int l5_60)] X hl dX10_mended_117 (Nat.le_of_ble_eq_true rfl) rfl (fun ls hl => ?_)
                          have L119 : ∀ (n : Nat) (H : Heap) (locs : List Loc) (ls : Array Slot) (z_119 : MS) (l6_119 : Int32), lv_has ls 7 [(0, .ref (ad 56)), (1, .int a0), (2, .int a1), (3, .int l5_60), (4, .int l4_28), (6, .int l6_119)] → va_P D clss (wld cs ad z_119) H → va_S A s.heap H locs → fM_mended_L119 (fM_mended_L28 a0 a1 n28) a0 l5_60 l4_28 n z_119 l6_119 = some (r, z1) → W p l e R s m args below meth c H locs 0 0 Q (F0 m 119 ls []) := by
                            intro n
                            induction n with
                            | zero =>
                              intro H locs ls z_119 l6_119 hl hP hS h
                              rw [fM_mended_L119] at h
                              cases h
                            | succ n119 ih119 =>
                              intro H locs ls z_119 l6_119 hl hP hS h
                              rw [fM_mended_L119] at h
                              refine u_iload X hl dX10_mended_119 5 rfl ?_
                              refine u_iconst (v := 4) X dX10_mended_121 rfl ?_
                              refine u_icmp_ge 149 X dX10_mended_122 rfl (fun hc => ?_) (fun hc => ?_)
                              · rw [if_pos hc] at h
                                refine u_iinc [(4, .int (l4_28 + 1)), (0, .ref (ad 56)), (1, .int a0), (2, .int a1), (3, .int l5_60), (6, .int l6_119)] X hl dX10_mended_149 4 rfl rfl (Nat.le_of_ble_eq_true rfl) rfl (fun ls hl => ?_)
                                refine u_goto 28 X dX10_mended_152 rfl ?_
                                exact ih28 _ _ _ _ _ _ (lv_sub hl [1, 2, 3, 4, 0] rfl) hP hS h
                              · rw [if_neg hc] at h
                                refine u_aload_n X hl dX10_mended_125 0 rfl ?_
                                refine gf_X10_56_56 X hP dX10_mended_126 ?_
                                refine u_iload X hl dX10_mended_129 5 rfl ?_
                                refine u_aload_n X hl dX10_mended_131 0 rfl ?_
                                refine gf_X10_19_56 X hP dX10_mended_132 ?_
                                refine u_iconst (v := 4) X dX10_mended_135 rfl ?_
                                refine u_iload_n X hl dX10_mended_136 1 rfl ?_
                                refine u_imul X dX10_mended_137 ?_
                                refine u_iload X hl dX10_mended_138 5 rfl ?_
                                refine u_iadd X dX10_mended_140 ?_
                                obtain ⟨hin, h⟩ := ifn_inv h
                                refine ld_60 X hP rfl hin dX10_mended_141 ?_
                                obtain ⟨hin, h⟩ := ifn_inv h
                                refine as_71 X hP hS rfl hin dX10_mended_142 (fun H locs hP hS => ?_)
                                refine u_iinc [(6, .int (l6_119 + 1)), (0, .ref (ad 56)), (1, .int a0), (2, .int a1), (3, .int l5_60), (4, .int l4_28)] X hl dX10_mended_143 5 rfl rfl (Nat.le_of_ble_eq_true rfl) rfl (fun ls hl => ?_)
                                refine u_goto 119 X dX10_mended_146 rfl ?_
                                exact ih119 _ _ _ _ _ (lv_sub hl [1, 2, 3, 4, 5, 0] rfl) hP hS h
                          exact L119 LF _ _ _ _ _ (lv_sub hl [2, 3, 4, 1, 5, 0] rfl) hP hS h
                    · rw [if_neg hc] at h
                      refine u_iload X hl dX10_mended_66 5 rfl ?_
                      refine u_aload_n X hl dX10_mended_68 0 rfl ?_
                      refine gf_X10_19_56 X hP dX10_mended_69 ?_
                      refine u_iconst (v := 4) X dX10_mended_72 rfl ?_
                      refine u_iload_n X hl dX10_mended_73 1 rfl ?_
                      refine u_imul X dX10_mended_74 ?_
                      refine u_iload X hl dX10_mended_75 6 rfl ?_
                      refine u_iadd X dX10_mended_77 ?_
                      obtain ⟨hin, h⟩ := ifn_inv h
                      refine ld_60 X hP rfl hin dX10_mended_78 ?_
                      refine u_aload_n X hl dX10_mended_79 0 rfl ?_
                      refine gf_X10_53_56 X hP dX10_mended_80 ?_
                      refine u_iload X hl dX10_mended_83 6 rfl ?_
                      obtain ⟨hin, h⟩ := ifn_inv h
                      refine ld_70 X hP rfl hin dX10_mended_85 ?_
                      refine u_icmp_eq 93 X dX10_mended_86 rfl (fun hc => ?_) (fun hc => ?_)
                      · rw [if_pos hc] at h
                        refine u_iconst (v := 0) X dX10_mended_93 rfl ?_
                        refine u_iadd X dX10_mended_94 ?_
                        refine u_istore [(5, .int (l5_60 + 0)), (0, .ref (ad 56)), (1, .int a0), (2, .int a1), (3, .int l3_28), (4, .int l4_28), (6, .int l6_60)] X hl dX10_mended_95 (Nat.le_of_ble_eq_true rfl) rfl (fun ls hl => ?_)
                        refine u_iinc [(6, .int (l6_60 + 1)), (5, .int (l5_60 + 0)), (0, .ref (ad 56)), (1, .int a0), (2, .int a1), (3, .int l3_28), (4, .int l4_28)] X hl dX10_mended_97 6 rfl rfl (Nat.le_of_ble_eq_true rfl) rfl (fun ls hl => ?_)
                        refine u_goto 60 X dX10_mended_100 rfl ?_
                        exact ih60 _ _ _ _ _ (lv_sub hl [2, 3, 4, 5, 6, 1, 0] rfl) hP hS h
                      · rw [if_neg hc] at h
                        refine u_iconst (v := 1) X dX10_mended_89 rfl ?_
                        refine u_goto 94 X dX10_mended_90 rfl ?_
                        refine u_iadd X dX10_mended_94 ?_
                        refine u_istore [(5, .int (l5_60 + 1)), (0, .ref (ad 56)), (1, .int a0), (2, .int a1), (3, .int l3_28), (4, .int l4_28), (6, .int l6_60)] X hl dX10_mended_95 (Nat.le_of_ble_eq_true rfl) rfl (fun ls hl => ?_)
                        refine u_iinc [(6, .int (l6_60 + 1)), (5, .int (l5_60 + 1)), (0, .ref (ad 56)), (1, .int a0), (2, .int a1), (3, .int l3_28), (4, .int l4_28)] X hl dX10_mended_97 6 rfl rfl (Nat.le_of_ble_eq_true rfl) rfl (fun ls hl => ?_)
                        refine u_goto 60 X dX10_mended_100 rfl ?_
                        exact ih60 _ _ _ _ _ (lv_sub hl [2, 3, 4, 5, 6, 1, 0] rfl) hP hS h
                exact L60 LF _ _ _ _ _ (lv_sub hl [2, 3, 4, 5, 6, 1, 0] rfl) hP hS h
      exact L28 LF _ _ _ _ _ _ (lv_sub hl [2, 3, 4, 1, 0] rfl) hP hS h
    · rw [if_pos hc] at h
      refine u_iconst (v := (-1)) X dX10_mended_14 rfl ?_
      exact u_iretM X hr hret h hP hS dX10_mended_15
def fM_sits (z : MS) (a0 : Int32) (a1 : Int32) : Option (Int32 × MS) :=
  if (irm a1 8) ≤ (a1 / 8) then some (0, z) else (if (fM_isPerson z (irm a1 8)) = 0 then some (0, z) else Option.bind (fM_isAway z (a1 / 8) a0) (fun w29 => if w29 = 0 then Option.bind (fM_isAway z (irm a1 8) a0) (fun w39 => if w39 = 0 then (if (4 * a0) < 0 ∨ 40 ≤ (4 * a0).toNatClampNeg then none else if ((4 * a0) + 1) < 0 ∨ 40 ≤ ((4 * a0) + 1).toNatClampNeg then none else Option.bind (fM_brokenOn (pI (pI z 60 (4 * a0).toNatClampNeg (a1 / 8)) 60 ((4 * a0) + 1).toNatClampNeg (irm a1 8)) a0) (fun w70 => if w70 = 0 then some (1, pI (pI z 60 (4 * a0).toNatClampNeg (a1 / 8)) 60 ((4 * a0) + 1).toNatClampNeg (irm a1 8)) else some (0, pI (pI z 60 (4 * a0).toNatClampNeg (a1 / 8)) 60 ((4 * a0) + 1).toNatClampNeg (irm a1 8)))) else some (0, z)) else some (0, z)))
set_option maxRecDepth 4000 in
theorem cM_sits (l : Launch) {z : MS} {a0 : Int32} {a1 : Int32} {r : Int32} {z1 : MS} (h : fM_sits z a0 a1 = some (r, z1)) : CT l yX10_sits cX10_sits 5 (some .boolean) 6 142 (fun ad sd => [.ref (ad 56), .int a0, .int a1]) z (some (.int r)) z1 := by
  rw [fM_sits] at h
  refine u_start RX10 rfl (by decide) (fun _ _ => Nat.le_of_ble_eq_true rfl) (fun p e s m args below meth c R D ad cs sd A Q ls X hP hS hl hr hret => ?_)
  have hl : lv_has ls 5 [(0, .ref (ad 56)), (1, .int a0), (2, .int a1)] := hl
  refine u_iload_n X hl dX10_sits_0 2 rfl ?_
  refine u_bipush (v := 8) X dX10_sits_1 rfl ?_
  refine u_idiv X (by decide) dX10_sits_3 ?_
  refine u_istore_n [(3, .int (a1 / 8)), (0, .ref (ad 56)), (1, .int a0), (2, .int a1)] X hl dX10_sits_4 (Nat.le_of_ble_eq_true rfl) rfl (fun ls hl => ?_)
  refine u_iload_n X hl dX10_sits_5 3 rfl ?_
  refine u_bipush (v := 8) X dX10_sits_6 rfl ?_
  refine u_irem X (by decide) dX10_sits_8 ?_
  refine u_istore [(4, .int (irm a1 8)), (3, .int (a1 / 8)), (0, .ref (ad 56)), (1, .int a0), (2, .int a1)] X hl dX10_sits_9 (Nat.le_of_ble_eq_true rfl) rfl (fun ls hl => ?_)
  refine u_iload_n X hl dX10_sits_11 1 rfl ?_
  refine u_iload X hl dX10_sits_12 0 rfl ?_
  refine u_icmp_ge 45 X dX10_sits_14 rfl (fun hc => ?_) (fun hc => ?_)
  · rw [if_pos hc] at h
    refine u_iconst (v := 0) X dX10_sits_45 rfl ?_
    exact u_zretM X hr hret h hP hS (Or.inl rfl) dX10_sits_46
  · rw [if_neg hc] at h
    refine u_aload_n X hl dX10_sits_17 2 rfl ?_
    refine u_iload X hl dX10_sits_18 0 rfl ?_
    refine u_callVi X hP hS hl dX10_sits_20 (cM_isPerson l z (irm a1 8)) cw_X10_109 io_56 rfl rfl rfl rfl ⟨rfl, rfl⟩ (fun H locs hP hS => ?_)
    refine u_if_eq 45 X dX10_sits_23 rfl (fun hc => ?_) (fun hc => ?_)
    · rw [if_pos hc] at h
      refine u_iconst (v := 0) X dX10_sits_45 rfl ?_
      exact u_zretM X hr hret h hP hS (Or.inl rfl) dX10_sits_46
    · rw [if_neg hc] at h
      refine u_aload_n X hl dX10_sits_26 2 rfl ?_
      refine u_iload_n X hl dX10_sits_27 1 rfl ?_
      refine u_iload_n X hl dX10_sits_28 3 rfl ?_
      obtain ⟨w29, hc29, h⟩ := ob_inv h
      refine u_callVi X hP hS hl dX10_sits_29 (cM_isAway l hc29) cw_X10_236 io_56 rfl rfl rfl rfl ⟨rfl, rfl⟩ (fun H locs hP hS => ?_)
      refine u_if_ne 45 X dX10_sits_32 rfl (fun hc => ?_) (fun hc => ?_)
      · rw [if_neg hc] at h
        refine u_iconst (v := 0) X dX10_sits_45 rfl ?_
        exact u_zretM X hr hret h hP hS (Or.inl rfl) dX10_sits_46
      · rw [if_pos hc] at h
        refine u_aload_n X hl dX10_sits_35 2 rfl ?_
        refine u_iload X hl dX10_sits_36 0 rfl ?_
        refine u_iload_n X hl dX10_sits_38 3 rfl ?_
        obtain ⟨w39, hc39, h⟩ := ob_inv h
        refine u_callVi X hP hS hl dX10_sits_39 (cM_isAway l hc39) cw_X10_236 io_56 rfl rfl rfl rfl ⟨rfl, rfl⟩ (fun H locs hP hS => ?_)
        refine u_if_eq 47 X dX10_sits_42 rfl (fun hc => ?_) (fun hc => ?_)
        · rw [if_pos hc] at h
          refine u_aload_n X hl dX10_sits_47 2 rfl ?_
          refine gf_X10_19_56 X hP dX10_sits_48 ?_
          refine u_iconst (v := 4) X dX10_sits_51 rfl ?_
          refine u_iload_n X hl dX10_sits_52 3 rfl ?_
          refine u_imul X dX10_sits_53 ?_
          refine u_iload_n X hl dX10_sits_54 1 rfl ?_
          obtain ⟨hin, h⟩ := ifn_inv h
          refine as_60 X hP hS rfl hin dX10_sits_55 (fun H locs hP hS => ?_)
          refine u_aload_n X hl dX10_sits_56 2 rfl ?_
          refine gf_X10_19_56 X hP dX10_sits_57 ?_
          refine u_iconst (v := 4) X dX10_sits_60 rfl ?_
          refine u_iload_n X hl dX10_sits_61 3 rfl ?_
          refine u_imul X dX10_sits_62 ?_
          refine u_iconst (v := 1) X dX10_sits_63 rfl ?_
          refine u_iadd X dX10_sits_64 ?_
          refine u_iload X hl dX10_sits_65 0 rfl ?_
          obtain ⟨hin, h⟩ := ifn_inv h
          refine as_60 X hP hS rfl hin dX10_sits_67 (fun H locs hP hS => ?_)
          refine u_aload_n X hl dX10_sits_68 2 rfl ?_
          refine u_iload_n X hl dX10_sits_69 3 rfl ?_
          obtain ⟨w70, hc70, h⟩ := ob_inv h
          refine u_callVi X hP hS hl dX10_sits_70 (cM_brokenOn l hc70) cw_X10_290 io_56 rfl rfl rfl rfl ⟨rfl, rfl⟩ (fun H locs hP hS => ?_)
          refine u_if_ne 80 X dX10_sits_73 rfl (fun hc => ?_) (fun hc => ?_)
          · rw [if_neg hc] at h
            refine u_iconst (v := 0) X dX10_sits_80 rfl ?_
            exact u_zretM X hr hret h hP hS (Or.inl rfl) dX10_sits_81
          · rw [if_pos hc] at h
            refine u_iconst (v := 1) X dX10_sits_76 rfl ?_
            refine u_goto 81 X dX10_sits_77 rfl ?_
            exact u_zretM X hr hret h hP hS (Or.inr rfl) dX10_sits_81
        · rw [if_neg hc] at h
          refine u_iconst (v := 0) X dX10_sits_45 rfl ?_
          exact u_zretM X hr hret h hP hS (Or.inl rfl) dX10_sits_46
