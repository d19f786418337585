theorem dX9_init_0 : decode cX9_init 0 = .ok (.aload_n 0, 1) := by decide +kernel
theorem dX9_init_1 : decode cX9_init 1 = .ok (.invokespecial 1, 3) := by decide +kernel
theorem dX9_init_4 : decode cX9_init 4 = .ok (.aload_n 0, 1) := by decide +kernel
theorem dX9_init_5 : decode cX9_init 5 = .ok (.new 7, 3) := by decide +kernel
theorem dX9_init_8 : decode cX9_init 8 = .ok (.dup, 1) := by decide +kernel
theorem dX9_init_9 : decode cX9_init 9 = .ok (.invokespecial 9, 3) := by decide +kernel
theorem dX9_init_12 : decode cX9_init 12 = .ok (.putfield 10, 3) := by decide +kernel
theorem dX9_init_15 : decode cX9_init 15 = .ok (.aload_n 0, 1) := by decide +kernel
theorem dX9_init_16 : decode cX9_init 16 = .ok (.new 16, 3) := by decide +kernel
theorem dX9_init_19 : decode cX9_init 19 = .ok (.dup, 1) := by decide +kernel
theorem dX9_init_20 : decode cX9_init 20 = .ok (.invokespecial 18, 3) := by decide +kernel
theorem dX9_init_23 : decode cX9_init 23 = .ok (.putfield 19, 3) := by decide +kernel
theorem dX9_init_26 : decode cX9_init 26 = .ok (.aload_n 0, 1) := by decide +kernel
theorem dX9_init_27 : decode cX9_init 27 = .ok (.new 23, 3) := by decide +kernel
theorem dX9_init_30 : decode cX9_init 30 = .ok (.dup, 1) := by decide +kernel
theorem dX9_init_31 : decode cX9_init 31 = .ok (.aload_n 0, 1) := by decide +kernel
theorem dX9_init_32 : decode cX9_init 32 = .ok (.getfield 10, 3) := by decide +kernel
theorem dX9_init_35 : decode cX9_init 35 = .ok (.invokespecial 25, 3) := by decide +kernel
theorem dX9_init_38 : decode cX9_init 38 = .ok (.putfield 28, 3) := by decide +kernel
theorem dX9_init_41 : decode cX9_init 41 = .ok (.aload_n 0, 1) := by decide +kernel
theorem dX9_init_42 : decode cX9_init 42 = .ok (.new 32, 3) := by decide +kernel
theorem dX9_init_45 : decode cX9_init 45 = .ok (.dup, 1) := by decide +kernel
theorem dX9_init_46 : decode cX9_init 46 = .ok (.aload_n 0, 1) := by decide +kernel
theorem dX9_init_47 : decode cX9_init 47 = .ok (.getfield 10, 3) := by decide +kernel
theorem dX9_init_50 : decode cX9_init 50 = .ok (.aload_n 0, 1) := by decide +kernel
theorem dX9_init_51 : decode cX9_init 51 = .ok (.getfield 28, 3) := by decide +kernel
theorem dX9_init_54 : decode cX9_init 54 = .ok (.invokespecial 34, 3) := by decide +kernel
theorem dX9_init_57 : decode cX9_init 57 = .ok (.putfield 37, 3) := by decide +kernel
theorem dX9_init_60 : decode cX9_init 60 = .ok (.aload_n 0, 1) := by decide +kernel
theorem dX9_init_61 : decode cX9_init 61 = .ok (.new 41, 3) := by decide +kernel
theorem dX9_init_64 : decode cX9_init 64 = .ok (.dup, 1) := by decide +kernel
theorem dX9_init_65 : decode cX9_init 65 = .ok (.aload_n 0, 1) := by decide +kernel
theorem dX9_init_66 : decode cX9_init 66 = .ok (.getfield 10, 3) := by decide +kernel
theorem dX9_init_69 : decode cX9_init 69 = .ok (.aload_n 0, 1) := by decide +kernel
theorem dX9_init_70 : decode cX9_init 70 = .ok (.getfield 28, 3) := by decide +kernel
theorem dX9_init_73 : decode cX9_init 73 = .ok (.invokespecial 43, 3) := by decide +kernel
theorem dX9_init_76 : decode cX9_init 76 = .ok (.putfield 44, 3) := by decide +kernel
theorem dX9_init_79 : decode cX9_init 79 = .ok (.aload_n 0, 1) := by decide +kernel
theorem dX9_init_80 : decode cX9_init 80 = .ok (.new 48, 3) := by decide +kernel
theorem dX9_init_83 : decode cX9_init 83 = .ok (.dup, 1) := by decide +kernel
theorem dX9_init_84 : decode cX9_init 84 = .ok (.invokespecial 50, 3) := by decide +kernel
theorem dX9_init_87 : decode cX9_init 87 = .ok (.putfield 51, 3) := by decide +kernel
theorem dX9_init_90 : decode cX9_init 90 = .ok (.aload_n 0, 1) := by decide +kernel
theorem dX9_init_91 : decode cX9_init 91 = .ok (.new 55, 3) := by decide +kernel
theorem dX9_init_94 : decode cX9_init 94 = .ok (.dup, 1) := by decide +kernel
theorem dX9_init_95 : decode cX9_init 95 = .ok (.aload_n 0, 1) := by decide +kernel
theorem dX9_init_96 : decode cX9_init 96 = .ok (.getfield 10, 3) := by decide +kernel
theorem dX9_init_99 : decode cX9_init 99 = .ok (.aload_n 0, 1) := by decide +kernel
theorem dX9_init_100 : decode cX9_init 100 = .ok (.getfield 28, 3) := by decide +kernel
theorem dX9_init_103 : decode cX9_init 103 = .ok (.invokespecial 57, 3) := by decide +kernel
theorem dX9_init_106 : decode cX9_init 106 = .ok (.putfield 58, 3) := by decide +kernel
theorem dX9_init_109 : decode cX9_init 109 = .ok (.aload_n 0, 1) := by decide +kernel
theorem dX9_init_110 : decode cX9_init 110 = .ok (.new 62, 3) := by decide +kernel
theorem dX9_init_113 : decode cX9_init 113 = .ok (.dup, 1) := by decide +kernel
theorem dX9_init_114 : decode cX9_init 114 = .ok (.invokespecial 64, 3) := by decide +kernel
theorem dX9_init_117 : decode cX9_init 117 = .ok (.putfield 65, 3) := by decide +kernel
theorem dX9_init_120 : decode cX9_init 120 = .ok (.aload_n 0, 1) := by decide +kernel
theorem dX9_init_121 : decode cX9_init 121 = .ok (.new 69, 3) := by decide +kernel
theorem dX9_init_124 : decode cX9_init 124 = .ok (.dup, 1) := by decide +kernel
theorem dX9_init_125 : decode cX9_init 125 = .ok (.invokespecial 71, 3) := by decide +kernel
theorem dX9_init_128 : decode cX9_init 128 = .ok (.putfield 72, 3) := by decide +kernel
theorem dX9_init_131 : decode cX9_init 131 = .ok (.aload_n 0, 1) := by decide +kernel
theorem dX9_init_132 : decode cX9_init 132 = .ok (.new 7, 3) := by decide +kernel
theorem dX9_init_135 : decode cX9_init 135 = .ok (.dup, 1) := by decide +kernel
theorem dX9_init_136 : decode cX9_init 136 = .ok (.invokespecial 9, 3) := by decide +kernel
theorem dX9_init_139 : decode cX9_init 139 = .ok (.putfield 76, 3) := by decide +kernel
theorem dX9_init_142 : decode cX9_init 142 = .ok (.aload_n 0, 1) := by decide +kernel
theorem dX9_init_143 : decode cX9_init 143 = .ok (.new 48, 3) := by decide +kernel
theorem dX9_init_146 : decode cX9_init 146 = .ok (.dup, 1) := by decide +kernel
theorem dX9_init_147 : decode cX9_init 147 = .ok (.invokespecial 50, 3) := by decide +kernel
theorem dX9_init_150 : decode cX9_init 150 = .ok (.putfield 79, 3) := by decide +kernel
theorem dX9_init_153 : decode cX9_init 153 = .ok (.aload_n 0, 1) := by decide +kernel
theorem dX9_init_154 : decode cX9_init 154 = .ok (.iconst 0, 1) := by decide +kernel
theorem dX9_init_155 : decode cX9_init 155 = .ok (.putfield 82, 3) := by decide +kernel
theorem dX9_init_158 : decode cX9_init 158 = .ok (.return_, 1) := by decide +kernel
theorem dX9_feed_0 : decode cX9_feed 0 = .ok (.iload_n 3, 1) := by decide +kernel
theorem dX9_feed_1 : decode cX9_feed 1 = .ok (.iconst 1, 1) := by decide +kernel
theorem dX9_feed_2 : decode cX9_feed 2 = .ok (.if_icmp .lt 9, 3) := by decide +kernel
theorem dX9_feed_5 : decode cX9_feed 5 = .ok (.iload_n 3, 1) := by decide +kernel
theorem dX9_feed_6 : decode cX9_feed 6 = .ok (.bipush 8, 2) := by decide +kernel
theorem dX9_feed_8 : decode cX9_feed 8 = .ok (.if_icmp .le 5, 3) := by decide +kernel
theorem dX9_feed_11 : decode cX9_feed 11 = .ok (.iconst (-1), 1) := by decide +kernel
theorem dX9_feed_12 : decode cX9_feed 12 = .ok (.ireturn, 1) := by decide +kernel
theorem dX9_feed_13 : decode cX9_feed 13 = .ok (.aload_n 0, 1) := by decide +kernel
theorem dX9_feed_14 : decode cX9_feed 14 = .ok (.getfield 19, 3) := by decide +kernel
theorem dX9_feed_17 : decode cX9_feed 17 = .ok (.getfield 86, 3) := by decide +kernel
theorem dX9_feed_20 : decode cX9_feed 20 = .ok (.iload_n 3, 1) := by decide +kernel
theorem dX9_feed_21 : decode cX9_feed 21 = .ok (.iadd, 1) := by decide +kernel
theorem dX9_feed_22 : decode cX9_feed 22 = .ok (.sipush 200, 3) := by decide +kernel
theorem dX9_feed_25 : decode cX9_feed 25 = .ok (.if_icmp .le 6, 3) := by decide +kernel
theorem dX9_feed_28 : decode cX9_feed 28 = .ok (.bipush (-2), 2) := by decide +kernel
theorem dX9_feed_30 : decode cX9_feed 30 = .ok (.ireturn, 1) := by decide +kernel
theorem dX9_feed_31 : decode cX9_feed 31 = .ok (.aload_n 0, 1) := by decide +kernel
theorem dX9_feed_32 : decode cX9_feed 32 = .ok (.getfield 19, 3) := by decide +kernel
theorem dX9_feed_35 : decode cX9_feed 35 = .ok (.lload_n 1, 1) := by decide +kernel
theorem dX9_feed_36 : decode cX9_feed 36 = .ok (.iload_n 3, 1) := by decide +kernel
theorem dX9_feed_37 : decode cX9_feed 37 = .ok (.invokevirtual 90, 3) := by decide +kernel
theorem dX9_feed_40 : decode cX9_feed 40 = .ok (.ireturn, 1) := by decide +kernel
theorem dX9_house_0 : decode cX9_house 0 = .ok (.aload_n 0, 1) := by decide +kernel
theorem dX9_house_1 : decode cX9_house 1 = .ok (.getfield 19, 3) := by decide +kernel
theorem dX9_house_4 : decode cX9_house 4 = .ok (.aload_n 0, 1) := by decide +kernel
theorem dX9_house_5 : decode cX9_house 5 = .ok (.getfield 10, 3) := by decide +kernel
theorem dX9_house_8 : decode cX9_house 8 = .ok (.invokevirtual 94, 3) := by decide +kernel
theorem dX9_house_11 : decode cX9_house 11 = .ok (.istore_n 1, 1) := by decide +kernel
theorem dX9_house_12 : decode cX9_house 12 = .ok (.iload_n 1, 1) := by decide +kernel
theorem dX9_house_13 : decode cX9_house 13 = .ok (.ifCond .lt 8, 3) := by decide +kernel
theorem dX9_house_16 : decode cX9_house 16 = .ok (.bipush (-100), 2) := by decide +kernel
theorem dX9_house_18 : decode cX9_house 18 = .ok (.iload_n 1, 1) := by decide +kernel
theorem dX9_house_19 : decode cX9_house 19 = .ok (.isub, 1) := by decide +kernel
theorem dX9_house_20 : decode cX9_house 20 = .ok (.ireturn, 1) := by decide +kernel
theorem dX9_house_21 : decode cX9_house 21 = .ok (.aload_n 0, 1) := by decide +kernel
theorem dX9_house_22 : decode cX9_house 22 = .ok (.getfield 58, 3) := by decide +kernel
theorem dX9_house_25 : decode cX9_house 25 = .ok (.invokevirtual 98, 3) := by decide +kernel
theorem dX9_house_28 : decode cX9_house 28 = .ok (.aload_n 0, 1) := by decide +kernel
theorem dX9_house_29 : decode cX9_house 29 = .ok (.getfield 10, 3) := by decide +kernel
theorem dX9_house_32 : decode cX9_house 32 = .ok (.getfield 101, 3) := by decide +kernel
theorem dX9_house_35 : decode cX9_house 35 = .ok (.ireturn, 1) := by decide +kernel
theorem dX9_person_0 : decode cX9_person 0 = .ok (.aload_n 0, 1) := by decide +kernel
theorem dX9_person_1 : decode cX9_person 1 = .ok (.getfield 10, 3) := by decide +kernel
theorem dX9_person_4 : decode cX9_person 4 = .ok (.getfield 101, 3) := by decide +kernel
theorem dX9_person_7 : decode cX9_person 7 = .ok (.bipush 8, 2) := by decide +kernel
theorem dX9_person_9 : decode cX9_person 9 = .ok (.if_icmp .ge 13, 3) := by decide +kernel
theorem dX9_person_12 : decode cX9_person 12 = .ok (.aload_n 0, 1) := by decide +kernel
theorem dX9_person_13 : decode cX9_person 13 = .ok (.getfield 10, 3) := by decide +kernel
theorem dX9_person_16 : decode cX9_person 16 = .ok (.invokevirtual 104, 3) := by decide +kernel
theorem dX9_person_19 : decode cX9_person 19 = .ok (.goto 5, 3) := by decide +kernel
theorem dX9_person_22 : decode cX9_person 22 = .ok (.bipush (-2), 2) := by decide +kernel
theorem dX9_person_24 : decode cX9_person 24 = .ok (.ireturn, 1) := by decide +kernel
theorem dX9_kin_0 : decode cX9_kin 0 = .ok (.aload_n 0, 1) := by decide +kernel
theorem dX9_kin_1 : decode cX9_kin 1 = .ok (.getfield 10, 3) := by decide +kernel
theorem dX9_kin_4 : decode cX9_kin 4 = .ok (.iload_n 1, 1) := by decide +kernel
theorem dX9_kin_5 : decode cX9_kin 5 = .ok (.iload_n 2, 1) := by decide +kernel
theorem dX9_kin_6 : decode cX9_kin 6 = .ok (.invokevirtual 108, 3) := by decide +kernel
theorem dX9_kin_9 : decode cX9_kin 9 = .ok (.ifCond .eq 16, 3) := by decide +kernel
theorem dX9_kin_12 : decode cX9_kin 12 = .ok (.aload_n 0, 1) := by decide +kernel
theorem dX9_kin_13 : decode cX9_kin 13 = .ok (.getfield 10, 3) := by decide +kernel
theorem dX9_kin_16 : decode cX9_kin 16 = .ok (.iload_n 1, 1) := by decide +kernel
theorem dX9_kin_17 : decode cX9_kin 17 = .ok (.iload_n 2, 1) := by decide +kernel
theorem dX9_kin_18 : decode cX9_kin 18 = .ok (.iload_n 3, 1) := by decide +kernel
theorem dX9_kin_19 : decode cX9_kin 19 = .ok (.invokevirtual 112, 3) := by decide +kernel
theorem dX9_kin_22 : decode cX9_kin 22 = .ok (.goto 4, 3) := by decide +kernel
theorem dX9_kin_25 : decode cX9_kin 25 = .ok (.iconst (-1), 1) := by decide +kernel
theorem dX9_kin_26 : decode cX9_kin 26 = .ok (.ireturn, 1) := by decide +kernel
theorem dX9_trust_0 : decode cX9_trust 0 = .ok (.aload_n 0, 1) := by decide +kernel
theorem dX9_trust_1 : decode cX9_trust 1 = .ok (.getfield 10, 3) := by decide +kernel
theorem dX9_trust_4 : decode cX9_trust 4 = .ok (.iload_n 1, 1) := by decide +kernel
theorem dX9_trust_5 : decode cX9_trust 5 = .ok (.iload_n 2, 1) := by decide +kernel
theorem dX9_trust_6 : decode cX9_trust 6 = .ok (.invokevirtual 108, 3) := by decide +kernel
theorem dX9_trust_9 : decode cX9_trust 9 = .ok (.ifCond .eq 13, 3) := by decide +kernel
theorem dX9_trust_12 : decode cX9_trust 12 = .ok (.iload_n 3, 1) := by decide +kernel
theorem dX9_trust_13 : decode cX9_trust 13 = .ok (.ifCond .lt 9, 3) := by decide +kernel
theorem dX9_trust_16 : decode cX9_trust 16 = .ok (.iload_n 3, 1) := by decide +kernel
theorem dX9_trust_17 : decode cX9_trust 17 = .ok (.bipush 9, 2) := by decide +kernel
theorem dX9_trust_19 : decode cX9_trust 19 = .ok (.if_icmp .le 5, 3) := by decide +kernel
theorem dX9_trust_22 : decode cX9_trust 22 = .ok (.iconst (-1), 1) := by decide +kernel
theorem dX9_trust_23 : decode cX9_trust 23 = .ok (.ireturn, 1) := by decide +kernel
theorem dX9_trust_24 : decode cX9_trust 24 = .ok (.iload_n 1, 1) := by decide +kernel
theorem dX9_trust_25 : decode cX9_trust 25 = .ok (.iload_n 2, 1) := by decide +kernel
theorem dX9_trust_26 : decode cX9_trust 26 = .ok (.invokestatic 116, 3) := by decide +kernel
theorem dX9_trust_29 : decode cX9_trust 29 = .ok (.istore 4, 2) := by decide +kernel
theorem dX9_trust_31 : decode cX9_trust 31 = .ok (.aload_n 0, 1) := by decide +kernel
theorem dX9_trust_32 : decode cX9_trust 32 = .ok (.getfield 10, 3) := by decide +kernel
theorem dX9_trust_35 : decode cX9_trust 35 = .ok (.getfield 120, 3) := by decide +kernel
theorem dX9_trust_38 : decode cX9_trust 38 = .ok (.iload 4, 2) := by decide +kernel
theorem dX9_trust_40 : decode cX9_trust 40 = .ok (.iaload, 1) := by decide +kernel
theorem dX9_trust_41 : decode cX9_trust 41 = .ok (.istore 5, 2) := by decide +kernel
theorem dX9_trust_43 : decode cX9_trust 43 = .ok (.aload_n 0, 1) := by decide +kernel
theorem dX9_trust_44 : decode cX9_trust 44 = .ok (.getfield 10, 3) := by decide +kernel
theorem dX9_trust_47 : decode cX9_trust 47 = .ok (.getfield 120, 3) := by decide +kernel
theorem dX9_trust_50 : decode cX9_trust 50 = .ok (.iload 4, 2) := by decide +kernel
theorem dX9_trust_52 : decode cX9_trust 52 = .ok (.iload_n 3, 1) := by decide +kernel
theorem dX9_trust_53 : decode cX9_trust 53 = .ok (.iastore, 1) := by decide +kernel
theorem dX9_trust_54 : decode cX9_trust 54 = .ok (.iload 5, 2) := by decide +kernel
theorem dX9_trust_56 : decode cX9_trust 56 = .ok (.ireturn, 1) := by decide +kernel
theorem dX9_away_0 : decode cX9_away 0 = .ok (.aload_n 0, 1) := by decide +kernel
theorem dX9_away_1 : decode cX9_away 1 = .ok (.getfield 10, 3) := by decide +kernel
theorem dX9_away_4 : decode cX9_away 4 = .ok (.iload_n 1, 1) := by decide +kernel
theorem dX9_away_5 : decode cX9_away 5 = .ok (.invokevirtual 124, 3) := by decide +kernel
theorem dX9_away_8 : decode cX9_away 8 = .ok (.ifCond .eq 23, 3) := by decide +kernel
theorem dX9_away_11 : decode cX9_away 11 = .ok (.iload_n 2, 1) := by decide +kernel
theorem dX9_away_12 : decode cX9_away 12 = .ok (.invokestatic 128, 3) := by decide +kernel
theorem dX9_away_15 : decode cX9_away 15 = .ok (.ifCond .eq 16, 3) := by decide +kernel
theorem dX9_away_18 : decode cX9_away 18 = .ok (.aload_n 0, 1) := by decide +kernel
theorem dX9_away_19 : decode cX9_away 19 = .ok (.getfield 10, 3) := by decide +kernel
theorem dX9_away_22 : decode cX9_away 22 = .ok (.iload_n 1, 1) := by decide +kernel
theorem dX9_away_23 : decode cX9_away 23 = .ok (.iload_n 2, 1) := by decide +kernel
theorem dX9_away_24 : decode cX9_away 24 = .ok (.iload_n 3, 1) := by decide +kernel
theorem dX9_away_25 : decode cX9_away 25 = .ok (.invokevirtual 131, 3) := by decide +kernel
theorem dX9_away_28 : decode cX9_away 28 = .ok (.goto 4, 3) := by decide +kernel
theorem dX9_away_31 : decode cX9_away 31 = .ok (.iconst (-1), 1) := by decide +kernel
theorem dX9_away_32 : decode cX9_away 32 = .ok (.ireturn, 1) := by decide +kernel
theorem dX9_set_0 : decode cX9_set 0 = .ok (.iload_n 1, 1) := by decide +kernel
theorem dX9_set_1 : decode cX9_set 1 = .ok (.ifCond .lt 22, 3) := by decide +kernel
theorem dX9_set_4 : decode cX9_set 4 = .ok (.iload_n 1, 1) := by decide +kernel
theorem dX9_set_5 : decode cX9_set 5 = .ok (.bipush 8, 2) := by decide +kernel
theorem dX9_set_7 : decode cX9_set 7 = .ok (.if_icmp .ge 16, 3) := by decide +kernel
theorem dX9_set_10 : decode cX9_set 10 = .ok (.iload_n 2, 1) := by decide +kernel
theorem dX9_set_11 : decode cX9_set 11 = .ok (.ifCond .lt 12, 3) := by decide +kernel
theorem dX9_set_14 : decode cX9_set 14 = .ok (.iload_n 2, 1) := by decide +kernel
theorem dX9_set_15 : decode cX9_set 15 = .ok (.getstatic 134, 3) := by decide +kernel
theorem dX9_set_18 : decode cX9_set 18 = .ok (.iload_n 1, 1) := by decide +kernel
theorem dX9_set_19 : decode cX9_set 19 = .ok (.iaload, 1) := by decide +kernel
theorem dX9_set_20 : decode cX9_set 20 = .ok (.if_icmp .le 5, 3) := by decide +kernel
theorem dX9_set_23 : decode cX9_set 23 = .ok (.iconst (-1), 1) := by decide +kernel
theorem dX9_set_24 : decode cX9_set 24 = .ok (.ireturn, 1) := by decide +kernel
theorem dX9_set_25 : decode cX9_set 25 = .ok (.aload_n 0, 1) := by decide +kernel
theorem dX9_set_26 : decode cX9_set 26 = .ok (.getfield 10, 3) := by decide +kernel
theorem dX9_set_29 : decode cX9_set 29 = .ok (.getfield 137, 3) := by decide +kernel
theorem dX9_set_32 : decode cX9_set 32 = .ok (.iload_n 1, 1) := by decide +kernel
theorem dX9_set_33 : decode cX9_set 33 = .ok (.iaload, 1) := by decide +kernel
theorem dX9_set_34 : decode cX9_set 34 = .ok (.istore_n 3, 1) := by decide +kernel
theorem dX9_set_35 : decode cX9_set 35 = .ok (.aload_n 0, 1) := by decide +kernel
theorem dX9_set_36 : decode cX9_set 36 = .ok (.getfield 10, 3) := by decide +kernel
theorem dX9_set_39 : decode cX9_set 39 = .ok (.getfield 137, 3) := by decide +kernel
theorem dX9_set_42 : decode cX9_set 42 = .ok (.iload_n 1, 1) := by decide +kernel
theorem dX9_set_43 : decode cX9_set 43 = .ok (.iload_n 2, 1) := by decide +kernel
theorem dX9_set_44 : decode cX9_set 44 = .ok (.iastore, 1) := by decide +kernel
theorem dX9_set_45 : decode cX9_set 45 = .ok (.iload_n 3, 1) := by decide +kernel
theorem dX9_set_46 : decode cX9_set 46 = .ok (.ireturn, 1) := by decide +kernel
theorem dX9_law_0 : decode cX9_law 0 = .ok (.iload_n 1, 1) := by decide +kernel
theorem dX9_law_1 : decode cX9_law 1 = .ok (.ifCond .lt 9, 3) := by decide +kernel
theorem dX9_law_4 : decode cX9_law 4 = .ok (.iload_n 1, 1) := by decide +kernel
theorem dX9_law_5 : decode cX9_law 5 = .ok (.bipush 8, 2) := by decide +kernel
theorem dX9_law_7 : decode cX9_law 7 = .ok (.if_icmp .lt 7, 3) := by decide +kernel
theorem dX9_law_10 : decode cX9_law 10 = .ok (.iconst (-1), 1) := by decide +kernel
theorem dX9_law_11 : decode cX9_law 11 = .ok (.goto 12, 3) := by decide +kernel
theorem dX9_law_14 : decode cX9_law 14 = .ok (.aload_n 0, 1) := by decide +kernel
theorem dX9_law_15 : decode cX9_law 15 = .ok (.getfield 10, 3) := by decide +kernel
theorem dX9_law_18 : decode cX9_law 18 = .ok (.getfield 137, 3) := by decide +kernel
theorem dX9_law_21 : decode cX9_law 21 = .ok (.iload_n 1, 1) := by decide +kernel
theorem dX9_law_22 : decode cX9_law 22 = .ok (.iaload, 1) := by decide +kernel
theorem dX9_law_23 : decode cX9_law 23 = .ok (.ireturn, 1) := by decide +kernel
theorem dX9_post_0 : decode cX9_post 0 = .ok (.iload_n 1, 1) := by decide +kernel
theorem dX9_post_1 : decode cX9_post 1 = .ok (.invokestatic 128, 3) := by decide +kernel
theorem dX9_post_4 : decode cX9_post 4 = .ok (.ifCond .eq 26, 3) := by decide +kernel
theorem dX9_post_7 : decode cX9_post 7 = .ok (.iload_n 2, 1) := by decide +kernel
theorem dX9_post_8 : decode cX9_post 8 = .ok (.invokestatic 140, 3) := by decide +kernel
theorem dX9_post_11 : decode cX9_post 11 = .ok (.ifCond .eq 19, 3) := by decide +kernel
theorem dX9_post_14 : decode cX9_post 14 = .ok (.iload_n 3, 1) := by decide +kernel
theorem dX9_post_15 : decode cX9_post 15 = .ok (.iconst (-1), 1) := by decide +kernel
theorem dX9_post_16 : decode cX9_post 16 = .ok (.if_icmp .eq 16, 3) := by decide +kernel
theorem dX9_post_19 : decode cX9_post 19 = .ok (.aload_n 0, 1) := by decide +kernel
theorem dX9_post_20 : decode cX9_post 20 = .ok (.getfield 10, 3) := by decide +kernel
theorem dX9_post_23 : decode cX9_post 23 = .ok (.iload_n 3, 1) := by decide +kernel
theorem dX9_post_24 : decode cX9_post 24 = .ok (.invokevirtual 124, 3) := by decide +kernel
theorem dX9_post_27 : decode cX9_post 27 = .ok (.ifCond .ne 5, 3) := by decide +kernel
theorem dX9_post_30 : decode cX9_post 30 = .ok (.iconst (-1), 1) := by decide +kernel
theorem dX9_post_31 : decode cX9_post 31 = .ok (.ireturn, 1) := by decide +kernel
theorem dX9_post_32 : decode cX9_post 32 = .ok (.aload_n 0, 1) := by decide +kernel
theorem dX9_post_33 : decode cX9_post 33 = .ok (.getfield 10, 3) := by decide +kernel
theorem dX9_post_36 : decode cX9_post 36 = .ok (.iload_n 1, 1) := by decide +kernel
theorem dX9_post_37 : decode cX9_post 37 = .ok (.iload_n 2, 1) := by decide +kernel
theorem dX9_post_38 : decode cX9_post 38 = .ok (.invokevirtual 143, 3) := by decide +kernel
theorem dX9_post_41 : decode cX9_post 41 = .ok (.istore 4, 2) := by decide +kernel
theorem dX9_post_43 : decode cX9_post 43 = .ok (.aload_n 0, 1) := by decide +kernel
theorem dX9_post_44 : decode cX9_post 44 = .ok (.getfield 10, 3) := by decide +kernel
theorem dX9_post_47 : decode cX9_post 47 = .ok (.iload_n 1, 1) := by decide +kernel
theorem dX9_post_48 : decode cX9_post 48 = .ok (.iload_n 2, 1) := by decide +kernel
theorem dX9_post_49 : decode cX9_post 49 = .ok (.iload_n 3, 1) := by decide +kernel
theorem dX9_post_50 : decode cX9_post 50 = .ok (.invokevirtual 146, 3) := by decide +kernel
theorem dX9_post_53 : decode cX9_post 53 = .ok (.iload 4, 2) := by decide +kernel
theorem dX9_post_55 : decode cX9_post 55 = .ok (.iconst (-1), 1) := by decide +kernel
theorem dX9_post_56 : decode cX9_post 56 = .ok (.if_icmp .ne 8, 3) := by decide +kernel
theorem dX9_post_59 : decode cX9_post 59 = .ok (.bipush (-9), 2) := by decide +kernel
theorem dX9_post_61 : decode cX9_post 61 = .ok (.goto 5, 3) := by decide +kernel
theorem dX9_post_64 : decode cX9_post 64 = .ok (.iload 4, 2) := by decide +kernel
theorem dX9_post_66 : decode cX9_post 66 = .ok (.ireturn, 1) := by decide +kernel
theorem dX9_postOf_0 : decode cX9_postOf 0 = .ok (.iload_n 1, 1) := by decide +kernel
theorem dX9_postOf_1 : decode cX9_postOf 1 = .ok (.invokestatic 128, 3) := by decide +kernel
theorem dX9_postOf_4 : decode cX9_postOf 4 = .ok (.ifCond .eq 10, 3) := by decide +kernel
theorem dX9_postOf_7 : decode cX9_postOf 7 = .ok (.iload_n 2, 1) := by decide +kernel
theorem dX9_postOf_8 : decode cX9_postOf 8 = .ok (.invokestatic 140, 3) := by decide +kernel
theorem dX9_postOf_11 : decode cX9_postOf 11 = .ok (.ifCond .ne 5, 3) := by decide +kernel
theorem dX9_postOf_14 : decode cX9_postOf 14 = .ok (.iconst (-1), 1) := by decide +kernel
theorem dX9_postOf_15 : decode cX9_postOf 15 = .ok (.ireturn, 1) := by decide +kernel
theorem dX9_postOf_16 : decode cX9_postOf 16 = .ok (.aload_n 0, 1) := by decide +kernel
theorem dX9_postOf_17 : decode cX9_postOf 17 = .ok (.getfield 10, 3) := by decide +kernel
theorem dX9_postOf_20 : decode cX9_postOf 20 = .ok (.iload_n 1, 1) := by decide +kernel
theorem dX9_postOf_21 : decode cX9_postOf 21 = .ok (.iload_n 2, 1) := by decide +kernel
theorem dX9_postOf_22 : decode cX9_postOf 22 = .ok (.invokevirtual 143, 3) := by decide +kernel
theorem dX9_postOf_25 : decode cX9_postOf 25 = .ok (.istore_n 3, 1) := by decide +kernel
theorem dX9_postOf_26 : decode cX9_postOf 26 = .ok (.iload_n 3, 1) := by decide +kernel
theorem dX9_postOf_27 : decode cX9_postOf 27 = .ok (.iconst (-1), 1) := by decide +kernel
theorem dX9_postOf_28 : decode cX9_postOf 28 = .ok (.if_icmp .ne 8, 3) := by decide +kernel
theorem dX9_postOf_31 : decode cX9_postOf 31 = .ok (.bipush (-9), 2) := by decide +kernel
theorem dX9_postOf_33 : decode cX9_postOf 33 = .ok (.goto 4, 3) := by decide +kernel
theorem dX9_postOf_36 : decode cX9_postOf 36 = .ok (.iload_n 3, 1) := by decide +kernel
theorem dX9_postOf_37 : decode cX9_postOf 37 = .ok (.ireturn, 1) := by decide +kernel
theorem dX9_surprise_0 : decode cX9_surprise 0 = .ok (.iload_n 1, 1) := by decide +kernel
theorem dX9_surprise_1 : decode cX9_surprise 1 = .ok (.invokestatic 128, 3) := by decide +kernel
theorem dX9_surprise_4 : decode cX9_surprise 4 = .ok (.ifCond .eq 15, 3) := by decide +kernel
theorem dX9_surprise_7 : decode cX9_surprise 7 = .ok (.aload_n 0, 1) := by decide +kernel
theorem dX9_surprise_8 : decode cX9_surprise 8 = .ok (.getfield 10, 3) := by decide +kernel
theorem dX9_surprise_11 : decode cX9_surprise 11 = .ok (.iload_n 1, 1) := by decide +kernel
theorem dX9_surprise_12 : decode cX9_surprise 12 = .ok (.iload_n 2, 1) := by decide +kernel
theorem dX9_surprise_13 : decode cX9_surprise 13 = .ok (.invokevirtual 150, 3) := by decide +kernel
theorem dX9_surprise_16 : decode cX9_surprise 16 = .ok (.goto 4, 3) := by decide +kernel
theorem dX9_surprise_19 : decode cX9_surprise 19 = .ok (.iconst (-1), 1) := by decide +kernel
theorem dX9_surprise_20 : decode cX9_surprise 20 = .ok (.ireturn, 1) := by decide +kernel
theorem dX9_loss_0 : decode cX9_loss 0 = .ok (.iload_n 1, 1) := by decide +kernel
theorem dX9_loss_1 : decode cX9_loss 1 = .ok (.invokestatic 128, 3) := by decide +kernel
theorem dX9_loss_4 : decode cX9_loss 4 = .ok (.ifCond .eq 13, 3) := by decide +kernel
theorem dX9_loss_7 : decode cX9_loss 7 = .ok (.iload_n 2, 1) := by decide +kernel
theorem dX9_loss_8 : decode cX9_loss 8 = .ok (.ifCond .lt 9, 3) := by decide +kernel
theorem dX9_loss_11 : decode cX9_loss 11 = .ok (.iload_n 2, 1) := by decide +kernel
theorem dX9_loss_12 : decode cX9_loss 12 = .ok (.bipush 99, 2) := by decide +kernel
theorem dX9_loss_14 : decode cX9_loss 14 = .ok (.if_icmp .le 5, 3) := by decide +kernel
theorem dX9_loss_17 : decode cX9_loss 17 = .ok (.iconst (-1), 1) := by decide +kernel
theorem dX9_loss_18 : decode cX9_loss 18 = .ok (.ireturn, 1) := by decide +kernel
theorem dX9_loss_19 : decode cX9_loss 19 = .ok (.aload_n 0, 1) := by decide +kernel
theorem dX9_loss_20 : decode cX9_loss 20 = .ok (.getfield 10, 3) := by decide +kernel
theorem dX9_loss_23 : decode cX9_loss 23 = .ok (.getfield 154, 3) := by decide +kernel
theorem dX9_loss_26 : decode cX9_loss 26 = .ok (.iload_n 1, 1) := by decide +kernel
theorem dX9_loss_27 : decode cX9_loss 27 = .ok (.iaload, 1) := by decide +kernel
theorem dX9_loss_28 : decode cX9_loss 28 = .ok (.istore_n 3, 1) := by decide +kernel
theorem dX9_loss_29 : decode cX9_loss 29 = .ok (.aload_n 0, 1) := by decide +kernel
theorem dX9_loss_30 : decode cX9_loss 30 = .ok (.getfield 10, 3) := by decide +kernel
theorem dX9_loss_33 : decode cX9_loss 33 = .ok (.getfield 154, 3) := by decide +kernel
theorem dX9_loss_36 : decode cX9_loss 36 = .ok (.iload_n 1, 1) := by decide +kernel
theorem dX9_loss_37 : decode cX9_loss 37 = .ok (.iload_n 2, 1) := by decide +kernel
theorem dX9_loss_38 : decode cX9_loss 38 = .ok (.iastore, 1) := by decide +kernel
theorem dX9_loss_39 : decode cX9_loss 39 = .ok (.iload_n 3, 1) := by decide +kernel
theorem dX9_loss_40 : decode cX9_loss 40 = .ok (.ireturn, 1) := by decide +kernel
theorem dX9_trustOn_0 : decode cX9_trustOn 0 = .ok (.aload_n 0, 1) := by decide +kernel
theorem dX9_trustOn_1 : decode cX9_trustOn 1 = .ok (.getfield 10, 3) := by decide +kernel
theorem dX9_trustOn_4 : decode cX9_trustOn 4 = .ok (.iload_n 1, 1) := by decide +kernel
theorem dX9_trustOn_5 : decode cX9_trustOn 5 = .ok (.iload_n 2, 1) := by decide +kernel
theorem dX9_trustOn_6 : decode cX9_trustOn 6 = .ok (.invokevirtual 108, 3) := by decide +kernel
theorem dX9_trustOn_9 : decode cX9_trustOn 9 = .ok (.ifCond .eq 26, 3) := by decide +kernel
theorem dX9_trustOn_12 : decode cX9_trustOn 12 = .ok (.iload_n 3, 1) := by decide +kernel
theorem dX9_trustOn_13 : decode cX9_trustOn 13 = .ok (.invokestatic 128, 3) := by decide +kernel
theorem dX9_trustOn_16 : decode cX9_trustOn 16 = .ok (.ifCond .eq 19, 3) := by decide +kernel
theorem dX9_trustOn_19 : decode cX9_trustOn 19 = .ok (.aload_n 0, 1) := by decide +kernel
theorem dX9_trustOn_20 : decode cX9_trustOn 20 = .ok (.getfield 28, 3) := by decide +kernel
theorem dX9_trustOn_23 : decode cX9_trustOn 23 = .ok (.iload_n 1, 1) := by decide +kernel
theorem dX9_trustOn_24 : decode cX9_trustOn 24 = .ok (.iload_n 2, 1) := by decide +kernel
theorem dX9_trustOn_25 : decode cX9_trustOn 25 = .ok (.invokestatic 116, 3) := by decide +kernel
theorem dX9_trustOn_28 : decode cX9_trustOn 28 = .ok (.iload_n 3, 1) := by decide +kernel
theorem dX9_trustOn_29 : decode cX9_trustOn 29 = .ok (.invokevirtual 157, 3) := by decide +kernel
theorem dX9_trustOn_32 : decode cX9_trustOn 32 = .ok (.goto 4, 3) := by decide +kernel
theorem dX9_trustOn_35 : decode cX9_trustOn 35 = .ok (.iconst (-1), 1) := by decide +kernel
theorem dX9_trustOn_36 : decode cX9_trustOn 36 = .ok (.ireturn, 1) := by decide +kernel
theorem dX9_seen_0 : decode cX9_seen 0 = .ok (.iload_n 1, 1) := by decide +kernel
theorem dX9_seen_1 : decode cX9_seen 1 = .ok (.invokestatic 128, 3) := by decide +kernel
theorem dX9_seen_4 : decode cX9_seen 4 = .ok (.ifCond .ne 5, 3) := by decide +kernel
theorem dX9_seen_7 : decode cX9_seen 7 = .ok (.iconst (-1), 1) := by decide +kernel
theorem dX9_seen_8 : decode cX9_seen 8 = .ok (.ireturn, 1) := by decide +kernel
theorem dX9_seen_9 : decode cX9_seen 9 = .ok (.aload_n 0, 1) := by decide +kernel
theorem dX9_seen_10 : decode cX9_seen 10 = .ok (.getfield 10, 3) := by decide +kernel
theorem dX9_seen_13 : decode cX9_seen 13 = .ok (.iload_n 1, 1) := by decide +kernel
theorem dX9_seen_14 : decode cX9_seen 14 = .ok (.invokevirtual 160, 3) := by decide +kernel
theorem dX9_seen_17 : decode cX9_seen 17 = .ok (.iconst (-1), 1) := by decide +kernel
theorem dX9_seen_18 : decode cX9_seen 18 = .ok (.if_icmp .ne 8, 3) := by decide +kernel
theorem dX9_seen_21 : decode cX9_seen 21 = .ok (.bipush (-3), 2) := by decide +kernel
theorem dX9_seen_23 : decode cX9_seen 23 = .ok (.goto 11, 3) := by decide +kernel
theorem dX9_seen_26 : decode cX9_seen 26 = .ok (.aload_n 0, 1) := by decide +kernel
theorem dX9_seen_27 : decode cX9_seen 27 = .ok (.getfield 28, 3) := by decide +kernel
theorem dX9_seen_30 : decode cX9_seen 30 = .ok (.iload_n 1, 1) := by decide +kernel
theorem dX9_seen_31 : decode cX9_seen 31 = .ok (.invokevirtual 164, 3) := by decide +kernel
theorem dX9_seen_34 : decode cX9_seen 34 = .ok (.ireturn, 1) := by decide +kernel
theorem dX9_worth_0 : decode cX9_worth 0 = .ok (.iload_n 1, 1) := by decide +kernel
theorem dX9_worth_1 : decode cX9_worth 1 = .ok (.invokestatic 128, 3) := by decide +kernel
theorem dX9_worth_4 : decode cX9_worth 4 = .ok (.ifCond .ne 5, 3) := by decide +kernel
theorem dX9_worth_7 : decode cX9_worth 7 = .ok (.iconst (-1), 1) := by decide +kernel
theorem dX9_worth_8 : decode cX9_worth 8 = .ok (.ireturn, 1) := by decide +kernel
theorem dX9_worth_9 : decode cX9_worth 9 = .ok (.aload_n 0, 1) := by decide +kernel
theorem dX9_worth_10 : decode cX9_worth 10 = .ok (.getfield 10, 3) := by decide +kernel
theorem dX9_worth_13 : decode cX9_worth 13 = .ok (.iload_n 1, 1) := by decide +kernel
theorem dX9_worth_14 : decode cX9_worth 14 = .ok (.invokevirtual 160, 3) := by decide +kernel
theorem dX9_worth_17 : decode cX9_worth 17 = .ok (.iconst (-1), 1) := by decide +kernel
theorem dX9_worth_18 : decode cX9_worth 18 = .ok (.if_icmp .ne 8, 3) := by decide +kernel
theorem dX9_worth_21 : decode cX9_worth 21 = .ok (.bipush (-3), 2) := by decide +kernel
theorem dX9_worth_23 : decode cX9_worth 23 = .ok (.goto 15, 3) := by decide +kernel
theorem dX9_worth_26 : decode cX9_worth 26 = .ok (.aload_n 0, 1) := by decide +kernel
theorem dX9_worth_27 : decode cX9_worth 27 = .ok (.getfield 28, 3) := by decide +kernel
theorem dX9_worth_30 : decode cX9_worth 30 = .ok (.iload_n 1, 1) := by decide +kernel
theorem dX9_worth_31 : decode cX9_worth 31 = .ok (.invokevirtual 167, 3) := by decide +kernel
theorem dX9_worth_34 : decode cX9_worth 34 = .ok (.sipush 10000, 3) := by decide +kernel
theorem dX9_worth_37 : decode cX9_worth 37 = .ok (.iadd, 1) := by decide +kernel
theorem dX9_worth_38 : decode cX9_worth 38 = .ok (.ireturn, 1) := by decide +kernel
theorem dX9_pays_0 : decode cX9_pays 0 = .ok (.aload_n 0, 1) := by decide +kernel
theorem dX9_pays_1 : decode cX9_pays 1 = .ok (.getfield 28, 3) := by decide +kernel
theorem dX9_pays_4 : decode cX9_pays 4 = .ok (.invokevirtual 170, 3) := by decide +kernel
theorem dX9_pays_7 : decode cX9_pays 7 = .ok (.ireturn, 1) := by decide +kernel
theorem dX9_best_0 : decode cX9_best 0 = .ok (.aload_n 0, 1) := by decide +kernel
theorem dX9_best_1 : decode cX9_best 1 = .ok (.getfield 10, 3) := by decide +kernel
theorem dX9_best_4 : decode cX9_best 4 = .ok (.iload_n 1, 1) := by decide +kernel
theorem dX9_best_5 : decode cX9_best 5 = .ok (.iload_n 2, 1) := by decide +kernel
theorem dX9_best_6 : decode cX9_best 6 = .ok (.invokevirtual 108, 3) := by decide +kernel
theorem dX9_best_9 : decode cX9_best 9 = .ok (.ifCond .eq 10, 3) := by decide +kernel
theorem dX9_best_12 : decode cX9_best 12 = .ok (.iload_n 3, 1) := by decide +kernel
theorem dX9_best_13 : decode cX9_best 13 = .ok (.invokestatic 173, 3) := by decide +kernel
theorem dX9_best_16 : decode cX9_best 16 = .ok (.ifCond .ne 7, 3) := by decide +kernel
theorem dX9_best_19 : decode cX9_best 19 = .ok (.ldc2_w 176, 3) := by decide +kernel
theorem dX9_best_22 : decode cX9_best 22 = .ok (.lreturn, 1) := by decide +kernel
theorem dX9_best_23 : decode cX9_best 23 = .ok (.aload_n 0, 1) := by decide +kernel
theorem dX9_best_24 : decode cX9_best 24 = .ok (.getfield 37, 3) := by decide +kernel
theorem dX9_best_27 : decode cX9_best 27 = .ok (.iload_n 1, 1) := by decide +kernel
theorem dX9_best_28 : decode cX9_best 28 = .ok (.iload_n 2, 1) := by decide +kernel
theorem dX9_best_29 : decode cX9_best 29 = .ok (.invokestatic 116, 3) := by decide +kernel
theorem dX9_best_32 : decode cX9_best 32 = .ok (.invokevirtual 178, 3) := by decide +kernel
theorem dX9_best_35 : decode cX9_best 35 = .ok (.iload_n 3, 1) := by decide +kernel
theorem dX9_best_36 : decode cX9_best 36 = .ok (.ifCond .ne 13, 3) := by decide +kernel
theorem dX9_best_39 : decode cX9_best 39 = .ok (.aload_n 0, 1) := by decide +kernel
theorem dX9_best_40 : decode cX9_best 40 = .ok (.getfield 37, 3) := by decide +kernel
theorem dX9_best_43 : decode cX9_best 43 = .ok (.getfield 182, 3) := by decide +kernel
theorem dX9_best_46 : decode cX9_best 46 = .ok (.goto 10, 3) := by decide +kernel
theorem dX9_best_49 : decode cX9_best 49 = .ok (.aload_n 0, 1) := by decide +kernel
theorem dX9_best_50 : decode cX9_best 50 = .ok (.getfield 37, 3) := by decide +kernel
theorem dX9_best_53 : decode cX9_best 53 = .ok (.getfield 186, 3) := by decide +kernel
theorem dX9_best_56 : decode cX9_best 56 = .ok (.lreturn, 1) := by decide +kernel
theorem dX9_enough_0 : decode cX9_enough 0 = .ok (.aload_n 0, 1) := by decide +kernel
theorem dX9_enough_1 : decode cX9_enough 1 = .ok (.getfield 28, 3) := by decide +kernel
theorem dX9_enough_4 : decode cX9_enough 4 = .ok (.invokevirtual 189, 3) := by decide +kernel
theorem dX9_enough_7 : decode cX9_enough 7 = .ok (.ireturn, 1) := by decide +kernel
theorem dX9_needed_0 : decode cX9_needed 0 = .ok (.aload_n 0, 1) := by decide +kernel
theorem dX9_needed_1 : decode cX9_needed 1 = .ok (.getfield 28, 3) := by decide +kernel
theorem dX9_needed_4 : decode cX9_needed 4 = .ok (.invokevirtual 192, 3) := by decide +kernel
theorem dX9_needed_7 : decode cX9_needed 7 = .ok (.ireturn, 1) := by decide +kernel
theorem dX9_broken_0 : decode cX9_broken 0 = .ok (.iload_n 1, 1) := by decide +kernel
theorem dX9_broken_1 : decode cX9_broken 1 = .ok (.invokestatic 128, 3) := by decide +kernel
theorem dX9_broken_4 : decode cX9_broken 4 = .ok (.ifCond .eq 14, 3) := by decide +kernel
theorem dX9_broken_7 : decode cX9_broken 7 = .ok (.aload_n 0, 1) := by decide +kernel
theorem dX9_broken_8 : decode cX9_broken 8 = .ok (.getfield 28, 3) := by decide +kernel
theorem dX9_broken_11 : decode cX9_broken 11 = .ok (.iload_n 1, 1) := by decide +kernel
theorem dX9_broken_12 : decode cX9_broken 12 = .ok (.invokevirtual 195, 3) := by decide +kernel
theorem dX9_broken_15 : decode cX9_broken 15 = .ok (.goto 4, 3) := by decide +kernel
theorem dX9_broken_18 : decode cX9_broken 18 = .ok (.iconst (-1), 1) := by decide +kernel
theorem dX9_broken_19 : decode cX9_broken 19 = .ok (.ireturn, 1) := by decide +kernel
theorem dX9_mended_0 : decode cX9_mended 0 = .ok (.iload_n 1, 1) := by decide +kernel
theorem dX9_mended_1 : decode cX9_mended 1 = .ok (.invokestatic 128, 3) := by decide +kernel
theorem dX9_mended_4 : decode cX9_mended 4 = .ok (.ifCond .eq 12, 3) := by decide +kernel
theorem dX9_mended_7 : decode cX9_mended 7 = .ok (.iload_n 2, 1) := by decide +kernel
theorem dX9_mended_8 : decode cX9_mended 8 = .ok (.ifCond .lt 8, 3) := by decide +kernel
theorem dX9_mended_11 : decode cX9_mended 11 = .ok (.iload_n 2, 1) := by decide +kernel
theorem dX9_mended_12 : decode cX9_mended 12 = .ok (.iconst 1, 1) := by decide +kernel
theorem dX9_mended_13 : decode cX9_mended 13 = .ok (.if_icmp .le 5, 3) := by decide +kernel
theorem dX9_mended_16 : decode cX9_mended 16 = .ok (.iconst (-1), 1) := by decide +kernel
theorem dX9_mended_17 : decode cX9_mended 17 = .ok (.ireturn, 1) := by decide +kernel
theorem dX9_mended_18 : decode cX9_mended 18 = .ok (.aload_n 0, 1) := by decide +kernel
theorem dX9_mended_19 : decode cX9_mended 19 = .ok (.getfield 44, 3) := by decide +kernel
theorem dX9_mended_22 : decode cX9_mended 22 = .ok (.iload_n 1, 1) := by decide +kernel
theorem dX9_mended_23 : decode cX9_mended 23 = .ok (.invokevirtual 198, 3) := by decide +kernel
theorem dX9_mended_26 : decode cX9_mended 26 = .ok (.ifCond .ne 6, 3) := by decide +kernel
theorem dX9_mended_29 : decode cX9_mended 29 = .ok (.bipush (-3), 2) := by decide +kernel
theorem dX9_mended_31 : decode cX9_mended 31 = .ok (.ireturn, 1) := by decide +kernel
theorem dX9_mended_32 : decode cX9_mended 32 = .ok (.iload_n 2, 1) := by decide +kernel
theorem dX9_mended_33 : decode cX9_mended 33 = .ok (.ifCond .ne 13, 3) := by decide +kernel
theorem dX9_mended_36 : decode cX9_mended 36 = .ok (.aload_n 0, 1) := by decide +kernel
theorem dX9_mended_37 : decode cX9_mended 37 = .ok (.getfield 44, 3) := by decide +kernel
theorem dX9_mended_40 : decode cX9_mended 40 = .ok (.getfield 201, 3) := by decide +kernel
theorem dX9_mended_43 : decode cX9_mended 43 = .ok (.goto 10, 3) := by decide +kernel
theorem dX9_mended_46 : decode cX9_mended 46 = .ok (.aload_n 0, 1) := by decide +kernel
theorem dX9_mended_47 : decode cX9_mended 47 = .ok (.getfield 44, 3) := by decide +kernel
theorem dX9_mended_50 : decode cX9_mended 50 = .ok (.getfield 204, 3) := by decide +kernel
theorem dX9_mended_53 : decode cX9_mended 53 = .ok (.ireturn, 1) := by decide +kernel
theorem dX9_ahead_0 : decode cX9_ahead 0 = .ok (.iload_n 1, 1) := by decide +kernel
theorem dX9_ahead_1 : decode cX9_ahead 1 = .ok (.invokestatic 128, 3) := by decide +kernel
theorem dX9_ahead_4 : decode cX9_ahead 4 = .ok (.ifCond .eq 21, 3) := by decide +kernel
theorem dX9_ahead_7 : decode cX9_ahead 7 = .ok (.iload_n 2, 1) := by decide +kernel
theorem dX9_ahead_8 : decode cX9_ahead 8 = .ok (.iconst 1, 1) := by decide +kernel
theorem dX9_ahead_9 : decode cX9_ahead 9 = .ok (.if_icmp .lt 16, 3) := by decide +kernel
theorem dX9_ahead_12 : decode cX9_ahead 12 = .ok (.iload_n 2, 1) := by decide +kernel
theorem dX9_ahead_13 : decode cX9_ahead 13 = .ok (.iconst 3, 1) := by decide +kernel
theorem dX9_ahead_14 : decode cX9_ahead 14 = .ok (.if_icmp .gt 11, 3) := by decide +kernel
theorem dX9_ahead_17 : decode cX9_ahead 17 = .ok (.iload_n 1, 1) := by decide +kernel
theorem dX9_ahead_18 : decode cX9_ahead 18 = .ok (.iload_n 2, 1) := by decide +kernel
theorem dX9_ahead_19 : decode cX9_ahead 19 = .ok (.iadd, 1) := by decide +kernel
theorem dX9_ahead_20 : decode cX9_ahead 20 = .ok (.bipush 10, 2) := by decide +kernel
theorem dX9_ahead_22 : decode cX9_ahead 22 = .ok (.if_icmp .le 7, 3) := by decide +kernel
theorem dX9_ahead_25 : decode cX9_ahead 25 = .ok (.iconst (-1), 1) := by decide +kernel
theorem dX9_ahead_26 : decode cX9_ahead 26 = .ok (.goto 12, 3) := by decide +kernel
theorem dX9_ahead_29 : decode cX9_ahead 29 = .ok (.aload_n 0, 1) := by decide +kernel
theorem dX9_ahead_30 : decode cX9_ahead 30 = .ok (.getfield 44, 3) := by decide +kernel
theorem dX9_ahead_33 : decode cX9_ahead 33 = .ok (.iload_n 1, 1) := by decide +kernel
theorem dX9_ahead_34 : decode cX9_ahead 34 = .ok (.iload_n 2, 1) := by decide +kernel
theorem dX9_ahead_35 : decode cX9_ahead 35 = .ok (.invokevirtual 207, 3) := by decide +kernel
theorem dX9_ahead_38 : decode cX9_ahead 38 = .ok (.ireturn, 1) := by decide +kernel
theorem dX9_lot_0 : decode cX9_lot 0 = .ok (.aload_n 0, 1) := by decide +kernel
theorem dX9_lot_1 : decode cX9_lot 1 = .ok (.getfield 10, 3) := by decide +kernel
theorem dX9_lot_4 : decode cX9_lot 4 = .ok (.iload_n 1, 1) := by decide +kernel
theorem dX9_lot_5 : decode cX9_lot 5 = .ok (.iload_n 2, 1) := by decide +kernel
theorem dX9_lot_6 : decode cX9_lot 6 = .ok (.invokevirtual 108, 3) := by decide +kernel
theorem dX9_lot_9 : decode cX9_lot 9 = .ok (.ifCond .eq 10, 3) := by decide +kernel
theorem dX9_lot_12 : decode cX9_lot 12 = .ok (.iload_n 3, 1) := by decide +kernel
theorem dX9_lot_13 : decode cX9_lot 13 = .ok (.invokestatic 173, 3) := by decide +kernel
theorem dX9_lot_16 : decode cX9_lot 16 = .ok (.ifCond .ne 7, 3) := by decide +kernel
theorem dX9_lot_19 : decode cX9_lot 19 = .ok (.ldc2_w 176, 3) := by decide +kernel
theorem dX9_lot_22 : decode cX9_lot 22 = .ok (.lreturn, 1) := by decide +kernel
theorem dX9_lot_23 : decode cX9_lot 23 = .ok (.aload_n 0, 1) := by decide +kernel
theorem dX9_lot_24 : decode cX9_lot 24 = .ok (.getfield 37, 3) := by decide +kernel
theorem dX9_lot_27 : decode cX9_lot 27 = .ok (.iload_n 1, 1) := by decide +kernel
theorem dX9_lot_28 : decode cX9_lot 28 = .ok (.iload_n 2, 1) := by decide +kernel
theorem dX9_lot_29 : decode cX9_lot 29 = .ok (.invokestatic 116, 3) := by decide +kernel
theorem dX9_lot_32 : decode cX9_lot 32 = .ok (.invokevirtual 210, 3) := by decide +kernel
theorem dX9_lot_35 : decode cX9_lot 35 = .ok (.iload_n 3, 1) := by decide +kernel
theorem dX9_lot_36 : decode cX9_lot 36 = .ok (.ifCond .ne 13, 3) := by decide +kernel
theorem dX9_lot_39 : decode cX9_lot 39 = .ok (.aload_n 0, 1) := by decide +kernel
theorem dX9_lot_40 : decode cX9_lot 40 = .ok (.getfield 37, 3) := by decide +kernel
theorem dX9_lot_43 : decode cX9_lot 43 = .ok (.getfield 182, 3) := by decide +kernel
theorem dX9_lot_46 : decode cX9_lot 46 = .ok (.goto 10, 3) := by decide +kernel
theorem dX9_lot_49 : decode cX9_lot 49 = .ok (.aload_n 0, 1) := by decide +kernel
theorem dX9_lot_50 : decode cX9_lot 50 = .ok (.getfield 37, 3) := by decide +kernel
theorem dX9_lot_53 : decode cX9_lot 53 = .ok (.getfield 186, 3) := by decide +kernel
theorem dX9_lot_56 : decode cX9_lot 56 = .ok (.lreturn, 1) := by decide +kernel
theorem dX9_sat_0 : decode cX9_sat 0 = .ok (.aload_n 0, 1) := by decide +kernel
theorem dX9_sat_1 : decode cX9_sat 1 = .ok (.getfield 10, 3) := by decide +kernel
theorem dX9_sat_4 : decode cX9_sat 4 = .ok (.iload_n 1, 1) := by decide +kernel
theorem dX9_sat_5 : decode cX9_sat 5 = .ok (.iload_n 2, 1) := by decide +kernel
theorem dX9_sat_6 : decode cX9_sat 6 = .ok (.invokevirtual 108, 3) := by decide +kernel
theorem dX9_sat_9 : decode cX9_sat 9 = .ok (.ifCond .eq 18, 3) := by decide +kernel
theorem dX9_sat_12 : decode cX9_sat 12 = .ok (.aload_n 0, 1) := by decide +kernel
theorem dX9_sat_13 : decode cX9_sat 13 = .ok (.getfield 10, 3) := by decide +kernel
theorem dX9_sat_16 : decode cX9_sat 16 = .ok (.iload_n 1, 1) := by decide +kernel
theorem dX9_sat_17 : decode cX9_sat 17 = .ok (.iload_n 2, 1) := by decide +kernel
theorem dX9_sat_18 : decode cX9_sat 18 = .ok (.invokestatic 116, 3) := by decide +kernel
theorem dX9_sat_21 : decode cX9_sat 21 = .ok (.invokevirtual 213, 3) := by decide +kernel
theorem dX9_sat_24 : decode cX9_sat 24 = .ok (.goto 4, 3) := by decide +kernel
theorem dX9_sat_27 : decode cX9_sat 27 = .ok (.iconst (-1), 1) := by decide +kernel
theorem dX9_sat_28 : decode cX9_sat 28 = .ok (.ireturn, 1) := by decide +kernel
theorem dX9_suspects_0 : decode cX9_suspects 0 = .ok (.iload_n 1, 1) := by decide +kernel
theorem dX9_suspects_1 : decode cX9_suspects 1 = .ok (.ifCond .lt 8, 3) := by decide +kernel
theorem dX9_suspects_4 : decode cX9_suspects 4 = .ok (.iload_n 1, 1) := by decide +kernel
theorem dX9_suspects_5 : decode cX9_suspects 5 = .ok (.iconst 1, 1) := by decide +kernel
theorem dX9_suspects_6 : decode cX9_suspects 6 = .ok (.if_icmp .le 5, 3) := by decide +kernel
theorem dX9_suspects_9 : decode cX9_suspects 9 = .ok (.iconst (-1), 1) := by decide +kernel
theorem dX9_suspects_10 : decode cX9_suspects 10 = .ok (.ireturn, 1) := by decide +kernel
theorem dX9_suspects_11 : decode cX9_suspects 11 = .ok (.aload_n 0, 1) := by decide +kernel
theorem dX9_suspects_12 : decode cX9_suspects 12 = .ok (.getfield 10, 3) := by decide +kernel
theorem dX9_suspects_15 : decode cX9_suspects 15 = .ok (.getfield 101, 3) := by decide +kernel
theorem dX9_suspects_18 : decode cX9_suspects 18 = .ok (.iconst 2, 1) := by decide +kernel
theorem dX9_suspects_19 : decode cX9_suspects 19 = .ok (.if_icmp .ge 6, 3) := by decide +kernel
theorem dX9_suspects_22 : decode cX9_suspects 22 = .ok (.bipush (-3), 2) := by decide +kernel
theorem dX9_suspects_24 : decode cX9_suspects 24 = .ok (.ireturn, 1) := by decide +kernel
theorem dX9_suspects_25 : decode cX9_suspects 25 = .ok (.aload_n 0, 1) := by decide +kernel
theorem dX9_suspects_26 : decode cX9_suspects 26 = .ok (.getfield 10, 3) := by decide +kernel
theorem dX9_suspects_29 : decode cX9_suspects 29 = .ok (.invokevirtual 216, 3) := by decide +kernel
theorem dX9_suspects_32 : decode cX9_suspects 32 = .ok (.istore_n 2, 1) := by decide +kernel
theorem dX9_suspects_33 : decode cX9_suspects 33 = .ok (.iload_n 1, 1) := by decide +kernel
theorem dX9_suspects_34 : decode cX9_suspects 34 = .ok (.ifCond .ne 7, 3) := by decide +kernel
theorem dX9_suspects_37 : decode cX9_suspects 37 = .ok (.iload_n 2, 1) := by decide +kernel
theorem dX9_suspects_38 : decode cX9_suspects 38 = .ok (.goto 11, 3) := by decide +kernel
theorem dX9_suspects_41 : decode cX9_suspects 41 = .ok (.aload_n 0, 1) := by decide +kernel
theorem dX9_suspects_42 : decode cX9_suspects 42 = .ok (.getfield 10, 3) := by decide +kernel
theorem dX9_suspects_45 : decode cX9_suspects 45 = .ok (.iload_n 2, 1) := by decide +kernel
theorem dX9_suspects_46 : decode cX9_suspects 46 = .ok (.invokevirtual 219, 3) := by decide +kernel
theorem dX9_suspects_49 : decode cX9_suspects 49 = .ok (.ireturn, 1) := by decide +kernel
theorem dX9_plan_0 : decode cX9_plan 0 = .ok (.iload_n 1, 1) := by decide +kernel
theorem dX9_plan_1 : decode cX9_plan 1 = .ok (.iconst 1, 1) := by decide +kernel
theorem dX9_plan_2 : decode cX9_plan 2 = .ok (.if_icmp .lt 20, 3) := by decide +kernel
theorem dX9_plan_5 : decode cX9_plan 5 = .ok (.iload_n 1, 1) := by decide +kernel
theorem dX9_plan_6 : decode cX9_plan 6 = .ok (.bipush 6, 2) := by decide +kernel
theorem dX9_plan_8 : decode cX9_plan 8 = .ok (.if_icmp .ge 14, 3) := by decide +kernel
theorem dX9_plan_11 : decode cX9_plan 11 = .ok (.iload_n 2, 1) := by decide +kernel
theorem dX9_plan_12 : decode cX9_plan 12 = .ok (.ifCond .lt 10, 3) := by decide +kernel
theorem dX9_plan_15 : decode cX9_plan 15 = .ok (.iload_n 2, 1) := by decide +kernel
theorem dX9_plan_16 : decode cX9_plan 16 = .ok (.sipush 4095, 3) := by decide +kernel
theorem dX9_plan_19 : decode cX9_plan 19 = .ok (.if_icmp .le 5, 3) := by decide +kernel
theorem dX9_plan_22 : decode cX9_plan 22 = .ok (.iconst (-1), 1) := by decide +kernel
theorem dX9_plan_23 : decode cX9_plan 23 = .ok (.ireturn, 1) := by decide +kernel
theorem dX9_plan_24 : decode cX9_plan 24 = .ok (.aload_n 0, 1) := by decide +kernel
theorem dX9_plan_25 : decode cX9_plan 25 = .ok (.getfield 51, 3) := by decide +kernel
theorem dX9_plan_28 : decode cX9_plan 28 = .ok (.getfield 222, 3) := by decide +kernel
theorem dX9_plan_31 : decode cX9_plan 31 = .ok (.iconst 4, 1) := by decide +kernel
theorem dX9_plan_32 : decode cX9_plan 32 = .ok (.if_icmp .ge 15, 3) := by decide +kernel
theorem dX9_plan_35 : decode cX9_plan 35 = .ok (.aload_n 0, 1) := by decide +kernel
theorem dX9_plan_36 : decode cX9_plan 36 = .ok (.getfield 51, 3) := by decide +kernel
theorem dX9_plan_39 : decode cX9_plan 39 = .ok (.iload_n 1, 1) := by decide +kernel
theorem dX9_plan_40 : decode cX9_plan 40 = .ok (.iload_n 2, 1) := by decide +kernel
theorem dX9_plan_41 : decode cX9_plan 41 = .ok (.invokevirtual 225, 3) := by decide +kernel
theorem dX9_plan_44 : decode cX9_plan 44 = .ok (.goto 5, 3) := by decide +kernel
theorem dX9_plan_47 : decode cX9_plan 47 = .ok (.bipush (-2), 2) := by decide +kernel
theorem dX9_plan_49 : decode cX9_plan 49 = .ok (.ireturn, 1) := by decide +kernel
theorem dX9_planOf_0 : decode cX9_planOf 0 = .ok (.aload_n 0, 1) := by decide +kernel
theorem dX9_planOf_1 : decode cX9_planOf 1 = .ok (.getfield 51, 3) := by decide +kernel
theorem dX9_planOf_4 : decode cX9_planOf 4 = .ok (.iload_n 1, 1) := by decide +kernel
theorem dX9_planOf_5 : decode cX9_planOf 5 = .ok (.invokevirtual 227, 3) := by decide +kernel
theorem dX9_planOf_8 : decode cX9_planOf 8 = .ok (.ifCond .eq 12, 3) := by decide +kernel
theorem dX9_planOf_11 : decode cX9_planOf 11 = .ok (.iload_n 2, 1) := by decide +kernel
theorem dX9_planOf_12 : decode cX9_planOf 12 = .ok (.ifCond .lt 8, 3) := by decide +kernel
theorem dX9_planOf_15 : decode cX9_planOf 15 = .ok (.iload_n 2, 1) := by decide +kernel
theorem dX9_planOf_16 : decode cX9_planOf 16 = .ok (.iconst 1, 1) := by decide +kernel
theorem dX9_planOf_17 : decode cX9_planOf 17 = .ok (.if_icmp .le 5, 3) := by decide +kernel
theorem dX9_planOf_20 : decode cX9_planOf 20 = .ok (.iconst (-1), 1) := by decide +kernel
theorem dX9_planOf_21 : decode cX9_planOf 21 = .ok (.ireturn, 1) := by decide +kernel
theorem dX9_planOf_22 : decode cX9_planOf 22 = .ok (.iload_n 2, 1) := by decide +kernel
theorem dX9_planOf_23 : decode cX9_planOf 23 = .ok (.ifCond .ne 15, 3) := by decide +kernel
theorem dX9_planOf_26 : decode cX9_planOf 26 = .ok (.aload_n 0, 1) := by decide +kernel
theorem dX9_planOf_27 : decode cX9_planOf 27 = .ok (.getfield 51, 3) := by decide +kernel
theorem dX9_planOf_30 : decode cX9_planOf 30 = .ok (.getfield 230, 3) := by decide +kernel
theorem dX9_planOf_33 : decode cX9_planOf 33 = .ok (.iload_n 1, 1) := by decide +kernel
theorem dX9_planOf_34 : decode cX9_planOf 34 = .ok (.iaload, 1) := by decide +kernel
theorem dX9_planOf_35 : decode cX9_planOf 35 = .ok (.goto 12, 3) := by decide +kernel
theorem dX9_planOf_38 : decode cX9_planOf 38 = .ok (.aload_n 0, 1) := by decide +kernel
theorem dX9_planOf_39 : decode cX9_planOf 39 = .ok (.getfield 51, 3) := by decide +kernel
theorem dX9_planOf_42 : decode cX9_planOf 42 = .ok (.getfield 233, 3) := by decide +kernel
theorem dX9_planOf_45 : decode cX9_planOf 45 = .ok (.iload_n 1, 1) := by decide +kernel
theorem dX9_planOf_46 : decode cX9_planOf 46 = .ok (.iaload, 1) := by decide +kernel
theorem dX9_planOf_47 : decode cX9_planOf 47 = .ok (.ireturn, 1) := by decide +kernel
theorem dX9_fill_0 : decode cX9_fill 0 = .ok (.aload_n 0, 1) := by decide +kernel
theorem dX9_fill_1 : decode cX9_fill 1 = .ok (.getfield 51, 3) := by decide +kernel
theorem dX9_fill_4 : decode cX9_fill 4 = .ok (.iload_n 1, 1) := by decide +kernel
theorem dX9_fill_5 : decode cX9_fill 5 = .ok (.invokevirtual 227, 3) := by decide +kernel
theorem dX9_fill_8 : decode cX9_fill 8 = .ok (.ifCond .eq 10, 3) := by decide +kernel
theorem dX9_fill_11 : decode cX9_fill 11 = .ok (.iload_n 2, 1) := by decide +kernel
theorem dX9_fill_12 : decode cX9_fill 12 = .ok (.invokestatic 128, 3) := by decide +kernel
theorem dX9_fill_15 : decode cX9_fill 15 = .ok (.ifCond .ne 5, 3) := by decide +kernel
theorem dX9_fill_18 : decode cX9_fill 18 = .ok (.iconst (-1), 1) := by decide +kernel
theorem dX9_fill_19 : decode cX9_fill 19 = .ok (.ireturn, 1) := by decide +kernel
theorem dX9_fill_20 : decode cX9_fill 20 = .ok (.aload_n 0, 1) := by decide +kernel
theorem dX9_fill_21 : decode cX9_fill 21 = .ok (.getfield 51, 3) := by decide +kernel
theorem dX9_fill_24 : decode cX9_fill 24 = .ok (.aload_n 0, 1) := by decide +kernel
theorem dX9_fill_25 : decode cX9_fill 25 = .ok (.getfield 10, 3) := by decide +kernel
theorem dX9_fill_28 : decode cX9_fill 28 = .ok (.iload_n 1, 1) := by decide +kernel
theorem dX9_fill_29 : decode cX9_fill 29 = .ok (.iload_n 2, 1) := by decide +kernel
theorem dX9_fill_30 : decode cX9_fill 30 = .ok (.invokevirtual 236, 3) := by decide +kernel
theorem dX9_fill_33 : decode cX9_fill 33 = .ok (.ireturn, 1) := by decide +kernel
theorem dX9_seed_0 : decode cX9_seed 0 = .ok (.aload_n 0, 1) := by decide +kernel
theorem dX9_seed_1 : decode cX9_seed 1 = .ok (.getfield 51, 3) := by decide +kernel
theorem dX9_seed_4 : decode cX9_seed 4 = .ok (.getfield 240, 3) := by decide +kernel
theorem dX9_seed_7 : decode cX9_seed 7 = .ok (.istore_n 2, 1) := by decide +kernel
theorem dX9_seed_8 : decode cX9_seed 8 = .ok (.aload_n 0, 1) := by decide +kernel
theorem dX9_seed_9 : decode cX9_seed 9 = .ok (.getfield 51, 3) := by decide +kernel
theorem dX9_seed_12 : decode cX9_seed 12 = .ok (.iload_n 1, 1) := by decide +kernel
theorem dX9_seed_13 : decode cX9_seed 13 = .ok (.putfield 240, 3) := by decide +kernel
theorem dX9_seed_16 : decode cX9_seed 16 = .ok (.iload_n 2, 1) := by decide +kernel
theorem dX9_seed_17 : decode cX9_seed 17 = .ok (.ireturn, 1) := by decide +kernel
theorem dX9_prove_0 : decode cX9_prove 0 = .ok (.aload_n 0, 1) := by decide +kernel
theorem dX9_prove_1 : decode cX9_prove 1 = .ok (.getfield 58, 3) := by decide +kernel
theorem dX9_prove_4 : decode cX9_prove 4 = .ok (.invokevirtual 243, 3) := by decide +kernel
theorem dX9_prove_7 : decode cX9_prove 7 = .ok (.ireturn, 1) := by decide +kernel
theorem dX9_row_0 : decode cX9_row 0 = .ok (.aload_n 0, 1) := by decide +kernel
theorem dX9_row_1 : decode cX9_row 1 = .ok (.getfield 58, 3) := by decide +kernel
theorem dX9_row_4 : decode cX9_row 4 = .ok (.iload_n 1, 1) := by decide +kernel
theorem dX9_row_5 : decode cX9_row 5 = .ok (.iload_n 2, 1) := by decide +kernel
theorem dX9_row_6 : decode cX9_row 6 = .ok (.invokevirtual 246, 3) := by decide +kernel
theorem dX9_row_9 : decode cX9_row 9 = .ok (.ifCond .eq 19, 3) := by decide +kernel
theorem dX9_row_12 : decode cX9_row 12 = .ok (.aload_n 0, 1) := by decide +kernel
theorem dX9_row_13 : decode cX9_row 13 = .ok (.getfield 58, 3) := by decide +kernel
theorem dX9_row_16 : decode cX9_row 16 = .ok (.getfield 248, 3) := by decide +kernel
theorem dX9_row_19 : decode cX9_row 19 = .ok (.iload_n 1, 1) := by decide +kernel
theorem dX9_row_20 : decode cX9_row 20 = .ok (.iconst 3, 1) := by decide +kernel
theorem dX9_row_21 : decode cX9_row 21 = .ok (.imul, 1) := by decide +kernel
theorem dX9_row_22 : decode cX9_row 22 = .ok (.iload_n 2, 1) := by decide +kernel
theorem dX9_row_23 : decode cX9_row 23 = .ok (.iadd, 1) := by decide +kernel
theorem dX9_row_24 : decode cX9_row 24 = .ok (.iaload, 1) := by decide +kernel
theorem dX9_row_25 : decode cX9_row 25 = .ok (.goto 5, 3) := by decide +kernel
theorem dX9_row_28 : decode cX9_row 28 = .ok (.bipush (-9), 2) := by decide +kernel
theorem dX9_row_30 : decode cX9_row 30 = .ok (.ireturn, 1) := by decide +kernel
theorem dX9_alterRow_0 : decode cX9_alterRow 0 = .ok (.aload_n 0, 1) := by decide +kernel
theorem dX9_alterRow_1 : decode cX9_alterRow 1 = .ok (.getfield 58, 3) := by decide +kernel
theorem dX9_alterRow_4 : decode cX9_alterRow 4 = .ok (.iload_n 1, 1) := by decide +kernel
theorem dX9_alterRow_5 : decode cX9_alterRow 5 = .ok (.iload_n 2, 1) := by decide +kernel
theorem dX9_alterRow_6 : decode cX9_alterRow 6 = .ok (.invokevirtual 246, 3) := by decide +kernel
theorem dX9_alterRow_9 : decode cX9_alterRow 9 = .ok (.ifCond .ne 6, 3) := by decide +kernel
theorem dX9_alterRow_12 : decode cX9_alterRow 12 = .ok (.bipush (-9), 2) := by decide +kernel
theorem dX9_alterRow_14 : decode cX9_alterRow 14 = .ok (.ireturn, 1) := by decide +kernel
theorem dX9_alterRow_15 : decode cX9_alterRow 15 = .ok (.iload_n 1, 1) := by decide +kernel
theorem dX9_alterRow_16 : decode cX9_alterRow 16 = .ok (.iconst 3, 1) := by decide +kernel
theorem dX9_alterRow_17 : decode cX9_alterRow 17 = .ok (.imul, 1) := by decide +kernel
theorem dX9_alterRow_18 : decode cX9_alterRow 18 = .ok (.iload_n 2, 1) := by decide +kernel
theorem dX9_alterRow_19 : decode cX9_alterRow 19 = .ok (.iadd, 1) := by decide +kernel
theorem dX9_alterRow_20 : decode cX9_alterRow 20 = .ok (.istore 4, 2) := by decide +kernel
theorem dX9_alterRow_22 : decode cX9_alterRow 22 = .ok (.aload_n 0, 1) := by decide +kernel
theorem dX9_alterRow_23 : decode cX9_alterRow 23 = .ok (.getfield 58, 3) := by decide +kernel
theorem dX9_alterRow_26 : decode cX9_alterRow 26 = .ok (.getfield 248, 3) := by decide +kernel
theorem dX9_alterRow_29 : decode cX9_alterRow 29 = .ok (.iload 4, 2) := by decide +kernel
theorem dX9_alterRow_31 : decode cX9_alterRow 31 = .ok (.iaload, 1) := by decide +kernel
theorem dX9_alterRow_32 : decode cX9_alterRow 32 = .ok (.istore 5, 2) := by decide +kernel
theorem dX9_alterRow_34 : decode cX9_alterRow 34 = .ok (.aload_n 0, 1) := by decide +kernel
theorem dX9_alterRow_35 : decode cX9_alterRow 35 = .ok (.getfield 58, 3) := by decide +kernel
theorem dX9_alterRow_38 : decode cX9_alterRow 38 = .ok (.getfield 248, 3) := by decide +kernel
theorem dX9_alterRow_41 : decode cX9_alterRow 41 = .ok (.iload 4, 2) := by decide +kernel
theorem dX9_alterRow_43 : decode cX9_alterRow 43 = .ok (.iload_n 3, 1) := by decide +kernel
theorem dX9_alterRow_44 : decode cX9_alterRow 44 = .ok (.iastore, 1) := by decide +kernel
theorem dX9_alterRow_45 : decode cX9_alterRow 45 = .ok (.iload 5, 2) := by decide +kernel
theorem dX9_alterRow_47 : decode cX9_alterRow 47 = .ok (.ireturn, 1) := by decide +kernel
theorem dX9_judge_0 : decode cX9_judge 0 = .ok (.aload_n 0, 1) := by decide +kernel
theorem dX9_judge_1 : decode cX9_judge 1 = .ok (.getfield 58, 3) := by decide +kernel
theorem dX9_judge_4 : decode cX9_judge 4 = .ok (.invokevirtual 251, 3) := by decide +kernel
theorem dX9_judge_7 : decode cX9_judge 7 = .ok (.ireturn, 1) := by decide +kernel
theorem dX9_sheet_0 : decode cX9_sheet 0 = .ok (.iload_n 1, 1) := by decide +kernel
theorem dX9_sheet_1 : decode cX9_sheet 1 = .ok (.invokestatic 254, 3) := by decide +kernel
theorem dX9_sheet_4 : decode cX9_sheet 4 = .ok (.ifCond .eq 13, 3) := by decide +kernel
theorem dX9_sheet_7 : decode cX9_sheet 7 = .ok (.iload_n 2, 1) := by decide +kernel
theorem dX9_sheet_8 : decode cX9_sheet 8 = .ok (.iconst (-1), 1) := by decide +kernel
theorem dX9_sheet_9 : decode cX9_sheet 9 = .ok (.if_icmp .lt 8, 3) := by decide +kernel
theorem dX9_sheet_12 : decode cX9_sheet 12 = .ok (.iload_n 2, 1) := by decide +kernel
theorem dX9_sheet_13 : decode cX9_sheet 13 = .ok (.iconst 4, 1) := by decide +kernel
theorem dX9_sheet_14 : decode cX9_sheet 14 = .ok (.if_icmp .lt 5, 3) := by decide +kernel
theorem dX9_sheet_17 : decode cX9_sheet 17 = .ok (.iconst (-1), 1) := by decide +kernel
theorem dX9_sheet_18 : decode cX9_sheet 18 = .ok (.ireturn, 1) := by decide +kernel
theorem dX9_sheet_19 : decode cX9_sheet 19 = .ok (.iload_n 2, 1) := by decide +kernel
theorem dX9_sheet_20 : decode cX9_sheet 20 = .ok (.iconst (-1), 1) := by decide +kernel
theorem dX9_sheet_21 : decode cX9_sheet 21 = .ok (.if_icmp .ne 14, 3) := by decide +kernel
theorem dX9_sheet_24 : decode cX9_sheet 24 = .ok (.aload_n 0, 1) := by decide +kernel
theorem dX9_sheet_25 : decode cX9_sheet 25 = .ok (.getfield 72, 3) := by decide +kernel
theorem dX9_sheet_28 : decode cX9_sheet 28 = .ok (.iload_n 1, 1) := by decide +kernel
theorem dX9_sheet_29 : decode cX9_sheet 29 = .ok (.iload_n 2, 1) := by decide +kernel
theorem dX9_sheet_30 : decode cX9_sheet 30 = .ok (.iconst 0, 1) := by decide +kernel
theorem dX9_sheet_31 : decode cX9_sheet 31 = .ok (.invokevirtual 257, 3) := by decide +kernel
theorem dX9_sheet_34 : decode cX9_sheet 34 = .ok (.ireturn, 1) := by decide +kernel
theorem dX9_sheet_35 : decode cX9_sheet 35 = .ok (.iload_n 3, 1) := by decide +kernel
theorem dX9_sheet_36 : decode cX9_sheet 36 = .ok (.bipush 40, 2) := by decide +kernel
theorem dX9_sheet_38 : decode cX9_sheet 38 = .ok (.if_icmp .le 5, 3) := by decide +kernel
theorem dX9_sheet_41 : decode cX9_sheet 41 = .ok (.iconst (-1), 1) := by decide +kernel
theorem dX9_sheet_42 : decode cX9_sheet 42 = .ok (.ireturn, 1) := by decide +kernel
theorem dX9_sheet_43 : decode cX9_sheet 43 = .ok (.iload_n 3, 1) := by decide +kernel
theorem dX9_sheet_44 : decode cX9_sheet 44 = .ok (.ifCond .ge 8, 3) := by decide +kernel
theorem dX9_sheet_47 : decode cX9_sheet 47 = .ok (.bipush (-14), 2) := by decide +kernel
theorem dX9_sheet_49 : decode cX9_sheet 49 = .ok (.goto 13, 3) := by decide +kernel
theorem dX9_sheet_52 : decode cX9_sheet 52 = .ok (.aload_n 0, 1) := by decide +kernel
theorem dX9_sheet_53 : decode cX9_sheet 53 = .ok (.getfield 72, 3) := by decide +kernel
theorem dX9_sheet_56 : decode cX9_sheet 56 = .ok (.iload_n 1, 1) := by decide +kernel
theorem dX9_sheet_57 : decode cX9_sheet 57 = .ok (.iload_n 2, 1) := by decide +kernel
theorem dX9_sheet_58 : decode cX9_sheet 58 = .ok (.iload_n 3, 1) := by decide +kernel
theorem dX9_sheet_59 : decode cX9_sheet 59 = .ok (.invokevirtual 257, 3) := by decide +kernel
theorem dX9_sheet_62 : decode cX9_sheet 62 = .ok (.ireturn, 1) := by decide +kernel
theorem dX9_put_0 : decode cX9_put 0 = .ok (.iload_n 1, 1) := by decide +kernel
theorem dX9_put_1 : decode cX9_put 1 = .ok (.invokestatic 254, 3) := by decide +kernel
theorem dX9_put_4 : decode cX9_put 4 = .ok (.ifCond .ne 5, 3) := by decide +kernel
theorem dX9_put_7 : decode cX9_put 7 = .ok (.iconst (-1), 1) := by decide +kernel
theorem dX9_put_8 : decode cX9_put 8 = .ok (.ireturn, 1) := by decide +kernel
theorem dX9_put_9 : decode cX9_put 9 = .ok (.aload_n 0, 1) := by decide +kernel
theorem dX9_put_10 : decode cX9_put 10 = .ok (.getfield 72, 3) := by decide +kernel
theorem dX9_put_13 : decode cX9_put 13 = .ok (.getfield 261, 3) := by decide +kernel
theorem dX9_put_16 : decode cX9_put 16 = .ok (.iload_n 1, 1) := by decide +kernel
theorem dX9_put_17 : decode cX9_put 17 = .ok (.iaload, 1) := by decide +kernel
theorem dX9_put_18 : decode cX9_put 18 = .ok (.iconst (-1), 1) := by decide +kernel
theorem dX9_put_19 : decode cX9_put 19 = .ok (.if_icmp .ne 6, 3) := by decide +kernel
theorem dX9_put_22 : decode cX9_put 22 = .ok (.bipush (-11), 2) := by decide +kernel
theorem dX9_put_24 : decode cX9_put 24 = .ok (.ireturn, 1) := by decide +kernel
theorem dX9_put_25 : decode cX9_put 25 = .ok (.aload_n 0, 1) := by decide +kernel
theorem dX9_put_26 : decode cX9_put 26 = .ok (.getfield 72, 3) := by decide +kernel
theorem dX9_put_29 : decode cX9_put 29 = .ok (.iload_n 1, 1) := by decide +kernel
theorem dX9_put_30 : decode cX9_put 30 = .ok (.iload_n 2, 1) := by decide +kernel
theorem dX9_put_31 : decode cX9_put 31 = .ok (.invokevirtual 264, 3) := by decide +kernel
theorem dX9_put_34 : decode cX9_put 34 = .ok (.ifCond .eq 16, 3) := by decide +kernel
theorem dX9_put_37 : decode cX9_put 37 = .ok (.aload_n 0, 1) := by decide +kernel
theorem dX9_put_38 : decode cX9_put 38 = .ok (.getfield 72, 3) := by decide +kernel
theorem dX9_put_41 : decode cX9_put 41 = .ok (.iload_n 1, 1) := by decide +kernel
theorem dX9_put_42 : decode cX9_put 42 = .ok (.iload_n 2, 1) := by decide +kernel
theorem dX9_put_43 : decode cX9_put 43 = .ok (.iload_n 3, 1) := by decide +kernel
theorem dX9_put_44 : decode cX9_put 44 = .ok (.invokevirtual 267, 3) := by decide +kernel
theorem dX9_put_47 : decode cX9_put 47 = .ok (.goto 5, 3) := by decide +kernel
theorem dX9_put_50 : decode cX9_put 50 = .ok (.bipush (-12), 2) := by decide +kernel
theorem dX9_put_52 : decode cX9_put 52 = .ok (.ireturn, 1) := by decide +kernel
theorem dX9_item_0 : decode cX9_item 0 = .ok (.iload_n 1, 1) := by decide +kernel
theorem dX9_item_1 : decode cX9_item 1 = .ok (.invokestatic 254, 3) := by decide +kernel
theorem dX9_item_4 : decode cX9_item 4 = .ok (.ifCond .eq 12, 3) := by decide +kernel
theorem dX9_item_7 : decode cX9_item 7 = .ok (.iload_n 2, 1) := by decide +kernel
theorem dX9_item_8 : decode cX9_item 8 = .ok (.ifCond .lt 8, 3) := by decide +kernel
theorem dX9_item_11 : decode cX9_item 11 = .ok (.iload_n 2, 1) := by decide +kernel
theorem dX9_item_12 : decode cX9_item 12 = .ok (.iconst 4, 1) := by decide +kernel
theorem dX9_item_13 : decode cX9_item 13 = .ok (.if_icmp .lt 5, 3) := by decide +kernel
theorem dX9_item_16 : decode cX9_item 16 = .ok (.iconst (-1), 1) := by decide +kernel
theorem dX9_item_17 : decode cX9_item 17 = .ok (.ireturn, 1) := by decide +kernel
theorem dX9_item_18 : decode cX9_item 18 = .ok (.aload_n 0, 1) := by decide +kernel
theorem dX9_item_19 : decode cX9_item 19 = .ok (.getfield 72, 3) := by decide +kernel
theorem dX9_item_22 : decode cX9_item 22 = .ok (.getfield 261, 3) := by decide +kernel
theorem dX9_item_25 : decode cX9_item 25 = .ok (.iload_n 1, 1) := by decide +kernel
theorem dX9_item_26 : decode cX9_item 26 = .ok (.iaload, 1) := by decide +kernel
theorem dX9_item_27 : decode cX9_item 27 = .ok (.iconst (-1), 1) := by decide +kernel
theorem dX9_item_28 : decode cX9_item 28 = .ok (.if_icmp .ne 6, 3) := by decide +kernel
theorem dX9_item_31 : decode cX9_item 31 = .ok (.bipush (-11), 2) := by decide +kernel
theorem dX9_item_33 : decode cX9_item 33 = .ok (.ireturn, 1) := by decide +kernel
theorem dX9_item_34 : decode cX9_item 34 = .ok (.aload_n 0, 1) := by decide +kernel
theorem dX9_item_35 : decode cX9_item 35 = .ok (.getfield 72, 3) := by decide +kernel
theorem dX9_item_38 : decode cX9_item 38 = .ok (.getfield 261, 3) := by decide +kernel
theorem dX9_item_41 : decode cX9_item 41 = .ok (.iload_n 1, 1) := by decide +kernel
theorem dX9_item_42 : decode cX9_item 42 = .ok (.iaload, 1) := by decide +kernel
theorem dX9_item_43 : decode cX9_item 43 = .ok (.iload_n 2, 1) := by decide +kernel
theorem dX9_item_44 : decode cX9_item 44 = .ok (.if_icmp .eq 6, 3) := by decide +kernel
theorem dX9_item_47 : decode cX9_item 47 = .ok (.bipush (-13), 2) := by decide +kernel
theorem dX9_item_49 : decode cX9_item 49 = .ok (.ireturn, 1) := by decide +kernel
theorem dX9_item_50 : decode cX9_item 50 = .ok (.aload_n 0, 1) := by decide +kernel
theorem dX9_item_51 : decode cX9_item 51 = .ok (.getfield 72, 3) := by decide +kernel
theorem dX9_item_54 : decode cX9_item 54 = .ok (.iload_n 1, 1) := by decide +kernel
theorem dX9_item_55 : decode cX9_item 55 = .ok (.iload_n 3, 1) := by decide +kernel
theorem dX9_item_56 : decode cX9_item 56 = .ok (.invokevirtual 264, 3) := by decide +kernel
theorem dX9_item_59 : decode cX9_item 59 = .ok (.ifCond .eq 17, 3) := by decide +kernel
theorem dX9_item_62 : decode cX9_item 62 = .ok (.aload_n 0, 1) := by decide +kernel
theorem dX9_item_63 : decode cX9_item 63 = .ok (.getfield 72, 3) := by decide +kernel
theorem dX9_item_66 : decode cX9_item 66 = .ok (.getfield 269, 3) := by decide +kernel
theorem dX9_item_69 : decode cX9_item 69 = .ok (.iload_n 1, 1) := by decide +kernel
theorem dX9_item_70 : decode cX9_item 70 = .ok (.aaload, 1) := by decide +kernel
theorem dX9_item_71 : decode cX9_item 71 = .ok (.iload_n 3, 1) := by decide +kernel
theorem dX9_item_72 : decode cX9_item 72 = .ok (.iaload, 1) := by decide +kernel
theorem dX9_item_73 : decode cX9_item 73 = .ok (.goto 5, 3) := by decide +kernel
theorem dX9_item_76 : decode cX9_item 76 = .ok (.bipush (-12), 2) := by decide +kernel
theorem dX9_item_78 : decode cX9_item 78 = .ok (.ireturn, 1) := by decide +kernel
theorem dX9_shelf_0 : decode cX9_shelf 0 = .ok (.iload_n 1, 1) := by decide +kernel
theorem dX9_shelf_1 : decode cX9_shelf 1 = .ok (.invokestatic 254, 3) := by decide +kernel
theorem dX9_shelf_4 : decode cX9_shelf 4 = .ok (.ifCond .ne 5, 3) := by decide +kernel
theorem dX9_shelf_7 : decode cX9_shelf 7 = .ok (.iconst (-1), 1) := by decide +kernel
theorem dX9_shelf_8 : decode cX9_shelf 8 = .ok (.ireturn, 1) := by decide +kernel
theorem dX9_shelf_9 : decode cX9_shelf 9 = .ok (.iload_n 2, 1) := by decide +kernel
theorem dX9_shelf_10 : decode cX9_shelf 10 = .ok (.ifCond .ne 28, 3) := by decide +kernel
theorem dX9_shelf_13 : decode cX9_shelf 13 = .ok (.aload_n 0, 1) := by decide +kernel
theorem dX9_shelf_14 : decode cX9_shelf 14 = .ok (.getfield 51, 3) := by decide +kernel
theorem dX9_shelf_17 : decode cX9_shelf 17 = .ok (.iload_n 3, 1) := by decide +kernel
theorem dX9_shelf_18 : decode cX9_shelf 18 = .ok (.invokevirtual 227, 3) := by decide +kernel
theorem dX9_shelf_21 : decode cX9_shelf 21 = .ok (.ifCond .eq 15, 3) := by decide +kernel
theorem dX9_shelf_24 : decode cX9_shelf 24 = .ok (.aload_n 0, 1) := by decide +kernel
theorem dX9_shelf_25 : decode cX9_shelf 25 = .ok (.getfield 72, 3) := by decide +kernel
theorem dX9_shelf_28 : decode cX9_shelf 28 = .ok (.iload_n 1, 1) := by decide +kernel
theorem dX9_shelf_29 : decode cX9_shelf 29 = .ok (.iload_n 3, 1) := by decide +kernel
theorem dX9_shelf_30 : decode cX9_shelf 30 = .ok (.invokevirtual 273, 3) := by decide +kernel
theorem dX9_shelf_33 : decode cX9_shelf 33 = .ok (.goto 4, 3) := by decide +kernel
theorem dX9_shelf_36 : decode cX9_shelf 36 = .ok (.iconst (-1), 1) := by decide +kernel
theorem dX9_shelf_37 : decode cX9_shelf 37 = .ok (.ireturn, 1) := by decide +kernel
theorem dX9_shelf_38 : decode cX9_shelf 38 = .ok (.iload_n 2, 1) := by decide +kernel
theorem dX9_shelf_39 : decode cX9_shelf 39 = .ok (.iconst 1, 1) := by decide +kernel
theorem dX9_shelf_40 : decode cX9_shelf 40 = .ok (.if_icmp .ne 24, 3) := by decide +kernel
theorem dX9_shelf_43 : decode cX9_shelf 43 = .ok (.iload_n 3, 1) := by decide +kernel
theorem dX9_shelf_44 : decode cX9_shelf 44 = .ok (.invokestatic 254, 3) := by decide +kernel
theorem dX9_shelf_47 : decode cX9_shelf 47 = .ok (.ifCond .eq 15, 3) := by decide +kernel
theorem dX9_shelf_50 : decode cX9_shelf 50 = .ok (.aload_n 0, 1) := by decide +kernel
theorem dX9_shelf_51 : decode cX9_shelf 51 = .ok (.getfield 72, 3) := by decide +kernel
theorem dX9_shelf_54 : decode cX9_shelf 54 = .ok (.iload_n 1, 1) := by decide +kernel
theorem dX9_shelf_55 : decode cX9_shelf 55 = .ok (.iload_n 3, 1) := by decide +kernel
theorem dX9_shelf_56 : decode cX9_shelf 56 = .ok (.invokevirtual 276, 3) := by decide +kernel
theorem dX9_shelf_59 : decode cX9_shelf 59 = .ok (.goto 4, 3) := by decide +kernel
theorem dX9_shelf_62 : decode cX9_shelf 62 = .ok (.iconst (-1), 1) := by decide +kernel
theorem dX9_shelf_63 : decode cX9_shelf 63 = .ok (.ireturn, 1) := by decide +kernel
theorem dX9_shelf_64 : decode cX9_shelf 64 = .ok (.iload_n 2, 1) := by decide +kernel
theorem dX9_shelf_65 : decode cX9_shelf 65 = .ok (.iconst 2, 1) := by decide +kernel
theorem dX9_shelf_66 : decode cX9_shelf 66 = .ok (.if_icmp .ne 14, 3) := by decide +kernel
theorem dX9_shelf_69 : decode cX9_shelf 69 = .ok (.aload_n 0, 1) := by decide +kernel
theorem dX9_shelf_70 : decode cX9_shelf 70 = .ok (.getfield 72, 3) := by decide +kernel
theorem dX9_shelf_73 : decode cX9_shelf 73 = .ok (.iload_n 1, 1) := by decide +kernel
theorem dX9_shelf_74 : decode cX9_shelf 74 = .ok (.invokevirtual 279, 3) := by decide +kernel
theorem dX9_shelf_77 : decode cX9_shelf 77 = .ok (.goto 4, 3) := by decide +kernel
theorem dX9_shelf_80 : decode cX9_shelf 80 = .ok (.iconst (-1), 1) := by decide +kernel
theorem dX9_shelf_81 : decode cX9_shelf 81 = .ok (.ireturn, 1) := by decide +kernel
theorem dX9_taken_0 : decode cX9_taken 0 = .ok (.iload_n 2, 1) := by decide +kernel
theorem dX9_taken_1 : decode cX9_taken 1 = .ok (.ifCond .lt 13, 3) := by decide +kernel
theorem dX9_taken_4 : decode cX9_taken 4 = .ok (.iload_n 2, 1) := by decide +kernel
theorem dX9_taken_5 : decode cX9_taken 5 = .ok (.bipush 6, 2) := by decide +kernel
theorem dX9_taken_7 : decode cX9_taken 7 = .ok (.if_icmp .ge 7, 3) := by decide +kernel
theorem dX9_taken_10 : decode cX9_taken 10 = .ok (.iconst 1, 1) := by decide +kernel
theorem dX9_taken_11 : decode cX9_taken 11 = .ok (.goto 4, 3) := by decide +kernel
theorem dX9_taken_14 : decode cX9_taken 14 = .ok (.iconst 0, 1) := by decide +kernel
theorem dX9_taken_15 : decode cX9_taken 15 = .ok (.istore_n 3, 1) := by decide +kernel
theorem dX9_taken_16 : decode cX9_taken 16 = .ok (.iload_n 2, 1) := by decide +kernel
theorem dX9_taken_17 : decode cX9_taken 17 = .ok (.bipush 10, 2) := by decide +kernel
theorem dX9_taken_19 : decode cX9_taken 19 = .ok (.if_icmp .lt 13, 3) := by decide +kernel
theorem dX9_taken_22 : decode cX9_taken 22 = .ok (.iload_n 2, 1) := by decide +kernel
theorem dX9_taken_23 : decode cX9_taken 23 = .ok (.bipush 14, 2) := by decide +kernel
theorem dX9_taken_25 : decode cX9_taken 25 = .ok (.if_icmp .ge 7, 3) := by decide +kernel
theorem dX9_taken_28 : decode cX9_taken 28 = .ok (.iconst 1, 1) := by decide +kernel
theorem dX9_taken_29 : decode cX9_taken 29 = .ok (.goto 4, 3) := by decide +kernel
theorem dX9_taken_32 : decode cX9_taken 32 = .ok (.iconst 0, 1) := by decide +kernel
theorem dX9_taken_33 : decode cX9_taken 33 = .ok (.istore 4, 2) := by decide +kernel
theorem dX9_taken_35 : decode cX9_taken 35 = .ok (.iload_n 1, 1) := by decide +kernel
theorem dX9_taken_36 : decode cX9_taken 36 = .ok (.invokestatic 254, 3) := by decide +kernel
theorem dX9_taken_39 : decode cX9_taken 39 = .ok (.ifCond .eq 12, 3) := by decide +kernel
theorem dX9_taken_42 : decode cX9_taken 42 = .ok (.iload_n 3, 1) := by decide +kernel
theorem dX9_taken_43 : decode cX9_taken 43 = .ok (.ifCond .ne 10, 3) := by decide +kernel
theorem dX9_taken_46 : decode cX9_taken 46 = .ok (.iload 4, 2) := by decide +kernel
theorem dX9_taken_48 : decode cX9_taken 48 = .ok (.ifCond .ne 5, 3) := by decide +kernel
theorem dX9_taken_51 : decode cX9_taken 51 = .ok (.iconst (-1), 1) := by decide +kernel
theorem dX9_taken_52 : decode cX9_taken 52 = .ok (.ireturn, 1) := by decide +kernel
theorem dX9_taken_53 : decode cX9_taken 53 = .ok (.aload_n 0, 1) := by decide +kernel
theorem dX9_taken_54 : decode cX9_taken 54 = .ok (.getfield 72, 3) := by decide +kernel
theorem dX9_taken_57 : decode cX9_taken 57 = .ok (.iload_n 1, 1) := by decide +kernel
theorem dX9_taken_58 : decode cX9_taken 58 = .ok (.invokevirtual 282, 3) := by decide +kernel
theorem dX9_taken_61 : decode cX9_taken 61 = .ok (.ifCond .eq 39, 3) := by decide +kernel
theorem dX9_taken_64 : decode cX9_taken 64 = .ok (.iload 4, 2) := by decide +kernel
theorem dX9_taken_66 : decode cX9_taken 66 = .ok (.ifCond .eq 31, 3) := by decide +kernel
theorem dX9_taken_69 : decode cX9_taken 69 = .ok (.aload_n 0, 1) := by decide +kernel
theorem dX9_taken_70 : decode cX9_taken 70 = .ok (.getfield 72, 3) := by decide +kernel
theorem dX9_taken_73 : decode cX9_taken 73 = .ok (.getfield 285, 3) := by decide +kernel
theorem dX9_taken_76 : decode cX9_taken 76 = .ok (.iload_n 1, 1) := by decide +kernel
theorem dX9_taken_77 : decode cX9_taken 77 = .ok (.iaload, 1) := by decide +kernel
theorem dX9_taken_78 : decode cX9_taken 78 = .ok (.iload_n 2, 1) := by decide +kernel
theorem dX9_taken_79 : decode cX9_taken 79 = .ok (.bipush 10, 2) := by decide +kernel
theorem dX9_taken_81 : decode cX9_taken 81 = .ok (.isub, 1) := by decide +kernel
theorem dX9_taken_82 : decode cX9_taken 82 = .ok (.if_icmp .ne 15, 3) := by decide +kernel
theorem dX9_taken_85 : decode cX9_taken 85 = .ok (.aload_n 0, 1) := by decide +kernel
theorem dX9_taken_86 : decode cX9_taken 86 = .ok (.getfield 72, 3) := by decide +kernel
theorem dX9_taken_89 : decode cX9_taken 89 = .ok (.getfield 288, 3) := by decide +kernel
theorem dX9_taken_92 : decode cX9_taken 92 = .ok (.iload_n 1, 1) := by decide +kernel
theorem dX9_taken_93 : decode cX9_taken 93 = .ok (.iaload, 1) := by decide +kernel
theorem dX9_taken_94 : decode cX9_taken 94 = .ok (.goto 5, 3) := by decide +kernel
theorem dX9_taken_97 : decode cX9_taken 97 = .ok (.bipush (-13), 2) := by decide +kernel
theorem dX9_taken_99 : decode cX9_taken 99 = .ok (.ireturn, 1) := by decide +kernel
theorem dX9_taken_100 : decode cX9_taken 100 = .ok (.aload_n 0, 1) := by decide +kernel
theorem dX9_taken_101 : decode cX9_taken 101 = .ok (.iload_n 1, 1) := by decide +kernel
theorem dX9_taken_102 : decode cX9_taken 102 = .ok (.invokevirtual 291, 3) := by decide +kernel
theorem dX9_taken_105 : decode cX9_taken 105 = .ok (.istore 5, 2) := by decide +kernel
theorem dX9_taken_107 : decode cX9_taken 107 = .ok (.iload 5, 2) := by decide +kernel
theorem dX9_taken_109 : decode cX9_taken 109 = .ok (.iconst (-1), 1) := by decide +kernel
theorem dX9_taken_110 : decode cX9_taken 110 = .ok (.if_icmp .ne 6, 3) := by decide +kernel
theorem dX9_taken_113 : decode cX9_taken 113 = .ok (.bipush (-11), 2) := by decide +kernel
theorem dX9_taken_115 : decode cX9_taken 115 = .ok (.ireturn, 1) := by decide +kernel
theorem dX9_taken_116 : decode cX9_taken 116 = .ok (.iload_n 3, 1) := by decide +kernel
theorem dX9_taken_117 : decode cX9_taken 117 = .ok (.ifCond .eq 25, 3) := by decide +kernel
theorem dX9_taken_120 : decode cX9_taken 120 = .ok (.aload_n 0, 1) := by decide +kernel
theorem dX9_taken_121 : decode cX9_taken 121 = .ok (.getfield 51, 3) := by decide +kernel
theorem dX9_taken_124 : decode cX9_taken 124 = .ok (.getfield 230, 3) := by decide +kernel
theorem dX9_taken_127 : decode cX9_taken 127 = .ok (.iload 5, 2) := by decide +kernel
theorem dX9_taken_129 : decode cX9_taken 129 = .ok (.iaload, 1) := by decide +kernel
theorem dX9_taken_130 : decode cX9_taken 130 = .ok (.iload_n 2, 1) := by decide +kernel
theorem dX9_taken_131 : decode cX9_taken 131 = .ok (.invokestatic 294, 3) := by decide +kernel
theorem dX9_taken_134 : decode cX9_taken 134 = .ok (.ifCond .eq 8, 3) := by decide +kernel
theorem dX9_taken_137 : decode cX9_taken 137 = .ok (.iload 5, 2) := by decide +kernel
theorem dX9_taken_139 : decode cX9_taken 139 = .ok (.goto 5, 3) := by decide +kernel
theorem dX9_taken_142 : decode cX9_taken 142 = .ok (.bipush (-13), 2) := by decide +kernel
theorem dX9_taken_144 : decode cX9_taken 144 = .ok (.ireturn, 1) := by decide +kernel
theorem dX9_act_0 : decode cX9_act 0 = .ok (.aload_n 0, 1) := by decide +kernel
theorem dX9_act_1 : decode cX9_act 1 = .ok (.getfield 65, 3) := by decide +kernel
theorem dX9_act_4 : decode cX9_act 4 = .ok (.invokevirtual 297, 3) := by decide +kernel
theorem dX9_act_7 : decode cX9_act 7 = .ok (.iload_n 1, 1) := by decide +kernel
theorem dX9_act_8 : decode cX9_act 8 = .ok (.invokestatic 254, 3) := by decide +kernel
theorem dX9_act_11 : decode cX9_act 11 = .ok (.ifCond .eq 12, 3) := by decide +kernel
theorem dX9_act_14 : decode cX9_act 14 = .ok (.iload_n 2, 1) := by decide +kernel
theorem dX9_act_15 : decode cX9_act 15 = .ok (.ifCond .lt 8, 3) := by decide +kernel
theorem dX9_act_18 : decode cX9_act 18 = .ok (.iload_n 2, 1) := by decide +kernel
theorem dX9_act_19 : decode cX9_act 19 = .ok (.iconst 4, 1) := by decide +kernel
theorem dX9_act_20 : decode cX9_act 20 = .ok (.if_icmp .lt 5, 3) := by decide +kernel
theorem dX9_act_23 : decode cX9_act 23 = .ok (.iconst 0, 1) := by decide +kernel
theorem dX9_act_24 : decode cX9_act 24 = .ok (.ireturn, 1) := by decide +kernel
theorem dX9_act_25 : decode cX9_act 25 = .ok (.aload_n 0, 1) := by decide +kernel
theorem dX9_act_26 : decode cX9_act 26 = .ok (.iload_n 1, 1) := by decide +kernel
theorem dX9_act_27 : decode cX9_act 27 = .ok (.invokevirtual 291, 3) := by decide +kernel
theorem dX9_act_30 : decode cX9_act 30 = .ok (.istore 4, 2) := by decide +kernel
theorem dX9_act_32 : decode cX9_act 32 = .ok (.iload 4, 2) := by decide +kernel
theorem dX9_act_34 : decode cX9_act 34 = .ok (.iconst (-1), 1) := by decide +kernel
theorem dX9_act_35 : decode cX9_act 35 = .ok (.if_icmp .ne 7, 3) := by decide +kernel
theorem dX9_act_38 : decode cX9_act 38 = .ok (.iconst 0, 1) := by decide +kernel
theorem dX9_act_39 : decode cX9_act 39 = .ok (.goto 34, 3) := by decide +kernel
theorem dX9_act_42 : decode cX9_act 42 = .ok (.aload_n 0, 1) := by decide +kernel
theorem dX9_act_43 : decode cX9_act 43 = .ok (.getfield 65, 3) := by decide +kernel
theorem dX9_act_46 : decode cX9_act 46 = .ok (.aload_n 0, 1) := by decide +kernel
theorem dX9_act_47 : decode cX9_act 47 = .ok (.getfield 51, 3) := by decide +kernel
theorem dX9_act_50 : decode cX9_act 50 = .ok (.getfield 230, 3) := by decide +kernel
theorem dX9_act_53 : decode cX9_act 53 = .ok (.iload 4, 2) := by decide +kernel
theorem dX9_act_55 : decode cX9_act 55 = .ok (.iaload, 1) := by decide +kernel
theorem dX9_act_56 : decode cX9_act 56 = .ok (.iload 4, 2) := by decide +kernel
theorem dX9_act_58 : decode cX9_act 58 = .ok (.aload_n 0, 1) := by decide +kernel
theorem dX9_act_59 : decode cX9_act 59 = .ok (.getfield 51, 3) := by decide +kernel
theorem dX9_act_62 : decode cX9_act 62 = .ok (.getfield 233, 3) := by decide +kernel
theorem dX9_act_65 : decode cX9_act 65 = .ok (.iload 4, 2) := by decide +kernel
theorem dX9_act_67 : decode cX9_act 67 = .ok (.iaload, 1) := by decide +kernel
theorem dX9_act_68 : decode cX9_act 68 = .ok (.iload_n 2, 1) := by decide +kernel
theorem dX9_act_69 : decode cX9_act 69 = .ok (.iload_n 3, 1) := by decide +kernel
theorem dX9_act_70 : decode cX9_act 70 = .ok (.invokevirtual 300, 3) := by decide +kernel
theorem dX9_act_73 : decode cX9_act 73 = .ok (.ireturn, 1) := by decide +kernel
theorem dX9_trace_0 : decode cX9_trace 0 = .ok (.iload_n 1, 1) := by decide +kernel
theorem dX9_trace_1 : decode cX9_trace 1 = .ok (.ifCond .lt 14, 3) := by decide +kernel
theorem dX9_trace_4 : decode cX9_trace 4 = .ok (.iload_n 1, 1) := by decide +kernel
theorem dX9_trace_5 : decode cX9_trace 5 = .ok (.aload_n 0, 1) := by decide +kernel
theorem dX9_trace_6 : decode cX9_trace 6 = .ok (.getfield 65, 3) := by decide +kernel
theorem dX9_trace_9 : decode cX9_trace 9 = .ok (.getfield 304, 3) := by decide +kernel
theorem dX9_trace_12 : decode cX9_trace 12 = .ok (.if_icmp .lt 8, 3) := by decide +kernel
theorem dX9_trace_15 : decode cX9_trace 15 = .ok (.bipush (-3), 2) := by decide +kernel
theorem dX9_trace_17 : decode cX9_trace 17 = .ok (.goto 12, 3) := by decide +kernel
theorem dX9_trace_20 : decode cX9_trace 20 = .ok (.aload_n 0, 1) := by decide +kernel
theorem dX9_trace_21 : decode cX9_trace 21 = .ok (.getfield 65, 3) := by decide +kernel
theorem dX9_trace_24 : decode cX9_trace 24 = .ok (.getfield 307, 3) := by decide +kernel
theorem dX9_trace_27 : decode cX9_trace 27 = .ok (.iload_n 1, 1) := by decide +kernel
theorem dX9_trace_28 : decode cX9_trace 28 = .ok (.iaload, 1) := by decide +kernel
theorem dX9_trace_29 : decode cX9_trace 29 = .ok (.ireturn, 1) := by decide +kernel
theorem dX9_days_0 : decode cX9_days 0 = .ok (.iload_n 1, 1) := by decide +kernel
theorem dX9_days_1 : decode cX9_days 1 = .ok (.invokestatic 140, 3) := by decide +kernel
theorem dX9_days_4 : decode cX9_days 4 = .ok (.ifCond .eq 10, 3) := by decide +kernel
theorem dX9_days_7 : decode cX9_days 7 = .ok (.iload_n 2, 1) := by decide +kernel
theorem dX9_days_8 : decode cX9_days 8 = .ok (.invokestatic 254, 3) := by decide +kernel
theorem dX9_days_11 : decode cX9_days 11 = .ok (.ifCond .ne 5, 3) := by decide +kernel
theorem dX9_days_14 : decode cX9_days 14 = .ok (.iconst (-1), 1) := by decide +kernel
theorem dX9_days_15 : decode cX9_days 15 = .ok (.ireturn, 1) := by decide +kernel
theorem dX9_days_16 : decode cX9_days 16 = .ok (.aload_n 0, 1) := by decide +kernel
theorem dX9_days_17 : decode cX9_days 17 = .ok (.getfield 72, 3) := by decide +kernel
theorem dX9_days_20 : decode cX9_days 20 = .ok (.getfield 261, 3) := by decide +kernel
theorem dX9_days_23 : decode cX9_days 23 = .ok (.iload_n 2, 1) := by decide +kernel
theorem dX9_days_24 : decode cX9_days 24 = .ok (.iaload, 1) := by decide +kernel
theorem dX9_days_25 : decode cX9_days 25 = .ok (.iconst (-1), 1) := by decide +kernel
theorem dX9_days_26 : decode cX9_days 26 = .ok (.if_icmp .ne 6, 3) := by decide +kernel
theorem dX9_days_29 : decode cX9_days 29 = .ok (.bipush (-11), 2) := by decide +kernel
theorem dX9_days_31 : decode cX9_days 31 = .ok (.ireturn, 1) := by decide +kernel
theorem dX9_days_32 : decode cX9_days 32 = .ok (.aload_n 0, 1) := by decide +kernel
theorem dX9_days_33 : decode cX9_days 33 = .ok (.getfield 72, 3) := by decide +kernel
theorem dX9_days_36 : decode cX9_days 36 = .ok (.getfield 261, 3) := by decide +kernel
theorem dX9_days_39 : decode cX9_days 39 = .ok (.iload_n 2, 1) := by decide +kernel
theorem dX9_days_40 : decode cX9_days 40 = .ok (.iaload, 1) := by decide +kernel
theorem dX9_days_41 : decode cX9_days 41 = .ok (.iconst 2, 1) := by decide +kernel
theorem dX9_days_42 : decode cX9_days 42 = .ok (.if_icmp .eq 6, 3) := by decide +kernel
theorem dX9_days_45 : decode cX9_days 45 = .ok (.bipush (-13), 2) := by decide +kernel
theorem dX9_days_47 : decode cX9_days 47 = .ok (.ireturn, 1) := by decide +kernel
theorem dX9_days_48 : decode cX9_days 48 = .ok (.aload_n 0, 1) := by decide +kernel
theorem dX9_days_49 : decode cX9_days 49 = .ok (.getfield 72, 3) := by decide +kernel
theorem dX9_days_52 : decode cX9_days 52 = .ok (.getfield 310, 3) := by decide +kernel
theorem dX9_days_55 : decode cX9_days 55 = .ok (.iload_n 2, 1) := by decide +kernel
theorem dX9_days_56 : decode cX9_days 56 = .ok (.iaload, 1) := by decide +kernel
theorem dX9_days_57 : decode cX9_days 57 = .ok (.bipush 10, 2) := by decide +kernel
theorem dX9_days_59 : decode cX9_days 59 = .ok (.invokestatic 313, 3) := by decide +kernel
theorem dX9_days_62 : decode cX9_days 62 = .ok (.istore_n 3, 1) := by decide +kernel
theorem dX9_days_63 : decode cX9_days 63 = .ok (.iconst 0, 1) := by decide +kernel
theorem dX9_days_64 : decode cX9_days 64 = .ok (.istore 4, 2) := by decide +kernel
theorem dX9_days_66 : decode cX9_days 66 = .ok (.iload 4, 2) := by decide +kernel
theorem dX9_days_68 : decode cX9_days 68 = .ok (.iload_n 3, 1) := by decide +kernel
theorem dX9_days_69 : decode cX9_days 69 = .ok (.if_icmp .ge 51, 3) := by decide +kernel
theorem dX9_days_72 : decode cX9_days 72 = .ok (.aload_n 0, 1) := by decide +kernel
theorem dX9_days_73 : decode cX9_days 73 = .ok (.getfield 72, 3) := by decide +kernel
theorem dX9_days_76 : decode cX9_days 76 = .ok (.getfield 269, 3) := by decide +kernel
theorem dX9_days_79 : decode cX9_days 79 = .ok (.iload_n 2, 1) := by decide +kernel
theorem dX9_days_80 : decode cX9_days 80 = .ok (.aaload, 1) := by decide +kernel
theorem dX9_days_81 : decode cX9_days 81 = .ok (.iload 4, 2) := by decide +kernel
theorem dX9_days_83 : decode cX9_days 83 = .ok (.iaload, 1) := by decide +kernel
theorem dX9_days_84 : decode cX9_days 84 = .ok (.istore 5, 2) := by decide +kernel
theorem dX9_days_86 : decode cX9_days 86 = .ok (.aload_n 0, 1) := by decide +kernel
theorem dX9_days_87 : decode cX9_days 87 = .ok (.getfield 10, 3) := by decide +kernel
theorem dX9_days_90 : decode cX9_days 90 = .ok (.iload 4, 2) := by decide +kernel
theorem dX9_days_92 : decode cX9_days 92 = .ok (.iload_n 1, 1) := by decide +kernel
theorem dX9_days_93 : decode cX9_days 93 = .ok (.aload_n 0, 1) := by decide +kernel
theorem dX9_days_94 : decode cX9_days 94 = .ok (.getfield 10, 3) := by decide +kernel
theorem dX9_days_97 : decode cX9_days 97 = .ok (.iload 5, 2) := by decide +kernel
theorem dX9_days_99 : decode cX9_days 99 = .ok (.invokevirtual 124, 3) := by decide +kernel
theorem dX9_days_102 : decode cX9_days 102 = .ok (.ifCond .eq 8, 3) := by decide +kernel
theorem dX9_days_105 : decode cX9_days 105 = .ok (.iload 5, 2) := by decide +kernel
theorem dX9_days_107 : decode cX9_days 107 = .ok (.goto 4, 3) := by decide +kernel
theorem dX9_days_110 : decode cX9_days 110 = .ok (.iconst (-1), 1) := by decide +kernel
theorem dX9_days_111 : decode cX9_days 111 = .ok (.invokevirtual 146, 3) := by decide +kernel
theorem dX9_days_114 : decode cX9_days 114 = .ok (.iinc 4 1, 3) := by decide +kernel
theorem dX9_days_117 : decode cX9_days 117 = .ok (.goto (-51), 3) := by decide +kernel
theorem dX9_days_120 : decode cX9_days 120 = .ok (.iload_n 3, 1) := by decide +kernel
theorem dX9_days_121 : decode cX9_days 121 = .ok (.ireturn, 1) := by decide +kernel
theorem dX9_many_0 : decode cX9_many 0 = .ok (.iload_n 1, 1) := by decide +kernel
theorem dX9_many_1 : decode cX9_many 1 = .ok (.tableswitch 87 0 5 #[39, 47, 55, 63, 71, 79], 39) := by decide +kernel
theorem dX9_many_40 : decode cX9_many 40 = .ok (.aload_n 0, 1) := by decide +kernel
theorem dX9_many_41 : decode cX9_many 41 = .ok (.getfield 10, 3) := by decide +kernel
theorem dX9_many_44 : decode cX9_many 44 = .ok (.getfield 101, 3) := by decide +kernel
theorem dX9_many_47 : decode cX9_many 47 = .ok (.ireturn, 1) := by decide +kernel
theorem dX9_many_48 : decode cX9_many 48 = .ok (.aload_n 0, 1) := by decide +kernel
theorem dX9_many_49 : decode cX9_many 49 = .ok (.getfield 51, 3) := by decide +kernel
theorem dX9_many_52 : decode cX9_many 52 = .ok (.getfield 222, 3) := by decide +kernel
theorem dX9_many_55 : decode cX9_many 55 = .ok (.ireturn, 1) := by decide +kernel
theorem dX9_many_56 : decode cX9_many 56 = .ok (.aload_n 0, 1) := by decide +kernel
theorem dX9_many_57 : decode cX9_many 57 = .ok (.getfield 10, 3) := by decide +kernel
theorem dX9_many_60 : decode cX9_many 60 = .ok (.invokevirtual 318, 3) := by decide +kernel
theorem dX9_many_63 : decode cX9_many 63 = .ok (.ireturn, 1) := by decide +kernel
theorem dX9_many_64 : decode cX9_many 64 = .ok (.aload_n 0, 1) := by decide +kernel
theorem dX9_many_65 : decode cX9_many 65 = .ok (.getfield 58, 3) := by decide +kernel
theorem dX9_many_68 : decode cX9_many 68 = .ok (.getfield 321, 3) := by decide +kernel
theorem dX9_many_71 : decode cX9_many 71 = .ok (.ireturn, 1) := by decide +kernel
theorem dX9_many_72 : decode cX9_many 72 = .ok (.aload_n 0, 1) := by decide +kernel
theorem dX9_many_73 : decode cX9_many 73 = .ok (.getfield 19, 3) := by decide +kernel
theorem dX9_many_76 : decode cX9_many 76 = .ok (.getfield 86, 3) := by decide +kernel
theorem dX9_many_79 : decode cX9_many 79 = .ok (.ireturn, 1) := by decide +kernel
theorem dX9_many_80 : decode cX9_many 80 = .ok (.aload_n 0, 1) := by decide +kernel
theorem dX9_many_81 : decode cX9_many 81 = .ok (.getfield 65, 3) := by decide +kernel
theorem dX9_many_84 : decode cX9_many 84 = .ok (.getfield 304, 3) := by decide +kernel
theorem dX9_many_87 : decode cX9_many 87 = .ok (.ireturn, 1) := by decide +kernel
theorem dX9_many_88 : decode cX9_many 88 = .ok (.iconst (-1), 1) := by decide +kernel
theorem dX9_many_89 : decode cX9_many 89 = .ok (.ireturn, 1) := by decide +kernel
theorem dX9_keep_0 : decode cX9_keep 0 = .ok (.aload_n 0, 1) := by decide +kernel
theorem dX9_keep_1 : decode cX9_keep 1 = .ok (.getfield 76, 3) := by decide +kernel
theorem dX9_keep_4 : decode cX9_keep 4 = .ok (.aload_n 0, 1) := by decide +kernel
theorem dX9_keep_5 : decode cX9_keep 5 = .ok (.getfield 10, 3) := by decide +kernel
theorem dX9_keep_8 : decode cX9_keep 8 = .ok (.invokevirtual 322, 3) := by decide +kernel
theorem dX9_keep_11 : decode cX9_keep 11 = .ok (.aload_n 0, 1) := by decide +kernel
theorem dX9_keep_12 : decode cX9_keep 12 = .ok (.getfield 79, 3) := by decide +kernel
theorem dX9_keep_15 : decode cX9_keep 15 = .ok (.aload_n 0, 1) := by decide +kernel
theorem dX9_keep_16 : decode cX9_keep 16 = .ok (.getfield 51, 3) := by decide +kernel
theorem dX9_keep_19 : decode cX9_keep 19 = .ok (.invokevirtual 325, 3) := by decide +kernel
theorem dX9_keep_22 : decode cX9_keep 22 = .ok (.aload_n 0, 1) := by decide +kernel
theorem dX9_keep_23 : decode cX9_keep 23 = .ok (.iconst 1, 1) := by decide +kernel
theorem dX9_keep_24 : decode cX9_keep 24 = .ok (.putfield 82, 3) := by decide +kernel
theorem dX9_keep_27 : decode cX9_keep 27 = .ok (.iconst 1, 1) := by decide +kernel
theorem dX9_keep_28 : decode cX9_keep 28 = .ok (.ireturn, 1) := by decide +kernel
theorem dX9_again_0 : decode cX9_again 0 = .ok (.aload_n 0, 1) := by decide +kernel
theorem dX9_again_1 : decode cX9_again 1 = .ok (.getfield 82, 3) := by decide +kernel
theorem dX9_again_4 : decode cX9_again 4 = .ok (.ifCond .ne 6, 3) := by decide +kernel
theorem dX9_again_7 : decode cX9_again 7 = .ok (.bipush (-3), 2) := by decide +kernel
theorem dX9_again_9 : decode cX9_again 9 = .ok (.ireturn, 1) := by decide +kernel
theorem dX9_again_10 : decode cX9_again 10 = .ok (.aload_n 0, 1) := by decide +kernel
theorem dX9_again_11 : decode cX9_again 11 = .ok (.getfield 10, 3) := by decide +kernel
theorem dX9_again_14 : decode cX9_again 14 = .ok (.aload_n 0, 1) := by decide +kernel
theorem dX9_again_15 : decode cX9_again 15 = .ok (.getfield 76, 3) := by decide +kernel
theorem dX9_again_18 : decode cX9_again 18 = .ok (.invokevirtual 322, 3) := by decide +kernel
theorem dX9_again_21 : decode cX9_again 21 = .ok (.aload_n 0, 1) := by decide +kernel
theorem dX9_again_22 : decode cX9_again 22 = .ok (.getfield 51, 3) := by decide +kernel
theorem dX9_again_25 : decode cX9_again 25 = .ok (.aload_n 0, 1) := by decide +kernel
theorem dX9_again_26 : decode cX9_again 26 = .ok (.getfield 79, 3) := by decide +kernel
theorem dX9_again_29 : decode cX9_again 29 = .ok (.invokevirtual 325, 3) := by decide +kernel
theorem dX9_again_32 : decode cX9_again 32 = .ok (.aload_n 0, 1) := by decide +kernel
theorem dX9_again_33 : decode cX9_again 33 = .ok (.getfield 10, 3) := by decide +kernel
theorem dX9_again_36 : decode cX9_again 36 = .ok (.getfield 101, 3) := by decide +kernel
theorem dX9_again_39 : decode cX9_again 39 = .ok (.ireturn, 1) := by decide +kernel
theorem dX9_isDay_0 : decode cX9_isDay 0 = .ok (.iload_n 0, 1) := by decide +kernel
theorem dX9_isDay_1 : decode cX9_isDay 1 = .ok (.ifCond .lt 13, 3) := by decide +kernel
theorem dX9_isDay_4 : decode cX9_isDay 4 = .ok (.iload_n 0, 1) := by decide +kernel
theorem dX9_isDay_5 : decode cX9_isDay 5 = .ok (.bipush 10, 2) := by decide +kernel
theorem dX9_isDay_7 : decode cX9_isDay 7 = .ok (.if_icmp .ge 7, 3) := by decide +kernel
theorem dX9_isDay_10 : decode cX9_isDay 10 = .ok (.iconst 1, 1) := by decide +kernel
theorem dX9_isDay_11 : decode cX9_isDay 11 = .ok (.goto 4, 3) := by decide +kernel
theorem dX9_isDay_14 : decode cX9_isDay 14 = .ok (.iconst 0, 1) := by decide +kernel
theorem dX9_isDay_15 : decode cX9_isDay 15 = .ok (.ireturn, 1) := by decide +kernel
theorem dX9_isPost_0 : decode cX9_isPost 0 = .ok (.iload_n 0, 1) := by decide +kernel
theorem dX9_isPost_1 : decode cX9_isPost 1 = .ok (.ifCond .lt 12, 3) := by decide +kernel
theorem dX9_isPost_4 : decode cX9_isPost 4 = .ok (.iload_n 0, 1) := by decide +kernel
theorem dX9_isPost_5 : decode cX9_isPost 5 = .ok (.iconst 4, 1) := by decide +kernel
theorem dX9_isPost_6 : decode cX9_isPost 6 = .ok (.if_icmp .ge 7, 3) := by decide +kernel
theorem dX9_isPost_9 : decode cX9_isPost 9 = .ok (.iconst 1, 1) := by decide +kernel
theorem dX9_isPost_10 : decode cX9_isPost 10 = .ok (.goto 4, 3) := by decide +kernel
theorem dX9_isPost_13 : decode cX9_isPost 13 = .ok (.iconst 0, 1) := by decide +kernel
theorem dX9_isPost_14 : decode cX9_isPost 14 = .ok (.ireturn, 1) := by decide +kernel
theorem dX9_isPart_0 : decode cX9_isPart 0 = .ok (.iload_n 0, 1) := by decide +kernel
theorem dX9_isPart_1 : decode cX9_isPart 1 = .ok (.ifCond .eq 8, 3) := by decide +kernel
theorem dX9_isPart_4 : decode cX9_isPart 4 = .ok (.iload_n 0, 1) := by decide +kernel
theorem dX9_isPart_5 : decode cX9_isPart 5 = .ok (.iconst 1, 1) := by decide +kernel
theorem dX9_isPart_6 : decode cX9_isPart 6 = .ok (.if_icmp .ne 7, 3) := by decide +kernel
theorem dX9_isPart_9 : decode cX9_isPart 9 = .ok (.iconst 1, 1) := by decide +kernel
theorem dX9_isPart_10 : decode cX9_isPart 10 = .ok (.goto 4, 3) := by decide +kernel
theorem dX9_isPart_13 : decode cX9_isPart 13 = .ok (.iconst 0, 1) := by decide +kernel
theorem dX9_isPart_14 : decode cX9_isPart 14 = .ok (.ireturn, 1) := by decide +kernel
theorem dX9_isPlace_0 : decode cX9_isPlace 0 = .ok (.iload_n 0, 1) := by decide +kernel
theorem dX9_isPlace_1 : decode cX9_isPlace 1 = .ok (.ifCond .lt 12, 3) := by decide +kernel
theorem dX9_isPlace_4 : decode cX9_isPlace 4 = .ok (.iload_n 0, 1) := by decide +kernel
theorem dX9_isPlace_5 : decode cX9_isPlace 5 = .ok (.iconst 4, 1) := by decide +kernel
theorem dX9_isPlace_6 : decode cX9_isPlace 6 = .ok (.if_icmp .ge 7, 3) := by decide +kernel
theorem dX9_isPlace_9 : decode cX9_isPlace 9 = .ok (.iconst 1, 1) := by decide +kernel
theorem dX9_isPlace_10 : decode cX9_isPlace 10 = .ok (.goto 4, 3) := by decide +kernel
theorem dX9_isPlace_13 : decode cX9_isPlace 13 = .ok (.iconst 0, 1) := by decide +kernel
theorem dX9_isPlace_14 : decode cX9_isPlace 14 = .ok (.ireturn, 1) := by decide +kernel
theorem dX9_planOn_0 : decode cX9_planOn 0 = .ok (.aload_n 0, 1) := by decide +kernel
theorem dX9_planOn_1 : decode cX9_planOn 1 = .ok (.getfield 72, 3) := by decide +kernel
theorem dX9_planOn_4 : decode cX9_planOn 4 = .ok (.iload_n 1, 1) := by decide +kernel
theorem dX9_planOn_5 : decode cX9_planOn 5 = .ok (.invokevirtual 328, 3) := by decide +kernel
theorem dX9_planOn_8 : decode cX9_planOn 8 = .ok (.ifCond .eq 34, 3) := by decide +kernel
theorem dX9_planOn_11 : decode cX9_planOn 11 = .ok (.aload_n 0, 1) := by decide +kernel
theorem dX9_planOn_12 : decode cX9_planOn 12 = .ok (.getfield 51, 3) := by decide +kernel
theorem dX9_planOn_15 : decode cX9_planOn 15 = .ok (.aload_n 0, 1) := by decide +kernel
theorem dX9_planOn_16 : decode cX9_planOn 16 = .ok (.getfield 72, 3) := by decide +kernel
theorem dX9_planOn_19 : decode cX9_planOn 19 = .ok (.getfield 288, 3) := by decide +kernel
theorem dX9_planOn_22 : decode cX9_planOn 22 = .ok (.iload_n 1, 1) := by decide +kernel
theorem dX9_planOn_23 : decode cX9_planOn 23 = .ok (.iaload, 1) := by decide +kernel
theorem dX9_planOn_24 : decode cX9_planOn 24 = .ok (.invokevirtual 227, 3) := by decide +kernel
theorem dX9_planOn_27 : decode cX9_planOn 27 = .ok (.ifCond .eq 15, 3) := by decide +kernel
theorem dX9_planOn_30 : decode cX9_planOn 30 = .ok (.aload_n 0, 1) := by decide +kernel
theorem dX9_planOn_31 : decode cX9_planOn 31 = .ok (.getfield 72, 3) := by decide +kernel
theorem dX9_planOn_34 : decode cX9_planOn 34 = .ok (.getfield 288, 3) := by decide +kernel
theorem dX9_planOn_37 : decode cX9_planOn 37 = .ok (.iload_n 1, 1) := by decide +kernel
theorem dX9_planOn_38 : decode cX9_planOn 38 = .ok (.iaload, 1) := by decide +kernel
theorem dX9_planOn_39 : decode cX9_planOn 39 = .ok (.goto 4, 3) := by decide +kernel
theorem dX9_planOn_42 : decode cX9_planOn 42 = .ok (.iconst (-1), 1) := by decide +kernel
theorem dX9_planOn_43 : decode cX9_planOn 43 = .ok (.ireturn, 1) := by decide +kernel
def fT_feed (z : MS) (a0 : Int64) (a1 : Int32) : Option (Int32 × MS) :=
  if a1 < 1 then some ((-1), z) else (if a1 ≤ 8 then (if ((gI z 8 2) + a1) ≤ 200 then ob2 (fTape_add z a0 a1) (fun w37 zc37 => some (w37, zc37)) else some ((-2), z)) else some ((-1), z))
set_option maxRecDepth 4000 in
theorem cT_feed (l : Launch) {z : MS} {a0 : Int64} {a1 : Int32} {r : Int32} {z1 : MS} (h : fT_feed z a0 a1 = some (r, z1)) : CT l yX9_feed cX9_feed 4 (some .int) 1 24 (fun ad sd => [.ref (ad 0), .long a0, .int a1]) z (some (.int r)) z1 := by
  rw [fT_feed] at h
  refine u_start RX9 rfl (by decide) (fun _ _ => Nat.le_of_ble_eq_true rfl) (fun p e s m args below meth c R D ad cs sd A Q ls X hP hS hl hr hret => ?_)
  have hl : lv_has ls 4 [(0, .ref (ad 0)), (1, .long a0), (3, .int a1)] := hl
  refine u_iload_n X hl dX9_feed_0 2 rfl ?_
  refine u_iconst (v := 1) X dX9_feed_1 rfl ?_
  refine u_icmp_lt 11 X dX9_feed_2 rfl (fun hc => ?_) (fun hc => ?_)
  · rw [if_pos hc] at h
    refine u_iconst (v := (-1)) X dX9_feed_11 rfl ?_
    exact u_iretM X hr hret h hP hS dX9_feed_12
  · rw [if_neg hc] at h
    refine u_iload_n X hl dX9_feed_5 2 rfl ?_
    refine u_bipush (v := 8) X dX9_feed_6 rfl ?_
    refine u_icmp_le 13 X dX9_feed_8 rfl (fun hc => ?_) (fun hc => ?_)
    · rw [if_pos hc] at h
      refine u_aload_n X hl dX9_feed_13 0 rfl ?_
      refine gf_X9_19_0 X hP dX9_feed_14 ?_
      refine gf_X9_86_8 X hP dX9_feed_17 ?_
      refine u_iload_n X hl dX9_feed_20 2 rfl ?_
      refine u_iadd X dX9_feed_21 ?_
      refine u_sipush (v := 200) X dX9_feed_22 rfl ?_
      refine u_icmp_le 31 X dX9_feed_25 rfl (fun hc => ?_) (fun hc => ?_)
      · rw [if_pos hc] at h
        refine u_aload_n X hl dX9_feed_31 0 rfl ?_
        refine gf_X9_19_0 X hP dX9_feed_32 ?_
        refine u_lload_n X hl dX9_feed_35 1 rfl ?_
        refine u_iload_n X hl dX9_feed_36 2 rfl ?_
        obtain ⟨w37, zc37, hc37, h⟩ := ob2_inv h
        refine u_callVi X hP hS hl dX9_feed_37 (cTape_add l hc37) cw_X9_90 io_8 rfl rfl rfl rfl ⟨rfl, rfl⟩ (fun H locs hP hS => ?_)
        exact u_iretM X hr hret h hP hS dX9_feed_40
      · rw [if_neg hc] at h
        refine u_bipush (v := (-2)) X dX9_feed_28 rfl ?_
        exact u_iretM X hr hret h hP hS dX9_feed_30
    · rw [if_neg hc] at h
      refine u_iconst (v := (-1)) X dX9_feed_11 rfl ?_
      exact u_iretM X hr hret h hP hS dX9_feed_12
def fT_house (z : MS) : Option (Int32 × MS) :=
  ob2 (fTape_tell z) (fun w8 zc8 => if w8 < 0 then Option.bind (fRows_drop zc8) (fun zc25 => some (gI zc25 1 0, zc25)) else some ((-100) - w8, zc8))
set_option maxRecDepth 4000 in
theorem cT_house (l : Launch) {z : MS} {r : Int32} {z1 : MS} (h : fT_house z = some (r, z1)) : CT l yX9_house cX9_house 2 (some .int) 11 413 (fun ad sd => [.ref (ad 0)]) z (some (.int r)) z1 := by
  rw [fT_house] at h
  refine u_start RX9 rfl (by decide) (fun _ _ => Nat.le_of_ble_eq_true rfl) (fun p e s m args below meth c R D ad cs sd A Q ls X hP hS hl hr hret => ?_)
  have hl : lv_has ls 2 [(0, .ref (ad 0))] := hl
  refine u_aload_n X hl dX9_house_0 0 rfl ?_
  refine gf_X9_19_0 X hP dX9_house_1 ?_
  refine u_aload_n X hl dX9_house_4 0 rfl ?_
  refine gf_X9_10_0 X hP dX9_house_5 ?_
  obtain ⟨w8, zc8, hc8, h⟩ := ob2_inv h
  refine u_callVi X hP hS hl dX9_house_8 (cTape_tell l hc8) cw_X9_94 io_8 rfl rfl rfl rfl ⟨rfl, rfl⟩ (fun H locs hP hS => ?_)
  refine u_istore_n [(1, .int w8), (0, .ref (ad 0))] X hl dX9_house_11 (Nat.le_of_ble_eq_true rfl) rfl (fun ls hl => ?_)
  refine u_iload_n X hl dX9_house_12 0 rfl ?_
  refine u_if_lt 21 X dX9_house_13 rfl (fun hc => ?_) (fun hc => ?_)
  · rw [if_pos hc] at h
    refine u_aload_n X hl dX9_house_21 1 rfl ?_
    refine gf_X9_58_0 X hP dX9_house_22 ?_
    obtain ⟨zc25, hc25, h⟩ := ob_inv h
    refine u_callVv X hP hS hl dX9_house_25 (cRows_drop l hc25) cw_X9_98 io_30 rfl rfl rfl rfl ⟨rfl, rfl⟩ (fun H locs hP hS => ?_)
    refine u_aload_n X hl dX9_house_28 1 rfl ?_
    refine gf_X9_10_0 X hP dX9_house_29 ?_
    refine gf_X9_101_1 X hP dX9_house_32 ?_
    exact u_iretM X hr hret h hP hS dX9_house_35
  · rw [if_neg hc] at h
    refine u_bipush (v := (-100)) X dX9_house_16 rfl ?_
    refine u_iload_n X hl dX9_house_18 0 rfl ?_
    refine u_isub X dX9_house_19 ?_
    exact u_iretM X hr hret h hP hS dX9_house_20
def fT_person (z : MS) : Option (Int32 × MS) :=
  if 8 ≤ (gI z 1 0) then some ((-2), z) else ob2 (fHouse_addPerson z) (fun w16 zc16 => some (w16, zc16))
set_option maxRecDepth 4000 in
theorem cT_person (l : Launch) {z : MS} {r : Int32} {z1 : MS} (h : fT_person z = some (r, z1)) : CT l yX9_person cX9_person 1 (some .int) 1 20 (fun ad sd => [.ref (ad 0)]) z (some (.int r)) z1 := by
  rw [fT_person] at h
  refine u_start RX9 rfl (by decide) (fun _ _ => Nat.le_of_ble_eq_true rfl) (fun p e s m args below meth c R D ad cs sd A Q ls X hP hS hl hr hret => ?_)
  have hl : lv_has ls 1 [(0, .ref (ad 0))] := hl
  refine u_aload_n X hl dX9_person_0 0 rfl ?_
  refine gf_X9_10_0 X hP dX9_person_1 ?_
  refine gf_X9_101_1 X hP dX9_person_4 ?_
  refine u_bipush (v := 8) X dX9_person_7 rfl ?_
  refine u_icmp_ge 22 X dX9_person_9 rfl (fun hc => ?_) (fun hc => ?_)
  · rw [if_pos hc] at h
    refine u_bipush (v := (-2)) X dX9_person_22 rfl ?_
    exact u_iretM X hr hret h hP hS dX9_person_24
  · rw [if_neg hc] at h
    refine u_aload_n X hl dX9_person_12 0 rfl ?_
    refine gf_X9_10_0 X hP dX9_person_13 ?_
    obtain ⟨w16, zc16, hc16, h⟩ := ob2_inv h
    refine u_callVi X hP hS hl dX9_person_16 (cHouse_addPerson l hc16) cw_X9_104 io_1 rfl rfl rfl rfl ⟨rfl, rfl⟩ (fun H locs hP hS => ?_)
    refine u_goto 24 X dX9_person_19 rfl ?_
    exact u_iretM X hr hret h hP hS dX9_person_24
def fT_kin (z : MS) (a0 : Int32) (a1 : Int32) (a2 : Int32) : Option (Int32 × MS) :=
  if (fHouse_areTwo z a0 a1) = 0 then some ((-1), z) else ob2 (fHouse_setKin z a0 a1 a2) (fun w19 zc19 => some (w19, zc19))
set_option maxRecDepth 4000 in
theorem cT_kin (l : Launch) {z : MS} {a0 : Int32} {a1 : Int32} {a2 : Int32} {r : Int32} {z1 : MS} (h : fT_kin z a0 a1 a2 = some (r, z1)) : CT l yX9_kin cX9_kin 4 (some .int) 2 45 (fun ad sd => [.ref (ad 0), .int a0, .int a1, .int a2]) z (some (.int r)) z1 := by
  rw [fT_kin] at h
  refine u_start RX9 rfl (by decide) (fun _ _ => Nat.le_of_ble_eq_true rfl) (fun p e s m args below meth c R D ad cs sd A Q ls X hP hS hl hr hret => ?_)
  have hl : lv_has ls 4 [(0, .ref (ad 0)), (1, .int a0), (2, .int a1), (3, .int a2)] := hl
  refine u_aload_n X hl dX9_kin_0 0 rfl ?_
  refine gf_X9_10_0 X hP dX9_kin_1 ?_
  refine u_iload_n X hl dX9_kin_4 1 rfl ?_
  refine u_iload_n X hl dX9_kin_5 2 rfl ?_
  refine u_callVi X hP hS hl dX9_kin_6 (cHouse_areTwo l z a0 a1) cw_X9_108 io_1 rfl rfl rfl rfl ⟨rfl, rfl⟩ (fun H locs hP hS => ?_)
  refine u_if_eq 25 X dX9_kin_9 rfl (fun hc => ?_) (fun hc => ?_)
  · rw [if_pos hc] at h
    refine u_iconst (v := (-1)) X dX9_kin_25 rfl ?_
    exact u_iretM X hr hret h hP hS dX9_kin_26
  · rw [if_neg hc] at h
    refine u_aload_n X hl dX9_kin_12 0 rfl ?_
    refine gf_X9_10_0 X hP dX9_kin_13 ?_
    refine u_iload_n X hl dX9_kin_16 1 rfl ?_
    refine u_iload_n X hl dX9_kin_17 2 rfl ?_
    refine u_iload_n X hl dX9_kin_18 3 rfl ?_
    obtain ⟨w19, zc19, hc19, h⟩ := ob2_inv h
    refine u_callVi X hP hS hl dX9_kin_19 (cHouse_setKin l hc19) cw_X9_112 io_1 rfl rfl rfl rfl ⟨rfl, rfl⟩ (fun H locs hP hS => ?_)
    refine u_goto 26 X dX9_kin_22 rfl ?_
    exact u_iretM X hr hret h hP hS dX9_kin_26
def fT_trust (z : MS) (a0 : Int32) (a1 : Int32) (a2 : Int32) : Option (Int32 × MS) :=
  if (fHouse_areTwo z a0 a1) = 0 then some ((-1), z) else (if a2 < 0 then some ((-1), z) else (if a2 ≤ 9 then (if (fHouse_pairOf a0 a1) < 0 ∨ 64 ≤ (fHouse_pairOf a0 a1).toNatClampNeg then none else if (fHouse_pairOf a0 a1) < 0 ∨ 64 ≤ (fHouse_pairOf a0 a1).toNatClampNeg then none else some (gI z 4 (fHouse_pairOf a0 a1).toNatClampNeg, pI z 4 (fHouse_pairOf a0 a1).toNatClampNeg a2)) else some ((-1), z)))
set_option maxRecDepth 4000 in
theorem cT_trust (l : Launch) {z : MS} {a0 : Int32} {a1 : Int32} {a2 : Int32} {r : Int32} {z1 : MS} (h : fT_trust z a0 a1 a2 = some (r, z1)) : CT l yX9_trust cX9_trust 6 (some .int) 2 43 (fun ad sd => [.ref (ad 0), .int a0, .int a1, .int a2]) z (some (.int r)) z1 := by
  rw [fT_trust] at h
  refine u_start RX9 rfl (by decide) (fun _ _ => Nat.le_of_ble_eq_true rfl) (fun p e s m args below meth c R D ad cs sd A Q ls X hP hS hl hr hret => ?_)
  have hl : lv_has ls 6 [(0, .ref (ad 0)), (1, .int a0), (2, .int a1), (3, .int a2)] := hl
  refine u_aload_n X hl dX9_trust_0 0 rfl ?_
  refine gf_X9_10_0 X hP dX9_trust_1 ?_
  refine u_iload_n X hl dX9_trust_4 1 rfl ?_
  refine u_iload_n X hl dX9_trust_5 2 rfl ?_
  refine u_callVi X hP hS hl dX9_trust_6 (cHouse_areTwo l z a0 a1) cw_X9_108 io_1 rfl rfl rfl rfl ⟨rfl, rfl⟩ (fun H locs hP hS => ?_)
  refine u_if_eq 22 X dX9_trust_9 rfl (fun hc => ?_) (fun hc => ?_)
  · rw [if_pos hc] at h
    refine u_iconst (v := (-1)) X dX9_trust_22 rfl ?_
    exact u_iretM X hr hret h hP hS dX9_trust_23
  · rw [if_neg hc] at h
    refine u_iload_n X hl dX9_trust_12 3 rfl ?_
    refine u_if_lt 22 X dX9_trust_13 rfl (fun hc => ?_) (fun hc => ?_)
    · rw [if_pos hc] at h
      refine u_iconst (v := (-1)) X dX9_trust_22 rfl ?_
      exact u_iretM X hr hret h hP hS dX9_trust_23
    · rw [if_neg hc] at h
      refine u_iload_n X hl dX9_trust_16 3 rfl ?_
      refine u_bipush (v := 9) X dX9_trust_17 rfl ?_
      refine u_icmp_le 24 X dX9_trust_19 rfl (fun hc => ?_) (fun hc => ?_)
      · rw [if_pos hc] at h
        refine u_iload_n X hl dX9_trust_24 1 rfl ?_
        refine u_iload_n X hl dX9_trust_25 2 rfl ?_
        refine u_callSi X hP hS hl dX9_trust_26 (cHouse_pairOf l z a0 a1) cw_X9_116 rfl rfl rfl rfl ⟨rfl, rfl⟩ (fun H locs hP hS => ?_)
        refine u_istore [(4, .int (fHouse_pairOf a0 a1)), (0, .ref (ad 0)), (1, .int a0), (2, .int a1), (3, .int a2)] X hl dX9_trust_29 (Nat.le_of_ble_eq_true rfl) rfl (fun ls hl => ?_)
        refine u_aload_n X hl dX9_trust_31 1 rfl ?_
        refine gf_X9_10_0 X hP dX9_trust_32 ?_
        refine gf_X9_120_1 X hP dX9_trust_35 ?_
        refine u_iload X hl dX9_trust_38 0 rfl ?_
        obtain ⟨hin, h⟩ := ifn_inv h
        refine ld_4 X hP rfl hin dX9_trust_40 ?_
        refine u_istore [(5, .int (gI z 4 (fHouse_pairOf a0 a1).toNatClampNeg)), (4, .int (fHouse_pairOf a0 a1)), (0, .ref (ad 0)), (1, .int a0), (2, .int a1), (3, .int a2)] X hl dX9_trust_41 (Nat.le_of_ble_eq_true rfl) rfl (fun ls hl => ?_)
        refine u_aload_n X hl dX9_trust_43 2 rfl ?_
        refine gf_X9_10_0 X hP dX9_trust_44 ?_
        refine gf_X9_120_1 X hP dX9_trust_47 ?_
        refine u_iload X hl dX9_trust_50 1 rfl ?_
        refine u_iload_n X hl dX9_trust_52 5 rfl ?_
        obtain ⟨hin, h⟩ := ifn_inv h
        refine as_4 X hP hS rfl hin dX9_trust_53 (fun H locs hP hS => ?_)
        refine u_iload X hl dX9_trust_54 0 rfl ?_
        exact u_iretM X hr hret h hP hS dX9_trust_56
      · rw [if_neg hc] at h
        refine u_iconst (v := (-1)) X dX9_trust_22 rfl ?_
        exact u_iretM X hr hret h hP hS dX9_trust_23
def fT_isDay (a0 : Int32) : Int32 :=
  if a0 < 0 then 0 else (if 10 ≤ a0 then 0 else 1)
theorem fT_isDay_b (a0 : Int32) : fT_isDay a0 = 0 ∨ fT_isDay a0 = 1 := by
  unfold fT_isDay
  (repeat' split) <;> first | with_reducible exact Or.inl rfl | with_reducible exact Or.inr rfl
set_option maxRecDepth 4000 in
theorem cT_isDay (l : Launch) (z : MS) (a0 : Int32) : CT l yX9_isDay cX9_isDay 1 (some .boolean) 0 0 (fun ad sd => [.int a0]) z (some (.int (fT_isDay a0))) z := by
  generalize h : fT_isDay a0 = r
  rw [fT_isDay] at h
  refine u_start RX9 rfl (by decide) (fun _ _ => Nat.le_of_ble_eq_true rfl) (fun p e s m args below meth c R D ad cs sd A Q ls X hP hS hl hr hret => ?_)
  have hl : lv_has ls 1 [(0, .int a0)] := hl
  refine u_iload_n X hl dX9_isDay_0 0 rfl ?_
  refine u_if_lt 14 X dX9_isDay_1 rfl (fun hc => ?_) (fun hc => ?_)
  · rw [if_pos hc] at h
    refine u_iconst (v := 0) X dX9_isDay_14 rfl ?_
    exact u_zretT X hr hret h hP hS (Or.inl rfl) dX9_isDay_15
  · rw [if_neg hc] at h
    refine u_iload_n X hl dX9_isDay_4 0 rfl ?_
    refine u_bipush (v := 10) X dX9_isDay_5 rfl ?_
    refine u_icmp_ge 14 X dX9_isDay_7 rfl (fun hc => ?_) (fun hc => ?_)
    · rw [if_pos hc] at h
      refine u_iconst (v := 0) X dX9_isDay_14 rfl ?_
      exact u_zretT X hr hret h hP hS (Or.inl rfl) dX9_isDay_15
    · rw [if_neg hc] at h
      refine u_iconst (v := 1) X dX9_isDay_10 rfl ?_
      refine u_goto 15 X dX9_isDay_11 rfl ?_
      exact u_zretT X hr hret h hP hS (Or.inr rfl) dX9_isDay_15
def fT_away (z : MS) (a0 : Int32) (a1 : Int32) (a2 : Int32) : Option (Int32 × MS) :=
  if (fHouse_isPerson z a0) = 0 then some ((-1), z) else (if (fT_isDay a1) = 0 then some ((-1), z) else ob2 (fHouse_setAway z a0 a1 a2) (fun w25 zc25 => some (w25, zc25)))
set_option maxRecDepth 4000 in
theorem cT_away (l : Launch) {z : MS} {a0 : Int32} {a1 : Int32} {a2 : Int32} {r : Int32} {z1 : MS} (h : fT_away z a0 a1 a2 = some (r, z1)) : CT l yX9_away cX9_away 4 (some .int) 2 45 (fun ad sd => [.ref (ad 0), .int a0, .int a1, .int a2]) z (some (.int r)) z1 := by
  rw [fT_away] at h
  refine u_start RX9 rfl (by decide) (fun _ _ => Nat.le_of_ble_eq_true rfl) (fun p e s m args below meth c R D ad cs sd A Q ls X hP hS hl hr hret => ?_)
  have hl : lv_has ls 4 [(0, .ref (ad 0)), (1, .int a0), (2, .int a1), (3, .int a2)] := hl
  refine u_aload_n X hl dX9_away_0 0 rfl ?_
  refine gf_X9_10_0 X hP dX9_away_1 ?_
  refine u_iload_n X hl dX9_away_4 1 rfl ?_
  refine u_callVi X hP hS hl dX9_away_5 (cHouse_isPerson l z a0) cw_X9_124 io_1 rfl rfl rfl rfl ⟨rfl, rfl⟩ (fun H locs hP hS => ?_)
  refine u_if_eq 31 X dX9_away_8 rfl (fun hc => ?_) (fun hc => ?_)
  · rw [if_pos hc] at h
    refine u_iconst (v := (-1)) X dX9_away_31 rfl ?_
    exact u_iretM X hr hret h hP hS dX9_away_32
  · rw [if_neg hc] at h
    refine u_iload_n X hl dX9_away_11 2 rfl ?_
    refine u_callSi X hP hS hl dX9_away_12 (cT_isDay l z a1) cw_X9_128 rfl rfl rfl rfl ⟨rfl, rfl⟩ (fun H locs hP hS => ?_)
    refine u_if_eq 31 X dX9_away_15 rfl (fun hc => ?_) (fun hc => ?_)
    · rw [if_pos hc] at h
      refine u_iconst (v := (-1)) X dX9_away_31 rfl ?_
      exact u_iretM X hr hret h hP hS dX9_away_32
    · rw [if_neg hc] at h
      refine u_aload_n X hl dX9_away_18 0 rfl ?_
      refine gf_X9_10_0 X hP dX9_away_19 ?_
      refine u_iload_n X hl dX9_away_22 1 rfl ?_
      refine u_iload_n X hl dX9_away_23 2 rfl ?_
      refine u_iload_n X hl dX9_away_24 3 rfl ?_
      obtain ⟨w25, zc25, hc25, h⟩ := ob2_inv h
      refine u_callVi X hP hS hl dX9_away_25 (cHouse_setAway l hc25) cw_X9_131 io_1 rfl rfl rfl rfl ⟨rfl, rfl⟩ (fun H locs hP hS => ?_)
      refine u_goto 32 X dX9_away_28 rfl ?_
      exact u_iretM X hr hret h hP hS dX9_away_32
def fT_set (z : MS) (a0 : Int32) (a1 : Int32) : Option (Int32 × MS) :=
  if a0 < 0 then some ((-1), z) else (if 8 ≤ a0 then some ((-1), z) else (if a1 < 0 then some ((-1), z) else (if a0 < 0 ∨ 8 ≤ a0.toNatClampNeg then none else if a1 ≤ (cST1.getD a0.toNatClampNeg 0) then (if a0 < 0 ∨ 8 ≤ a0.toNatClampNeg then none else if a0 < 0 ∨ 8 ≤ a0.toNatClampNeg then none else some (gI z 5 a0.toNatClampNeg, pI z 5 a0.toNatClampNeg a1)) else some ((-1), z))))
set_option maxRecDepth 4000 in
theorem cT_set (l : Launch) {z : MS} {a0 : Int32} {a1 : Int32} {r : Int32} {z1 : MS} (h : fT_set z a0 a1 = some (r, z1)) : CT l yX9_set cX9_set 4 (some .int) 0 0 (fun ad sd => [.ref (ad 0), .int a0, .int a1]) z (some (.int r)) z1 := by
  rw [fT_set] at h
  refine u_start RX9 rfl (by decide) (fun _ _ => Nat.le_of_ble_eq_true rfl) (fun p e s m args below meth c R D ad cs sd A Q ls X hP hS hl hr hret => ?_)
  have hl : lv_has ls 4 [(0, .ref (ad 0)), (1, .int a0), (2, .int a1)] := hl
  refine u_iload_n X hl dX9_set_0 1 rfl ?_
  refine u_if_lt 23 X dX9_set_1 rfl (fun hc => ?_) (fun hc => ?_)
  · rw [if_pos hc] at h
    refine u_iconst (v := (-1)) X dX9_set_23 rfl ?_
    exact u_iretM X hr hret h hP hS dX9_set_24
  · rw [if_neg hc] at h
    refine u_iload_n X hl dX9_set_4 1 rfl ?_
    refine u_bipush (v := 8) X dX9_set_5 rfl ?_
    refine u_icmp_ge 23 X dX9_set_7 rfl (fun hc => ?_) (fun hc => ?_)
    · rw [if_pos hc] at h
      refine u_iconst (v := (-1)) X dX9_set_23 rfl ?_
      exact u_iretM X hr hret h hP hS dX9_set_24
    · rw [if_neg hc] at h
      refine u_iload_n X hl dX9_set_10 2 rfl ?_
      refine u_if_lt 23 X dX9_set_11 rfl (fun hc => ?_) (fun hc => ?_)
      · rw [if_pos hc] at h
        refine u_iconst (v := (-1)) X dX9_set_23 rfl ?_
        exact u_iretM X hr hret h hP hS dX9_set_24
      · rw [if_neg hc] at h
        refine u_iload_n X hl dX9_set_14 2 rfl ?_
        refine gs_X9_134 X hS dX9_set_15 ?_
        refine u_iload_n X hl dX9_set_18 1 rfl ?_
        obtain ⟨hin, h⟩ := ifn_inv h
        refine u_tald1 X hS hin dX9_set_19 ?_
        refine u_icmp_le 25 X dX9_set_20 rfl (fun hc => ?_) (fun hc => ?_)
        · rw [if_pos hc] at h
          refine u_aload_n X hl dX9_set_25 0 rfl ?_
          refine gf_X9_10_0 X hP dX9_set_26 ?_
          refine gf_X9_137_1 X hP dX9_set_29 ?_
          refine u_iload_n X hl dX9_set_32 1 rfl ?_
          obtain ⟨hin, h⟩ := ifn_inv h
          refine ld_5 X hP rfl hin dX9_set_33 ?_
          refine u_istore_n [(3, .int (gI z 5 a0.toNatClampNeg)), (0, .ref (ad 0)), (1, .int a0), (2, .int a1)] X hl dX9_set_34 (Nat.le_of_ble_eq_true rfl) rfl (fun ls hl => ?_)
          refine u_aload_n X hl dX9_set_35 1 rfl ?_
          refine gf_X9_10_0 X hP dX9_set_36 ?_
          refine gf_X9_137_1 X hP dX9_set_39 ?_
          refine u_iload_n X hl dX9_set_42 2 rfl ?_
          refine u_iload_n X hl dX9_set_43 3 rfl ?_
          obtain ⟨hin, h⟩ := ifn_inv h
          refine as_5 X hP hS rfl hin dX9_set_44 (fun H locs hP hS => ?_)
          refine u_iload_n X hl dX9_set_45 0 rfl ?_
          exact u_iretM X hr hret h hP hS dX9_set_46
        · rw [if_neg hc] at h
          refine u_iconst (v := (-1)) X dX9_set_23 rfl ?_
          exact u_iretM X hr hret h hP hS dX9_set_24
def fT_law (z : MS) (a0 : Int32) : Option Int32 :=
  if a0 < 0 then some (-1) else (if a0 < 8 then (if a0 < 0 ∨ 8 ≤ a0.toNatClampNeg then none else some (gI z 5 a0.toNatClampNeg)) else some (-1))
set_option maxRecDepth 4000 in
theorem cT_law (l : Launch) {z : MS} {a0 : Int32} {r : Int32} (h : fT_law z a0 = some r) : CT l yX9_law cX9_law 2 (some .int) 0 0 (fun ad sd => [.ref (ad 0), .int a0]) z (some (.int r)) z := by
  rw [fT_law] at h
  refine u_start RX9 rfl (by decide) (fun _ _ => Nat.le_of_ble_eq_true rfl) (fun p e s m args below meth c R D ad cs sd A Q ls X hP hS hl hr hret => ?_)
  have hl : lv_has ls 2 [(0, .ref (ad 0)), (1, .int a0)] := hl
  refine u_iload_n X hl dX9_law_0 1 rfl ?_
  refine u_if_lt 10 X dX9_law_1 rfl (fun hc => ?_) (fun hc => ?_)
  · rw [if_pos hc] at h
    refine u_iconst (v := (-1)) X dX9_law_10 rfl ?_
    refine u_goto 23 X dX9_law_11 rfl ?_
    exact u_iretP X hr hret h hP hS dX9_law_23
  · rw [if_neg hc] at h
    refine u_iload_n X hl dX9_law_4 1 rfl ?_
    refine u_bipush (v := 8) X dX9_law_5 rfl ?_
    refine u_icmp_lt 14 X dX9_law_7 rfl (fun hc => ?_) (fun hc => ?_)
    · rw [if_pos hc] at h
      refine u_aload_n X hl dX9_law_14 0 rfl ?_
      refine gf_X9_10_0 X hP dX9_law_15 ?_
      refine gf_X9_137_1 X hP dX9_law_18 ?_
      refine u_iload_n X hl dX9_law_21 1 rfl ?_
      obtain ⟨hin, h⟩ := ifn_inv h
      refine ld_5 X hP rfl hin dX9_law_22 ?_
      exact u_iretP X hr hret h hP hS dX9_law_23
    · rw [if_neg hc] at h
      refine u_iconst (v := (-1)) X dX9_law_10 rfl ?_
      refine u_goto 23 X dX9_law_11 rfl ?_
      exact u_iretP X hr hret h hP hS dX9_law_23
def fT_isPost (a0 : Int32) : Int32 :=
  if a0 < 0 then 0 else (if 4 ≤ a0 then 0 else 1)
theorem fT_isPost_b (a0 : Int32) : fT_isPost a0 = 0 ∨ fT_isPost a0 = 1 := by
  unfold fT_isPost
  (repeat' split) <;> first | with_reducible exact Or.inl rfl | with_reducible exact Or.inr rfl
set_option maxRecDepth 4000 in
theorem cT_isPost (l : Launch) (z : MS) (a0 : Int32) : CT l yX9_isPost cX9_isPost 1 (some .boolean) 0 0 (fun ad sd => [.int a0]) z (some (.int (fT_isPost a0))) z := by
  generalize h : fT_isPost a0 = r
  rw [fT_isPost] at h
  refine u_start RX9 rfl (by decide) (fun _ _ => Nat.le_of_ble_eq_true rfl) (fun p e s m args below meth c R D ad cs sd A Q ls X hP hS hl hr hret => ?_)
  have hl : lv_has ls 1 [(0, .int a0)] := hl
  refine u_iload_n X hl dX9_isPost_0 0 rfl ?_
  refine u_if_lt 13 X dX9_isPost_1 rfl (fun hc => ?_) (fun hc => ?_)
  · rw [if_pos hc] at h
    refine u_iconst (v := 0) X dX9_isPost_13 rfl ?_
    exact u_zretT X hr hret h hP hS (Or.inl rfl) dX9_isPost_14
  · rw [if_neg hc] at h
    refine u_iload_n X hl dX9_isPost_4 0 rfl ?_
    refine u_iconst (v := 4) X dX9_isPost_5 rfl ?_
    refine u_icmp_ge 13 X dX9_isPost_6 rfl (fun hc => ?_) (fun hc => ?_)
    · rw [if_pos hc] at h
      refine u_iconst (v := 0) X dX9_isPost_13 rfl ?_
      exact u_zretT X hr hret h hP hS (Or.inl rfl) dX9_isPost_14
    · rw [if_neg hc] at h
      refine u_iconst (v := 1) X dX9_isPost_9 rfl ?_
      refine u_goto 14 X dX9_isPost_10 rfl ?_
      exact u_zretT X hr hret h hP hS (Or.inr rfl) dX9_isPost_14
def fT_post_J32 (z : MS) (l1 : Int32) (l2 : Int32) (l3 : Int32) : Option (Int32 × MS) :=
  Option.bind (fHouse_at z l1 l2) (fun w38 => Option.bind (fHouse_seat z l1 l2 l3) (fun zc50 => if w38 = (-1) then some ((-9), zc50) else some (w38, zc50)))
def fT_post (z : MS) (a0 : Int32) (a1 : Int32) (a2 : Int32) : Option (Int32 × MS) :=
  if (fT_isDay a0) = 0 then some ((-1), z) else (if (fT_isPost a1) = 0 then some ((-1), z) else (if a2 = (-1) then fT_post_J32 z a0 a1 a2 else (if (fHouse_isPerson z a2) = 0 then some ((-1), z) else fT_post_J32 z a0 a1 a2)))
set_option maxRecDepth 4000 in
theorem cT_post (l : Launch) {z : MS} {a0 : Int32} {a1 : Int32} {a2 : Int32} {r : Int32} {z1 : MS} (h : fT_post z a0 a1 a2 = some (r, z1)) : CT l yX9_post cX9_post 5 (some .int) 1 23 (fun ad sd => [.ref (ad 0), .int a0, .int a1, .int a2]) z (some (.int r)) z1 := by
  rw [fT_post] at h
  refine u_start RX9 rfl (by decide) (fun _ _ => Nat.le_of_ble_eq_true rfl) (fun p e s m args below meth c R D ad cs sd A Q ls X hP hS hl hr hret => ?_)
  have hl : lv_has ls 5 [(0, .ref (ad 0)), (1, .int a0), (2, .int a1), (3, .int a2)] := hl
  refine u_iload_n X hl dX9_post_0 1 rfl ?_
  refine u_callSi X hP hS hl dX9_post_1 (cT_isDay l z a0) cw_X9_128 rfl rfl rfl rfl ⟨rfl, rfl⟩ (fun H locs hP hS => ?_)
  refine u_if_eq 30 X dX9_post_4 rfl (fun hc => ?_) (fun hc => ?_)
  · rw [if_pos hc] at h
    refine u_iconst (v := (-1)) X dX9_post_30 rfl ?_
    exact u_iretM X hr hret h hP hS dX9_post_31
  · rw [if_neg hc] at h
    refine u_iload_n X hl dX9_post_7 2 rfl ?_
    refine u_callSi X hP hS hl dX9_post_8 (cT_isPost l z a1) cw_X9_140 rfl rfl rfl rfl ⟨rfl, rfl⟩ (fun H locs hP hS => ?_)
    refine u_if_eq 30 X dX9_post_11 rfl (fun hc => ?_) (fun hc => ?_)
    · rw [if_pos hc] at h
      refine u_iconst (v := (-1)) X dX9_post_30 rfl ?_
      exact u_iretM X hr hret h hP hS dX9_post_31
    · rw [if_neg hc] at h
      refine u_iload_n X hl dX9_post_14 3 rfl ?_
      refine u_iconst (v := (-1)) X dX9_post_15 rfl ?_
      have J32 : ∀ (H : Heap) (locs : List Loc) (ls : Array Slot), lv_has ls 5 [(0, .ref (ad 0)), (1, .int a0), (2, .int a1), (3, .int a2)] → va_P D clss (wld cs ad z) H → va_S A s.heap H locs → fT_post_J32 z a0 a1 a2 = some (r, z1) → W p l e R s m args below meth c H locs 0 0 Q (F0 m 32 ls []) := by
        intro H locs ls hl hP hS h
        rw [fT_post_J32] at h
        refine u_aload_n X hl dX9_post_32 0 rfl ?_
        refine gf_X9_10_0 X hP dX9_post_33 ?_
        refine u_iload_n X hl dX9_post_36 1 rfl ?_
        refine u_iload_n X hl dX9_post_37 2 rfl ?_
        obtain ⟨w38, hc38, h⟩ := ob_inv h
        refine u_callVi X hP hS hl dX9_post_38 (cHouse_at l hc38) cw_X9_143 io_1 rfl rfl rfl rfl ⟨rfl, rfl⟩ (fun H locs hP hS => ?_)
        refine u_istore [(4, .int w38), (0, .ref (ad 0)), (1, .int a0), (2, .int a1), (3, .int a2)] X hl dX9_post_41 (Nat.le_of_ble_eq_true rfl) rfl (fun ls hl => ?_)
        refine u_aload_n X hl dX9_post_43 1 rfl ?_
        refine gf_X9_10_0 X hP dX9_post_44 ?_
        refine u_iload_n X hl dX9_post_47 2 rfl ?_
        refine u_iload_n X hl dX9_post_48 3 rfl ?_
        refine u_iload_n X hl dX9_post_49 4 rfl ?_
        obtain ⟨zc50, hc50, h⟩ := ob_inv h
        refine u_callVv X hP hS hl dX9_post_50 (cHouse_seat l hc50) cw_X9_146 io_1 rfl rfl rfl rfl ⟨rfl, rfl⟩ (fun H locs hP hS => ?_)
        refine u_iload X hl dX9_post_53 0 rfl ?_
        refine u_iconst (v := (-1)) X dX9_post_55 rfl ?_
        refine u_icmp_ne 64 X dX9_post_56 rfl (fun hc => ?_) (fun hc => ?_)
        · rw [if_neg hc] at h
          refine u_iload X hl dX9_post_64 0 rfl ?_
          exact u_iretM X hr hret h hP hS dX9_post_66
        · rw [if_pos hc] at h
          refine u_bipush (v := (-9)) X dX9_post_59 rfl ?_
          refine u_goto 66 X dX9_post_61 rfl ?_
          exact u_iretM X hr hret h hP hS dX9_post_66
      refine u_icmp_eq 32 X dX9_post_16 rfl (fun hc => ?_) (fun hc => ?_)
      · rw [if_pos hc] at h
        exact J32 _ _ _ hl hP hS h
      · rw [if_neg hc] at h
        refine u_aload_n X hl dX9_post_19 0 rfl ?_
        refine gf_X9_10_0 X hP dX9_post_20 ?_
        refine u_iload_n X hl dX9_post_23 3 rfl ?_
        refine u_callVi X hP hS hl dX9_post_24 (cHouse_isPerson l z a2) cw_X9_124 io_1 rfl rfl rfl rfl ⟨rfl, rfl⟩ (fun H locs hP hS => ?_)
        refine u_if_ne 32 X dX9_post_27 rfl (fun hc => ?_) (fun hc => ?_)
        · rw [if_neg hc] at h
          exact J32 _ _ _ hl hP hS h
        · rw [if_pos hc] at h
          refine u_iconst (v := (-1)) X dX9_post_30 rfl ?_
          exact u_iretM X hr hret h hP hS dX9_post_31
def fT_postOf (z : MS) (a0 : Int32) (a1 : Int32) : Option Int32 :=
  if (fT_isDay a0) = 0 then some (-1) else (if (fT_isPost a1) = 0 then some (-1) else Option.bind (fHouse_at z a0 a1) (fun w22 => if w22 = (-1) then some (-9) else some w22))
set_option maxRecDepth 4000 in
theorem cT_postOf (l : Launch) {z : MS} {a0 : Int32} {a1 : Int32} {r : Int32} (h : fT_postOf z a0 a1 = some r) : CT l yX9_postOf cX9_postOf 4 (some .int) 1 22 (fun ad sd => [.ref (ad 0), .int a0, .int a1]) z (some (.int r)) z := by
  rw [fT_postOf] at h
  refine u_start RX9 rfl (by decide) (fun _ _ => Nat.le_of_ble_eq_true rfl) (fun p e s m args below meth c R D ad cs sd A Q ls X hP hS hl hr hret => ?_)
  have hl : lv_has ls 4 [(0, .ref (ad 0)), (1, .int a0), (2, .int a1)] := hl
  refine u_iload_n X hl dX9_postOf_0 1 rfl ?_
  refine u_callSi X hP hS hl dX9_postOf_1 (cT_isDay l z a0) cw_X9_128 rfl rfl rfl rfl ⟨rfl, rfl⟩ (fun H locs hP hS => ?_)
  refine u_if_eq 14 X dX9_postOf_4 rfl (fun hc => ?_) (fun hc => ?_)
  · rw [if_pos hc] at h
    refine u_iconst (v := (-1)) X dX9_postOf_14 rfl ?_
    exact u_iretP X hr hret h hP hS dX9_postOf_15
  · rw [if_neg hc] at h
    refine u_iload_n X hl dX9_postOf_7 2 rfl ?_
    refine u_callSi X hP hS hl dX9_postOf_8 (cT_isPost l z a1) cw_X9_140 rfl rfl rfl rfl ⟨rfl, rfl⟩ (fun H locs hP hS => ?_)
    refine u_if_ne 16 X dX9_postOf_11 rfl (fun hc => ?_) (fun hc => ?_)
    · rw [if_neg hc] at h
      refine u_aload_n X hl dX9_postOf_16 0 rfl ?_
      refine gf_X9_10_0 X hP dX9_postOf_17 ?_
      refine u_iload_n X hl dX9_postOf_20 1 rfl ?_
      refine u_iload_n X hl dX9_postOf_21 2 rfl ?_
      obtain ⟨w22, hc22, h⟩ := ob_inv h
      refine u_callVi X hP hS hl dX9_postOf_22 (cHouse_at l hc22) cw_X9_143 io_1 rfl rfl rfl rfl ⟨rfl, rfl⟩ (fun H locs hP hS => ?_)
      refine u_istore_n [(3, .int w22), (0, .ref (ad 0)), (1, .int a0), (2, .int a1)] X hl dX9_postOf_25 (Nat.le_of_ble_eq_true rfl) rfl (fun ls hl => ?_)
      refine u_iload_n X hl dX9_postOf_26 0 rfl ?_
      refine u_iconst (v := (-1)) X dX9_postOf_27 rfl ?_
      refine u_icmp_ne 36 X dX9_postOf_28 rfl (fun hc => ?_) (fun hc => ?_)
      · rw [if_neg hc] at h
        refine u_iload_n X hl dX9_postOf_36 0 rfl ?_
        exact u_iretP X hr hret h hP hS dX9_postOf_37
      · rw [if_pos hc] at h
        refine u_bipush (v := (-9)) X dX9_postOf_31 rfl ?_
        refine u_goto 37 X dX9_postOf_33 rfl ?_
        exact u_iretP X hr hret h hP hS dX9_postOf_37
    · rw [if_pos hc] at h
      refine u_iconst (v := (-1)) X dX9_postOf_14 rfl ?_
      exact u_iretP X hr hret h hP hS dX9_postOf_15
def fT_surprise (z : MS) (a0 : Int32) (a1 : Int32) : Option (Int32 × MS) :=
  if (fT_isDay a0) = 0 then some ((-1), z) else ob2 (fHouse_setSurprise z a0 a1) (fun w13 zc13 => some (w13, zc13))
set_option maxRecDepth 4000 in
theorem cT_surprise (l : Launch) {z : MS} {a0 : Int32} {a1 : Int32} {r : Int32} {z1 : MS} (h : fT_surprise z a0 a1 = some (r, z1)) : CT l yX9_surprise cX9_surprise 3 (some .int) 2 43 (fun ad sd => [.ref (ad 0), .int a0, .int a1]) z (some (.int r)) z1 := by
  rw [fT_surprise] at h
  refine u_start RX9 rfl (by decide) (fun _ _ => Nat.le_of_ble_eq_true rfl) (fun p e s m args below meth c R D ad cs sd A Q ls X hP hS hl hr hret => ?_)
  have hl : lv_has ls 3 [(0, .ref (ad 0)), (1, .int a0), (2, .int a1)] := hl
  refine u_iload_n X hl dX9_surprise_0 1 rfl ?_
  refine u_callSi X hP hS hl dX9_surprise_1 (cT_isDay l z a0) cw_X9_128 rfl rfl rfl rfl ⟨rfl, rfl⟩ (fun H locs hP hS => ?_)
  refine u_if_eq 19 X dX9_surprise_4 rfl (fun hc => ?_) (fun hc => ?_)
  · rw [if_pos hc] at h
    refine u_iconst (v := (-1)) X dX9_surprise_19 rfl ?_
    exact u_iretM X hr hret h hP hS dX9_surprise_20
  · rw [if_neg hc] at h
    refine u_aload_n X hl dX9_surprise_7 0 rfl ?_
    refine gf_X9_10_0 X hP dX9_surprise_8 ?_
    refine u_iload_n X hl dX9_surprise_11 1 rfl ?_
    refine u_iload_n X hl dX9_surprise_12 2 rfl ?_
    obtain ⟨w13, zc13, hc13, h⟩ := ob2_inv h
    refine u_callVi X hP hS hl dX9_surprise_13 (cHouse_setSurprise l hc13) cw_X9_150 io_1 rfl rfl rfl rfl ⟨rfl, rfl⟩ (fun H locs hP hS => ?_)
    refine u_goto 20 X dX9_surprise_16 rfl ?_
    exact u_iretM X hr hret h hP hS dX9_surprise_20
def fT_loss (z : MS) (a0 : Int32) (a1 : Int32) : Option (Int32 × MS) :=
  if (fT_isDay a0) = 0 then some ((-1), z) else (if a1 < 0 then some ((-1), z) else (if a1 ≤ 99 then (if a0 < 0 ∨ 10 ≤ a0.toNatClampNeg then none else if a0 < 0 ∨ 10 ≤ a0.toNatClampNeg then none else some (gI z 7 a0.toNatClampNeg, pI z 7 a0.toNatClampNeg a1)) else some ((-1), z)))
set_option maxRecDepth 4000 in
theorem cT_loss (l : Launch) {z : MS} {a0 : Int32} {a1 : Int32} {r : Int32} {z1 : MS} (h : fT_loss z a0 a1 = some (r, z1)) : CT l yX9_loss cX9_loss 4 (some .int) 1 20 (fun ad sd => [.ref (ad 0), .int a0, .int a1]) z (some (.int r)) z1 := by
  rw [fT_loss] at h
  refine u_start RX9 rfl (by decide) (fun _ _ => Nat.le_of_ble_eq_true rfl) (fun p e s m args below meth c R D ad cs sd A Q ls X hP hS hl hr hret => ?_)
  have hl : lv_has ls 4 [(0, .ref (ad 0)), (1, .int a0), (2, .int a1)] := hl
  refine u_iload_n X hl dX9_loss_0 1 rfl ?_
  refine u_callSi X hP hS hl dX9_loss_1 (cT_isDay l z a0) cw_X9_128 rfl rfl rfl rfl ⟨rfl, rfl⟩ (fun H locs hP hS => ?_)
  refine u_if_eq 17 X dX9_loss_4 rfl (fun hc => ?_) (fun hc => ?_)
  · rw [if_pos hc] at h
    refine u_iconst (v := (-1)) X dX9_loss_17 rfl ?_
    exact u_iretM X hr hret h hP hS dX9_loss_18
  · rw [if_neg hc] at h
    refine u_iload_n X hl dX9_loss_7 2 rfl ?_
    refine u_if_lt 17 X dX9_loss_8 rfl (fun hc => ?_) (fun hc => ?_)
    · rw [if_pos hc] at h
      refine u_iconst (v := (-1)) X dX9_loss_17 rfl ?_
      exact u_iretM X hr hret h hP hS dX9_loss_18
    · rw [if_neg hc] at h
      refine u_iload_n X hl dX9_loss_11 2 rfl ?_
      refine u_bipush (v := 99) X dX9_loss_12 rfl ?_
      refine u_icmp_le 19 X dX9_loss_14 rfl (fun hc => ?_) (fun hc => ?_)
      · rw [if_pos hc] at h
        refine u_aload_n X hl dX9_loss_19 0 rfl ?_
        refine gf_X9_10_0 X hP dX9_loss_20 ?_
        refine gf_X9_154_1 X hP dX9_loss_23 ?_
        refine u_iload_n X hl dX9_loss_26 1 rfl ?_
        obtain ⟨hin, h⟩ := ifn_inv h
        refine ld_7 X hP rfl hin dX9_loss_27 ?_
        refine u_istore_n [(3, .int (gI z 7 a0.toNatClampNeg)), (0, .ref (ad 0)), (1, .int a0), (2, .int a1)] X hl dX9_loss_28 (Nat.le_of_ble_eq_true rfl) rfl (fun ls hl => ?_)
        refine u_aload_n X hl dX9_loss_29 1 rfl ?_
        refine gf_X9_10_0 X hP dX9_loss_30 ?_
        refine gf_X9_154_1 X hP dX9_loss_33 ?_
        refine u_iload_n X hl dX9_loss_36 2 rfl ?_
        refine u_iload_n X hl dX9_loss_37 3 rfl ?_
        obtain ⟨hin, h⟩ := ifn_inv h
        refine as_7 X hP hS rfl hin dX9_loss_38 (fun H locs hP hS => ?_)
        refine u_iload_n X hl dX9_loss_39 0 rfl ?_
        exact u_iretM X hr hret h hP hS dX9_loss_40
      · rw [if_neg hc] at h
        refine u_iconst (v := (-1)) X dX9_loss_17 rfl ?_
        exact u_iretM X hr hret h hP hS dX9_loss_18
def fT_trustOn (z : MS) (a0 : Int32) (a1 : Int32) (a2 : Int32) : Option Int32 :=
  if (fHouse_areTwo z a0 a1) = 0 then some (-1) else (if (fT_isDay a2) = 0 then some (-1) else Option.bind (fJudge_trustOfPair z (fHouse_pairOf a0 a1) a2) (fun w29 => some w29))
set_option maxRecDepth 4000 in
theorem cT_trustOn (l : Launch) {z : MS} {a0 : Int32} {a1 : Int32} {a2 : Int32} {r : Int32} (h : fT_trustOn z a0 a1 a2 = some r) : CT l yX9_trustOn cX9_trustOn 4 (some .int) 3 69 (fun ad sd => [.ref (ad 0), .int a0, .int a1, .int a2]) z (some (.int r)) z := by
  rw [fT_trustOn] at h
  refine u_start RX9 rfl (by decide) (fun _ _ => Nat.le_of_ble_eq_true rfl) (fun p e s m args below meth c R D ad cs sd A Q ls X hP hS hl hr hret => ?_)
  have hl : lv_has ls 4 [(0, .ref (ad 0)), (1, .int a0), (2, .int a1), (3, .int a2)] := hl
  refine u_aload_n X hl dX9_trustOn_0 0 rfl ?_
  refine gf_X9_10_0 X hP dX9_trustOn_1 ?_
  refine u_iload_n X hl dX9_trustOn_4 1 rfl ?_
  refine u_iload_n X hl dX9_trustOn_5 2 rfl ?_
  refine u_callVi X hP hS hl dX9_trustOn_6 (cHouse_areTwo l z a0 a1) cw_X9_108 io_1 rfl rfl rfl rfl ⟨rfl, rfl⟩ (fun H locs hP hS => ?_)
  refine u_if_eq 35 X dX9_trustOn_9 rfl (fun hc => ?_) (fun hc => ?_)
  · rw [if_pos hc] at h
    refine u_iconst (v := (-1)) X dX9_trustOn_35 rfl ?_
    exact u_iretP X hr hret h hP hS dX9_trustOn_36
  · rw [if_neg hc] at h
    refine u_iload_n X hl dX9_trustOn_12 3 rfl ?_
    refine u_callSi X hP hS hl dX9_trustOn_13 (cT_isDay l z a2) cw_X9_128 rfl rfl rfl rfl ⟨rfl, rfl⟩ (fun H locs hP hS => ?_)
    refine u_if_eq 35 X dX9_trustOn_16 rfl (fun hc => ?_) (fun hc => ?_)
    · rw [if_pos hc] at h
      refine u_iconst (v := (-1)) X dX9_trustOn_35 rfl ?_
      exact u_iretP X hr hret h hP hS dX9_trustOn_36
    · rw [if_neg hc] at h
      refine u_aload_n X hl dX9_trustOn_19 0 rfl ?_
      refine gf_X9_28_0 X hP dX9_trustOn_20 ?_
      refine u_iload_n X hl dX9_trustOn_23 1 rfl ?_
      refine u_iload_n X hl dX9_trustOn_24 2 rfl ?_
      refine u_callSi X hP hS hl dX9_trustOn_25 (cHouse_pairOf l z a0 a1) cw_X9_116 rfl rfl rfl rfl ⟨rfl, rfl⟩ (fun H locs hP hS => ?_)
      refine u_iload_n X hl dX9_trustOn_28 3 rfl ?_
      obtain ⟨w29, hc29, h⟩ := ob_inv h
      refine u_callVi X hP hS hl dX9_trustOn_29 (cJudge_trustOfPair l hc29) cw_X9_157 io_17 rfl rfl rfl rfl ⟨rfl, rfl⟩ (fun H locs hP hS => ?_)
      refine u_goto 36 X dX9_trustOn_32 rfl ?_
      exact u_iretP X hr hret h hP hS dX9_trustOn_36
def fT_seen (z : MS) (a0 : Int32) : Option Int32 :=
  if (fT_isDay a0) = 0 then some (-1) else Option.bind (fHouse_pairOn z a0) (fun w14 => if w14 = (-1) then some (-3) else Option.bind (fJudge_seenOn z a0) (fun w31 => some w31))
set_option maxRecDepth 4000 in
theorem cT_seen (l : Launch) {z : MS} {a0 : Int32} {r : Int32} (h : fT_seen z a0 = some r) : CT l yX9_seen cX9_seen 2 (some .int) 3 70 (fun ad sd => [.ref (ad 0), .int a0]) z (some (.int r)) z := by
  rw [fT_seen] at h
  refine u_start RX9 rfl (by decide) (fun _ _ => Nat.le_of_ble_eq_true rfl) (fun p e s m args below meth c R D ad cs sd A Q ls X hP hS hl hr hret => ?_)
  have hl : lv_has ls 2 [(0, .ref (ad 0)), (1, .int a0)] := hl
  refine u_iload_n X hl dX9_seen_0 1 rfl ?_
  refine u_callSi X hP hS hl dX9_seen_1 (cT_isDay l z a0) cw_X9_128 rfl rfl rfl rfl ⟨rfl, rfl⟩ (fun H locs hP hS => ?_)
  refine u_if_ne 9 X dX9_seen_4 rfl (fun hc => ?_) (fun hc => ?_)
  · rw [if_neg hc] at h
    refine u_aload_n X hl dX9_seen_9 0 rfl ?_
    refine gf_X9_10_0 X hP dX9_seen_10 ?_
    refine u_iload_n X hl dX9_seen_13 1 rfl ?_
    obtain ⟨w14, hc14, h⟩ := ob_inv h
    refine u_callVi X hP hS hl dX9_seen_14 (cHouse_pairOn l hc14) cw_X9_160 io_1 rfl rfl rfl rfl ⟨rfl, rfl⟩ (fun H locs hP hS => ?_)
    refine u_iconst (v := (-1)) X dX9_seen_17 rfl ?_
    refine u_icmp_ne 26 X dX9_seen_18 rfl (fun hc => ?_) (fun hc => ?_)
    · rw [if_neg hc] at h
      refine u_aload_n X hl dX9_seen_26 0 rfl ?_
      refine gf_X9_28_0 X hP dX9_seen_27 ?_
      refine u_iload_n X hl dX9_seen_30 1 rfl ?_
      obtain ⟨w31, hc31, h⟩ := ob_inv h
      refine u_callVi X hP hS hl dX9_seen_31 (cJudge_seenOn l hc31) cw_X9_164 io_17 rfl rfl rfl rfl ⟨rfl, rfl⟩ (fun H locs hP hS => ?_)
      exact u_iretP X hr hret h hP hS dX9_seen_34
    · rw [if_pos hc] at h
      refine u_bipush (v := (-3)) X dX9_seen_21 rfl ?_
      refine u_goto 34 X dX9_seen_23 rfl ?_
      exact u_iretP X hr hret h hP hS dX9_seen_34
  · rw [if_pos hc] at h
    refine u_iconst (v := (-1)) X dX9_seen_7 rfl ?_
    exact u_iretP X hr hret h hP hS dX9_seen_8
def fT_worth (z : MS) (a0 : Int32) : Option Int32 :=
  if (fT_isDay a0) = 0 then some (-1) else Option.bind (fHouse_pairOn z a0) (fun w14 => if w14 = (-1) then some (-3) else Option.bind (fJudge_worthOn z a0) (fun w31 => some (w31 + 10000)))
set_option maxRecDepth 4000 in
theorem cT_worth (l : Launch) {z : MS} {a0 : Int32} {r : Int32} (h : fT_worth z a0 = some r) : CT l yX9_worth cX9_worth 2 (some .int) 5 114 (fun ad sd => [.ref (ad 0), .int a0]) z (some (.int r)) z := by
  rw [fT_worth] at h
  refine u_start RX9 rfl (by decide) (fun _ _ => Nat.le_of_ble_eq_true rfl) (fun p e s m args below meth c R D ad cs sd A Q ls X hP hS hl hr hret => ?_)
  have hl : lv_has ls 2 [(0, .ref (ad 0)), (1, .int a0)] := hl
  refine u_iload_n X hl dX9_worth_0 1 rfl ?_
  refine u_callSi X hP hS hl dX9_worth_1 (cT_isDay l z a0) cw_X9_128 rfl rfl rfl rfl ⟨rfl, rfl⟩ (fun H locs hP hS => ?_)
  refine u_if_ne 9 X dX9_worth_4 rfl (fun hc => ?_) (fun hc => ?_)
  · rw [if_neg hc] at h
    refine u_aload_n X hl dX9_worth_9 0 rfl ?_
    refine gf_X9_10_0 X hP dX9_worth_10 ?_
    refine u_iload_n X hl dX9_worth_13 1 rfl ?_
    obtain ⟨w14, hc14, h⟩ := ob_inv h
    refine u_callVi X hP hS hl dX9_worth_14 (cHouse_pairOn l hc14) cw_X9_160 io_1 rfl rfl rfl rfl ⟨rfl, rfl⟩ (fun H locs hP hS => ?_)
    refine u_iconst (v := (-1)) X dX9_worth_17 rfl ?_
    refine u_icmp_ne 26 X dX9_worth_18 rfl (fun hc => ?_) (fun hc => ?_)
    · rw [if_neg hc] at h
      refine u_aload_n X hl dX9_worth_26 0 rfl ?_
      refine gf_X9_28_0 X hP dX9_worth_27 ?_
      refine u_iload_n X hl dX9_worth_30 1 rfl ?_
      obtain ⟨w31, hc31, h⟩ := ob_inv h
      refine u_callVi X hP hS hl dX9_worth_31 (cJudge_worthOn l hc31) cw_X9_167 io_17 rfl rfl rfl rfl ⟨rfl, rfl⟩ (fun H locs hP hS => ?_)
      refine u_sipush (v := 10000) X dX9_worth_34 rfl ?_
      refine u_iadd X dX9_worth_37 ?_
      exact u_iretP X hr hret h hP hS dX9_worth_38
    · rw [if_pos hc] at h
      refine u_bipush (v := (-3)) X dX9_worth_21 rfl ?_
      refine u_goto 38 X dX9_worth_23 rfl ?_
      exact u_iretP X hr hret h hP hS dX9_worth_38
  · rw [if_pos hc] at h
    refine u_iconst (v := (-1)) X dX9_worth_7 rfl ?_
    exact u_iretP X hr hret h hP hS dX9_worth_8
def fT_pays (z : MS) : Option Int32 :=
  Option.bind (fJudge_payingDays z) (fun w4 => some w4)
set_option maxRecDepth 4000 in
theorem cT_pays (l : Launch) {z : MS} {r : Int32} (h : fT_pays z = some r) : CT l yX9_pays cX9_pays 1 (some .int) 7 157 (fun ad sd => [.ref (ad 0)]) z (some (.int r)) z := by
  rw [fT_pays] at h
  refine u_start RX9 rfl (by decide) (fun _ _ => Nat.le_of_ble_eq_true rfl) (fun p e s m args below meth c R D ad cs sd A Q ls X hP hS hl hr hret => ?_)
  have hl : lv_has ls 1 [(0, .ref (ad 0))] := hl
  refine u_aload_n X hl dX9_pays_0 0 rfl ?_
  refine gf_X9_28_0 X hP dX9_pays_1 ?_
  obtain ⟨w4, hc4, h⟩ := ob_inv h
  refine u_callVi X hP hS hl dX9_pays_4 (cJudge_payingDays l hc4) cw_X9_170 io_17 rfl rfl rfl rfl ⟨rfl, rfl⟩ (fun H locs hP hS => ?_)
  exact u_iretP X hr hret h hP hS dX9_pays_7
def fT_isPart (a0 : Int32) : Int32 :=
  if a0 = 0 then 1 else (if a0 = 1 then 1 else 0)
theorem fT_isPart_b (a0 : Int32) : fT_isPart a0 = 0 ∨ fT_isPart a0 = 1 := by
  unfold fT_isPart
  (repeat' split) <;> first | with_reducible exact Or.inl rfl | with_reducible exact Or.inr rfl
set_option maxRecDepth 4000 in
theorem cT_isPart (l : Launch) (z : MS) (a0 : Int32) : CT l yX9_isPart cX9_isPart 1 (some .boolean) 0 0 (fun ad sd => [.int a0]) z (some (.int (fT_isPart a0))) z := by
  generalize h : fT_isPart a0 = r
  rw [fT_isPart] at h
  refine u_start RX9 rfl (by decide) (fun _ _ => Nat.le_of_ble_eq_true rfl) (fun p e s m args below meth c R D ad cs sd A Q ls X hP hS hl hr hret => ?_)
  have hl : lv_has ls 1 [(0, .int a0)] := hl
  refine u_iload_n X hl dX9_isPart_0 0 rfl ?_
  refine u_if_eq 9 X dX9_isPart_1 rfl (fun hc => ?_) (fun hc => ?_)
  · rw [if_pos hc] at h
    refine u_iconst (v := 1) X dX9_isPart_9 rfl ?_
    refine u_goto 14 X dX9_isPart_10 rfl ?_
    exact u_zretT X hr hret h hP hS (Or.inr rfl) dX9_isPart_14
  · rw [if_neg hc] at h
    refine u_iload_n X hl dX9_isPart_4 0 rfl ?_
    refine u_iconst (v := 1) X dX9_isPart_5 rfl ?_
    refine u_icmp_ne 13 X dX9_isPart_6 rfl (fun hc => ?_) (fun hc => ?_)
    · rw [if_neg hc] at h
      refine u_iconst (v := 0) X dX9_isPart_13 rfl ?_
      exact u_zretT X hr hret h hP hS (Or.inl rfl) dX9_isPart_14
    · rw [if_pos hc] at h
      refine u_iconst (v := 1) X dX9_isPart_9 rfl ?_
      refine u_goto 14 X dX9_isPart_10 rfl ?_
      exact u_zretT X hr hret h hP hS (Or.inr rfl) dX9_isPart_14
def fT_best (z : MS) (a0 : Int32) (a1 : Int32) (a2 : Int32) : Option (Int64 × MS) :=
  if (fHouse_areTwo z a0 a1) = 0 then some ((-1), z) else (if (fT_isPart a2) = 0 then some ((-1), z) else Option.bind (fOdds_findBest z (fHouse_pairOf a0 a1)) (fun zc32 => if a2 = 0 then some (gJ zc32 18 2, zc32) else some (gJ zc32 18 3, zc32)))
set_option maxRecDepth 4000 in
theorem cT_best (l : Launch) {z : MS} {a0 : Int32} {a1 : Int32} {a2 : Int32} {r : Int64} {z1 : MS} (h : fT_best z a0 a1 a2 = some (r, z1)) : CT l yX9_best cX9_best 4 (some .long) 4 97 (fun ad sd => [.ref (ad 0), .int a0, .int a1, .int a2]) z (some (.long r)) z1 := by
  rw [fT_best] at h
  refine u_start RX9 rfl (by decide) (fun _ _ => Nat.le_of_ble_eq_true rfl) (fun p e s m args below meth c R D ad cs sd A Q ls X hP hS hl hr hret => ?_)
  have hl : lv_has ls 4 [(0, .ref (ad 0)), (1, .int a0), (2, .int a1), (3, .int a2)] := hl
  refine u_aload_n X hl dX9_best_0 0 rfl ?_
  refine gf_X9_10_0 X hP dX9_best_1 ?_
  refine u_iload_n X hl dX9_best_4 1 rfl ?_
  refine u_iload_n X hl dX9_best_5 2 rfl ?_
  refine u_callVi X hP hS hl dX9_best_6 (cHouse_areTwo l z a0 a1) cw_X9_108 io_1 rfl rfl rfl rfl ⟨rfl, rfl⟩ (fun H locs hP hS => ?_)
  refine u_if_eq 19 X dX9_best_9 rfl (fun hc => ?_) (fun hc => ?_)
  · rw [if_pos hc] at h
    refine u_ldc2 X kw_X9_176 dX9_best_19 ?_
    exact u_lretM X hr hret h hP hS dX9_best_22
  · rw [if_neg hc] at h
    refine u_iload_n X hl dX9_best_12 3 rfl ?_
    refine u_callSi X hP hS hl dX9_best_13 (cT_isPart l z a2) cw_X9_173 rfl rfl rfl rfl ⟨rfl, rfl⟩ (fun H locs hP hS => ?_)
    refine u_if_ne 23 X dX9_best_16 rfl (fun hc => ?_) (fun hc => ?_)
    · rw [if_neg hc] at h
      refine u_aload_n X hl dX9_best_23 0 rfl ?_
      refine gf_X9_37_0 X hP dX9_best_24 ?_
      refine u_iload_n X hl dX9_best_27 1 rfl ?_
      refine u_iload_n X hl dX9_best_28 2 rfl ?_
      refine u_callSi X hP hS hl dX9_best_29 (cHouse_pairOf l z a0 a1) cw_X9_116 rfl rfl rfl rfl ⟨rfl, rfl⟩ (fun H locs hP hS => ?_)
      obtain ⟨zc32, hc32, h⟩ := ob_inv h
      refine u_callVv X hP hS hl dX9_best_32 (cOdds_findBest l hc32) cw_X9_178 io_18 rfl rfl rfl rfl ⟨rfl, rfl⟩ (fun H locs hP hS => ?_)
      refine u_iload_n X hl dX9_best_35 3 rfl ?_
      refine u_if_ne 49 X dX9_best_36 rfl (fun hc => ?_) (fun hc => ?_)
      · rw [if_neg hc] at h
        refine u_aload_n X hl dX9_best_49 0 rfl ?_
        refine gf_X9_37_0 X hP dX9_best_50 ?_
        refine gf_X9_186_18 X hP dX9_best_53 ?_
        exact u_lretM X hr hret h hP hS dX9_best_56
      · rw [if_pos hc] at h
        refine u_aload_n X hl dX9_best_39 0 rfl ?_
        refine gf_X9_37_0 X hP dX9_best_40 ?_
        refine gf_X9_182_18 X hP dX9_best_43 ?_
        refine u_goto 56 X dX9_best_46 rfl ?_
        exact u_lretM X hr hret h hP hS dX9_best_56
    · rw [if_pos hc] at h
      refine u_ldc2 X kw_X9_176 dX9_best_19 ?_
      exact u_lretM X hr hret h hP hS dX9_best_22
def fT_enough (z : MS) : Option Int32 :=
  Option.bind (fJudge_leastTell z) (fun w4 => some w4)
set_option maxRecDepth 4000 in
theorem cT_enough (l : Launch) {z : MS} {r : Int32} (h : fT_enough z = some r) : CT l yX9_enough cX9_enough 1 (some .int) 7 158 (fun ad sd => [.ref (ad 0)]) z (some (.int r)) z := by
  rw [fT_enough] at h
  refine u_start RX9 rfl (by decide) (fun _ _ => Nat.le_of_ble_eq_true rfl) (fun p e s m args below meth c R D ad cs sd A Q ls X hP hS hl hr hret => ?_)
  have hl : lv_has ls 1 [(0, .ref (ad 0))] := hl
  refine u_aload_n X hl dX9_enough_0 0 rfl ?_
  refine gf_X9_28_0 X hP dX9_enough_1 ?_
  obtain ⟨w4, hc4, h⟩ := ob_inv h
  refine u_callVi X hP hS hl dX9_enough_4 (cJudge_leastTell l hc4) cw_X9_189 io_17 rfl rfl rfl rfl ⟨rfl, rfl⟩ (fun H locs hP hS => ?_)
  exact u_iretP X hr hret h hP hS dX9_enough_7
def fT_needed (z : MS) : Option Int32 :=
  Option.bind (fJudge_surprisesNeeded z) (fun w4 => some w4)
set_option maxRecDepth 4000 in
theorem cT_needed (l : Launch) {z : MS} {r : Int32} (h : fT_needed z = some r) : CT l yX9_needed cX9_needed 1 (some .int) 5 116 (fun ad sd => [.ref (ad 0)]) z (some (.int r)) z := by
  rw [fT_needed] at h
  refine u_start RX9 rfl (by decide) (fun _ _ => Nat.le_of_ble_eq_true rfl) (fun p e s m args below meth c R D ad cs sd A Q ls X hP hS hl hr hret => ?_)
  have hl : lv_has ls 1 [(0, .ref (ad 0))] := hl
  refine u_aload_n X hl dX9_needed_0 0 rfl ?_
  refine gf_X9_28_0 X hP dX9_needed_1 ?_
  obtain ⟨w4, hc4, h⟩ := ob_inv h
  refine u_callVi X hP hS hl dX9_needed_4 (cJudge_surprisesNeeded l hc4) cw_X9_192 io_17 rfl rfl rfl rfl ⟨rfl, rfl⟩ (fun H locs hP hS => ?_)
  exact u_iretP X hr hret h hP hS dX9_needed_7
def fT_broken (z : MS) (a0 : Int32) : Option Int32 :=
  if (fT_isDay a0) = 0 then some (-1) else Option.bind (fJudge_brokenOn z a0) (fun w12 => some w12)
set_option maxRecDepth 4000 in
theorem cT_broken (l : Launch) {z : MS} {a0 : Int32} {r : Int32} (h : fT_broken z a0 = some r) : CT l yX9_broken cX9_broken 2 (some .int) 5 115 (fun ad sd => [.ref (ad 0), .int a0]) z (some (.int r)) z := by
  rw [fT_broken] at h
  refine u_start RX9 rfl (by decide) (fun _ _ => Nat.le_of_ble_eq_true rfl) (fun p e s m args below meth c R D ad cs sd A Q ls X hP hS hl hr hret => ?_)
  have hl : lv_has ls 2 [(0, .ref (ad 0)), (1, .int a0)] := hl
  refine u_iload_n X hl dX9_broken_0 1 rfl ?_
  refine u_callSi X hP hS hl dX9_broken_1 (cT_isDay l z a0) cw_X9_128 rfl rfl rfl rfl ⟨rfl, rfl⟩ (fun H locs hP hS => ?_)
  refine u_if_eq 18 X dX9_broken_4 rfl (fun hc => ?_) (fun hc => ?_)
  · rw [if_pos hc] at h
    refine u_iconst (v := (-1)) X dX9_broken_18 rfl ?_
    exact u_iretP X hr hret h hP hS dX9_broken_19
  · rw [if_neg hc] at h
    refine u_aload_n X hl dX9_broken_7 0 rfl ?_
    refine gf_X9_28_0 X hP dX9_broken_8 ?_
    refine u_iload_n X hl dX9_broken_11 1 rfl ?_
    obtain ⟨w12, hc12, h⟩ := ob_inv h
    refine u_callVi X hP hS hl dX9_broken_12 (cJudge_brokenOn l hc12) cw_X9_195 io_17 rfl rfl rfl rfl ⟨rfl, rfl⟩ (fun H locs hP hS => ?_)
    refine u_goto 19 X dX9_broken_15 rfl ?_
    exact u_iretP X hr hret h hP hS dX9_broken_19
def fT_mended (z : MS) (a0 : Int32) (a1 : Int32) : Option (Int32 × MS) :=
  if (fT_isDay a0) = 0 then some ((-1), z) else (if a1 < 0 then some ((-1), z) else (if a1 ≤ 1 then ob2 (fWays_mend z a0) (fun w23 zc23 => if w23 = 0 then some ((-3), zc23) else (if a1 = 0 then some (gI zc23 19 5, zc23) else some (gI zc23 19 6, zc23))) else some ((-1), z)))
set_option maxRecDepth 4000 in
theorem cT_mended (l : Launch) {z : MS} {a0 : Int32} {a1 : Int32} {r : Int32} {z1 : MS} (h : fT_mended z a0 a1 = some (r, z1)) : CT l yX9_mended cX9_mended 3 (some .int) 5 127 (fun ad sd => [.ref (ad 0), .int a0, .int a1]) z (some (.int r)) z1 := by
  rw [fT_mended] at h
  refine u_start RX9 rfl (by decide) (fun _ _ => Nat.le_of_ble_eq_true rfl) (fun p e s m args below meth c R D ad cs sd A Q ls X hP hS hl hr hret => ?_)
  have hl : lv_has ls 3 [(0, .ref (ad 0)), (1, .int a0), (2, .int a1)] := hl
  refine u_iload_n X hl dX9_mended_0 1 rfl ?_
  refine u_callSi X hP hS hl dX9_mended_1 (cT_isDay l z a0) cw_X9_128 rfl rfl rfl rfl ⟨rfl, rfl⟩ (fun H locs hP hS => ?_)
  refine u_if_eq 16 X dX9_mended_4 rfl (fun hc => ?_) (fun hc => ?_)
  · rw [if_pos hc] at h
    refine u_iconst (v := (-1)) X dX9_mended_16 rfl ?_
    exact u_iretM X hr hret h hP hS dX9_mended_17
  · rw [if_neg hc] at h
    refine u_iload_n X hl dX9_mended_7 2 rfl ?_
    refine u_if_lt 16 X dX9_mended_8 rfl (fun hc => ?_) (fun hc => ?_)
    · rw [if_pos hc] at h
      refine u_iconst (v := (-1)) X dX9_mended_16 rfl ?_
      exact u_iretM X hr hret h hP hS dX9_mended_17
    · rw [if_neg hc] at h
      refine u_iload_n X hl dX9_mended_11 2 rfl ?_
      refine u_iconst (v := 1) X dX9_mended_12 rfl ?_
      refine u_icmp_le 18 X dX9_mended_13 rfl (fun hc => ?_) (fun hc => ?_)
      · rw [if_pos hc] at h
        refine u_aload_n X hl dX9_mended_18 0 rfl ?_
        refine gf_X9_44_0 X hP dX9_mended_19 ?_
        refine u_iload_n X hl dX9_mended_22 1 rfl ?_
        obtain ⟨w23, zc23, hc23, h⟩ := ob2_inv h
        refine u_callVi X hP hS hl dX9_mended_23 (cWays_mend l hc23) cw_X9_198 io_19 rfl rfl rfl rfl ⟨rfl, rfl⟩ (fun H locs hP hS => ?_)
        refine u_if_ne 32 X dX9_mended_26 rfl (fun hc => ?_) (fun hc => ?_)
        · rw [if_neg hc] at h
          refine u_iload_n X hl dX9_mended_32 2 rfl ?_
          refine u_if_ne 46 X dX9_mended_33 rfl (fun hc => ?_) (fun hc => ?_)
          · rw [if_neg hc] at h
            refine u_aload_n X hl dX9_mended_46 0 rfl ?_
            refine gf_X9_44_0 X hP dX9_mended_47 ?_
            refine gf_X9_204_19 X hP dX9_mended_50 ?_
            exact u_iretM X hr hret h hP hS dX9_mended_53
          · rw [if_pos hc] at h
            refine u_aload_n X hl dX9_mended_36 0 rfl ?_
            refine gf_X9_44_0 X hP dX9_mended_37 ?_
            refine gf_X9_201_19 X hP dX9_mended_40 ?_
            refine u_goto 53 X dX9_mended_43 rfl ?_
            exact u_iretM X hr hret h hP hS dX9_mended_53
        · rw [if_pos hc] at h
          refine u_bipush (v := (-3)) X dX9_mended_29 rfl ?_
          exact u_iretM X hr hret h hP hS dX9_mended_31
      · rw [if_neg hc] at h
        refine u_iconst (v := (-1)) X dX9_mended_16 rfl ?_
        exact u_iretM X hr hret h hP hS dX9_mended_17
def fT_ahead (z : MS) (a0 : Int32) (a1 : Int32) : Option (Int32 × MS) :=
  if (fT_isDay a0) = 0 then some ((-1), z) else (if a1 < 1 then some ((-1), z) else (if 3 < a1 then some ((-1), z) else (if (a0 + a1) ≤ 10 then ob2 (fWays_rowsAhead z a0 a1) (fun w35 zc35 => some (w35, zc35)) else some ((-1), z))))
set_option maxRecDepth 4000 in
theorem cT_ahead (l : Launch) {z : MS} {a0 : Int32} {a1 : Int32} {r : Int32} {z1 : MS} (h : fT_ahead z a0 a1 = some (r, z1)) : CT l yX9_ahead cX9_ahead 3 (some .int) 11 280 (fun ad sd => [.ref (ad 0), .int a0, .int a1]) z (some (.int r)) z1 := by
  rw [fT_ahead] at h
  refine u_start RX9 rfl (by decide) (fun _ _ => Nat.le_of_ble_eq_true rfl) (fun p e s m args below meth c R D ad cs sd A Q ls X hP hS hl hr hret => ?_)
  have hl : lv_has ls 3 [(0, .ref (ad 0)), (1, .int a0), (2, .int a1)] := hl
  refine u_iload_n X hl dX9_ahead_0 1 rfl ?_
  refine u_callSi X hP hS hl dX9_ahead_1 (cT_isDay l z a0) cw_X9_128 rfl rfl rfl rfl ⟨rfl, rfl⟩ (fun H locs hP hS => ?_)
  refine u_if_eq 25 X dX9_ahead_4 rfl (fun hc => ?_) (fun hc => ?_)
  · rw [if_pos hc] at h
    refine u_iconst (v := (-1)) X dX9_ahead_25 rfl ?_
    refine u_goto 38 X dX9_ahead_26 rfl ?_
    exact u_iretM X hr hret h hP hS dX9_ahead_38
  · rw [if_neg hc] at h
    refine u_iload_n X hl dX9_ahead_7 2 rfl ?_
    refine u_iconst (v := 1) X dX9_ahead_8 rfl ?_
    refine u_icmp_lt 25 X dX9_ahead_9 rfl (fun hc => ?_) (fun hc => ?_)
    · rw [if_pos hc] at h
      refine u_iconst (v := (-1)) X dX9_ahead_25 rfl ?_
      refine u_goto 38 X dX9_ahead_26 rfl ?_
      exact u_iretM X hr hret h hP hS dX9_ahead_38
    · rw [if_neg hc] at h
      refine u_iload_n X hl dX9_ahead_12 2 rfl ?_
      refine u_iconst (v := 3) X dX9_ahead_13 rfl ?_
      refine u_icmp_gt 25 X dX9_ahead_14 rfl (fun hc => ?_) (fun hc => ?_)
      · rw [if_pos hc] at h
        refine u_iconst (v := (-1)) X dX9_ahead_25 rfl ?_
        refine u_goto 38 X dX9_ahead_26 rfl ?_
        exact u_iretM X hr hret h hP hS dX9_ahead_38
      · rw [if_neg hc] at h
        refine u_iload_n X hl dX9_ahead_17 1 rfl ?_
        refine u_iload_n X hl dX9_ahead_18 2 rfl ?_
        refine u_iadd X dX9_ahead_19 ?_
        refine u_bipush (v := 10) X dX9_ahead_20 rfl ?_
        refine u_icmp_le 29 X dX9_ahead_22 rfl (fun hc => ?_) (fun hc => ?_)
        · rw [if_pos hc] at h
          refine u_aload_n X hl dX9_ahead_29 0 rfl ?_
          refine gf_X9_44_0 X hP dX9_ahead_30 ?_
          refine u_iload_n X hl dX9_ahead_33 1 rfl ?_
          refine u_iload_n X hl dX9_ahead_34 2 rfl ?_
          obtain ⟨w35, zc35, hc35, h⟩ := ob2_inv h
          refine u_callVi X hP hS hl dX9_ahead_35 (cWays_rowsAhead l hc35) cw_X9_207 io_19 rfl rfl rfl rfl ⟨rfl, rfl⟩ (fun H locs hP hS => ?_)
          exact u_iretM X hr hret h hP hS dX9_ahead_38
        · rw [if_neg hc] at h
          refine u_iconst (v := (-1)) X dX9_ahead_25 rfl ?_
          refine u_goto 38 X dX9_ahead_26 rfl ?_
          exact u_iretM X hr hret h hP hS dX9_ahead_38
def fT_lot (z : MS) (a0 : Int32) (a1 : Int32) (a2 : Int32) : Option (Int64 × MS) :=
  if (fHouse_areTwo z a0 a1) = 0 then some ((-1), z) else (if (fT_isPart a2) = 0 then some ((-1), z) else Option.bind (fOdds_findLot z (fHouse_pairOf a0 a1)) (fun zc32 => if a2 = 0 then some (gJ zc32 18 2, zc32) else some (gJ zc32 18 3, zc32)))
set_option maxRecDepth 4000 in
theorem cT_lot (l : Launch) {z : MS} {a0 : Int32} {a1 : Int32} {a2 : Int32} {r : Int64} {z1 : MS} (h : fT_lot z a0 a1 a2 = some (r, z1)) : CT l yX9_lot cX9_lot 4 (some .long) 4 93 (fun ad sd => [.ref (ad 0), .int a0, .int a1, .int a2]) z (some (.long r)) z1 := by
  rw [fT_lot] at h
  refine u_start RX9 rfl (by decide) (fun _ _ => Nat.le_of_ble_eq_true rfl) (fun p e s m args below meth c R D ad cs sd A Q ls X hP hS hl hr hret => ?_)
  have hl : lv_has ls 4 [(0, .ref (ad 0)), (1, .int a0), (2, .int a1), (3, .int a2)] := hl
  refine u_aload_n X hl dX9_lot_0 0 rfl ?_
  refine gf_X9_10_0 X hP dX9_lot_1 ?_
  refine u_iload_n X hl dX9_lot_4 1 rfl ?_
  refine u_iload_n X hl dX9_lot_5 2 rfl ?_
  refine u_callVi X hP hS hl dX9_lot_6 (cHouse_areTwo l z a0 a1) cw_X9_108 io_1 rfl rfl rfl rfl ⟨rfl, rfl⟩ (fun H locs hP hS => ?_)
  refine u_if_eq 19 X dX9_lot_9 rfl (fun hc => ?_) (fun hc => ?_)
  · rw [if_pos hc] at h
    refine u_ldc2 X kw_X9_176 dX9_lot_19 ?_
    exact u_lretM X hr hret h hP hS dX9_lot_22
  · rw [if_neg hc] at h
    refine u_iload_n X hl dX9_lot_12 3 rfl ?_
    refine u_callSi X hP hS hl dX9_lot_13 (cT_isPart l z a2) cw_X9_173 rfl rfl rfl rfl ⟨rfl, rfl⟩ (fun H locs hP hS => ?_)
    refine u_if_ne 23 X dX9_lot_16 rfl (fun hc => ?_) (fun hc => ?_)
    · rw [if_neg hc] at h
      refine u_aload_n X hl dX9_lot_23 0 rfl ?_
      refine gf_X9_37_0 X hP dX9_lot_24 ?_
      refine u_iload_n X hl dX9_lot_27 1 rfl ?_
      refine u_iload_n X hl dX9_lot_28 2 rfl ?_
      refine u_callSi X hP hS hl dX9_lot_29 (cHouse_pairOf l z a0 a1) cw_X9_116 rfl rfl rfl rfl ⟨rfl, rfl⟩ (fun H locs hP hS => ?_)
      obtain ⟨zc32, hc32, h⟩ := ob_inv h
      refine u_callVv X hP hS hl dX9_lot_32 (cOdds_findLot l hc32) cw_X9_210 io_18 rfl rfl rfl rfl ⟨rfl, rfl⟩ (fun H locs hP hS => ?_)
      refine u_iload_n X hl dX9_lot_35 3 rfl ?_
      refine u_if_ne 49 X dX9_lot_36 rfl (fun hc => ?_) (fun hc => ?_)
      · rw [if_neg hc] at h
        refine u_aload_n X hl dX9_lot_49 0 rfl ?_
        refine gf_X9_37_0 X hP dX9_lot_50 ?_
        refine gf_X9_186_18 X hP dX9_lot_53 ?_
        exact u_lretM X hr hret h hP hS dX9_lot_56
      · rw [if_pos hc] at h
        refine u_aload_n X hl dX9_lot_39 0 rfl ?_
        refine gf_X9_37_0 X hP dX9_lot_40 ?_
        refine gf_X9_182_18 X hP dX9_lot_43 ?_
        refine u_goto 56 X dX9_lot_46 rfl ?_
        exact u_lretM X hr hret h hP hS dX9_lot_56
    · rw [if_pos hc] at h
      refine u_ldc2 X kw_X9_176 dX9_lot_19 ?_
      exact u_lretM X hr hret h hP hS dX9_lot_22
def fT_sat (z : MS) (a0 : Int32) (a1 : Int32) : Option Int32 :=
  if (fHouse_areTwo z a0 a1) = 0 then some (-1) else Option.bind (fHouse_daysOf z (fHouse_pairOf a0 a1)) (fun w21 => some w21)
set_option maxRecDepth 4000 in
theorem cT_sat (l : Launch) {z : MS} {a0 : Int32} {a1 : Int32} {r : Int32} (h : fT_sat z a0 a1 = some r) : CT l yX9_sat cX9_sat 3 (some .int) 3 67 (fun ad sd => [.ref (ad 0), .int a0, .int a1]) z (some (.int r)) z := by
  rw [fT_sat] at h
  refine u_start RX9 rfl (by decide) (fun _ _ => Nat.le_of_ble_eq_true rfl) (fun p e s m args below meth c R D ad cs sd A Q ls X hP hS hl hr hret => ?_)
  have hl : lv_has ls 3 [(0, .ref (ad 0)), (1, .int a0), (2, .int a1)] := hl
  refine u_aload_n X hl dX9_sat_0 0 rfl ?_
  refine gf_X9_10_0 X hP dX9_sat_1 ?_
  refine u_iload_n X hl dX9_sat_4 1 rfl ?_
  refine u_iload_n X hl dX9_sat_5 2 rfl ?_
  refine u_callVi X hP hS hl dX9_sat_6 (cHouse_areTwo l z a0 a1) cw_X9_108 io_1 rfl rfl rfl rfl ⟨rfl, rfl⟩ (fun H locs hP hS => ?_)
  refine u_if_eq 27 X dX9_sat_9 rfl (fun hc => ?_) (fun hc => ?_)
  · rw [if_pos hc] at h
    refine u_iconst (v := (-1)) X dX9_sat_27 rfl ?_
    exact u_iretP X hr hret h hP hS dX9_sat_28
  · rw [if_neg hc] at h
    refine u_aload_n X hl dX9_sat_12 0 rfl ?_
    refine gf_X9_10_0 X hP dX9_sat_13 ?_
    refine u_iload_n X hl dX9_sat_16 1 rfl ?_
    refine u_iload_n X hl dX9_sat_17 2 rfl ?_
    refine u_callSi X hP hS hl dX9_sat_18 (cHouse_pairOf l z a0 a1) cw_X9_116 rfl rfl rfl rfl ⟨rfl, rfl⟩ (fun H locs hP hS => ?_)
    obtain ⟨w21, hc21, h⟩ := ob_inv h
    refine u_callVi X hP hS hl dX9_sat_21 (cHouse_daysOf l hc21) cw_X9_213 io_1 rfl rfl rfl rfl ⟨rfl, rfl⟩ (fun H locs hP hS => ?_)
    refine u_goto 28 X dX9_sat_24 rfl ?_
    exact u_iretP X hr hret h hP hS dX9_sat_28
def fT_suspects (z : MS) (a0 : Int32) : Option Int32 :=
  if a0 < 0 then some (-1) else (if a0 ≤ 1 then (if 2 ≤ (gI z 1 0) then Option.bind (fHouse_pairOfMostLoss z) (fun w29 => if a0 = 0 then some w29 else Option.bind (fHouse_lossOf z w29) (fun w46 => some w46)) else some (-3)) else some (-1))
set_option maxRecDepth 4000 in
theorem cT_suspects (l : Launch) {z : MS} {a0 : Int32} {r : Int32} (h : fT_suspects z a0 = some r) : CT l yX9_suspects cX9_suspects 3 (some .int) 4 92 (fun ad sd => [.ref (ad 0), .int a0]) z (some (.int r)) z := by
  rw [fT_suspects] at h
  refine u_start RX9 rfl (by decide) (fun _ _ => Nat.le_of_ble_eq_true rfl) (fun p e s m args below meth c R D ad cs sd A Q ls X hP hS hl hr hret => ?_)
  have hl : lv_has ls 3 [(0, .ref (ad 0)), (1, .int a0)] := hl
  refine u_iload_n X hl dX9_suspects_0 1 rfl ?_
  refine u_if_lt 9 X dX9_suspects_1 rfl (fun hc => ?_) (fun hc => ?_)
  · rw [if_pos hc] at h
    refine u_iconst (v := (-1)) X dX9_suspects_9 rfl ?_
    exact u_iretP X hr hret h hP hS dX9_suspects_10
  · rw [if_neg hc] at h
    refine u_iload_n X hl dX9_suspects_4 1 rfl ?_
    refine u_iconst (v := 1) X dX9_suspects_5 rfl ?_
    refine u_icmp_le 11 X dX9_suspects_6 rfl (fun hc => ?_) (fun hc => ?_)
    · rw [if_pos hc] at h
      refine u_aload_n X hl dX9_suspects_11 0 rfl ?_
      refine gf_X9_10_0 X hP dX9_suspects_12 ?_
      refine gf_X9_101_1 X hP dX9_suspects_15 ?_
      refine u_iconst (v := 2) X dX9_suspects_18 rfl ?_
      refine u_icmp_ge 25 X dX9_suspects_19 rfl (fun hc => ?_) (fun hc => ?_)
      · rw [if_pos hc] at h
        refine u_aload_n X hl dX9_suspects_25 0 rfl ?_
        refine gf_X9_10_0 X hP dX9_suspects_26 ?_
        obtain ⟨w29, hc29, h⟩ := ob_inv h
        refine u_callVi X hP hS hl dX9_suspects_29 (cHouse_pairOfMostLoss l hc29) cw_X9_216 io_1 rfl rfl rfl rfl ⟨rfl, rfl⟩ (fun H locs hP hS => ?_)
        refine u_istore_n [(2, .int w29), (0, .ref (ad 0)), (1, .int a0)] X hl dX9_suspects_32 (Nat.le_of_ble_eq_true rfl) rfl (fun ls hl => ?_)
        refine u_iload_n X hl dX9_suspects_33 2 rfl ?_
        refine u_if_ne 41 X dX9_suspects_34 rfl (fun hc => ?_) (fun hc => ?_)
        · rw [if_neg hc] at h
          refine u_aload_n X hl dX9_suspects_41 1 rfl ?_
          refine gf_X9_10_0 X hP dX9_suspects_42 ?_
          refine u_iload_n X hl dX9_suspects_45 0 rfl ?_
          obtain ⟨w46, hc46, h⟩ := ob_inv h
          refine u_callVi X hP hS hl dX9_suspects_46 (cHouse_lossOf l hc46) cw_X9_219 io_1 rfl rfl rfl rfl ⟨rfl, rfl⟩ (fun H locs hP hS => ?_)
          exact u_iretP X hr hret h hP hS dX9_suspects_49
        · rw [if_pos hc] at h
          refine u_iload_n X hl dX9_suspects_37 0 rfl ?_
          refine u_goto 49 X dX9_suspects_38 rfl ?_
          exact u_iretP X hr hret h hP hS dX9_suspects_49
      · rw [if_neg hc] at h
        refine u_bipush (v := (-3)) X dX9_suspects_22 rfl ?_
        exact u_iretP X hr hret h hP hS dX9_suspects_24
    · rw [if_neg hc] at h
      refine u_iconst (v := (-1)) X dX9_suspects_9 rfl ?_
      exact u_iretP X hr hret h hP hS dX9_suspects_10
def fT_plan (z : MS) (a0 : Int32) (a1 : Int32) : Option (Int32 × MS) :=
  if a0 < 1 then some ((-1), z) else (if 6 ≤ a0 then some ((-1), z) else (if a1 < 0 then some ((-1), z) else (if a1 ≤ 4095 then (if 4 ≤ (gI z 26 3) then some ((-2), z) else ob2 (fPlans_add z a0 a1) (fun w41 zc41 => some (w41, zc41))) else some ((-1), z))))
set_option maxRecDepth 4000 in
theorem cT_plan (l : Launch) {z : MS} {a0 : Int32} {a1 : Int32} {r : Int32} {z1 : MS} (h : fT_plan z a0 a1 = some (r, z1)) : CT l yX9_plan cX9_plan 3 (some .int) 1 22 (fun ad sd => [.ref (ad 0), .int a0, .int a1]) z (some (.int r)) z1 := by
  rw [fT_plan] at h
  refine u_start RX9 rfl (by decide) (fun _ _ => Nat.le_of_ble_eq_true rfl) (fun p e s m args below meth c R D ad cs sd A Q ls X hP hS hl hr hret => ?_)
  have hl : lv_has ls 3 [(0, .ref (ad 0)), (1, .int a0), (2, .int a1)] := hl
  refine u_iload_n X hl dX9_plan_0 1 rfl ?_
  refine u_iconst (v := 1) X dX9_plan_1 rfl ?_
  refine u_icmp_lt 22 X dX9_plan_2 rfl (fun hc => ?_) (fun hc => ?_)
  · rw [if_pos hc] at h
    refine u_iconst (v := (-1)) X dX9_plan_22 rfl ?_
    exact u_iretM X hr hret h hP hS dX9_plan_23
  · rw [if_neg hc] at h
    refine u_iload_n X hl dX9_plan_5 1 rfl ?_
    refine u_bipush (v := 6) X dX9_plan_6 rfl ?_
    refine u_icmp_ge 22 X dX9_plan_8 rfl (fun hc => ?_) (fun hc => ?_)
    · rw [if_pos hc] at h
      refine u_iconst (v := (-1)) X dX9_plan_22 rfl ?_
      exact u_iretM X hr hret h hP hS dX9_plan_23
    · rw [if_neg hc] at h
      refine u_iload_n X hl dX9_plan_11 2 rfl ?_
      refine u_if_lt 22 X dX9_plan_12 rfl (fun hc => ?_) (fun hc => ?_)
      · rw [if_pos hc] at h
        refine u_iconst (v := (-1)) X dX9_plan_22 rfl ?_
        exact u_iretM X hr hret h hP hS dX9_plan_23
      · rw [if_neg hc] at h
        refine u_iload_n X hl dX9_plan_15 2 rfl ?_
        refine u_sipush (v := 4095) X dX9_plan_16 rfl ?_
        refine u_icmp_le 24 X dX9_plan_19 rfl (fun hc => ?_) (fun hc => ?_)
        · rw [if_pos hc] at h
          refine u_aload_n X hl dX9_plan_24 0 rfl ?_
          refine gf_X9_51_0 X hP dX9_plan_25 ?_
          refine gf_X9_222_26 X hP dX9_plan_28 ?_
          refine u_iconst (v := 4) X dX9_plan_31 rfl ?_
          refine u_icmp_ge 47 X dX9_plan_32 rfl (fun hc => ?_) (fun hc => ?_)
          · rw [if_pos hc] at h
            refine u_bipush (v := (-2)) X dX9_plan_47 rfl ?_
            exact u_iretM X hr hret h hP hS dX9_plan_49
          · rw [if_neg hc] at h
            refine u_aload_n X hl dX9_plan_35 0 rfl ?_
            refine gf_X9_51_0 X hP dX9_plan_36 ?_
            refine u_iload_n X hl dX9_plan_39 1 rfl ?_
            refine u_iload_n X hl dX9_plan_40 2 rfl ?_
            obtain ⟨w41, zc41, hc41, h⟩ := ob2_inv h
            refine u_callVi X hP hS hl dX9_plan_41 (cPlans_add l hc41) cw_X9_225 io_26 rfl rfl rfl rfl ⟨rfl, rfl⟩ (fun H locs hP hS => ?_)
            refine u_goto 49 X dX9_plan_44 rfl ?_
            exact u_iretM X hr hret h hP hS dX9_plan_49
        · rw [if_neg hc] at h
          refine u_iconst (v := (-1)) X dX9_plan_22 rfl ?_
          exact u_iretM X hr hret h hP hS dX9_plan_23
def fT_planOf (z : MS) (a0 : Int32) (a1 : Int32) : Option Int32 :=
  if (fPlans_has z a0) = 0 then some (-1) else (if a1 < 0 then some (-1) else (if a1 ≤ 1 then (if a1 = 0 then (if a0 < 0 ∨ 4 ≤ a0.toNatClampNeg then none else some (gI z 27 a0.toNatClampNeg)) else (if a0 < 0 ∨ 4 ≤ a0.toNatClampNeg then none else some (gI z 28 a0.toNatClampNeg))) else some (-1)))
set_option maxRecDepth 4000 in
theorem cT_planOf (l : Launch) {z : MS} {a0 : Int32} {a1 : Int32} {r : Int32} (h : fT_planOf z a0 a1 = some r) : CT l yX9_planOf cX9_planOf 3 (some .int) 1 21 (fun ad sd => [.ref (ad 0), .int a0, .int a1]) z (some (.int r)) z := by
  rw [fT_planOf] at h
  refine u_start RX9 rfl (by decide) (fun _ _ => Nat.le_of_ble_eq_true rfl) (fun p e s m args below meth c R D ad cs sd A Q ls X hP hS hl hr hret => ?_)
  have hl : lv_has ls 3 [(0, .ref (ad 0)), (1, .int a0), (2, .int a1)] := hl
  refine u_aload_n X hl dX9_planOf_0 0 rfl ?_
  refine gf_X9_51_0 X hP dX9_planOf_1 ?_
  refine u_iload_n X hl dX9_planOf_4 1 rfl ?_
  refine u_callVi X hP hS hl dX9_planOf_5 (cPlans_has l z a0) cw_X9_227 io_26 rfl rfl rfl rfl ⟨rfl, rfl⟩ (fun H locs hP hS => ?_)
  refine u_if_eq 20 X dX9_planOf_8 rfl (fun hc => ?_) (fun hc => ?_)
  · rw [if_pos hc] at h
    refine u_iconst (v := (-1)) X dX9_planOf_20 rfl ?_
    exact u_iretP X hr hret h hP hS dX9_planOf_21
  · rw [if_neg hc] at h
    refine u_iload_n X hl dX9_planOf_11 2 rfl ?_
    refine u_if_lt 20 X dX9_planOf_12 rfl (fun hc => ?_) (fun hc => ?_)
    · rw [if_pos hc] at h
      refine u_iconst (v := (-1)) X dX9_planOf_20 rfl ?_
      exact u_iretP X hr hret h hP hS dX9_planOf_21
    · rw [if_neg hc] at h
      refine u_iload_n X hl dX9_planOf_15 2 rfl ?_
      refine u_iconst (v := 1) X dX9_planOf_16 rfl ?_
      refine u_icmp_le 22 X dX9_planOf_17 rfl (fun hc => ?_) (fun hc => ?_)
      · rw [if_pos hc] at h
        refine u_iload_n X hl dX9_planOf_22 2 rfl ?_
        refine u_if_ne 38 X dX9_planOf_23 rfl (fun hc => ?_) (fun hc => ?_)
        · rw [if_neg hc] at h
          refine u_aload_n X hl dX9_planOf_38 0 rfl ?_
          refine gf_X9_51_0 X hP dX9_planOf_39 ?_
          refine gf_X9_233_26 X hP dX9_planOf_42 ?_
          refine u_iload_n X hl dX9_planOf_45 1 rfl ?_
          obtain ⟨hin, h⟩ := ifn_inv h
          refine ld_28 X hP rfl hin dX9_planOf_46 ?_
          exact u_iretP X hr hret h hP hS dX9_planOf_47
        · rw [if_pos hc] at h
          refine u_aload_n X hl dX9_planOf_26 0 rfl ?_
          refine gf_X9_51_0 X hP dX9_planOf_27 ?_
          refine gf_X9_230_26 X hP dX9_planOf_30 ?_
          refine u_iload_n X hl dX9_planOf_33 1 rfl ?_
          obtain ⟨hin, h⟩ := ifn_inv h
          refine ld_27 X hP rfl hin dX9_planOf_34 ?_
          refine u_goto 47 X dX9_planOf_35 rfl ?_
          exact u_iretP X hr hret h hP hS dX9_planOf_47
      · rw [if_neg hc] at h
        refine u_iconst (v := (-1)) X dX9_planOf_20 rfl ?_
        exact u_iretP X hr hret h hP hS dX9_planOf_21
def fT_fill (z : MS) (a0 : Int32) (a1 : Int32) : Option (Int32 × MS) :=
  if (fPlans_has z a0) = 0 then some ((-1), z) else (if (fT_isDay a1) = 0 then some ((-1), z) else ob2 (fPlans_fillDay z a0 a1) (fun w30 zc30 => some (w30, zc30)))
set_option maxRecDepth 4000 in
theorem cT_fill (l : Launch) {z : MS} {a0 : Int32} {a1 : Int32} {r : Int32} {z1 : MS} (h : fT_fill z a0 a1 = some (r, z1)) : CT l yX9_fill cX9_fill 3 (some .int) 6 145 (fun ad sd => [.ref (ad 0), .int a0, .int a1]) z (some (.int r)) z1 := by
  rw [fT_fill] at h
  refine u_start RX9 rfl (by decide) (fun _ _ => Nat.le_of_ble_eq_true rfl) (fun p e s m args below meth c R D ad cs sd A Q ls X hP hS hl hr hret => ?_)
  have hl : lv_has ls 3 [(0, .ref (ad 0)), (1, .int a0), (2, .int a1)] := hl
  refine u_aload_n X hl dX9_fill_0 0 rfl ?_
  refine gf_X9_51_0 X hP dX9_fill_1 ?_
  refine u_iload_n X hl dX9_fill_4 1 rfl ?_
  refine u_callVi X hP hS hl dX9_fill_5 (cPlans_has l z a0) cw_X9_227 io_26 rfl rfl rfl rfl ⟨rfl, rfl⟩ (fun H locs hP hS => ?_)
  refine u_if_eq 18 X dX9_fill_8 rfl (fun hc => ?_) (fun hc => ?_)
  · rw [if_pos hc] at h
    refine u_iconst (v := (-1)) X dX9_fill_18 rfl ?_
    exact u_iretM X hr hret h hP hS dX9_fill_19
  · rw [if_neg hc] at h
    refine u_iload_n X hl dX9_fill_11 2 rfl ?_
    refine u_callSi X hP hS hl dX9_fill_12 (cT_isDay l z a1) cw_X9_128 rfl rfl rfl rfl ⟨rfl, rfl⟩ (fun H locs hP hS => ?_)
    refine u_if_ne 20 X dX9_fill_15 rfl (fun hc => ?_) (fun hc => ?_)
    · rw [if_neg hc] at h
      refine u_aload_n X hl dX9_fill_20 0 rfl ?_
      refine gf_X9_51_0 X hP dX9_fill_21 ?_
      refine u_aload_n X hl dX9_fill_24 0 rfl ?_
      refine gf_X9_10_0 X hP dX9_fill_25 ?_
      refine u_iload_n X hl dX9_fill_28 1 rfl ?_
      refine u_iload_n X hl dX9_fill_29 2 rfl ?_
      obtain ⟨w30, zc30, hc30, h⟩ := ob2_inv h
      refine u_callVi X hP hS hl dX9_fill_30 (cPlans_fillDay l hc30) cw_X9_236 io_26 rfl rfl rfl rfl ⟨rfl, rfl⟩ (fun H locs hP hS => ?_)
      exact u_iretM X hr hret h hP hS dX9_fill_33
    · rw [if_pos hc] at h
      refine u_iconst (v := (-1)) X dX9_fill_18 rfl ?_
      exact u_iretM X hr hret h hP hS dX9_fill_19
def fT_seed (z : MS) (a0 : Int32) : Option (Int32 × MS) :=
  some (gI z 26 4, pI z 26 4 a0)
set_option maxRecDepth 4000 in
theorem cT_seed (l : Launch) {z : MS} {a0 : Int32} {r : Int32} {z1 : MS} (h : fT_seed z a0 = some (r, z1)) : CT l yX9_seed cX9_seed 3 (some .int) 0 0 (fun ad sd => [.ref (ad 0), .int a0]) z (some (.int r)) z1 := by
  rw [fT_seed] at h
  refine u_start RX9 rfl (by decide) (fun _ _ => Nat.le_of_ble_eq_true rfl) (fun p e s m args below meth c R D ad cs sd A Q ls X hP hS hl hr hret => ?_)
  have hl : lv_has ls 3 [(0, .ref (ad 0)), (1, .int a0)] := hl
  refine u_aload_n X hl dX9_seed_0 0 rfl ?_
  refine gf_X9_51_0 X hP dX9_seed_1 ?_
  refine gf_X9_240_26 X hP dX9_seed_4 ?_
  refine u_istore_n [(2, .int (gI z 26 4)), (0, .ref (ad 0)), (1, .int a0)] X hl dX9_seed_7 (Nat.le_of_ble_eq_true rfl) rfl (fun ls hl => ?_)
  refine u_aload_n X hl dX9_seed_8 1 rfl ?_
  refine gf_X9_51_0 X hP dX9_seed_9 ?_
  refine u_iload_n X hl dX9_seed_12 2 rfl ?_
  refine pf_X9_240_26 X hP hS dX9_seed_13 (fun H locs hP hS => ?_)
  refine u_iload_n X hl dX9_seed_16 0 rfl ?_
  exact u_iretM X hr hret h hP hS dX9_seed_17
def fT_prove (z : MS) : Option (Int32 × MS) :=
  ob2 (fRows_write z) (fun w4 zc4 => some (w4, zc4))
set_option maxRecDepth 4000 in
theorem cT_prove (l : Launch) {z : MS} {r : Int32} {z1 : MS} (h : fT_prove z = some (r, z1)) : CT l yX9_prove cX9_prove 1 (some .int) 7 160 (fun ad sd => [.ref (ad 0)]) z (some (.int r)) z1 := by
  rw [fT_prove] at h
  refine u_start RX9 rfl (by decide) (fun _ _ => Nat.le_of_ble_eq_true rfl) (fun p e s m args below meth c R D ad cs sd A Q ls X hP hS hl hr hret => ?_)
  have hl : lv_has ls 1 [(0, .ref (ad 0))] := hl
  refine u_aload_n X hl dX9_prove_0 0 rfl ?_
  refine gf_X9_58_0 X hP dX9_prove_1 ?_
  obtain ⟨w4, zc4, hc4, h⟩ := ob2_inv h
  refine u_callVi X hP hS hl dX9_prove_4 (cRows_write l hc4) cw_X9_243 io_30 rfl rfl rfl rfl ⟨rfl, rfl⟩ (fun H locs hP hS => ?_)
  exact u_iretM X hr hret h hP hS dX9_prove_7
def fT_row (z : MS) (a0 : Int32) (a1 : Int32) : Option Int32 :=
  if (fRows_has z a0 a1) = 0 then some (-9) else (if ((a0 * 3) + a1) < 0 ∨ 30 ≤ ((a0 * 3) + a1).toNatClampNeg then none else some (gI z 31 ((a0 * 3) + a1).toNatClampNeg))
set_option maxRecDepth 4000 in
theorem cT_row (l : Launch) {z : MS} {a0 : Int32} {a1 : Int32} {r : Int32} (h : fT_row z a0 a1 = some r) : CT l yX9_row cX9_row 3 (some .int) 1 22 (fun ad sd => [.ref (ad 0), .int a0, .int a1]) z (some (.int r)) z := by
  rw [fT_row] at h
  refine u_start RX9 rfl (by decide) (fun _ _ => Nat.le_of_ble_eq_true rfl) (fun p e s m args below meth c R D ad cs sd A Q ls X hP hS hl hr hret => ?_)
  have hl : lv_has ls 3 [(0, .ref (ad 0)), (1, .int a0), (2, .int a1)] := hl
  refine u_aload_n X hl dX9_row_0 0 rfl ?_
  refine gf_X9_58_0 X hP dX9_row_1 ?_
  refine u_iload_n X hl dX9_row_4 1 rfl ?_
  refine u_iload_n X hl dX9_row_5 2 rfl ?_
  refine u_callVi X hP hS hl dX9_row_6 (cRows_has l z a0 a1) cw_X9_246 io_30 rfl rfl rfl rfl ⟨rfl, rfl⟩ (fun H locs hP hS => ?_)
  refine u_if_eq 28 X dX9_row_9 rfl (fun hc => ?_) (fun hc => ?_)
  · rw [if_pos hc] at h
    refine u_bipush (v := (-9)) X dX9_row_28 rfl ?_
    exact u_iretP X hr hret h hP hS dX9_row_30
  · rw [if_neg hc] at h
    refine u_aload_n X hl dX9_row_12 0 rfl ?_
    refine gf_X9_58_0 X hP dX9_row_13 ?_
    refine gf_X9_248_30 X hP dX9_row_16 ?_
    refine u_iload_n X hl dX9_row_19 1 rfl ?_
    refine u_iconst (v := 3) X dX9_row_20 rfl ?_
    refine u_imul X dX9_row_21 ?_
    refine u_iload_n X hl dX9_row_22 2 rfl ?_
    refine u_iadd X dX9_row_23 ?_
    obtain ⟨hin, h⟩ := ifn_inv h
    refine ld_31 X hP rfl hin dX9_row_24 ?_
    refine u_goto 30 X dX9_row_25 rfl ?_
    exact u_iretP X hr hret h hP hS dX9_row_30
def fT_alterRow (z : MS) (a0 : Int32) (a1 : Int32) (a2 : Int32) : Option (Int32 × MS) :=
  if (fRows_has z a0 a1) = 0 then some ((-9), z) else (if ((a0 * 3) + a1) < 0 ∨ 30 ≤ ((a0 * 3) + a1).toNatClampNeg then none else if ((a0 * 3) + a1) < 0 ∨ 30 ≤ ((a0 * 3) + a1).toNatClampNeg then none else some (gI z 31 ((a0 * 3) + a1).toNatClampNeg, pI z 31 ((a0 * 3) + a1).toNatClampNeg a2))
set_option maxRecDepth 4000 in
theorem cT_alterRow (l : Launch) {z : MS} {a0 : Int32} {a1 : Int32} {a2 : Int32} {r : Int32} {z1 : MS} (h : fT_alterRow z a0 a1 a2 = some (r, z1)) : CT l yX9_alterRow cX9_alterRow 6 (some .int) 1 22 (fun ad sd => [.ref (ad 0), .int a0, .int a1, .int a2]) z (some (.int r)) z1 := by
  rw [fT_alterRow] at h
  refine u_start RX9 rfl (by decide) (fun _ _ => Nat.le_of_ble_eq_true rfl) (fun p e s m args below meth c R D ad cs sd A Q ls X hP hS hl hr hret => ?_)
  have hl : lv_has ls 6 [(0, .ref (ad 0)), (1, .int a0), (2, .int a1), (3, .int a2)] := hl
  refine u_aload_n X hl dX9_alterRow_0 0 rfl ?_
  refine gf_X9_58_0 X hP dX9_alterRow_1 ?_
  refine u_iload_n X hl dX9_alterRow_4 1 rfl ?_
  refine u_iload_n X hl dX9_alterRow_5 2 rfl ?_
  refine u_callVi X hP hS hl dX9_alterRow_6 (cRows_has l z a0 a1) cw_X9_246 io_30 rfl rfl rfl rfl ⟨rfl, rfl⟩ (fun H locs hP hS => ?_)
  refine u_if_ne 15 X dX9_alterRow_9 rfl (fun hc => ?_) (fun hc => ?_)
  · rw [if_neg hc] at h
    refine u_iload_n X hl dX9_alterRow_15 1 rfl ?_
    refine u_iconst (v := 3) X dX9_alterRow_16 rfl ?_
    refine u_imul X dX9_alterRow_17 ?_
    refine u_iload_n X hl dX9_alterRow_18 2 rfl ?_
    refine u_iadd X dX9_alterRow_19 ?_
    refine u_istore [(4, .int ((a0 * 3) + a1)), (0, .ref (ad 0)), (1, .int a0), (2, .int a1), (3, .int a2)] X hl dX9_alterRow_20 (Nat.le_of_ble_eq_true rfl) rfl (fun ls hl => ?_)
    refine u_aload_n X hl dX9_alterRow_22 1 rfl ?_
    refine gf_X9_58_0 X hP dX9_alterRow_23 ?_
    refine gf_X9_248_30 X hP dX9_alterRow_26 ?_
    refine u_iload X hl dX9_alterRow_29 0 rfl ?_
    obtain ⟨hin, h⟩ := ifn_inv h
    refine ld_31 X hP rfl hin dX9_alterRow_31 ?_
    refine u_istore [(5, .int (gI z 31 ((a0 * 3) + a1).toNatClampNeg)), (4, .int ((a0 * 3) + a1)), (0, .ref (ad 0)), (1, .int a0), (2, .int a1), (3, .int a2)] X hl dX9_alterRow_32 (Nat.le_of_ble_eq_true rfl) rfl (fun ls hl => ?_)
    refine u_aload_n X hl dX9_alterRow_34 2 rfl ?_
    refine gf_X9_58_0 X hP dX9_alterRow_35 ?_
    refine gf_X9_248_30 X hP dX9_alterRow_38 ?_
    refine u_iload X hl dX9_alterRow_41 1 rfl ?_
    refine u_iload_n X hl dX9_alterRow_43 5 rfl ?_
    obtain ⟨hin, h⟩ := ifn_inv h
    refine as_31 X hP hS rfl hin dX9_alterRow_44 (fun H locs hP hS => ?_)
    refine u_iload X hl dX9_alterRow_45 0 rfl ?_
    exact u_iretM X hr hret h hP hS dX9_alterRow_47
  · rw [if_pos hc] at h
    refine u_bipush (v := (-9)) X dX9_alterRow_12 rfl ?_
    exact u_iretM X hr hret h hP hS dX9_alterRow_14
def fT_judge (z : MS) : Option Int32 :=
  Option.bind (fRows_firstWrong z) (fun w4 => some w4)
set_option maxRecDepth 4000 in
theorem cT_judge (l : Launch) {z : MS} {r : Int32} (h : fT_judge z = some r) : CT l yX9_judge cX9_judge 1 (some .int) 7 160 (fun ad sd => [.ref (ad 0)]) z (some (.int r)) z := by
  rw [fT_judge] at h
  refine u_start RX9 rfl (by decide) (fun _ _ => Nat.le_of_ble_eq_true rfl) (fun p e s m args below meth c R D ad cs sd A Q ls X hP hS hl hr hret => ?_)
  have hl : lv_has ls 1 [(0, .ref (ad 0))] := hl
  refine u_aload_n X hl dX9_judge_0 0 rfl ?_
  refine gf_X9_58_0 X hP dX9_judge_1 ?_
  obtain ⟨w4, hc4, h⟩ := ob_inv h
  refine u_callVi X hP hS hl dX9_judge_4 (cRows_firstWrong l hc4) cw_X9_251 io_30 rfl rfl rfl rfl ⟨rfl, rfl⟩ (fun H locs hP hS => ?_)
  exact u_iretP X hr hret h hP hS dX9_judge_7
def fT_isPlace (a0 : Int32) : Int32 :=
  if a0 < 0 then 0 else (if 4 ≤ a0 then 0 else 1)
theorem fT_isPlace_b (a0 : Int32) : fT_isPlace a0 = 0 ∨ fT_isPlace a0 = 1 := by
  unfold fT_isPlace
  (repeat' split) <;> first | with_reducible exact Or.inl rfl | with_reducible exact Or.inr rfl
set_option maxRecDepth 4000 in
theorem cT_isPlace (l : Launch) (z : MS) (a0 : Int32) : CT l yX9_isPlace cX9_isPlace 1 (some .boolean) 0 0 (fun ad sd => [.int a0]) z (some (.int (fT_isPlace a0))) z := by
  generalize h : fT_isPlace a0 = r
  rw [fT_isPlace] at h
  refine u_start RX9 rfl (by decide) (fun _ _ => Nat.le_of_ble_eq_true rfl) (fun p e s m args below meth c R D ad cs sd A Q ls X hP hS hl hr hret => ?_)
  have hl : lv_has ls 1 [(0, .int a0)] := hl
  refine u_iload_n X hl dX9_isPlace_0 0 rfl ?_
  refine u_if_lt 13 X dX9_isPlace_1 rfl (fun hc => ?_) (fun hc => ?_)
  · rw [if_pos hc] at h
    refine u_iconst (v := 0) X dX9_isPlace_13 rfl ?_
    exact u_zretT X hr hret h hP hS (Or.inl rfl) dX9_isPlace_14
  · rw [if_neg hc] at h
    refine u_iload_n X hl dX9_isPlace_4 0 rfl ?_
    refine u_iconst (v := 4) X dX9_isPlace_5 rfl ?_
    refine u_icmp_ge 13 X dX9_isPlace_6 rfl (fun hc => ?_) (fun hc => ?_)
    · rw [if_pos hc] at h
      refine u_iconst (v := 0) X dX9_isPlace_13 rfl ?_
      exact u_zretT X hr hret h hP hS (Or.inl rfl) dX9_isPlace_14
    · rw [if_neg hc] at h
      refine u_iconst (v := 1) X dX9_isPlace_9 rfl ?_
      refine u_goto 14 X dX9_isPlace_10 rfl ?_
      exact u_zretT X hr hret h hP hS (Or.inr rfl) dX9_isPlace_14
def fT_sheet (z : MS) (a0 : Int32) (a1 : Int32) (a2 : Int32) : Option (Int32 × MS) :=
  if (fT_isPlace a0) = 0 then some ((-1), z) else (if a1 < (-1) then some ((-1), z) else (if a1 < 4 then (if a1 = (-1) then ob2 (fHost_lay z a0 a1 0) (fun w31 zc31 => some (w31, zc31)) else (if a2 ≤ 40 then (if 0 ≤ a2 then ob2 (fHost_lay z a0 a1 a2) (fun w59 zc59 => some (w59, zc59)) else some ((-14), z)) else some ((-1), z))) else some ((-1), z)))
set_option maxRecDepth 4000 in
theorem cT_sheet (l : Launch) {z : MS} {a0 : Int32} {a1 : Int32} {a2 : Int32} {r : Int32} {z1 : MS} (h : fT_sheet z a0 a1 a2 = some (r, z1)) : CT l yX9_sheet cX9_sheet 4 (some .int) 2 46 (fun ad sd => [.ref (ad 0), .int a0, .int a1, .int a2]) z (some (.int r)) z1 := by
  rw [fT_sheet] at h
  refine u_start RX9 rfl (by decide) (fun _ _ => Nat.le_of_ble_eq_true rfl) (fun p e s m args below meth c R D ad cs sd A Q ls X hP hS hl hr hret => ?_)
  have hl : lv_has ls 4 [(0, .ref (ad 0)), (1, .int a0), (2, .int a1), (3, .int a2)] := hl
  refine u_iload_n X hl dX9_sheet_0 1 rfl ?_
  refine u_callSi X hP hS hl dX9_sheet_1 (cT_isPlace l z a0) cw_X9_254 rfl rfl rfl rfl ⟨rfl, rfl⟩ (fun H locs hP hS => ?_)
  refine u_if_eq 17 X dX9_sheet_4 rfl (fun hc => ?_) (fun hc => ?_)
  · rw [if_pos hc] at h
    refine u_iconst (v := (-1)) X dX9_sheet_17 rfl ?_
    exact u_iretM X hr hret h hP hS dX9_sheet_18
  · rw [if_neg hc] at h
    refine u_iload_n X hl dX9_sheet_7 2 rfl ?_
    refine u_iconst (v := (-1)) X dX9_sheet_8 rfl ?_
    refine u_icmp_lt 17 X dX9_sheet_9 rfl (fun hc => ?_) (fun hc => ?_)
    · rw [if_pos hc] at h
      refine u_iconst (v := (-1)) X dX9_sheet_17 rfl ?_
      exact u_iretM X hr hret h hP hS dX9_sheet_18
    · rw [if_neg hc] at h
      refine u_iload_n X hl dX9_sheet_12 2 rfl ?_
      refine u_iconst (v := 4) X dX9_sheet_13 rfl ?_
      refine u_icmp_lt 19 X dX9_sheet_14 rfl (fun hc => ?_) (fun hc => ?_)
      · rw [if_pos hc] at h
        refine u_iload_n X hl dX9_sheet_19 2 rfl ?_
        refine u_iconst (v := (-1)) X dX9_sheet_20 rfl ?_
        refine u_icmp_ne 35 X dX9_sheet_21 rfl (fun hc => ?_) (fun hc => ?_)
        · rw [if_neg hc] at h
          refine u_iload_n X hl dX9_sheet_35 3 rfl ?_
          refine u_bipush (v := 40) X dX9_sheet_36 rfl ?_
          refine u_icmp_le 43 X dX9_sheet_38 rfl (fun hc => ?_) (fun hc => ?_)
          · rw [if_pos hc] at h
            refine u_iload_n X hl dX9_sheet_43 3 rfl ?_
            refine u_if_ge 52 X dX9_sheet_44 rfl (fun hc => ?_) (fun hc => ?_)
            · rw [if_pos hc] at h
              refine u_aload_n X hl dX9_sheet_52 0 rfl ?_
              refine gf_X9_72_0 X hP dX9_sheet_53 ?_
              refine u_iload_n X hl dX9_sheet_56 1 rfl ?_
              refine u_iload_n X hl dX9_sheet_57 2 rfl ?_
              refine u_iload_n X hl dX9_sheet_58 3 rfl ?_
              obtain ⟨w59, zc59, hc59, h⟩ := ob2_inv h
              refine u_callVi X hP hS hl dX9_sheet_59 (cHost_lay l hc59) cw_X9_257 io_34 rfl rfl rfl rfl ⟨rfl, rfl⟩ (fun H locs hP hS => ?_)
              exact u_iretM X hr hret h hP hS dX9_sheet_62
            · rw [if_neg hc] at h
              refine u_bipush (v := (-14)) X dX9_sheet_47 rfl ?_
              refine u_goto 62 X dX9_sheet_49 rfl ?_
              exact u_iretM X hr hret h hP hS dX9_sheet_62
          · rw [if_neg hc] at h
            refine u_iconst (v := (-1)) X dX9_sheet_41 rfl ?_
            exact u_iretM X hr hret h hP hS dX9_sheet_42
        · rw [if_pos hc] at h
          refine u_aload_n X hl dX9_sheet_24 0 rfl ?_
          refine gf_X9_72_0 X hP dX9_sheet_25 ?_
          refine u_iload_n X hl dX9_sheet_28 1 rfl ?_
          refine u_iload_n X hl dX9_sheet_29 2 rfl ?_
          refine u_iconst (v := 0) X dX9_sheet_30 rfl ?_
          obtain ⟨w31, zc31, hc31, h⟩ := ob2_inv h
          refine u_callVi X hP hS hl dX9_sheet_31 (cHost_lay l hc31) cw_X9_257 io_34 rfl rfl rfl rfl ⟨rfl, rfl⟩ (fun H locs hP hS => ?_)
          exact u_iretM X hr hret h hP hS dX9_sheet_34
      · rw [if_neg hc] at h
        refine u_iconst (v := (-1)) X dX9_sheet_17 rfl ?_
        exact u_iretM X hr hret h hP hS dX9_sheet_18
def fT_put (z : MS) (a0 : Int32) (a1 : Int32) (a2 : Int32) : Option (Int32 × MS) :=
  if (fT_isPlace a0) = 0 then some ((-1), z) else (if a0 < 0 ∨ 4 ≤ a0.toNatClampNeg then none else if (gI z 35 a0.toNatClampNeg) = (-1) then some ((-11), z) else Option.bind (fHost_holds z a0 a1) (fun w31 => if w31 = 0 then some ((-12), z) else ob2 (fHost_write z a0 a1 a2) (fun w44 zc44 => some (w44, zc44))))
set_option maxRecDepth 4000 in
theorem cT_put (l : Launch) {z : MS} {a0 : Int32} {a1 : Int32} {a2 : Int32} {r : Int32} {z1 : MS} (h : fT_put z a0 a1 a2 = some (r, z1)) : CT l yX9_put cX9_put 4 (some .int) 1 23 (fun ad sd => [.ref (ad 0), .int a0, .int a1, .int a2]) z (some (.int r)) z1 := by
  rw [fT_put] at h
  refine u_start RX9 rfl (by decide) (fun _ _ => Nat.le_of_ble_eq_true rfl) (fun p e s m args below meth c R D ad cs sd A Q ls X hP hS hl hr hret => ?_)
  have hl : lv_has ls 4 [(0, .ref (ad 0)), (1, .int a0), (2, .int a1), (3, .int a2)] := hl
  refine u_iload_n X hl dX9_put_0 1 rfl ?_
  refine u_callSi X hP hS hl dX9_put_1 (cT_isPlace l z a0) cw_X9_254 rfl rfl rfl rfl ⟨rfl, rfl⟩ (fun H locs hP hS => ?_)
  refine u_if_ne 9 X dX9_put_4 rfl (fun hc => ?_) (fun hc => ?_)
  · rw [if_neg hc] at h
    refine u_aload_n X hl dX9_put_9 0 rfl ?_
    refine gf_X9_72_0 X hP dX9_put_10 ?_
    refine gf_X9_261_34 X hP dX9_put_13 ?_
    refine u_iload_n X hl dX9_put_16 1 rfl ?_
    obtain ⟨hin, h⟩ := ifn_inv h
    refine ld_35 X hP rfl hin dX9_put_17 ?_
    refine u_iconst (v := (-1)) X dX9_put_18 rfl ?_
    refine u_icmp_ne 25 X dX9_put_19 rfl (fun hc => ?_) (fun hc => ?_)
    · rw [if_neg hc] at h
      refine u_aload_n X hl dX9_put_25 0 rfl ?_
      refine gf_X9_72_0 X hP dX9_put_26 ?_
      refine u_iload_n X hl dX9_put_29 1 rfl ?_
      refine u_iload_n X hl dX9_put_30 2 rfl ?_
      obtain ⟨w31, hc31, h⟩ := ob_inv h
      refine u_callVi X hP hS hl dX9_put_31 (cHost_holds l hc31) cw_X9_264 io_34 rfl rfl rfl rfl ⟨rfl, rfl⟩ (fun H locs hP hS => ?_)
      refine u_if_eq 50 X dX9_put_34 rfl (fun hc => ?_) (fun hc => ?_)
      · rw [if_pos hc] at h
        refine u_bipush (v := (-12)) X dX9_put_50 rfl ?_
        exact u_iretM X hr hret h hP hS dX9_put_52
      · rw [if_neg hc] at h
        refine u_aload_n X hl dX9_put_37 0 rfl ?_
        refine gf_X9_72_0 X hP dX9_put_38 ?_
        refine u_iload_n X hl dX9_put_41 1 rfl ?_
        refine u_iload_n X hl dX9_put_42 2 rfl ?_
        refine u_iload_n X hl dX9_put_43 3 rfl ?_
        obtain ⟨w44, zc44, hc44, h⟩ := ob2_inv h
        refine u_callVi X hP hS hl dX9_put_44 (cHost_write l hc44) cw_X9_267 io_34 rfl rfl rfl rfl ⟨rfl, rfl⟩ (fun H locs hP hS => ?_)
        refine u_goto 52 X dX9_put_47 rfl ?_
        exact u_iretM X hr hret h hP hS dX9_put_52
    · rw [if_pos hc] at h
      refine u_bipush (v := (-11)) X dX9_put_22 rfl ?_
      exact u_iretM X hr hret h hP hS dX9_put_24
  · rw [if_pos hc] at h
    refine u_iconst (v := (-1)) X dX9_put_7 rfl ?_
    exact u_iretM X hr hret h hP hS dX9_put_8
def fT_item (z : MS) (a0 : Int32) (a1 : Int32) (a2 : Int32) : Option Int32 :=
  if (fT_isPlace a0) = 0 then some (-1) else (if a1 < 0 then some (-1) else (if a1 < 4 then (if a0 < 0 ∨ 4 ≤ a0.toNatClampNeg then none else if (gI z 35 a0.toNatClampNeg) = (-1) then some (-11) else (if a0 < 0 ∨ 4 ≤ a0.toNatClampNeg then none else if (gI z 35 a0.toNatClampNeg) = a1 then Option.bind (fHost_holds z a0 a2) (fun w56 => if w56 = 0 then some (-12) else (if a0 < 0 ∨ 4 ≤ a0.toNatClampNeg then none else if a2 < 0 ∨ 40 ≤ a2.toNatClampNeg then none else some (gI z (38 + a0.toNatClampNeg) a2.toNatClampNeg))) else some (-13))) else some (-1)))
set_option maxRecDepth 4000 in
theorem cT_item (l : Launch) {z : MS} {a0 : Int32} {a1 : Int32} {a2 : Int32} {r : Int32} (h : fT_item z a0 a1 a2 = some r) : CT l yX9_item cX9_item 4 (some .int) 1 22 (fun ad sd => [.ref (ad 0), .int a0, .int a1, .int a2]) z (some (.int r)) z := by
  rw [fT_item] at h
  refine u_start RX9 rfl (by decide) (fun _ _ => Nat.le_of_ble_eq_true rfl) (fun p e s m args below meth c R D ad cs sd A Q ls X hP hS hl hr hret => ?_)
  have hl : lv_has ls 4 [(0, .ref (ad 0)), (1, .int a0), (2, .int a1), (3, .int a2)] := hl
  refine u_iload_n X hl dX9_item_0 1 rfl ?_
  refine u_callSi X hP hS hl dX9_item_1 (cT_isPlace l z a0) cw_X9_254 rfl rfl rfl rfl ⟨rfl, rfl⟩ (fun H locs hP hS => ?_)
  refine u_if_eq 16 X dX9_item_4 rfl (fun hc => ?_) (fun hc => ?_)
  · rw [if_pos hc] at h
    refine u_iconst (v := (-1)) X dX9_item_16 rfl ?_
    exact u_iretP X hr hret h hP hS dX9_item_17
  · rw [if_neg hc] at h
    refine u_iload_n X hl dX9_item_7 2 rfl ?_
    refine u_if_lt 16 X dX9_item_8 rfl (fun hc => ?_) (fun hc => ?_)
    · rw [if_pos hc] at h
      refine u_iconst (v := (-1)) X dX9_item_16 rfl ?_
      exact u_iretP X hr hret h hP hS dX9_item_17
    · rw [if_neg hc] at h
      refine u_iload_n X hl dX9_item_11 2 rfl ?_
      refine u_iconst (v := 4) X dX9_item_12 rfl ?_
      refine u_icmp_lt 18 X dX9_item_13 rfl (fun hc => ?_) (fun hc => ?_)
      · rw [if_pos hc] at h
        refine u_aload_n X hl dX9_item_18 0 rfl ?_
        refine gf_X9_72_0 X hP dX9_item_19 ?_
        refine gf_X9_261_34 X hP dX9_item_22 ?_
        refine u_iload_n X hl dX9_item_25 1 rfl ?_
        obtain ⟨hin, h⟩ := ifn_inv h
        refine ld_35 X hP rfl hin dX9_item_26 ?_
        refine u_iconst (v := (-1)) X dX9_item_27 rfl ?_
        refine u_icmp_ne 34 X dX9_item_28 rfl (fun hc => ?_) (fun hc => ?_)
        · rw [if_neg hc] at h
          refine u_aload_n X hl dX9_item_34 0 rfl ?_
          refine gf_X9_72_0 X hP dX9_item_35 ?_
          refine gf_X9_261_34 X hP dX9_item_38 ?_
          refine u_iload_n X hl dX9_item_41 1 rfl ?_
          obtain ⟨hin, h⟩ := ifn_inv h
          refine ld_35 X hP rfl hin dX9_item_42 ?_
          refine u_iload_n X hl dX9_item_43 2 rfl ?_
          refine u_icmp_eq 50 X dX9_item_44 rfl (fun hc => ?_) (fun hc => ?_)
          · rw [if_pos hc] at h
            refine u_aload_n X hl dX9_item_50 0 rfl ?_
            refine gf_X9_72_0 X hP dX9_item_51 ?_
            refine u_iload_n X hl dX9_item_54 1 rfl ?_
            refine u_iload_n X hl dX9_item_55 3 rfl ?_
            obtain ⟨w56, hc56, h⟩ := ob_inv h
            refine u_callVi X hP hS hl dX9_item_56 (cHost_holds l hc56) cw_X9_264 io_34 rfl rfl rfl rfl ⟨rfl, rfl⟩ (fun H locs hP hS => ?_)
            refine u_if_eq 76 X dX9_item_59 rfl (fun hc => ?_) (fun hc => ?_)
            · rw [if_pos hc] at h
              refine u_bipush (v := (-12)) X dX9_item_76 rfl ?_
              exact u_iretP X hr hret h hP hS dX9_item_78
            · rw [if_neg hc] at h
              refine u_aload_n X hl dX9_item_62 0 rfl ?_
              refine gf_X9_72_0 X hP dX9_item_63 ?_
              refine gf_X9_269_34 X hP dX9_item_66 ?_
              refine u_iload_n X hl dX9_item_69 1 rfl ?_
              obtain ⟨hin, h⟩ := ifn_inv h
              have hdy := vp_lt hin
              refine la_37 X hP hin dX9_item_70 ?_
              refine u_iload_n X hl dX9_item_71 3 rfl ?_
              obtain ⟨hin, h⟩ := ifn_inv h
              refine ld_dyn38 hdy X hP rfl hin dX9_item_72 ?_
              refine u_goto 78 X dX9_item_73 rfl ?_
              exact u_iretP X hr hret h hP hS dX9_item_78
          · rw [if_neg hc] at h
            refine u_bipush (v := (-13)) X dX9_item_47 rfl ?_
            exact u_iretP X hr hret h hP hS dX9_item_49
        · rw [if_pos hc] at h
          refine u_bipush (v := (-11)) X dX9_item_31 rfl ?_
          exact u_iretP X hr hret h hP hS dX9_item_33
      · rw [if_neg hc] at h
        refine u_iconst (v := (-1)) X dX9_item_16 rfl ?_
        exact u_iretP X hr hret h hP hS dX9_item_17
def fT_shelf (z : MS) (a0 : Int32) (a1 : Int32) (a2 : Int32) : Option (Int32 × MS) :=
  if (fT_isPlace a0) = 0 then some ((-1), z) else (if a1 = 0 then (if (fPlans_has z a2) = 0 then some ((-1), z) else ob2 (fHost_shelvePlan z a0 a2) (fun w30 zc30 => some (w30, zc30))) else (if a1 = 1 then (if (fT_isPlace a2) = 0 then some ((-1), z) else ob2 (fHost_shelveRow z a0 a2) (fun w56 zc56 => some (w56, zc56))) else (if a1 = 2 then ob2 (fHost_clear z a0) (fun w74 zc74 => some (w74, zc74)) else some ((-1), z))))
set_option maxRecDepth 4000 in
theorem cT_shelf (l : Launch) {z : MS} {a0 : Int32} {a1 : Int32} {a2 : Int32} {r : Int32} {z1 : MS} (h : fT_shelf z a0 a1 a2 = some (r, z1)) : CT l yX9_shelf cX9_shelf 4 (some .int) 1 22 (fun ad sd => [.ref (ad 0), .int a0, .int a1, .int a2]) z (some (.int r)) z1 := by
  rw [fT_shelf] at h
  refine u_start RX9 rfl (by decide) (fun _ _ => Nat.le_of_ble_eq_true rfl) (fun p e s m args below meth c R D ad cs sd A Q ls X hP hS hl hr hret => ?_)
  have hl : lv_has ls 4 [(0, .ref (ad 0)), (1, .int a0), (2, .int a1), (3, .int a2)] := hl
  refine u_iload_n X hl dX9_shelf_0 1 rfl ?_
  refine u_callSi X hP hS hl dX9_shelf_1 (cT_isPlace l z a0) cw_X9_254 rfl rfl rfl rfl ⟨rfl, rfl⟩ (fun H locs hP hS => ?_)
  refine u_if_ne 9 X dX9_shelf_4 rfl (fun hc => ?_) (fun hc => ?_)
  · rw [if_neg hc] at h
    refine u_iload_n X hl dX9_shelf_9 2 rfl ?_
    refine u_if_ne 38 X dX9_shelf_10 rfl (fun hc => ?_) (fun hc => ?_)
    · rw [if_neg hc] at h
      refine u_iload_n X hl dX9_shelf_38 2 rfl ?_
      refine u_iconst (v := 1) X dX9_shelf_39 rfl ?_
      refine u_icmp_ne 64 X dX9_shelf_40 rfl (fun hc => ?_) (fun hc => ?_)
      · rw [if_neg hc] at h
        refine u_iload_n X hl dX9_shelf_64 2 rfl ?_
        refine u_iconst (v := 2) X dX9_shelf_65 rfl ?_
        refine u_icmp_ne 80 X dX9_shelf_66 rfl (fun hc => ?_) (fun hc => ?_)
        · rw [if_neg hc] at h
          refine u_iconst (v := (-1)) X dX9_shelf_80 rfl ?_
          exact u_iretM X hr hret h hP hS dX9_shelf_81
        · rw [if_pos hc] at h
          refine u_aload_n X hl dX9_shelf_69 0 rfl ?_
          refine gf_X9_72_0 X hP dX9_shelf_70 ?_
          refine u_iload_n X hl dX9_shelf_73 1 rfl ?_
          obtain ⟨w74, zc74, hc74, h⟩ := ob2_inv h
          refine u_callVi X hP hS hl dX9_shelf_74 (cHost_clear l hc74) cw_X9_279 io_34 rfl rfl rfl rfl ⟨rfl, rfl⟩ (fun H locs hP hS => ?_)
          refine u_goto 81 X dX9_shelf_77 rfl ?_
          exact u_iretM X hr hret h hP hS dX9_shelf_81
      · rw [if_pos hc] at h
        refine u_iload_n X hl dX9_shelf_43 3 rfl ?_
        refine u_callSi X hP hS hl dX9_shelf_44 (cT_isPlace l z a2) cw_X9_254 rfl rfl rfl rfl ⟨rfl, rfl⟩ (fun H locs hP hS => ?_)
        refine u_if_eq 62 X dX9_shelf_47 rfl (fun hc => ?_) (fun hc => ?_)
        · rw [if_pos hc] at h
          refine u_iconst (v := (-1)) X dX9_shelf_62 rfl ?_
          exact u_iretM X hr hret h hP hS dX9_shelf_63
        · rw [if_neg hc] at h
          refine u_aload_n X hl dX9_shelf_50 0 rfl ?_
          refine gf_X9_72_0 X hP dX9_shelf_51 ?_
          refine u_iload_n X hl dX9_shelf_54 1 rfl ?_
          refine u_iload_n X hl dX9_shelf_55 3 rfl ?_
          obtain ⟨w56, zc56, hc56, h⟩ := ob2_inv h
          refine u_callVi X hP hS hl dX9_shelf_56 (cHost_shelveRow l hc56) cw_X9_276 io_34 rfl rfl rfl rfl ⟨rfl, rfl⟩ (fun H locs hP hS => ?_)
          refine u_goto 63 X dX9_shelf_59 rfl ?_
          exact u_iretM X hr hret h hP hS dX9_shelf_63
    · rw [if_pos hc] at h
      refine u_aload_n X hl dX9_shelf_13 0 rfl ?_
      refine gf_X9_51_0 X hP dX9_shelf_14 ?_
      refine u_iload_n X hl dX9_shelf_17 3 rfl ?_
      refine u_callVi X hP hS hl dX9_shelf_18 (cPlans_has l z a2) cw_X9_227 io_26 rfl rfl rfl rfl ⟨rfl, rfl⟩ (fun H locs hP hS => ?_)
      refine u_if_eq 36 X dX9_shelf_21 rfl (fun hc => ?_) (fun hc => ?_)
      · rw [if_pos hc] at h
        refine u_iconst (v := (-1)) X dX9_shelf_36 rfl ?_
        exact u_iretM X hr hret h hP hS dX9_shelf_37
      · rw [if_neg hc] at h
        refine u_aload_n X hl dX9_shelf_24 0 rfl ?_
        refine gf_X9_72_0 X hP dX9_shelf_25 ?_
        refine u_iload_n X hl dX9_shelf_28 1 rfl ?_
        refine u_iload_n X hl dX9_shelf_29 3 rfl ?_
        obtain ⟨w30, zc30, hc30, h⟩ := ob2_inv h
        refine u_callVi X hP hS hl dX9_shelf_30 (cHost_shelvePlan l hc30) cw_X9_273 io_34 rfl rfl rfl rfl ⟨rfl, rfl⟩ (fun H locs hP hS => ?_)
        refine u_goto 37 X dX9_shelf_33 rfl ?_
        exact u_iretM X hr hret h hP hS dX9_shelf_37
  · rw [if_pos hc] at h
    refine u_iconst (v := (-1)) X dX9_shelf_7 rfl ?_
    exact u_iretM X hr hret h hP hS dX9_shelf_8
def fT_planOn (z : MS) (a0 : Int32) : Option Int32 :=
  Option.bind (fHost_heldPlan z a0) (fun w5 => if w5 = 0 then some (-1) else (if a0 < 0 ∨ 4 ≤ a0.toNatClampNeg then none else if (fPlans_has z (gI z 44 a0.toNatClampNeg)) = 0 then some (-1) else (if a0 < 0 ∨ 4 ≤ a0.toNatClampNeg then none else some (gI z 44 a0.toNatClampNeg))))
set_option maxRecDepth 4000 in
theorem cT_planOn (l : Launch) {z : MS} {a0 : Int32} {r : Int32} (h : fT_planOn z a0 = some r) : CT l yX9_planOn cX9_planOn 2 (some .int) 1 21 (fun ad sd => [.ref (ad 0), .int a0]) z (some (.int r)) z := by
  rw [fT_planOn] at h
  refine u_start RX9 rfl (by decide) (fun _ _ => Nat.le_of_ble_eq_true rfl) (fun p e s m args below meth c R D ad cs sd A Q ls X hP hS hl hr hret => ?_)
  have hl : lv_has ls 2 [(0, .ref (ad 0)), (1, .int a0)] := hl
  refine u_aload_n X hl dX9_planOn_0 0 rfl ?_
  refine gf_X9_72_0 X hP dX9_planOn_1 ?_
  refine u_iload_n X hl dX9_planOn_4 1 rfl ?_
  obtain ⟨w5, hc5, h⟩ := ob_inv h
  refine u_callVi X hP hS hl dX9_planOn_5 (cHost_heldPlan l hc5) cw_X9_328 io_34 rfl rfl rfl rfl ⟨rfl, rfl⟩ (fun H locs hP hS => ?_)
  refine u_if_eq 42 X dX9_planOn_8 rfl (fun hc => ?_) (fun hc => ?_)
  · rw [if_pos hc] at h
    refine u_iconst (v := (-1)) X dX9_planOn_42 rfl ?_
    exact u_iretP X hr hret h hP hS dX9_planOn_43
  · rw [if_neg hc] at h
    refine u_aload_n X hl dX9_planOn_11 0 rfl ?_
    refine gf_X9_51_0 X hP dX9_planOn_12 ?_
    refine u_aload_n X hl dX9_planOn_15 0 rfl ?_
    refine gf_X9_72_0 X hP dX9_planOn_16 ?_
    refine gf_X9_288_34 X hP dX9_planOn_19 ?_
    refine u_iload_n X hl dX9_planOn_22 1 rfl ?_
    obtain ⟨hin, h⟩ := ifn_inv h
    refine ld_44 X hP rfl hin dX9_planOn_23 ?_
    refine u_callVi X hP hS hl dX9_planOn_24 (cPlans_has l z (gI z 44 a0.toNatClampNeg)) cw_X9_227 io_26 rfl rfl rfl rfl ⟨rfl, rfl⟩ (fun H locs hP hS => ?_)
    refine u_if_eq 42 X dX9_planOn_27 rfl (fun hc => ?_) (fun hc => ?_)
    · rw [if_pos hc] at h
      refine u_iconst (v := (-1)) X dX9_planOn_42 rfl ?_
      exact u_iretP X hr hret h hP hS dX9_planOn_43
    · rw [if_neg hc] at h
      refine u_aload_n X hl dX9_planOn_30 0 rfl ?_
      refine gf_X9_72_0 X hP dX9_planOn_31 ?_
      refine gf_X9_288_34 X hP dX9_planOn_34 ?_
      refine u_iload_n X hl dX9_planOn_37 1 rfl ?_
      obtain ⟨hin, h⟩ := ifn_inv h
      refine ld_44 X hP rfl hin dX9_planOn_38 ?_
      refine u_goto 43 X dX9_planOn_39 rfl ?_
      exact u_iretP X hr hret h hP hS dX9_planOn_43
def fT_taken_J53 (z : MS) (l1 : Int32) (l2 : Int32) (l3 : Int32) (l4 : Int32) : Option Int32 :=
  Option.bind (fHost_heldRow z l1) (fun w58 => if w58 = 0 then Option.bind (fT_planOn z l1) (fun w102 => if w102 = (-1) then some (-11) else (if l3 = 0 then some (-13) else (if w102 < 0 ∨ 4 ≤ w102.toNatClampNeg then none else Option.bind (fActs_isUnder (gI z 27 w102.toNatClampNeg) l2) (fun w131 => if w131 = 0 then some (-13) else some w102)))) else (if l4 = 0 then some (-13) else (if l1 < 0 ∨ 4 ≤ l1.toNatClampNeg then none else if (gI z 43 l1.toNatClampNeg) = (l2 - 10) then (if l1 < 0 ∨ 4 ≤ l1.toNatClampNeg then none else some (gI z 44 l1.toNatClampNeg)) else some (-13))))
def fT_taken_J33 (z : MS) (l1 : Int32) (l2 : Int32) (l3 : Int32) (s0 : Int32) : Option Int32 :=
  if (fT_isPlace l1) = 0 then some (-1) else (if l3 = 0 then (if s0 = 0 then some (-1) else fT_taken_J53 z l1 l2 l3 s0) else fT_taken_J53 z l1 l2 l3 s0)
def fT_taken_J32 (z : MS) (l1 : Int32) (l2 : Int32) (l3 : Int32) : Option Int32 :=
  fT_taken_J33 z l1 l2 l3 0
def fT_taken_J15 (z : MS) (l1 : Int32) (l2 : Int32) (s0 : Int32) : Option Int32 :=
  if l2 < 10 then fT_taken_J32 z l1 l2 s0 else (if 14 ≤ l2 then fT_taken_J32 z l1 l2 s0 else fT_taken_J33 z l1 l2 s0 1)
def fT_taken_J14 (z : MS) (l1 : Int32) (l2 : Int32) : Option Int32 :=
  fT_taken_J15 z l1 l2 0
def fT_taken (z : MS) (a0 : Int32) (a1 : Int32) : Option Int32 :=
  if a1 < 0 then fT_taken_J14 z a0 a1 else (if 6 ≤ a1 then fT_taken_J14 z a0 a1 else fT_taken_J15 z a0 a1 1)
set_option maxRecDepth 4000 in
theorem cT_taken (l : Launch) {z : MS} {a0 : Int32} {a1 : Int32} {r : Int32} (h : fT_taken z a0 a1 = some r) : CT l yX9_taken cX9_taken 6 (some .int) 2 42 (fun ad sd => [.ref (ad 0), .int a0, .int a1]) z (some (.int r)) z := by
  rw [fT_taken] at h
  refine u_start RX9 rfl (by decide) (fun _ _ => Nat.le_of_ble_eq_true rfl) (fun p e s m args below meth c R D ad cs sd A Q ls X hP hS hl hr hret => ?_)
  have hl : lv_has ls 6 [(0, .ref (ad 0)), (1, .int a0), (2, .int a1)] := hl
  refine u_iload_n X hl dX9_taken_0 2 rfl ?_
  have J15 : ∀ (H : Heap) (locs : List Loc) (ls : Array Slot) (s0_15 : Int32), lv_has ls 6 [(0, .ref (ad 0)), (1, .int a0), (2, .int a1)] → va_P D clss (wld cs ad z) H → va_S A s.heap H locs → fT_taken_J15 z a0 a1 s0_15 = some r → W p l e R s m args below meth c H locs 0 0 Q (F0 m 15 ls [.int s0_15]) := by
    intro H locs ls s0_15 hl hP hS h
    rw [fT_taken_J15] at h
    refine u_istore_n [(3, .int s0_15), (0, .ref (ad 0)), (1, .int a0), (2, .int a1)] X hl dX9_taken_15 (Nat.le_of_ble_eq_true rfl) rfl (fun ls hl => ?_)
    refine u_iload_n X hl dX9_taken_16 3 rfl ?_
    refine u_bipush (v := 10) X dX9_taken_17 rfl ?_
    have J33 : ∀ (H : Heap) (locs : List Loc) (ls : Array Slot) (s0_33 : Int32), lv_has ls 6 [(0, .ref (ad 0)), (1, .int a0), (2, .int a1), (3, .int s0_15)] → va_P D clss (wld cs ad z) H → va_S A s.heap H locs → fT_taken_J33 z a0 a1 s0_15 s0_33 = some r → W p l e R s m args below meth c H locs 0 0 Q (F0 m 33 ls [.int s0_33]) := by
      intro H locs ls s0_33 hl hP hS h
      rw [fT_taken_J33] at h
      refine u_istore [(4, .int s0_33), (0, .ref (ad 0)), (1, .int a0), (2, .int a1), (3, .int s0_15)] X hl dX9_taken_33 (Nat.le_of_ble_eq_true rfl) rfl (fun ls hl => ?_)
      refine u_iload_n X hl dX9_taken_35 2 rfl ?_
      refine u_callSi X hP hS hl dX9_taken_36 (cT_isPlace l z a0) cw_X9_254 rfl rfl rfl rfl ⟨rfl, rfl⟩ (fun H locs hP hS => ?_)
      refine u_if_eq 51 X dX9_taken_39 rfl (fun hc => ?_) (fun hc => ?_)
      · rw [if_pos hc] at h
        refine u_iconst (v := (-1)) X dX9_taken_51 rfl ?_
        exact u_iretP X hr hret h hP hS dX9_taken_52
      · rw [if_neg hc] at h
        refine u_iload_n X hl dX9_taken_42 4 rfl ?_
        have J53 : ∀ (H : Heap) (locs : List Loc) (ls : Array Slot), lv_has ls 6 [(0, .ref (ad 0)), (1, .int a0), (2, .int a1), (3, .int s0_15), (4, .int s0_33)] → va_P D clss (wld cs ad z) H → va_S A s.heap H locs → fT_taken_J53 z a0 a1 s0_15 s0_33 = some r → W p l e R s m args below meth c H locs 0 0 Q (F0 m 53 ls []) := by
          intro H locs ls hl hP hS h
          rw [fT_taken_J53] at h
          refine u_aload_n X hl dX9_taken_53 0 rfl ?_
          refine gf_X9_72_0 X hP dX9_taken_54 ?_
          refine u_iload_n X hl dX9_taken_57 1 rfl ?_
          obtain ⟨w58, hc58, h⟩ := ob_inv h
          refine u_callVi X hP hS hl dX9_taken_58 (cHost_heldRow l hc58) cw_X9_282 io_34 rfl rfl rfl rfl ⟨rfl, rfl⟩ (fun H locs hP hS => ?_)
          refine u_if_eq 100 X dX9_taken_61 rfl (fun hc => ?_) (fun hc => ?_)
          · rw [if_pos hc] at h
            refine u_aload_n X hl dX9_taken_100 0 rfl ?_
            refine u_iload_n X hl dX9_taken_101 1 rfl ?_
            obtain ⟨w102, hc102, h⟩ := ob_inv h
            refine u_callVi X hP hS hl dX9_taken_102 (cT_planOn l hc102) cw_X9_291 io_0 rfl rfl rfl rfl ⟨rfl, rfl⟩ (fun H locs hP hS => ?_)
            refine u_istore [(5, .int w102), (0, .ref (ad 0)), (1, .int a0), (2, .int a1), (3, .int s0_15), (4, .int s0_33)] X hl dX9_taken_105 (Nat.le_of_ble_eq_true rfl) rfl (fun ls hl => ?_)
            refine u_iload X hl dX9_taken_107 0 rfl ?_
            refine u_iconst (v := (-1)) X dX9_taken_109 rfl ?_
            refine u_icmp_ne 116 X dX9_taken_110 rfl (fun hc => ?_) (fun hc => ?_)
            · rw [if_neg hc] at h
              refine u_iload_n X hl dX9_taken_116 4 rfl ?_
              refine u_if_eq 142 X dX9_taken_117 rfl (fun hc => ?_) (fun hc => ?_)
              · rw [if_pos hc] at h
                refine u_bipush (v := (-13)) X dX9_taken_142 rfl ?_
                exact u_iretP X hr hret h hP hS dX9_taken_144
              · rw [if_neg hc] at h
                refine u_aload_n X hl dX9_taken_120 1 rfl ?_
                refine gf_X9_51_0 X hP dX9_taken_121 ?_
                refine gf_X9_230_26 X hP dX9_taken_124 ?_
                refine u_iload X hl dX9_taken_127 0 rfl ?_
                obtain ⟨hin, h⟩ := ifn_inv h
                refine ld_27 X hP rfl hin dX9_taken_129 ?_
                refine u_iload_n X hl dX9_taken_130 3 rfl ?_
                obtain ⟨w131, hc131, h⟩ := ob_inv h
                refine u_callSi X hP hS hl dX9_taken_131 (cActs_isUnder l z hc131) cw_X9_294 rfl rfl rfl rfl ⟨rfl, rfl⟩ (fun H locs hP hS => ?_)
                refine u_if_eq 142 X dX9_taken_134 rfl (fun hc => ?_) (fun hc => ?_)
                · rw [if_pos hc] at h
                  refine u_bipush (v := (-13)) X dX9_taken_142 rfl ?_
                  exact u_iretP X hr hret h hP hS dX9_taken_144
                · rw [if_neg hc] at h
                  refine u_iload X hl dX9_taken_137 0 rfl ?_
                  refine u_goto 144 X dX9_taken_139 rfl ?_
                  exact u_iretP X hr hret h hP hS dX9_taken_144
            · rw [if_pos hc] at h
              refine u_bipush (v := (-11)) X dX9_taken_113 rfl ?_
              exact u_iretP X hr hret h hP hS dX9_taken_115
          · rw [if_neg hc] at h
            refine u_iload X hl dX9_taken_64 4 rfl ?_
            refine u_if_eq 97 X dX9_taken_66 rfl (fun hc => ?_) (fun hc => ?_)
            · rw [if_pos hc] at h
              refine u_bipush (v := (-13)) X dX9_taken_97 rfl ?_
              exact u_iretP X hr hret h hP hS dX9_taken_99
            · rw [if_neg hc] at h
              refine u_aload_n X hl dX9_taken_69 0 rfl ?_
              refine gf_X9_72_0 X hP dX9_taken_70 ?_
              refine gf_X9_285_34 X hP dX9_taken_73 ?_
              refine u_iload_n X hl dX9_taken_76 1 rfl ?_
              obtain ⟨hin, h⟩ := ifn_inv h
              refine ld_43 X hP rfl hin dX9_taken_77 ?_
              refine u_iload_n X hl dX9_taken_78 2 rfl ?_
              refine u_bipush (v := 10) X dX9_taken_79 rfl ?_
              refine u_isub X dX9_taken_81 ?_
              refine u_icmp_ne 97 X dX9_taken_82 rfl (fun hc => ?_) (fun hc => ?_)
              · rw [if_neg hc] at h
                refine u_bipush (v := (-13)) X dX9_taken_97 rfl ?_
                exact u_iretP X hr hret h hP hS dX9_taken_99
              · rw [if_pos hc] at h
                refine u_aload_n X hl dX9_taken_85 0 rfl ?_
                refine gf_X9_72_0 X hP dX9_taken_86 ?_
                refine gf_X9_288_34 X hP dX9_taken_89 ?_
                refine u_iload_n X hl dX9_taken_92 1 rfl ?_
                obtain ⟨hin, h⟩ := ifn_inv h
                refine ld_44 X hP rfl hin dX9_taken_93 ?_
                refine u_goto 99 X dX9_taken_94 rfl ?_
                exact u_iretP X hr hret h hP hS dX9_taken_99
        refine u_if_ne 53 X dX9_taken_43 rfl (fun hc => ?_) (fun hc => ?_)
        · rw [if_neg hc] at h
          exact J53 _ _ _ (lv_sub hl [1, 2, 3, 4, 0] rfl) hP hS h
        · rw [if_pos hc] at h
          refine u_iload X hl dX9_taken_46 0 rfl ?_
          refine u_if_ne 53 X dX9_taken_48 rfl (fun hc => ?_) (fun hc => ?_)
          · rw [if_neg hc] at h
            exact J53 _ _ _ (lv_sub hl [1, 2, 3, 4, 0] rfl) hP hS h
          · rw [if_pos hc] at h
            refine u_iconst (v := (-1)) X dX9_taken_51 rfl ?_
            exact u_iretP X hr hret h hP hS dX9_taken_52
    have J32 : ∀ (H : Heap) (locs : List Loc) (ls : Array Slot), lv_has ls 6 [(0, .ref (ad 0)), (1, .int a0), (2, .int a1), (3, .int s0_15)] → va_P D clss (wld cs ad z) H → va_S A s.heap H locs → fT_taken_J32 z a0 a1 s0_15 = some r → W p l e R s m args below meth c H locs 0 0 Q (F0 m 32 ls []) := by
      intro H locs ls hl hP hS h
      rw [fT_taken_J32] at h
      refine u_iconst (v := 0) X dX9_taken_32 rfl ?_
      exact J33 _ _ _ _ hl hP hS h
    refine u_icmp_lt 32 X dX9_taken_19 rfl (fun hc => ?_) (fun hc => ?_)
    · rw [if_pos hc] at h
      exact J32 _ _ _ (lv_sub hl [1, 2, 3, 0] rfl) hP hS h
    · rw [if_neg hc] at h
      refine u_iload_n X hl dX9_taken_22 3 rfl ?_
      refine u_bipush (v := 14) X dX9_taken_23 rfl ?_
      refine u_icmp_ge 32 X dX9_taken_25 rfl (fun hc => ?_) (fun hc => ?_)
      · rw [if_pos hc] at h
        exact J32 _ _ _ (lv_sub hl [1, 2, 3, 0] rfl) hP hS h
      · rw [if_neg hc] at h
        refine u_iconst (v := 1) X dX9_taken_28 rfl ?_
        refine u_goto 33 X dX9_taken_29 rfl ?_
        exact J33 _ _ _ _ (lv_sub hl [1, 2, 3, 0] rfl) hP hS h
  have J14 : ∀ (H : Heap) (locs : List Loc) (ls : Array Slot), lv_has ls 6 [(0, .ref (ad 0)), (1, .int a0), (2, .int a1)] → va_P D clss (wld cs ad z) H → va_S A s.heap H locs → fT_taken_J14 z a0 a1 = some r → W p l e R s m args below meth c H locs 0 0 Q (F0 m 14 ls []) := by
    intro H locs ls hl hP hS h
    rw [fT_taken_J14] at h
    refine u_iconst (v := 0) X dX9_taken_14 rfl ?_
    exact J15 _ _ _ _ hl hP hS h
  refine u_if_lt 14 X dX9_taken_1 rfl (fun hc => ?_) (fun hc => ?_)
  · rw [if_pos hc] at h
    exact J14 _ _ _ hl hP hS h
  · rw [if_neg hc] at h
    refine u_iload_n X hl dX9_taken_4 2 rfl ?_
    refine u_bipush (v := 6) X dX9_taken_5 rfl ?_
    refine u_icmp_ge 14 X dX9_taken_7 rfl (fun hc => ?_) (fun hc => ?_)
    · rw [if_pos hc] at h
      exact J14 _ _ _ hl hP hS h
    · rw [if_neg hc] at h
      refine u_iconst (v := 1) X dX9_taken_10 rfl ?_
      refine u_goto 15 X dX9_taken_11 rfl ?_
      exact J15 _ _ _ _ hl hP hS h
def fT_act (z : MS) (a0 : Int32) (a1 : Int32) (a2 : Int32) : Option (Int32 × MS) :=
  Option.bind (fActs_forget z) (fun zc4 => if (fT_isPlace a0) = 0 then some (0, zc4) else (if a1 < 0 then some (0, zc4) else (if a1 < 4 then Option.bind (fT_planOn zc4 a0) (fun w27 => if w27 = (-1) then some (0, zc4) else (if w27 < 0 ∨ 4 ≤ w27.toNatClampNeg then none else if w27 < 0 ∨ 4 ≤ w27.toNatClampNeg then none else ob2 (fActs_perform zc4 (gI zc4 27 w27.toNatClampNeg) w27 (gI zc4 28 w27.toNatClampNeg) a1 a2) (fun w70 zc70 => some (w70, zc70)))) else some (0, zc4))))
set_option maxRecDepth 4000 in
theorem cT_act (l : Launch) {z : MS} {a0 : Int32} {a1 : Int32} {a2 : Int32} {r : Int32} {z1 : MS} (h : fT_act z a0 a1 a2 = some (r, z1)) : CT l yX9_act cX9_act 5 (some .int) 48 1153 (fun ad sd => [.ref (ad 0), .int a0, .int a1, .int a2]) z (some (.int r)) z1 := by
  rw [fT_act] at h
  refine u_start RX9 rfl (by decide) (fun _ _ => Nat.le_of_ble_eq_true rfl) (fun p e s m args below meth c R D ad cs sd A Q ls X hP hS hl hr hret => ?_)
  have hl : lv_has ls 5 [(0, .ref (ad 0)), (1, .int a0), (2, .int a1), (3, .int a2)] := hl
  refine u_aload_n X hl dX9_act_0 0 rfl ?_
  refine gf_X9_65_0 X hP dX9_act_1 ?_
  obtain ⟨zc4, hc4, h⟩ := ob_inv h
  refine u_callVv X hP hS hl dX9_act_4 (cActs_forget l hc4) cw_X9_297 io_32 rfl rfl rfl rfl ⟨rfl, rfl⟩ (fun H locs hP hS => ?_)
  refine u_iload_n X hl dX9_act_7 1 rfl ?_
  refine u_callSi X hP hS hl dX9_act_8 (cT_isPlace l zc4 a0) cw_X9_254 rfl rfl rfl rfl ⟨rfl, rfl⟩ (fun H locs hP hS => ?_)
  refine u_if_eq 23 X dX9_act_11 rfl (fun hc => ?_) (fun hc => ?_)
  · rw [if_pos hc] at h
    refine u_iconst (v := 0) X dX9_act_23 rfl ?_
    exact u_iretM X hr hret h hP hS dX9_act_24
  · rw [if_neg hc] at h
    refine u_iload_n X hl dX9_act_14 2 rfl ?_
    refine u_if_lt 23 X dX9_act_15 rfl (fun hc => ?_) (fun hc => ?_)
    · rw [if_pos hc] at h
      refine u_iconst (v := 0) X dX9_act_23 rfl ?_
      exact u_iretM X hr hret h hP hS dX9_act_24
    · rw [if_neg hc] at h
      refine u_iload_n X hl dX9_act_18 2 rfl ?_
      refine u_iconst (v := 4) X dX9_act_19 rfl ?_
      refine u_icmp_lt 25 X dX9_act_20 rfl (fun hc => ?_) (fun hc => ?_)
      · rw [if_pos hc] at h
        refine u_aload_n X hl dX9_act_25 0 rfl ?_
        refine u_iload_n X hl dX9_act_26 1 rfl ?_
        obtain ⟨w27, hc27, h⟩ := ob_inv h
        refine u_callVi X hP hS hl dX9_act_27 (cT_planOn l hc27) cw_X9_291 io_0 rfl rfl rfl rfl ⟨rfl, rfl⟩ (fun H locs hP hS => ?_)
        refine u_istore [(4, .int w27), (0, .ref (ad 0)), (1, .int a0), (2, .int a1), (3, .int a2)] X hl dX9_act_30 (Nat.le_of_ble_eq_true rfl) rfl (fun ls hl => ?_)
        refine u_iload X hl dX9_act_32 0 rfl ?_
        refine u_iconst (v := (-1)) X dX9_act_34 rfl ?_
        refine u_icmp_ne 42 X dX9_act_35 rfl (fun hc => ?_) (fun hc => ?_)
        · rw [if_neg hc] at h
          refine u_aload_n X hl dX9_act_42 1 rfl ?_
          refine gf_X9_65_0 X hP dX9_act_43 ?_
          refine u_aload_n X hl dX9_act_46 1 rfl ?_
          refine gf_X9_51_0 X hP dX9_act_47 ?_
          refine gf_X9_230_26 X hP dX9_act_50 ?_
          refine u_iload X hl dX9_act_53 0 rfl ?_
          obtain ⟨hin, h⟩ := ifn_inv h
          refine ld_27 X hP rfl hin dX9_act_55 ?_
          refine u_iload X hl dX9_act_56 0 rfl ?_
          refine u_aload_n X hl dX9_act_58 1 rfl ?_
          refine gf_X9_51_0 X hP dX9_act_59 ?_
          refine gf_X9_233_26 X hP dX9_act_62 ?_
          refine u_iload X hl dX9_act_65 0 rfl ?_
          obtain ⟨hin, h⟩ := ifn_inv h
          refine ld_28 X hP rfl hin dX9_act_67 ?_
          refine u_iload_n X hl dX9_act_68 3 rfl ?_
          refine u_iload_n X hl dX9_act_69 4 rfl ?_
          obtain ⟨w70, zc70, hc70, h⟩ := ob2_inv h
          refine u_callVi X hP hS hl dX9_act_70 (cActs_perform l hc70) cw_X9_300 io_32 rfl rfl rfl rfl ⟨rfl, rfl⟩ (fun H locs hP hS => ?_)
          exact u_iretM X hr hret h hP hS dX9_act_73
        · rw [if_pos hc] at h
          refine u_iconst (v := 0) X dX9_act_38 rfl ?_
          refine u_goto 73 X dX9_act_39 rfl ?_
          exact u_iretM X hr hret h hP hS dX9_act_73
      · rw [if_neg hc] at h
        refine u_iconst (v := 0) X dX9_act_23 rfl ?_
        exact u_iretM X hr hret h hP hS dX9_act_24
def fT_trace (z : MS) (a0 : Int32) : Option Int32 :=
  if a0 < 0 then some (-3) else (if a0 < (gI z 32 1) then (if a0 < 0 ∨ 30 ≤ a0.toNatClampNeg then none else some (gI z 33 a0.toNatClampNeg)) else some (-3))
set_option maxRecDepth 4000 in
theorem cT_trace (l : Launch) {z : MS} {a0 : Int32} {r : Int32} (h : fT_trace z a0 = some r) : CT l yX9_trace cX9_trace 2 (some .int) 0 0 (fun ad sd => [.ref (ad 0), .int a0]) z (some (.int r)) z := by
  rw [fT_trace] at h
  refine u_start RX9 rfl (by decide) (fun _ _ => Nat.le_of_ble_eq_true rfl) (fun p e s m args below meth c R D ad cs sd A Q ls X hP hS hl hr hret => ?_)
  have hl : lv_has ls 2 [(0, .ref (ad 0)), (1, .int a0)] := hl
  refine u_iload_n X hl dX9_trace_0 1 rfl ?_
  refine u_if_lt 15 X dX9_trace_1 rfl (fun hc => ?_) (fun hc => ?_)
  · rw [if_pos hc] at h
    refine u_bipush (v := (-3)) X dX9_trace_15 rfl ?_
    refine u_goto 29 X dX9_trace_17 rfl ?_
    exact u_iretP X hr hret h hP hS dX9_trace_29
  · rw [if_neg hc] at h
    refine u_iload_n X hl dX9_trace_4 1 rfl ?_
    refine u_aload_n X hl dX9_trace_5 0 rfl ?_
    refine gf_X9_65_0 X hP dX9_trace_6 ?_
    refine gf_X9_304_32 X hP dX9_trace_9 ?_
    refine u_icmp_lt 20 X dX9_trace_12 rfl (fun hc => ?_) (fun hc => ?_)
    · rw [if_pos hc] at h
      refine u_aload_n X hl dX9_trace_20 0 rfl ?_
      refine gf_X9_65_0 X hP dX9_trace_21 ?_
      refine gf_X9_307_32 X hP dX9_trace_24 ?_
      refine u_iload_n X hl dX9_trace_27 1 rfl ?_
      obtain ⟨hin, h⟩ := ifn_inv h
      refine ld_33 X hP rfl hin dX9_trace_28 ?_
      exact u_iretP X hr hret h hP hS dX9_trace_29
    · rw [if_neg hc] at h
      refine u_bipush (v := (-3)) X dX9_trace_15 rfl ?_
      refine u_goto 29 X dX9_trace_17 rfl ?_
      exact u_iretP X hr hret h hP hS dX9_trace_29
def fT_days_J111 (z : MS) (K66 : MS → Int32 → Option (Int32 × MS)) (l4 : Int32) (s1 : Int32) (s2 : Int32) (s3 : Int32) : Option (Int32 × MS) :=
  Option.bind (fHouse_seat z s1 s2 s3) (fun zc111 => K66 zc111 (l4 + 1))
def fT_days_L66 (l1 : Int32) (l2 : Int32) (l3 : Int32) : Nat → MS → Int32 → Option (Int32 × MS)
  | 0, _, _ => none
  | n + 1, z, l4 => if l3 ≤ l4 then some (l3, z) else (if l2 < 0 ∨ 4 ≤ l2.toNatClampNeg then none else if l4 < 0 ∨ 40 ≤ l4.toNatClampNeg then none else if (fHouse_isPerson z (gI z (38 + l2.toNatClampNeg) l4.toNatClampNeg)) = 0 then fT_days_J111 z (fT_days_L66 l1 l2 l3 n) l4 l4 l1 (-1) else fT_days_J111 z (fT_days_L66 l1 l2 l3 n) l4 l4 l1 (gI z (38 + l2.toNatClampNeg) l4.toNatClampNeg))
def fT_days (z : MS) (a0 : Int32) (a1 : Int32) : Option (Int32 × MS) :=
  if (fT_isPost a0) = 0 then some ((-1), z) else (if (fT_isPlace a1) = 0 then some ((-1), z) else (if a1 < 0 ∨ 4 ≤ a1.toNatClampNeg then none else if (gI z 35 a1.toNatClampNeg) = (-1) then some ((-11), z) else (if a1 < 0 ∨ 4 ≤ a1.toNatClampNeg then none else if (gI z 35 a1.toNatClampNeg) = 2 then (if a1 < 0 ∨ 4 ≤ a1.toNatClampNeg then none else fT_days_L66 a0 a1 (mnI (gI z 36 a1.toNatClampNeg) 10) LF z 0) else some ((-13), z))))
set_option maxRecDepth 4000 in
theorem cT_days (l : Launch) {z : MS} {a0 : Int32} {a1 : Int32} {r : Int32} {z1 : MS} (h : fT_days z a0 a1 = some (r, z1)) : CT l yX9_days cX9_days 6 (some .int) 1 23 (fun ad sd => [.ref (ad 0), .int a0, .int a1]) z (some (.int r)) z1 := by
  rw [fT_days] at h
  refine u_start RX9 rfl (by decide) (fun _ _ => Nat.le_of_ble_eq_true rfl) (fun p e s m args below meth c R D ad cs sd A Q ls X hP hS hl hr hret => ?_)
  have hl : lv_has ls 6 [(0, .ref (ad 0)), (1, .int a0), (2, .int a1)] := hl
  refine u_iload_n X hl dX9_days_0 1 rfl ?_
  refine u_callSi X hP hS hl dX9_days_1 (cT_isPost l z a0) cw_X9_140 rfl rfl rfl rfl ⟨rfl, rfl⟩ (fun H locs hP hS => ?_)
  refine u_if_eq 14 X dX9_days_4 rfl (fun hc => ?_) (fun hc => ?_)
  · rw [if_pos hc] at h
    refine u_iconst (v := (-1)) X dX9_days_14 rfl ?_
    exact u_iretM X hr hret h hP hS dX9_days_15
  · rw [if_neg hc] at h
    refine u_iload_n X hl dX9_days_7 2 rfl ?_
    refine u_callSi X hP hS hl dX9_days_8 (cT_isPlace l z a1) cw_X9_254 rfl rfl rfl rfl ⟨rfl, rfl⟩ (fun H locs hP hS => ?_)
    refine u_if_ne 16 X dX9_days_11 rfl (fun hc => ?_) (fun hc => ?_)
    · rw [if_neg hc] at h
      refine u_aload_n X hl dX9_days_16 0 rfl ?_
      refine gf_X9_72_0 X hP dX9_days_17 ?_
      refine gf_X9_261_34 X hP dX9_days_20 ?_
      refine u_iload_n X hl dX9_days_23 2 rfl ?_
      obtain ⟨hin, h⟩ := ifn_inv h
      refine ld_35 X hP rfl hin dX9_days_24 ?_
      refine u_iconst (v := (-1)) X dX9_days_25 rfl ?_
      refine u_icmp_ne 32 X dX9_days_26 rfl (fun hc => ?_) (fun hc => ?_)
      · rw [if_neg hc] at h
        refine u_aload_n X hl dX9_days_32 0 rfl ?_
        refine gf_X9_72_0 X hP dX9_days_33 ?_
        refine gf_X9_261_34 X hP dX9_days_36 ?_
        refine u_iload_n X hl dX9_days_39 2 rfl ?_
        obtain ⟨hin, h⟩ := ifn_inv h
        refine ld_35 X hP rfl hin dX9_days_40 ?_
        refine u_iconst (v := 2) X dX9_days_41 rfl ?_
        refine u_icmp_eq 48 X dX9_days_42 rfl (fun hc => ?_) (fun hc => ?_)
        · rw [if_pos hc] at h
          refine u_aload_n X hl dX9_days_48 0 rfl ?_
          refine gf_X9_72_0 X hP dX9_days_49 ?_
          refine gf_X9_310_34 X hP dX9_days_52 ?_
          refine u_iload_n X hl dX9_days_55 2 rfl ?_
          obtain ⟨hin, h⟩ := ifn_inv h
          refine ld_36 X hP rfl hin dX9_days_56 ?_
          refine u_bipush (v := 10) X dX9_days_57 rfl ?_
          refine mw_X9_313 X hl dX9_days_59 rfl ⟨rfl, rfl⟩ ?_
          refine u_istore_n [(3, .int (mnI (gI z 36 a1.toNatClampNeg) 10)), (0, .ref (ad 0)), (1, .int a0), (2, .int a1)] X hl dX9_days_62 (Nat.le_of_ble_eq_true rfl) rfl (fun ls hl => ?_)
          refine u_iconst (v := 0) X dX9_days_63 rfl ?_
          refine u_istore [(4, .int 0), (3, .int (mnI (gI z 36 a1.toNatClampNeg) 10)), (0, .ref (ad 0)), (1, .int a0), (2, .int a1)] X hl dX9_days_64 (Nat.le_of_ble_eq_true rfl) rfl (fun ls hl => ?_)
          have L66 : ∀ (n : Nat) (H : Heap) (locs : List Loc) (ls : Array Slot) (z_66 : MS) (l4_66 : Int32), lv_has ls 6 [(0, .ref (ad 0)), (1, .int a0), (2, .int a1), (3, .int (mnI (gI z 36 a1.toNatClampNeg) 10)), (4, .int l4_66)] → va_P D clss (wld cs ad z_66) H → va_S A s.heap H locs → fT_days_L66 a0 a1 (mnI (gI z 36 a1.toNatClampNeg) 10) n z_66 l4_66 = some (r, z1) → W p l e R s m args below meth c H locs 0 0 Q (F0 m 66 ls []) := by
            intro n
            induction n with
            | zero =>
              intro H locs ls z_66 l4_66 hl hP hS h
              rw [fT_days_L66] at h
              cases h
            | succ n66 ih66 =>
              intro H locs ls z_66 l4_66 hl hP hS h
              rw [fT_days_L66] at h
              refine u_iload X hl dX9_days_66 4 rfl ?_
              refine u_iload_n X hl dX9_days_68 3 rfl ?_
              refine u_icmp_ge 120 X dX9_days_69 rfl (fun hc => ?_) (fun hc => ?_)
              · rw [if_pos hc] at h
                refine u_iload_n X hl dX9_days_120 3 rfl ?_
                exact u_iretM X hr hret h hP hS dX9_days_121
              · rw [if_neg hc] at h
                refine u_aload_n X hl dX9_days_72 0 rfl ?_
                refine gf_X9_72_0 X hP dX9_days_73 ?_
                refine gf_X9_269_34 X hP dX9_days_76 ?_
                refine u_iload_n X hl dX9_days_79 2 rfl ?_
                obtain ⟨hin, h⟩ := ifn_inv h
                have hdy := vp_lt hin
                refine la_37 X hP hin dX9_days_80 ?_
                refine u_iload X hl dX9_days_81 4 rfl ?_
                obtain ⟨hin, h⟩ := ifn_inv h
                refine ld_dyn38 hdy X hP rfl hin dX9_days_83 ?_
                refine u_istore [(5, .int (gI z_66 (38 + a1.toNatClampNeg) l4_66.toNatClampNeg)), (0, .ref (ad 0)), (1, .int a0), (2, .int a1), (3, .int (mnI (gI z 36 a1.toNatClampNeg) 10)), (4, .int l4_66)] X hl dX9_days_84 (Nat.le_of_ble_eq_true rfl) rfl (fun ls hl => ?_)
                refine u_aload_n X hl dX9_days_86 1 rfl ?_
                refine gf_X9_10_0 X hP dX9_days_87 ?_
                refine u_iload X hl dX9_days_90 5 rfl ?_
                refine u_iload_n X hl dX9_days_92 2 rfl ?_
                refine u_aload_n X hl dX9_days_93 1 rfl ?_
                refine gf_X9_10_0 X hP dX9_days_94 ?_
                refine u_iload X hl dX9_days_97 0 rfl ?_
                refine u_callVi X hP hS hl dX9_days_99 (cHouse_isPerson l z_66 (gI z_66 (38 + a1.toNatClampNeg) l4_66.toNatClampNeg)) cw_X9_124 io_1 rfl rfl rfl rfl ⟨rfl, rfl⟩ (fun H locs hP hS => ?_)
                have J111 : ∀ (H : Heap) (locs : List Loc) (ls : Array Slot) (s3_111 : Int32), lv_has ls 6 [(0, .ref (ad 0)), (1, .int a0), (2, .int a1), (3, .int (mnI (gI z 36 a1.toNatClampNeg) 10)), (4, .int l4_66)] → va_P D clss (wld cs ad z_66) H → va_S A s.heap H locs → fT_days_J111 z_66 (fT_days_L66 a0 a1 (mnI (gI z 36 a1.toNatClampNeg) 10) n66) l4_66 l4_66 a0 s3_111 = some (r, z1) → W p l e R s m args below meth c H locs 0 0 Q (F0 m 111 ls [.int s3_111, .int a0, .int l4_66, .ref (ad 1)]) := by
                  intro H locs ls s3_111 hl hP hS h
                  rw [fT_days_J111] at h
                  obtain ⟨zc111, hc111, h⟩ := ob_inv h
                  refine u_callVv X hP hS hl dX9_days_111 (cHouse_seat l hc111) cw_X9_146 io_1 rfl rfl rfl rfl ⟨rfl, rfl⟩ (fun H locs hP hS => ?_)
                  refine u_iinc [(4, .int (l4_66 + 1)), (0, .ref (ad 0)), (1, .int a0), (2, .int a1), (3, .int (mnI (gI z 36 a1.toNatClampNeg) 10))] X hl dX9_days_114 4 rfl rfl (Nat.le_of_ble_eq_true rfl) rfl (fun ls hl => ?_)
                  refine u_goto 66 X dX9_days_117 rfl ?_
                  exact ih66 _ _ _ _ _ (lv_sub hl [1, 2, 3, 4, 0] rfl) hP hS h
                refine u_if_eq 110 X dX9_days_102 rfl (fun hc => ?_) (fun hc => ?_)
                · rw [if_pos hc] at h
                  refine u_iconst (v := (-1)) X dX9_days_110 rfl ?_
                  exact J111 _ _ _ _ (lv_sub hl [1, 2, 3, 4, 5] rfl) hP hS h
                · rw [if_neg hc] at h
                  refine u_iload X hl dX9_days_105 0 rfl ?_
                  refine u_goto 111 X dX9_days_107 rfl ?_
                  exact J111 _ _ _ _ (lv_sub hl [1, 2, 3, 4, 5] rfl) hP hS h
          exact L66 LF _ _ _ _ _ (lv_sub hl [2, 3, 4, 1, 0] rfl) hP hS h
        · rw [if_neg hc] at h
          refine u_bipush (v := (-13)) X dX9_days_45 rfl ?_
          exact u_iretM X hr hret h hP hS dX9_days_47
      · rw [if_pos hc] at h
        refine u_bipush (v := (-11)) X dX9_days_29 rfl ?_
        exact u_iretM X hr hret h hP hS dX9_days_31
    · rw [if_pos hc] at h
      refine u_iconst (v := (-1)) X dX9_days_14 rfl ?_
      exact u_iretM X hr hret h hP hS dX9_days_15
def fT_many (z : MS) (a0 : Int32) : Option Int32 :=
  if a0 = 0 then some (gI z 1 0) else if a0 = 1 then some (gI z 26 3) else if a0 = 2 then Option.bind (fHouse_sittings z) (fun w60 => some w60) else if a0 = 3 then some (gI z 30 3) else if a0 = 4 then some (gI z 8 2) else if a0 = 5 then some (gI z 32 1) else some (-1)
set_option maxRecDepth 4000 in
theorem cT_many (l : Launch) {z : MS} {a0 : Int32} {r : Int32} (h : fT_many z a0 = some r) : CT l yX9_many cX9_many 2 (some .int) 3 66 (fun ad sd => [.ref (ad 0), .int a0]) z (some (.int r)) z := by
  rw [fT_many] at h
  refine u_start RX9 rfl (by decide) (fun _ _ => Nat.le_of_ble_eq_true rfl) (fun p e s m args below meth c R D ad cs sd A Q ls X hP hS hl hr hret => ?_)
  have hl : lv_has ls 2 [(0, .ref (ad 0)), (1, .int a0)] := hl
  refine u_iload_n X hl dX9_many_0 1 rfl ?_
  by_cases hc0 : a0 = 0
  · rw [if_pos hc0] at h
    refine u_tsw 40 X dX9_many_1 (v := 0) (by rw [hc0]; rfl) (by decide) ?_
    refine u_aload_n X hl dX9_many_40 0 rfl ?_
    refine gf_X9_10_0 X hP dX9_many_41 ?_
    refine gf_X9_101_1 X hP dX9_many_44 ?_
    exact u_iretP X hr hret h hP hS dX9_many_47
  rw [if_neg hc0] at h
  by_cases hc1 : a0 = 1
  · rw [if_pos hc1] at h
    refine u_tsw 48 X dX9_many_1 (v := 1) (by rw [hc1]; rfl) (by decide) ?_
    refine u_aload_n X hl dX9_many_48 0 rfl ?_
    refine gf_X9_51_0 X hP dX9_many_49 ?_
    refine gf_X9_222_26 X hP dX9_many_52 ?_
    exact u_iretP X hr hret h hP hS dX9_many_55
  rw [if_neg hc1] at h
  by_cases hc2 : a0 = 2
  · rw [if_pos hc2] at h
    refine u_tsw 56 X dX9_many_1 (v := 2) (by rw [hc2]; rfl) (by decide) ?_
    refine u_aload_n X hl dX9_many_56 0 rfl ?_
    refine gf_X9_10_0 X hP dX9_many_57 ?_
    obtain ⟨w60, hc60, h⟩ := ob_inv h
    refine u_callVi X hP hS hl dX9_many_60 (cHouse_sittings l hc60) cw_X9_318 io_1 rfl rfl rfl rfl ⟨rfl, rfl⟩ (fun H locs hP hS => ?_)
    exact u_iretP X hr hret h hP hS dX9_many_63
  rw [if_neg hc2] at h
  by_cases hc3 : a0 = 3
  · rw [if_pos hc3] at h
    refine u_tsw 64 X dX9_many_1 (v := 3) (by rw [hc3]; rfl) (by decide) ?_
    refine u_aload_n X hl dX9_many_64 0 rfl ?_
    refine gf_X9_58_0 X hP dX9_many_65 ?_
    refine gf_X9_321_30 X hP dX9_many_68 ?_
    exact u_iretP X hr hret h hP hS dX9_many_71
  rw [if_neg hc3] at h
  by_cases hc4 : a0 = 4
  · rw [if_pos hc4] at h
    refine u_tsw 72 X dX9_many_1 (v := 4) (by rw [hc4]; rfl) (by decide) ?_
    refine u_aload_n X hl dX9_many_72 0 rfl ?_
    refine gf_X9_19_0 X hP dX9_many_73 ?_
    refine gf_X9_86_8 X hP dX9_many_76 ?_
    exact u_iretP X hr hret h hP hS dX9_many_79
  rw [if_neg hc4] at h
  by_cases hc5 : a0 = 5
  · rw [if_pos hc5] at h
    refine u_tsw 80 X dX9_many_1 (v := 5) (by rw [hc5]; rfl) (by decide) ?_
    refine u_aload_n X hl dX9_many_80 0 rfl ?_
    refine gf_X9_65_0 X hP dX9_many_81 ?_
    refine gf_X9_304_32 X hP dX9_many_84 ?_
    exact u_iretP X hr hret h hP hS dX9_many_87
  rw [if_neg hc5] at h
  refine u_tswD 88 X dX9_many_1 rfl (vs := [0, 1, 2, 3, 4, 5]) (List.forall_mem_cons.mpr ⟨fun q9 => hc0 (Int32.toInt_inj.mp q9), (List.forall_mem_cons.mpr ⟨fun q9 => hc1 (Int32.toInt_inj.mp q9), (List.forall_mem_cons.mpr ⟨fun q9 => hc2 (Int32.toInt_inj.mp q9), (List.forall_mem_cons.mpr ⟨fun q9 => hc3 (Int32.toInt_inj.mp q9), (List.forall_mem_cons.mpr ⟨fun q9 => hc4 (Int32.toInt_inj.mp q9), (List.forall_mem_cons.mpr ⟨fun q9 => hc5 (Int32.toInt_inj.mp q9), (fun _ h9 => by cases h9)⟩)⟩)⟩)⟩)⟩)⟩) (by decide) ?_
  refine u_iconst (v := (-1)) X dX9_many_88 rfl ?_
  exact u_iretP X hr hret h hP hS dX9_many_89
def fT_keep (z : MS) : Option (Int32 × MS) :=
  Option.bind (fHouse45_become_1 z) (fun zc8 => Option.bind (fPlans52_become_26 zc8) (fun zc19 => some (1, pI zc19 0 11 1)))
set_option maxRecDepth 4000 in
theorem cT_keep (l : Launch) {z : MS} {r : Int32} {z1 : MS} (h : fT_keep z = some (r, z1)) : CT l yX9_keep cX9_keep 1 (some .int) 2 47 (fun ad sd => [.ref (ad 0)]) z (some (.int r)) z1 := by
  rw [fT_keep] at h
  refine u_start RX9 rfl (by decide) (fun _ _ => Nat.le_of_ble_eq_true rfl) (fun p e s m args below meth c R D ad cs sd A Q ls X hP hS hl hr hret => ?_)
  have hl : lv_has ls 1 [(0, .ref (ad 0))] := hl
  refine u_aload_n X hl dX9_keep_0 0 rfl ?_
  refine gf_X9_76_0 X hP dX9_keep_1 ?_
  refine u_aload_n X hl dX9_keep_4 0 rfl ?_
  refine gf_X9_10_0 X hP dX9_keep_5 ?_
  obtain ⟨zc8, hc8, h⟩ := ob_inv h
  refine u_callVv X hP hS hl dX9_keep_8 (cHouse45_become_1 l hc8) cw_X9_322 io_45 rfl rfl rfl rfl ⟨rfl, rfl⟩ (fun H locs hP hS => ?_)
  refine u_aload_n X hl dX9_keep_11 0 rfl ?_
  refine gf_X9_79_0 X hP dX9_keep_12 ?_
  refine u_aload_n X hl dX9_keep_15 0 rfl ?_
  refine gf_X9_51_0 X hP dX9_keep_16 ?_
  obtain ⟨zc19, hc19, h⟩ := ob_inv h
  refine u_callVv X hP hS hl dX9_keep_19 (cPlans52_become_26 l hc19) cw_X9_325 io_52 rfl rfl rfl rfl ⟨rfl, rfl⟩ (fun H locs hP hS => ?_)
  refine u_aload_n X hl dX9_keep_22 0 rfl ?_
  refine u_iconst (v := 1) X dX9_keep_23 rfl ?_
  refine pf_X9_82_0 X hP hS (Or.inr rfl) dX9_keep_24 (fun H locs hP hS => ?_)
  refine u_iconst (v := 1) X dX9_keep_27 rfl ?_
  exact u_iretM X hr hret h hP hS dX9_keep_28
def fT_again (z : MS) : Option (Int32 × MS) :=
  if (gI z 0 11) = 0 then some ((-3), z) else Option.bind (fHouse_become_45 z) (fun zc18 => Option.bind (fPlans_become_52 zc18) (fun zc29 => some (gI zc29 1 0, zc29)))
set_option maxRecDepth 4000 in
theorem cT_again (l : Launch) {z : MS} {r : Int32} {z1 : MS} (h : fT_again z = some (r, z1)) : CT l yX9_again cX9_again 1 (some .int) 2 47 (fun ad sd => [.ref (ad 0)]) z (some (.int r)) z1 := by
  rw [fT_again] at h
  refine u_start RX9 rfl (by decide) (fun _ _ => Nat.le_of_ble_eq_true rfl) (fun p e s m args below meth c R D ad cs sd A Q ls X hP hS hl hr hret => ?_)
  have hl : lv_has ls 1 [(0, .ref (ad 0))] := hl
  refine u_aload_n X hl dX9_again_0 0 rfl ?_
  refine gf_X9_82_0 X hP dX9_again_1 ?_
  refine u_if_ne 10 X dX9_again_4 rfl (fun hc => ?_) (fun hc => ?_)
  · rw [if_neg hc] at h
    refine u_aload_n X hl dX9_again_10 0 rfl ?_
    refine gf_X9_10_0 X hP dX9_again_11 ?_
    refine u_aload_n X hl dX9_again_14 0 rfl ?_
    refine gf_X9_76_0 X hP dX9_again_15 ?_
    obtain ⟨zc18, hc18, h⟩ := ob_inv h
    refine u_callVv X hP hS hl dX9_again_18 (cHouse_become_45 l hc18) cw_X9_322 io_1 rfl rfl rfl rfl ⟨rfl, rfl⟩ (fun H locs hP hS => ?_)
    refine u_aload_n X hl dX9_again_21 0 rfl ?_
    refine gf_X9_51_0 X hP dX9_again_22 ?_
    refine u_aload_n X hl dX9_again_25 0 rfl ?_
    refine gf_X9_79_0 X hP dX9_again_26 ?_
    obtain ⟨zc29, hc29, h⟩ := ob_inv h
    refine u_callVv X hP hS hl dX9_again_29 (cPlans_become_52 l hc29) cw_X9_325 io_26 rfl rfl rfl rfl ⟨rfl, rfl⟩ (fun H locs hP hS => ?_)
    refine u_aload_n X hl dX9_again_32 0 rfl ?_
    refine gf_X9_10_0 X hP dX9_again_33 ?_
    refine gf_X9_101_1 X hP dX9_again_36 ?_
    exact u_iretM X hr hret h hP hS dX9_again_39
  · rw [if_pos hc] at h
    refine u_bipush (v := (-3)) X dX9_again_7 rfl ?_
    exact u_iretM X hr hret h hP hS dX9_again_9
