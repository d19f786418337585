theorem dX3_init_0 : decode cX3_init 0 = .ok (.aload_n 0, 1) := by decide +kernel
theorem dX3_init_1 : decode cX3_init 1 = .ok (.invokespecial 3, 3) := by decide +kernel
theorem dX3_init_4 : decode cX3_init 4 = .ok (.aload_n 0, 1) := by decide +kernel
theorem dX3_init_5 : decode cX3_init 5 = .ok (.aload_n 1, 1) := by decide +kernel
theorem dX3_init_6 : decode cX3_init 6 = .ok (.putfield 9, 3) := by decide +kernel
theorem dX3_init_9 : decode cX3_init 9 = .ok (.return_, 1) := by decide +kernel
theorem dX3_trustOfPair_0 : decode cX3_trustOfPair 0 = .ok (.aload_n 0, 1) := by decide +kernel
theorem dX3_trustOfPair_1 : decode cX3_trustOfPair 1 = .ok (.getfield 9, 3) := by decide +kernel
theorem dX3_trustOfPair_4 : decode cX3_trustOfPair 4 = .ok (.getfield 15, 3) := by decide +kernel
theorem dX3_trustOfPair_7 : decode cX3_trustOfPair 7 = .ok (.iload_n 1, 1) := by decide +kernel
theorem dX3_trustOfPair_8 : decode cX3_trustOfPair 8 = .ok (.iaload, 1) := by decide +kernel
theorem dX3_trustOfPair_9 : decode cX3_trustOfPair 9 = .ok (.istore_n 3, 1) := by decide +kernel
theorem dX3_trustOfPair_10 : decode cX3_trustOfPair 10 = .ok (.iconst 0, 1) := by decide +kernel
theorem dX3_trustOfPair_11 : decode cX3_trustOfPair 11 = .ok (.istore 4, 2) := by decide +kernel
theorem dX3_trustOfPair_13 : decode cX3_trustOfPair 13 = .ok (.iload 4, 2) := by decide +kernel
theorem dX3_trustOfPair_15 : decode cX3_trustOfPair 15 = .ok (.iload_n 2, 1) := by decide +kernel
theorem dX3_trustOfPair_16 : decode cX3_trustOfPair 16 = .ok (.if_icmp .ge 33, 3) := by decide +kernel
theorem dX3_trustOfPair_19 : decode cX3_trustOfPair 19 = .ok (.aload_n 0, 1) := by decide +kernel
theorem dX3_trustOfPair_20 : decode cX3_trustOfPair 20 = .ok (.iload_n 3, 1) := by decide +kernel
theorem dX3_trustOfPair_21 : decode cX3_trustOfPair 21 = .ok (.aload_n 0, 1) := by decide +kernel
theorem dX3_trustOfPair_22 : decode cX3_trustOfPair 22 = .ok (.getfield 9, 3) := by decide +kernel
theorem dX3_trustOfPair_25 : decode cX3_trustOfPair 25 = .ok (.iload 4, 2) := by decide +kernel
theorem dX3_trustOfPair_27 : decode cX3_trustOfPair 27 = .ok (.invokevirtual 21, 3) := by decide +kernel
theorem dX3_trustOfPair_30 : decode cX3_trustOfPair 30 = .ok (.iload_n 1, 1) := by decide +kernel
theorem dX3_trustOfPair_31 : decode cX3_trustOfPair 31 = .ok (.if_icmp .ne 7, 3) := by decide +kernel
theorem dX3_trustOfPair_34 : decode cX3_trustOfPair 34 = .ok (.iconst 1, 1) := by decide +kernel
theorem dX3_trustOfPair_35 : decode cX3_trustOfPair 35 = .ok (.goto 4, 3) := by decide +kernel
theorem dX3_trustOfPair_38 : decode cX3_trustOfPair 38 = .ok (.iconst 0, 1) := by decide +kernel
theorem dX3_trustOfPair_39 : decode cX3_trustOfPair 39 = .ok (.invokevirtual 25, 3) := by decide +kernel
theorem dX3_trustOfPair_42 : decode cX3_trustOfPair 42 = .ok (.istore_n 3, 1) := by decide +kernel
theorem dX3_trustOfPair_43 : decode cX3_trustOfPair 43 = .ok (.iinc 4 1, 3) := by decide +kernel
theorem dX3_trustOfPair_46 : decode cX3_trustOfPair 46 = .ok (.goto (-33), 3) := by decide +kernel
theorem dX3_trustOfPair_49 : decode cX3_trustOfPair 49 = .ok (.iload_n 3, 1) := by decide +kernel
theorem dX3_trustOfPair_50 : decode cX3_trustOfPair 50 = .ok (.ireturn, 1) := by decide +kernel
theorem dX3_trustAfter_0 : decode cX3_trustAfter 0 = .ok (.iload_n 2, 1) := by decide +kernel
theorem dX3_trustAfter_1 : decode cX3_trustAfter 1 = .ok (.ifCond .eq 14, 3) := by decide +kernel
theorem dX3_trustAfter_4 : decode cX3_trustAfter 4 = .ok (.iload_n 1, 1) := by decide +kernel
theorem dX3_trustAfter_5 : decode cX3_trustAfter 5 = .ok (.iconst 1, 1) := by decide +kernel
theorem dX3_trustAfter_6 : decode cX3_trustAfter 6 = .ok (.iadd, 1) := by decide +kernel
theorem dX3_trustAfter_7 : decode cX3_trustAfter 7 = .ok (.bipush 9, 2) := by decide +kernel
theorem dX3_trustAfter_9 : decode cX3_trustAfter 9 = .ok (.invokestatic 29, 3) := by decide +kernel
theorem dX3_trustAfter_12 : decode cX3_trustAfter 12 = .ok (.goto 18, 3) := by decide +kernel
theorem dX3_trustAfter_15 : decode cX3_trustAfter 15 = .ok (.iload_n 1, 1) := by decide +kernel
theorem dX3_trustAfter_16 : decode cX3_trustAfter 16 = .ok (.aload_n 0, 1) := by decide +kernel
theorem dX3_trustAfter_17 : decode cX3_trustAfter 17 = .ok (.getfield 9, 3) := by decide +kernel
theorem dX3_trustAfter_20 : decode cX3_trustAfter 20 = .ok (.getfield 35, 3) := by decide +kernel
theorem dX3_trustAfter_23 : decode cX3_trustAfter 23 = .ok (.iconst 5, 1) := by decide +kernel
theorem dX3_trustAfter_24 : decode cX3_trustAfter 24 = .ok (.iaload, 1) := by decide +kernel
theorem dX3_trustAfter_25 : decode cX3_trustAfter 25 = .ok (.isub, 1) := by decide +kernel
theorem dX3_trustAfter_26 : decode cX3_trustAfter 26 = .ok (.iconst 0, 1) := by decide +kernel
theorem dX3_trustAfter_27 : decode cX3_trustAfter 27 = .ok (.invokestatic 38, 3) := by decide +kernel
theorem dX3_trustAfter_30 : decode cX3_trustAfter 30 = .ok (.ireturn, 1) := by decide +kernel
theorem dX3_seenOf_0 : decode cX3_seenOf 0 = .ok (.aload_n 0, 1) := by decide +kernel
theorem dX3_seenOf_1 : decode cX3_seenOf 1 = .ok (.getfield 9, 3) := by decide +kernel
theorem dX3_seenOf_4 : decode cX3_seenOf 4 = .ok (.getfield 41, 3) := by decide +kernel
theorem dX3_seenOf_7 : decode cX3_seenOf 7 = .ok (.iload_n 1, 1) := by decide +kernel
theorem dX3_seenOf_8 : decode cX3_seenOf 8 = .ok (.bipush 8, 2) := by decide +kernel
theorem dX3_seenOf_10 : decode cX3_seenOf 10 = .ok (.idiv, 1) := by decide +kernel
theorem dX3_seenOf_11 : decode cX3_seenOf 11 = .ok (.iaload, 1) := by decide +kernel
theorem dX3_seenOf_12 : decode cX3_seenOf 12 = .ok (.aload_n 0, 1) := by decide +kernel
theorem dX3_seenOf_13 : decode cX3_seenOf 13 = .ok (.getfield 9, 3) := by decide +kernel
theorem dX3_seenOf_16 : decode cX3_seenOf 16 = .ok (.getfield 41, 3) := by decide +kernel
theorem dX3_seenOf_19 : decode cX3_seenOf 19 = .ok (.iload_n 1, 1) := by decide +kernel
theorem dX3_seenOf_20 : decode cX3_seenOf 20 = .ok (.bipush 8, 2) := by decide +kernel
theorem dX3_seenOf_22 : decode cX3_seenOf 22 = .ok (.irem, 1) := by decide +kernel
theorem dX3_seenOf_23 : decode cX3_seenOf 23 = .ok (.iaload, 1) := by decide +kernel
theorem dX3_seenOf_24 : decode cX3_seenOf 24 = .ok (.ior, 1) := by decide +kernel
theorem dX3_seenOf_25 : decode cX3_seenOf 25 = .ok (.istore 5, 2) := by decide +kernel
theorem dX3_seenOf_27 : decode cX3_seenOf 27 = .ok (.aload_n 0, 1) := by decide +kernel
theorem dX3_seenOf_28 : decode cX3_seenOf 28 = .ok (.getfield 9, 3) := by decide +kernel
theorem dX3_seenOf_31 : decode cX3_seenOf 31 = .ok (.getfield 35, 3) := by decide +kernel
theorem dX3_seenOf_34 : decode cX3_seenOf 34 = .ok (.iconst 2, 1) := by decide +kernel
theorem dX3_seenOf_35 : decode cX3_seenOf 35 = .ok (.iaload, 1) := by decide +kernel
theorem dX3_seenOf_36 : decode cX3_seenOf 36 = .ok (.istore 6, 2) := by decide +kernel
theorem dX3_seenOf_38 : decode cX3_seenOf 38 = .ok (.iload_n 3, 1) := by decide +kernel
theorem dX3_seenOf_39 : decode cX3_seenOf 39 = .ok (.iconst (-1), 1) := by decide +kernel
theorem dX3_seenOf_40 : decode cX3_seenOf 40 = .ok (.if_icmp .eq 26, 3) := by decide +kernel
theorem dX3_seenOf_43 : decode cX3_seenOf 43 = .ok (.iload 5, 2) := by decide +kernel
theorem dX3_seenOf_45 : decode cX3_seenOf 45 = .ok (.iload_n 3, 1) := by decide +kernel
theorem dX3_seenOf_46 : decode cX3_seenOf 46 = .ok (.ishr, 1) := by decide +kernel
theorem dX3_seenOf_47 : decode cX3_seenOf 47 = .ok (.iconst 1, 1) := by decide +kernel
theorem dX3_seenOf_48 : decode cX3_seenOf 48 = .ok (.iand, 1) := by decide +kernel
theorem dX3_seenOf_49 : decode cX3_seenOf 49 = .ok (.ifCond .ne 17, 3) := by decide +kernel
theorem dX3_seenOf_52 : decode cX3_seenOf 52 = .ok (.iload 6, 2) := by decide +kernel
theorem dX3_seenOf_54 : decode cX3_seenOf 54 = .ok (.aload_n 0, 1) := by decide +kernel
theorem dX3_seenOf_55 : decode cX3_seenOf 55 = .ok (.getfield 9, 3) := by decide +kernel
theorem dX3_seenOf_58 : decode cX3_seenOf 58 = .ok (.getfield 35, 3) := by decide +kernel
theorem dX3_seenOf_61 : decode cX3_seenOf 61 = .ok (.iconst 3, 1) := by decide +kernel
theorem dX3_seenOf_62 : decode cX3_seenOf 62 = .ok (.iaload, 1) := by decide +kernel
theorem dX3_seenOf_63 : decode cX3_seenOf 63 = .ok (.iadd, 1) := by decide +kernel
theorem dX3_seenOf_64 : decode cX3_seenOf 64 = .ok (.istore 6, 2) := by decide +kernel
theorem dX3_seenOf_66 : decode cX3_seenOf 66 = .ok (.iload_n 2, 1) := by decide +kernel
theorem dX3_seenOf_67 : decode cX3_seenOf 67 = .ok (.iconst (-1), 1) := by decide +kernel
theorem dX3_seenOf_68 : decode cX3_seenOf 68 = .ok (.if_icmp .eq 26, 3) := by decide +kernel
theorem dX3_seenOf_71 : decode cX3_seenOf 71 = .ok (.iload 5, 2) := by decide +kernel
theorem dX3_seenOf_73 : decode cX3_seenOf 73 = .ok (.iload_n 2, 1) := by decide +kernel
theorem dX3_seenOf_74 : decode cX3_seenOf 74 = .ok (.ishr, 1) := by decide +kernel
theorem dX3_seenOf_75 : decode cX3_seenOf 75 = .ok (.iconst 1, 1) := by decide +kernel
theorem dX3_seenOf_76 : decode cX3_seenOf 76 = .ok (.iand, 1) := by decide +kernel
theorem dX3_seenOf_77 : decode cX3_seenOf 77 = .ok (.ifCond .ne 17, 3) := by decide +kernel
theorem dX3_seenOf_80 : decode cX3_seenOf 80 = .ok (.iload 6, 2) := by decide +kernel
theorem dX3_seenOf_82 : decode cX3_seenOf 82 = .ok (.aload_n 0, 1) := by decide +kernel
theorem dX3_seenOf_83 : decode cX3_seenOf 83 = .ok (.getfield 9, 3) := by decide +kernel
theorem dX3_seenOf_86 : decode cX3_seenOf 86 = .ok (.getfield 35, 3) := by decide +kernel
theorem dX3_seenOf_89 : decode cX3_seenOf 89 = .ok (.iconst 4, 1) := by decide +kernel
theorem dX3_seenOf_90 : decode cX3_seenOf 90 = .ok (.iaload, 1) := by decide +kernel
theorem dX3_seenOf_91 : decode cX3_seenOf 91 = .ok (.iadd, 1) := by decide +kernel
theorem dX3_seenOf_92 : decode cX3_seenOf 92 = .ok (.istore 6, 2) := by decide +kernel
theorem dX3_seenOf_94 : decode cX3_seenOf 94 = .ok (.iload 4, 2) := by decide +kernel
theorem dX3_seenOf_96 : decode cX3_seenOf 96 = .ok (.ifCond .eq 6, 3) := by decide +kernel
theorem dX3_seenOf_99 : decode cX3_seenOf 99 = .ok (.iinc 6 6, 3) := by decide +kernel
theorem dX3_seenOf_102 : decode cX3_seenOf 102 = .ok (.iload 6, 2) := by decide +kernel
theorem dX3_seenOf_104 : decode cX3_seenOf 104 = .ok (.bipush 12, 2) := by decide +kernel
theorem dX3_seenOf_106 : decode cX3_seenOf 106 = .ok (.invokestatic 29, 3) := by decide +kernel
theorem dX3_seenOf_109 : decode cX3_seenOf 109 = .ok (.ireturn, 1) := by decide +kernel
theorem dX3_seenOn_0 : decode cX3_seenOn 0 = .ok (.aload_n 0, 1) := by decide +kernel
theorem dX3_seenOn_1 : decode cX3_seenOn 1 = .ok (.aload_n 0, 1) := by decide +kernel
theorem dX3_seenOn_2 : decode cX3_seenOn 2 = .ok (.getfield 9, 3) := by decide +kernel
theorem dX3_seenOn_5 : decode cX3_seenOn 5 = .ok (.iload_n 1, 1) := by decide +kernel
theorem dX3_seenOn_6 : decode cX3_seenOn 6 = .ok (.invokevirtual 21, 3) := by decide +kernel
theorem dX3_seenOn_9 : decode cX3_seenOn 9 = .ok (.aload_n 0, 1) := by decide +kernel
theorem dX3_seenOn_10 : decode cX3_seenOn 10 = .ok (.getfield 9, 3) := by decide +kernel
theorem dX3_seenOn_13 : decode cX3_seenOn 13 = .ok (.iload_n 1, 1) := by decide +kernel
theorem dX3_seenOn_14 : decode cX3_seenOn 14 = .ok (.iconst 2, 1) := by decide +kernel
theorem dX3_seenOn_15 : decode cX3_seenOn 15 = .ok (.invokevirtual 44, 3) := by decide +kernel
theorem dX3_seenOn_18 : decode cX3_seenOn 18 = .ok (.aload_n 0, 1) := by decide +kernel
theorem dX3_seenOn_19 : decode cX3_seenOn 19 = .ok (.getfield 9, 3) := by decide +kernel
theorem dX3_seenOn_22 : decode cX3_seenOn 22 = .ok (.iload_n 1, 1) := by decide +kernel
theorem dX3_seenOn_23 : decode cX3_seenOn 23 = .ok (.iconst 3, 1) := by decide +kernel
theorem dX3_seenOn_24 : decode cX3_seenOn 24 = .ok (.invokevirtual 44, 3) := by decide +kernel
theorem dX3_seenOn_27 : decode cX3_seenOn 27 = .ok (.aload_n 0, 1) := by decide +kernel
theorem dX3_seenOn_28 : decode cX3_seenOn 28 = .ok (.getfield 9, 3) := by decide +kernel
theorem dX3_seenOn_31 : decode cX3_seenOn 31 = .ok (.iload_n 1, 1) := by decide +kernel
theorem dX3_seenOn_32 : decode cX3_seenOn 32 = .ok (.invokevirtual 47, 3) := by decide +kernel
theorem dX3_seenOn_35 : decode cX3_seenOn 35 = .ok (.invokevirtual 51, 3) := by decide +kernel
theorem dX3_seenOn_38 : decode cX3_seenOn 38 = .ok (.ireturn, 1) := by decide +kernel
theorem dX3_worthOf_0 : decode cX3_worthOf 0 = .ok (.bipush 12, 2) := by decide +kernel
theorem dX3_worthOf_2 : decode cX3_worthOf 2 = .ok (.aload_n 0, 1) := by decide +kernel
theorem dX3_worthOf_3 : decode cX3_worthOf 3 = .ok (.getfield 9, 3) := by decide +kernel
theorem dX3_worthOf_6 : decode cX3_worthOf 6 = .ok (.getfield 35, 3) := by decide +kernel
theorem dX3_worthOf_9 : decode cX3_worthOf 9 = .ok (.iconst 0, 1) := by decide +kernel
theorem dX3_worthOf_10 : decode cX3_worthOf 10 = .ok (.iaload, 1) := by decide +kernel
theorem dX3_worthOf_11 : decode cX3_worthOf 11 = .ok (.imul, 1) := by decide +kernel
theorem dX3_worthOf_12 : decode cX3_worthOf 12 = .ok (.iload_n 1, 1) := by decide +kernel
theorem dX3_worthOf_13 : decode cX3_worthOf 13 = .ok (.imul, 1) := by decide +kernel
theorem dX3_worthOf_14 : decode cX3_worthOf 14 = .ok (.aload_n 0, 1) := by decide +kernel
theorem dX3_worthOf_15 : decode cX3_worthOf 15 = .ok (.getfield 9, 3) := by decide +kernel
theorem dX3_worthOf_18 : decode cX3_worthOf 18 = .ok (.getfield 35, 3) := by decide +kernel
theorem dX3_worthOf_21 : decode cX3_worthOf 21 = .ok (.iconst 1, 1) := by decide +kernel
theorem dX3_worthOf_22 : decode cX3_worthOf 22 = .ok (.iaload, 1) := by decide +kernel
theorem dX3_worthOf_23 : decode cX3_worthOf 23 = .ok (.iload_n 2, 1) := by decide +kernel
theorem dX3_worthOf_24 : decode cX3_worthOf 24 = .ok (.imul, 1) := by decide +kernel
theorem dX3_worthOf_25 : decode cX3_worthOf 25 = .ok (.isub, 1) := by decide +kernel
theorem dX3_worthOf_26 : decode cX3_worthOf 26 = .ok (.ireturn, 1) := by decide +kernel
theorem dX3_worthOn_0 : decode cX3_worthOn 0 = .ok (.aload_n 0, 1) := by decide +kernel
theorem dX3_worthOn_1 : decode cX3_worthOn 1 = .ok (.iload_n 1, 1) := by decide +kernel
theorem dX3_worthOn_2 : decode cX3_worthOn 2 = .ok (.aload_n 0, 1) := by decide +kernel
theorem dX3_worthOn_3 : decode cX3_worthOn 3 = .ok (.getfield 9, 3) := by decide +kernel
theorem dX3_worthOn_6 : decode cX3_worthOn 6 = .ok (.iload_n 1, 1) := by decide +kernel
theorem dX3_worthOn_7 : decode cX3_worthOn 7 = .ok (.invokevirtual 47, 3) := by decide +kernel
theorem dX3_worthOn_10 : decode cX3_worthOn 10 = .ok (.invokevirtual 55, 3) := by decide +kernel
theorem dX3_worthOn_13 : decode cX3_worthOn 13 = .ok (.ireturn, 1) := by decide +kernel
theorem dX3_worthIf_0 : decode cX3_worthIf 0 = .ok (.aload_n 0, 1) := by decide +kernel
theorem dX3_worthIf_1 : decode cX3_worthIf 1 = .ok (.getfield 9, 3) := by decide +kernel
theorem dX3_worthIf_4 : decode cX3_worthIf 4 = .ok (.iload_n 1, 1) := by decide +kernel
theorem dX3_worthIf_5 : decode cX3_worthIf 5 = .ok (.invokevirtual 21, 3) := by decide +kernel
theorem dX3_worthIf_8 : decode cX3_worthIf 8 = .ok (.istore_n 3, 1) := by decide +kernel
theorem dX3_worthIf_9 : decode cX3_worthIf 9 = .ok (.aload_n 0, 1) := by decide +kernel
theorem dX3_worthIf_10 : decode cX3_worthIf 10 = .ok (.iload_n 3, 1) := by decide +kernel
theorem dX3_worthIf_11 : decode cX3_worthIf 11 = .ok (.aload_n 0, 1) := by decide +kernel
theorem dX3_worthIf_12 : decode cX3_worthIf 12 = .ok (.getfield 9, 3) := by decide +kernel
theorem dX3_worthIf_15 : decode cX3_worthIf 15 = .ok (.iload_n 1, 1) := by decide +kernel
theorem dX3_worthIf_16 : decode cX3_worthIf 16 = .ok (.iconst 2, 1) := by decide +kernel
theorem dX3_worthIf_17 : decode cX3_worthIf 17 = .ok (.invokevirtual 44, 3) := by decide +kernel
theorem dX3_worthIf_20 : decode cX3_worthIf 20 = .ok (.aload_n 0, 1) := by decide +kernel
theorem dX3_worthIf_21 : decode cX3_worthIf 21 = .ok (.getfield 9, 3) := by decide +kernel
theorem dX3_worthIf_24 : decode cX3_worthIf 24 = .ok (.iload_n 1, 1) := by decide +kernel
theorem dX3_worthIf_25 : decode cX3_worthIf 25 = .ok (.iconst 3, 1) := by decide +kernel
theorem dX3_worthIf_26 : decode cX3_worthIf 26 = .ok (.invokevirtual 44, 3) := by decide +kernel
theorem dX3_worthIf_29 : decode cX3_worthIf 29 = .ok (.iload_n 2, 1) := by decide +kernel
theorem dX3_worthIf_30 : decode cX3_worthIf 30 = .ok (.invokevirtual 51, 3) := by decide +kernel
theorem dX3_worthIf_33 : decode cX3_worthIf 33 = .ok (.istore 4, 2) := by decide +kernel
theorem dX3_worthIf_35 : decode cX3_worthIf 35 = .ok (.aload_n 0, 1) := by decide +kernel
theorem dX3_worthIf_36 : decode cX3_worthIf 36 = .ok (.aload_n 0, 1) := by decide +kernel
theorem dX3_worthIf_37 : decode cX3_worthIf 37 = .ok (.iload_n 3, 1) := by decide +kernel
theorem dX3_worthIf_38 : decode cX3_worthIf 38 = .ok (.iload_n 1, 1) := by decide +kernel
theorem dX3_worthIf_39 : decode cX3_worthIf 39 = .ok (.invokevirtual 58, 3) := by decide +kernel
theorem dX3_worthIf_42 : decode cX3_worthIf 42 = .ok (.iload 4, 2) := by decide +kernel
theorem dX3_worthIf_44 : decode cX3_worthIf 44 = .ok (.invokevirtual 61, 3) := by decide +kernel
theorem dX3_worthIf_47 : decode cX3_worthIf 47 = .ok (.ireturn, 1) := by decide +kernel
theorem dX3_isPaying_0 : decode cX3_isPaying 0 = .ok (.iload_n 1, 1) := by decide +kernel
theorem dX3_isPaying_1 : decode cX3_isPaying 1 = .ok (.ifCond .le 15, 3) := by decide +kernel
theorem dX3_isPaying_4 : decode cX3_isPaying 4 = .ok (.iload_n 1, 1) := by decide +kernel
theorem dX3_isPaying_5 : decode cX3_isPaying 5 = .ok (.bipush 24, 2) := by decide +kernel
theorem dX3_isPaying_7 : decode cX3_isPaying 7 = .ok (.iload_n 2, 1) := by decide +kernel
theorem dX3_isPaying_8 : decode cX3_isPaying 8 = .ok (.imul, 1) := by decide +kernel
theorem dX3_isPaying_9 : decode cX3_isPaying 9 = .ok (.if_icmp .le 7, 3) := by decide +kernel
theorem dX3_isPaying_12 : decode cX3_isPaying 12 = .ok (.iconst 1, 1) := by decide +kernel
theorem dX3_isPaying_13 : decode cX3_isPaying 13 = .ok (.goto 4, 3) := by decide +kernel
theorem dX3_isPaying_16 : decode cX3_isPaying 16 = .ok (.iconst 0, 1) := by decide +kernel
theorem dX3_isPaying_17 : decode cX3_isPaying 17 = .ok (.ireturn, 1) := by decide +kernel
theorem dX3_payingDays_0 : decode cX3_payingDays 0 = .ok (.aload_n 0, 1) := by decide +kernel
theorem dX3_payingDays_1 : decode cX3_payingDays 1 = .ok (.aload_n 0, 1) := by decide +kernel
theorem dX3_payingDays_2 : decode cX3_payingDays 2 = .ok (.getfield 9, 3) := by decide +kernel
theorem dX3_payingDays_5 : decode cX3_payingDays 5 = .ok (.getfield 35, 3) := by decide +kernel
theorem dX3_payingDays_8 : decode cX3_payingDays 8 = .ok (.bipush 6, 2) := by decide +kernel
theorem dX3_payingDays_10 : decode cX3_payingDays 10 = .ok (.iaload, 1) := by decide +kernel
theorem dX3_payingDays_11 : decode cX3_payingDays 11 = .ok (.invokevirtual 64, 3) := by decide +kernel
theorem dX3_payingDays_14 : decode cX3_payingDays 14 = .ok (.ireturn, 1) := by decide +kernel
theorem dX3_payingDaysBy_0 : decode cX3_payingDaysBy 0 = .ok (.iconst 0, 1) := by decide +kernel
theorem dX3_payingDaysBy_1 : decode cX3_payingDaysBy 1 = .ok (.istore_n 2, 1) := by decide +kernel
theorem dX3_payingDaysBy_2 : decode cX3_payingDaysBy 2 = .ok (.iconst 0, 1) := by decide +kernel
theorem dX3_payingDaysBy_3 : decode cX3_payingDaysBy 3 = .ok (.istore_n 3, 1) := by decide +kernel
theorem dX3_payingDaysBy_4 : decode cX3_payingDaysBy 4 = .ok (.iload_n 3, 1) := by decide +kernel
theorem dX3_payingDaysBy_5 : decode cX3_payingDaysBy 5 = .ok (.bipush 10, 2) := by decide +kernel
theorem dX3_payingDaysBy_7 : decode cX3_payingDaysBy 7 = .ok (.if_icmp .ge 40, 3) := by decide +kernel
theorem dX3_payingDaysBy_10 : decode cX3_payingDaysBy 10 = .ok (.aload_n 0, 1) := by decide +kernel
theorem dX3_payingDaysBy_11 : decode cX3_payingDaysBy 11 = .ok (.getfield 9, 3) := by decide +kernel
theorem dX3_payingDaysBy_14 : decode cX3_payingDaysBy 14 = .ok (.iload_n 3, 1) := by decide +kernel
theorem dX3_payingDaysBy_15 : decode cX3_payingDaysBy 15 = .ok (.invokevirtual 21, 3) := by decide +kernel
theorem dX3_payingDaysBy_18 : decode cX3_payingDaysBy 18 = .ok (.iconst (-1), 1) := by decide +kernel
theorem dX3_payingDaysBy_19 : decode cX3_payingDaysBy 19 = .ok (.if_icmp .eq 22, 3) := by decide +kernel
theorem dX3_payingDaysBy_22 : decode cX3_payingDaysBy 22 = .ok (.aload_n 0, 1) := by decide +kernel
theorem dX3_payingDaysBy_23 : decode cX3_payingDaysBy 23 = .ok (.aload_n 0, 1) := by decide +kernel
theorem dX3_payingDaysBy_24 : decode cX3_payingDaysBy 24 = .ok (.iload_n 3, 1) := by decide +kernel
theorem dX3_payingDaysBy_25 : decode cX3_payingDaysBy 25 = .ok (.invokevirtual 67, 3) := by decide +kernel
theorem dX3_payingDaysBy_28 : decode cX3_payingDaysBy 28 = .ok (.iload_n 1, 1) := by decide +kernel
theorem dX3_payingDaysBy_29 : decode cX3_payingDaysBy 29 = .ok (.invokevirtual 70, 3) := by decide +kernel
theorem dX3_payingDaysBy_32 : decode cX3_payingDaysBy 32 = .ok (.ifCond .eq 9, 3) := by decide +kernel
theorem dX3_payingDaysBy_35 : decode cX3_payingDaysBy 35 = .ok (.iload_n 2, 1) := by decide +kernel
theorem dX3_payingDaysBy_36 : decode cX3_payingDaysBy 36 = .ok (.iconst 1, 1) := by decide +kernel
theorem dX3_payingDaysBy_37 : decode cX3_payingDaysBy 37 = .ok (.iload_n 3, 1) := by decide +kernel
theorem dX3_payingDaysBy_38 : decode cX3_payingDaysBy 38 = .ok (.ishl, 1) := by decide +kernel
theorem dX3_payingDaysBy_39 : decode cX3_payingDaysBy 39 = .ok (.ior, 1) := by decide +kernel
theorem dX3_payingDaysBy_40 : decode cX3_payingDaysBy 40 = .ok (.istore_n 2, 1) := by decide +kernel
theorem dX3_payingDaysBy_41 : decode cX3_payingDaysBy 41 = .ok (.iinc 3 1, 3) := by decide +kernel
theorem dX3_payingDaysBy_44 : decode cX3_payingDaysBy 44 = .ok (.goto (-40), 3) := by decide +kernel
theorem dX3_payingDaysBy_47 : decode cX3_payingDaysBy 47 = .ok (.iload_n 2, 1) := by decide +kernel
theorem dX3_payingDaysBy_48 : decode cX3_payingDaysBy 48 = .ok (.ireturn, 1) := by decide +kernel
theorem dX3_leastTell_0 : decode cX3_leastTell 0 = .ok (.iconst 0, 1) := by decide +kernel
theorem dX3_leastTell_1 : decode cX3_leastTell 1 = .ok (.istore_n 1, 1) := by decide +kernel
theorem dX3_leastTell_2 : decode cX3_leastTell 2 = .ok (.iload_n 1, 1) := by decide +kernel
theorem dX3_leastTell_3 : decode cX3_leastTell 3 = .ok (.bipush 99, 2) := by decide +kernel
theorem dX3_leastTell_5 : decode cX3_leastTell 5 = .ok (.if_icmp .gt 19, 3) := by decide +kernel
theorem dX3_leastTell_8 : decode cX3_leastTell 8 = .ok (.aload_n 0, 1) := by decide +kernel
theorem dX3_leastTell_9 : decode cX3_leastTell 9 = .ok (.iload_n 1, 1) := by decide +kernel
theorem dX3_leastTell_10 : decode cX3_leastTell 10 = .ok (.invokevirtual 64, 3) := by decide +kernel
theorem dX3_leastTell_13 : decode cX3_leastTell 13 = .ok (.ifCond .ne 5, 3) := by decide +kernel
theorem dX3_leastTell_16 : decode cX3_leastTell 16 = .ok (.iload_n 1, 1) := by decide +kernel
theorem dX3_leastTell_17 : decode cX3_leastTell 17 = .ok (.ireturn, 1) := by decide +kernel
theorem dX3_leastTell_18 : decode cX3_leastTell 18 = .ok (.iinc 1 1, 3) := by decide +kernel
theorem dX3_leastTell_21 : decode cX3_leastTell 21 = .ok (.goto (-19), 3) := by decide +kernel
theorem dX3_leastTell_24 : decode cX3_leastTell 24 = .ok (.bipush (-3), 2) := by decide +kernel
theorem dX3_leastTell_26 : decode cX3_leastTell 26 = .ok (.ireturn, 1) := by decide +kernel
theorem dX3_surprisesNeeded_0 : decode cX3_surprisesNeeded 0 = .ok (.aload_n 0, 1) := by decide +kernel
theorem dX3_surprisesNeeded_1 : decode cX3_surprisesNeeded 1 = .ok (.getfield 9, 3) := by decide +kernel
theorem dX3_surprisesNeeded_4 : decode cX3_surprisesNeeded 4 = .ok (.getfield 35, 3) := by decide +kernel
theorem dX3_surprisesNeeded_7 : decode cX3_surprisesNeeded 7 = .ok (.bipush 6, 2) := by decide +kernel
theorem dX3_surprisesNeeded_9 : decode cX3_surprisesNeeded 9 = .ok (.iaload, 1) := by decide +kernel
theorem dX3_surprisesNeeded_10 : decode cX3_surprisesNeeded 10 = .ok (.istore_n 1, 1) := by decide +kernel
theorem dX3_surprisesNeeded_11 : decode cX3_surprisesNeeded 11 = .ok (.iconst 0, 1) := by decide +kernel
theorem dX3_surprisesNeeded_12 : decode cX3_surprisesNeeded 12 = .ok (.istore_n 2, 1) := by decide +kernel
theorem dX3_surprisesNeeded_13 : decode cX3_surprisesNeeded 13 = .ok (.iconst 0, 1) := by decide +kernel
theorem dX3_surprisesNeeded_14 : decode cX3_surprisesNeeded 14 = .ok (.istore_n 3, 1) := by decide +kernel
theorem dX3_surprisesNeeded_15 : decode cX3_surprisesNeeded 15 = .ok (.iload_n 3, 1) := by decide +kernel
theorem dX3_surprisesNeeded_16 : decode cX3_surprisesNeeded 16 = .ok (.bipush 10, 2) := by decide +kernel
theorem dX3_surprisesNeeded_18 : decode cX3_surprisesNeeded 18 = .ok (.if_icmp .ge 58, 3) := by decide +kernel
theorem dX3_surprisesNeeded_21 : decode cX3_surprisesNeeded 21 = .ok (.aload_n 0, 1) := by decide +kernel
theorem dX3_surprisesNeeded_22 : decode cX3_surprisesNeeded 22 = .ok (.getfield 9, 3) := by decide +kernel
theorem dX3_surprisesNeeded_25 : decode cX3_surprisesNeeded 25 = .ok (.iload_n 3, 1) := by decide +kernel
theorem dX3_surprisesNeeded_26 : decode cX3_surprisesNeeded 26 = .ok (.invokevirtual 21, 3) := by decide +kernel
theorem dX3_surprisesNeeded_29 : decode cX3_surprisesNeeded 29 = .ok (.iconst (-1), 1) := by decide +kernel
theorem dX3_surprisesNeeded_30 : decode cX3_surprisesNeeded 30 = .ok (.if_icmp .eq 40, 3) := by decide +kernel
theorem dX3_surprisesNeeded_33 : decode cX3_surprisesNeeded 33 = .ok (.aload_n 0, 1) := by decide +kernel
theorem dX3_surprisesNeeded_34 : decode cX3_surprisesNeeded 34 = .ok (.aload_n 0, 1) := by decide +kernel
theorem dX3_surprisesNeeded_35 : decode cX3_surprisesNeeded 35 = .ok (.iload_n 3, 1) := by decide +kernel
theorem dX3_surprisesNeeded_36 : decode cX3_surprisesNeeded 36 = .ok (.iconst 0, 1) := by decide +kernel
theorem dX3_surprisesNeeded_37 : decode cX3_surprisesNeeded 37 = .ok (.invokevirtual 55, 3) := by decide +kernel
theorem dX3_surprisesNeeded_40 : decode cX3_surprisesNeeded 40 = .ok (.iload_n 1, 1) := by decide +kernel
theorem dX3_surprisesNeeded_41 : decode cX3_surprisesNeeded 41 = .ok (.invokevirtual 70, 3) := by decide +kernel
theorem dX3_surprisesNeeded_44 : decode cX3_surprisesNeeded 44 = .ok (.ifCond .eq 26, 3) := by decide +kernel
theorem dX3_surprisesNeeded_47 : decode cX3_surprisesNeeded 47 = .ok (.aload_n 0, 1) := by decide +kernel
theorem dX3_surprisesNeeded_48 : decode cX3_surprisesNeeded 48 = .ok (.aload_n 0, 1) := by decide +kernel
theorem dX3_surprisesNeeded_49 : decode cX3_surprisesNeeded 49 = .ok (.iload_n 3, 1) := by decide +kernel
theorem dX3_surprisesNeeded_50 : decode cX3_surprisesNeeded 50 = .ok (.iconst 1, 1) := by decide +kernel
theorem dX3_surprisesNeeded_51 : decode cX3_surprisesNeeded 51 = .ok (.invokevirtual 55, 3) := by decide +kernel
theorem dX3_surprisesNeeded_54 : decode cX3_surprisesNeeded 54 = .ok (.iload_n 1, 1) := by decide +kernel
theorem dX3_surprisesNeeded_55 : decode cX3_surprisesNeeded 55 = .ok (.invokevirtual 70, 3) := by decide +kernel
theorem dX3_surprisesNeeded_58 : decode cX3_surprisesNeeded 58 = .ok (.ifCond .eq 6, 3) := by decide +kernel
theorem dX3_surprisesNeeded_61 : decode cX3_surprisesNeeded 61 = .ok (.bipush (-3), 2) := by decide +kernel
theorem dX3_surprisesNeeded_63 : decode cX3_surprisesNeeded 63 = .ok (.ireturn, 1) := by decide +kernel
theorem dX3_surprisesNeeded_64 : decode cX3_surprisesNeeded 64 = .ok (.iload_n 2, 1) := by decide +kernel
theorem dX3_surprisesNeeded_65 : decode cX3_surprisesNeeded 65 = .ok (.iconst 1, 1) := by decide +kernel
theorem dX3_surprisesNeeded_66 : decode cX3_surprisesNeeded 66 = .ok (.iload_n 3, 1) := by decide +kernel
theorem dX3_surprisesNeeded_67 : decode cX3_surprisesNeeded 67 = .ok (.ishl, 1) := by decide +kernel
theorem dX3_surprisesNeeded_68 : decode cX3_surprisesNeeded 68 = .ok (.ior, 1) := by decide +kernel
theorem dX3_surprisesNeeded_69 : decode cX3_surprisesNeeded 69 = .ok (.istore_n 2, 1) := by decide +kernel
theorem dX3_surprisesNeeded_70 : decode cX3_surprisesNeeded 70 = .ok (.iinc 3 1, 3) := by decide +kernel
theorem dX3_surprisesNeeded_73 : decode cX3_surprisesNeeded 73 = .ok (.goto (-58), 3) := by decide +kernel
theorem dX3_surprisesNeeded_76 : decode cX3_surprisesNeeded 76 = .ok (.iload_n 2, 1) := by decide +kernel
theorem dX3_surprisesNeeded_77 : decode cX3_surprisesNeeded 77 = .ok (.ireturn, 1) := by decide +kernel
theorem dX3_brokenOn_0 : decode cX3_brokenOn 0 = .ok (.aload_n 0, 1) := by decide +kernel
theorem dX3_brokenOn_1 : decode cX3_brokenOn 1 = .ok (.iload_n 1, 1) := by decide +kernel
theorem dX3_brokenOn_2 : decode cX3_brokenOn 2 = .ok (.invokevirtual 74, 3) := by decide +kernel
theorem dX3_brokenOn_5 : decode cX3_brokenOn 5 = .ok (.ifCond .eq 5, 3) := by decide +kernel
theorem dX3_brokenOn_8 : decode cX3_brokenOn 8 = .ok (.iconst 1, 1) := by decide +kernel
theorem dX3_brokenOn_9 : decode cX3_brokenOn 9 = .ok (.ireturn, 1) := by decide +kernel
theorem dX3_brokenOn_10 : decode cX3_brokenOn 10 = .ok (.aload_n 0, 1) := by decide +kernel
theorem dX3_brokenOn_11 : decode cX3_brokenOn 11 = .ok (.iload_n 1, 1) := by decide +kernel
theorem dX3_brokenOn_12 : decode cX3_brokenOn 12 = .ok (.invokevirtual 77, 3) := by decide +kernel
theorem dX3_brokenOn_15 : decode cX3_brokenOn 15 = .ok (.ifCond .eq 5, 3) := by decide +kernel
theorem dX3_brokenOn_18 : decode cX3_brokenOn 18 = .ok (.iconst 2, 1) := by decide +kernel
theorem dX3_brokenOn_19 : decode cX3_brokenOn 19 = .ok (.ireturn, 1) := by decide +kernel
theorem dX3_brokenOn_20 : decode cX3_brokenOn 20 = .ok (.aload_n 0, 1) := by decide +kernel
theorem dX3_brokenOn_21 : decode cX3_brokenOn 21 = .ok (.getfield 9, 3) := by decide +kernel
theorem dX3_brokenOn_24 : decode cX3_brokenOn 24 = .ok (.iload_n 1, 1) := by decide +kernel
theorem dX3_brokenOn_25 : decode cX3_brokenOn 25 = .ok (.invokevirtual 21, 3) := by decide +kernel
theorem dX3_brokenOn_28 : decode cX3_brokenOn 28 = .ok (.istore_n 2, 1) := by decide +kernel
theorem dX3_brokenOn_29 : decode cX3_brokenOn 29 = .ok (.iload_n 2, 1) := by decide +kernel
theorem dX3_brokenOn_30 : decode cX3_brokenOn 30 = .ok (.iconst (-1), 1) := by decide +kernel
theorem dX3_brokenOn_31 : decode cX3_brokenOn 31 = .ok (.if_icmp .ne 5, 3) := by decide +kernel
theorem dX3_brokenOn_34 : decode cX3_brokenOn 34 = .ok (.iconst 0, 1) := by decide +kernel
theorem dX3_brokenOn_35 : decode cX3_brokenOn 35 = .ok (.ireturn, 1) := by decide +kernel
theorem dX3_brokenOn_36 : decode cX3_brokenOn 36 = .ok (.aload_n 0, 1) := by decide +kernel
theorem dX3_brokenOn_37 : decode cX3_brokenOn 37 = .ok (.getfield 9, 3) := by decide +kernel
theorem dX3_brokenOn_40 : decode cX3_brokenOn 40 = .ok (.iload_n 2, 1) := by decide +kernel
theorem dX3_brokenOn_41 : decode cX3_brokenOn 41 = .ok (.bipush 8, 2) := by decide +kernel
theorem dX3_brokenOn_43 : decode cX3_brokenOn 43 = .ok (.idiv, 1) := by decide +kernel
theorem dX3_brokenOn_44 : decode cX3_brokenOn 44 = .ok (.iload_n 2, 1) := by decide +kernel
theorem dX3_brokenOn_45 : decode cX3_brokenOn 45 = .ok (.bipush 8, 2) := by decide +kernel
theorem dX3_brokenOn_47 : decode cX3_brokenOn 47 = .ok (.irem, 1) := by decide +kernel
theorem dX3_brokenOn_48 : decode cX3_brokenOn 48 = .ok (.invokevirtual 80, 3) := by decide +kernel
theorem dX3_brokenOn_51 : decode cX3_brokenOn 51 = .ok (.ifCond .eq 5, 3) := by decide +kernel
theorem dX3_brokenOn_54 : decode cX3_brokenOn 54 = .ok (.iconst 3, 1) := by decide +kernel
theorem dX3_brokenOn_55 : decode cX3_brokenOn 55 = .ok (.ireturn, 1) := by decide +kernel
theorem dX3_brokenOn_56 : decode cX3_brokenOn 56 = .ok (.aload_n 0, 1) := by decide +kernel
theorem dX3_brokenOn_57 : decode cX3_brokenOn 57 = .ok (.getfield 9, 3) := by decide +kernel
theorem dX3_brokenOn_60 : decode cX3_brokenOn 60 = .ok (.iload_n 2, 1) := by decide +kernel
theorem dX3_brokenOn_61 : decode cX3_brokenOn 61 = .ok (.iload_n 1, 1) := by decide +kernel
theorem dX3_brokenOn_62 : decode cX3_brokenOn 62 = .ok (.invokevirtual 83, 3) := by decide +kernel
theorem dX3_brokenOn_65 : decode cX3_brokenOn 65 = .ok (.ifCond .eq 5, 3) := by decide +kernel
theorem dX3_brokenOn_68 : decode cX3_brokenOn 68 = .ok (.iconst 4, 1) := by decide +kernel
theorem dX3_brokenOn_69 : decode cX3_brokenOn 69 = .ok (.ireturn, 1) := by decide +kernel
theorem dX3_brokenOn_70 : decode cX3_brokenOn 70 = .ok (.aload_n 0, 1) := by decide +kernel
theorem dX3_brokenOn_71 : decode cX3_brokenOn 71 = .ok (.aload_n 0, 1) := by decide +kernel
theorem dX3_brokenOn_72 : decode cX3_brokenOn 72 = .ok (.iload_n 1, 1) := by decide +kernel
theorem dX3_brokenOn_73 : decode cX3_brokenOn 73 = .ok (.aload_n 0, 1) := by decide +kernel
theorem dX3_brokenOn_74 : decode cX3_brokenOn 74 = .ok (.getfield 9, 3) := by decide +kernel
theorem dX3_brokenOn_77 : decode cX3_brokenOn 77 = .ok (.iload_n 1, 1) := by decide +kernel
theorem dX3_brokenOn_78 : decode cX3_brokenOn 78 = .ok (.invokevirtual 47, 3) := by decide +kernel
theorem dX3_brokenOn_81 : decode cX3_brokenOn 81 = .ok (.invokevirtual 55, 3) := by decide +kernel
theorem dX3_brokenOn_84 : decode cX3_brokenOn 84 = .ok (.aload_n 0, 1) := by decide +kernel
theorem dX3_brokenOn_85 : decode cX3_brokenOn 85 = .ok (.getfield 9, 3) := by decide +kernel
theorem dX3_brokenOn_88 : decode cX3_brokenOn 88 = .ok (.getfield 35, 3) := by decide +kernel
theorem dX3_brokenOn_91 : decode cX3_brokenOn 91 = .ok (.bipush 6, 2) := by decide +kernel
theorem dX3_brokenOn_93 : decode cX3_brokenOn 93 = .ok (.iaload, 1) := by decide +kernel
theorem dX3_brokenOn_94 : decode cX3_brokenOn 94 = .ok (.invokevirtual 70, 3) := by decide +kernel
theorem dX3_brokenOn_97 : decode cX3_brokenOn 97 = .ok (.ifCond .eq 7, 3) := by decide +kernel
theorem dX3_brokenOn_100 : decode cX3_brokenOn 100 = .ok (.iconst 5, 1) := by decide +kernel
theorem dX3_brokenOn_101 : decode cX3_brokenOn 101 = .ok (.goto 4, 3) := by decide +kernel
theorem dX3_brokenOn_104 : decode cX3_brokenOn 104 = .ok (.iconst 0, 1) := by decide +kernel
theorem dX3_brokenOn_105 : decode cX3_brokenOn 105 = .ok (.ireturn, 1) := by decide +kernel
theorem dX3_somebodyIsAway_0 : decode cX3_somebodyIsAway 0 = .ok (.iconst 0, 1) := by decide +kernel
theorem dX3_somebodyIsAway_1 : decode cX3_somebodyIsAway 1 = .ok (.istore_n 2, 1) := by decide +kernel
theorem dX3_somebodyIsAway_2 : decode cX3_somebodyIsAway 2 = .ok (.iload_n 2, 1) := by decide +kernel
theorem dX3_somebodyIsAway_3 : decode cX3_somebodyIsAway 3 = .ok (.iconst 4, 1) := by decide +kernel
theorem dX3_somebodyIsAway_4 : decode cX3_somebodyIsAway 4 = .ok (.if_icmp .ge 38, 3) := by decide +kernel
theorem dX3_somebodyIsAway_7 : decode cX3_somebodyIsAway 7 = .ok (.aload_n 0, 1) := by decide +kernel
theorem dX3_somebodyIsAway_8 : decode cX3_somebodyIsAway 8 = .ok (.getfield 9, 3) := by decide +kernel
theorem dX3_somebodyIsAway_11 : decode cX3_somebodyIsAway 11 = .ok (.iload_n 1, 1) := by decide +kernel
theorem dX3_somebodyIsAway_12 : decode cX3_somebodyIsAway 12 = .ok (.iload_n 2, 1) := by decide +kernel
theorem dX3_somebodyIsAway_13 : decode cX3_somebodyIsAway 13 = .ok (.invokevirtual 44, 3) := by decide +kernel
theorem dX3_somebodyIsAway_16 : decode cX3_somebodyIsAway 16 = .ok (.istore_n 3, 1) := by decide +kernel
theorem dX3_somebodyIsAway_17 : decode cX3_somebodyIsAway 17 = .ok (.iload_n 3, 1) := by decide +kernel
theorem dX3_somebodyIsAway_18 : decode cX3_somebodyIsAway 18 = .ok (.iconst (-1), 1) := by decide +kernel
theorem dX3_somebodyIsAway_19 : decode cX3_somebodyIsAway 19 = .ok (.if_icmp .eq 17, 3) := by decide +kernel
theorem dX3_somebodyIsAway_22 : decode cX3_somebodyIsAway 22 = .ok (.aload_n 0, 1) := by decide +kernel
theorem dX3_somebodyIsAway_23 : decode cX3_somebodyIsAway 23 = .ok (.getfield 9, 3) := by decide +kernel
theorem dX3_somebodyIsAway_26 : decode cX3_somebodyIsAway 26 = .ok (.iload_n 3, 1) := by decide +kernel
theorem dX3_somebodyIsAway_27 : decode cX3_somebodyIsAway 27 = .ok (.iload_n 1, 1) := by decide +kernel
theorem dX3_somebodyIsAway_28 : decode cX3_somebodyIsAway 28 = .ok (.invokevirtual 86, 3) := by decide +kernel
theorem dX3_somebodyIsAway_31 : decode cX3_somebodyIsAway 31 = .ok (.ifCond .eq 5, 3) := by decide +kernel
theorem dX3_somebodyIsAway_34 : decode cX3_somebodyIsAway 34 = .ok (.iconst 1, 1) := by decide +kernel
theorem dX3_somebodyIsAway_35 : decode cX3_somebodyIsAway 35 = .ok (.ireturn, 1) := by decide +kernel
theorem dX3_somebodyIsAway_36 : decode cX3_somebodyIsAway 36 = .ok (.iinc 2 1, 3) := by decide +kernel
theorem dX3_somebodyIsAway_39 : decode cX3_somebodyIsAway 39 = .ok (.goto (-37), 3) := by decide +kernel
theorem dX3_somebodyIsAway_42 : decode cX3_somebodyIsAway 42 = .ok (.iconst 0, 1) := by decide +kernel
theorem dX3_somebodyIsAway_43 : decode cX3_somebodyIsAway 43 = .ok (.ireturn, 1) := by decide +kernel
theorem dX3_somebodyIsTwice_0 : decode cX3_somebodyIsTwice 0 = .ok (.iconst 0, 1) := by decide +kernel
theorem dX3_somebodyIsTwice_1 : decode cX3_somebodyIsTwice 1 = .ok (.istore_n 2, 1) := by decide +kernel
theorem dX3_somebodyIsTwice_2 : decode cX3_somebodyIsTwice 2 = .ok (.iconst 0, 1) := by decide +kernel
theorem dX3_somebodyIsTwice_3 : decode cX3_somebodyIsTwice 3 = .ok (.istore_n 3, 1) := by decide +kernel
theorem dX3_somebodyIsTwice_4 : decode cX3_somebodyIsTwice 4 = .ok (.iload_n 3, 1) := by decide +kernel
theorem dX3_somebodyIsTwice_5 : decode cX3_somebodyIsTwice 5 = .ok (.iconst 4, 1) := by decide +kernel
theorem dX3_somebodyIsTwice_6 : decode cX3_somebodyIsTwice 6 = .ok (.if_icmp .ge 45, 3) := by decide +kernel
theorem dX3_somebodyIsTwice_9 : decode cX3_somebodyIsTwice 9 = .ok (.aload_n 0, 1) := by decide +kernel
theorem dX3_somebodyIsTwice_10 : decode cX3_somebodyIsTwice 10 = .ok (.getfield 9, 3) := by decide +kernel
theorem dX3_somebodyIsTwice_13 : decode cX3_somebodyIsTwice 13 = .ok (.iload_n 1, 1) := by decide +kernel
theorem dX3_somebodyIsTwice_14 : decode cX3_somebodyIsTwice 14 = .ok (.iload_n 3, 1) := by decide +kernel
theorem dX3_somebodyIsTwice_15 : decode cX3_somebodyIsTwice 15 = .ok (.invokevirtual 44, 3) := by decide +kernel
theorem dX3_somebodyIsTwice_18 : decode cX3_somebodyIsTwice 18 = .ok (.istore 4, 2) := by decide +kernel
theorem dX3_somebodyIsTwice_20 : decode cX3_somebodyIsTwice 20 = .ok (.iload 4, 2) := by decide +kernel
theorem dX3_somebodyIsTwice_22 : decode cX3_somebodyIsTwice 22 = .ok (.iconst (-1), 1) := by decide +kernel
theorem dX3_somebodyIsTwice_23 : decode cX3_somebodyIsTwice 23 = .ok (.if_icmp .eq 22, 3) := by decide +kernel
theorem dX3_somebodyIsTwice_26 : decode cX3_somebodyIsTwice 26 = .ok (.iload_n 2, 1) := by decide +kernel
theorem dX3_somebodyIsTwice_27 : decode cX3_somebodyIsTwice 27 = .ok (.iload 4, 2) := by decide +kernel
theorem dX3_somebodyIsTwice_29 : decode cX3_somebodyIsTwice 29 = .ok (.ishr, 1) := by decide +kernel
theorem dX3_somebodyIsTwice_30 : decode cX3_somebodyIsTwice 30 = .ok (.iconst 1, 1) := by decide +kernel
theorem dX3_somebodyIsTwice_31 : decode cX3_somebodyIsTwice 31 = .ok (.iand, 1) := by decide +kernel
theorem dX3_somebodyIsTwice_32 : decode cX3_somebodyIsTwice 32 = .ok (.iconst 1, 1) := by decide +kernel
theorem dX3_somebodyIsTwice_33 : decode cX3_somebodyIsTwice 33 = .ok (.if_icmp .ne 5, 3) := by decide +kernel
theorem dX3_somebodyIsTwice_36 : decode cX3_somebodyIsTwice 36 = .ok (.iconst 1, 1) := by decide +kernel
theorem dX3_somebodyIsTwice_37 : decode cX3_somebodyIsTwice 37 = .ok (.ireturn, 1) := by decide +kernel
theorem dX3_somebodyIsTwice_38 : decode cX3_somebodyIsTwice 38 = .ok (.iload_n 2, 1) := by decide +kernel
theorem dX3_somebodyIsTwice_39 : decode cX3_somebodyIsTwice 39 = .ok (.iconst 1, 1) := by decide +kernel
theorem dX3_somebodyIsTwice_40 : decode cX3_somebodyIsTwice 40 = .ok (.iload 4, 2) := by decide +kernel
theorem dX3_somebodyIsTwice_42 : decode cX3_somebodyIsTwice 42 = .ok (.ishl, 1) := by decide +kernel
theorem dX3_somebodyIsTwice_43 : decode cX3_somebodyIsTwice 43 = .ok (.ior, 1) := by decide +kernel
theorem dX3_somebodyIsTwice_44 : decode cX3_somebodyIsTwice 44 = .ok (.istore_n 2, 1) := by decide +kernel
theorem dX3_somebodyIsTwice_45 : decode cX3_somebodyIsTwice 45 = .ok (.iinc 3 1, 3) := by decide +kernel
theorem dX3_somebodyIsTwice_48 : decode cX3_somebodyIsTwice 48 = .ok (.goto (-44), 3) := by decide +kernel
theorem dX3_somebodyIsTwice_51 : decode cX3_somebodyIsTwice 51 = .ok (.iconst 0, 1) := by decide +kernel
theorem dX3_somebodyIsTwice_52 : decode cX3_somebodyIsTwice 52 = .ok (.ireturn, 1) := by decide +kernel
theorem dX4_init_0 : decode cX4_init 0 = .ok (.aload_n 0, 1) := by decide +kernel
theorem dX4_init_1 : decode cX4_init 1 = .ok (.invokespecial 3, 3) := by decide +kernel
theorem dX4_init_4 : decode cX4_init 4 = .ok (.aload_n 0, 1) := by decide +kernel
theorem dX4_init_5 : decode cX4_init 5 = .ok (.aload_n 1, 1) := by decide +kernel
theorem dX4_init_6 : decode cX4_init 6 = .ok (.putfield 9, 3) := by decide +kernel
theorem dX4_init_9 : decode cX4_init 9 = .ok (.aload_n 0, 1) := by decide +kernel
theorem dX4_init_10 : decode cX4_init 10 = .ok (.aload_n 2, 1) := by decide +kernel
theorem dX4_init_11 : decode cX4_init 11 = .ok (.putfield 15, 3) := by decide +kernel
theorem dX4_init_14 : decode cX4_init 14 = .ok (.aload_n 0, 1) := by decide +kernel
theorem dX4_init_15 : decode cX4_init 15 = .ok (.lconst 0, 1) := by decide +kernel
theorem dX4_init_16 : decode cX4_init 16 = .ok (.putfield 19, 3) := by decide +kernel
theorem dX4_init_19 : decode cX4_init 19 = .ok (.aload_n 0, 1) := by decide +kernel
theorem dX4_init_20 : decode cX4_init 20 = .ok (.lconst 1, 1) := by decide +kernel
theorem dX4_init_21 : decode cX4_init 21 = .ok (.putfield 23, 3) := by decide +kernel
theorem dX4_init_24 : decode cX4_init 24 = .ok (.return_, 1) := by decide +kernel
theorem dX4_findBest_0 : decode cX4_findBest 0 = .ok (.aload_n 0, 1) := by decide +kernel
theorem dX4_findBest_1 : decode cX4_findBest 1 = .ok (.lconst 0, 1) := by decide +kernel
theorem dX4_findBest_2 : decode cX4_findBest 2 = .ok (.putfield 19, 3) := by decide +kernel
theorem dX4_findBest_5 : decode cX4_findBest 5 = .ok (.aload_n 0, 1) := by decide +kernel
theorem dX4_findBest_6 : decode cX4_findBest 6 = .ok (.lconst 1, 1) := by decide +kernel
theorem dX4_findBest_7 : decode cX4_findBest 7 = .ok (.putfield 23, 3) := by decide +kernel
theorem dX4_findBest_10 : decode cX4_findBest 10 = .ok (.bipush 9, 2) := by decide +kernel
theorem dX4_findBest_12 : decode cX4_findBest 12 = .ok (.istore_n 2, 1) := by decide +kernel
theorem dX4_findBest_13 : decode cX4_findBest 13 = .ok (.iload_n 2, 1) := by decide +kernel
theorem dX4_findBest_14 : decode cX4_findBest 14 = .ok (.ifCond .lt 121, 3) := by decide +kernel
theorem dX4_findBest_17 : decode cX4_findBest 17 = .ok (.aload_n 0, 1) := by decide +kernel
theorem dX4_findBest_18 : decode cX4_findBest 18 = .ok (.getfield 9, 3) := by decide +kernel
theorem dX4_findBest_21 : decode cX4_findBest 21 = .ok (.iload_n 2, 1) := by decide +kernel
theorem dX4_findBest_22 : decode cX4_findBest 22 = .ok (.invokevirtual 26, 3) := by decide +kernel
theorem dX4_findBest_25 : decode cX4_findBest 25 = .ok (.iload_n 1, 1) := by decide +kernel
theorem dX4_findBest_26 : decode cX4_findBest 26 = .ok (.if_icmp .ne 103, 3) := by decide +kernel
theorem dX4_findBest_29 : decode cX4_findBest 29 = .ok (.aload_n 0, 1) := by decide +kernel
theorem dX4_findBest_30 : decode cX4_findBest 30 = .ok (.getfield 15, 3) := by decide +kernel
theorem dX4_findBest_33 : decode cX4_findBest 33 = .ok (.iload_n 2, 1) := by decide +kernel
theorem dX4_findBest_34 : decode cX4_findBest 34 = .ok (.invokevirtual 32, 3) := by decide +kernel
theorem dX4_findBest_37 : decode cX4_findBest 37 = .ok (.istore_n 3, 1) := by decide +kernel
theorem dX4_findBest_38 : decode cX4_findBest 38 = .ok (.aload_n 0, 1) := by decide +kernel
theorem dX4_findBest_39 : decode cX4_findBest 39 = .ok (.getfield 9, 3) := by decide +kernel
theorem dX4_findBest_42 : decode cX4_findBest 42 = .ok (.getfield 37, 3) := by decide +kernel
theorem dX4_findBest_45 : decode cX4_findBest 45 = .ok (.iconst 0, 1) := by decide +kernel
theorem dX4_findBest_46 : decode cX4_findBest 46 = .ok (.iaload, 1) := by decide +kernel
theorem dX4_findBest_47 : decode cX4_findBest 47 = .ok (.i2l, 1) := by decide +kernel
theorem dX4_findBest_48 : decode cX4_findBest 48 = .ok (.aload_n 0, 1) := by decide +kernel
theorem dX4_findBest_49 : decode cX4_findBest 49 = .ok (.getfield 15, 3) := by decide +kernel
theorem dX4_findBest_52 : decode cX4_findBest 52 = .ok (.iload_n 1, 1) := by decide +kernel
theorem dX4_findBest_53 : decode cX4_findBest 53 = .ok (.iload_n 2, 1) := by decide +kernel
theorem dX4_findBest_54 : decode cX4_findBest 54 = .ok (.invokevirtual 41, 3) := by decide +kernel
theorem dX4_findBest_57 : decode cX4_findBest 57 = .ok (.i2l, 1) := by decide +kernel
theorem dX4_findBest_58 : decode cX4_findBest 58 = .ok (.lmul, 1) := by decide +kernel
theorem dX4_findBest_59 : decode cX4_findBest 59 = .ok (.lstore 4, 2) := by decide +kernel
theorem dX4_findBest_61 : decode cX4_findBest 61 = .ok (.bipush 12, 2) := by decide +kernel
theorem dX4_findBest_63 : decode cX4_findBest 63 = .ok (.iload_n 3, 1) := by decide +kernel
theorem dX4_findBest_64 : decode cX4_findBest 64 = .ok (.isub, 1) := by decide +kernel
theorem dX4_findBest_65 : decode cX4_findBest 65 = .ok (.i2l, 1) := by decide +kernel
theorem dX4_findBest_66 : decode cX4_findBest 66 = .ok (.lload 4, 2) := by decide +kernel
theorem dX4_findBest_68 : decode cX4_findBest 68 = .ok (.aload_n 0, 1) := by decide +kernel
theorem dX4_findBest_69 : decode cX4_findBest 69 = .ok (.getfield 23, 3) := by decide +kernel
theorem dX4_findBest_72 : decode cX4_findBest 72 = .ok (.lmul, 1) := by decide +kernel
theorem dX4_findBest_73 : decode cX4_findBest 73 = .ok (.aload_n 0, 1) := by decide +kernel
theorem dX4_findBest_74 : decode cX4_findBest 74 = .ok (.getfield 19, 3) := by decide +kernel
theorem dX4_findBest_77 : decode cX4_findBest 77 = .ok (.ladd, 1) := by decide +kernel
theorem dX4_findBest_78 : decode cX4_findBest 78 = .ok (.lmul, 1) := by decide +kernel
theorem dX4_findBest_79 : decode cX4_findBest 79 = .ok (.iload_n 3, 1) := by decide +kernel
theorem dX4_findBest_80 : decode cX4_findBest 80 = .ok (.i2l, 1) := by decide +kernel
theorem dX4_findBest_81 : decode cX4_findBest 81 = .ok (.aload_n 0, 1) := by decide +kernel
theorem dX4_findBest_82 : decode cX4_findBest 82 = .ok (.getfield 9, 3) := by decide +kernel
theorem dX4_findBest_85 : decode cX4_findBest 85 = .ok (.getfield 37, 3) := by decide +kernel
theorem dX4_findBest_88 : decode cX4_findBest 88 = .ok (.iconst 1, 1) := by decide +kernel
theorem dX4_findBest_89 : decode cX4_findBest 89 = .ok (.iaload, 1) := by decide +kernel
theorem dX4_findBest_90 : decode cX4_findBest 90 = .ok (.i2l, 1) := by decide +kernel
theorem dX4_findBest_91 : decode cX4_findBest 91 = .ok (.aload_n 0, 1) := by decide +kernel
theorem dX4_findBest_92 : decode cX4_findBest 92 = .ok (.getfield 23, 3) := by decide +kernel
theorem dX4_findBest_95 : decode cX4_findBest 95 = .ok (.lmul, 1) := by decide +kernel
theorem dX4_findBest_96 : decode cX4_findBest 96 = .ok (.lmul, 1) := by decide +kernel
theorem dX4_findBest_97 : decode cX4_findBest 97 = .ok (.lsub, 1) := by decide +kernel
theorem dX4_findBest_98 : decode cX4_findBest 98 = .ok (.lstore 6, 2) := by decide +kernel
theorem dX4_findBest_100 : decode cX4_findBest 100 = .ok (.aload_n 0, 1) := by decide +kernel
theorem dX4_findBest_101 : decode cX4_findBest 101 = .ok (.ldc2_w 45, 3) := by decide +kernel
theorem dX4_findBest_104 : decode cX4_findBest 104 = .ok (.aload_n 0, 1) := by decide +kernel
theorem dX4_findBest_105 : decode cX4_findBest 105 = .ok (.getfield 19, 3) := by decide +kernel
theorem dX4_findBest_108 : decode cX4_findBest 108 = .ok (.lmul, 1) := by decide +kernel
theorem dX4_findBest_109 : decode cX4_findBest 109 = .ok (.lload 6, 2) := by decide +kernel
theorem dX4_findBest_111 : decode cX4_findBest 111 = .ok (.invokestatic 47, 3) := by decide +kernel
theorem dX4_findBest_114 : decode cX4_findBest 114 = .ok (.putfield 19, 3) := by decide +kernel
theorem dX4_findBest_117 : decode cX4_findBest 117 = .ok (.aload_n 0, 1) := by decide +kernel
theorem dX4_findBest_118 : decode cX4_findBest 118 = .ok (.ldc2_w 45, 3) := by decide +kernel
theorem dX4_findBest_121 : decode cX4_findBest 121 = .ok (.aload_n 0, 1) := by decide +kernel
theorem dX4_findBest_122 : decode cX4_findBest 122 = .ok (.getfield 23, 3) := by decide +kernel
theorem dX4_findBest_125 : decode cX4_findBest 125 = .ok (.lmul, 1) := by decide +kernel
theorem dX4_findBest_126 : decode cX4_findBest 126 = .ok (.putfield 23, 3) := by decide +kernel
theorem dX4_findBest_129 : decode cX4_findBest 129 = .ok (.iinc 2 (-1), 3) := by decide +kernel
theorem dX4_findBest_132 : decode cX4_findBest 132 = .ok (.goto (-119), 3) := by decide +kernel
theorem dX4_findBest_135 : decode cX4_findBest 135 = .ok (.aload_n 0, 1) := by decide +kernel
theorem dX4_findBest_136 : decode cX4_findBest 136 = .ok (.invokevirtual 53, 3) := by decide +kernel
theorem dX4_findBest_139 : decode cX4_findBest 139 = .ok (.return_, 1) := by decide +kernel
theorem dX4_findLot_0 : decode cX4_findLot 0 = .ok (.aload_n 0, 1) := by decide +kernel
theorem dX4_findLot_1 : decode cX4_findLot 1 = .ok (.getfield 9, 3) := by decide +kernel
theorem dX4_findLot_4 : decode cX4_findLot 4 = .ok (.invokevirtual 56, 3) := by decide +kernel
theorem dX4_findLot_7 : decode cX4_findLot 7 = .ok (.istore_n 2, 1) := by decide +kernel
theorem dX4_findLot_8 : decode cX4_findLot 8 = .ok (.aload_n 0, 1) := by decide +kernel
theorem dX4_findLot_9 : decode cX4_findLot 9 = .ok (.getfield 9, 3) := by decide +kernel
theorem dX4_findLot_12 : decode cX4_findLot 12 = .ok (.iload_n 1, 1) := by decide +kernel
theorem dX4_findLot_13 : decode cX4_findLot 13 = .ok (.invokevirtual 60, 3) := by decide +kernel
theorem dX4_findLot_16 : decode cX4_findLot 16 = .ok (.invokestatic 63, 3) := by decide +kernel
theorem dX4_findLot_19 : decode cX4_findLot 19 = .ok (.istore_n 3, 1) := by decide +kernel
theorem dX4_findLot_20 : decode cX4_findLot 20 = .ok (.aload_n 0, 1) := by decide +kernel
theorem dX4_findLot_21 : decode cX4_findLot 21 = .ok (.getfield 9, 3) := by decide +kernel
theorem dX4_findLot_24 : decode cX4_findLot 24 = .ok (.getfield 68, 3) := by decide +kernel
theorem dX4_findLot_27 : decode cX4_findLot 27 = .ok (.aload_n 0, 1) := by decide +kernel
theorem dX4_findLot_28 : decode cX4_findLot 28 = .ok (.getfield 9, 3) := by decide +kernel
theorem dX4_findLot_31 : decode cX4_findLot 31 = .ok (.getfield 68, 3) := by decide +kernel
theorem dX4_findLot_34 : decode cX4_findLot 34 = .ok (.iconst 1, 1) := by decide +kernel
theorem dX4_findLot_35 : decode cX4_findLot 35 = .ok (.isub, 1) := by decide +kernel
theorem dX4_findLot_36 : decode cX4_findLot 36 = .ok (.imul, 1) := by decide +kernel
theorem dX4_findLot_37 : decode cX4_findLot 37 = .ok (.iconst 2, 1) := by decide +kernel
theorem dX4_findLot_38 : decode cX4_findLot 38 = .ok (.idiv, 1) := by decide +kernel
theorem dX4_findLot_39 : decode cX4_findLot 39 = .ok (.i2l, 1) := by decide +kernel
theorem dX4_findLot_40 : decode cX4_findLot 40 = .ok (.lstore 4, 2) := by decide +kernel
theorem dX4_findLot_42 : decode cX4_findLot 42 = .ok (.aload_n 0, 1) := by decide +kernel
theorem dX4_findLot_43 : decode cX4_findLot 43 = .ok (.lconst 0, 1) := by decide +kernel
theorem dX4_findLot_44 : decode cX4_findLot 44 = .ok (.putfield 19, 3) := by decide +kernel
theorem dX4_findLot_47 : decode cX4_findLot 47 = .ok (.iload_n 3, 1) := by decide +kernel
theorem dX4_findLot_48 : decode cX4_findLot 48 = .ok (.istore 6, 2) := by decide +kernel
theorem dX4_findLot_50 : decode cX4_findLot 50 = .ok (.iload 6, 2) := by decide +kernel
theorem dX4_findLot_52 : decode cX4_findLot 52 = .ok (.iload_n 2, 1) := by decide +kernel
theorem dX4_findLot_53 : decode cX4_findLot 53 = .ok (.if_icmp .gt 36, 3) := by decide +kernel
theorem dX4_findLot_56 : decode cX4_findLot 56 = .ok (.aload_n 0, 1) := by decide +kernel
theorem dX4_findLot_57 : decode cX4_findLot 57 = .ok (.dup, 1) := by decide +kernel
theorem dX4_findLot_58 : decode cX4_findLot 58 = .ok (.getfield 19, 3) := by decide +kernel
theorem dX4_findLot_61 : decode cX4_findLot 61 = .ok (.iload_n 2, 1) := by decide +kernel
theorem dX4_findLot_62 : decode cX4_findLot 62 = .ok (.iload 6, 2) := by decide +kernel
theorem dX4_findLot_64 : decode cX4_findLot 64 = .ok (.invokestatic 72, 3) := by decide +kernel
theorem dX4_findLot_67 : decode cX4_findLot 67 = .ok (.lload 4, 2) := by decide +kernel
theorem dX4_findLot_69 : decode cX4_findLot 69 = .ok (.lconst 1, 1) := by decide +kernel
theorem dX4_findLot_70 : decode cX4_findLot 70 = .ok (.lsub, 1) := by decide +kernel
theorem dX4_findLot_71 : decode cX4_findLot 71 = .ok (.iload_n 2, 1) := by decide +kernel
theorem dX4_findLot_72 : decode cX4_findLot 72 = .ok (.iload 6, 2) := by decide +kernel
theorem dX4_findLot_74 : decode cX4_findLot 74 = .ok (.isub, 1) := by decide +kernel
theorem dX4_findLot_75 : decode cX4_findLot 75 = .ok (.invokestatic 76, 3) := by decide +kernel
theorem dX4_findLot_78 : decode cX4_findLot 78 = .ok (.lmul, 1) := by decide +kernel
theorem dX4_findLot_79 : decode cX4_findLot 79 = .ok (.ladd, 1) := by decide +kernel
theorem dX4_findLot_80 : decode cX4_findLot 80 = .ok (.putfield 19, 3) := by decide +kernel
theorem dX4_findLot_83 : decode cX4_findLot 83 = .ok (.iinc 6 1, 3) := by decide +kernel
theorem dX4_findLot_86 : decode cX4_findLot 86 = .ok (.goto (-36), 3) := by decide +kernel
theorem dX4_findLot_89 : decode cX4_findLot 89 = .ok (.aload_n 0, 1) := by decide +kernel
theorem dX4_findLot_90 : decode cX4_findLot 90 = .ok (.lload 4, 2) := by decide +kernel
theorem dX4_findLot_92 : decode cX4_findLot 92 = .ok (.iload_n 2, 1) := by decide +kernel
theorem dX4_findLot_93 : decode cX4_findLot 93 = .ok (.invokestatic 76, 3) := by decide +kernel
theorem dX4_findLot_96 : decode cX4_findLot 96 = .ok (.putfield 23, 3) := by decide +kernel
theorem dX4_findLot_99 : decode cX4_findLot 99 = .ok (.aload_n 0, 1) := by decide +kernel
theorem dX4_findLot_100 : decode cX4_findLot 100 = .ok (.invokevirtual 53, 3) := by decide +kernel
theorem dX4_findLot_103 : decode cX4_findLot 103 = .ok (.return_, 1) := by decide +kernel
theorem dX4_ways_0 : decode cX4_ways 0 = .ok (.lconst 1, 1) := by decide +kernel
theorem dX4_ways_1 : decode cX4_ways 1 = .ok (.lstore_n 2, 1) := by decide +kernel
theorem dX4_ways_2 : decode cX4_ways 2 = .ok (.iconst 1, 1) := by decide +kernel
theorem dX4_ways_3 : decode cX4_ways 3 = .ok (.istore 4, 2) := by decide +kernel
theorem dX4_ways_5 : decode cX4_ways 5 = .ok (.iload 4, 2) := by decide +kernel
theorem dX4_ways_7 : decode cX4_ways 7 = .ok (.iload_n 1, 1) := by decide +kernel
theorem dX4_ways_8 : decode cX4_ways 8 = .ok (.if_icmp .gt 23, 3) := by decide +kernel
theorem dX4_ways_11 : decode cX4_ways 11 = .ok (.lload_n 2, 1) := by decide +kernel
theorem dX4_ways_12 : decode cX4_ways 12 = .ok (.iload_n 0, 1) := by decide +kernel
theorem dX4_ways_13 : decode cX4_ways 13 = .ok (.iload_n 1, 1) := by decide +kernel
theorem dX4_ways_14 : decode cX4_ways 14 = .ok (.isub, 1) := by decide +kernel
theorem dX4_ways_15 : decode cX4_ways 15 = .ok (.iload 4, 2) := by decide +kernel
theorem dX4_ways_17 : decode cX4_ways 17 = .ok (.iadd, 1) := by decide +kernel
theorem dX4_ways_18 : decode cX4_ways 18 = .ok (.i2l, 1) := by decide +kernel
theorem dX4_ways_19 : decode cX4_ways 19 = .ok (.lmul, 1) := by decide +kernel
theorem dX4_ways_20 : decode cX4_ways 20 = .ok (.iload 4, 2) := by decide +kernel
theorem dX4_ways_22 : decode cX4_ways 22 = .ok (.i2l, 1) := by decide +kernel
theorem dX4_ways_23 : decode cX4_ways 23 = .ok (.ldiv, 1) := by decide +kernel
theorem dX4_ways_24 : decode cX4_ways 24 = .ok (.lstore_n 2, 1) := by decide +kernel
theorem dX4_ways_25 : decode cX4_ways 25 = .ok (.iinc 4 1, 3) := by decide +kernel
theorem dX4_ways_28 : decode cX4_ways 28 = .ok (.goto (-23), 3) := by decide +kernel
theorem dX4_ways_31 : decode cX4_ways 31 = .ok (.lload_n 2, 1) := by decide +kernel
theorem dX4_ways_32 : decode cX4_ways 32 = .ok (.lreturn, 1) := by decide +kernel
theorem dX4_power_0 : decode cX4_power 0 = .ok (.lconst 1, 1) := by decide +kernel
theorem dX4_power_1 : decode cX4_power 1 = .ok (.lstore_n 3, 1) := by decide +kernel
theorem dX4_power_2 : decode cX4_power 2 = .ok (.iconst 0, 1) := by decide +kernel
theorem dX4_power_3 : decode cX4_power 3 = .ok (.istore 5, 2) := by decide +kernel
theorem dX4_power_5 : decode cX4_power 5 = .ok (.iload 5, 2) := by decide +kernel
theorem dX4_power_7 : decode cX4_power 7 = .ok (.iload_n 2, 1) := by decide +kernel
theorem dX4_power_8 : decode cX4_power 8 = .ok (.if_icmp .ge 13, 3) := by decide +kernel
theorem dX4_power_11 : decode cX4_power 11 = .ok (.lload_n 3, 1) := by decide +kernel
theorem dX4_power_12 : decode cX4_power 12 = .ok (.lload_n 0, 1) := by decide +kernel
theorem dX4_power_13 : decode cX4_power 13 = .ok (.lmul, 1) := by decide +kernel
theorem dX4_power_14 : decode cX4_power 14 = .ok (.lstore_n 3, 1) := by decide +kernel
theorem dX4_power_15 : decode cX4_power 15 = .ok (.iinc 5 1, 3) := by decide +kernel
theorem dX4_power_18 : decode cX4_power 18 = .ok (.goto (-13), 3) := by decide +kernel
theorem dX4_power_21 : decode cX4_power 21 = .ok (.lload_n 3, 1) := by decide +kernel
theorem dX4_power_22 : decode cX4_power 22 = .ok (.lreturn, 1) := by decide +kernel
theorem dX4_reduce_0 : decode cX4_reduce 0 = .ok (.aload_n 0, 1) := by decide +kernel
theorem dX4_reduce_1 : decode cX4_reduce 1 = .ok (.getfield 19, 3) := by decide +kernel
theorem dX4_reduce_4 : decode cX4_reduce 4 = .ok (.lstore_n 1, 1) := by decide +kernel
theorem dX4_reduce_5 : decode cX4_reduce 5 = .ok (.aload_n 0, 1) := by decide +kernel
theorem dX4_reduce_6 : decode cX4_reduce 6 = .ok (.getfield 23, 3) := by decide +kernel
theorem dX4_reduce_9 : decode cX4_reduce 9 = .ok (.lstore_n 3, 1) := by decide +kernel
theorem dX4_reduce_10 : decode cX4_reduce 10 = .ok (.iconst 0, 1) := by decide +kernel
theorem dX4_reduce_11 : decode cX4_reduce 11 = .ok (.istore 5, 2) := by decide +kernel
theorem dX4_reduce_13 : decode cX4_reduce 13 = .ok (.iload 5, 2) := by decide +kernel
theorem dX4_reduce_15 : decode cX4_reduce 15 = .ok (.sipush 200, 3) := by decide +kernel
theorem dX4_reduce_18 : decode cX4_reduce 18 = .ok (.if_icmp .ge 25, 3) := by decide +kernel
theorem dX4_reduce_21 : decode cX4_reduce 21 = .ok (.lload_n 3, 1) := by decide +kernel
theorem dX4_reduce_22 : decode cX4_reduce 22 = .ok (.lconst 0, 1) := by decide +kernel
theorem dX4_reduce_23 : decode cX4_reduce 23 = .ok (.lcmp, 1) := by decide +kernel
theorem dX4_reduce_24 : decode cX4_reduce 24 = .ok (.ifCond .eq 19, 3) := by decide +kernel
theorem dX4_reduce_27 : decode cX4_reduce 27 = .ok (.lload_n 1, 1) := by decide +kernel
theorem dX4_reduce_28 : decode cX4_reduce 28 = .ok (.lload_n 3, 1) := by decide +kernel
theorem dX4_reduce_29 : decode cX4_reduce 29 = .ok (.lrem, 1) := by decide +kernel
theorem dX4_reduce_30 : decode cX4_reduce 30 = .ok (.lstore 6, 2) := by decide +kernel
theorem dX4_reduce_32 : decode cX4_reduce 32 = .ok (.lload_n 3, 1) := by decide +kernel
theorem dX4_reduce_33 : decode cX4_reduce 33 = .ok (.lstore_n 1, 1) := by decide +kernel
theorem dX4_reduce_34 : decode cX4_reduce 34 = .ok (.lload 6, 2) := by decide +kernel
theorem dX4_reduce_36 : decode cX4_reduce 36 = .ok (.lstore_n 3, 1) := by decide +kernel
theorem dX4_reduce_37 : decode cX4_reduce 37 = .ok (.iinc 5 1, 3) := by decide +kernel
theorem dX4_reduce_40 : decode cX4_reduce 40 = .ok (.goto (-27), 3) := by decide +kernel
theorem dX4_reduce_43 : decode cX4_reduce 43 = .ok (.lload_n 1, 1) := by decide +kernel
theorem dX4_reduce_44 : decode cX4_reduce 44 = .ok (.lconst 1, 1) := by decide +kernel
theorem dX4_reduce_45 : decode cX4_reduce 45 = .ok (.lcmp, 1) := by decide +kernel
theorem dX4_reduce_46 : decode cX4_reduce 46 = .ok (.ifCond .le 23, 3) := by decide +kernel
theorem dX4_reduce_49 : decode cX4_reduce 49 = .ok (.aload_n 0, 1) := by decide +kernel
theorem dX4_reduce_50 : decode cX4_reduce 50 = .ok (.dup, 1) := by decide +kernel
theorem dX4_reduce_51 : decode cX4_reduce 51 = .ok (.getfield 19, 3) := by decide +kernel
theorem dX4_reduce_54 : decode cX4_reduce 54 = .ok (.lload_n 1, 1) := by decide +kernel
theorem dX4_reduce_55 : decode cX4_reduce 55 = .ok (.ldiv, 1) := by decide +kernel
theorem dX4_reduce_56 : decode cX4_reduce 56 = .ok (.putfield 19, 3) := by decide +kernel
theorem dX4_reduce_59 : decode cX4_reduce 59 = .ok (.aload_n 0, 1) := by decide +kernel
theorem dX4_reduce_60 : decode cX4_reduce 60 = .ok (.dup, 1) := by decide +kernel
theorem dX4_reduce_61 : decode cX4_reduce 61 = .ok (.getfield 23, 3) := by decide +kernel
theorem dX4_reduce_64 : decode cX4_reduce 64 = .ok (.lload_n 1, 1) := by decide +kernel
theorem dX4_reduce_65 : decode cX4_reduce 65 = .ok (.ldiv, 1) := by decide +kernel
theorem dX4_reduce_66 : decode cX4_reduce 66 = .ok (.putfield 23, 3) := by decide +kernel
theorem dX4_reduce_69 : decode cX4_reduce 69 = .ok (.return_, 1) := by decide +kernel
def fJudge_trustAfter (z : MS) (a0 : Int32) (a1 : Int32) : Int32 :=
  if a1 = 0 then mxI (a0 - (gI z 5 5)) 0 else mnI (a0 + 1) 9
set_option maxRecDepth 4000 in
theorem cJudge_trustAfter (l : Launch) (z : MS) (a0 : Int32) (a1 : Int32) : CT l yX3_trustAfter cX3_trustAfter 3 (some .int) 1 23 (fun ad sd => [.ref (ad 17), .int a0, .int a1]) z (some (.int (fJudge_trustAfter z a0 a1))) z := by
  generalize h : fJudge_trustAfter z a0 a1 = r
  rw [fJudge_trustAfter] at h
  refine u_start RX3 rfl (by decide) (fun _ _ => Nat.le_of_ble_eq_true rfl) (fun p e s m args below meth c R D ad cs sd A Q ls X hP hS hl hr hret => ?_)
  have hl : lv_has ls 3 [(0, .ref (ad 17)), (1, .int a0), (2, .int a1)] := hl
  refine u_iload_n X hl dX3_trustAfter_0 2 rfl ?_
  refine u_if_eq 15 X dX3_trustAfter_1 rfl (fun hc => ?_) (fun hc => ?_)
  · rw [if_pos hc] at h
    refine u_iload_n X hl dX3_trustAfter_15 1 rfl ?_
    refine u_aload_n X hl dX3_trustAfter_16 0 rfl ?_
    refine gf_X3_9_17 X hP dX3_trustAfter_17 ?_
    refine gf_X3_35_1 X hP dX3_trustAfter_20 ?_
    refine u_iconst (v := 5) X dX3_trustAfter_23 rfl ?_
    refine ld_5 (w := 5) X hP rfl (by decide) dX3_trustAfter_24 ?_
    refine u_isub X dX3_trustAfter_25 ?_
    refine u_iconst (v := 0) X dX3_trustAfter_26 rfl ?_
    refine mw_X3_38 X hl dX3_trustAfter_27 rfl ⟨rfl, rfl⟩ ?_
    exact u_iretT X hr hret h hP hS dX3_trustAfter_30
  · rw [if_neg hc] at h
    refine u_iload_n X hl dX3_trustAfter_4 1 rfl ?_
    refine u_iconst (v := 1) X dX3_trustAfter_5 rfl ?_
    refine u_iadd X dX3_trustAfter_6 ?_
    refine u_bipush (v := 9) X dX3_trustAfter_7 rfl ?_
    refine mw_X3_29 X hl dX3_trustAfter_9 rfl ⟨rfl, rfl⟩ ?_
    refine u_goto 30 X dX3_trustAfter_12 rfl ?_
    exact u_iretT X hr hret h hP hS dX3_trustAfter_30
def fJudge_trustOfPair_J39 (z : MS) (K13 : Int32 → Int32 → Option Int32) (l4 : Int32) (s1 : Int32) (s2 : Int32) : Option Int32 :=
  K13 (fJudge_trustAfter z s1 s2) (l4 + 1)
def fJudge_trustOfPair_L13 (z : MS) (l1 : Int32) (l2 : Int32) : Nat → Int32 → Int32 → Option Int32
  | 0, _, _ => none
  | n + 1, l3, l4 => if l2 ≤ l4 then some l3 else Option.bind (fHouse_pairOn z l4) (fun w27 => if w27 = l1 then fJudge_trustOfPair_J39 z (fJudge_trustOfPair_L13 z l1 l2 n) l4 l3 1 else fJudge_trustOfPair_J39 z (fJudge_trustOfPair_L13 z l1 l2 n) l4 l3 0)
def fJudge_trustOfPair (z : MS) (a0 : Int32) (a1 : Int32) : Option Int32 :=
  if a0 < 0 ∨ 64 ≤ a0.toNatClampNeg then none else fJudge_trustOfPair_L13 z a0 a1 LF (gI z 4 a0.toNatClampNeg) 0
set_option maxRecDepth 4000 in
theorem cJudge_trustOfPair (l : Launch) {z : MS} {a0 : Int32} {a1 : Int32} {r : Int32} (h : fJudge_trustOfPair z a0 a1 = some r) : CT l yX3_trustOfPair cX3_trustOfPair 5 (some .int) 2 45 (fun ad sd => [.ref (ad 17), .int a0, .int a1]) z (some (.int r)) z := by
  rw [fJudge_trustOfPair] at h
  refine u_start RX3 rfl (by decide) (fun _ _ => Nat.le_of_ble_eq_true rfl) (fun p e s m args below meth c R D ad cs sd A Q ls X hP hS hl hr hret => ?_)
  have hl : lv_has ls 5 [(0, .ref (ad 17)), (1, .int a0), (2, .int a1)] := hl
  refine u_aload_n X hl dX3_trustOfPair_0 0 rfl ?_
  refine gf_X3_9_17 X hP dX3_trustOfPair_1 ?_
  refine gf_X3_15_1 X hP dX3_trustOfPair_4 ?_
  refine u_iload_n X hl dX3_trustOfPair_7 1 rfl ?_
  obtain ⟨hin, h⟩ := ifn_inv h
  refine ld_4 X hP rfl hin dX3_trustOfPair_8 ?_
  refine u_istore_n [(3, .int (gI z 4 a0.toNatClampNeg)), (0, .ref (ad 17)), (1, .int a0), (2, .int a1)] X hl dX3_trustOfPair_9 (Nat.le_of_ble_eq_true rfl) rfl (fun ls hl => ?_)
  refine u_iconst (v := 0) X dX3_trustOfPair_10 rfl ?_
  refine u_istore [(4, .int 0), (3, .int (gI z 4 a0.toNatClampNeg)), (0, .ref (ad 17)), (1, .int a0), (2, .int a1)] X hl dX3_trustOfPair_11 (Nat.le_of_ble_eq_true rfl) rfl (fun ls hl => ?_)
  have L13 : ∀ (n : Nat) (H : Heap) (locs : List Loc) (ls : Array Slot) (l3_13 : Int32) (l4_13 : Int32), lv_has ls 5 [(0, .ref (ad 17)), (1, .int a0), (2, .int a1), (3, .int l3_13), (4, .int l4_13)] → va_P D clss (wld cs ad z) H → va_S A s.heap H locs → fJudge_trustOfPair_L13 z a0 a1 n l3_13 l4_13 = some r → W p l e R s m args below meth c H locs 0 0 Q (F0 m 13 ls []) := by
    intro n
    induction n with
    | zero =>
      intro H locs ls l3_13 l4_13 hl hP hS h
      rw [fJudge_trustOfPair_L13] at h
      cases h
    | succ n13 ih13 =>
      intro H locs ls l3_13 l4_13 hl hP hS h
      rw [fJudge_trustOfPair_L13] at h
      refine u_iload X hl dX3_trustOfPair_13 4 rfl ?_
      refine u_iload_n X hl dX3_trustOfPair_15 2 rfl ?_
      refine u_icmp_ge 49 X dX3_trustOfPair_16 rfl (fun hc => ?_) (fun hc => ?_)
      · rw [if_pos hc] at h
        refine u_iload_n X hl dX3_trustOfPair_49 3 rfl ?_
        exact u_iretP X hr hret h hP hS dX3_trustOfPair_50
      · rw [if_neg hc] at h
        refine u_aload_n X hl dX3_trustOfPair_19 0 rfl ?_
        refine u_iload_n X hl dX3_trustOfPair_20 3 rfl ?_
        refine u_aload_n X hl dX3_trustOfPair_21 0 rfl ?_
        refine gf_X3_9_17 X hP dX3_trustOfPair_22 ?_
        refine u_iload X hl dX3_trustOfPair_25 4 rfl ?_
        obtain ⟨w27, hc27, h⟩ := ob_inv h
        refine u_callVi X hP hS hl dX3_trustOfPair_27 (cHouse_pairOn l hc27) cw_X3_21 io_1 rfl rfl rfl rfl ⟨rfl, rfl⟩ (fun H locs hP hS => ?_)
        refine u_iload_n X hl dX3_trustOfPair_30 1 rfl ?_
        have J39 : ∀ (H : Heap) (locs : List Loc) (ls : Array Slot) (s2_39 : Int32), lv_has ls 5 [(0, .ref (ad 17)), (1, .int a0), (2, .int a1), (4, .int l4_13)] → va_P D clss (wld cs ad z) H → va_S A s.heap H locs → fJudge_trustOfPair_J39 z (fJudge_trustOfPair_L13 z a0 a1 n13) l4_13 l3_13 s2_39 = some r → W p l e R s m args below meth c H locs 0 0 Q (F0 m 39 ls [.int s2_39, .int l3_13, .ref (ad 17)]) := by
          intro H locs ls s2_39 hl hP hS h
          rw [fJudge_trustOfPair_J39] at h
          refine u_callVi X hP hS hl dX3_trustOfPair_39 (cJudge_trustAfter l z l3_13 s2_39) cw_X3_25 io_17 rfl rfl rfl rfl ⟨rfl, rfl⟩ (fun H locs hP hS => ?_)
          refine u_istore_n [(3, .int (fJudge_trustAfter z l3_13 s2_39)), (0, .ref (ad 17)), (1, .int a0), (2, .int a1), (4, .int l4_13)] X hl dX3_trustOfPair_42 (Nat.le_of_ble_eq_true rfl) rfl (fun ls hl => ?_)
          refine u_iinc [(4, .int (l4_13 + 1)), (3, .int (fJudge_trustAfter z l3_13 s2_39)), (0, .ref (ad 17)), (1, .int a0), (2, .int a1)] X hl dX3_trustOfPair_43 4 rfl rfl (Nat.le_of_ble_eq_true rfl) rfl (fun ls hl => ?_)
          refine u_goto 13 X dX3_trustOfPair_46 rfl ?_
          exact ih13 _ _ _ _ _ (lv_sub hl [2, 3, 4, 1, 0] rfl) hP hS h
        refine u_icmp_ne 38 X dX3_trustOfPair_31 rfl (fun hc => ?_) (fun hc => ?_)
        · rw [if_neg hc] at h
          refine u_iconst (v := 0) X dX3_trustOfPair_38 rfl ?_
          exact J39 _ _ _ _ (lv_sub hl [0, 1, 2, 4] rfl) hP hS h
        · rw [if_pos hc] at h
          refine u_iconst (v := 1) X dX3_trustOfPair_34 rfl ?_
          refine u_goto 39 X dX3_trustOfPair_35 rfl ?_
          exact J39 _ _ _ _ (lv_sub hl [0, 1, 2, 4] rfl) hP hS h
  exact L13 LF _ _ _ _ _ (lv_sub hl [2, 3, 4, 1, 0] rfl) hP hS h
def fJudge_seenOf_J102 (z : MS) (l6 : Int32) : Option Int32 :=
  some (mnI l6 12)
def fJudge_seenOf_J94 (z : MS) (l4 : Int32) (l6 : Int32) : Option Int32 :=
  if l4 = 0 then fJudge_seenOf_J102 z l6 else fJudge_seenOf_J102 z (l6 + 6)
def fJudge_seenOf_J66 (z : MS) (l2 : Int32) (l4 : Int32) (l5 : Int32) (l6 : Int32) : Option Int32 :=
  if l2 = (-1) then fJudge_seenOf_J94 z l4 l6 else (if ((l5 >>> (l2 &&& 31)) &&& 1) = 0 then fJudge_seenOf_J94 z l4 (l6 + (gI z 5 4)) else fJudge_seenOf_J94 z l4 l6)
def fJudge_seenOf (z : MS) (a0 : Int32) (a1 : Int32) (a2 : Int32) (a3 : Int32) : Option Int32 :=
  if (a0 / 8) < 0 ∨ 8 ≤ (a0 / 8).toNatClampNeg then none else if (irm a0 8) < 0 ∨ 8 ≤ (irm a0 8).toNatClampNeg then none else if a2 = (-1) then fJudge_seenOf_J66 z a1 a3 ((gI z 2 (a0 / 8).toNatClampNeg) ||| (gI z 2 (irm a0 8).toNatClampNeg)) (gI z 5 2) else (if ((((gI z 2 (a0 / 8).toNatClampNeg) ||| (gI z 2 (irm a0 8).toNatClampNeg)) >>> (a2 &&& 31)) &&& 1) = 0 then fJudge_seenOf_J66 z a1 a3 ((gI z 2 (a0 / 8).toNatClampNeg) ||| (gI z 2 (irm a0 8).toNatClampNeg)) ((gI z 5 2) + (gI z 5 3)) else fJudge_seenOf_J66 z a1 a3 ((gI z 2 (a0 / 8).toNatClampNeg) ||| (gI z 2 (irm a0 8).toNatClampNeg)) (gI z 5 2))
set_option maxRecDepth 4000 in
theorem cJudge_seenOf (l : Launch) {z : MS} {a0 : Int32} {a1 : Int32} {a2 : Int32} {a3 : Int32} {r : Int32} (h : fJudge_seenOf z a0 a1 a2 a3 = some r) : CT l yX3_seenOf cX3_seenOf 7 (some .int) 1 23 (fun ad sd => [.ref (ad 17), .int a0, .int a1, .int a2, .int a3]) z (some (.int r)) z := by
  rw [fJudge_seenOf] at h
  refine u_start RX3 rfl (by decide) (fun _ _ => Nat.le_of_ble_eq_true rfl) (fun p e s m args below meth c R D ad cs sd A Q ls X hP hS hl hr hret => ?_)
  have hl : lv_has ls 7 [(0, .ref (ad 17)), (1, .int a0), (2, .int a1), (3, .int a2), (4, .int a3)] := hl
  refine u_aload_n X hl dX3_seenOf_0 0 rfl ?_
  refine gf_X3_9_17 X hP dX3_seenOf_1 ?_
  refine gf_X3_41_1 X hP dX3_seenOf_4 ?_
  refine u_iload_n X hl dX3_seenOf_7 1 rfl ?_
  refine u_bipush (v := 8) X dX3_seenOf_8 rfl ?_
  refine u_idiv X (by decide) dX3_seenOf_10 ?_
  obtain ⟨hin, h⟩ := ifn_inv h
  refine ld_2 X hP rfl hin dX3_seenOf_11 ?_
  refine u_aload_n X hl dX3_seenOf_12 0 rfl ?_
  refine gf_X3_9_17 X hP dX3_seenOf_13 ?_
  refine gf_X3_41_1 X hP dX3_seenOf_16 ?_
  refine u_iload_n X hl dX3_seenOf_19 1 rfl ?_
  refine u_bipush (v := 8) X dX3_seenOf_20 rfl ?_
  refine u_irem X (by decide) dX3_seenOf_22 ?_
  obtain ⟨hin, h⟩ := ifn_inv h
  refine ld_2 X hP rfl hin dX3_seenOf_23 ?_
  refine u_ior X dX3_seenOf_24 ?_
  refine u_istore [(5, .int ((gI z 2 (a0 / 8).toNatClampNeg) ||| (gI z 2 (irm a0 8).toNatClampNeg))), (0, .ref (ad 17)), (1, .int a0), (2, .int a1), (3, .int a2), (4, .int a3)] X hl dX3_seenOf_25 (Nat.le_of_ble_eq_true rfl) rfl (fun ls hl => ?_)
  refine u_aload_n X hl dX3_seenOf_27 1 rfl ?_
  refine gf_X3_9_17 X hP dX3_seenOf_28 ?_
  refine gf_X3_35_1 X hP dX3_seenOf_31 ?_
  refine u_iconst (v := 2) X dX3_seenOf_34 rfl ?_
  refine ld_5 (w := 2) X hP rfl (by decide) dX3_seenOf_35 ?_
  refine u_istore [(6, .int (gI z 5 2)), (5, .int ((gI z 2 (a0 / 8).toNatClampNeg) ||| (gI z 2 (irm a0 8).toNatClampNeg))), (0, .ref (ad 17)), (1, .int a0), (2, .int a1), (3, .int a2), (4, .int a3)] X hl dX3_seenOf_36 (Nat.le_of_ble_eq_true rfl) rfl (fun ls hl => ?_)
  refine u_iload_n X hl dX3_seenOf_38 5 rfl ?_
  refine u_iconst (v := (-1)) X dX3_seenOf_39 rfl ?_
  have J66 : ∀ (H : Heap) (locs : List Loc) (ls : Array Slot) (l6_66 : Int32), lv_has ls 7 [(0, .ref (ad 17)), (2, .int a1), (4, .int a3), (5, .int ((gI z 2 (a0 / 8).toNatClampNeg) ||| (gI z 2 (irm a0 8).toNatClampNeg))), (6, .int l6_66)] → va_P D clss (wld cs ad z) H → va_S A s.heap H locs → fJudge_seenOf_J66 z a1 a3 ((gI z 2 (a0 / 8).toNatClampNeg) ||| (gI z 2 (irm a0 8).toNatClampNeg)) l6_66 = some r → W p l e R s m args below meth c H locs 0 0 Q (F0 m 66 ls []) := by
    intro H locs ls l6_66 hl hP hS h
    rw [fJudge_seenOf_J66] at h
    refine u_iload_n X hl dX3_seenOf_66 1 rfl ?_
    refine u_iconst (v := (-1)) X dX3_seenOf_67 rfl ?_
    have J94 : ∀ (H : Heap) (locs : List Loc) (ls : Array Slot) (l6_94 : Int32), lv_has ls 7 [(4, .int a3), (6, .int l6_94)] → va_P D clss (wld cs ad z) H → va_S A s.heap H locs → fJudge_seenOf_J94 z a3 l6_94 = some r → W p l e R s m args below meth c H locs 0 0 Q (F0 m 94 ls []) := by
      intro H locs ls l6_94 hl hP hS h
      rw [fJudge_seenOf_J94] at h
      refine u_iload X hl dX3_seenOf_94 0 rfl ?_
      have J102 : ∀ (H : Heap) (locs : List Loc) (ls : Array Slot) (l6_102 : Int32), lv_has ls 7 [(6, .int l6_102)] → va_P D clss (wld cs ad z) H → va_S A s.heap H locs → fJudge_seenOf_J102 z l6_102 = some r → W p l e R s m args below meth c H locs 0 0 Q (F0 m 102 ls []) := by
        intro H locs ls l6_102 hl hP hS h
        rw [fJudge_seenOf_J102] at h
        refine u_iload X hl dX3_seenOf_102 0 rfl ?_
        refine u_bipush (v := 12) X dX3_seenOf_104 rfl ?_
        refine mw_X3_29 X hl dX3_seenOf_106 rfl ⟨rfl, rfl⟩ ?_
        exact u_iretP X hr hret h hP hS dX3_seenOf_109
      refine u_if_eq 102 X dX3_seenOf_96 rfl (fun hc => ?_) (fun hc => ?_)
      · rw [if_pos hc] at h
        exact J102 _ _ _ _ (lv_sub hl [1] rfl) hP hS h
      · rw [if_neg hc] at h
        refine u_iinc [(6, .int (l6_94 + 6)), (4, .int a3)] X hl dX3_seenOf_99 1 rfl rfl (Nat.le_of_ble_eq_true rfl) rfl (fun ls hl => ?_)
        exact J102 _ _ _ _ (lv_sub hl [0] rfl) hP hS h
    refine u_icmp_eq 94 X dX3_seenOf_68 rfl (fun hc => ?_) (fun hc => ?_)
    · rw [if_pos hc] at h
      exact J94 _ _ _ _ (lv_sub hl [2, 4] rfl) hP hS h
    · rw [if_neg hc] at h
      refine u_iload X hl dX3_seenOf_71 3 rfl ?_
      refine u_iload_n X hl dX3_seenOf_73 1 rfl ?_
      refine u_ishr X dX3_seenOf_74 ?_
      refine u_iconst (v := 1) X dX3_seenOf_75 rfl ?_
      refine u_iand X dX3_seenOf_76 ?_
      refine u_if_ne 94 X dX3_seenOf_77 rfl (fun hc => ?_) (fun hc => ?_)
      · rw [if_neg hc] at h
        exact J94 _ _ _ _ (lv_sub hl [2, 4] rfl) hP hS h
      · rw [if_pos hc] at h
        refine u_iload X hl dX3_seenOf_80 4 rfl ?_
        refine u_aload_n X hl dX3_seenOf_82 0 rfl ?_
        refine gf_X3_9_17 X hP dX3_seenOf_83 ?_
        refine gf_X3_35_1 X hP dX3_seenOf_86 ?_
        refine u_iconst (v := 4) X dX3_seenOf_89 rfl ?_
        refine ld_5 (w := 4) X hP rfl (by decide) dX3_seenOf_90 ?_
        refine u_iadd X dX3_seenOf_91 ?_
        refine u_istore [(6, .int (l6_66 + (gI z 5 4))), (0, .ref (ad 17)), (2, .int a1), (4, .int a3), (5, .int ((gI z 2 (a0 / 8).toNatClampNeg) ||| (gI z 2 (irm a0 8).toNatClampNeg)))] X hl dX3_seenOf_92 (Nat.le_of_ble_eq_true rfl) rfl (fun ls hl => ?_)
        exact J94 _ _ _ _ (lv_sub hl [3, 0] rfl) hP hS h
  refine u_icmp_eq 66 X dX3_seenOf_40 rfl (fun hc => ?_) (fun hc => ?_)
  · rw [if_pos hc] at h
    exact J66 _ _ _ _ (lv_sub hl [2, 4, 6, 1, 0] rfl) hP hS h
  · rw [if_neg hc] at h
    refine u_iload X hl dX3_seenOf_43 1 rfl ?_
    refine u_iload_n X hl dX3_seenOf_45 5 rfl ?_
    refine u_ishr X dX3_seenOf_46 ?_
    refine u_iconst (v := 1) X dX3_seenOf_47 rfl ?_
    refine u_iand X dX3_seenOf_48 ?_
    refine u_if_ne 66 X dX3_seenOf_49 rfl (fun hc => ?_) (fun hc => ?_)
    · rw [if_neg hc] at h
      exact J66 _ _ _ _ (lv_sub hl [2, 4, 6, 1, 0] rfl) hP hS h
    · rw [if_pos hc] at h
      refine u_iload X hl dX3_seenOf_52 0 rfl ?_
      refine u_aload_n X hl dX3_seenOf_54 2 rfl ?_
      refine gf_X3_9_17 X hP dX3_seenOf_55 ?_
      refine gf_X3_35_1 X hP dX3_seenOf_58 ?_
      refine u_iconst (v := 3) X dX3_seenOf_61 rfl ?_
      refine ld_5 (w := 3) X hP rfl (by decide) dX3_seenOf_62 ?_
      refine u_iadd X dX3_seenOf_63 ?_
      refine u_istore [(6, .int ((gI z 5 2) + (gI z 5 3))), (5, .int ((gI z 2 (a0 / 8).toNatClampNeg) ||| (gI z 2 (irm a0 8).toNatClampNeg))), (0, .ref (ad 17)), (1, .int a0), (2, .int a1), (3, .int a2), (4, .int a3)] X hl dX3_seenOf_64 (Nat.le_of_ble_eq_true rfl) rfl (fun ls hl => ?_)
      exact J66 _ _ _ _ (lv_sub hl [2, 4, 6, 1, 0] rfl) hP hS h
def fJudge_seenOn (z : MS) (a0 : Int32) : Option Int32 :=
  Option.bind (fHouse_pairOn z a0) (fun w6 => Option.bind (fHouse_at z a0 2) (fun w15 => Option.bind (fHouse_at z a0 3) (fun w24 => Option.bind (fJudge_seenOf z w6 w15 w24 (fHouse_hasSurprise z a0)) (fun w35 => some w35))))
set_option maxRecDepth 4000 in
theorem cJudge_seenOn (l : Launch) {z : MS} {a0 : Int32} {r : Int32} (h : fJudge_seenOn z a0 = some r) : CT l yX3_seenOn cX3_seenOn 2 (some .int) 2 49 (fun ad sd => [.ref (ad 17), .int a0]) z (some (.int r)) z := by
  rw [fJudge_seenOn] at h
  refine u_start RX3 rfl (by decide) (fun _ _ => Nat.le_of_ble_eq_true rfl) (fun p e s m args below meth c R D ad cs sd A Q ls X hP hS hl hr hret => ?_)
  have hl : lv_has ls 2 [(0, .ref (ad 17)), (1, .int a0)] := hl
  refine u_aload_n X hl dX3_seenOn_0 0 rfl ?_
  refine u_aload_n X hl dX3_seenOn_1 0 rfl ?_
  refine gf_X3_9_17 X hP dX3_seenOn_2 ?_
  refine u_iload_n X hl dX3_seenOn_5 1 rfl ?_
  obtain ⟨w6, hc6, h⟩ := ob_inv h
  refine u_callVi X hP hS hl dX3_seenOn_6 (cHouse_pairOn l hc6) cw_X3_21 io_1 rfl rfl rfl rfl ⟨rfl, rfl⟩ (fun H locs hP hS => ?_)
  refine u_aload_n X hl dX3_seenOn_9 0 rfl ?_
  refine gf_X3_9_17 X hP dX3_seenOn_10 ?_
  refine u_iload_n X hl dX3_seenOn_13 1 rfl ?_
  refine u_iconst (v := 2) X dX3_seenOn_14 rfl ?_
  obtain ⟨w15, hc15, h⟩ := ob_inv h
  refine u_callVi X hP hS hl dX3_seenOn_15 (cHouse_at l hc15) cw_X3_44 io_1 rfl rfl rfl rfl ⟨rfl, rfl⟩ (fun H locs hP hS => ?_)
  refine u_aload_n X hl dX3_seenOn_18 0 rfl ?_
  refine gf_X3_9_17 X hP dX3_seenOn_19 ?_
  refine u_iload_n X hl dX3_seenOn_22 1 rfl ?_
  refine u_iconst (v := 3) X dX3_seenOn_23 rfl ?_
  obtain ⟨w24, hc24, h⟩ := ob_inv h
  refine u_callVi X hP hS hl dX3_seenOn_24 (cHouse_at l hc24) cw_X3_44 io_1 rfl rfl rfl rfl ⟨rfl, rfl⟩ (fun H locs hP hS => ?_)
  refine u_aload_n X hl dX3_seenOn_27 0 rfl ?_
  refine gf_X3_9_17 X hP dX3_seenOn_28 ?_
  refine u_iload_n X hl dX3_seenOn_31 1 rfl ?_
  refine u_callVi X hP hS hl dX3_seenOn_32 (cHouse_hasSurprise l z a0) cw_X3_47 io_1 rfl rfl rfl rfl ⟨rfl, rfl⟩ (fun H locs hP hS => ?_)
  obtain ⟨w35, hc35, h⟩ := ob_inv h
  refine u_callVi X hP hS hl dX3_seenOn_35 (cJudge_seenOf l hc35) cw_X3_51 io_17 rfl rfl rfl rfl ⟨rfl, rfl⟩ (fun H locs hP hS => ?_)
  exact u_iretP X hr hret h hP hS dX3_seenOn_38
def fJudge_worthOf (z : MS) (a0 : Int32) (a1 : Int32) : Int32 :=
  ((12 * (gI z 5 0)) * a0) - ((gI z 5 1) * a1)
set_option maxRecDepth 4000 in
theorem cJudge_worthOf (l : Launch) (z : MS) (a0 : Int32) (a1 : Int32) : CT l yX3_worthOf cX3_worthOf 3 (some .int) 0 0 (fun ad sd => [.ref (ad 17), .int a0, .int a1]) z (some (.int (fJudge_worthOf z a0 a1))) z := by
  generalize h : fJudge_worthOf z a0 a1 = r
  rw [fJudge_worthOf] at h
  refine u_start RX3 rfl (by decide) (fun _ _ => Nat.le_of_ble_eq_true rfl) (fun p e s m args below meth c R D ad cs sd A Q ls X hP hS hl hr hret => ?_)
  have hl : lv_has ls 3 [(0, .ref (ad 17)), (1, .int a0), (2, .int a1)] := hl
  refine u_bipush (v := 12) X dX3_worthOf_0 rfl ?_
  refine u_aload_n X hl dX3_worthOf_2 0 rfl ?_
  refine gf_X3_9_17 X hP dX3_worthOf_3 ?_
  refine gf_X3_35_1 X hP dX3_worthOf_6 ?_
  refine u_iconst (v := 0) X dX3_worthOf_9 rfl ?_
  refine ld_5 (w := 0) X hP rfl (by decide) dX3_worthOf_10 ?_
  refine u_imul X dX3_worthOf_11 ?_
  refine u_iload_n X hl dX3_worthOf_12 1 rfl ?_
  refine u_imul X dX3_worthOf_13 ?_
  refine u_aload_n X hl dX3_worthOf_14 0 rfl ?_
  refine gf_X3_9_17 X hP dX3_worthOf_15 ?_
  refine gf_X3_35_1 X hP dX3_worthOf_18 ?_
  refine u_iconst (v := 1) X dX3_worthOf_21 rfl ?_
  refine ld_5 (w := 1) X hP rfl (by decide) dX3_worthOf_22 ?_
  refine u_iload_n X hl dX3_worthOf_23 2 rfl ?_
  refine u_imul X dX3_worthOf_24 ?_
  refine u_isub X dX3_worthOf_25 ?_
  exact u_iretT X hr hret h hP hS dX3_worthOf_26
def fJudge_worthIf (z : MS) (a0 : Int32) (a1 : Int32) : Option Int32 :=
  Option.bind (fHouse_pairOn z a0) (fun w5 => Option.bind (fHouse_at z a0 2) (fun w17 => Option.bind (fHouse_at z a0 3) (fun w26 => Option.bind (fJudge_seenOf z w5 w17 w26 a1) (fun w30 => Option.bind (fJudge_trustOfPair z w5 a0) (fun w39 => some (fJudge_worthOf z w39 w30))))))
set_option maxRecDepth 4000 in
theorem cJudge_worthIf (l : Launch) {z : MS} {a0 : Int32} {a1 : Int32} {r : Int32} (h : fJudge_worthIf z a0 a1 = some r) : CT l yX3_worthIf cX3_worthIf 5 (some .int) 3 69 (fun ad sd => [.ref (ad 17), .int a0, .int a1]) z (some (.int r)) z := by
  rw [fJudge_worthIf] at h
  refine u_start RX3 rfl (by decide) (fun _ _ => Nat.le_of_ble_eq_true rfl) (fun p e s m args below meth c R D ad cs sd A Q ls X hP hS hl hr hret => ?_)
  have hl : lv_has ls 5 [(0, .ref (ad 17)), (1, .int a0), (2, .int a1)] := hl
  refine u_aload_n X hl dX3_worthIf_0 0 rfl ?_
  refine gf_X3_9_17 X hP dX3_worthIf_1 ?_
  refine u_iload_n X hl dX3_worthIf_4 1 rfl ?_
  obtain ⟨w5, hc5, h⟩ := ob_inv h
  refine u_callVi X hP hS hl dX3_worthIf_5 (cHouse_pairOn l hc5) cw_X3_21 io_1 rfl rfl rfl rfl ⟨rfl, rfl⟩ (fun H locs hP hS => ?_)
  refine u_istore_n [(3, .int w5), (0, .ref (ad 17)), (1, .int a0), (2, .int a1)] X hl dX3_worthIf_8 (Nat.le_of_ble_eq_true rfl) rfl (fun ls hl => ?_)
  refine u_aload_n X hl dX3_worthIf_9 1 rfl ?_
  refine u_iload_n X hl dX3_worthIf_10 0 rfl ?_
  refine u_aload_n X hl dX3_worthIf_11 1 rfl ?_
  refine gf_X3_9_17 X hP dX3_worthIf_12 ?_
  refine u_iload_n X hl dX3_worthIf_15 2 rfl ?_
  refine u_iconst (v := 2) X dX3_worthIf_16 rfl ?_
  obtain ⟨w17, hc17, h⟩ := ob_inv h
  refine u_callVi X hP hS hl dX3_worthIf_17 (cHouse_at l hc17) cw_X3_44 io_1 rfl rfl rfl rfl ⟨rfl, rfl⟩ (fun H locs hP hS => ?_)
  refine u_aload_n X hl dX3_worthIf_20 1 rfl ?_
  refine gf_X3_9_17 X hP dX3_worthIf_21 ?_
  refine u_iload_n X hl dX3_worthIf_24 2 rfl ?_
  refine u_iconst (v := 3) X dX3_worthIf_25 rfl ?_
  obtain ⟨w26, hc26, h⟩ := ob_inv h
  refine u_callVi X hP hS hl dX3_worthIf_26 (cHouse_at l hc26) cw_X3_44 io_1 rfl rfl rfl rfl ⟨rfl, rfl⟩ (fun H locs hP hS => ?_)
  refine u_iload_n X hl dX3_worthIf_29 3 rfl ?_
  obtain ⟨w30, hc30, h⟩ := ob_inv h
  refine u_callVi X hP hS hl dX3_worthIf_30 (cJudge_seenOf l hc30) cw_X3_51 io_17 rfl rfl rfl rfl ⟨rfl, rfl⟩ (fun H locs hP hS => ?_)
  refine u_istore [(4, .int w30), (3, .int w5), (0, .ref (ad 17)), (1, .int a0), (2, .int a1)] X hl dX3_worthIf_33 (Nat.le_of_ble_eq_true rfl) rfl (fun ls hl => ?_)
  refine u_aload_n X hl dX3_worthIf_35 2 rfl ?_
  refine u_aload_n X hl dX3_worthIf_36 2 rfl ?_
  refine u_iload_n X hl dX3_worthIf_37 1 rfl ?_
  refine u_iload_n X hl dX3_worthIf_38 3 rfl ?_
  obtain ⟨w39, hc39, h⟩ := ob_inv h
  refine u_callVi X hP hS hl dX3_worthIf_39 (cJudge_trustOfPair l hc39) cw_X3_58 io_17 rfl rfl rfl rfl ⟨rfl, rfl⟩ (fun H locs hP hS => ?_)
  refine u_iload X hl dX3_worthIf_42 0 rfl ?_
  refine u_callVi X hP hS hl dX3_worthIf_44 (cJudge_worthOf l z w39 w30) cw_X3_61 io_17 rfl rfl rfl rfl ⟨rfl, rfl⟩ (fun H locs hP hS => ?_)
  exact u_iretP X hr hret h hP hS dX3_worthIf_47
def fJudge_worthOn (z : MS) (a0 : Int32) : Option Int32 :=
  Option.bind (fJudge_worthIf z a0 (fHouse_hasSurprise z a0)) (fun w10 => some w10)
set_option maxRecDepth 4000 in
theorem cJudge_worthOn (l : Launch) {z : MS} {a0 : Int32} {r : Int32} (h : fJudge_worthOn z a0 = some r) : CT l yX3_worthOn cX3_worthOn 2 (some .int) 4 93 (fun ad sd => [.ref (ad 17), .int a0]) z (some (.int r)) z := by
  rw [fJudge_worthOn] at h
  refine u_start RX3 rfl (by decide) (fun _ _ => Nat.le_of_ble_eq_true rfl) (fun p e s m args below meth c R D ad cs sd A Q ls X hP hS hl hr hret => ?_)
  have hl : lv_has ls 2 [(0, .ref (ad 17)), (1, .int a0)] := hl
  refine u_aload_n X hl dX3_worthOn_0 0 rfl ?_
  refine u_iload_n X hl dX3_worthOn_1 1 rfl ?_
  refine u_aload_n X hl dX3_worthOn_2 0 rfl ?_
  refine gf_X3_9_17 X hP dX3_worthOn_3 ?_
  refine u_iload_n X hl dX3_worthOn_6 1 rfl ?_
  refine u_callVi X hP hS hl dX3_worthOn_7 (cHouse_hasSurprise l z a0) cw_X3_47 io_1 rfl rfl rfl rfl ⟨rfl, rfl⟩ (fun H locs hP hS => ?_)
  obtain ⟨w10, hc10, h⟩ := ob_inv h
  refine u_callVi X hP hS hl dX3_worthOn_10 (cJudge_worthIf l hc10) cw_X3_55 io_17 rfl rfl rfl rfl ⟨rfl, rfl⟩ (fun H locs hP hS => ?_)
  exact u_iretP X hr hret h hP hS dX3_worthOn_13
def fJudge_isPaying (a0 : Int32) (a1 : Int32) : Int32 :=
  if a0 ≤ 0 then 0 else (if a0 ≤ (24 * a1) then 0 else 1)
theorem fJudge_isPaying_b (a0 : Int32) (a1 : Int32) : fJudge_isPaying a0 a1 = 0 ∨ fJudge_isPaying a0 a1 = 1 := by
  unfold fJudge_isPaying
  (repeat' split) <;> first | with_reducible exact Or.inl rfl | with_reducible exact Or.inr rfl
set_option maxRecDepth 4000 in
theorem cJudge_isPaying (l : Launch) (z : MS) (a0 : Int32) (a1 : Int32) : CT l yX3_isPaying cX3_isPaying 3 (some .boolean) 0 0 (fun ad sd => [.ref (ad 17), .int a0, .int a1]) z (some (.int (fJudge_isPaying a0 a1))) z := by
  generalize h : fJudge_isPaying a0 a1 = r
  rw [fJudge_isPaying] at h
  refine u_start RX3 rfl (by decide) (fun _ _ => Nat.le_of_ble_eq_true rfl) (fun p e s m args below meth c R D ad cs sd A Q ls X hP hS hl hr hret => ?_)
  have hl : lv_has ls 3 [(0, .ref (ad 17)), (1, .int a0), (2, .int a1)] := hl
  refine u_iload_n X hl dX3_isPaying_0 1 rfl ?_
  refine u_if_le 16 X dX3_isPaying_1 rfl (fun hc => ?_) (fun hc => ?_)
  · rw [if_pos hc] at h
    refine u_iconst (v := 0) X dX3_isPaying_16 rfl ?_
    exact u_zretT X hr hret h hP hS (Or.inl rfl) dX3_isPaying_17
  · rw [if_neg hc] at h
    refine u_iload_n X hl dX3_isPaying_4 1 rfl ?_
    refine u_bipush (v := 24) X dX3_isPaying_5 rfl ?_
    refine u_iload_n X hl dX3_isPaying_7 2 rfl ?_
    refine u_imul X dX3_isPaying_8 ?_
    refine u_icmp_le 16 X dX3_isPaying_9 rfl (fun hc => ?_) (fun hc => ?_)
    · rw [if_pos hc] at h
      refine u_iconst (v := 0) X dX3_isPaying_16 rfl ?_
      exact u_zretT X hr hret h hP hS (Or.inl rfl) dX3_isPaying_17
    · rw [if_neg hc] at h
      refine u_iconst (v := 1) X dX3_isPaying_12 rfl ?_
      refine u_goto 17 X dX3_isPaying_13 rfl ?_
      exact u_zretT X hr hret h hP hS (Or.inr rfl) dX3_isPaying_17
def fJudge_payingDaysBy_L4 (z : MS) (l1 : Int32) : Nat → Int32 → Int32 → Option Int32
  | 0, _, _ => none
  | n + 1, l2, l3 => if 10 ≤ l3 then some l2 else Option.bind (fHouse_pairOn z l3) (fun w15 => if w15 = (-1) then fJudge_payingDaysBy_L4 z l1 n l2 (l3 + 1) else Option.bind (fJudge_worthOn z l3) (fun w25 => if (fJudge_isPaying w25 l1) = 0 then fJudge_payingDaysBy_L4 z l1 n l2 (l3 + 1) else fJudge_payingDaysBy_L4 z l1 n (l2 ||| ((1 : Int32) <<< (l3 &&& 31))) (l3 + 1)))
def fJudge_payingDaysBy (z : MS) (a0 : Int32) : Option Int32 :=
  fJudge_payingDaysBy_L4 z a0 LF 0 0
set_option maxRecDepth 4000 in
theorem cJudge_payingDaysBy (l : Launch) {z : MS} {a0 : Int32} {r : Int32} (h : fJudge_payingDaysBy z a0 = some r) : CT l yX3_payingDaysBy cX3_payingDaysBy 4 (some .int) 5 114 (fun ad sd => [.ref (ad 17), .int a0]) z (some (.int r)) z := by
  rw [fJudge_payingDaysBy] at h
  refine u_start RX3 rfl (by decide) (fun _ _ => Nat.le_of_ble_eq_true rfl) (fun p e s m args below meth c R D ad cs sd A Q ls X hP hS hl hr hret => ?_)
  have hl : lv_has ls 4 [(0, .ref (ad 17)), (1, .int a0)] := hl
  refine u_iconst (v := 0) X dX3_payingDaysBy_0 rfl ?_
  refine u_istore_n [(2, .int 0), (0, .ref (ad 17)), (1, .int a0)] X hl dX3_payingDaysBy_1 (Nat.le_of_ble_eq_true rfl) rfl (fun ls hl => ?_)
  refine u_iconst (v := 0) X dX3_payingDaysBy_2 rfl ?_
  refine u_istore_n [(3, .int 0), (2, .int 0), (0, .ref (ad 17)), (1, .int a0)] X hl dX3_payingDaysBy_3 (Nat.le_of_ble_eq_true rfl) rfl (fun ls hl => ?_)
  have L4 : ∀ (n : Nat) (H : Heap) (locs : List Loc) (ls : Array Slot) (l2_4 : Int32) (l3_4 : Int32), lv_has ls 4 [(0, .ref (ad 17)), (1, .int a0), (2, .int l2_4), (3, .int l3_4)] → va_P D clss (wld cs ad z) H → va_S A s.heap H locs → fJudge_payingDaysBy_L4 z a0 n l2_4 l3_4 = some r → W p l e R s m args below meth c H locs 0 0 Q (F0 m 4 ls []) := by
    intro n
    induction n with
    | zero =>
      intro H locs ls l2_4 l3_4 hl hP hS h
      rw [fJudge_payingDaysBy_L4] at h
      cases h
    | succ n4 ih4 =>
      intro H locs ls l2_4 l3_4 hl hP hS h
      rw [fJudge_payingDaysBy_L4] at h
      refine u_iload_n X hl dX3_payingDaysBy_4 3 rfl ?_
      refine u_bipush (v := 10) X dX3_payingDaysBy_5 rfl ?_
      refine u_icmp_ge 47 X dX3_payingDaysBy_7 rfl (fun hc => ?_) (fun hc => ?_)
      · rw [if_pos hc] at h
        refine u_iload_n X hl dX3_payingDaysBy_47 2 rfl ?_
        exact u_iretP X hr hret h hP hS dX3_payingDaysBy_48
      · rw [if_neg hc] at h
        refine u_aload_n X hl dX3_payingDaysBy_10 0 rfl ?_
        refine gf_X3_9_17 X hP dX3_payingDaysBy_11 ?_
        refine u_iload_n X hl dX3_payingDaysBy_14 3 rfl ?_
        obtain ⟨w15, hc15, h⟩ := ob_inv h
        refine u_callVi X hP hS hl dX3_payingDaysBy_15 (cHouse_pairOn l hc15) cw_X3_21 io_1 rfl rfl rfl rfl ⟨rfl, rfl⟩ (fun H locs hP hS => ?_)
        refine u_iconst (v := (-1)) X dX3_payingDaysBy_18 rfl ?_
        refine u_icmp_eq 41 X dX3_payingDaysBy_19 rfl (fun hc => ?_) (fun hc => ?_)
        · rw [if_pos hc] at h
          refine u_iinc [(3, .int (l3_4 + 1)), (0, .ref (ad 17)), (1, .int a0), (2, .int l2_4)] X hl dX3_payingDaysBy_41 3 rfl rfl (Nat.le_of_ble_eq_true rfl) rfl (fun ls hl => ?_)
          refine u_goto 4 X dX3_payingDaysBy_44 rfl ?_
          exact ih4 _ _ _ _ _ (lv_sub hl [1, 2, 3, 0] rfl) hP hS h
        · rw [if_neg hc] at h
          refine u_aload_n X hl dX3_payingDaysBy_22 0 rfl ?_
          refine u_aload_n X hl dX3_payingDaysBy_23 0 rfl ?_
          refine u_iload_n X hl dX3_payingDaysBy_24 3 rfl ?_
          obtain ⟨w25, hc25, h⟩ := ob_inv h
          refine u_callVi X hP hS hl dX3_payingDaysBy_25 (cJudge_worthOn l hc25) cw_X3_67 io_17 rfl rfl rfl rfl ⟨rfl, rfl⟩ (fun H locs hP hS => ?_)
          refine u_iload_n X hl dX3_payingDaysBy_28 1 rfl ?_
          refine u_callVi X hP hS hl dX3_payingDaysBy_29 (cJudge_isPaying l z w25 a0) cw_X3_70 io_17 rfl rfl rfl rfl ⟨rfl, rfl⟩ (fun H locs hP hS => ?_)
          refine u_if_eq 41 X dX3_payingDaysBy_32 rfl (fun hc => ?_) (fun hc => ?_)
          · rw [if_pos hc] at h
            refine u_iinc [(3, .int (l3_4 + 1)), (0, .ref (ad 17)), (1, .int a0), (2, .int l2_4)] X hl dX3_payingDaysBy_41 3 rfl rfl (Nat.le_of_ble_eq_true rfl) rfl (fun ls hl => ?_)
            refine u_goto 4 X dX3_payingDaysBy_44 rfl ?_
            exact ih4 _ _ _ _ _ (lv_sub hl [1, 2, 3, 0] rfl) hP hS h
          · rw [if_neg hc] at h
            refine u_iload_n X hl dX3_payingDaysBy_35 2 rfl ?_
            refine u_iconst (v := 1) X dX3_payingDaysBy_36 rfl ?_
            refine u_iload_n X hl dX3_payingDaysBy_37 3 rfl ?_
            refine u_ishl X dX3_payingDaysBy_38 ?_
            refine u_ior X dX3_payingDaysBy_39 ?_
            refine u_istore_n [(2, .int (l2_4 ||| ((1 : Int32) <<< (l3_4 &&& 31)))), (0, .ref (ad 17)), (1, .int a0), (3, .int l3_4)] X hl dX3_payingDaysBy_40 (Nat.le_of_ble_eq_true rfl) rfl (fun ls hl => ?_)
            refine u_iinc [(3, .int (l3_4 + 1)), (2, .int (l2_4 ||| ((1 : Int32) <<< (l3_4 &&& 31)))), (0, .ref (ad 17)), (1, .int a0)] X hl dX3_payingDaysBy_41 3 rfl rfl (Nat.le_of_ble_eq_true rfl) rfl (fun ls hl => ?_)
            refine u_goto 4 X dX3_payingDaysBy_44 rfl ?_
            exact ih4 _ _ _ _ _ (lv_sub hl [2, 3, 1, 0] rfl) hP hS h
  exact L4 LF _ _ _ _ _ (lv_sub hl [2, 3, 1, 0] rfl) hP hS h
def fJudge_payingDays (z : MS) : Option Int32 :=
  Option.bind (fJudge_payingDaysBy z (gI z 5 6)) (fun w11 => some w11)
set_option maxRecDepth 4000 in
theorem cJudge_payingDays (l : Launch) {z : MS} {r : Int32} (h : fJudge_payingDays z = some r) : CT l yX3_payingDays cX3_payingDays 1 (some .int) 6 137 (fun ad sd => [.ref (ad 17)]) z (some (.int r)) z := by
  rw [fJudge_payingDays] at h
  refine u_start RX3 rfl (by decide) (fun _ _ => Nat.le_of_ble_eq_true rfl) (fun p e s m args below meth c R D ad cs sd A Q ls X hP hS hl hr hret => ?_)
  have hl : lv_has ls 1 [(0, .ref (ad 17))] := hl
  refine u_aload_n X hl dX3_payingDays_0 0 rfl ?_
  refine u_aload_n X hl dX3_payingDays_1 0 rfl ?_
  refine gf_X3_9_17 X hP dX3_payingDays_2 ?_
  refine gf_X3_35_1 X hP dX3_payingDays_5 ?_
  refine u_bipush (v := 6) X dX3_payingDays_8 rfl ?_
  refine ld_5 (w := 6) X hP rfl (by decide) dX3_payingDays_10 ?_
  obtain ⟨w11, hc11, h⟩ := ob_inv h
  refine u_callVi X hP hS hl dX3_payingDays_11 (cJudge_payingDaysBy l hc11) cw_X3_64 io_17 rfl rfl rfl rfl ⟨rfl, rfl⟩ (fun H locs hP hS => ?_)
  exact u_iretP X hr hret h hP hS dX3_payingDays_14
def fOdds_reduce_J43 (z : MS) (l1 : Int64) : Option MS :=
  if (lg_cmp l1 1) ≤ 0 then some z else (if l1 = 0 then none else if l1 = 0 then none else some (pJ (pJ z 18 2 ((gJ z 18 2) / l1)) 18 3 ((gJ (pJ z 18 2 ((gJ z 18 2) / l1)) 18 3) / l1)))
def fOdds_reduce_L13 (z : MS) : Nat → Int64 → Int64 → Int32 → Option MS
  | 0, _, _, _ => none
  | n + 1, l1, l3, l5 => if 200 ≤ l5 then fOdds_reduce_J43 z l1 else (if (lg_cmp l3 0) = 0 then fOdds_reduce_J43 z l1 else (if l3 = 0 then none else fOdds_reduce_L13 z n l3 (lrm l1 l3) (l5 + 1)))
def fOdds_reduce (z : MS) : Option MS :=
  fOdds_reduce_L13 z LF (gJ z 18 2) (gJ z 18 3) 0
set_option maxRecDepth 4000 in
theorem cOdds_reduce (l : Launch) {z : MS} {z1 : MS} (h : fOdds_reduce z = some z1) : CT l yX4_reduce cX4_reduce 8 none 0 0 (fun ad sd => [.ref (ad 18)]) z none z1 := by
  rw [fOdds_reduce] at h
  refine u_start RX4 rfl (by decide) (fun _ _ => Nat.le_of_ble_eq_true rfl) (fun p e s m args below meth c R D ad cs sd A Q ls X hP hS hl hr hret => ?_)
  have hl : lv_has ls 8 [(0, .ref (ad 18))] := hl
  refine u_aload_n X hl dX4_reduce_0 0 rfl ?_
  refine gf_X4_19_18 X hP dX4_reduce_1 ?_
  refine u_lstore_n [(1, .long (gJ z 18 2)), (0, .ref (ad 18))] X hl dX4_reduce_4 (Nat.le_of_ble_eq_true rfl) rfl (fun ls hl => ?_)
  refine u_aload_n X hl dX4_reduce_5 1 rfl ?_
  refine gf_X4_23_18 X hP dX4_reduce_6 ?_
  refine u_lstore_n [(3, .long (gJ z 18 3)), (1, .long (gJ z 18 2)), (0, .ref (ad 18))] X hl dX4_reduce_9 (Nat.le_of_ble_eq_true rfl) rfl (fun ls hl => ?_)
  refine u_iconst (v := 0) X dX4_reduce_10 rfl ?_
  refine u_istore [(5, .int 0), (3, .long (gJ z 18 3)), (1, .long (gJ z 18 2)), (0, .ref (ad 18))] X hl dX4_reduce_11 (Nat.le_of_ble_eq_true rfl) rfl (fun ls hl => ?_)
  have L13 : ∀ (n : Nat) (H : Heap) (locs : List Loc) (ls : Array Slot) (l1_13 : Int64) (l3_13 : Int64) (l5_13 : Int32), lv_has ls 8 [(0, .ref (ad 18)), (1, .long l1_13), (3, .long l3_13), (5, .int l5_13)] → va_P D clss (wld cs ad z) H → va_S A s.heap H locs → fOdds_reduce_L13 z n l1_13 l3_13 l5_13 = some z1 → W p l e R s m args below meth c H locs 0 0 Q (F0 m 13 ls []) := by
    intro n
    induction n with
    | zero =>
      intro H locs ls l1_13 l3_13 l5_13 hl hP hS h
      rw [fOdds_reduce_L13] at h
      cases h
    | succ n13 ih13 =>
      intro H locs ls l1_13 l3_13 l5_13 hl hP hS h
      rw [fOdds_reduce_L13] at h
      refine u_iload X hl dX4_reduce_13 3 rfl ?_
      refine u_sipush (v := 200) X dX4_reduce_15 rfl ?_
      have J43 : ∀ (H : Heap) (locs : List Loc) (ls : Array Slot), lv_has ls 8 [(0, .ref (ad 18)), (1, .long l1_13)] → va_P D clss (wld cs ad z) H → va_S A s.heap H locs → fOdds_reduce_J43 z l1_13 = some z1 → W p l e R s m args below meth c H locs 0 0 Q (F0 m 43 ls []) := by
        intro H locs ls hl hP hS h
        rw [fOdds_reduce_J43] at h
        refine u_lload_n X hl dX4_reduce_43 1 rfl ?_
        refine u_lconst (v := 1) X dX4_reduce_44 rfl ?_
        refine u_lcmp X dX4_reduce_45 ?_
        refine u_if_le 69 X dX4_reduce_46 rfl (fun hc => ?_) (fun hc => ?_)
        · rw [if_pos hc] at h
          exact u_vretM X hr hret h hP hS dX4_reduce_69
        · rw [if_neg hc] at h
          refine u_aload_n X hl dX4_reduce_49 0 rfl ?_
          refine u_dup X rfl dX4_reduce_50 ?_
          refine gf_X4_19_18 X hP dX4_reduce_51 ?_
          refine u_lload_n X hl dX4_reduce_54 1 rfl ?_
          obtain ⟨hn, h⟩ := ifn_inv h
          refine u_ldiv X hn dX4_reduce_55 ?_
          refine pf_X4_19_18 X hP hS dX4_reduce_56 (fun H locs hP hS => ?_)
          refine u_aload_n X hl dX4_reduce_59 0 rfl ?_
          refine u_dup X rfl dX4_reduce_60 ?_
          refine gf_X4_23_18 X hP dX4_reduce_61 ?_
          refine u_lload_n X hl dX4_reduce_64 1 rfl ?_
          obtain ⟨hn, h⟩ := ifn_inv h
          refine u_ldiv X hn dX4_reduce_65 ?_
          refine pf_X4_23_18 X hP hS dX4_reduce_66 (fun H locs hP hS => ?_)
          exact u_vretM X hr hret h hP hS dX4_reduce_69
      refine u_icmp_ge 43 X dX4_reduce_18 rfl (fun hc => ?_) (fun hc => ?_)
      · rw [if_pos hc] at h
        exact J43 _ _ _ (lv_sub hl [0, 1] rfl) hP hS h
      · rw [if_neg hc] at h
        refine u_lload_n X hl dX4_reduce_21 2 rfl ?_
        refine u_lconst (v := 0) X dX4_reduce_22 rfl ?_
        refine u_lcmp X dX4_reduce_23 ?_
        refine u_if_eq 43 X dX4_reduce_24 rfl (fun hc => ?_) (fun hc => ?_)
        · rw [if_pos hc] at h
          exact J43 _ _ _ (lv_sub hl [0, 1] rfl) hP hS h
        · rw [if_neg hc] at h
          refine u_lload_n X hl dX4_reduce_27 1 rfl ?_
          refine u_lload_n X hl dX4_reduce_28 2 rfl ?_
          obtain ⟨hn, h⟩ := ifn_inv h
          refine u_lrem X hn dX4_reduce_29 ?_
          refine u_lstore [(6, .long (lrm l1_13 l3_13)), (0, .ref (ad 18)), (1, .long l1_13), (3, .long l3_13), (5, .int l5_13)] X hl dX4_reduce_30 (Nat.le_of_ble_eq_true rfl) rfl (fun ls hl => ?_)
          refine u_lload_n X hl dX4_reduce_32 3 rfl ?_
          refine u_lstore_n [(1, .long l3_13), (6, .long (lrm l1_13 l3_13)), (0, .ref (ad 18)), (3, .long l3_13), (5, .int l5_13)] X hl dX4_reduce_33 (Nat.le_of_ble_eq_true rfl) rfl (fun ls hl => ?_)
          refine u_lload X hl dX4_reduce_34 1 rfl ?_
          refine u_lstore_n [(3, .long (lrm l1_13 l3_13)), (1, .long l3_13), (6, .long (lrm l1_13 l3_13)), (0, .ref (ad 18)), (5, .int l5_13)] X hl dX4_reduce_36 (Nat.le_of_ble_eq_true rfl) rfl (fun ls hl => ?_)
          refine u_iinc [(5, .int (l5_13 + 1)), (3, .long (lrm l1_13 l3_13)), (1, .long l3_13), (6, .long (lrm l1_13 l3_13)), (0, .ref (ad 18))] X hl dX4_reduce_37 4 rfl rfl (Nat.le_of_ble_eq_true rfl) rfl (fun ls hl => ?_)
          refine u_goto 13 X dX4_reduce_40 rfl ?_
          exact ih13 _ _ _ _ _ _ (lv_sub hl [4, 2, 1, 0] rfl) hP hS h
  exact L13 LF _ _ _ _ _ _ (lv_sub hl [3, 2, 1, 0] rfl) hP hS h
def fOdds_findBest_L13 (l1 : Int32) : Nat → MS → Int32 → Option MS
  | 0, _, _ => none
  | n + 1, z, l2 => if l2 < 0 then Option.bind (fOdds_reduce z) (fun zc136 => some zc136) else Option.bind (fHouse_pairOn z l2) (fun w22 => if w22 = l1 then Option.bind (fJudge_seenOn z l2) (fun w34 => Option.bind (fJudge_trustOfPair z l1 l2) (fun w54 => fOdds_findBest_L13 l1 n (pJ (pJ z 18 2 (mxJ (12 * (gJ z 18 2)) ((((12 - w34).toInt64) * (((((gI z 5 0).toInt64) * w54.toInt64) * (gJ z 18 3)) + (gJ z 18 2))) - (w34.toInt64 * (((gI z 5 1).toInt64) * (gJ z 18 3)))))) 18 3 (12 * (gJ (pJ z 18 2 (mxJ (12 * (gJ z 18 2)) ((((12 - w34).toInt64) * (((((gI z 5 0).toInt64) * w54.toInt64) * (gJ z 18 3)) + (gJ z 18 2))) - (w34.toInt64 * (((gI z 5 1).toInt64) * (gJ z 18 3)))))) 18 3))) (l2 + (-1)))) else fOdds_findBest_L13 l1 n z (l2 + (-1)))
def fOdds_findBest (z : MS) (a0 : Int32) : Option MS :=
  fOdds_findBest_L13 a0 LF (pJ (pJ z 18 2 0) 18 3 1) 9
set_option maxRecDepth 4000 in
theorem cOdds_findBest (l : Launch) {z : MS} {a0 : Int32} {z1 : MS} (h : fOdds_findBest z a0 = some z1) : CT l yX4_findBest cX4_findBest 8 none 3 70 (fun ad sd => [.ref (ad 18), .int a0]) z none z1 := by
  rw [fOdds_findBest] at h
  refine u_start RX4 rfl (by decide) (fun _ _ => Nat.le_of_ble_eq_true rfl) (fun p e s m args below meth c R D ad cs sd A Q ls X hP hS hl hr hret => ?_)
  have hl : lv_has ls 8 [(0, .ref (ad 18)), (1, .int a0)] := hl
  refine u_aload_n X hl dX4_findBest_0 0 rfl ?_
  refine u_lconst (v := 0) X dX4_findBest_1 rfl ?_
  refine pf_X4_19_18 X hP hS dX4_findBest_2 (fun H locs hP hS => ?_)
  refine u_aload_n X hl dX4_findBest_5 0 rfl ?_
  refine u_lconst (v := 1) X dX4_findBest_6 rfl ?_
  refine pf_X4_23_18 X hP hS dX4_findBest_7 (fun H locs hP hS => ?_)
  refine u_bipush (v := 9) X dX4_findBest_10 rfl ?_
  refine u_istore_n [(2, .int 9), (0, .ref (ad 18)), (1, .int a0)] X hl dX4_findBest_12 (Nat.le_of_ble_eq_true rfl) rfl (fun ls hl => ?_)
  have L13 : ∀ (n : Nat) (H : Heap) (locs : List Loc) (ls : Array Slot) (z_13 : MS) (l2_13 : Int32), lv_has ls 8 [(0, .ref (ad 18)), (1, .int a0), (2, .int l2_13)] → va_P D clss (wld cs ad z_13) H → va_S A s.heap H locs → fOdds_findBest_L13 a0 n z_13 l2_13 = some z1 → W p l e R s m args below meth c H locs 0 0 Q (F0 m 13 ls []) := by
    intro n
    induction n with
    | zero =>
      intro H locs ls z_13 l2_13 hl hP hS h
      rw [fOdds_findBest_L13] at h
      cases h
    | succ n13 ih13 =>
      intro H locs ls z_13 l2_13 hl hP hS h
      rw [fOdds_findBest_L13] at h
      refine u_iload_n X hl dX4_findBest_13 2 rfl ?_
      refine u_if_lt 135 X dX4_findBest_14 rfl (fun hc => ?_) (fun hc => ?_)
      · rw [if_pos hc] at h
        refine u_aload_n X hl dX4_findBest_135 0 rfl ?_
        obtain ⟨zc136, hc136, h⟩ := ob_inv h
        refine u_callVv X hP hS hl dX4_findBest_136 (cOdds_reduce l hc136) cw_X4_53 io_18 rfl rfl rfl rfl ⟨rfl, rfl⟩ (fun H locs hP hS => ?_)
        exact u_vretM X hr hret h hP hS dX4_findBest_139
      · rw [if_neg hc] at h
        refine u_aload_n X hl dX4_findBest_17 0 rfl ?_
        refine gf_X4_9_18 X hP dX4_findBest_18 ?_
        refine u_iload_n X hl dX4_findBest_21 2 rfl ?_
        obtain ⟨w22, hc22, h⟩ := ob_inv h
        refine u_callVi X hP hS hl dX4_findBest_22 (cHouse_pairOn l hc22) cw_X4_26 io_1 rfl rfl rfl rfl ⟨rfl, rfl⟩ (fun H locs hP hS => ?_)
        refine u_iload_n X hl dX4_findBest_25 1 rfl ?_
        refine u_icmp_ne 129 X dX4_findBest_26 rfl (fun hc => ?_) (fun hc => ?_)
        · rw [if_neg hc] at h
          refine u_iinc [(2, .int (l2_13 + (-1))), (0, .ref (ad 18)), (1, .int a0)] X hl dX4_findBest_129 2 rfl rfl (Nat.le_of_ble_eq_true rfl) rfl (fun ls hl => ?_)
          refine u_goto 13 X dX4_findBest_132 rfl ?_
          exact ih13 _ _ _ _ _ (lv_sub hl [1, 2, 0] rfl) hP hS h
        · rw [if_pos hc] at h
          refine u_aload_n X hl dX4_findBest_29 0 rfl ?_
          refine gf_X4_15_18 X hP dX4_findBest_30 ?_
          refine u_iload_n X hl dX4_findBest_33 2 rfl ?_
          obtain ⟨w34, hc34, h⟩ := ob_inv h
          refine u_callVi X hP hS hl dX4_findBest_34 (cJudge_seenOn l hc34) cw_X4_32 io_17 rfl rfl rfl rfl ⟨rfl, rfl⟩ (fun H locs hP hS => ?_)
          refine u_istore_n [(3, .int w34), (0, .ref (ad 18)), (1, .int a0), (2, .int l2_13)] X hl dX4_findBest_37 (Nat.le_of_ble_eq_true rfl) rfl (fun ls hl => ?_)
          refine u_aload_n X hl dX4_findBest_38 1 rfl ?_
          refine gf_X4_9_18 X hP dX4_findBest_39 ?_
          refine gf_X4_37_1 X hP dX4_findBest_42 ?_
          refine u_iconst (v := 0) X dX4_findBest_45 rfl ?_
          refine ld_5 (w := 0) X hP rfl (by decide) dX4_findBest_46 ?_
          refine u_i2l X dX4_findBest_47 ?_
          refine u_aload_n X hl dX4_findBest_48 1 rfl ?_
          refine gf_X4_15_18 X hP dX4_findBest_49 ?_
          refine u_iload_n X hl dX4_findBest_52 2 rfl ?_
          refine u_iload_n X hl dX4_findBest_53 3 rfl ?_
          obtain ⟨w54, hc54, h⟩ := ob_inv h
          refine u_callVi X hP hS hl dX4_findBest_54 (cJudge_trustOfPair l hc54) cw_X4_41 io_17 rfl rfl rfl rfl ⟨rfl, rfl⟩ (fun H locs hP hS => ?_)
          refine u_i2l X dX4_findBest_57 ?_
          refine u_lmul X dX4_findBest_58 ?_
          refine u_lstore [(4, .long (((gI z_13 5 0).toInt64) * w54.toInt64)), (3, .int w34), (0, .ref (ad 18)), (1, .int a0), (2, .int l2_13)] X hl dX4_findBest_59 (Nat.le_of_ble_eq_true rfl) rfl (fun ls hl => ?_)
          refine u_bipush (v := 12) X dX4_findBest_61 rfl ?_
          refine u_iload_n X hl dX4_findBest_63 1 rfl ?_
          refine u_isub X dX4_findBest_64 ?_
          refine u_i2l X dX4_findBest_65 ?_
          refine u_lload X hl dX4_findBest_66 0 rfl ?_
          refine u_aload_n X hl dX4_findBest_68 2 rfl ?_
          refine gf_X4_23_18 X hP dX4_findBest_69 ?_
          refine u_lmul X dX4_findBest_72 ?_
          refine u_aload_n X hl dX4_findBest_73 2 rfl ?_
          refine gf_X4_19_18 X hP dX4_findBest_74 ?_
          refine u_ladd X dX4_findBest_77 ?_
          refine u_lmul X dX4_findBest_78 ?_
          refine u_iload_n X hl dX4_findBest_79 1 rfl ?_
          refine u_i2l X dX4_findBest_80 ?_
          refine u_aload_n X hl dX4_findBest_81 2 rfl ?_
          refine gf_X4_9_18 X hP dX4_findBest_82 ?_
          refine gf_X4_37_1 X hP dX4_findBest_85 ?_
          refine u_iconst (v := 1) X dX4_findBest_88 rfl ?_
          refine ld_5 (w := 1) X hP rfl (by decide) dX4_findBest_89 ?_
          refine u_i2l X dX4_findBest_90 ?_
          refine u_aload_n X hl dX4_findBest_91 2 rfl ?_
          refine gf_X4_23_18 X hP dX4_findBest_92 ?_
          refine u_lmul X dX4_findBest_95 ?_
          refine u_lmul X dX4_findBest_96 ?_
          refine u_lsub X dX4_findBest_97 ?_
          refine u_lstore [(6, .long ((((12 - w34).toInt64) * (((((gI z_13 5 0).toInt64) * w54.toInt64) * (gJ z_13 18 3)) + (gJ z_13 18 2))) - (w34.toInt64 * (((gI z_13 5 1).toInt64) * (gJ z_13 18 3))))), (4, .long (((gI z_13 5 0).toInt64) * w54.toInt64)), (3, .int w34), (0, .ref (ad 18)), (1, .int a0), (2, .int l2_13)] X hl dX4_findBest_98 (Nat.le_of_ble_eq_true rfl) rfl (fun ls hl => ?_)
          refine u_aload_n X hl dX4_findBest_100 3 rfl ?_
          refine u_ldc2 X kw_X4_45 dX4_findBest_101 ?_
          refine u_aload_n X hl dX4_findBest_104 3 rfl ?_
          refine gf_X4_19_18 X hP dX4_findBest_105 ?_
          refine u_lmul X dX4_findBest_108 ?_
          refine u_lload X hl dX4_findBest_109 0 rfl ?_
          refine mw_X4_47 X hl dX4_findBest_111 rfl ⟨rfl, rfl⟩ ?_
          refine pf_X4_19_18 X hP hS dX4_findBest_114 (fun H locs hP hS => ?_)
          refine u_aload_n X hl dX4_findBest_117 3 rfl ?_
          refine u_ldc2 X kw_X4_45 dX4_findBest_118 ?_
          refine u_aload_n X hl dX4_findBest_121 3 rfl ?_
          refine gf_X4_23_18 X hP dX4_findBest_122 ?_
          refine u_lmul X dX4_findBest_125 ?_
          refine pf_X4_23_18 X hP hS dX4_findBest_126 (fun H locs hP hS => ?_)
          refine u_iinc [(2, .int (l2_13 + (-1))), (6, .long ((((12 - w34).toInt64) * (((((gI z_13 5 0).toInt64) * w54.toInt64) * (gJ z_13 18 3)) + (gJ z_13 18 2))) - (w34.toInt64 * (((gI z_13 5 1).toInt64) * (gJ z_13 18 3))))), (4, .long (((gI z_13 5 0).toInt64) * w54.toInt64)), (3, .int w34), (0, .ref (ad 18)), (1, .int a0)] X hl dX4_findBest_129 5 rfl rfl (Nat.le_of_ble_eq_true rfl) rfl (fun ls hl => ?_)
          refine u_goto 13 X dX4_findBest_132 rfl ?_
          exact ih13 _ _ _ _ _ (lv_sub hl [4, 5, 0] rfl) hP hS h
  exact L13 LF _ _ _ _ _ (lv_sub hl [1, 2, 0] rfl) hP hS h
def fJudge_leastTell_L2 (z : MS) : Nat → Int32 → Option Int32
  | 0, _ => none
  | n + 1, l1 => if 99 < l1 then some (-3) else Option.bind (fJudge_payingDaysBy z l1) (fun w10 => if w10 = 0 then some l1 else fJudge_leastTell_L2 z n (l1 + 1))
def fJudge_leastTell (z : MS) : Option Int32 :=
  fJudge_leastTell_L2 z LF 0
set_option maxRecDepth 4000 in
theorem cJudge_leastTell (l : Launch) {z : MS} {r : Int32} (h : fJudge_leastTell z = some r) : CT l yX3_leastTell cX3_leastTell 2 (some .int) 6 137 (fun ad sd => [.ref (ad 17)]) z (some (.int r)) z := by
  rw [fJudge_leastTell] at h
  refine u_start RX3 rfl (by decide) (fun _ _ => Nat.le_of_ble_eq_true rfl) (fun p e s m args below meth c R D ad cs sd A Q ls X hP hS hl hr hret => ?_)
  have hl : lv_has ls 2 [(0, .ref (ad 17))] := hl
  refine u_iconst (v := 0) X dX3_leastTell_0 rfl ?_
  refine u_istore_n [(1, .int 0), (0, .ref (ad 17))] X hl dX3_leastTell_1 (Nat.le_of_ble_eq_true rfl) rfl (fun ls hl => ?_)
  have L2 : ∀ (n : Nat) (H : Heap) (locs : List Loc) (ls : Array Slot) (l1_2 : Int32), lv_has ls 2 [(0, .ref (ad 17)), (1, .int l1_2)] → va_P D clss (wld cs ad z) H → va_S A s.heap H locs → fJudge_leastTell_L2 z n l1_2 = some r → W p l e R s m args below meth c H locs 0 0 Q (F0 m 2 ls []) := by
    intro n
    induction n with
    | zero =>
      intro H locs ls l1_2 hl hP hS h
      rw [fJudge_leastTell_L2] at h
      cases h
    | succ n2 ih2 =>
      intro H locs ls l1_2 hl hP hS h
      rw [fJudge_leastTell_L2] at h
      refine u_iload_n X hl dX3_leastTell_2 1 rfl ?_
      refine u_bipush (v := 99) X dX3_leastTell_3 rfl ?_
      refine u_icmp_gt 24 X dX3_leastTell_5 rfl (fun hc => ?_) (fun hc => ?_)
      · rw [if_pos hc] at h
        refine u_bipush (v := (-3)) X dX3_leastTell_24 rfl ?_
        exact u_iretP X hr hret h hP hS dX3_leastTell_26
      · rw [if_neg hc] at h
        refine u_aload_n X hl dX3_leastTell_8 0 rfl ?_
        refine u_iload_n X hl dX3_leastTell_9 1 rfl ?_
        obtain ⟨w10, hc10, h⟩ := ob_inv h
        refine u_callVi X hP hS hl dX3_leastTell_10 (cJudge_payingDaysBy l hc10) cw_X3_64 io_17 rfl rfl rfl rfl ⟨rfl, rfl⟩ (fun H locs hP hS => ?_)
        refine u_if_ne 18 X dX3_leastTell_13 rfl (fun hc => ?_) (fun hc => ?_)
        · rw [if_neg hc] at h
          refine u_iinc [(1, .int (l1_2 + 1)), (0, .ref (ad 17))] X hl dX3_leastTell_18 1 rfl rfl (Nat.le_of_ble_eq_true rfl) rfl (fun ls hl => ?_)
          refine u_goto 2 X dX3_leastTell_21 rfl ?_
          exact ih2 _ _ _ _ (lv_sub hl [1, 0] rfl) hP hS h
        · rw [if_pos hc] at h
          refine u_iload_n X hl dX3_leastTell_16 1 rfl ?_
          exact u_iretP X hr hret h hP hS dX3_leastTell_17
  exact L2 LF _ _ _ _ (lv_sub hl [1, 0] rfl) hP hS h
def fJudge_surprisesNeeded_L15 (z : MS) (l1 : Int32) : Nat → Int32 → Int32 → Option Int32
  | 0, _, _ => none
  | n + 1, l2, l3 => if 10 ≤ l3 then some l2 else Option.bind (fHouse_pairOn z l3) (fun w26 => if w26 = (-1) then fJudge_surprisesNeeded_L15 z l1 n l2 (l3 + 1) else Option.bind (fJudge_worthIf z l3 0) (fun w37 => if (fJudge_isPaying w37 l1) = 0 then fJudge_surprisesNeeded_L15 z l1 n l2 (l3 + 1) else Option.bind (fJudge_worthIf z l3 1) (fun w51 => if (fJudge_isPaying w51 l1) = 0 then fJudge_surprisesNeeded_L15 z l1 n (l2 ||| ((1 : Int32) <<< (l3 &&& 31))) (l3 + 1) else some (-3))))
def fJudge_surprisesNeeded (z : MS) : Option Int32 :=
  fJudge_surprisesNeeded_L15 z (gI z 5 6) LF 0 0
set_option maxRecDepth 4000 in
theorem cJudge_surprisesNeeded (l : Launch) {z : MS} {r : Int32} (h : fJudge_surprisesNeeded z = some r) : CT l yX3_surprisesNeeded cX3_surprisesNeeded 4 (some .int) 4 93 (fun ad sd => [.ref (ad 17)]) z (some (.int r)) z := by
  rw [fJudge_surprisesNeeded] at h
  refine u_start RX3 rfl (by decide) (fun _ _ => Nat.le_of_ble_eq_true rfl) (fun p e s m args below meth c R D ad cs sd A Q ls X hP hS hl hr hret => ?_)
  have hl : lv_has ls 4 [(0, .ref (ad 17))] := hl
  refine u_aload_n X hl dX3_surprisesNeeded_0 0 rfl ?_
  refine gf_X3_9_17 X hP dX3_surprisesNeeded_1 ?_
  refine gf_X3_35_1 X hP dX3_surprisesNeeded_4 ?_
  refine u_bipush (v := 6) X dX3_surprisesNeeded_7 rfl ?_
  refine ld_5 (w := 6) X hP rfl (by decide) dX3_surprisesNeeded_9 ?_
  refine u_istore_n [(1, .int (gI z 5 6)), (0, .ref (ad 17))] X hl dX3_surprisesNeeded_10 (Nat.le_of_ble_eq_true rfl) rfl (fun ls hl => ?_)
  refine u_iconst (v := 0) X dX3_surprisesNeeded_11 rfl ?_
  refine u_istore_n [(2, .int 0), (1, .int (gI z 5 6)), (0, .ref (ad 17))] X hl dX3_surprisesNeeded_12 (Nat.le_of_ble_eq_true rfl) rfl (fun ls hl => ?_)
  refine u_iconst (v := 0) X dX3_surprisesNeeded_13 rfl ?_
  refine u_istore_n [(3, .int 0), (2, .int 0), (1, .int (gI z 5 6)), (0, .ref (ad 17))] X hl dX3_surprisesNeeded_14 (Nat.le_of_ble_eq_true rfl) rfl (fun ls hl => ?_)
  have L15 : ∀ (n : Nat) (H : Heap) (locs : List Loc) (ls : Array Slot) (l2_15 : Int32) (l3_15 : Int32), lv_has ls 4 [(0, .ref (ad 17)), (1, .int (gI z 5 6)), (2, .int l2_15), (3, .int l3_15)] → va_P D clss (wld cs ad z) H → va_S A s.heap H locs → fJudge_surprisesNeeded_L15 z (gI z 5 6) n l2_15 l3_15 = some r → W p l e R s m args below meth c H locs 0 0 Q (F0 m 15 ls []) := by
    intro n
    induction n with
    | zero =>
      intro H locs ls l2_15 l3_15 hl hP hS h
      rw [fJudge_surprisesNeeded_L15] at h
      cases h
    | succ n15 ih15 =>
      intro H locs ls l2_15 l3_15 hl hP hS h
      rw [fJudge_surprisesNeeded_L15] at h
      refine u_iload_n X hl dX3_surprisesNeeded_15 3 rfl ?_
      refine u_bipush (v := 10) X dX3_surprisesNeeded_16 rfl ?_
      refine u_icmp_ge 76 X dX3_surprisesNeeded_18 rfl (fun hc => ?_) (fun hc => ?_)
      · rw [if_pos hc] at h
        refine u_iload_n X hl dX3_surprisesNeeded_76 2 rfl ?_
        exact u_iretP X hr hret h hP hS dX3_surprisesNeeded_77
      · rw [if_neg hc] at h
        refine u_aload_n X hl dX3_surprisesNeeded_21 0 rfl ?_
        refine gf_X3_9_17 X hP dX3_surprisesNeeded_22 ?_
        refine u_iload_n X hl dX3_surprisesNeeded_25 3 rfl ?_
        obtain ⟨w26, hc26, h⟩ := ob_inv h
        refine u_callVi X hP hS hl dX3_surprisesNeeded_26 (cHouse_pairOn l hc26) cw_X3_21 io_1 rfl rfl rfl rfl ⟨rfl, rfl⟩ (fun H locs hP hS => ?_)
        refine u_iconst (v := (-1)) X dX3_surprisesNeeded_29 rfl ?_
        refine u_icmp_eq 70 X dX3_surprisesNeeded_30 rfl (fun hc => ?_) (fun hc => ?_)
        · rw [if_pos hc] at h
          refine u_iinc [(3, .int (l3_15 + 1)), (0, .ref (ad 17)), (1, .int (gI z 5 6)), (2, .int l2_15)] X hl dX3_surprisesNeeded_70 3 rfl rfl (Nat.le_of_ble_eq_true rfl) rfl (fun ls hl => ?_)
          refine u_goto 15 X dX3_surprisesNeeded_73 rfl ?_
          exact ih15 _ _ _ _ _ (lv_sub hl [1, 2, 3, 0] rfl) hP hS h
        · rw [if_neg hc] at h
          refine u_aload_n X hl dX3_surprisesNeeded_33 0 rfl ?_
          refine u_aload_n X hl dX3_surprisesNeeded_34 0 rfl ?_
          refine u_iload_n X hl dX3_surprisesNeeded_35 3 rfl ?_
          refine u_iconst (v := 0) X dX3_surprisesNeeded_36 rfl ?_
          obtain ⟨w37, hc37, h⟩ := ob_inv h
          refine u_callVi X hP hS hl dX3_surprisesNeeded_37 (cJudge_worthIf l hc37) cw_X3_55 io_17 rfl rfl rfl rfl ⟨rfl, rfl⟩ (fun H locs hP hS => ?_)
          refine u_iload_n X hl dX3_surprisesNeeded_40 1 rfl ?_
          refine u_callVi X hP hS hl dX3_surprisesNeeded_41 (cJudge_isPaying l z w37 (gI z 5 6)) cw_X3_70 io_17 rfl rfl rfl rfl ⟨rfl, rfl⟩ (fun H locs hP hS => ?_)
          refine u_if_eq 70 X dX3_surprisesNeeded_44 rfl (fun hc => ?_) (fun hc => ?_)
          · rw [if_pos hc] at h
            refine u_iinc [(3, .int (l3_15 + 1)), (0, .ref (ad 17)), (1, .int (gI z 5 6)), (2, .int l2_15)] X hl dX3_surprisesNeeded_70 3 rfl rfl (Nat.le_of_ble_eq_true rfl) rfl (fun ls hl => ?_)
            refine u_goto 15 X dX3_surprisesNeeded_73 rfl ?_
            exact ih15 _ _ _ _ _ (lv_sub hl [1, 2, 3, 0] rfl) hP hS h
          · rw [if_neg hc] at h
            refine u_aload_n X hl dX3_surprisesNeeded_47 0 rfl ?_
            refine u_aload_n X hl dX3_surprisesNeeded_48 0 rfl ?_
            refine u_iload_n X hl dX3_surprisesNeeded_49 3 rfl ?_
            refine u_iconst (v := 1) X dX3_surprisesNeeded_50 rfl ?_
            obtain ⟨w51, hc51, h⟩ := ob_inv h
            refine u_callVi X hP hS hl dX3_surprisesNeeded_51 (cJudge_worthIf l hc51) cw_X3_55 io_17 rfl rfl rfl rfl ⟨rfl, rfl⟩ (fun H locs hP hS => ?_)
            refine u_iload_n X hl dX3_surprisesNeeded_54 1 rfl ?_
            refine u_callVi X hP hS hl dX3_surprisesNeeded_55 (cJudge_isPaying l z w51 (gI z 5 6)) cw_X3_70 io_17 rfl rfl rfl rfl ⟨rfl, rfl⟩ (fun H locs hP hS => ?_)
            refine u_if_eq 64 X dX3_surprisesNeeded_58 rfl (fun hc => ?_) (fun hc => ?_)
            · rw [if_pos hc] at h
              refine u_iload_n X hl dX3_surprisesNeeded_64 2 rfl ?_
              refine u_iconst (v := 1) X dX3_surprisesNeeded_65 rfl ?_
              refine u_iload_n X hl dX3_surprisesNeeded_66 3 rfl ?_
              refine u_ishl X dX3_surprisesNeeded_67 ?_
              refine u_ior X dX3_surprisesNeeded_68 ?_
              refine u_istore_n [(2, .int (l2_15 ||| ((1 : Int32) <<< (l3_15 &&& 31)))), (0, .ref (ad 17)), (1, .int (gI z 5 6)), (3, .int l3_15)] X hl dX3_surprisesNeeded_69 (Nat.le_of_ble_eq_true rfl) rfl (fun ls hl => ?_)
              refine u_iinc [(3, .int (l3_15 + 1)), (2, .int (l2_15 ||| ((1 : Int32) <<< (l3_15 &&& 31)))), (0, .ref (ad 17)), (1, .int (gI z 5 6))] X hl dX3_surprisesNeeded_70 3 rfl rfl (Nat.le_of_ble_eq_true rfl) rfl (fun ls hl => ?_)
              refine u_goto 15 X dX3_surprisesNeeded_73 rfl ?_
              exact ih15 _ _ _ _ _ (lv_sub hl [2, 3, 1, 0] rfl) hP hS h
            · rw [if_neg hc] at h
              refine u_bipush (v := (-3)) X dX3_surprisesNeeded_61 rfl ?_
              exact u_iretP X hr hret h hP hS dX3_surprisesNeeded_63
  exact L15 LF _ _ _ _ _ (lv_sub hl [3, 2, 1, 0] rfl) hP hS h
def fJudge_somebodyIsAway_L2 (z : MS) (l1 : Int32) : Nat → Int32 → Option Int32
  | 0, _ => none
  | n + 1, l2 => if 4 ≤ l2 then some 0 else Option.bind (fHouse_at z l1 l2) (fun w13 => if w13 = (-1) then fJudge_somebodyIsAway_L2 z l1 n (l2 + 1) else Option.bind (fHouse_isAway z w13 l1) (fun w28 => if w28 = 0 then fJudge_somebodyIsAway_L2 z l1 n (l2 + 1) else some 1))
def fJudge_somebodyIsAway (z : MS) (a0 : Int32) : Option Int32 :=
  fJudge_somebodyIsAway_L2 z a0 LF 0
set_option maxRecDepth 4000 in
theorem cJudge_somebodyIsAway (l : Launch) {z : MS} {a0 : Int32} {r : Int32} (h : fJudge_somebodyIsAway z a0 = some r) : CT l yX3_somebodyIsAway cX3_somebodyIsAway 4 (some .boolean) 1 22 (fun ad sd => [.ref (ad 17), .int a0]) z (some (.int r)) z := by
  rw [fJudge_somebodyIsAway] at h
  refine u_start RX3 rfl (by decide) (fun _ _ => Nat.le_of_ble_eq_true rfl) (fun p e s m args below meth c R D ad cs sd A Q ls X hP hS hl hr hret => ?_)
  have hl : lv_has ls 4 [(0, .ref (ad 17)), (1, .int a0)] := hl
  refine u_iconst (v := 0) X dX3_somebodyIsAway_0 rfl ?_
  refine u_istore_n [(2, .int 0), (0, .ref (ad 17)), (1, .int a0)] X hl dX3_somebodyIsAway_1 (Nat.le_of_ble_eq_true rfl) rfl (fun ls hl => ?_)
  have L2 : ∀ (n : Nat) (H : Heap) (locs : List Loc) (ls : Array Slot) (l2_2 : Int32), lv_has ls 4 [(0, .ref (ad 17)), (1, .int a0), (2, .int l2_2)] → va_P D clss (wld cs ad z) H → va_S A s.heap H locs → fJudge_somebodyIsAway_L2 z a0 n l2_2 = some r → W p l e R s m args below meth c H locs 0 0 Q (F0 m 2 ls []) := by
    intro n
    induction n with
    | zero =>
      intro H locs ls l2_2 hl hP hS h
      rw [fJudge_somebodyIsAway_L2] at h
      cases h
    | succ n2 ih2 =>
      intro H locs ls l2_2 hl hP hS h
      rw [fJudge_somebodyIsAway_L2] at h
      refine u_iload_n X hl dX3_somebodyIsAway_2 2 rfl ?_
      refine u_iconst (v := 4) X dX3_somebodyIsAway_3 rfl ?_
      refine u_icmp_ge 42 X dX3_somebodyIsAway_4 rfl (fun hc => ?_) (fun hc => ?_)
      · rw [if_pos hc] at h
        refine u_iconst (v := 0) X dX3_somebodyIsAway_42 rfl ?_
        exact u_zretP X hr hret h hP hS (Or.inl rfl) dX3_somebodyIsAway_43
      · rw [if_neg hc] at h
        refine u_aload_n X hl dX3_somebodyIsAway_7 0 rfl ?_
        refine gf_X3_9_17 X hP dX3_somebodyIsAway_8 ?_
        refine u_iload_n X hl dX3_somebodyIsAway_11 1 rfl ?_
        refine u_iload_n X hl dX3_somebodyIsAway_12 2 rfl ?_
        obtain ⟨w13, hc13, h⟩ := ob_inv h
        refine u_callVi X hP hS hl dX3_somebodyIsAway_13 (cHouse_at l hc13) cw_X3_44 io_1 rfl rfl rfl rfl ⟨rfl, rfl⟩ (fun H locs hP hS => ?_)
        refine u_istore_n [(3, .int w13), (0, .ref (ad 17)), (1, .int a0), (2, .int l2_2)] X hl dX3_somebodyIsAway_16 (Nat.le_of_ble_eq_true rfl) rfl (fun ls hl => ?_)
        refine u_iload_n X hl dX3_somebodyIsAway_17 0 rfl ?_
        refine u_iconst (v := (-1)) X dX3_somebodyIsAway_18 rfl ?_
        refine u_icmp_eq 36 X dX3_somebodyIsAway_19 rfl (fun hc => ?_) (fun hc => ?_)
        · rw [if_pos hc] at h
          refine u_iinc [(2, .int (l2_2 + 1)), (3, .int w13), (0, .ref (ad 17)), (1, .int a0)] X hl dX3_somebodyIsAway_36 3 rfl rfl (Nat.le_of_ble_eq_true rfl) rfl (fun ls hl => ?_)
          refine u_goto 2 X dX3_somebodyIsAway_39 rfl ?_
          exact ih2 _ _ _ _ (lv_sub hl [2, 3, 0] rfl) hP hS h
        · rw [if_neg hc] at h
          refine u_aload_n X hl dX3_somebodyIsAway_22 1 rfl ?_
          refine gf_X3_9_17 X hP dX3_somebodyIsAway_23 ?_
          refine u_iload_n X hl dX3_somebodyIsAway_26 0 rfl ?_
          refine u_iload_n X hl dX3_somebodyIsAway_27 2 rfl ?_
          obtain ⟨w28, hc28, h⟩ := ob_inv h
          refine u_callVi X hP hS hl dX3_somebodyIsAway_28 (cHouse_isAway l hc28) cw_X3_86 io_1 rfl rfl rfl rfl ⟨rfl, rfl⟩ (fun H locs hP hS => ?_)
          refine u_if_eq 36 X dX3_somebodyIsAway_31 rfl (fun hc => ?_) (fun hc => ?_)
          · rw [if_pos hc] at h
            refine u_iinc [(2, .int (l2_2 + 1)), (3, .int w13), (0, .ref (ad 17)), (1, .int a0)] X hl dX3_somebodyIsAway_36 3 rfl rfl (Nat.le_of_ble_eq_true rfl) rfl (fun ls hl => ?_)
            refine u_goto 2 X dX3_somebodyIsAway_39 rfl ?_
            exact ih2 _ _ _ _ (lv_sub hl [2, 3, 0] rfl) hP hS h
          · rw [if_neg hc] at h
            refine u_iconst (v := 1) X dX3_somebodyIsAway_34 rfl ?_
            exact u_zretP X hr hret h hP hS (Or.inr rfl) dX3_somebodyIsAway_35
  exact L2 LF _ _ _ _ (lv_sub hl [1, 2, 0] rfl) hP hS h
def fJudge_somebodyIsTwice_L4 (z : MS) (l1 : Int32) : Nat → Int32 → Int32 → Option Int32
  | 0, _, _ => none
  | n + 1, l2, l3 => if 4 ≤ l3 then some 0 else Option.bind (fHouse_at z l1 l3) (fun w15 => if w15 = (-1) then fJudge_somebodyIsTwice_L4 z l1 n l2 (l3 + 1) else (if ((l2 >>> (w15 &&& 31)) &&& 1) = 1 then some 1 else fJudge_somebodyIsTwice_L4 z l1 n (l2 ||| ((1 : Int32) <<< (w15 &&& 31))) (l3 + 1)))
def fJudge_somebodyIsTwice (z : MS) (a0 : Int32) : Option Int32 :=
  fJudge_somebodyIsTwice_L4 z a0 LF 0 0
set_option maxRecDepth 4000 in
theorem cJudge_somebodyIsTwice (l : Launch) {z : MS} {a0 : Int32} {r : Int32} (h : fJudge_somebodyIsTwice z a0 = some r) : CT l yX3_somebodyIsTwice cX3_somebodyIsTwice 5 (some .boolean) 1 22 (fun ad sd => [.ref (ad 17), .int a0]) z (some (.int r)) z := by
  rw [fJudge_somebodyIsTwice] at h
  refine u_start RX3 rfl (by decide) (fun _ _ => Nat.le_of_ble_eq_true rfl) (fun p e s m args below meth c R D ad cs sd A Q ls X hP hS hl hr hret => ?_)
  have hl : lv_has ls 5 [(0, .ref (ad 17)), (1, .int a0)] := hl
  refine u_iconst (v := 0) X dX3_somebodyIsTwice_0 rfl ?_
  refine u_istore_n [(2, .int 0), (0, .ref (ad 17)), (1, .int a0)] X hl dX3_somebodyIsTwice_1 (Nat.le_of_ble_eq_true rfl) rfl (fun ls hl => ?_)
  refine u_iconst (v := 0) X dX3_somebodyIsTwice_2 rfl ?_
  refine u_istore_n [(3, .int 0), (2, .int 0), (0, .ref (ad 17)), (1, .int a0)] X hl dX3_somebodyIsTwice_3 (Nat.le_of_ble_eq_true rfl) rfl (fun ls hl => ?_)
  have L4 : ∀ (n : Nat) (H : Heap) (locs : List Loc) (ls : Array Slot) (l2_4 : Int32) (l3_4 : Int32), lv_has ls 5 [(0, .ref (ad 17)), (1, .int a0), (2, .int l2_4), (3, .int l3_4)] → va_P D clss (wld cs ad z) H → va_S A s.heap H locs → fJudge_somebodyIsTwice_L4 z a0 n l2_4 l3_4 = some r → W p l e R s m args below meth c H locs 0 0 Q (F0 m 4 ls []) := by
    intro n
    induction n with
    | zero =>
      intro H locs ls l2_4 l3_4 hl hP hS h
      rw [fJudge_somebodyIsTwice_L4] at h
      cases h
    | succ n4 ih4 =>
      intro H locs ls l2_4 l3_4 hl hP hS h
      rw [fJudge_somebodyIsTwice_L4] at h
      refine u_iload_n X hl dX3_somebodyIsTwice_4 3 rfl ?_
      refine u_iconst (v := 4) X dX3_somebodyIsTwice_5 rfl ?_
      refine u_icmp_ge 51 X dX3_somebodyIsTwice_6 rfl (fun hc => ?_) (fun hc => ?_)
      · rw [if_pos hc] at h
        refine u_iconst (v := 0) X dX3_somebodyIsTwice_51 rfl ?_
        exact u_zretP X hr hret h hP hS (Or.inl rfl) dX3_somebodyIsTwice_52
      · rw [if_neg hc] at h
        refine u_aload_n X hl dX3_somebodyIsTwice_9 0 rfl ?_
        refine gf_X3_9_17 X hP dX3_somebodyIsTwice_10 ?_
        refine u_iload_n X hl dX3_somebodyIsTwice_13 1 rfl ?_
        refine u_iload_n X hl dX3_somebodyIsTwice_14 3 rfl ?_
        obtain ⟨w15, hc15, h⟩ := ob_inv h
        refine u_callVi X hP hS hl dX3_somebodyIsTwice_15 (cHouse_at l hc15) cw_X3_44 io_1 rfl rfl rfl rfl ⟨rfl, rfl⟩ (fun H locs hP hS => ?_)
        refine u_istore [(4, .int w15), (0, .ref (ad 17)), (1, .int a0), (2, .int l2_4), (3, .int l3_4)] X hl dX3_somebodyIsTwice_18 (Nat.le_of_ble_eq_true rfl) rfl (fun ls hl => ?_)
        refine u_iload X hl dX3_somebodyIsTwice_20 0 rfl ?_
        refine u_iconst (v := (-1)) X dX3_somebodyIsTwice_22 rfl ?_
        refine u_icmp_eq 45 X dX3_somebodyIsTwice_23 rfl (fun hc => ?_) (fun hc => ?_)
        · rw [if_pos hc] at h
          refine u_iinc [(3, .int (l3_4 + 1)), (4, .int w15), (0, .ref (ad 17)), (1, .int a0), (2, .int l2_4)] X hl dX3_somebodyIsTwice_45 4 rfl rfl (Nat.le_of_ble_eq_true rfl) rfl (fun ls hl => ?_)
          refine u_goto 4 X dX3_somebodyIsTwice_48 rfl ?_
          exact ih4 _ _ _ _ _ (lv_sub hl [2, 3, 4, 0] rfl) hP hS h
        · rw [if_neg hc] at h
          refine u_iload_n X hl dX3_somebodyIsTwice_26 3 rfl ?_
          refine u_iload X hl dX3_somebodyIsTwice_27 0 rfl ?_
          refine u_ishr X dX3_somebodyIsTwice_29 ?_
          refine u_iconst (v := 1) X dX3_somebodyIsTwice_30 rfl ?_
          refine u_iand X dX3_somebodyIsTwice_31 ?_
          refine u_iconst (v := 1) X dX3_somebodyIsTwice_32 rfl ?_
          refine u_icmp_ne 38 X dX3_somebodyIsTwice_33 rfl (fun hc => ?_) (fun hc => ?_)
          · rw [if_neg hc] at h
            refine u_iload_n X hl dX3_somebodyIsTwice_38 3 rfl ?_
            refine u_iconst (v := 1) X dX3_somebodyIsTwice_39 rfl ?_
            refine u_iload X hl dX3_somebodyIsTwice_40 0 rfl ?_
            refine u_ishl X dX3_somebodyIsTwice_42 ?_
            refine u_ior X dX3_somebodyIsTwice_43 ?_
            refine u_istore_n [(2, .int (l2_4 ||| ((1 : Int32) <<< (w15 &&& 31)))), (4, .int w15), (0, .ref (ad 17)), (1, .int a0), (3, .int l3_4)] X hl dX3_somebodyIsTwice_44 (Nat.le_of_ble_eq_true rfl) rfl (fun ls hl => ?_)
            refine u_iinc [(3, .int (l3_4 + 1)), (2, .int (l2_4 ||| ((1 : Int32) <<< (w15 &&& 31)))), (4, .int w15), (0, .ref (ad 17)), (1, .int a0)] X hl dX3_somebodyIsTwice_45 4 rfl rfl (Nat.le_of_ble_eq_true rfl) rfl (fun ls hl => ?_)
            refine u_goto 4 X dX3_somebodyIsTwice_48 rfl ?_
            exact ih4 _ _ _ _ _ (lv_sub hl [3, 4, 1, 0] rfl) hP hS h
          · rw [if_pos hc] at h
            refine u_iconst (v := 1) X dX3_somebodyIsTwice_36 rfl ?_
            exact u_zretP X hr hret h hP hS (Or.inr rfl) dX3_somebodyIsTwice_37
  exact L4 LF _ _ _ _ _ (lv_sub hl [2, 3, 1, 0] rfl) hP hS h
def fJudge_brokenOn (z : MS) (a0 : Int32) : Option Int32 :=
  Option.bind (fJudge_somebodyIsAway z a0) (fun w2 => if w2 = 0 then Option.bind (fJudge_somebodyIsTwice z a0) (fun w12 => if w12 = 0 then Option.bind (fHouse_pairOn z a0) (fun w25 => if w25 = (-1) then some 0 else Option.bind (fHouse_areKin z (w25 / 8) (irm w25 8)) (fun w48 => if w48 = 0 then Option.bind (fHouse_satInGap z w25 a0) (fun w62 => if w62 = 0 then Option.bind (fJudge_worthIf z a0 (fHouse_hasSurprise z a0)) (fun w81 => if (fJudge_isPaying w81 (gI z 5 6)) = 0 then some 0 else some 5) else some 4) else some 3)) else some 2) else some 1)
set_option maxRecDepth 4000 in
theorem cJudge_brokenOn (l : Launch) {z : MS} {a0 : Int32} {r : Int32} (h : fJudge_brokenOn z a0 = some r) : CT l yX3_brokenOn cX3_brokenOn 3 (some .int) 4 93 (fun ad sd => [.ref (ad 17), .int a0]) z (some (.int r)) z := by
  rw [fJudge_brokenOn] at h
  refine u_start RX3 rfl (by decide) (fun _ _ => Nat.le_of_ble_eq_true rfl) (fun p e s m args below meth c R D ad cs sd A Q ls X hP hS hl hr hret => ?_)
  have hl : lv_has ls 3 [(0, .ref (ad 17)), (1, .int a0)] := hl
  refine u_aload_n X hl dX3_brokenOn_0 0 rfl ?_
  refine u_iload_n X hl dX3_brokenOn_1 1 rfl ?_
  obtain ⟨w2, hc2, h⟩ := ob_inv h
  refine u_callVi X hP hS hl dX3_brokenOn_2 (cJudge_somebodyIsAway l hc2) cw_X3_74 io_17 rfl rfl rfl rfl ⟨rfl, rfl⟩ (fun H locs hP hS => ?_)
  refine u_if_eq 10 X dX3_brokenOn_5 rfl (fun hc => ?_) (fun hc => ?_)
  · rw [if_pos hc] at h
    refine u_aload_n X hl dX3_brokenOn_10 0 rfl ?_
    refine u_iload_n X hl dX3_brokenOn_11 1 rfl ?_
    obtain ⟨w12, hc12, h⟩ := ob_inv h
    refine u_callVi X hP hS hl dX3_brokenOn_12 (cJudge_somebodyIsTwice l hc12) cw_X3_77 io_17 rfl rfl rfl rfl ⟨rfl, rfl⟩ (fun H locs hP hS => ?_)
    refine u_if_eq 20 X dX3_brokenOn_15 rfl (fun hc => ?_) (fun hc => ?_)
    · rw [if_pos hc] at h
      refine u_aload_n X hl dX3_brokenOn_20 0 rfl ?_
      refine gf_X3_9_17 X hP dX3_brokenOn_21 ?_
      refine u_iload_n X hl dX3_brokenOn_24 1 rfl ?_
      obtain ⟨w25, hc25, h⟩ := ob_inv h
      refine u_callVi X hP hS hl dX3_brokenOn_25 (cHouse_pairOn l hc25) cw_X3_21 io_1 rfl rfl rfl rfl ⟨rfl, rfl⟩ (fun H locs hP hS => ?_)
      refine u_istore_n [(2, .int w25), (0, .ref (ad 17)), (1, .int a0)] X hl dX3_brokenOn_28 (Nat.le_of_ble_eq_true rfl) rfl (fun ls hl => ?_)
      refine u_iload_n X hl dX3_brokenOn_29 0 rfl ?_
      refine u_iconst (v := (-1)) X dX3_brokenOn_30 rfl ?_
      refine u_icmp_ne 36 X dX3_brokenOn_31 rfl (fun hc => ?_) (fun hc => ?_)
      · rw [if_neg hc] at h
        refine u_aload_n X hl dX3_brokenOn_36 1 rfl ?_
        refine gf_X3_9_17 X hP dX3_brokenOn_37 ?_
        refine u_iload_n X hl dX3_brokenOn_40 0 rfl ?_
        refine u_bipush (v := 8) X dX3_brokenOn_41 rfl ?_
        refine u_idiv X (by decide) dX3_brokenOn_43 ?_
        refine u_iload_n X hl dX3_brokenOn_44 0 rfl ?_
        refine u_bipush (v := 8) X dX3_brokenOn_45 rfl ?_
        refine u_irem X (by decide) dX3_brokenOn_47 ?_
        obtain ⟨w48, hc48, h⟩ := ob_inv h
        refine u_callVi X hP hS hl dX3_brokenOn_48 (cHouse_areKin l hc48) cw_X3_80 io_1 rfl rfl rfl rfl ⟨rfl, rfl⟩ (fun H locs hP hS => ?_)
        refine u_if_eq 56 X dX3_brokenOn_51 rfl (fun hc => ?_) (fun hc => ?_)
        · rw [if_pos hc] at h
          refine u_aload_n X hl dX3_brokenOn_56 1 rfl ?_
          refine gf_X3_9_17 X hP dX3_brokenOn_57 ?_
          refine u_iload_n X hl dX3_brokenOn_60 0 rfl ?_
          refine u_iload_n X hl dX3_brokenOn_61 2 rfl ?_
          obtain ⟨w62, hc62, h⟩ := ob_inv h
          refine u_callVi X hP hS hl dX3_brokenOn_62 (cHouse_satInGap l hc62) cw_X3_83 io_1 rfl rfl rfl rfl ⟨rfl, rfl⟩ (fun H locs hP hS => ?_)
          refine u_if_eq 70 X dX3_brokenOn_65 rfl (fun hc => ?_) (fun hc => ?_)
          · rw [if_pos hc] at h
            refine u_aload_n X hl dX3_brokenOn_70 1 rfl ?_
            refine u_aload_n X hl dX3_brokenOn_71 1 rfl ?_
            refine u_iload_n X hl dX3_brokenOn_72 2 rfl ?_
            refine u_aload_n X hl dX3_brokenOn_73 1 rfl ?_
            refine gf_X3_9_17 X hP dX3_brokenOn_74 ?_
            refine u_iload_n X hl dX3_brokenOn_77 2 rfl ?_
            refine u_callVi X hP hS hl dX3_brokenOn_78 (cHouse_hasSurprise l z a0) cw_X3_47 io_1 rfl rfl rfl rfl ⟨rfl, rfl⟩ (fun H locs hP hS => ?_)
            obtain ⟨w81, hc81, h⟩ := ob_inv h
            refine u_callVi X hP hS hl dX3_brokenOn_81 (cJudge_worthIf l hc81) cw_X3_55 io_17 rfl rfl rfl rfl ⟨rfl, rfl⟩ (fun H locs hP hS => ?_)
            refine u_aload_n X hl dX3_brokenOn_84 1 rfl ?_
            refine gf_X3_9_17 X hP dX3_brokenOn_85 ?_
            refine gf_X3_35_1 X hP dX3_brokenOn_88 ?_
            refine u_bipush (v := 6) X dX3_brokenOn_91 rfl ?_
            refine ld_5 (w := 6) X hP rfl (by decide) dX3_brokenOn_93 ?_
            refine u_callVi X hP hS hl dX3_brokenOn_94 (cJudge_isPaying l z w81 (gI z 5 6)) cw_X3_70 io_17 rfl rfl rfl rfl ⟨rfl, rfl⟩ (fun H locs hP hS => ?_)
            refine u_if_eq 104 X dX3_brokenOn_97 rfl (fun hc => ?_) (fun hc => ?_)
            · rw [if_pos hc] at h
              refine u_iconst (v := 0) X dX3_brokenOn_104 rfl ?_
              exact u_iretP X hr hret h hP hS dX3_brokenOn_105
            · rw [if_neg hc] at h
              refine u_iconst (v := 5) X dX3_brokenOn_100 rfl ?_
              refine u_goto 105 X dX3_brokenOn_101 rfl ?_
              exact u_iretP X hr hret h hP hS dX3_brokenOn_105
          · rw [if_neg hc] at h
            refine u_iconst (v := 4) X dX3_brokenOn_68 rfl ?_
            exact u_iretP X hr hret h hP hS dX3_brokenOn_69
        · rw [if_neg hc] at h
          refine u_iconst (v := 3) X dX3_brokenOn_54 rfl ?_
          exact u_iretP X hr hret h hP hS dX3_brokenOn_55
      · rw [if_pos hc] at h
        refine u_iconst (v := 0) X dX3_brokenOn_34 rfl ?_
        exact u_iretP X hr hret h hP hS dX3_brokenOn_35
    · rw [if_neg hc] at h
      refine u_iconst (v := 2) X dX3_brokenOn_18 rfl ?_
      exact u_iretP X hr hret h hP hS dX3_brokenOn_19
  · rw [if_neg hc] at h
    refine u_iconst (v := 1) X dX3_brokenOn_8 rfl ?_
    exact u_iretP X hr hret h hP hS dX3_brokenOn_9
def fOdds_power_L5 (l0 : Int64) (l2 : Int32) : Nat → Int64 → Int32 → Option Int64
  | 0, _, _ => none
  | n + 1, l3, l5 => if l2 ≤ l5 then some l3 else fOdds_power_L5 l0 l2 n (l3 * l0) (l5 + 1)
def fOdds_power (a0 : Int64) (a1 : Int32) : Option Int64 :=
  fOdds_power_L5 a0 a1 LF 1 0
set_option maxRecDepth 4000 in
theorem cOdds_power (l : Launch) (z : MS) {a0 : Int64} {a1 : Int32} {r : Int64} (h : fOdds_power a0 a1 = some r) : CT l yX4_power cX4_power 6 (some .long) 0 0 (fun ad sd => [.long a0, .int a1]) z (some (.long r)) z := by
  rw [fOdds_power] at h
  refine u_start RX4 rfl (by decide) (fun _ _ => Nat.le_of_ble_eq_true rfl) (fun p e s m args below meth c R D ad cs sd A Q ls X hP hS hl hr hret => ?_)
  have hl : lv_has ls 6 [(0, .long a0), (2, .int a1)] := hl
  refine u_lconst (v := 1) X dX4_power_0 rfl ?_
  refine u_lstore_n [(3, .long 1), (0, .long a0), (2, .int a1)] X hl dX4_power_1 (Nat.le_of_ble_eq_true rfl) rfl (fun ls hl => ?_)
  refine u_iconst (v := 0) X dX4_power_2 rfl ?_
  refine u_istore [(5, .int 0), (3, .long 1), (0, .long a0), (2, .int a1)] X hl dX4_power_3 (Nat.le_of_ble_eq_true rfl) rfl (fun ls hl => ?_)
  have L5 : ∀ (n : Nat) (H : Heap) (locs : List Loc) (ls : Array Slot) (l3_5 : Int64) (l5_5 : Int32), lv_has ls 6 [(0, .long a0), (2, .int a1), (3, .long l3_5), (5, .int l5_5)] → va_P D clss (wld cs ad z) H → va_S A s.heap H locs → fOdds_power_L5 a0 a1 n l3_5 l5_5 = some r → W p l e R s m args below meth c H locs 0 0 Q (F0 m 5 ls []) := by
    intro n
    induction n with
    | zero =>
      intro H locs ls l3_5 l5_5 hl hP hS h
      rw [fOdds_power_L5] at h
      cases h
    | succ n5 ih5 =>
      intro H locs ls l3_5 l5_5 hl hP hS h
      rw [fOdds_power_L5] at h
      refine u_iload X hl dX4_power_5 3 rfl ?_
      refine u_iload_n X hl dX4_power_7 1 rfl ?_
      refine u_icmp_ge 21 X dX4_power_8 rfl (fun hc => ?_) (fun hc => ?_)
      · rw [if_pos hc] at h
        refine u_lload_n X hl dX4_power_21 2 rfl ?_
        exact u_lretP X hr hret h hP hS dX4_power_22
      · rw [if_neg hc] at h
        refine u_lload_n X hl dX4_power_11 2 rfl ?_
        refine u_lload_n X hl dX4_power_12 0 rfl ?_
        refine u_lmul X dX4_power_13 ?_
        refine u_lstore_n [(3, .long (l3_5 * a0)), (0, .long a0), (2, .int a1), (5, .int l5_5)] X hl dX4_power_14 (Nat.le_of_ble_eq_true rfl) rfl (fun ls hl => ?_)
        refine u_iinc [(5, .int (l5_5 + 1)), (3, .long (l3_5 * a0)), (0, .long a0), (2, .int a1)] X hl dX4_power_15 3 rfl rfl (Nat.le_of_ble_eq_true rfl) rfl (fun ls hl => ?_)
        refine u_goto 5 X dX4_power_18 rfl ?_
        exact ih5 _ _ _ _ _ (lv_sub hl [2, 3, 1, 0] rfl) hP hS h
  exact L5 LF _ _ _ _ _ (lv_sub hl [2, 3, 1, 0] rfl) hP hS h
def fOdds_ways_L5 (l0 : Int32) (l1 : Int32) : Nat → Int64 → Int32 → Option Int64
  | 0, _, _ => none
  | n + 1, l2, l4 => if l1 < l4 then some l2 else (if l4.toInt64 = 0 then none else fOdds_ways_L5 l0 l1 n ((l2 * (((l0 - l1) + l4).toInt64)) / l4.toInt64) (l4 + 1))
def fOdds_ways (a0 : Int32) (a1 : Int32) : Option Int64 :=
  fOdds_ways_L5 a0 a1 LF 1 1
set_option maxRecDepth 4000 in
theorem cOdds_ways (l : Launch) (z : MS) {a0 : Int32} {a1 : Int32} {r : Int64} (h : fOdds_ways a0 a1 = some r) : CT l yX4_ways cX4_ways 5 (some .long) 0 0 (fun ad sd => [.int a0, .int a1]) z (some (.long r)) z := by
  rw [fOdds_ways] at h
  refine u_start RX4 rfl (by decide) (fun _ _ => Nat.le_of_ble_eq_true rfl) (fun p e s m args below meth c R D ad cs sd A Q ls X hP hS hl hr hret => ?_)
  have hl : lv_has ls 5 [(0, .int a0), (1, .int a1)] := hl
  refine u_lconst (v := 1) X dX4_ways_0 rfl ?_
  refine u_lstore_n [(2, .long 1), (0, .int a0), (1, .int a1)] X hl dX4_ways_1 (Nat.le_of_ble_eq_true rfl) rfl (fun ls hl => ?_)
  refine u_iconst (v := 1) X dX4_ways_2 rfl ?_
  refine u_istore [(4, .int 1), (2, .long 1), (0, .int a0), (1, .int a1)] X hl dX4_ways_3 (Nat.le_of_ble_eq_true rfl) rfl (fun ls hl => ?_)
  have L5 : ∀ (n : Nat) (H : Heap) (locs : List Loc) (ls : Array Slot) (l2_5 : Int64) (l4_5 : Int32), lv_has ls 5 [(0, .int a0), (1, .int a1), (2, .long l2_5), (4, .int l4_5)] → va_P D clss (wld cs ad z) H → va_S A s.heap H locs → fOdds_ways_L5 a0 a1 n l2_5 l4_5 = some r → W p l e R s m args below meth c H locs 0 0 Q (F0 m 5 ls []) := by
    intro n
    induction n with
    | zero =>
      intro H locs ls l2_5 l4_5 hl hP hS h
      rw [fOdds_ways_L5] at h
      cases h
    | succ n5 ih5 =>
      intro H locs ls l2_5 l4_5 hl hP hS h
      rw [fOdds_ways_L5] at h
      refine u_iload X hl dX4_ways_5 3 rfl ?_
      refine u_iload_n X hl dX4_ways_7 1 rfl ?_
      refine u_icmp_gt 31 X dX4_ways_8 rfl (fun hc => ?_) (fun hc => ?_)
      · rw [if_pos hc] at h
        refine u_lload_n X hl dX4_ways_31 2 rfl ?_
        exact u_lretP X hr hret h hP hS dX4_ways_32
      · rw [if_neg hc] at h
        refine u_lload_n X hl dX4_ways_11 2 rfl ?_
        refine u_iload_n X hl dX4_ways_12 0 rfl ?_
        refine u_iload_n X hl dX4_ways_13 1 rfl ?_
        refine u_isub X dX4_ways_14 ?_
        refine u_iload X hl dX4_ways_15 3 rfl ?_
        refine u_iadd X dX4_ways_17 ?_
        refine u_i2l X dX4_ways_18 ?_
        refine u_lmul X dX4_ways_19 ?_
        refine u_iload X hl dX4_ways_20 3 rfl ?_
        refine u_i2l X dX4_ways_22 ?_
        obtain ⟨hn, h⟩ := ifn_inv h
        refine u_ldiv X hn dX4_ways_23 ?_
        refine u_lstore_n [(2, .long ((l2_5 * (((a0 - a1) + l4_5).toInt64)) / l4_5.toInt64)), (0, .int a0), (1, .int a1), (4, .int l4_5)] X hl dX4_ways_24 (Nat.le_of_ble_eq_true rfl) rfl (fun ls hl => ?_)
        refine u_iinc [(4, .int (l4_5 + 1)), (2, .long ((l2_5 * (((a0 - a1) + l4_5).toInt64)) / l4_5.toInt64)), (0, .int a0), (1, .int a1)] X hl dX4_ways_25 3 rfl rfl (Nat.le_of_ble_eq_true rfl) rfl (fun ls hl => ?_)
        refine u_goto 5 X dX4_ways_28 rfl ?_
        exact ih5 _ _ _ _ _ (lv_sub hl [2, 3, 1, 0] rfl) hP hS h
  exact L5 LF _ _ _ _ _ (lv_sub hl [2, 3, 1, 0] rfl) hP hS h
def fOdds_findLot_L50 (l2 : Int32) (l4 : Int64) : Nat → MS → Int32 → Option MS
  | 0, _, _ => none
  | n + 1, z, l6 => if l2 < l6 then Option.bind (fOdds_power l4 l2) (fun w93 => Option.bind (fOdds_reduce (pJ z 18 3 w93)) (fun zc100 => some zc100)) else Option.bind (fOdds_ways l2 l6) (fun w64 => Option.bind (fOdds_power (l4 - 1) (l2 - l6)) (fun w75 => fOdds_findLot_L50 l2 l4 n (pJ z 18 2 ((gJ z 18 2) + (w64 * w75))) (l6 + 1)))
def fOdds_findLot (z : MS) (a0 : Int32) : Option MS :=
  Option.bind (fHouse_sittings z) (fun w4 => Option.bind (fHouse_daysOf z a0) (fun w13 => fOdds_findLot_L50 w4 ((((gI z 1 0) * ((gI z 1 0) - 1)) / 2).toInt64) LF (pJ z 18 2 0) (fJInt_bitCount w13)))
set_option maxRecDepth 4000 in
theorem cOdds_findLot (l : Launch) {z : MS} {a0 : Int32} {z1 : MS} (h : fOdds_findLot z a0 = some z1) : CT l yX4_findLot cX4_findLot 7 none 3 67 (fun ad sd => [.ref (ad 18), .int a0]) z none z1 := by
  rw [fOdds_findLot] at h
  refine u_start RX4 rfl (by decide) (fun _ _ => Nat.le_of_ble_eq_true rfl) (fun p e s m args below meth c R D ad cs sd A Q ls X hP hS hl hr hret => ?_)
  have hl : lv_has ls 7 [(0, .ref (ad 18)), (1, .int a0)] := hl
  refine u_aload_n X hl dX4_findLot_0 0 rfl ?_
  refine gf_X4_9_18 X hP dX4_findLot_1 ?_
  obtain ⟨w4, hc4, h⟩ := ob_inv h
  refine u_callVi X hP hS hl dX4_findLot_4 (cHouse_sittings l hc4) cw_X4_56 io_1 rfl rfl rfl rfl ⟨rfl, rfl⟩ (fun H locs hP hS => ?_)
  refine u_istore_n [(2, .int w4), (0, .ref (ad 18)), (1, .int a0)] X hl dX4_findLot_7 (Nat.le_of_ble_eq_true rfl) rfl (fun ls hl => ?_)
  refine u_aload_n X hl dX4_findLot_8 1 rfl ?_
  refine gf_X4_9_18 X hP dX4_findLot_9 ?_
  refine u_iload_n X hl dX4_findLot_12 2 rfl ?_
  obtain ⟨w13, hc13, h⟩ := ob_inv h
  refine u_callVi X hP hS hl dX4_findLot_13 (cHouse_daysOf l hc13) cw_X4_60 io_1 rfl rfl rfl rfl ⟨rfl, rfl⟩ (fun H locs hP hS => ?_)
  refine u_callSi X hP hS hl dX4_findLot_16 (cJInt_bitCount l z w13) cw_X4_63 rfl rfl rfl rfl ⟨rfl, rfl⟩ (fun H locs hP hS => ?_)
  refine u_istore_n [(3, .int (fJInt_bitCount w13)), (2, .int w4), (0, .ref (ad 18)), (1, .int a0)] X hl dX4_findLot_19 (Nat.le_of_ble_eq_true rfl) rfl (fun ls hl => ?_)
  refine u_aload_n X hl dX4_findLot_20 2 rfl ?_
  refine gf_X4_9_18 X hP dX4_findLot_21 ?_
  refine gf_X4_68_1 X hP dX4_findLot_24 ?_
  refine u_aload_n X hl dX4_findLot_27 2 rfl ?_
  refine gf_X4_9_18 X hP dX4_findLot_28 ?_
  refine gf_X4_68_1 X hP dX4_findLot_31 ?_
  refine u_iconst (v := 1) X dX4_findLot_34 rfl ?_
  refine u_isub X dX4_findLot_35 ?_
  refine u_imul X dX4_findLot_36 ?_
  refine u_iconst (v := 2) X dX4_findLot_37 rfl ?_
  refine u_idiv X (by decide) dX4_findLot_38 ?_
  refine u_i2l X dX4_findLot_39 ?_
  refine u_lstore [(4, .long ((((gI z 1 0) * ((gI z 1 0) - 1)) / 2).toInt64)), (3, .int (fJInt_bitCount w13)), (2, .int w4), (0, .ref (ad 18)), (1, .int a0)] X hl dX4_findLot_40 (Nat.le_of_ble_eq_true rfl) rfl (fun ls hl => ?_)
  refine u_aload_n X hl dX4_findLot_42 3 rfl ?_
  refine u_lconst (v := 0) X dX4_findLot_43 rfl ?_
  refine pf_X4_19_18 X hP hS dX4_findLot_44 (fun H locs hP hS => ?_)
  refine u_iload_n X hl dX4_findLot_47 1 rfl ?_
  refine u_istore [(6, .int (fJInt_bitCount w13)), (4, .long ((((gI z 1 0) * ((gI z 1 0) - 1)) / 2).toInt64)), (3, .int (fJInt_bitCount w13)), (2, .int w4), (0, .ref (ad 18)), (1, .int a0)] X hl dX4_findLot_48 (Nat.le_of_ble_eq_true rfl) rfl (fun ls hl => ?_)
  have L50 : ∀ (n : Nat) (H : Heap) (locs : List Loc) (ls : Array Slot) (z_50 : MS) (l6_50 : Int32), lv_has ls 7 [(0, .ref (ad 18)), (2, .int w4), (4, .long ((((gI z 1 0) * ((gI z 1 0) - 1)) / 2).toInt64)), (6, .int l6_50)] → va_P D clss (wld cs ad z_50) H → va_S A s.heap H locs → fOdds_findLot_L50 w4 ((((gI z 1 0) * ((gI z 1 0) - 1)) / 2).toInt64) n z_50 l6_50 = some z1 → W p l e R s m args below meth c H locs 0 0 Q (F0 m 50 ls []) := by
    intro n
    induction n with
    | zero =>
      intro H locs ls z_50 l6_50 hl hP hS h
      rw [fOdds_findLot_L50] at h
      cases h
    | succ n50 ih50 =>
      intro H locs ls z_50 l6_50 hl hP hS h
      rw [fOdds_findLot_L50] at h
      refine u_iload X hl dX4_findLot_50 3 rfl ?_
      refine u_iload_n X hl dX4_findLot_52 1 rfl ?_
      refine u_icmp_gt 89 X dX4_findLot_53 rfl (fun hc => ?_) (fun hc => ?_)
      · rw [if_pos hc] at h
        refine u_aload_n X hl dX4_findLot_89 0 rfl ?_
        refine u_lload X hl dX4_findLot_90 2 rfl ?_
        refine u_iload_n X hl dX4_findLot_92 1 rfl ?_
        obtain ⟨w93, hc93, h⟩ := ob_inv h
        refine u_callSl X hP hS hl dX4_findLot_93 (cOdds_power l z_50 hc93) cw_X4_76 rfl rfl rfl rfl ⟨rfl, rfl⟩ (fun H locs hP hS => ?_)
        refine pf_X4_23_18 X hP hS dX4_findLot_96 (fun H locs hP hS => ?_)
        refine u_aload_n X hl dX4_findLot_99 0 rfl ?_
        obtain ⟨zc100, hc100, h⟩ := ob_inv h
        refine u_callVv X hP hS hl dX4_findLot_100 (cOdds_reduce l hc100) cw_X4_53 io_18 rfl rfl rfl rfl ⟨rfl, rfl⟩ (fun H locs hP hS => ?_)
        exact u_vretM X hr hret h hP hS dX4_findLot_103
      · rw [if_neg hc] at h
        refine u_aload_n X hl dX4_findLot_56 0 rfl ?_
        refine u_dup X rfl dX4_findLot_57 ?_
        refine gf_X4_19_18 X hP dX4_findLot_58 ?_
        refine u_iload_n X hl dX4_findLot_61 1 rfl ?_
        refine u_iload X hl dX4_findLot_62 3 rfl ?_
        obtain ⟨w64, hc64, h⟩ := ob_inv h
        refine u_callSl X hP hS hl dX4_findLot_64 (cOdds_ways l z_50 hc64) cw_X4_72 rfl rfl rfl rfl ⟨rfl, rfl⟩ (fun H locs hP hS => ?_)
        refine u_lload X hl dX4_findLot_67 2 rfl ?_
        refine u_lconst (v := 1) X dX4_findLot_69 rfl ?_
        refine u_lsub X dX4_findLot_70 ?_
        refine u_iload_n X hl dX4_findLot_71 1 rfl ?_
        refine u_iload X hl dX4_findLot_72 3 rfl ?_
        refine u_isub X dX4_findLot_74 ?_
        obtain ⟨w75, hc75, h⟩ := ob_inv h
        refine u_callSl X hP hS hl dX4_findLot_75 (cOdds_power l z_50 hc75) cw_X4_76 rfl rfl rfl rfl ⟨rfl, rfl⟩ (fun H locs hP hS => ?_)
        refine u_lmul X dX4_findLot_78 ?_
        refine u_ladd X dX4_findLot_79 ?_
        refine pf_X4_19_18 X hP hS dX4_findLot_80 (fun H locs hP hS => ?_)
        refine u_iinc [(6, .int (l6_50 + 1)), (0, .ref (ad 18)), (2, .int w4), (4, .long ((((gI z 1 0) * ((gI z 1 0) - 1)) / 2).toInt64))] X hl dX4_findLot_83 3 rfl rfl (Nat.le_of_ble_eq_true rfl) rfl (fun ls hl => ?_)
        refine u_goto 50 X dX4_findLot_86 rfl ?_
        exact ih50 _ _ _ _ _ (lv_sub hl [1, 2, 3, 0] rfl) hP hS h
  exact L50 LF _ _ _ _ _ (lv_sub hl [4, 3, 1, 0] rfl) hP hS h
