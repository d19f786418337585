theorem dX7_init_0 : decode cX7_init 0 = .ok (.aload_n 0, 1) := by decide +kernel
theorem dX7_init_1 : decode cX7_init 1 = .ok (.invokespecial 3, 3) := by decide +kernel
theorem dX7_init_4 : decode cX7_init 4 = .ok (.aload_n 0, 1) := by decide +kernel
theorem dX7_init_5 : decode cX7_init 5 = .ok (.sipush 200, 3) := by decide +kernel
theorem dX7_init_8 : decode cX7_init 8 = .ok (.newarray .int, 2) := by decide +kernel
theorem dX7_init_10 : decode cX7_init 10 = .ok (.putfield 11, 3) := by decide +kernel
theorem dX7_init_13 : decode cX7_init 13 = .ok (.aload_n 0, 1) := by decide +kernel
theorem dX7_init_14 : decode cX7_init 14 = .ok (.new 15, 3) := by decide +kernel
theorem dX7_init_17 : decode cX7_init 17 = .ok (.dup, 1) := by decide +kernel
theorem dX7_init_18 : decode cX7_init 18 = .ok (.invokespecial 17, 3) := by decide +kernel
theorem dX7_init_21 : decode cX7_init 21 = .ok (.putfield 18, 3) := by decide +kernel
theorem dX7_init_24 : decode cX7_init 24 = .ok (.aload_n 0, 1) := by decide +kernel
theorem dX7_init_25 : decode cX7_init 25 = .ok (.iconst 0, 1) := by decide +kernel
theorem dX7_init_26 : decode cX7_init 26 = .ok (.putfield 22, 3) := by decide +kernel
theorem dX7_init_29 : decode cX7_init 29 = .ok (.aload_n 0, 1) := by decide +kernel
theorem dX7_init_30 : decode cX7_init 30 = .ok (.iconst 0, 1) := by decide +kernel
theorem dX7_init_31 : decode cX7_init 31 = .ok (.putfield 26, 3) := by decide +kernel
theorem dX7_init_34 : decode cX7_init 34 = .ok (.aload_n 0, 1) := by decide +kernel
theorem dX7_init_35 : decode cX7_init 35 = .ok (.iconst (-1), 1) := by decide +kernel
theorem dX7_init_36 : decode cX7_init 36 = .ok (.putfield 29, 3) := by decide +kernel
theorem dX7_init_39 : decode cX7_init 39 = .ok (.return_, 1) := by decide +kernel
theorem dX7_add_0 : decode cX7_add 0 = .ok (.iconst 0, 1) := by decide +kernel
theorem dX7_add_1 : decode cX7_add 1 = .ok (.istore 4, 2) := by decide +kernel
theorem dX7_add_3 : decode cX7_add 3 = .ok (.iload 4, 2) := by decide +kernel
theorem dX7_add_5 : decode cX7_add 5 = .ok (.iload_n 3, 1) := by decide +kernel
theorem dX7_add_6 : decode cX7_add 6 = .ok (.if_icmp .ge 40, 3) := by decide +kernel
theorem dX7_add_9 : decode cX7_add 9 = .ok (.aload_n 0, 1) := by decide +kernel
theorem dX7_add_10 : decode cX7_add 10 = .ok (.getfield 11, 3) := by decide +kernel
theorem dX7_add_13 : decode cX7_add 13 = .ok (.aload_n 0, 1) := by decide +kernel
theorem dX7_add_14 : decode cX7_add 14 = .ok (.getfield 22, 3) := by decide +kernel
theorem dX7_add_17 : decode cX7_add 17 = .ok (.lload_n 1, 1) := by decide +kernel
theorem dX7_add_18 : decode cX7_add 18 = .ok (.bipush 8, 2) := by decide +kernel
theorem dX7_add_20 : decode cX7_add 20 = .ok (.iload 4, 2) := by decide +kernel
theorem dX7_add_22 : decode cX7_add 22 = .ok (.imul, 1) := by decide +kernel
theorem dX7_add_23 : decode cX7_add 23 = .ok (.lushr, 1) := by decide +kernel
theorem dX7_add_24 : decode cX7_add 24 = .ok (.l2i, 1) := by decide +kernel
theorem dX7_add_25 : decode cX7_add 25 = .ok (.sipush 255, 3) := by decide +kernel
theorem dX7_add_28 : decode cX7_add 28 = .ok (.iand, 1) := by decide +kernel
theorem dX7_add_29 : decode cX7_add 29 = .ok (.iastore, 1) := by decide +kernel
theorem dX7_add_30 : decode cX7_add 30 = .ok (.aload_n 0, 1) := by decide +kernel
theorem dX7_add_31 : decode cX7_add 31 = .ok (.dup, 1) := by decide +kernel
theorem dX7_add_32 : decode cX7_add 32 = .ok (.getfield 22, 3) := by decide +kernel
theorem dX7_add_35 : decode cX7_add 35 = .ok (.iconst 1, 1) := by decide +kernel
theorem dX7_add_36 : decode cX7_add 36 = .ok (.iadd, 1) := by decide +kernel
theorem dX7_add_37 : decode cX7_add 37 = .ok (.putfield 22, 3) := by decide +kernel
theorem dX7_add_40 : decode cX7_add 40 = .ok (.iinc 4 1, 3) := by decide +kernel
theorem dX7_add_43 : decode cX7_add 43 = .ok (.goto (-40), 3) := by decide +kernel
theorem dX7_add_46 : decode cX7_add 46 = .ok (.aload_n 0, 1) := by decide +kernel
theorem dX7_add_47 : decode cX7_add 47 = .ok (.getfield 22, 3) := by decide +kernel
theorem dX7_add_50 : decode cX7_add 50 = .ok (.ireturn, 1) := by decide +kernel
theorem dX7_tell_0 : decode cX7_tell 0 = .ok (.aload_n 0, 1) := by decide +kernel
theorem dX7_tell_1 : decode cX7_tell 1 = .ok (.getfield 18, 3) := by decide +kernel
theorem dX7_tell_4 : decode cX7_tell 4 = .ok (.aload_n 1, 1) := by decide +kernel
theorem dX7_tell_5 : decode cX7_tell 5 = .ok (.getfield 32, 3) := by decide +kernel
theorem dX7_tell_8 : decode cX7_tell 8 = .ok (.invokevirtual 35, 3) := by decide +kernel
theorem dX7_tell_11 : decode cX7_tell 11 = .ok (.aload_n 0, 1) := by decide +kernel
theorem dX7_tell_12 : decode cX7_tell 12 = .ok (.iconst 0, 1) := by decide +kernel
theorem dX7_tell_13 : decode cX7_tell 13 = .ok (.putfield 26, 3) := by decide +kernel
theorem dX7_tell_16 : decode cX7_tell 16 = .ok (.aload_n 0, 1) := by decide +kernel
theorem dX7_tell_17 : decode cX7_tell 17 = .ok (.iconst (-1), 1) := by decide +kernel
theorem dX7_tell_18 : decode cX7_tell 18 = .ok (.putfield 29, 3) := by decide +kernel
theorem dX7_tell_21 : decode cX7_tell 21 = .ok (.aload_n 0, 1) := by decide +kernel
theorem dX7_tell_22 : decode cX7_tell 22 = .ok (.invokevirtual 39, 3) := by decide +kernel
theorem dX7_tell_25 : decode cX7_tell 25 = .ok (.iconst 0, 1) := by decide +kernel
theorem dX7_tell_26 : decode cX7_tell 26 = .ok (.istore_n 2, 1) := by decide +kernel
theorem dX7_tell_27 : decode cX7_tell 27 = .ok (.iload_n 2, 1) := by decide +kernel
theorem dX7_tell_28 : decode cX7_tell 28 = .ok (.sipush 200, 3) := by decide +kernel
theorem dX7_tell_31 : decode cX7_tell 31 = .ok (.if_icmp .ge 35, 3) := by decide +kernel
theorem dX7_tell_34 : decode cX7_tell 34 = .ok (.aload_n 0, 1) := by decide +kernel
theorem dX7_tell_35 : decode cX7_tell 35 = .ok (.getfield 29, 3) := by decide +kernel
theorem dX7_tell_38 : decode cX7_tell 38 = .ok (.ifCond .ge 28, 3) := by decide +kernel
theorem dX7_tell_41 : decode cX7_tell 41 = .ok (.aload_n 0, 1) := by decide +kernel
theorem dX7_tell_42 : decode cX7_tell 42 = .ok (.getfield 26, 3) := by decide +kernel
theorem dX7_tell_45 : decode cX7_tell 45 = .ok (.aload_n 0, 1) := by decide +kernel
theorem dX7_tell_46 : decode cX7_tell 46 = .ok (.getfield 22, 3) := by decide +kernel
theorem dX7_tell_49 : decode cX7_tell 49 = .ok (.if_icmp .ge 17, 3) := by decide +kernel
theorem dX7_tell_52 : decode cX7_tell 52 = .ok (.aload_n 0, 1) := by decide +kernel
theorem dX7_tell_53 : decode cX7_tell 53 = .ok (.invokevirtual 42, 3) := by decide +kernel
theorem dX7_tell_56 : decode cX7_tell 56 = .ok (.aload_n 0, 1) := by decide +kernel
theorem dX7_tell_57 : decode cX7_tell 57 = .ok (.invokevirtual 39, 3) := by decide +kernel
theorem dX7_tell_60 : decode cX7_tell 60 = .ok (.iinc 2 1, 3) := by decide +kernel
theorem dX7_tell_63 : decode cX7_tell 63 = .ok (.goto (-36), 3) := by decide +kernel
theorem dX7_tell_66 : decode cX7_tell 66 = .ok (.aload_n 0, 1) := by decide +kernel
theorem dX7_tell_67 : decode cX7_tell 67 = .ok (.getfield 29, 3) := by decide +kernel
theorem dX7_tell_70 : decode cX7_tell 70 = .ok (.ifCond .ge 11, 3) := by decide +kernel
theorem dX7_tell_73 : decode cX7_tell 73 = .ok (.aload_n 1, 1) := by decide +kernel
theorem dX7_tell_74 : decode cX7_tell 74 = .ok (.aload_n 0, 1) := by decide +kernel
theorem dX7_tell_75 : decode cX7_tell 75 = .ok (.getfield 18, 3) := by decide +kernel
theorem dX7_tell_78 : decode cX7_tell 78 = .ok (.invokevirtual 45, 3) := by decide +kernel
theorem dX7_tell_81 : decode cX7_tell 81 = .ok (.aload_n 0, 1) := by decide +kernel
theorem dX7_tell_82 : decode cX7_tell 82 = .ok (.iconst 0, 1) := by decide +kernel
theorem dX7_tell_83 : decode cX7_tell 83 = .ok (.putfield 22, 3) := by decide +kernel
theorem dX7_tell_86 : decode cX7_tell 86 = .ok (.aload_n 0, 1) := by decide +kernel
theorem dX7_tell_87 : decode cX7_tell 87 = .ok (.getfield 29, 3) := by decide +kernel
theorem dX7_tell_90 : decode cX7_tell 90 = .ok (.ireturn, 1) := by decide +kernel
theorem dX7_readStatement_0 : decode cX7_readStatement 0 = .ok (.aload_n 0, 1) := by decide +kernel
theorem dX7_readStatement_1 : decode cX7_readStatement 1 = .ok (.invokevirtual 49, 3) := by decide +kernel
theorem dX7_readStatement_4 : decode cX7_readStatement 4 = .ok (.istore_n 1, 1) := by decide +kernel
theorem dX7_readStatement_5 : decode cX7_readStatement 5 = .ok (.iconst 0, 1) := by decide +kernel
theorem dX7_readStatement_6 : decode cX7_readStatement 6 = .ok (.istore_n 2, 1) := by decide +kernel
theorem dX7_readStatement_7 : decode cX7_readStatement 7 = .ok (.iload_n 2, 1) := by decide +kernel
theorem dX7_readStatement_8 : decode cX7_readStatement 8 = .ok (.bipush 12, 2) := by decide +kernel
theorem dX7_readStatement_10 : decode cX7_readStatement 10 = .ok (.if_icmp .ge 21, 3) := by decide +kernel
theorem dX7_readStatement_13 : decode cX7_readStatement 13 = .ok (.aload_n 0, 1) := by decide +kernel
theorem dX7_readStatement_14 : decode cX7_readStatement 14 = .ok (.iload_n 2, 1) := by decide +kernel
theorem dX7_readStatement_15 : decode cX7_readStatement 15 = .ok (.invokestatic 53, 3) := by decide +kernel
theorem dX7_readStatement_18 : decode cX7_readStatement 18 = .ok (.iload_n 1, 1) := by decide +kernel
theorem dX7_readStatement_19 : decode cX7_readStatement 19 = .ok (.invokevirtual 57, 3) := by decide +kernel
theorem dX7_readStatement_22 : decode cX7_readStatement 22 = .ok (.ifCond .ne 9, 3) := by decide +kernel
theorem dX7_readStatement_25 : decode cX7_readStatement 25 = .ok (.iinc 2 1, 3) := by decide +kernel
theorem dX7_readStatement_28 : decode cX7_readStatement 28 = .ok (.goto (-21), 3) := by decide +kernel
theorem dX7_readStatement_31 : decode cX7_readStatement 31 = .ok (.iload_n 2, 1) := by decide +kernel
theorem dX7_readStatement_32 : decode cX7_readStatement 32 = .ok (.bipush 12, 2) := by decide +kernel
theorem dX7_readStatement_34 : decode cX7_readStatement 34 = .ok (.if_icmp .ge 19, 3) := by decide +kernel
theorem dX7_readStatement_37 : decode cX7_readStatement 37 = .ok (.iload_n 2, 1) := by decide +kernel
theorem dX7_readStatement_38 : decode cX7_readStatement 38 = .ok (.ifCond .ne 24, 3) := by decide +kernel
theorem dX7_readStatement_41 : decode cX7_readStatement 41 = .ok (.aload_n 0, 1) := by decide +kernel
theorem dX7_readStatement_42 : decode cX7_readStatement 42 = .ok (.getfield 18, 3) := by decide +kernel
theorem dX7_readStatement_45 : decode cX7_readStatement 45 = .ok (.getfield 61, 3) := by decide +kernel
theorem dX7_readStatement_48 : decode cX7_readStatement 48 = .ok (.bipush 8, 2) := by decide +kernel
theorem dX7_readStatement_50 : decode cX7_readStatement 50 = .ok (.if_icmp .lt 12, 3) := by decide +kernel
theorem dX7_readStatement_53 : decode cX7_readStatement 53 = .ok (.aload_n 0, 1) := by decide +kernel
theorem dX7_readStatement_54 : decode cX7_readStatement 54 = .ok (.aload_n 0, 1) := by decide +kernel
theorem dX7_readStatement_55 : decode cX7_readStatement 55 = .ok (.getfield 26, 3) := by decide +kernel
theorem dX7_readStatement_58 : decode cX7_readStatement 58 = .ok (.invokevirtual 64, 3) := by decide +kernel
theorem dX7_readStatement_61 : decode cX7_readStatement 61 = .ok (.return_, 1) := by decide +kernel
theorem dX7_readStatement_62 : decode cX7_readStatement 62 = .ok (.aload_n 0, 1) := by decide +kernel
theorem dX7_readStatement_63 : decode cX7_readStatement 63 = .ok (.iload_n 1, 1) := by decide +kernel
theorem dX7_readStatement_64 : decode cX7_readStatement 64 = .ok (.putfield 26, 3) := by decide +kernel
theorem dX7_readStatement_67 : decode cX7_readStatement 67 = .ok (.iload_n 2, 1) := by decide +kernel
theorem dX7_readStatement_68 : decode cX7_readStatement 68 = .ok (.tableswitch 64 0 3 #[32, 43, 50, 57], 32) := by decide +kernel
theorem dX7_readStatement_100 : decode cX7_readStatement 100 = .ok (.aload_n 0, 1) := by decide +kernel
theorem dX7_readStatement_101 : decode cX7_readStatement 101 = .ok (.getfield 18, 3) := by decide +kernel
theorem dX7_readStatement_104 : decode cX7_readStatement 104 = .ok (.invokevirtual 68, 3) := by decide +kernel
theorem dX7_readStatement_107 : decode cX7_readStatement 107 = .ok (.pop, 1) := by decide +kernel
theorem dX7_readStatement_108 : decode cX7_readStatement 108 = .ok (.goto 31, 3) := by decide +kernel
theorem dX7_readStatement_111 : decode cX7_readStatement 111 = .ok (.aload_n 0, 1) := by decide +kernel
theorem dX7_readStatement_112 : decode cX7_readStatement 112 = .ok (.invokevirtual 71, 3) := by decide +kernel
theorem dX7_readStatement_115 : decode cX7_readStatement 115 = .ok (.goto 24, 3) := by decide +kernel
theorem dX7_readStatement_118 : decode cX7_readStatement 118 = .ok (.aload_n 0, 1) := by decide +kernel
theorem dX7_readStatement_119 : decode cX7_readStatement 119 = .ok (.invokevirtual 74, 3) := by decide +kernel
theorem dX7_readStatement_122 : decode cX7_readStatement 122 = .ok (.goto 17, 3) := by decide +kernel
theorem dX7_readStatement_125 : decode cX7_readStatement 125 = .ok (.aload_n 0, 1) := by decide +kernel
theorem dX7_readStatement_126 : decode cX7_readStatement 126 = .ok (.invokevirtual 77, 3) := by decide +kernel
theorem dX7_readStatement_129 : decode cX7_readStatement 129 = .ok (.goto 10, 3) := by decide +kernel
theorem dX7_readStatement_132 : decode cX7_readStatement 132 = .ok (.aload_n 0, 1) := by decide +kernel
theorem dX7_readStatement_133 : decode cX7_readStatement 133 = .ok (.iload_n 2, 1) := by decide +kernel
theorem dX7_readStatement_134 : decode cX7_readStatement 134 = .ok (.iconst 4, 1) := by decide +kernel
theorem dX7_readStatement_135 : decode cX7_readStatement 135 = .ok (.isub, 1) := by decide +kernel
theorem dX7_readStatement_136 : decode cX7_readStatement 136 = .ok (.invokevirtual 80, 3) := by decide +kernel
theorem dX7_readStatement_139 : decode cX7_readStatement 139 = .ok (.aload_n 0, 1) := by decide +kernel
theorem dX7_readStatement_140 : decode cX7_readStatement 140 = .ok (.invokevirtual 83, 3) := by decide +kernel
theorem dX7_readStatement_143 : decode cX7_readStatement 143 = .ok (.return_, 1) := by decide +kernel
theorem dX7_nameOf_0 : decode cX7_nameOf 0 = .ok (.iload_n 0, 1) := by decide +kernel
theorem dX7_nameOf_1 : decode cX7_nameOf 1 = .ok (.tableswitch 92 0 10 #[59, 62, 65, 68, 71, 74, 77, 80, 83, 86, 89], 59) := by decide +kernel
theorem dX7_nameOf_60 : decode cX7_nameOf 60 = .ok (.ldc 86, 2) := by decide +kernel
theorem dX7_nameOf_62 : decode cX7_nameOf 62 = .ok (.areturn, 1) := by decide +kernel
theorem dX7_nameOf_63 : decode cX7_nameOf 63 = .ok (.ldc 88, 2) := by decide +kernel
theorem dX7_nameOf_65 : decode cX7_nameOf 65 = .ok (.areturn, 1) := by decide +kernel
theorem dX7_nameOf_66 : decode cX7_nameOf 66 = .ok (.ldc 90, 2) := by decide +kernel
theorem dX7_nameOf_68 : decode cX7_nameOf 68 = .ok (.areturn, 1) := by decide +kernel
theorem dX7_nameOf_69 : decode cX7_nameOf 69 = .ok (.ldc 92, 2) := by decide +kernel
theorem dX7_nameOf_71 : decode cX7_nameOf 71 = .ok (.areturn, 1) := by decide +kernel
theorem dX7_nameOf_72 : decode cX7_nameOf 72 = .ok (.ldc 94, 2) := by decide +kernel
theorem dX7_nameOf_74 : decode cX7_nameOf 74 = .ok (.areturn, 1) := by decide +kernel
theorem dX7_nameOf_75 : decode cX7_nameOf 75 = .ok (.ldc 96, 2) := by decide +kernel
theorem dX7_nameOf_77 : decode cX7_nameOf 77 = .ok (.areturn, 1) := by decide +kernel
theorem dX7_nameOf_78 : decode cX7_nameOf 78 = .ok (.ldc 98, 2) := by decide +kernel
theorem dX7_nameOf_80 : decode cX7_nameOf 80 = .ok (.areturn, 1) := by decide +kernel
theorem dX7_nameOf_81 : decode cX7_nameOf 81 = .ok (.ldc 100, 2) := by decide +kernel
theorem dX7_nameOf_83 : decode cX7_nameOf 83 = .ok (.areturn, 1) := by decide +kernel
theorem dX7_nameOf_84 : decode cX7_nameOf 84 = .ok (.ldc 102, 2) := by decide +kernel
theorem dX7_nameOf_86 : decode cX7_nameOf 86 = .ok (.areturn, 1) := by decide +kernel
theorem dX7_nameOf_87 : decode cX7_nameOf 87 = .ok (.ldc 104, 2) := by decide +kernel
theorem dX7_nameOf_89 : decode cX7_nameOf 89 = .ok (.areturn, 1) := by decide +kernel
theorem dX7_nameOf_90 : decode cX7_nameOf 90 = .ok (.ldc 106, 2) := by decide +kernel
theorem dX7_nameOf_92 : decode cX7_nameOf 92 = .ok (.areturn, 1) := by decide +kernel
theorem dX7_nameOf_93 : decode cX7_nameOf 93 = .ok (.ldc 108, 2) := by decide +kernel
theorem dX7_nameOf_95 : decode cX7_nameOf 95 = .ok (.areturn, 1) := by decide +kernel
theorem dX7_readKin_0 : decode cX7_readKin 0 = .ok (.aload_n 0, 1) := by decide +kernel
theorem dX7_readKin_1 : decode cX7_readKin 1 = .ok (.aload_n 0, 1) := by decide +kernel
theorem dX7_readKin_2 : decode cX7_readKin 2 = .ok (.getfield 18, 3) := by decide +kernel
theorem dX7_readKin_5 : decode cX7_readKin 5 = .ok (.getfield 61, 3) := by decide +kernel
theorem dX7_readKin_8 : decode cX7_readKin 8 = .ok (.iconst 1, 1) := by decide +kernel
theorem dX7_readKin_9 : decode cX7_readKin 9 = .ok (.isub, 1) := by decide +kernel
theorem dX7_readKin_10 : decode cX7_readKin 10 = .ok (.iconst (-1), 1) := by decide +kernel
theorem dX7_readKin_11 : decode cX7_readKin 11 = .ok (.invokevirtual 110, 3) := by decide +kernel
theorem dX7_readKin_14 : decode cX7_readKin 14 = .ok (.istore_n 1, 1) := by decide +kernel
theorem dX7_readKin_15 : decode cX7_readKin 15 = .ok (.aload_n 0, 1) := by decide +kernel
theorem dX7_readKin_16 : decode cX7_readKin 16 = .ok (.aload_n 0, 1) := by decide +kernel
theorem dX7_readKin_17 : decode cX7_readKin 17 = .ok (.getfield 18, 3) := by decide +kernel
theorem dX7_readKin_20 : decode cX7_readKin 20 = .ok (.getfield 61, 3) := by decide +kernel
theorem dX7_readKin_23 : decode cX7_readKin 23 = .ok (.iconst 1, 1) := by decide +kernel
theorem dX7_readKin_24 : decode cX7_readKin 24 = .ok (.isub, 1) := by decide +kernel
theorem dX7_readKin_25 : decode cX7_readKin 25 = .ok (.iload_n 1, 1) := by decide +kernel
theorem dX7_readKin_26 : decode cX7_readKin 26 = .ok (.invokevirtual 110, 3) := by decide +kernel
theorem dX7_readKin_29 : decode cX7_readKin 29 = .ok (.istore_n 2, 1) := by decide +kernel
theorem dX7_readKin_30 : decode cX7_readKin 30 = .ok (.aload_n 0, 1) := by decide +kernel
theorem dX7_readKin_31 : decode cX7_readKin 31 = .ok (.getfield 29, 3) := by decide +kernel
theorem dX7_readKin_34 : decode cX7_readKin 34 = .ok (.ifCond .ge 14, 3) := by decide +kernel
theorem dX7_readKin_37 : decode cX7_readKin 37 = .ok (.aload_n 0, 1) := by decide +kernel
theorem dX7_readKin_38 : decode cX7_readKin 38 = .ok (.getfield 18, 3) := by decide +kernel
theorem dX7_readKin_41 : decode cX7_readKin 41 = .ok (.iload_n 1, 1) := by decide +kernel
theorem dX7_readKin_42 : decode cX7_readKin 42 = .ok (.iload_n 2, 1) := by decide +kernel
theorem dX7_readKin_43 : decode cX7_readKin 43 = .ok (.iconst 1, 1) := by decide +kernel
theorem dX7_readKin_44 : decode cX7_readKin 44 = .ok (.invokevirtual 114, 3) := by decide +kernel
theorem dX7_readKin_47 : decode cX7_readKin 47 = .ok (.pop, 1) := by decide +kernel
theorem dX7_readKin_48 : decode cX7_readKin 48 = .ok (.return_, 1) := by decide +kernel
theorem dX7_readTrust_0 : decode cX7_readTrust 0 = .ok (.aload_n 0, 1) := by decide +kernel
theorem dX7_readTrust_1 : decode cX7_readTrust 1 = .ok (.aload_n 0, 1) := by decide +kernel
theorem dX7_readTrust_2 : decode cX7_readTrust 2 = .ok (.getfield 18, 3) := by decide +kernel
theorem dX7_readTrust_5 : decode cX7_readTrust 5 = .ok (.getfield 61, 3) := by decide +kernel
theorem dX7_readTrust_8 : decode cX7_readTrust 8 = .ok (.iconst 1, 1) := by decide +kernel
theorem dX7_readTrust_9 : decode cX7_readTrust 9 = .ok (.isub, 1) := by decide +kernel
theorem dX7_readTrust_10 : decode cX7_readTrust 10 = .ok (.iconst (-1), 1) := by decide +kernel
theorem dX7_readTrust_11 : decode cX7_readTrust 11 = .ok (.invokevirtual 110, 3) := by decide +kernel
theorem dX7_readTrust_14 : decode cX7_readTrust 14 = .ok (.istore_n 1, 1) := by decide +kernel
theorem dX7_readTrust_15 : decode cX7_readTrust 15 = .ok (.aload_n 0, 1) := by decide +kernel
theorem dX7_readTrust_16 : decode cX7_readTrust 16 = .ok (.aload_n 0, 1) := by decide +kernel
theorem dX7_readTrust_17 : decode cX7_readTrust 17 = .ok (.getfield 18, 3) := by decide +kernel
theorem dX7_readTrust_20 : decode cX7_readTrust 20 = .ok (.getfield 61, 3) := by decide +kernel
theorem dX7_readTrust_23 : decode cX7_readTrust 23 = .ok (.iconst 1, 1) := by decide +kernel
theorem dX7_readTrust_24 : decode cX7_readTrust 24 = .ok (.isub, 1) := by decide +kernel
theorem dX7_readTrust_25 : decode cX7_readTrust 25 = .ok (.iload_n 1, 1) := by decide +kernel
theorem dX7_readTrust_26 : decode cX7_readTrust 26 = .ok (.invokevirtual 110, 3) := by decide +kernel
theorem dX7_readTrust_29 : decode cX7_readTrust 29 = .ok (.istore_n 2, 1) := by decide +kernel
theorem dX7_readTrust_30 : decode cX7_readTrust 30 = .ok (.aload_n 0, 1) := by decide +kernel
theorem dX7_readTrust_31 : decode cX7_readTrust 31 = .ok (.bipush 9, 2) := by decide +kernel
theorem dX7_readTrust_33 : decode cX7_readTrust 33 = .ok (.iconst (-1), 1) := by decide +kernel
theorem dX7_readTrust_34 : decode cX7_readTrust 34 = .ok (.invokevirtual 110, 3) := by decide +kernel
theorem dX7_readTrust_37 : decode cX7_readTrust 37 = .ok (.istore_n 3, 1) := by decide +kernel
theorem dX7_readTrust_38 : decode cX7_readTrust 38 = .ok (.aload_n 0, 1) := by decide +kernel
theorem dX7_readTrust_39 : decode cX7_readTrust 39 = .ok (.getfield 29, 3) := by decide +kernel
theorem dX7_readTrust_42 : decode cX7_readTrust 42 = .ok (.ifCond .ge 17, 3) := by decide +kernel
theorem dX7_readTrust_45 : decode cX7_readTrust 45 = .ok (.aload_n 0, 1) := by decide +kernel
theorem dX7_readTrust_46 : decode cX7_readTrust 46 = .ok (.getfield 18, 3) := by decide +kernel
theorem dX7_readTrust_49 : decode cX7_readTrust 49 = .ok (.getfield 118, 3) := by decide +kernel
theorem dX7_readTrust_52 : decode cX7_readTrust 52 = .ok (.iload_n 1, 1) := by decide +kernel
theorem dX7_readTrust_53 : decode cX7_readTrust 53 = .ok (.iload_n 2, 1) := by decide +kernel
theorem dX7_readTrust_54 : decode cX7_readTrust 54 = .ok (.invokestatic 121, 3) := by decide +kernel
theorem dX7_readTrust_57 : decode cX7_readTrust 57 = .ok (.iload_n 3, 1) := by decide +kernel
theorem dX7_readTrust_58 : decode cX7_readTrust 58 = .ok (.iastore, 1) := by decide +kernel
theorem dX7_readTrust_59 : decode cX7_readTrust 59 = .ok (.return_, 1) := by decide +kernel
theorem dX7_readAway_0 : decode cX7_readAway 0 = .ok (.aload_n 0, 1) := by decide +kernel
theorem dX7_readAway_1 : decode cX7_readAway 1 = .ok (.aload_n 0, 1) := by decide +kernel
theorem dX7_readAway_2 : decode cX7_readAway 2 = .ok (.getfield 18, 3) := by decide +kernel
theorem dX7_readAway_5 : decode cX7_readAway 5 = .ok (.getfield 61, 3) := by decide +kernel
theorem dX7_readAway_8 : decode cX7_readAway 8 = .ok (.iconst 1, 1) := by decide +kernel
theorem dX7_readAway_9 : decode cX7_readAway 9 = .ok (.isub, 1) := by decide +kernel
theorem dX7_readAway_10 : decode cX7_readAway 10 = .ok (.iconst (-1), 1) := by decide +kernel
theorem dX7_readAway_11 : decode cX7_readAway 11 = .ok (.invokevirtual 110, 3) := by decide +kernel
theorem dX7_readAway_14 : decode cX7_readAway 14 = .ok (.istore_n 1, 1) := by decide +kernel
theorem dX7_readAway_15 : decode cX7_readAway 15 = .ok (.aload_n 0, 1) := by decide +kernel
theorem dX7_readAway_16 : decode cX7_readAway 16 = .ok (.ldc 124, 2) := by decide +kernel
theorem dX7_readAway_18 : decode cX7_readAway 18 = .ok (.invokevirtual 126, 3) := by decide +kernel
theorem dX7_readAway_21 : decode cX7_readAway 21 = .ok (.iconst 1, 1) := by decide +kernel
theorem dX7_readAway_22 : decode cX7_readAway 22 = .ok (.istore_n 2, 1) := by decide +kernel
theorem dX7_readAway_23 : decode cX7_readAway 23 = .ok (.iconst 0, 1) := by decide +kernel
theorem dX7_readAway_24 : decode cX7_readAway 24 = .ok (.istore_n 3, 1) := by decide +kernel
theorem dX7_readAway_25 : decode cX7_readAway 25 = .ok (.iload_n 3, 1) := by decide +kernel
theorem dX7_readAway_26 : decode cX7_readAway 26 = .ok (.sipush 200, 3) := by decide +kernel
theorem dX7_readAway_29 : decode cX7_readAway 29 = .ok (.if_icmp .ge 81, 3) := by decide +kernel
theorem dX7_readAway_32 : decode cX7_readAway 32 = .ok (.iload_n 2, 1) := by decide +kernel
theorem dX7_readAway_33 : decode cX7_readAway 33 = .ok (.ifCond .eq 77, 3) := by decide +kernel
theorem dX7_readAway_36 : decode cX7_readAway 36 = .ok (.aload_n 0, 1) := by decide +kernel
theorem dX7_readAway_37 : decode cX7_readAway 37 = .ok (.bipush 9, 2) := by decide +kernel
theorem dX7_readAway_39 : decode cX7_readAway 39 = .ok (.iconst (-1), 1) := by decide +kernel
theorem dX7_readAway_40 : decode cX7_readAway 40 = .ok (.invokevirtual 110, 3) := by decide +kernel
theorem dX7_readAway_43 : decode cX7_readAway 43 = .ok (.istore 4, 2) := by decide +kernel
theorem dX7_readAway_45 : decode cX7_readAway 45 = .ok (.aload_n 0, 1) := by decide +kernel
theorem dX7_readAway_46 : decode cX7_readAway 46 = .ok (.getfield 29, 3) := by decide +kernel
theorem dX7_readAway_49 : decode cX7_readAway 49 = .ok (.ifCond .ge 15, 3) := by decide +kernel
theorem dX7_readAway_52 : decode cX7_readAway 52 = .ok (.aload_n 0, 1) := by decide +kernel
theorem dX7_readAway_53 : decode cX7_readAway 53 = .ok (.getfield 18, 3) := by decide +kernel
theorem dX7_readAway_56 : decode cX7_readAway 56 = .ok (.iload_n 1, 1) := by decide +kernel
theorem dX7_readAway_57 : decode cX7_readAway 57 = .ok (.iload 4, 2) := by decide +kernel
theorem dX7_readAway_59 : decode cX7_readAway 59 = .ok (.iconst 1, 1) := by decide +kernel
theorem dX7_readAway_60 : decode cX7_readAway 60 = .ok (.invokevirtual 130, 3) := by decide +kernel
theorem dX7_readAway_63 : decode cX7_readAway 63 = .ok (.pop, 1) := by decide +kernel
theorem dX7_readAway_64 : decode cX7_readAway 64 = .ok (.aload_n 0, 1) := by decide +kernel
theorem dX7_readAway_65 : decode cX7_readAway 65 = .ok (.invokevirtual 39, 3) := by decide +kernel
theorem dX7_readAway_68 : decode cX7_readAway 68 = .ok (.aload_n 0, 1) := by decide +kernel
theorem dX7_readAway_69 : decode cX7_readAway 69 = .ok (.getfield 29, 3) := by decide +kernel
theorem dX7_readAway_72 : decode cX7_readAway 72 = .ok (.ifCond .ge 20, 3) := by decide +kernel
theorem dX7_readAway_75 : decode cX7_readAway 75 = .ok (.aload_n 0, 1) := by decide +kernel
theorem dX7_readAway_76 : decode cX7_readAway 76 = .ok (.ldc 133, 2) := by decide +kernel
theorem dX7_readAway_78 : decode cX7_readAway 78 = .ok (.aload_n 0, 1) := by decide +kernel
theorem dX7_readAway_79 : decode cX7_readAway 79 = .ok (.invokevirtual 49, 3) := by decide +kernel
theorem dX7_readAway_82 : decode cX7_readAway 82 = .ok (.invokevirtual 57, 3) := by decide +kernel
theorem dX7_readAway_85 : decode cX7_readAway 85 = .ok (.ifCond .eq 7, 3) := by decide +kernel
theorem dX7_readAway_88 : decode cX7_readAway 88 = .ok (.iconst 1, 1) := by decide +kernel
theorem dX7_readAway_89 : decode cX7_readAway 89 = .ok (.goto 4, 3) := by decide +kernel
theorem dX7_readAway_92 : decode cX7_readAway 92 = .ok (.iconst 0, 1) := by decide +kernel
theorem dX7_readAway_93 : decode cX7_readAway 93 = .ok (.istore_n 2, 1) := by decide +kernel
theorem dX7_readAway_94 : decode cX7_readAway 94 = .ok (.iload_n 2, 1) := by decide +kernel
theorem dX7_readAway_95 : decode cX7_readAway 95 = .ok (.ifCond .eq 9, 3) := by decide +kernel
theorem dX7_readAway_98 : decode cX7_readAway 98 = .ok (.aload_n 0, 1) := by decide +kernel
theorem dX7_readAway_99 : decode cX7_readAway 99 = .ok (.ldc 133, 2) := by decide +kernel
theorem dX7_readAway_101 : decode cX7_readAway 101 = .ok (.invokevirtual 126, 3) := by decide +kernel
theorem dX7_readAway_104 : decode cX7_readAway 104 = .ok (.iinc 3 1, 3) := by decide +kernel
theorem dX7_readAway_107 : decode cX7_readAway 107 = .ok (.goto (-82), 3) := by decide +kernel
theorem dX7_readAway_110 : decode cX7_readAway 110 = .ok (.return_, 1) := by decide +kernel
theorem dX7_readLaw_0 : decode cX7_readLaw 0 = .ok (.aload_n 0, 1) := by decide +kernel
theorem dX7_readLaw_1 : decode cX7_readLaw 1 = .ok (.getstatic 135, 3) := by decide +kernel
theorem dX7_readLaw_4 : decode cX7_readLaw 4 = .ok (.iload_n 1, 1) := by decide +kernel
theorem dX7_readLaw_5 : decode cX7_readLaw 5 = .ok (.iaload, 1) := by decide +kernel
theorem dX7_readLaw_6 : decode cX7_readLaw 6 = .ok (.iconst (-1), 1) := by decide +kernel
theorem dX7_readLaw_7 : decode cX7_readLaw 7 = .ok (.invokevirtual 110, 3) := by decide +kernel
theorem dX7_readLaw_10 : decode cX7_readLaw 10 = .ok (.istore_n 2, 1) := by decide +kernel
theorem dX7_readLaw_11 : decode cX7_readLaw 11 = .ok (.aload_n 0, 1) := by decide +kernel
theorem dX7_readLaw_12 : decode cX7_readLaw 12 = .ok (.getfield 29, 3) := by decide +kernel
theorem dX7_readLaw_15 : decode cX7_readLaw 15 = .ok (.ifCond .ge 13, 3) := by decide +kernel
theorem dX7_readLaw_18 : decode cX7_readLaw 18 = .ok (.aload_n 0, 1) := by decide +kernel
theorem dX7_readLaw_19 : decode cX7_readLaw 19 = .ok (.getfield 18, 3) := by decide +kernel
theorem dX7_readLaw_22 : decode cX7_readLaw 22 = .ok (.getfield 32, 3) := by decide +kernel
theorem dX7_readLaw_25 : decode cX7_readLaw 25 = .ok (.iload_n 1, 1) := by decide +kernel
theorem dX7_readLaw_26 : decode cX7_readLaw 26 = .ok (.iload_n 2, 1) := by decide +kernel
theorem dX7_readLaw_27 : decode cX7_readLaw 27 = .ok (.iastore, 1) := by decide +kernel
theorem dX7_readLaw_28 : decode cX7_readLaw 28 = .ok (.return_, 1) := by decide +kernel
theorem dX7_readEnd_0 : decode cX7_readEnd 0 = .ok (.aload_n 0, 1) := by decide +kernel
theorem dX7_readEnd_1 : decode cX7_readEnd 1 = .ok (.invokevirtual 39, 3) := by decide +kernel
theorem dX7_readEnd_4 : decode cX7_readEnd 4 = .ok (.aload_n 0, 1) := by decide +kernel
theorem dX7_readEnd_5 : decode cX7_readEnd 5 = .ok (.getfield 26, 3) := by decide +kernel
theorem dX7_readEnd_8 : decode cX7_readEnd 8 = .ok (.aload_n 0, 1) := by decide +kernel
theorem dX7_readEnd_9 : decode cX7_readEnd 9 = .ok (.getfield 22, 3) := by decide +kernel
theorem dX7_readEnd_12 : decode cX7_readEnd 12 = .ok (.if_icmp .ge 17, 3) := by decide +kernel
theorem dX7_readEnd_15 : decode cX7_readEnd 15 = .ok (.aload_n 0, 1) := by decide +kernel
theorem dX7_readEnd_16 : decode cX7_readEnd 16 = .ok (.getfield 11, 3) := by decide +kernel
theorem dX7_readEnd_19 : decode cX7_readEnd 19 = .ok (.aload_n 0, 1) := by decide +kernel
theorem dX7_readEnd_20 : decode cX7_readEnd 20 = .ok (.getfield 26, 3) := by decide +kernel
theorem dX7_readEnd_23 : decode cX7_readEnd 23 = .ok (.iaload, 1) := by decide +kernel
theorem dX7_readEnd_24 : decode cX7_readEnd 24 = .ok (.bipush 59, 2) := by decide +kernel
theorem dX7_readEnd_26 : decode cX7_readEnd 26 = .ok (.if_icmp .eq 11, 3) := by decide +kernel
theorem dX7_readEnd_29 : decode cX7_readEnd 29 = .ok (.aload_n 0, 1) := by decide +kernel
theorem dX7_readEnd_30 : decode cX7_readEnd 30 = .ok (.aload_n 0, 1) := by decide +kernel
theorem dX7_readEnd_31 : decode cX7_readEnd 31 = .ok (.getfield 26, 3) := by decide +kernel
theorem dX7_readEnd_34 : decode cX7_readEnd 34 = .ok (.invokevirtual 64, 3) := by decide +kernel
theorem dX7_readEnd_37 : decode cX7_readEnd 37 = .ok (.aload_n 0, 1) := by decide +kernel
theorem dX7_readEnd_38 : decode cX7_readEnd 38 = .ok (.dup, 1) := by decide +kernel
theorem dX7_readEnd_39 : decode cX7_readEnd 39 = .ok (.getfield 26, 3) := by decide +kernel
theorem dX7_readEnd_42 : decode cX7_readEnd 42 = .ok (.iconst 1, 1) := by decide +kernel
theorem dX7_readEnd_43 : decode cX7_readEnd 43 = .ok (.iadd, 1) := by decide +kernel
theorem dX7_readEnd_44 : decode cX7_readEnd 44 = .ok (.putfield 26, 3) := by decide +kernel
theorem dX7_readEnd_47 : decode cX7_readEnd 47 = .ok (.return_, 1) := by decide +kernel
theorem dX7_readWord_0 : decode cX7_readWord 0 = .ok (.aload_n 0, 1) := by decide +kernel
theorem dX7_readWord_1 : decode cX7_readWord 1 = .ok (.invokevirtual 39, 3) := by decide +kernel
theorem dX7_readWord_4 : decode cX7_readWord 4 = .ok (.aload_n 0, 1) := by decide +kernel
theorem dX7_readWord_5 : decode cX7_readWord 5 = .ok (.invokevirtual 49, 3) := by decide +kernel
theorem dX7_readWord_8 : decode cX7_readWord 8 = .ok (.istore_n 2, 1) := by decide +kernel
theorem dX7_readWord_9 : decode cX7_readWord 9 = .ok (.aload_n 0, 1) := by decide +kernel
theorem dX7_readWord_10 : decode cX7_readWord 10 = .ok (.aload_n 1, 1) := by decide +kernel
theorem dX7_readWord_11 : decode cX7_readWord 11 = .ok (.iload_n 2, 1) := by decide +kernel
theorem dX7_readWord_12 : decode cX7_readWord 12 = .ok (.invokevirtual 57, 3) := by decide +kernel
theorem dX7_readWord_15 : decode cX7_readWord 15 = .ok (.ifCond .ne 11, 3) := by decide +kernel
theorem dX7_readWord_18 : decode cX7_readWord 18 = .ok (.aload_n 0, 1) := by decide +kernel
theorem dX7_readWord_19 : decode cX7_readWord 19 = .ok (.aload_n 0, 1) := by decide +kernel
theorem dX7_readWord_20 : decode cX7_readWord 20 = .ok (.getfield 26, 3) := by decide +kernel
theorem dX7_readWord_23 : decode cX7_readWord 23 = .ok (.invokevirtual 64, 3) := by decide +kernel
theorem dX7_readWord_26 : decode cX7_readWord 26 = .ok (.aload_n 0, 1) := by decide +kernel
theorem dX7_readWord_27 : decode cX7_readWord 27 = .ok (.iload_n 2, 1) := by decide +kernel
theorem dX7_readWord_28 : decode cX7_readWord 28 = .ok (.putfield 26, 3) := by decide +kernel
theorem dX7_readWord_31 : decode cX7_readWord 31 = .ok (.return_, 1) := by decide +kernel
theorem dX7_readNumber_0 : decode cX7_readNumber 0 = .ok (.aload_n 0, 1) := by decide +kernel
theorem dX7_readNumber_1 : decode cX7_readNumber 1 = .ok (.invokevirtual 39, 3) := by decide +kernel
theorem dX7_readNumber_4 : decode cX7_readNumber 4 = .ok (.aload_n 0, 1) := by decide +kernel
theorem dX7_readNumber_5 : decode cX7_readNumber 5 = .ok (.getfield 26, 3) := by decide +kernel
theorem dX7_readNumber_8 : decode cX7_readNumber 8 = .ok (.istore_n 3, 1) := by decide +kernel
theorem dX7_readNumber_9 : decode cX7_readNumber 9 = .ok (.iconst 0, 1) := by decide +kernel
theorem dX7_readNumber_10 : decode cX7_readNumber 10 = .ok (.istore 4, 2) := by decide +kernel
theorem dX7_readNumber_12 : decode cX7_readNumber 12 = .ok (.aload_n 0, 1) := by decide +kernel
theorem dX7_readNumber_13 : decode cX7_readNumber 13 = .ok (.getfield 26, 3) := by decide +kernel
theorem dX7_readNumber_16 : decode cX7_readNumber 16 = .ok (.aload_n 0, 1) := by decide +kernel
theorem dX7_readNumber_17 : decode cX7_readNumber 17 = .ok (.getfield 22, 3) := by decide +kernel
theorem dX7_readNumber_20 : decode cX7_readNumber 20 = .ok (.if_icmp .ge 57, 3) := by decide +kernel
theorem dX7_readNumber_23 : decode cX7_readNumber 23 = .ok (.aload_n 0, 1) := by decide +kernel
theorem dX7_readNumber_24 : decode cX7_readNumber 24 = .ok (.getfield 11, 3) := by decide +kernel
theorem dX7_readNumber_27 : decode cX7_readNumber 27 = .ok (.aload_n 0, 1) := by decide +kernel
theorem dX7_readNumber_28 : decode cX7_readNumber 28 = .ok (.getfield 26, 3) := by decide +kernel
theorem dX7_readNumber_31 : decode cX7_readNumber 31 = .ok (.iaload, 1) := by decide +kernel
theorem dX7_readNumber_32 : decode cX7_readNumber 32 = .ok (.invokestatic 138, 3) := by decide +kernel
theorem dX7_readNumber_35 : decode cX7_readNumber 35 = .ok (.ifCond .eq 42, 3) := by decide +kernel
theorem dX7_readNumber_38 : decode cX7_readNumber 38 = .ok (.iload 4, 2) := by decide +kernel
theorem dX7_readNumber_40 : decode cX7_readNumber 40 = .ok (.bipush 10, 2) := by decide +kernel
theorem dX7_readNumber_42 : decode cX7_readNumber 42 = .ok (.imul, 1) := by decide +kernel
theorem dX7_readNumber_43 : decode cX7_readNumber 43 = .ok (.aload_n 0, 1) := by decide +kernel
theorem dX7_readNumber_44 : decode cX7_readNumber 44 = .ok (.getfield 11, 3) := by decide +kernel
theorem dX7_readNumber_47 : decode cX7_readNumber 47 = .ok (.aload_n 0, 1) := by decide +kernel
theorem dX7_readNumber_48 : decode cX7_readNumber 48 = .ok (.getfield 26, 3) := by decide +kernel
theorem dX7_readNumber_51 : decode cX7_readNumber 51 = .ok (.iaload, 1) := by decide +kernel
theorem dX7_readNumber_52 : decode cX7_readNumber 52 = .ok (.iadd, 1) := by decide +kernel
theorem dX7_readNumber_53 : decode cX7_readNumber 53 = .ok (.bipush 48, 2) := by decide +kernel
theorem dX7_readNumber_55 : decode cX7_readNumber 55 = .ok (.isub, 1) := by decide +kernel
theorem dX7_readNumber_56 : decode cX7_readNumber 56 = .ok (.sipush 1000, 3) := by decide +kernel
theorem dX7_readNumber_59 : decode cX7_readNumber 59 = .ok (.invokestatic 142, 3) := by decide +kernel
theorem dX7_readNumber_62 : decode cX7_readNumber 62 = .ok (.istore 4, 2) := by decide +kernel
theorem dX7_readNumber_64 : decode cX7_readNumber 64 = .ok (.aload_n 0, 1) := by decide +kernel
theorem dX7_readNumber_65 : decode cX7_readNumber 65 = .ok (.dup, 1) := by decide +kernel
theorem dX7_readNumber_66 : decode cX7_readNumber 66 = .ok (.getfield 26, 3) := by decide +kernel
theorem dX7_readNumber_69 : decode cX7_readNumber 69 = .ok (.iconst 1, 1) := by decide +kernel
theorem dX7_readNumber_70 : decode cX7_readNumber 70 = .ok (.iadd, 1) := by decide +kernel
theorem dX7_readNumber_71 : decode cX7_readNumber 71 = .ok (.putfield 26, 3) := by decide +kernel
theorem dX7_readNumber_74 : decode cX7_readNumber 74 = .ok (.goto (-62), 3) := by decide +kernel
theorem dX7_readNumber_77 : decode cX7_readNumber 77 = .ok (.aload_n 0, 1) := by decide +kernel
theorem dX7_readNumber_78 : decode cX7_readNumber 78 = .ok (.getfield 26, 3) := by decide +kernel
theorem dX7_readNumber_81 : decode cX7_readNumber 81 = .ok (.iload_n 3, 1) := by decide +kernel
theorem dX7_readNumber_82 : decode cX7_readNumber 82 = .ok (.isub, 1) := by decide +kernel
theorem dX7_readNumber_83 : decode cX7_readNumber 83 = .ok (.istore 5, 2) := by decide +kernel
theorem dX7_readNumber_85 : decode cX7_readNumber 85 = .ok (.iload 5, 2) := by decide +kernel
theorem dX7_readNumber_87 : decode cX7_readNumber 87 = .ok (.iconst 1, 1) := by decide +kernel
theorem dX7_readNumber_88 : decode cX7_readNumber 88 = .ok (.if_icmp .lt 21, 3) := by decide +kernel
theorem dX7_readNumber_91 : decode cX7_readNumber 91 = .ok (.iload 5, 2) := by decide +kernel
theorem dX7_readNumber_93 : decode cX7_readNumber 93 = .ok (.iconst 2, 1) := by decide +kernel
theorem dX7_readNumber_94 : decode cX7_readNumber 94 = .ok (.if_icmp .gt 15, 3) := by decide +kernel
theorem dX7_readNumber_97 : decode cX7_readNumber 97 = .ok (.iload 4, 2) := by decide +kernel
theorem dX7_readNumber_99 : decode cX7_readNumber 99 = .ok (.iload_n 1, 1) := by decide +kernel
theorem dX7_readNumber_100 : decode cX7_readNumber 100 = .ok (.if_icmp .gt 9, 3) := by decide +kernel
theorem dX7_readNumber_103 : decode cX7_readNumber 103 = .ok (.iload 4, 2) := by decide +kernel
theorem dX7_readNumber_105 : decode cX7_readNumber 105 = .ok (.iload_n 2, 1) := by decide +kernel
theorem dX7_readNumber_106 : decode cX7_readNumber 106 = .ok (.if_icmp .ne 8, 3) := by decide +kernel
theorem dX7_readNumber_109 : decode cX7_readNumber 109 = .ok (.aload_n 0, 1) := by decide +kernel
theorem dX7_readNumber_110 : decode cX7_readNumber 110 = .ok (.iload_n 3, 1) := by decide +kernel
theorem dX7_readNumber_111 : decode cX7_readNumber 111 = .ok (.invokevirtual 64, 3) := by decide +kernel
theorem dX7_readNumber_114 : decode cX7_readNumber 114 = .ok (.iload 4, 2) := by decide +kernel
theorem dX7_readNumber_116 : decode cX7_readNumber 116 = .ok (.ireturn, 1) := by decide +kernel
theorem dX7_isDigit_0 : decode cX7_isDigit 0 = .ok (.iload_n 0, 1) := by decide +kernel
theorem dX7_isDigit_1 : decode cX7_isDigit 1 = .ok (.bipush 48, 2) := by decide +kernel
theorem dX7_isDigit_3 : decode cX7_isDigit 3 = .ok (.if_icmp .lt 13, 3) := by decide +kernel
theorem dX7_isDigit_6 : decode cX7_isDigit 6 = .ok (.iload_n 0, 1) := by decide +kernel
theorem dX7_isDigit_7 : decode cX7_isDigit 7 = .ok (.bipush 57, 2) := by decide +kernel
theorem dX7_isDigit_9 : decode cX7_isDigit 9 = .ok (.if_icmp .gt 7, 3) := by decide +kernel
theorem dX7_isDigit_12 : decode cX7_isDigit 12 = .ok (.iconst 1, 1) := by decide +kernel
theorem dX7_isDigit_13 : decode cX7_isDigit 13 = .ok (.goto 4, 3) := by decide +kernel
theorem dX7_isDigit_16 : decode cX7_isDigit 16 = .ok (.iconst 0, 1) := by decide +kernel
theorem dX7_isDigit_17 : decode cX7_isDigit 17 = .ok (.ireturn, 1) := by decide +kernel
theorem dX7_fail_0 : decode cX7_fail 0 = .ok (.aload_n 0, 1) := by decide +kernel
theorem dX7_fail_1 : decode cX7_fail 1 = .ok (.getfield 29, 3) := by decide +kernel
theorem dX7_fail_4 : decode cX7_fail 4 = .ok (.ifCond .ge 15, 3) := by decide +kernel
theorem dX7_fail_7 : decode cX7_fail 7 = .ok (.aload_n 0, 1) := by decide +kernel
theorem dX7_fail_8 : decode cX7_fail 8 = .ok (.iload_n 1, 1) := by decide +kernel
theorem dX7_fail_9 : decode cX7_fail 9 = .ok (.aload_n 0, 1) := by decide +kernel
theorem dX7_fail_10 : decode cX7_fail 10 = .ok (.getfield 22, 3) := by decide +kernel
theorem dX7_fail_13 : decode cX7_fail 13 = .ok (.invokestatic 142, 3) := by decide +kernel
theorem dX7_fail_16 : decode cX7_fail 16 = .ok (.putfield 29, 3) := by decide +kernel
theorem dX7_fail_19 : decode cX7_fail 19 = .ok (.return_, 1) := by decide +kernel
theorem dX7_skipBlanks_0 : decode cX7_skipBlanks 0 = .ok (.aload_n 0, 1) := by decide +kernel
theorem dX7_skipBlanks_1 : decode cX7_skipBlanks 1 = .ok (.getfield 26, 3) := by decide +kernel
theorem dX7_skipBlanks_4 : decode cX7_skipBlanks 4 = .ok (.aload_n 0, 1) := by decide +kernel
theorem dX7_skipBlanks_5 : decode cX7_skipBlanks 5 = .ok (.getfield 22, 3) := by decide +kernel
theorem dX7_skipBlanks_8 : decode cX7_skipBlanks 8 = .ok (.if_icmp .ge 30, 3) := by decide +kernel
theorem dX7_skipBlanks_11 : decode cX7_skipBlanks 11 = .ok (.aload_n 0, 1) := by decide +kernel
theorem dX7_skipBlanks_12 : decode cX7_skipBlanks 12 = .ok (.getfield 11, 3) := by decide +kernel
theorem dX7_skipBlanks_15 : decode cX7_skipBlanks 15 = .ok (.aload_n 0, 1) := by decide +kernel
theorem dX7_skipBlanks_16 : decode cX7_skipBlanks 16 = .ok (.getfield 26, 3) := by decide +kernel
theorem dX7_skipBlanks_19 : decode cX7_skipBlanks 19 = .ok (.iaload, 1) := by decide +kernel
theorem dX7_skipBlanks_20 : decode cX7_skipBlanks 20 = .ok (.bipush 32, 2) := by decide +kernel
theorem dX7_skipBlanks_22 : decode cX7_skipBlanks 22 = .ok (.if_icmp .ne 16, 3) := by decide +kernel
theorem dX7_skipBlanks_25 : decode cX7_skipBlanks 25 = .ok (.aload_n 0, 1) := by decide +kernel
theorem dX7_skipBlanks_26 : decode cX7_skipBlanks 26 = .ok (.dup, 1) := by decide +kernel
theorem dX7_skipBlanks_27 : decode cX7_skipBlanks 27 = .ok (.getfield 26, 3) := by decide +kernel
theorem dX7_skipBlanks_30 : decode cX7_skipBlanks 30 = .ok (.iconst 1, 1) := by decide +kernel
theorem dX7_skipBlanks_31 : decode cX7_skipBlanks 31 = .ok (.iadd, 1) := by decide +kernel
theorem dX7_skipBlanks_32 : decode cX7_skipBlanks 32 = .ok (.putfield 26, 3) := by decide +kernel
theorem dX7_skipBlanks_35 : decode cX7_skipBlanks 35 = .ok (.goto (-35), 3) := by decide +kernel
theorem dX7_skipBlanks_38 : decode cX7_skipBlanks 38 = .ok (.return_, 1) := by decide +kernel
theorem dX7_endOfName_0 : decode cX7_endOfName 0 = .ok (.aload_n 0, 1) := by decide +kernel
theorem dX7_endOfName_1 : decode cX7_endOfName 1 = .ok (.getfield 26, 3) := by decide +kernel
theorem dX7_endOfName_4 : decode cX7_endOfName 4 = .ok (.istore_n 1, 1) := by decide +kernel
theorem dX7_endOfName_5 : decode cX7_endOfName 5 = .ok (.iload_n 1, 1) := by decide +kernel
theorem dX7_endOfName_6 : decode cX7_endOfName 6 = .ok (.aload_n 0, 1) := by decide +kernel
theorem dX7_endOfName_7 : decode cX7_endOfName 7 = .ok (.getfield 22, 3) := by decide +kernel
theorem dX7_endOfName_10 : decode cX7_endOfName 10 = .ok (.if_icmp .ge 31, 3) := by decide +kernel
theorem dX7_endOfName_13 : decode cX7_endOfName 13 = .ok (.aload_n 0, 1) := by decide +kernel
theorem dX7_endOfName_14 : decode cX7_endOfName 14 = .ok (.getfield 11, 3) := by decide +kernel
theorem dX7_endOfName_17 : decode cX7_endOfName 17 = .ok (.iload_n 1, 1) := by decide +kernel
theorem dX7_endOfName_18 : decode cX7_endOfName 18 = .ok (.iaload, 1) := by decide +kernel
theorem dX7_endOfName_19 : decode cX7_endOfName 19 = .ok (.bipush 97, 2) := by decide +kernel
theorem dX7_endOfName_21 : decode cX7_endOfName 21 = .ok (.if_icmp .lt 20, 3) := by decide +kernel
theorem dX7_endOfName_24 : decode cX7_endOfName 24 = .ok (.aload_n 0, 1) := by decide +kernel
theorem dX7_endOfName_25 : decode cX7_endOfName 25 = .ok (.getfield 11, 3) := by decide +kernel
theorem dX7_endOfName_28 : decode cX7_endOfName 28 = .ok (.iload_n 1, 1) := by decide +kernel
theorem dX7_endOfName_29 : decode cX7_endOfName 29 = .ok (.iaload, 1) := by decide +kernel
theorem dX7_endOfName_30 : decode cX7_endOfName 30 = .ok (.bipush 122, 2) := by decide +kernel
theorem dX7_endOfName_32 : decode cX7_endOfName 32 = .ok (.if_icmp .gt 9, 3) := by decide +kernel
theorem dX7_endOfName_35 : decode cX7_endOfName 35 = .ok (.iinc 1 1, 3) := by decide +kernel
theorem dX7_endOfName_38 : decode cX7_endOfName 38 = .ok (.goto (-33), 3) := by decide +kernel
theorem dX7_endOfName_41 : decode cX7_endOfName 41 = .ok (.iload_n 1, 1) := by decide +kernel
theorem dX7_endOfName_42 : decode cX7_endOfName 42 = .ok (.ireturn, 1) := by decide +kernel
theorem dX7_stands_0 : decode cX7_stands 0 = .ok (.iload_n 2, 1) := by decide +kernel
theorem dX7_stands_1 : decode cX7_stands 1 = .ok (.aload_n 0, 1) := by decide +kernel
theorem dX7_stands_2 : decode cX7_stands 2 = .ok (.getfield 26, 3) := by decide +kernel
theorem dX7_stands_5 : decode cX7_stands 5 = .ok (.isub, 1) := by decide +kernel
theorem dX7_stands_6 : decode cX7_stands 6 = .ok (.aload_n 1, 1) := by decide +kernel
theorem dX7_stands_7 : decode cX7_stands 7 = .ok (.invokevirtual 147, 3) := by decide +kernel
theorem dX7_stands_10 : decode cX7_stands 10 = .ok (.if_icmp .eq 5, 3) := by decide +kernel
theorem dX7_stands_13 : decode cX7_stands 13 = .ok (.iconst 0, 1) := by decide +kernel
theorem dX7_stands_14 : decode cX7_stands 14 = .ok (.ireturn, 1) := by decide +kernel
theorem dX7_stands_15 : decode cX7_stands 15 = .ok (.iconst 0, 1) := by decide +kernel
theorem dX7_stands_16 : decode cX7_stands 16 = .ok (.istore_n 3, 1) := by decide +kernel
theorem dX7_stands_17 : decode cX7_stands 17 = .ok (.iload_n 3, 1) := by decide +kernel
theorem dX7_stands_18 : decode cX7_stands 18 = .ok (.aload_n 1, 1) := by decide +kernel
theorem dX7_stands_19 : decode cX7_stands 19 = .ok (.invokevirtual 147, 3) := by decide +kernel
theorem dX7_stands_22 : decode cX7_stands 22 = .ok (.if_icmp .ge 30, 3) := by decide +kernel
theorem dX7_stands_25 : decode cX7_stands 25 = .ok (.aload_n 0, 1) := by decide +kernel
theorem dX7_stands_26 : decode cX7_stands 26 = .ok (.getfield 11, 3) := by decide +kernel
theorem dX7_stands_29 : decode cX7_stands 29 = .ok (.aload_n 0, 1) := by decide +kernel
theorem dX7_stands_30 : decode cX7_stands 30 = .ok (.getfield 26, 3) := by decide +kernel
theorem dX7_stands_33 : decode cX7_stands 33 = .ok (.iload_n 3, 1) := by decide +kernel
theorem dX7_stands_34 : decode cX7_stands 34 = .ok (.iadd, 1) := by decide +kernel
theorem dX7_stands_35 : decode cX7_stands 35 = .ok (.iaload, 1) := by decide +kernel
theorem dX7_stands_36 : decode cX7_stands 36 = .ok (.aload_n 1, 1) := by decide +kernel
theorem dX7_stands_37 : decode cX7_stands 37 = .ok (.iload_n 3, 1) := by decide +kernel
theorem dX7_stands_38 : decode cX7_stands 38 = .ok (.invokevirtual 151, 3) := by decide +kernel
theorem dX7_stands_41 : decode cX7_stands 41 = .ok (.if_icmp .eq 5, 3) := by decide +kernel
theorem dX7_stands_44 : decode cX7_stands 44 = .ok (.iconst 0, 1) := by decide +kernel
theorem dX7_stands_45 : decode cX7_stands 45 = .ok (.ireturn, 1) := by decide +kernel
theorem dX7_stands_46 : decode cX7_stands 46 = .ok (.iinc 3 1, 3) := by decide +kernel
theorem dX7_stands_49 : decode cX7_stands 49 = .ok (.goto (-32), 3) := by decide +kernel
theorem dX7_stands_52 : decode cX7_stands 52 = .ok (.iconst 1, 1) := by decide +kernel
theorem dX7_stands_53 : decode cX7_stands 53 = .ok (.ireturn, 1) := by decide +kernel
theorem dJ0_length_8abf5_0 : decode cJ0_length_8abf5 0 = .ok (.aload_n 0, 1) := by decide +kernel
theorem dJ0_length_8abf5_1 : decode cJ0_length_8abf5 1 = .ok (.getfield 9, 3) := by decide +kernel
theorem dJ0_length_8abf5_4 : decode cJ0_length_8abf5 4 = .ok (.arraylength, 1) := by decide +kernel
theorem dJ0_length_8abf5_5 : decode cJ0_length_8abf5 5 = .ok (.aload_n 0, 1) := by decide +kernel
theorem dJ0_length_8abf5_6 : decode cJ0_length_8abf5 6 = .ok (.invokevirtual 335, 3) := by decide +kernel
theorem dJ0_length_8abf5_9 : decode cJ0_length_8abf5 9 = .ok (.ishr, 1) := by decide +kernel
theorem dJ0_length_8abf5_10 : decode cJ0_length_8abf5 10 = .ok (.ireturn, 1) := by decide +kernel
theorem dJ0_charAt_5068e_0 : decode cJ0_charAt_5068e 0 = .ok (.aload_n 0, 1) := by decide +kernel
theorem dJ0_charAt_5068e_1 : decode cJ0_charAt_5068e 1 = .ok (.invokevirtual 492, 3) := by decide +kernel
theorem dJ0_charAt_5068e_4 : decode cJ0_charAt_5068e 4 = .ok (.ifCond .eq 12, 3) := by decide +kernel
theorem dJ0_charAt_5068e_7 : decode cJ0_charAt_5068e 7 = .ok (.aload_n 0, 1) := by decide +kernel
theorem dJ0_charAt_5068e_8 : decode cJ0_charAt_5068e 8 = .ok (.getfield 9, 3) := by decide +kernel
theorem dJ0_charAt_5068e_11 : decode cJ0_charAt_5068e 11 = .ok (.iload_n 1, 1) := by decide +kernel
theorem dJ0_charAt_5068e_12 : decode cJ0_charAt_5068e 12 = .ok (.invokestatic 495, 3) := by decide +kernel
theorem dJ0_charAt_5068e_15 : decode cJ0_charAt_5068e 15 = .ok (.ireturn, 1) := by decide +kernel
theorem dJ0_charAt_5068e_16 : decode cJ0_charAt_5068e 16 = .ok (.aload_n 0, 1) := by decide +kernel
theorem dJ0_charAt_5068e_17 : decode cJ0_charAt_5068e 17 = .ok (.getfield 9, 3) := by decide +kernel
theorem dJ0_charAt_5068e_20 : decode cJ0_charAt_5068e 20 = .ok (.iload_n 1, 1) := by decide +kernel
theorem dJ0_charAt_5068e_21 : decode cJ0_charAt_5068e 21 = .ok (.invokestatic 498, 3) := by decide +kernel
theorem dJ0_charAt_5068e_24 : decode cJ0_charAt_5068e 24 = .ok (.ireturn, 1) := by decide +kernel
theorem dJ0_coder_7d493_0 : decode cJ0_coder_7d493 0 = .ok (.getstatic 38, 3) := by decide +kernel
theorem dJ0_coder_7d493_3 : decode cJ0_coder_7d493 3 = .ok (.ifCond .eq 10, 3) := by decide +kernel
theorem dJ0_coder_7d493_6 : decode cJ0_coder_7d493 6 = .ok (.aload_n 0, 1) := by decide +kernel
theorem dJ0_coder_7d493_7 : decode cJ0_coder_7d493 7 = .ok (.getfield 15, 3) := by decide +kernel
theorem dJ0_coder_7d493_10 : decode cJ0_coder_7d493 10 = .ok (.goto 4, 3) := by decide +kernel
theorem dJ0_coder_7d493_13 : decode cJ0_coder_7d493 13 = .ok (.iconst 1, 1) := by decide +kernel
theorem dJ0_coder_7d493_14 : decode cJ0_coder_7d493 14 = .ok (.ireturn, 1) := by decide +kernel
theorem dJ0_isLatin1_aae02_0 : decode cJ0_isLatin1_aae02 0 = .ok (.getstatic 38, 3) := by decide +kernel
theorem dJ0_isLatin1_aae02_3 : decode cJ0_isLatin1_aae02 3 = .ok (.ifCond .eq 14, 3) := by decide +kernel
theorem dJ0_isLatin1_aae02_6 : decode cJ0_isLatin1_aae02 6 = .ok (.aload_n 0, 1) := by decide +kernel
theorem dJ0_isLatin1_aae02_7 : decode cJ0_isLatin1_aae02 7 = .ok (.getfield 15, 3) := by decide +kernel
theorem dJ0_isLatin1_aae02_10 : decode cJ0_isLatin1_aae02 10 = .ok (.ifCond .ne 7, 3) := by decide +kernel
theorem dJ0_isLatin1_aae02_13 : decode cJ0_isLatin1_aae02 13 = .ok (.iconst 1, 1) := by decide +kernel
theorem dJ0_isLatin1_aae02_14 : decode cJ0_isLatin1_aae02 14 = .ok (.goto 4, 3) := by decide +kernel
theorem dJ0_isLatin1_aae02_17 : decode cJ0_isLatin1_aae02 17 = .ok (.iconst 0, 1) := by decide +kernel
theorem dJ0_isLatin1_aae02_18 : decode cJ0_isLatin1_aae02 18 = .ok (.ireturn, 1) := by decide +kernel
theorem dJ0_checkIndex_df160_0 : decode cJ0_checkIndex_df160 0 = .ok (.iload_n 0, 1) := by decide +kernel
theorem dJ0_checkIndex_df160_1 : decode cJ0_checkIndex_df160 1 = .ok (.iload_n 1, 1) := by decide +kernel
theorem dJ0_checkIndex_df160_2 : decode cJ0_checkIndex_df160 2 = .ok (.getstatic 1053, 3) := by decide +kernel
theorem dJ0_checkIndex_df160_5 : decode cJ0_checkIndex_df160 5 = .ok (.invokestatic 1059, 3) := by decide +kernel
theorem dJ0_checkIndex_df160_8 : decode cJ0_checkIndex_df160 8 = .ok (.pop, 1) := by decide +kernel
theorem dJ0_checkIndex_df160_9 : decode cJ0_checkIndex_df160 9 = .ok (.return_, 1) := by decide +kernel
theorem dJ1_charAt_3b067_0 : decode cJ1_charAt_3b067 0 = .ok (.iload_n 1, 1) := by decide +kernel
theorem dJ1_charAt_3b067_1 : decode cJ1_charAt_3b067 1 = .ok (.aload_n 0, 1) := by decide +kernel
theorem dJ1_charAt_3b067_2 : decode cJ1_charAt_3b067 2 = .ok (.arraylength, 1) := by decide +kernel
theorem dJ1_charAt_3b067_3 : decode cJ1_charAt_3b067 3 = .ok (.invokestatic 9, 3) := by decide +kernel
theorem dJ1_charAt_3b067_6 : decode cJ1_charAt_3b067 6 = .ok (.aload_n 0, 1) := by decide +kernel
theorem dJ1_charAt_3b067_7 : decode cJ1_charAt_3b067 7 = .ok (.iload_n 1, 1) := by decide +kernel
theorem dJ1_charAt_3b067_8 : decode cJ1_charAt_3b067 8 = .ok (.baload, 1) := by decide +kernel
theorem dJ1_charAt_3b067_9 : decode cJ1_charAt_3b067 9 = .ok (.sipush 255, 3) := by decide +kernel
theorem dJ1_charAt_3b067_12 : decode cJ1_charAt_3b067 12 = .ok (.iand, 1) := by decide +kernel
theorem dJ1_charAt_3b067_13 : decode cJ1_charAt_3b067 13 = .ok (.i2c, 1) := by decide +kernel
theorem dJ1_charAt_3b067_14 : decode cJ1_charAt_3b067 14 = .ok (.ireturn, 1) := by decide +kernel
theorem dJ2_getChar_3b067_0 : decode cJ2_getChar_3b067 0 = .ok (.getstatic 44, 3) := by decide +kernel
theorem dJ2_getChar_3b067_3 : decode cJ2_getChar_3b067 3 = .ok (.ifCond .ne 25, 3) := by decide +kernel
theorem dJ2_getChar_3b067_6 : decode cJ2_getChar_3b067 6 = .ok (.iload_n 1, 1) := by decide +kernel
theorem dJ2_getChar_3b067_7 : decode cJ2_getChar_3b067 7 = .ok (.ifCond .lt 11, 3) := by decide +kernel
theorem dJ2_getChar_3b067_10 : decode cJ2_getChar_3b067 10 = .ok (.iload_n 1, 1) := by decide +kernel
theorem dJ2_getChar_3b067_11 : decode cJ2_getChar_3b067 11 = .ok (.aload_n 0, 1) := by decide +kernel
theorem dJ2_getChar_3b067_12 : decode cJ2_getChar_3b067 12 = .ok (.invokestatic 48, 3) := by decide +kernel
theorem dJ2_getChar_3b067_15 : decode cJ2_getChar_3b067 15 = .ok (.if_icmp .lt 13, 3) := by decide +kernel
theorem dJ2_getChar_3b067_18 : decode cJ2_getChar_3b067 18 = .ok (.new 52, 3) := by decide +kernel
theorem dJ2_getChar_3b067_21 : decode cJ2_getChar_3b067 21 = .ok (.dup, 1) := by decide +kernel
theorem dJ2_getChar_3b067_22 : decode cJ2_getChar_3b067 22 = .ok (.ldc 54, 2) := by decide +kernel
theorem dJ2_getChar_3b067_24 : decode cJ2_getChar_3b067 24 = .ok (.invokespecial 56, 3) := by decide +kernel
theorem dJ2_getChar_3b067_27 : decode cJ2_getChar_3b067 27 = .ok (.athrow, 1) := by decide +kernel
theorem dJ2_getChar_3b067_28 : decode cJ2_getChar_3b067 28 = .ok (.iload_n 1, 1) := by decide +kernel
theorem dJ2_getChar_3b067_29 : decode cJ2_getChar_3b067 29 = .ok (.iconst 1, 1) := by decide +kernel
theorem dJ2_getChar_3b067_30 : decode cJ2_getChar_3b067 30 = .ok (.ishl, 1) := by decide +kernel
theorem dJ2_getChar_3b067_31 : decode cJ2_getChar_3b067 31 = .ok (.istore_n 1, 1) := by decide +kernel
theorem dJ2_getChar_3b067_32 : decode cJ2_getChar_3b067 32 = .ok (.aload_n 0, 1) := by decide +kernel
theorem dJ2_getChar_3b067_33 : decode cJ2_getChar_3b067 33 = .ok (.iload_n 1, 1) := by decide +kernel
theorem dJ2_getChar_3b067_34 : decode cJ2_getChar_3b067 34 = .ok (.iinc 1 1, 3) := by decide +kernel
theorem dJ2_getChar_3b067_37 : decode cJ2_getChar_3b067 37 = .ok (.baload, 1) := by decide +kernel
theorem dJ2_getChar_3b067_38 : decode cJ2_getChar_3b067 38 = .ok (.sipush 255, 3) := by decide +kernel
theorem dJ2_getChar_3b067_41 : decode cJ2_getChar_3b067 41 = .ok (.iand, 1) := by decide +kernel
theorem dJ2_getChar_3b067_42 : decode cJ2_getChar_3b067 42 = .ok (.getstatic 59, 3) := by decide +kernel
theorem dJ2_getChar_3b067_45 : decode cJ2_getChar_3b067 45 = .ok (.ishl, 1) := by decide +kernel
theorem dJ2_getChar_3b067_46 : decode cJ2_getChar_3b067 46 = .ok (.aload_n 0, 1) := by decide +kernel
theorem dJ2_getChar_3b067_47 : decode cJ2_getChar_3b067 47 = .ok (.iload_n 1, 1) := by decide +kernel
theorem dJ2_getChar_3b067_48 : decode cJ2_getChar_3b067 48 = .ok (.baload, 1) := by decide +kernel
theorem dJ2_getChar_3b067_49 : decode cJ2_getChar_3b067 49 = .ok (.sipush 255, 3) := by decide +kernel
theorem dJ2_getChar_3b067_52 : decode cJ2_getChar_3b067 52 = .ok (.iand, 1) := by decide +kernel
theorem dJ2_getChar_3b067_53 : decode cJ2_getChar_3b067 53 = .ok (.getstatic 63, 3) := by decide +kernel
theorem dJ2_getChar_3b067_56 : decode cJ2_getChar_3b067 56 = .ok (.ishl, 1) := by decide +kernel
theorem dJ2_getChar_3b067_57 : decode cJ2_getChar_3b067 57 = .ok (.ior, 1) := by decide +kernel
theorem dJ2_getChar_3b067_58 : decode cJ2_getChar_3b067 58 = .ok (.i2c, 1) := by decide +kernel
theorem dJ2_getChar_3b067_59 : decode cJ2_getChar_3b067 59 = .ok (.ireturn, 1) := by decide +kernel
theorem dJ2_length_9d52b_0 : decode cJ2_length_9d52b 0 = .ok (.aload_n 0, 1) := by decide +kernel
theorem dJ2_length_9d52b_1 : decode cJ2_length_9d52b 1 = .ok (.arraylength, 1) := by decide +kernel
theorem dJ2_length_9d52b_2 : decode cJ2_length_9d52b 2 = .ok (.iconst 1, 1) := by decide +kernel
theorem dJ2_length_9d52b_3 : decode cJ2_length_9d52b 3 = .ok (.ishr, 1) := by decide +kernel
theorem dJ2_length_9d52b_4 : decode cJ2_length_9d52b 4 = .ok (.ireturn, 1) := by decide +kernel
theorem dJ2_charAt_3b067_0 : decode cJ2_charAt_3b067 0 = .ok (.iload_n 1, 1) := by decide +kernel
theorem dJ2_charAt_3b067_1 : decode cJ2_charAt_3b067 1 = .ok (.aload_n 0, 1) := by decide +kernel
theorem dJ2_charAt_3b067_2 : decode cJ2_charAt_3b067 2 = .ok (.invokestatic 67, 3) := by decide +kernel
theorem dJ2_charAt_3b067_5 : decode cJ2_charAt_3b067 5 = .ok (.aload_n 0, 1) := by decide +kernel
theorem dJ2_charAt_3b067_6 : decode cJ2_charAt_3b067 6 = .ok (.iload_n 1, 1) := by decide +kernel
theorem dJ2_charAt_3b067_7 : decode cJ2_charAt_3b067 7 = .ok (.invokestatic 71, 3) := by decide +kernel
theorem dJ2_charAt_3b067_10 : decode cJ2_charAt_3b067 10 = .ok (.ireturn, 1) := by decide +kernel
theorem dJ2_checkIndex_2214a_0 : decode cJ2_checkIndex_2214a 0 = .ok (.iload_n 0, 1) := by decide +kernel
theorem dJ2_checkIndex_2214a_1 : decode cJ2_checkIndex_2214a 1 = .ok (.aload_n 1, 1) := by decide +kernel
theorem dJ2_checkIndex_2214a_2 : decode cJ2_checkIndex_2214a 2 = .ok (.invokestatic 48, 3) := by decide +kernel
theorem dJ2_checkIndex_2214a_5 : decode cJ2_checkIndex_2214a 5 = .ok (.invokestatic 414, 3) := by decide +kernel
theorem dJ2_checkIndex_2214a_8 : decode cJ2_checkIndex_2214a 8 = .ok (.return_, 1) := by decide +kernel
theorem dJ3_checkIndex_8e157_0 : decode cJ3_checkIndex_8e157 0 = .ok (.iload_n 0, 1) := by decide +kernel
theorem dJ3_checkIndex_8e157_1 : decode cJ3_checkIndex_8e157 1 = .ok (.ifCond .lt 8, 3) := by decide +kernel
theorem dJ3_checkIndex_8e157_4 : decode cJ3_checkIndex_8e157 4 = .ok (.iload_n 0, 1) := by decide +kernel
theorem dJ3_checkIndex_8e157_5 : decode cJ3_checkIndex_8e157 5 = .ok (.iload_n 1, 1) := by decide +kernel
theorem dJ3_checkIndex_8e157_6 : decode cJ3_checkIndex_8e157 6 = .ok (.if_icmp .lt 10, 3) := by decide +kernel
theorem dJ3_checkIndex_8e157_9 : decode cJ3_checkIndex_8e157 9 = .ok (.aload_n 2, 1) := by decide +kernel
theorem dJ3_checkIndex_8e157_10 : decode cJ3_checkIndex_8e157 10 = .ok (.iload_n 0, 1) := by decide +kernel
theorem dJ3_checkIndex_8e157_11 : decode cJ3_checkIndex_8e157 11 = .ok (.iload_n 1, 1) := by decide +kernel
theorem dJ3_checkIndex_8e157_12 : decode cJ3_checkIndex_8e157 12 = .ok (.invokestatic 95, 3) := by decide +kernel
theorem dJ3_checkIndex_8e157_15 : decode cJ3_checkIndex_8e157 15 = .ok (.athrow, 1) := by decide +kernel
theorem dJ3_checkIndex_8e157_16 : decode cJ3_checkIndex_8e157 16 = .ok (.iload_n 0, 1) := by decide +kernel
theorem dJ3_checkIndex_8e157_17 : decode cJ3_checkIndex_8e157 17 = .ok (.ireturn, 1) := by decide +kernel
/-- an ASCII text among the class's constants: its length, its signs -/
def sLen (i : Nat) : Int32 := nI (stL.getD i 0)
def sChr (i : Nat) (j : Int32) : Int32 := (stB.getD i []).getD j.toNatClampNeg 0
theorem sLen_sh : ∀ i : Nat, i < 14 → nI (stL.getD i 0) >>> ((0 : Int32) &&& 31) = sLen i := by decide +kernel
theorem sLen_lt : ∀ i : Nat, i < 14 → stL.getD i 0 < 10 := by decide +kernel
theorem sChr_ok : ∀ i : Nat, i < 14 → ∀ j : Nat, j < 10 → ((((stB.getD i []).getD j 0 : Int32) &&& 255).toUInt32 % 65536).toInt32 = (stB.getD i []).getD j 0 ∧ narrow .char (.int ((stB.getD i []).getD j 0)) = .int ((stB.getD i []).getD j 0) := by decide +kernel
def CTS (l : Launch) (y : MethodName) (bytes : ByteArray) (maxL : Nat) (ret : Option FieldType) (fr lo : Nat) (avs : (Nat → Nat) → (Nat → Nat) → List Value) (z : MS) (v0 : (Nat → Nat) → Option Value) (z1 : MS) : Prop :=
  ∀ (D : va_G) (ad : Nat → Nat) (cs : Nat → ClassId) (sd : Nat → Nat) (sz : Nat), INJ ad →
    Met l y (.code y bytes maxL ret :: TBL) { frames := fr, cells := 0, slots := 0, locals := lo } (va_Pc (avs ad sd) (UB D ad cs sd sz z)) (QU (v0 sd) D ad cs z1 (WA ad sz)) 0 0 (WA ad sz)
section USTR
variable {p : Program} {l : Launch} {e : Env} {R : Room} {s : State} {m : MethodId} {args : Array Value} {below : List Frame} {meth : Method} {c : Code} {H : Heap} {locs : List Loc} {cells slots : Nat} {Q : State → Prop}
variable {cc : ByteArray} {nL fr lo pc : Nat} {own : String} {ls : Array Slot} {rest : List Value} {D : va_G} {ad : Nat → Nat} {cs : Nat → ClassId} {sd : Nat → Nat} {A : Nat → Prop} {z : MS}
theorem u_startS {l : Launch} {y : MethodName} {bytes : ByteArray} {maxL : Nat} {ret : Option FieldType} {fr lo : Nat} {avs : (Nat → Nat) → (Nat → Nat) → List Value} {z z1 : MS} {v0 : (Nat → Nat) → Option Value} (own : String) (hown : y.cls = own) (hy : plainName y.cls = true)
    (hn : ∀ ad sd, (lg_sl (avs ad sd)).length ≤ maxL)
    (body : ∀ (p : Program) (e : Env) (s : State) (m : MethodId) (args : Array Value) (below : List Frame) (meth : Method) (c : Code) (R : Room) (D : va_G) (ad : Nat → Nat) (cs : Nat → ClassId) (sd : Nat → Nat) (A : Nat → Prop) (Q : State → Prop) (ls : Array Slot),
      UC p s m args meth c bytes maxL own R fr lo D ad cs sd A → va_P D clss (wld cs ad z) s.heap → va_S A s.heap s.heap [] → lv_has ls maxL (lv_args 0 (avs ad sd)) → meth.sig.returnType = ret →
      HR p l e R s m args below meth c D ad cs A Q z1 (v0 sd) →
      W p l e R s m args below meth c s.heap [] 0 0 Q (F0 m 0 ls [])) : CTS l y bytes maxL ret fr lo avs z v0 z1 := by
  intro D ad cs sd sz hinj
  refine Met.ofW (cc := bytes) (maxL := maxL) (ret := ret) hy rfl ?_
  intro p e s m args below meth c s₁ B hml hv
  obtain ⟨rfl, hsz, hP, hK, hN, hT⟩ := hv
  subst hsz
  have hts := atoms_spec (ws := .code y bytes maxL ret :: TBL) B.pre
  have hown : s.vm.findClass own = some m.cls := by rw [← hown]; exact findClass_of_methodNamed B.named
  have hl := lv_entry (avs ad sd) (n := maxL) (hn ad sd)
  rw [lg_entry_eq]
  generalize (lg_sl (avs ad sd) ++ List.replicate (maxL - (lg_sl (avs ad sd)).length) Slot.unset).toArray = ls at hl ⊢
  refine body p e s m _ below meth c _ D ad cs sd (WA ad s.heap.size) _ ls ⟨B.exec, B.bytes, hml, hown, fun w hw => hts w (List.mem_cons_of_mem _ hw), hN, hK, B.notSynchronized, hinj, fun k hk => Or.inl ⟨k, hk, rfl⟩, fun q hq => Or.inr hq, hT, Nat.le_refl _, Nat.le_refl _, Nat.zero_le _, Nat.zero_le _⟩ hP va_S.rf hl B.returns ?_
  intro H locs g hP1 hS1 hW T hT1 X1
  obtain ⟨t, h1, o, h2, h3, ⟨h4, h5⟩, h6⟩ := hW T hT1 X1
  refine ⟨t, h1, o, h2, h3, ⟨h4, ?_, ?_⟩, h6⟩
  · rw [h5]; exact hP1
  · exact hS1.F h5
theorem u_sretT {v r : Nat} (X : UC p s m args meth c cc nL own R fr lo D ad cs sd A) (hr : meth.sig.returnType = some (.object "java/lang/String")) (hret : HR p l e R s m args below meth c D ad cs A Q z (some (.ref (sd (4 + r))))) (h : v = r) (hP : va_P D clss (wld cs ad z) H) (hS : va_S A s.heap H locs) (d : decode cc pc = .ok (.areturn, 1)) : W p l e R s m args below meth c H locs 0 0 Q (F0 m pc ls [.ref (sd (4 + v))]) := by
  subst h
  exact u_aret X hr (Or.inl ⟨_, rfl⟩) hret hP hS d
theorem u_callSrS {y : MethodName} {bytes : ByteArray} {maxL n fr1 lo1 index v : Nat} {ret : Option FieldType} {avs : (Nat → Nat) → (Nat → Nat) → List Value} {z z1 : MS} {As : List Value} {st : List Value} {lv : List (Nat × Value)} (X : UC p s m args meth c cc nL own R fr lo D ad cs sd A) (hP : va_P D clss (wld cs ad z) H) (hS : va_S A s.heap H locs) (hl : lv_has ls nL lv) (d : decode cc pc = .ok (.invokestatic index, 3))
    (hC : CTS l y bytes maxL ret fr1 lo1 avs z (fun sd => some (.ref (sd (4 + v)))) z1) (hM : CWS own index y bytes maxL ret n)
    (ha : avs ad sd = As) (hn : As.length = n) (hst : st = As.reverse ++ rest) (hW : Nat.ble (rest.map fun v => v.category).sum 8 = true) (hR : Nat.ble (fr1 + 1) fr = true ∧ Nat.ble (8 + (maxL + 11) + lo1) lo = true)
    (k : ∀ (H : Heap) (locs : List Loc), va_P D clss (wld cs ad z1) H → va_S A s.heap H locs → W p l e R s m args below meth c H locs 0 0 Q (F0 m (pc + 3) ls (.ref (sd (4 + v)) :: rest))) : W p l e R s m args below meth c H locs 0 0 Q (F0 m pc ls st) := by
  subst hst
  obtain ⟨hM, hw, hi⟩ := hM
  refine u_back (y := y) X hS (va_runS (Ts := TBL) (own := own) (nL := nL) (ws := .code y bytes maxL ret :: TBL) (rm := { frames := fr1, cells := 0, slots := 0, locals := lo1 }) ⟨X.1, X.2.1, X.2.2.1, X.2.2.2.1, X.2.2.2.2.1⟩ (hC D ad cs sd H.size X.2.2.2.2.2.2.2.2.1)
    ⟨⟨rfl, rfl, Nat.le_trans (Nat.le_of_ble_eq_true hR.1) X.2.2.2.2.2.2.2.2.2.2.2.2.1, Nat.le_trans (Nat.le_of_ble_eq_true hR.2) X.2.2.2.2.2.2.2.2.2.2.2.2.2.1, pay_in X.2.2.2.2.1 (tb_good (tb_cons hM.1)), List.mem_cons_self, X.2.2.2.2.1 _ hM.1, X.2.2.2.2.1 _ hM.2.1, ⟨hM.2.2.1, hM.2.2.2.1⟩, fun sig h => ?_, X.2.2.2.2.1 _ hw⟩, X.2.2.2.2.1 _ hi⟩
    (by rw [ha]; exact ⟨u_blind, fun U hU hW => ⟨rfl, u_pre X hP hS hU hW⟩⟩) rfl hn hl.1 rfl (lv_room (Nat.le_of_ble_eq_true hW)) d ⟨Nat.zero_le _, Nat.zero_le _⟩) k
  have h2 := hM.2.2.2.2
  rw [h] at h2
  exact (Option.some.inj h2).symm
/-- a call on a text -/
theorem u_callT {y : MethodName} {bytes : ByteArray} {maxL n fr1 lo1 index i : Nat} {ret : Option FieldType} {avs : (Nat → Nat) → (Nat → Nat) → List Value} {z z1 : MS} {v0 : Option Value} {As : List Value} {st : List Value} {lv : List (Nat × Value)} (X : UC p s m args meth c cc nL own R fr lo D ad cs sd A) (hP : va_P D clss (wld cs ad z) H) (hS : va_S A s.heap H locs) (hl : lv_has ls nL lv) (hi14 : i < 14) (d : decode cc pc = .ok (.invokevirtual index, 3))
    (hC : CT l y bytes maxL ret fr1 lo1 avs z v0 z1) (hM : CWV own index RJ0 y bytes maxL ret n)
    (ha : avs ad sd = .ref (sd (4 + i)) :: As) (hn : As.length = n) (hst : st = As.reverse ++ .ref (sd (4 + i)) :: rest) (hW : Nat.ble (rest.map fun v => v.category).sum 8 = true) (hR : Nat.ble (fr1 + 1) fr = true ∧ Nat.ble (8 + (maxL + 11) + lo1) lo = true)
    (k : ∀ (H : Heap) (locs : List Loc), va_P D clss (wld cs ad z1) H → va_S A s.heap H locs → W p l e R s m args below meth c H locs 0 0 Q (F0 m (pc + 3) ls (v0.toList ++ rest))) : W p l e R s m args below meth c H locs 0 0 Q (F0 m pc ls st) := by
  subst hst
  obtain ⟨hM, hw, hi, hs⟩ := hM
  refine u_back (y := y) X hS (va_runV (Ts := TBL) (own := own) (nL := nL) (C := RJ0) (ws := .code y bytes maxL ret :: TBL) (rm := { frames := fr1, cells := 0, slots := 0, locals := lo1 }) ⟨X.1, X.2.1, X.2.2.1, X.2.2.2.1, X.2.2.2.2.1⟩ (hC D ad cs sd H.size X.2.2.2.2.2.2.2.2.1)
    ⟨⟨rfl, rfl, Nat.le_trans (Nat.le_of_ble_eq_true hR.1) X.2.2.2.2.2.2.2.2.2.2.2.2.1, Nat.le_trans (Nat.le_of_ble_eq_true hR.2) X.2.2.2.2.2.2.2.2.2.2.2.2.2.1, pay_in X.2.2.2.2.1 (tb_good (tb_cons hM.1)), List.mem_cons_self, X.2.2.2.2.1 _ hM.1, X.2.2.2.2.1 _ hM.2.1, ⟨hM.2.2.1, hM.2.2.2.1⟩, fun sig h => ?_, X.2.2.2.2.1 _ hw⟩, X.2.2.2.2.1 _ hi, X.2.2.2.2.1 _ hs⟩
    (by rw [ha]; exact ⟨u_blind, (vk_recv (adK := fun i => sd (4 + i)) (i := i) X.2.2.2.2.2.2.2.2.2.2.2.1.2.2.2.2.2.2.2 hi14 hS), fun U hU hW => ⟨rfl, u_pre X hP hS hU hW⟩⟩) rfl hn hl.1 rfl (lv_room (Nat.le_of_ble_eq_true hW)) d ⟨Nat.zero_le _, Nat.zero_le _⟩) k
  have h2 := hM.2.2.2.2
  rw [h] at h2
  exact (Option.some.inj h2).symm
theorem u_ldcS (j : Nat) (hj : j < 14) (X : UC p s m args meth c cc nL "TillPairs$Tape" R fr lo D ad cs sd A) (d : decode cc pc = .ok (.ldc (stI.getD j 0), 2)) (k : W p l e R s m args below meth c H locs cells slots Q (F0 m (pc + 2) ls (.ref (sd (4 + j)) :: rest))) : W p l e R s m args below meth c H locs cells slots Q (F0 m pc ls rest) :=
  va_ldcS X.1 X.2.1 X.2.2.2.1 (X.2.2.2.2.2.2.2.2.2.2.2.1.2.2.2.2.2.2.1 j hj) d k
theorem c_coder (l : Launch) (z : MS) {i : Nat} (hi : i < 14) : CT l yJ0_coder_7d493 cJ0_coder_7d493 1 (some .byte) 0 0 (fun _ sd => [.ref (sd (4 + i))]) z (some (.int 0)) z := by
  refine u_start RJ0 rfl (by decide) (fun _ _ => Nat.le_of_ble_eq_true rfl) (fun p e s m args below meth c R D ad cs sd A Q ls X hP hS hl hr hret => ?_)
  have hl : lv_has ls 1 [(0, .ref (sd (4 + i)))] := hl
  refine va_gets X.1 X.2.1 X.2.2.2.2.2.2.2.2.2.2.2.1.2.2.2.2.1 hS X.2.2.2.1 (X.2.2.2.2.1 _ kf_J0_38) (fun _ h => h) dJ0_coder_7d493_0 ?_
  refine u_if_eq 13 X dJ0_coder_7d493_3 rfl (fun hc => absurd hc (by decide)) (fun hc => ?_)
  refine u_aload_n X hl dJ0_coder_7d493_6 0 rfl ?_
  refine vk_getf X.1 X.2.1 (X.2.2.2.2.2.2.2.2.2.2.2.1.2.2.2.2.2.2.2.1 i hi).2.1 hS X.2.2.2.1 (X.2.2.2.2.1 _ kf_J0_15) (fun _ h => h) dJ0_coder_7d493_7 ?_
  refine u_goto 14 X dJ0_coder_7d493_10 rfl ?_
  exact hret _ _ _ hP hS (W.zret X.1 X.2.1 hr rfl (fun t ht _ => ⟨rfl, ht⟩) hS.2.2 dJ0_coder_7d493_14 X.2.2.2.2.2.2.2.1)
theorem c_isLatin1 (l : Launch) (z : MS) {i : Nat} (hi : i < 14) : CT l yJ0_isLatin1_aae02 cJ0_isLatin1_aae02 1 (some .boolean) 0 0 (fun _ sd => [.ref (sd (4 + i))]) z (some (.int 1)) z := by
  refine u_start RJ0 rfl (by decide) (fun _ _ => Nat.le_of_ble_eq_true rfl) (fun p e s m args below meth c R D ad cs sd A Q ls X hP hS hl hr hret => ?_)
  have hl : lv_has ls 1 [(0, .ref (sd (4 + i)))] := hl
  refine va_gets X.1 X.2.1 X.2.2.2.2.2.2.2.2.2.2.2.1.2.2.2.2.1 hS X.2.2.2.1 (X.2.2.2.2.1 _ kf_J0_38) (fun _ h => h) dJ0_isLatin1_aae02_0 ?_
  refine u_if_eq 17 X dJ0_isLatin1_aae02_3 rfl (fun hc => absurd hc (by decide)) (fun hc => ?_)
  refine u_aload_n X hl dJ0_isLatin1_aae02_6 0 rfl ?_
  refine vk_getf X.1 X.2.1 (X.2.2.2.2.2.2.2.2.2.2.2.1.2.2.2.2.2.2.2.1 i hi).2.1 hS X.2.2.2.1 (X.2.2.2.2.1 _ kf_J0_15) (fun _ h => h) dJ0_isLatin1_aae02_7 ?_
  refine u_if_ne 17 X dJ0_isLatin1_aae02_10 rfl (fun hc => absurd rfl hc) (fun hc => ?_)
  refine u_iconst (v := 1) X dJ0_isLatin1_aae02_13 rfl ?_
  refine u_goto 18 X dJ0_isLatin1_aae02_14 rfl ?_
  exact u_zret X hr hret hP hS (Or.inr rfl) dJ0_isLatin1_aae02_18
theorem c_strlen (l : Launch) (z : MS) {i : Nat} (hi : i < 14) : CT l yJ0_length_8abf5 cJ0_length_8abf5 1 (some .int) 1 20 (fun _ sd => [.ref (sd (4 + i))]) z (some (.int (sLen i))) z := by
  refine u_start RJ0 rfl (by decide) (fun _ _ => Nat.le_of_ble_eq_true rfl) (fun p e s m args below meth c R D ad cs sd A Q ls X hP hS hl hr hret => ?_)
  have hl : lv_has ls 1 [(0, .ref (sd (4 + i)))] := hl
  refine u_aload_n X hl dJ0_length_8abf5_0 0 rfl ?_
  refine vk_getf X.1 X.2.1 (X.2.2.2.2.2.2.2.2.2.2.2.1.2.2.2.2.2.2.2.1 i hi).2.2.1 hS X.2.2.2.1 (X.2.2.2.2.1 _ kf_J0_9) (fun _ h => h) dJ0_length_8abf5_1 ?_
  refine va_tlen X.1 X.2.1 (X.2.2.2.2.2.2.2.2.2.2.2.1.2.2.2.2.2.2.2.1 i hi).2.2.2 hS rfl dJ0_length_8abf5_4 ?_
  refine u_aload_n X hl dJ0_length_8abf5_5 0 rfl ?_
  refine u_callT X hP hS hl hi dJ0_length_8abf5_6 (c_coder l z hi) cw_J0_335 rfl rfl rfl rfl ⟨rfl, rfl⟩ (fun H locs hP hS => ?_)
  refine u_ishr X dJ0_length_8abf5_9 ?_
  exact u_iretT X hr hret (sLen_sh i hi) hP hS dJ0_length_8abf5_10
theorem c_precheck (l : Launch) (z : MS) (V : Value) (hV : V = .null ∨ ∃ t, V = .ref t) {j n : Int32} (h0 : ¬ j < 0) (h1 : j < n) : CT l yJ3_checkIndex_8e157 cJ3_checkIndex_8e157 3 (some .int) 0 0 (fun _ _ => [.int j, .int n, V]) z (some (.int j)) z := by
  refine u_start RJ3 rfl (by decide) (fun _ _ => by rcases hV with rfl | ⟨t, rfl⟩ <;> exact Nat.le_of_ble_eq_true rfl) (fun p e s m args below meth c R D ad cs sd A Q ls X hP hS hl hr hret => ?_)
  have hl : lv_has ls 3 [(0, .int j), (1, .int n)] := by
    rcases hV with rfl | ⟨t, rfl⟩
    · exact lv_sub (l := [(0, .int j), (1, .int n), (2, .null)]) hl [0, 1] rfl
    · exact lv_sub (l := [(0, .int j), (1, .int n), (2, .ref t)]) hl [0, 1] rfl
  refine u_iload_n X hl dJ3_checkIndex_8e157_0 0 rfl ?_
  refine u_if_lt 9 X dJ3_checkIndex_8e157_1 rfl (fun hc => absurd hc h0) (fun hc => ?_)
  refine u_iload_n X hl dJ3_checkIndex_8e157_4 0 rfl ?_
  refine u_iload_n X hl dJ3_checkIndex_8e157_5 1 rfl ?_
  refine u_icmp_lt 16 X dJ3_checkIndex_8e157_6 rfl (fun hc => ?_) (fun hc => absurd h1 hc)
  refine u_iload_n X hl dJ3_checkIndex_8e157_16 0 rfl ?_
  exact u_iret X hr hret hP hS dJ3_checkIndex_8e157_17
theorem c_scheck (l : Launch) (z : MS) {j n : Int32} (h0 : ¬ j < 0) (h1 : j < n) : CT l yJ0_checkIndex_df160 cJ0_checkIndex_df160 2 none 1 22 (fun _ _ => [.int j, .int n]) z none z := by
  refine u_start RJ0 rfl (by decide) (fun _ _ => Nat.le_of_ble_eq_true rfl) (fun p e s m args below meth c R D ad cs sd A Q ls X hP hS hl hr hret => ?_)
  have hl : lv_has ls 2 [(0, .int j), (1, .int n)] := hl
  refine u_iload_n X hl dJ0_checkIndex_df160_0 0 rfl ?_
  refine u_iload_n X hl dJ0_checkIndex_df160_1 1 rfl ?_
  rcases X.2.2.2.2.2.2.2.2.2.2.2.1.2.2.2.2.2.1 with hZ | ⟨t, hZ⟩
  · refine va_gets X.1 X.2.1 hZ hS X.2.2.2.1 (X.2.2.2.2.1 _ kf_J0_1053) (fun _ h => h) dJ0_checkIndex_df160_2 ?_
    refine u_callSi X hP hS hl dJ0_checkIndex_df160_5 (c_precheck l z .null (Or.inl rfl) h0 h1) cw_J0_1059 rfl rfl rfl rfl ⟨rfl, rfl⟩ (fun H locs hP hS => ?_)
    refine u_pop X rfl dJ0_checkIndex_df160_8 ?_
    exact u_vret X hr hret hP hS dJ0_checkIndex_df160_9
  · refine va_gets X.1 X.2.1 hZ hS X.2.2.2.1 (X.2.2.2.2.1 _ kf_J0_1053) (fun _ h => h) dJ0_checkIndex_df160_2 ?_
    refine u_callSi X hP hS hl dJ0_checkIndex_df160_5 (c_precheck l z (.ref t) (Or.inr ⟨t, rfl⟩) h0 h1) cw_J0_1059 rfl rfl rfl rfl ⟨rfl, rfl⟩ (fun H locs hP hS => ?_)
    refine u_pop X rfl dJ0_checkIndex_df160_8 ?_
    exact u_vret X hr hret hP hS dJ0_checkIndex_df160_9
theorem sj_lt {i : Nat} (hi : i < 14) {j : Int32} (hin : ¬ (j < 0 ∨ stL.getD i 0 ≤ j.toNatClampNeg)) : j < Int32.ofNat (stL.getD i 0) := by
  have h0 : ¬ j < 0 := fun h => hin (Or.inl h)
  have h1 : j.toNatClampNeg < stL.getD i 0 := Nat.not_le.mp fun h => hin (Or.inr h)
  have h2 := sLen_lt i hi
  obtain ⟨k, hk, rfl⟩ := nI_of h0
  rw [nI_clamp hk] at h1
  exact nI_lt h1 (by omega)
theorem c_lchar (l : Launch) (z : MS) {i : Nat} (hi : i < 14) {j : Int32} (hin : ¬ (j < 0 ∨ stL.getD i 0 ≤ j.toNatClampNeg)) : CT l yJ1_charAt_3b067 cJ1_charAt_3b067 2 (some .char) 2 43 (fun _ sd => [.ref (sd (18 + i)), .int j]) z (some (.int (sChr i j))) z := by
  refine u_start RJ1 rfl (by decide) (fun _ _ => Nat.le_of_ble_eq_true rfl) (fun p e s m args below meth c R D ad cs sd A Q ls X hP hS hl hr hret => ?_)
  have hl : lv_has ls 2 [(0, .ref (sd (18 + i))), (1, .int j)] := hl
  have hE := (X.2.2.2.2.2.2.2.2.2.2.2.1.2.2.2.2.2.2.2.1 i hi).2.2.2
  refine u_iload_n X hl dJ1_charAt_3b067_0 1 rfl ?_
  refine u_aload_n X hl dJ1_charAt_3b067_1 0 rfl ?_
  refine va_tlen X.1 X.2.1 hE hS rfl dJ1_charAt_3b067_2 ?_
  refine u_callSv X hP hS hl dJ1_charAt_3b067_3 (c_scheck l z (fun h => hin (Or.inl h)) (sj_lt hi hin)) cw_J1_9 rfl rfl rfl rfl ⟨rfl, rfl⟩ (fun H locs hP hS => ?_)
  refine u_aload_n X hl dJ1_charAt_3b067_6 0 rfl ?_
  refine u_iload_n X hl dJ1_charAt_3b067_7 1 rfl ?_
  refine va_tb X.1 X.2.1 hE hS hin rfl dJ1_charAt_3b067_8 ?_
  refine u_sipush (v := 255) X dJ1_charAt_3b067_9 rfl ?_
  refine u_iand X dJ1_charAt_3b067_12 ?_
  have hlt : j.toNatClampNeg < 10 := Nat.lt_trans (Nat.not_le.mp fun h => hin (Or.inr h)) (sLen_lt i hi)
  obtain ⟨e1, e2⟩ := sChr_ok i hi _ hlt
  refine lv_i2c X.1 X.2.1 dJ1_charAt_3b067_13 e1 ?_
  exact hret _ _ _ hP hS (W.zret X.1 X.2.1 hr e2 (fun t ht _ => ⟨rfl, ht⟩) hS.2.2 dJ1_charAt_3b067_14 X.2.2.2.2.2.2.2.1)
theorem c_charAt (l : Launch) (z : MS) {i : Nat} (hi : i < 14) {j : Int32} (hin : ¬ (j < 0 ∨ stL.getD i 0 ≤ j.toNatClampNeg)) : CT l yJ0_charAt_5068e cJ0_charAt_5068e 2 (some .char) 3 64 (fun _ sd => [.ref (sd (4 + i)), .int j]) z (some (.int (sChr i j))) z := by
  refine u_start RJ0 rfl (by decide) (fun _ _ => Nat.le_of_ble_eq_true rfl) (fun p e s m args below meth c R D ad cs sd A Q ls X hP hS hl hr hret => ?_)
  have hl : lv_has ls 2 [(0, .ref (sd (4 + i))), (1, .int j)] := hl
  refine u_aload_n X hl dJ0_charAt_5068e_0 0 rfl ?_
  refine u_callT X hP hS hl hi dJ0_charAt_5068e_1 (c_isLatin1 l z hi) cw_J0_492 rfl rfl rfl rfl ⟨rfl, rfl⟩ (fun H locs hP hS => ?_)
  refine u_if_eq 16 X dJ0_charAt_5068e_4 rfl (fun hc => absurd hc (by decide)) (fun hc => ?_)
  refine u_aload_n X hl dJ0_charAt_5068e_7 0 rfl ?_
  refine vk_getf X.1 X.2.1 (X.2.2.2.2.2.2.2.2.2.2.2.1.2.2.2.2.2.2.2.1 i hi).2.2.1 hS X.2.2.2.1 (X.2.2.2.2.1 _ kf_J0_9) (fun _ h => h) dJ0_charAt_5068e_8 ?_
  refine u_iload_n X hl dJ0_charAt_5068e_11 1 rfl ?_
  refine u_callSi X hP hS hl dJ0_charAt_5068e_12 (c_lchar l z hi hin) cw_J0_495 rfl rfl rfl rfl ⟨rfl, rfl⟩ (fun H locs hP hS => ?_)
  have hlt : j.toNatClampNeg < 10 := Nat.lt_trans (Nat.not_le.mp fun h => hin (Or.inr h)) (sLen_lt i hi)
  exact hret _ _ _ hP hS (W.zret X.1 X.2.1 hr (sChr_ok i hi _ hlt).2 (fun t ht _ => ⟨rfl, ht⟩) hS.2.2 dJ0_charAt_5068e_15 X.2.2.2.2.2.2.2.1)
theorem u_strlen {i index : Nat} {lv : List (Nat × Value)} (X : UC p s m args meth c cc nL own R fr lo D ad cs sd A) (hP : va_P D clss (wld cs ad z) H) (hS : va_S A s.heap H locs) (hl : lv_has ls nL lv) (hi : i < 14) (d : decode cc pc = .ok (.invokevirtual index, 3)) (hM : CWV own index RJ0 yJ0_length_8abf5 cJ0_length_8abf5 1 (some .int) 0) (hW : Nat.ble (rest.map fun v => v.category).sum 8 = true) (hR : Nat.ble 2 fr = true ∧ Nat.ble 40 lo = true)
    (k : ∀ (H : Heap) (locs : List Loc), va_P D clss (wld cs ad z) H → va_S A s.heap H locs → W p l e R s m args below meth c H locs 0 0 Q (F0 m (pc + 3) ls (.int (sLen i) :: rest))) : W p l e R s m args below meth c H locs 0 0 Q (F0 m pc ls (.ref (sd (4 + i)) :: rest)) :=
  u_callT X hP hS hl hi d (c_strlen l z hi) hM rfl rfl rfl hW hR k
theorem u_strchr {i index : Nat} {j : Int32} {lv : List (Nat × Value)} (X : UC p s m args meth c cc nL own R fr lo D ad cs sd A) (hP : va_P D clss (wld cs ad z) H) (hS : va_S A s.heap H locs) (hl : lv_has ls nL lv) (hi : i < 14) (hin : ¬ (j < 0 ∨ stL.getD i 0 ≤ j.toNatClampNeg)) (d : decode cc pc = .ok (.invokevirtual index, 3)) (hM : CWV own index RJ0 yJ0_charAt_5068e cJ0_charAt_5068e 2 (some .char) 1) (hW : Nat.ble (rest.map fun v => v.category).sum 8 = true) (hR : Nat.ble 4 fr = true ∧ Nat.ble 85 lo = true)
    (k : ∀ (H : Heap) (locs : List Loc), va_P D clss (wld cs ad z) H → va_S A s.heap H locs → W p l e R s m args below meth c H locs 0 0 Q (F0 m (pc + 3) ls (.int (sChr i j) :: rest))) : W p l e R s m args below meth c H locs 0 0 Q (F0 m pc ls (.int j :: .ref (sd (4 + i)) :: rest)) :=
  u_callT X hP hS hl hi d (c_charAt l z hi hin) hM rfl rfl rfl hW hR k
end USTR
def fTape_add_L3 (l1 : Int64) (l3 : Int32) : Nat → MS → Int32 → Option (Int32 × MS)
  | 0, _, _ => none
  | n + 1, z, l4 => if l3 ≤ l4 then some (gI z 8 2, z) else (if (gI z 8 2) < 0 ∨ 200 ≤ (gI z 8 2).toNatClampNeg then none else fTape_add_L3 l1 l3 n (pI (pI z 9 (gI z 8 2).toNatClampNeg (((jush l1 (8 * l4)).toInt32) &&& 255)) 8 2 ((gI (pI z 9 (gI z 8 2).toNatClampNeg (((jush l1 (8 * l4)).toInt32) &&& 255)) 8 2) + 1)) (l4 + 1))
def fTape_add (z : MS) (a0 : Int64) (a1 : Int32) : Option (Int32 × MS) :=
  fTape_add_L3 a0 a1 LF z 0
set_option maxRecDepth 4000 in
theorem cTape_add (l : Launch) {z : MS} {a0 : Int64} {a1 : Int32} {r : Int32} {z1 : MS} (h : fTape_add z a0 a1 = some (r, z1)) : CT l yX7_add cX7_add 5 (some .int) 0 0 (fun ad sd => [.ref (ad 8), .long a0, .int a1]) z (some (.int r)) z1 := by
  rw [fTape_add] at h
  refine u_start RX7 rfl (by decide) (fun _ _ => Nat.le_of_ble_eq_true rfl) (fun p e s m args below meth c R D ad cs sd A Q ls X hP hS hl hr hret => ?_)
  have hl : lv_has ls 5 [(0, .ref (ad 8)), (1, .long a0), (3, .int a1)] := hl
  refine u_iconst (v := 0) X dX7_add_0 rfl ?_
  refine u_istore [(4, .int 0), (0, .ref (ad 8)), (1, .long a0), (3, .int a1)] X hl dX7_add_1 (Nat.le_of_ble_eq_true rfl) rfl (fun ls hl => ?_)
  have L3 : ∀ (n : Nat) (H : Heap) (locs : List Loc) (ls : Array Slot) (z_3 : MS) (l4_3 : Int32), lv_has ls 5 [(0, .ref (ad 8)), (1, .long a0), (3, .int a1), (4, .int l4_3)] → va_P D clss (wld cs ad z_3) H → va_S A s.heap H locs → fTape_add_L3 a0 a1 n z_3 l4_3 = some (r, z1) → W p l e R s m args below meth c H locs 0 0 Q (F0 m 3 ls []) := by
    intro n
    induction n with
    | zero =>
      intro H locs ls z_3 l4_3 hl hP hS h
      rw [fTape_add_L3] at h
      cases h
    | succ n3 ih3 =>
      intro H locs ls z_3 l4_3 hl hP hS h
      rw [fTape_add_L3] at h
      refine u_iload X hl dX7_add_3 3 rfl ?_
      refine u_iload_n X hl dX7_add_5 2 rfl ?_
      refine u_icmp_ge 46 X dX7_add_6 rfl (fun hc => ?_) (fun hc => ?_)
      · rw [if_pos hc] at h
        refine u_aload_n X hl dX7_add_46 0 rfl ?_
        refine gf_X7_22_8 X hP dX7_add_47 ?_
        exact u_iretM X hr hret h hP hS dX7_add_50
      · rw [if_neg hc] at h
        refine u_aload_n X hl dX7_add_9 0 rfl ?_
        refine gf_X7_11_8 X hP dX7_add_10 ?_
        refine u_aload_n X hl dX7_add_13 0 rfl ?_
        refine gf_X7_22_8 X hP dX7_add_14 ?_
        refine u_lload_n X hl dX7_add_17 1 rfl ?_
        refine u_bipush (v := 8) X dX7_add_18 rfl ?_
        refine u_iload X hl dX7_add_20 3 rfl ?_
        refine u_imul X dX7_add_22 ?_
        refine u_lushr X dX7_add_23 ?_
        refine u_l2i X dX7_add_24 ?_
        refine u_sipush (v := 255) X dX7_add_25 rfl ?_
        refine u_iand X dX7_add_28 ?_
        obtain ⟨hin, h⟩ := ifn_inv h
        refine as_9 X hP hS rfl hin dX7_add_29 (fun H locs hP hS => ?_)
        refine u_aload_n X hl dX7_add_30 0 rfl ?_
        refine u_dup X rfl dX7_add_31 ?_
        refine gf_X7_22_8 X hP dX7_add_32 ?_
        refine u_iconst (v := 1) X dX7_add_35 rfl ?_
        refine u_iadd X dX7_add_36 ?_
        refine pf_X7_22_8 X hP hS dX7_add_37 (fun H locs hP hS => ?_)
        refine u_iinc [(4, .int (l4_3 + 1)), (0, .ref (ad 8)), (1, .long a0), (3, .int a1)] X hl dX7_add_40 3 rfl rfl (Nat.le_of_ble_eq_true rfl) rfl (fun ls hl => ?_)
        refine u_goto 3 X dX7_add_43 rfl ?_
        exact ih3 _ _ _ _ _ (lv_sub hl [1, 2, 3, 0] rfl) hP hS h
  exact L3 LF _ _ _ _ _ (lv_sub hl [1, 2, 3, 0] rfl) hP hS h
def fTape_skipBlanks_L0 : Nat → MS → Option MS
  | 0, _ => none
  | n + 1, z => if (gI z 8 2) ≤ (gI z 8 3) then some z else (if (gI z 8 3) < 0 ∨ 200 ≤ (gI z 8 3).toNatClampNeg then none else if (gI z 9 (gI z 8 3).toNatClampNeg) = 32 then fTape_skipBlanks_L0 n (pI z 8 3 ((gI z 8 3) + 1)) else some z)
def fTape_skipBlanks (z : MS) : Option MS :=
  fTape_skipBlanks_L0 LF z
set_option maxRecDepth 4000 in
theorem cTape_skipBlanks (l : Launch) {z : MS} {z1 : MS} (h : fTape_skipBlanks z = some z1) : CT l yX7_skipBlanks cX7_skipBlanks 1 none 0 0 (fun ad sd => [.ref (ad 8)]) z none z1 := by
  rw [fTape_skipBlanks] at h
  refine u_start RX7 rfl (by decide) (fun _ _ => Nat.le_of_ble_eq_true rfl) (fun p e s m args below meth c R D ad cs sd A Q ls X hP hS hl hr hret => ?_)
  have hl : lv_has ls 1 [(0, .ref (ad 8))] := hl
  have L0 : ∀ (n : Nat) (H : Heap) (locs : List Loc) (ls : Array Slot) (z_0 : MS), lv_has ls 1 [(0, .ref (ad 8))] → va_P D clss (wld cs ad z_0) H → va_S A s.heap H locs → fTape_skipBlanks_L0 n z_0 = some z1 → W p l e R s m args below meth c H locs 0 0 Q (F0 m 0 ls []) := by
    intro n
    induction n with
    | zero =>
      intro H locs ls z_0 hl hP hS h
      rw [fTape_skipBlanks_L0] at h
      cases h
    | succ n0 ih0 =>
      intro H locs ls z_0 hl hP hS h
      rw [fTape_skipBlanks_L0] at h
      refine u_aload_n X hl dX7_skipBlanks_0 0 rfl ?_
      refine gf_X7_26_8 X hP dX7_skipBlanks_1 ?_
      refine u_aload_n X hl dX7_skipBlanks_4 0 rfl ?_
      refine gf_X7_22_8 X hP dX7_skipBlanks_5 ?_
      refine u_icmp_ge 38 X dX7_skipBlanks_8 rfl (fun hc => ?_) (fun hc => ?_)
      · rw [if_pos hc] at h
        exact u_vretM X hr hret h hP hS dX7_skipBlanks_38
      · rw [if_neg hc] at h
        refine u_aload_n X hl dX7_skipBlanks_11 0 rfl ?_
        refine gf_X7_11_8 X hP dX7_skipBlanks_12 ?_
        refine u_aload_n X hl dX7_skipBlanks_15 0 rfl ?_
        refine gf_X7_26_8 X hP dX7_skipBlanks_16 ?_
        obtain ⟨hin, h⟩ := ifn_inv h
        refine ld_9 X hP rfl hin dX7_skipBlanks_19 ?_
        refine u_bipush (v := 32) X dX7_skipBlanks_20 rfl ?_
        refine u_icmp_ne 38 X dX7_skipBlanks_22 rfl (fun hc => ?_) (fun hc => ?_)
        · rw [if_neg hc] at h
          exact u_vretM X hr hret h hP hS dX7_skipBlanks_38
        · rw [if_pos hc] at h
          refine u_aload_n X hl dX7_skipBlanks_25 0 rfl ?_
          refine u_dup X rfl dX7_skipBlanks_26 ?_
          refine gf_X7_26_8 X hP dX7_skipBlanks_27 ?_
          refine u_iconst (v := 1) X dX7_skipBlanks_30 rfl ?_
          refine u_iadd X dX7_skipBlanks_31 ?_
          refine pf_X7_26_8 X hP hS dX7_skipBlanks_32 (fun H locs hP hS => ?_)
          refine u_goto 0 X dX7_skipBlanks_35 rfl ?_
          exact ih0 _ _ _ _ hl hP hS h
  exact L0 LF _ _ _ _ hl hP hS h
def fTape_endOfName_L5 (z : MS) : Nat → Int32 → Option Int32
  | 0, _ => none
  | n + 1, l1 => if (gI z 8 2) ≤ l1 then some l1 else (if l1 < 0 ∨ 200 ≤ l1.toNatClampNeg then none else if (gI z 9 l1.toNatClampNeg) < 97 then some l1 else (if l1 < 0 ∨ 200 ≤ l1.toNatClampNeg then none else if 122 < (gI z 9 l1.toNatClampNeg) then some l1 else fTape_endOfName_L5 z n (l1 + 1)))
def fTape_endOfName (z : MS) : Option Int32 :=
  fTape_endOfName_L5 z LF (gI z 8 3)
set_option maxRecDepth 4000 in
theorem cTape_endOfName (l : Launch) {z : MS} {r : Int32} (h : fTape_endOfName z = some r) : CT l yX7_endOfName cX7_endOfName 2 (some .int) 0 0 (fun ad sd => [.ref (ad 8)]) z (some (.int r)) z := by
  rw [fTape_endOfName] at h
  refine u_start RX7 rfl (by decide) (fun _ _ => Nat.le_of_ble_eq_true rfl) (fun p e s m args below meth c R D ad cs sd A Q ls X hP hS hl hr hret => ?_)
  have hl : lv_has ls 2 [(0, .ref (ad 8))] := hl
  refine u_aload_n X hl dX7_endOfName_0 0 rfl ?_
  refine gf_X7_26_8 X hP dX7_endOfName_1 ?_
  refine u_istore_n [(1, .int (gI z 8 3)), (0, .ref (ad 8))] X hl dX7_endOfName_4 (Nat.le_of_ble_eq_true rfl) rfl (fun ls hl => ?_)
  have L5 : ∀ (n : Nat) (H : Heap) (locs : List Loc) (ls : Array Slot) (l1_5 : Int32), lv_has ls 2 [(0, .ref (ad 8)), (1, .int l1_5)] → va_P D clss (wld cs ad z) H → va_S A s.heap H locs → fTape_endOfName_L5 z n l1_5 = some r → W p l e R s m args below meth c H locs 0 0 Q (F0 m 5 ls []) := by
    intro n
    induction n with
    | zero =>
      intro H locs ls l1_5 hl hP hS h
      rw [fTape_endOfName_L5] at h
      cases h
    | succ n5 ih5 =>
      intro H locs ls l1_5 hl hP hS h
      rw [fTape_endOfName_L5] at h
      refine u_iload_n X hl dX7_endOfName_5 1 rfl ?_
      refine u_aload_n X hl dX7_endOfName_6 0 rfl ?_
      refine gf_X7_22_8 X hP dX7_endOfName_7 ?_
      refine u_icmp_ge 41 X dX7_endOfName_10 rfl (fun hc => ?_) (fun hc => ?_)
      · rw [if_pos hc] at h
        refine u_iload_n X hl dX7_endOfName_41 1 rfl ?_
        exact u_iretP X hr hret h hP hS dX7_endOfName_42
      · rw [if_neg hc] at h
        refine u_aload_n X hl dX7_endOfName_13 0 rfl ?_
        refine gf_X7_11_8 X hP dX7_endOfName_14 ?_
        refine u_iload_n X hl dX7_endOfName_17 1 rfl ?_
        obtain ⟨hin, h⟩ := ifn_inv h
        refine ld_9 X hP rfl hin dX7_endOfName_18 ?_
        refine u_bipush (v := 97) X dX7_endOfName_19 rfl ?_
        refine u_icmp_lt 41 X dX7_endOfName_21 rfl (fun hc => ?_) (fun hc => ?_)
        · rw [if_pos hc] at h
          refine u_iload_n X hl dX7_endOfName_41 1 rfl ?_
          exact u_iretP X hr hret h hP hS dX7_endOfName_42
        · rw [if_neg hc] at h
          refine u_aload_n X hl dX7_endOfName_24 0 rfl ?_
          refine gf_X7_11_8 X hP dX7_endOfName_25 ?_
          refine u_iload_n X hl dX7_endOfName_28 1 rfl ?_
          obtain ⟨hin, h⟩ := ifn_inv h
          refine ld_9 X hP rfl hin dX7_endOfName_29 ?_
          refine u_bipush (v := 122) X dX7_endOfName_30 rfl ?_
          refine u_icmp_gt 41 X dX7_endOfName_32 rfl (fun hc => ?_) (fun hc => ?_)
          · rw [if_pos hc] at h
            refine u_iload_n X hl dX7_endOfName_41 1 rfl ?_
            exact u_iretP X hr hret h hP hS dX7_endOfName_42
          · rw [if_neg hc] at h
            refine u_iinc [(1, .int (l1_5 + 1)), (0, .ref (ad 8))] X hl dX7_endOfName_35 1 rfl rfl (Nat.le_of_ble_eq_true rfl) rfl (fun ls hl => ?_)
            refine u_goto 5 X dX7_endOfName_38 rfl ?_
            exact ih5 _ _ _ _ (lv_sub hl [1, 0] rfl) hP hS h
  exact L5 LF _ _ _ _ (lv_sub hl [1, 0] rfl) hP hS h
def fTape_fail (z : MS) (a0 : Int32) : Option MS :=
  if 0 ≤ (gI z 8 4) then some z else some (pI z 8 4 (mnI a0 (gI z 8 2)))
set_option maxRecDepth 4000 in
theorem cTape_fail (l : Launch) {z : MS} {a0 : Int32} {z1 : MS} (h : fTape_fail z a0 = some z1) : CT l yX7_fail cX7_fail 2 none 1 23 (fun ad sd => [.ref (ad 8), .int a0]) z none z1 := by
  rw [fTape_fail] at h
  refine u_start RX7 rfl (by decide) (fun _ _ => Nat.le_of_ble_eq_true rfl) (fun p e s m args below meth c R D ad cs sd A Q ls X hP hS hl hr hret => ?_)
  have hl : lv_has ls 2 [(0, .ref (ad 8)), (1, .int a0)] := hl
  refine u_aload_n X hl dX7_fail_0 0 rfl ?_
  refine gf_X7_29_8 X hP dX7_fail_1 ?_
  refine u_if_ge 19 X dX7_fail_4 rfl (fun hc => ?_) (fun hc => ?_)
  · rw [if_pos hc] at h
    exact u_vretM X hr hret h hP hS dX7_fail_19
  · rw [if_neg hc] at h
    refine u_aload_n X hl dX7_fail_7 0 rfl ?_
    refine u_iload_n X hl dX7_fail_8 1 rfl ?_
    refine u_aload_n X hl dX7_fail_9 0 rfl ?_
    refine gf_X7_22_8 X hP dX7_fail_10 ?_
    refine mw_X7_142 X hl dX7_fail_13 rfl ⟨rfl, rfl⟩ ?_
    refine pf_X7_29_8 X hP hS dX7_fail_16 (fun H locs hP hS => ?_)
    exact u_vretM X hr hret h hP hS dX7_fail_19
def fTape_readEnd_J37 (z : MS) : Option MS :=
  some (pI z 8 3 ((gI z 8 3) + 1))
def fTape_readEnd_J29 (z : MS) : Option MS :=
  Option.bind (fTape_fail z (gI z 8 3)) (fun zc34 => fTape_readEnd_J37 zc34)
def fTape_readEnd (z : MS) : Option MS :=
  Option.bind (fTape_skipBlanks z) (fun zc1 => if (gI zc1 8 2) ≤ (gI zc1 8 3) then fTape_readEnd_J29 zc1 else (if (gI zc1 8 3) < 0 ∨ 200 ≤ (gI zc1 8 3).toNatClampNeg then none else if (gI zc1 9 (gI zc1 8 3).toNatClampNeg) = 59 then fTape_readEnd_J37 zc1 else fTape_readEnd_J29 zc1))
set_option maxRecDepth 4000 in
theorem cTape_readEnd (l : Launch) {z : MS} {z1 : MS} (h : fTape_readEnd z = some z1) : CT l yX7_readEnd cX7_readEnd 1 none 2 44 (fun ad sd => [.ref (ad 8)]) z none z1 := by
  rw [fTape_readEnd] at h
  refine u_start RX7 rfl (by decide) (fun _ _ => Nat.le_of_ble_eq_true rfl) (fun p e s m args below meth c R D ad cs sd A Q ls X hP hS hl hr hret => ?_)
  have hl : lv_has ls 1 [(0, .ref (ad 8))] := hl
  refine u_aload_n X hl dX7_readEnd_0 0 rfl ?_
  obtain ⟨zc1, hc1, h⟩ := ob_inv h
  refine u_callVv X hP hS hl dX7_readEnd_1 (cTape_skipBlanks l hc1) cw_X7_39 io_8 rfl rfl rfl rfl ⟨rfl, rfl⟩ (fun H locs hP hS => ?_)
  refine u_aload_n X hl dX7_readEnd_4 0 rfl ?_
  refine gf_X7_26_8 X hP dX7_readEnd_5 ?_
  refine u_aload_n X hl dX7_readEnd_8 0 rfl ?_
  refine gf_X7_22_8 X hP dX7_readEnd_9 ?_
  have J37 : ∀ (H : Heap) (locs : List Loc) (ls : Array Slot) (z_37 : MS), lv_has ls 1 [(0, .ref (ad 8))] → va_P D clss (wld cs ad z_37) H → va_S A s.heap H locs → fTape_readEnd_J37 z_37 = some z1 → W p l e R s m args below meth c H locs 0 0 Q (F0 m 37 ls []) := by
    intro H locs ls z_37 hl hP hS h
    rw [fTape_readEnd_J37] at h
    refine u_aload_n X hl dX7_readEnd_37 0 rfl ?_
    refine u_dup X rfl dX7_readEnd_38 ?_
    refine gf_X7_26_8 X hP dX7_readEnd_39 ?_
    refine u_iconst (v := 1) X dX7_readEnd_42 rfl ?_
    refine u_iadd X dX7_readEnd_43 ?_
    refine pf_X7_26_8 X hP hS dX7_readEnd_44 (fun H locs hP hS => ?_)
    exact u_vretM X hr hret h hP hS dX7_readEnd_47
  have J29 : ∀ (H : Heap) (locs : List Loc) (ls : Array Slot), lv_has ls 1 [(0, .ref (ad 8))] → va_P D clss (wld cs ad zc1) H → va_S A s.heap H locs → fTape_readEnd_J29 zc1 = some z1 → W p l e R s m args below meth c H locs 0 0 Q (F0 m 29 ls []) := by
    intro H locs ls hl hP hS h
    rw [fTape_readEnd_J29] at h
    refine u_aload_n X hl dX7_readEnd_29 0 rfl ?_
    refine u_aload_n X hl dX7_readEnd_30 0 rfl ?_
    refine gf_X7_26_8 X hP dX7_readEnd_31 ?_
    obtain ⟨zc34, hc34, h⟩ := ob_inv h
    refine u_callVv X hP hS hl dX7_readEnd_34 (cTape_fail l hc34) cw_X7_64 io_8 rfl rfl rfl rfl ⟨rfl, rfl⟩ (fun H locs hP hS => ?_)
    exact J37 _ _ _ _ hl hP hS h
  refine u_icmp_ge 29 X dX7_readEnd_12 rfl (fun hc => ?_) (fun hc => ?_)
  · rw [if_pos hc] at h
    exact J29 _ _ _ hl hP hS h
  · rw [if_neg hc] at h
    refine u_aload_n X hl dX7_readEnd_15 0 rfl ?_
    refine gf_X7_11_8 X hP dX7_readEnd_16 ?_
    refine u_aload_n X hl dX7_readEnd_19 0 rfl ?_
    refine gf_X7_26_8 X hP dX7_readEnd_20 ?_
    obtain ⟨hin, h⟩ := ifn_inv h
    refine ld_9 X hP rfl hin dX7_readEnd_23 ?_
    refine u_bipush (v := 59) X dX7_readEnd_24 rfl ?_
    refine u_icmp_eq 37 X dX7_readEnd_26 rfl (fun hc => ?_) (fun hc => ?_)
    · rw [if_pos hc] at h
      exact J37 _ _ _ _ hl hP hS h
    · rw [if_neg hc] at h
      exact J29 _ _ _ hl hP hS h
def fTape_isDigit (a0 : Int32) : Int32 :=
  if a0 < 48 then 0 else (if 57 < a0 then 0 else 1)
theorem fTape_isDigit_b (a0 : Int32) : fTape_isDigit a0 = 0 ∨ fTape_isDigit a0 = 1 := by
  unfold fTape_isDigit
  (repeat' split) <;> first | with_reducible exact Or.inl rfl | with_reducible exact Or.inr rfl
set_option maxRecDepth 4000 in
theorem cTape_isDigit (l : Launch) (z : MS) (a0 : Int32) : CT l yX7_isDigit cX7_isDigit 1 (some .boolean) 0 0 (fun ad sd => [.int a0]) z (some (.int (fTape_isDigit a0))) z := by
  generalize h : fTape_isDigit a0 = r
  rw [fTape_isDigit] at h
  refine u_start RX7 rfl (by decide) (fun _ _ => Nat.le_of_ble_eq_true rfl) (fun p e s m args below meth c R D ad cs sd A Q ls X hP hS hl hr hret => ?_)
  have hl : lv_has ls 1 [(0, .int a0)] := hl
  refine u_iload_n X hl dX7_isDigit_0 0 rfl ?_
  refine u_bipush (v := 48) X dX7_isDigit_1 rfl ?_
  refine u_icmp_lt 16 X dX7_isDigit_3 rfl (fun hc => ?_) (fun hc => ?_)
  · rw [if_pos hc] at h
    refine u_iconst (v := 0) X dX7_isDigit_16 rfl ?_
    exact u_zretT X hr hret h hP hS (Or.inl rfl) dX7_isDigit_17
  · rw [if_neg hc] at h
    refine u_iload_n X hl dX7_isDigit_6 0 rfl ?_
    refine u_bipush (v := 57) X dX7_isDigit_7 rfl ?_
    refine u_icmp_gt 16 X dX7_isDigit_9 rfl (fun hc => ?_) (fun hc => ?_)
    · rw [if_pos hc] at h
      refine u_iconst (v := 0) X dX7_isDigit_16 rfl ?_
      exact u_zretT X hr hret h hP hS (Or.inl rfl) dX7_isDigit_17
    · rw [if_neg hc] at h
      refine u_iconst (v := 1) X dX7_isDigit_12 rfl ?_
      refine u_goto 17 X dX7_isDigit_13 rfl ?_
      exact u_zretT X hr hret h hP hS (Or.inr rfl) dX7_isDigit_17
def fTape_readNumber_J109 (z : MS) (l3 : Int32) (l4 : Int32) : Option (Int32 × MS) :=
  Option.bind (fTape_fail z l3) (fun zc111 => some (l4, zc111))
def fTape_readNumber_J77 (z : MS) (l1 : Int32) (l2 : Int32) (l3 : Int32) (l4 : Int32) : Option (Int32 × MS) :=
  if ((gI z 8 3) - l3) < 1 then fTape_readNumber_J109 z l3 l4 else (if 2 < ((gI z 8 3) - l3) then fTape_readNumber_J109 z l3 l4 else (if l1 < l4 then fTape_readNumber_J109 z l3 l4 else (if l4 = l2 then fTape_readNumber_J109 z l3 l4 else some (l4, z))))
def fTape_readNumber_L12 (l1 : Int32) (l2 : Int32) (l3 : Int32) : Nat → MS → Int32 → Option (Int32 × MS)
  | 0, _, _ => none
  | n + 1, z, l4 => if (gI z 8 2) ≤ (gI z 8 3) then fTape_readNumber_J77 z l1 l2 l3 l4 else (if (gI z 8 3) < 0 ∨ 200 ≤ (gI z 8 3).toNatClampNeg then none else if (fTape_isDigit (gI z 9 (gI z 8 3).toNatClampNeg)) = 0 then fTape_readNumber_J77 z l1 l2 l3 l4 else (if (gI z 8 3) < 0 ∨ 200 ≤ (gI z 8 3).toNatClampNeg then none else fTape_readNumber_L12 l1 l2 l3 n (pI z 8 3 ((gI z 8 3) + 1)) (mnI (((l4 * 10) + (gI z 9 (gI z 8 3).toNatClampNeg)) - 48) 1000)))
def fTape_readNumber (z : MS) (a0 : Int32) (a1 : Int32) : Option (Int32 × MS) :=
  Option.bind (fTape_skipBlanks z) (fun zc1 => fTape_readNumber_L12 a0 a1 (gI zc1 8 3) LF zc1 0)
set_option maxRecDepth 4000 in
theorem cTape_readNumber (l : Launch) {z : MS} {a0 : Int32} {a1 : Int32} {r : Int32} {z1 : MS} (h : fTape_readNumber z a0 a1 = some (r, z1)) : CT l yX7_readNumber cX7_readNumber 6 (some .int) 2 44 (fun ad sd => [.ref (ad 8), .int a0, .int a1]) z (some (.int r)) z1 := by
  rw [fTape_readNumber] at h
  refine u_start RX7 rfl (by decide) (fun _ _ => Nat.le_of_ble_eq_true rfl) (fun p e s m args below meth c R D ad cs sd A Q ls X hP hS hl hr hret => ?_)
  have hl : lv_has ls 6 [(0, .ref (ad 8)), (1, .int a0), (2, .int a1)] := hl
  refine u_aload_n X hl dX7_readNumber_0 0 rfl ?_
  obtain ⟨zc1, hc1, h⟩ := ob_inv h
  refine u_callVv X hP hS hl dX7_readNumber_1 (cTape_skipBlanks l hc1) cw_X7_39 io_8 rfl rfl rfl rfl ⟨rfl, rfl⟩ (fun H locs hP hS => ?_)
  refine u_aload_n X hl dX7_readNumber_4 0 rfl ?_
  refine gf_X7_26_8 X hP dX7_readNumber_5 ?_
  refine u_istore_n [(3, .int (gI zc1 8 3)), (0, .ref (ad 8)), (1, .int a0), (2, .int a1)] X hl dX7_readNumber_8 (Nat.le_of_ble_eq_true rfl) rfl (fun ls hl => ?_)
  refine u_iconst (v := 0) X dX7_readNumber_9 rfl ?_
  refine u_istore [(4, .int 0), (3, .int (gI zc1 8 3)), (0, .ref (ad 8)), (1, .int a0), (2, .int a1)] X hl dX7_readNumber_10 (Nat.le_of_ble_eq_true rfl) rfl (fun ls hl => ?_)
  have L12 : ∀ (n : Nat) (H : Heap) (locs : List Loc) (ls : Array Slot) (z_12 : MS) (l4_12 : Int32), lv_has ls 6 [(0, .ref (ad 8)), (1, .int a0), (2, .int a1), (3, .int (gI zc1 8 3)), (4, .int l4_12)] → va_P D clss (wld cs ad z_12) H → va_S A s.heap H locs → fTape_readNumber_L12 a0 a1 (gI zc1 8 3) n z_12 l4_12 = some (r, z1) → W p l e R s m args below meth c H locs 0 0 Q (F0 m 12 ls []) := by
    intro n
    induction n with
    | zero =>
      intro H locs ls z_12 l4_12 hl hP hS h
      rw [fTape_readNumber_L12] at h
      cases h
    | succ n12 ih12 =>
      intro H locs ls z_12 l4_12 hl hP hS h
      rw [fTape_readNumber_L12] at h
      refine u_aload_n X hl dX7_readNumber_12 0 rfl ?_
      refine gf_X7_26_8 X hP dX7_readNumber_13 ?_
      refine u_aload_n X hl dX7_readNumber_16 0 rfl ?_
      refine gf_X7_22_8 X hP dX7_readNumber_17 ?_
      have J77 : ∀ (H : Heap) (locs : List Loc) (ls : Array Slot), lv_has ls 6 [(0, .ref (ad 8)), (1, .int a0), (2, .int a1), (3, .int (gI zc1 8 3)), (4, .int l4_12)] → va_P D clss (wld cs ad z_12) H → va_S A s.heap H locs → fTape_readNumber_J77 z_12 a0 a1 (gI zc1 8 3) l4_12 = some (r, z1) → W p l e R s m args below meth c H locs 0 0 Q (F0 m 77 ls []) := by
        intro H locs ls hl hP hS h
        rw [fTape_readNumber_J77] at h
        refine u_aload_n X hl dX7_readNumber_77 0 rfl ?_
        refine gf_X7_26_8 X hP dX7_readNumber_78 ?_
        refine u_iload_n X hl dX7_readNumber_81 3 rfl ?_
        refine u_isub X dX7_readNumber_82 ?_
        refine u_istore [(5, .int ((gI z_12 8 3) - (gI zc1 8 3))), (0, .ref (ad 8)), (1, .int a0), (2, .int a1), (3, .int (gI zc1 8 3)), (4, .int l4_12)] X hl dX7_readNumber_83 (Nat.le_of_ble_eq_true rfl) rfl (fun ls hl => ?_)
        refine u_iload X hl dX7_readNumber_85 0 rfl ?_
        refine u_iconst (v := 1) X dX7_readNumber_87 rfl ?_
        have J109 : ∀ (H : Heap) (locs : List Loc) (ls : Array Slot), lv_has ls 6 [(0, .ref (ad 8)), (3, .int (gI zc1 8 3)), (4, .int l4_12)] → va_P D clss (wld cs ad z_12) H → va_S A s.heap H locs → fTape_readNumber_J109 z_12 (gI zc1 8 3) l4_12 = some (r, z1) → W p l e R s m args below meth c H locs 0 0 Q (F0 m 109 ls []) := by
          intro H locs ls hl hP hS h
          rw [fTape_readNumber_J109] at h
          refine u_aload_n X hl dX7_readNumber_109 0 rfl ?_
          refine u_iload_n X hl dX7_readNumber_110 1 rfl ?_
          obtain ⟨zc111, hc111, h⟩ := ob_inv h
          refine u_callVv X hP hS hl dX7_readNumber_111 (cTape_fail l hc111) cw_X7_64 io_8 rfl rfl rfl rfl ⟨rfl, rfl⟩ (fun H locs hP hS => ?_)
          refine u_iload X hl dX7_readNumber_114 2 rfl ?_
          exact u_iretM X hr hret h hP hS dX7_readNumber_116
        refine u_icmp_lt 109 X dX7_readNumber_88 rfl (fun hc => ?_) (fun hc => ?_)
        · rw [if_pos hc] at h
          exact J109 _ _ _ (lv_sub hl [1, 4, 5] rfl) hP hS h
        · rw [if_neg hc] at h
          refine u_iload X hl dX7_readNumber_91 0 rfl ?_
          refine u_iconst (v := 2) X dX7_readNumber_93 rfl ?_
          refine u_icmp_gt 109 X dX7_readNumber_94 rfl (fun hc => ?_) (fun hc => ?_)
          · rw [if_pos hc] at h
            exact J109 _ _ _ (lv_sub hl [1, 4, 5] rfl) hP hS h
          · rw [if_neg hc] at h
            refine u_iload X hl dX7_readNumber_97 5 rfl ?_
            refine u_iload_n X hl dX7_readNumber_99 2 rfl ?_
            refine u_icmp_gt 109 X dX7_readNumber_100 rfl (fun hc => ?_) (fun hc => ?_)
            · rw [if_pos hc] at h
              exact J109 _ _ _ (lv_sub hl [1, 4, 5] rfl) hP hS h
            · rw [if_neg hc] at h
              refine u_iload X hl dX7_readNumber_103 5 rfl ?_
              refine u_iload_n X hl dX7_readNumber_105 3 rfl ?_
              refine u_icmp_ne 114 X dX7_readNumber_106 rfl (fun hc => ?_) (fun hc => ?_)
              · rw [if_neg hc] at h
                refine u_iload X hl dX7_readNumber_114 5 rfl ?_
                exact u_iretM X hr hret h hP hS dX7_readNumber_116
              · rw [if_pos hc] at h
                exact J109 _ _ _ (lv_sub hl [1, 4, 5] rfl) hP hS h
      refine u_icmp_ge 77 X dX7_readNumber_20 rfl (fun hc => ?_) (fun hc => ?_)
      · rw [if_pos hc] at h
        exact J77 _ _ _ hl hP hS h
      · rw [if_neg hc] at h
        refine u_aload_n X hl dX7_readNumber_23 0 rfl ?_
        refine gf_X7_11_8 X hP dX7_readNumber_24 ?_
        refine u_aload_n X hl dX7_readNumber_27 0 rfl ?_
        refine gf_X7_26_8 X hP dX7_readNumber_28 ?_
        obtain ⟨hin, h⟩ := ifn_inv h
        refine ld_9 X hP rfl hin dX7_readNumber_31 ?_
        refine u_callSi X hP hS hl dX7_readNumber_32 (cTape_isDigit l z_12 (gI z_12 9 (gI z_12 8 3).toNatClampNeg)) cw_X7_138 rfl rfl rfl rfl ⟨rfl, rfl⟩ (fun H locs hP hS => ?_)
        refine u_if_eq 77 X dX7_readNumber_35 rfl (fun hc => ?_) (fun hc => ?_)
        · rw [if_pos hc] at h
          exact J77 _ _ _ hl hP hS h
        · rw [if_neg hc] at h
          refine u_iload X hl dX7_readNumber_38 4 rfl ?_
          refine u_bipush (v := 10) X dX7_readNumber_40 rfl ?_
          refine u_imul X dX7_readNumber_42 ?_
          refine u_aload_n X hl dX7_readNumber_43 0 rfl ?_
          refine gf_X7_11_8 X hP dX7_readNumber_44 ?_
          refine u_aload_n X hl dX7_readNumber_47 0 rfl ?_
          refine gf_X7_26_8 X hP dX7_readNumber_48 ?_
          obtain ⟨hin, h⟩ := ifn_inv h
          refine ld_9 X hP rfl hin dX7_readNumber_51 ?_
          refine u_iadd X dX7_readNumber_52 ?_
          refine u_bipush (v := 48) X dX7_readNumber_53 rfl ?_
          refine u_isub X dX7_readNumber_55 ?_
          refine u_sipush (v := 1000) X dX7_readNumber_56 rfl ?_
          refine mw_X7_142 X hl dX7_readNumber_59 rfl ⟨rfl, rfl⟩ ?_
          refine u_istore [(4, .int (mnI (((l4_12 * 10) + (gI z_12 9 (gI z_12 8 3).toNatClampNeg)) - 48) 1000)), (0, .ref (ad 8)), (1, .int a0), (2, .int a1), (3, .int (gI zc1 8 3))] X hl dX7_readNumber_62 (Nat.le_of_ble_eq_true rfl) rfl (fun ls hl => ?_)
          refine u_aload_n X hl dX7_readNumber_64 1 rfl ?_
          refine u_dup X rfl dX7_readNumber_65 ?_
          refine gf_X7_26_8 X hP dX7_readNumber_66 ?_
          refine u_iconst (v := 1) X dX7_readNumber_69 rfl ?_
          refine u_iadd X dX7_readNumber_70 ?_
          refine pf_X7_26_8 X hP hS dX7_readNumber_71 (fun H locs hP hS => ?_)
          refine u_goto 12 X dX7_readNumber_74 rfl ?_
          exact ih12 _ _ _ _ _ (lv_sub hl [1, 2, 3, 4, 0] rfl) hP hS h
  exact L12 LF _ _ _ _ _ (lv_sub hl [2, 3, 4, 1, 0] rfl) hP hS h
def fTape_readKin (z : MS) : Option MS :=
  ob2 (fTape_readNumber z ((gI z 10 0) - 1) (-1)) (fun w11 zc11 => ob2 (fTape_readNumber zc11 ((gI zc11 10 0) - 1) w11) (fun w26 zc26 => if 0 ≤ (gI zc26 8 4) then some zc26 else ob2 (fHouse10_setKin zc26 w11 w26 1) (fun w44 zc44 => some zc44)))
set_option maxRecDepth 4000 in
theorem cTape_readKin (l : Launch) {z : MS} {z1 : MS} (h : fTape_readKin z = some z1) : CT l yX7_readKin cX7_readKin 3 none 3 69 (fun ad sd => [.ref (ad 8)]) z none z1 := by
  rw [fTape_readKin] at h
  refine u_start RX7 rfl (by decide) (fun _ _ => Nat.le_of_ble_eq_true rfl) (fun p e s m args below meth c R D ad cs sd A Q ls X hP hS hl hr hret => ?_)
  have hl : lv_has ls 3 [(0, .ref (ad 8))] := hl
  refine u_aload_n X hl dX7_readKin_0 0 rfl ?_
  refine u_aload_n X hl dX7_readKin_1 0 rfl ?_
  refine gf_X7_18_8 X hP dX7_readKin_2 ?_
  refine gf_X7_61_10 X hP dX7_readKin_5 ?_
  refine u_iconst (v := 1) X dX7_readKin_8 rfl ?_
  refine u_isub X dX7_readKin_9 ?_
  refine u_iconst (v := (-1)) X dX7_readKin_10 rfl ?_
  obtain ⟨w11, zc11, hc11, h⟩ := ob2_inv h
  refine u_callVi X hP hS hl dX7_readKin_11 (cTape_readNumber l hc11) cw_X7_110 io_8 rfl rfl rfl rfl ⟨rfl, rfl⟩ (fun H locs hP hS => ?_)
  refine u_istore_n [(1, .int w11), (0, .ref (ad 8))] X hl dX7_readKin_14 (Nat.le_of_ble_eq_true rfl) rfl (fun ls hl => ?_)
  refine u_aload_n X hl dX7_readKin_15 1 rfl ?_
  refine u_aload_n X hl dX7_readKin_16 1 rfl ?_
  refine gf_X7_18_8 X hP dX7_readKin_17 ?_
  refine gf_X7_61_10 X hP dX7_readKin_20 ?_
  refine u_iconst (v := 1) X dX7_readKin_23 rfl ?_
  refine u_isub X dX7_readKin_24 ?_
  refine u_iload_n X hl dX7_readKin_25 0 rfl ?_
  obtain ⟨w26, zc26, hc26, h⟩ := ob2_inv h
  refine u_callVi X hP hS hl dX7_readKin_26 (cTape_readNumber l hc26) cw_X7_110 io_8 rfl rfl rfl rfl ⟨rfl, rfl⟩ (fun H locs hP hS => ?_)
  refine u_istore_n [(2, .int w26), (1, .int w11), (0, .ref (ad 8))] X hl dX7_readKin_29 (Nat.le_of_ble_eq_true rfl) rfl (fun ls hl => ?_)
  refine u_aload_n X hl dX7_readKin_30 2 rfl ?_
  refine gf_X7_29_8 X hP dX7_readKin_31 ?_
  refine u_if_ge 48 X dX7_readKin_34 rfl (fun hc => ?_) (fun hc => ?_)
  · rw [if_pos hc] at h
    exact u_vretM X hr hret h hP hS dX7_readKin_48
  · rw [if_neg hc] at h
    refine u_aload_n X hl dX7_readKin_37 2 rfl ?_
    refine gf_X7_18_8 X hP dX7_readKin_38 ?_
    refine u_iload_n X hl dX7_readKin_41 1 rfl ?_
    refine u_iload_n X hl dX7_readKin_42 0 rfl ?_
    refine u_iconst (v := 1) X dX7_readKin_43 rfl ?_
    obtain ⟨w44, zc44, hc44, h⟩ := ob2_inv h
    refine u_callVi X hP hS hl dX7_readKin_44 (cHouse10_setKin l hc44) cw_X7_114 io_10 rfl rfl rfl rfl ⟨rfl, rfl⟩ (fun H locs hP hS => ?_)
    refine u_pop X rfl dX7_readKin_47 ?_
    exact u_vretM X hr hret h hP hS dX7_readKin_48
def fTape_readTrust (z : MS) : Option MS :=
  ob2 (fTape_readNumber z ((gI z 10 0) - 1) (-1)) (fun w11 zc11 => ob2 (fTape_readNumber zc11 ((gI zc11 10 0) - 1) w11) (fun w26 zc26 => ob2 (fTape_readNumber zc26 9 (-1)) (fun w34 zc34 => if 0 ≤ (gI zc34 8 4) then some zc34 else (if (fHouse_pairOf w11 w26) < 0 ∨ 64 ≤ (fHouse_pairOf w11 w26).toNatClampNeg then none else some (pI zc34 13 (fHouse_pairOf w11 w26).toNatClampNeg w34)))))
set_option maxRecDepth 4000 in
theorem cTape_readTrust (l : Launch) {z : MS} {z1 : MS} (h : fTape_readTrust z = some z1) : CT l yX7_readTrust cX7_readTrust 4 none 3 69 (fun ad sd => [.ref (ad 8)]) z none z1 := by
  rw [fTape_readTrust] at h
  refine u_start RX7 rfl (by decide) (fun _ _ => Nat.le_of_ble_eq_true rfl) (fun p e s m args below meth c R D ad cs sd A Q ls X hP hS hl hr hret => ?_)
  have hl : lv_has ls 4 [(0, .ref (ad 8))] := hl
  refine u_aload_n X hl dX7_readTrust_0 0 rfl ?_
  refine u_aload_n X hl dX7_readTrust_1 0 rfl ?_
  refine gf_X7_18_8 X hP dX7_readTrust_2 ?_
  refine gf_X7_61_10 X hP dX7_readTrust_5 ?_
  refine u_iconst (v := 1) X dX7_readTrust_8 rfl ?_
  refine u_isub X dX7_readTrust_9 ?_
  refine u_iconst (v := (-1)) X dX7_readTrust_10 rfl ?_
  obtain ⟨w11, zc11, hc11, h⟩ := ob2_inv h
  refine u_callVi X hP hS hl dX7_readTrust_11 (cTape_readNumber l hc11) cw_X7_110 io_8 rfl rfl rfl rfl ⟨rfl, rfl⟩ (fun H locs hP hS => ?_)
  refine u_istore_n [(1, .int w11), (0, .ref (ad 8))] X hl dX7_readTrust_14 (Nat.le_of_ble_eq_true rfl) rfl (fun ls hl => ?_)
  refine u_aload_n X hl dX7_readTrust_15 1 rfl ?_
  refine u_aload_n X hl dX7_readTrust_16 1 rfl ?_
  refine gf_X7_18_8 X hP dX7_readTrust_17 ?_
  refine gf_X7_61_10 X hP dX7_readTrust_20 ?_
  refine u_iconst (v := 1) X dX7_readTrust_23 rfl ?_
  refine u_isub X dX7_readTrust_24 ?_
  refine u_iload_n X hl dX7_readTrust_25 0 rfl ?_
  obtain ⟨w26, zc26, hc26, h⟩ := ob2_inv h
  refine u_callVi X hP hS hl dX7_readTrust_26 (cTape_readNumber l hc26) cw_X7_110 io_8 rfl rfl rfl rfl ⟨rfl, rfl⟩ (fun H locs hP hS => ?_)
  refine u_istore_n [(2, .int w26), (1, .int w11), (0, .ref (ad 8))] X hl dX7_readTrust_29 (Nat.le_of_ble_eq_true rfl) rfl (fun ls hl => ?_)
  refine u_aload_n X hl dX7_readTrust_30 2 rfl ?_
  refine u_bipush (v := 9) X dX7_readTrust_31 rfl ?_
  refine u_iconst (v := (-1)) X dX7_readTrust_33 rfl ?_
  obtain ⟨w34, zc34, hc34, h⟩ := ob2_inv h
  refine u_callVi X hP hS hl dX7_readTrust_34 (cTape_readNumber l hc34) cw_X7_110 io_8 rfl rfl rfl rfl ⟨rfl, rfl⟩ (fun H locs hP hS => ?_)
  refine u_istore_n [(3, .int w34), (2, .int w26), (1, .int w11), (0, .ref (ad 8))] X hl dX7_readTrust_37 (Nat.le_of_ble_eq_true rfl) rfl (fun ls hl => ?_)
  refine u_aload_n X hl dX7_readTrust_38 3 rfl ?_
  refine gf_X7_29_8 X hP dX7_readTrust_39 ?_
  refine u_if_ge 59 X dX7_readTrust_42 rfl (fun hc => ?_) (fun hc => ?_)
  · rw [if_pos hc] at h
    exact u_vretM X hr hret h hP hS dX7_readTrust_59
  · rw [if_neg hc] at h
    refine u_aload_n X hl dX7_readTrust_45 3 rfl ?_
    refine gf_X7_18_8 X hP dX7_readTrust_46 ?_
    refine gf_X7_118_10 X hP dX7_readTrust_49 ?_
    refine u_iload_n X hl dX7_readTrust_52 2 rfl ?_
    refine u_iload_n X hl dX7_readTrust_53 1 rfl ?_
    refine u_callSi X hP hS hl dX7_readTrust_54 (cHouse_pairOf l zc34 w11 w26) cw_X7_121 rfl rfl rfl rfl ⟨rfl, rfl⟩ (fun H locs hP hS => ?_)
    refine u_iload_n X hl dX7_readTrust_57 0 rfl ?_
    obtain ⟨hin, h⟩ := ifn_inv h
    refine as_13 X hP hS rfl hin dX7_readTrust_58 (fun H locs hP hS => ?_)
    exact u_vretM X hr hret h hP hS dX7_readTrust_59
def fTape_stands_L17 (z : MS) (l1 : Nat) : Nat → Int32 → Option Int32
  | 0, _ => none
  | n + 1, l3 => if l1 < 14 then if (sLen l1) ≤ l3 then some 1 else (if ((gI z 8 3) + l3) < 0 ∨ 200 ≤ ((gI z 8 3) + l3).toNatClampNeg then none else if l1 < 14 then (if l3 < 0 ∨ stL.getD l1 0 ≤ l3.toNatClampNeg then none else if (gI z 9 ((gI z 8 3) + l3).toNatClampNeg) = (sChr l1 l3) then fTape_stands_L17 z l1 n (l3 + 1) else some 0) else none) else none
def fTape_stands (z : MS) (si : Nat) (a0 : Int32) : Option Int32 :=
  if si < 14 then if (a0 - (gI z 8 3)) = (sLen si) then fTape_stands_L17 z si LF 0 else some 0 else none
set_option maxRecDepth 4000 in
theorem cTape_stands (l : Launch) {z : MS} {si : Nat} {a0 : Int32} {r : Int32} (h : fTape_stands z si a0 = some r) : CT l yX7_stands cX7_stands 4 (some .boolean) 6 300 (fun ad sd => [.ref (ad 8), .ref (sd (4 + si)), .int a0]) z (some (.int r)) z := by
  rw [fTape_stands] at h
  refine u_start RX7 rfl (by decide) (fun _ _ => Nat.le_of_ble_eq_true rfl) (fun p e s m args below meth c R D ad cs sd A Q ls X hP hS hl hr hret => ?_)
  have hl : lv_has ls 4 [(0, .ref (ad 8)), (1, .ref (sd (4 + si))), (2, .int a0)] := hl
  refine u_iload_n X hl dX7_stands_0 2 rfl ?_
  refine u_aload_n X hl dX7_stands_1 0 rfl ?_
  refine gf_X7_26_8 X hP dX7_stands_2 ?_
  refine u_isub X dX7_stands_5 ?_
  refine u_aload_n X hl dX7_stands_6 1 rfl ?_
  obtain ⟨hi, h⟩ := ifs_inv h
  refine u_strlen X hP hS hl hi dX7_stands_7 cw_X7_147 rfl ⟨rfl, rfl⟩ (fun H locs hP hS => ?_)
  refine u_icmp_eq 15 X dX7_stands_10 rfl (fun hc => ?_) (fun hc => ?_)
  · rw [if_pos hc] at h
    refine u_iconst (v := 0) X dX7_stands_15 rfl ?_
    refine u_istore_n [(3, .int 0), (0, .ref (ad 8)), (1, .ref (sd (4 + si))), (2, .int a0)] X hl dX7_stands_16 (Nat.le_of_ble_eq_true rfl) rfl (fun ls hl => ?_)
    have L17 : ∀ (n : Nat) (H : Heap) (locs : List Loc) (ls : Array Slot) (l3_17 : Int32), lv_has ls 4 [(0, .ref (ad 8)), (1, .ref (sd (4 + si))), (3, .int l3_17)] → va_P D clss (wld cs ad z) H → va_S A s.heap H locs → fTape_stands_L17 z si n l3_17 = some r → W p l e R s m args below meth c H locs 0 0 Q (F0 m 17 ls []) := by
      intro n
      induction n with
      | zero =>
        intro H locs ls l3_17 hl hP hS h
        rw [fTape_stands_L17] at h
        cases h
      | succ n17 ih17 =>
        intro H locs ls l3_17 hl hP hS h
        rw [fTape_stands_L17] at h
        refine u_iload_n X hl dX7_stands_17 2 rfl ?_
        refine u_aload_n X hl dX7_stands_18 1 rfl ?_
        obtain ⟨hi, h⟩ := ifs_inv h
        refine u_strlen X hP hS hl hi dX7_stands_19 cw_X7_147 rfl ⟨rfl, rfl⟩ (fun H locs hP hS => ?_)
        refine u_icmp_ge 52 X dX7_stands_22 rfl (fun hc => ?_) (fun hc => ?_)
        · rw [if_pos hc] at h
          refine u_iconst (v := 1) X dX7_stands_52 rfl ?_
          exact u_zretP X hr hret h hP hS (Or.inr rfl) dX7_stands_53
        · rw [if_neg hc] at h
          refine u_aload_n X hl dX7_stands_25 0 rfl ?_
          refine gf_X7_11_8 X hP dX7_stands_26 ?_
          refine u_aload_n X hl dX7_stands_29 0 rfl ?_
          refine gf_X7_26_8 X hP dX7_stands_30 ?_
          refine u_iload_n X hl dX7_stands_33 2 rfl ?_
          refine u_iadd X dX7_stands_34 ?_
          obtain ⟨hin, h⟩ := ifn_inv h
          refine ld_9 X hP rfl hin dX7_stands_35 ?_
          refine u_aload_n X hl dX7_stands_36 1 rfl ?_
          refine u_iload_n X hl dX7_stands_37 2 rfl ?_
          obtain ⟨hi, h⟩ := ifs_inv h
          obtain ⟨hin, h⟩ := ifn_inv h
          refine u_strchr X hP hS hl hi hin dX7_stands_38 cw_X7_151 rfl ⟨rfl, rfl⟩ (fun H locs hP hS => ?_)
          refine u_icmp_eq 46 X dX7_stands_41 rfl (fun hc => ?_) (fun hc => ?_)
          · rw [if_pos hc] at h
            refine u_iinc [(3, .int (l3_17 + 1)), (0, .ref (ad 8)), (1, .ref (sd (4 + si)))] X hl dX7_stands_46 2 rfl rfl (Nat.le_of_ble_eq_true rfl) rfl (fun ls hl => ?_)
            refine u_goto 17 X dX7_stands_49 rfl ?_
            exact ih17 _ _ _ _ (lv_sub hl [1, 2, 0] rfl) hP hS h
          · rw [if_neg hc] at h
            refine u_iconst (v := 0) X dX7_stands_44 rfl ?_
            exact u_zretP X hr hret h hP hS (Or.inl rfl) dX7_stands_45
    exact L17 LF _ _ _ _ (lv_sub hl [1, 2, 0] rfl) hP hS h
  · rw [if_neg hc] at h
    refine u_iconst (v := 0) X dX7_stands_13 rfl ?_
    exact u_zretP X hr hret h hP hS (Or.inl rfl) dX7_stands_14
def fTape_readWord (z : MS) (si : Nat) : Option MS :=
  Option.bind (fTape_skipBlanks z) (fun zc1 => Option.bind (fTape_endOfName zc1) (fun w5 => Option.bind (fTape_stands zc1 si w5) (fun w12 => if w12 = 0 then Option.bind (fTape_fail zc1 (gI zc1 8 3)) (fun zc23 => some (pI zc23 8 3 w5)) else some (pI zc1 8 3 w5))))
set_option maxRecDepth 4000 in
theorem cTape_readWord (l : Launch) {z : MS} {si : Nat} {z1 : MS} (h : fTape_readWord z si = some z1) : CT l yX7_readWord cX7_readWord 3 none 7 323 (fun ad sd => [.ref (ad 8), .ref (sd (4 + si))]) z none z1 := by
  rw [fTape_readWord] at h
  refine u_start RX7 rfl (by decide) (fun _ _ => Nat.le_of_ble_eq_true rfl) (fun p e s m args below meth c R D ad cs sd A Q ls X hP hS hl hr hret => ?_)
  have hl : lv_has ls 3 [(0, .ref (ad 8)), (1, .ref (sd (4 + si)))] := hl
  refine u_aload_n X hl dX7_readWord_0 0 rfl ?_
  obtain ⟨zc1, hc1, h⟩ := ob_inv h
  refine u_callVv X hP hS hl dX7_readWord_1 (cTape_skipBlanks l hc1) cw_X7_39 io_8 rfl rfl rfl rfl ⟨rfl, rfl⟩ (fun H locs hP hS => ?_)
  refine u_aload_n X hl dX7_readWord_4 0 rfl ?_
  obtain ⟨w5, hc5, h⟩ := ob_inv h
  refine u_callVi X hP hS hl dX7_readWord_5 (cTape_endOfName l hc5) cw_X7_49 io_8 rfl rfl rfl rfl ⟨rfl, rfl⟩ (fun H locs hP hS => ?_)
  refine u_istore_n [(2, .int w5), (0, .ref (ad 8)), (1, .ref (sd (4 + si)))] X hl dX7_readWord_8 (Nat.le_of_ble_eq_true rfl) rfl (fun ls hl => ?_)
  refine u_aload_n X hl dX7_readWord_9 1 rfl ?_
  refine u_aload_n X hl dX7_readWord_10 2 rfl ?_
  refine u_iload_n X hl dX7_readWord_11 0 rfl ?_
  obtain ⟨w12, hc12, h⟩ := ob_inv h
  refine u_callVi X hP hS hl dX7_readWord_12 (cTape_stands l hc12) cw_X7_57 io_8 rfl rfl rfl rfl ⟨rfl, rfl⟩ (fun H locs hP hS => ?_)
  refine u_if_ne 26 X dX7_readWord_15 rfl (fun hc => ?_) (fun hc => ?_)
  · rw [if_neg hc] at h
    refine u_aload_n X hl dX7_readWord_26 1 rfl ?_
    refine u_iload_n X hl dX7_readWord_27 0 rfl ?_
    refine pf_X7_26_8 X hP hS dX7_readWord_28 (fun H locs hP hS => ?_)
    exact u_vretM X hr hret h hP hS dX7_readWord_31
  · rw [if_pos hc] at h
    refine u_aload_n X hl dX7_readWord_18 1 rfl ?_
    refine u_aload_n X hl dX7_readWord_19 1 rfl ?_
    refine gf_X7_26_8 X hP dX7_readWord_20 ?_
    obtain ⟨zc23, hc23, h⟩ := ob_inv h
    refine u_callVv X hP hS hl dX7_readWord_23 (cTape_fail l hc23) cw_X7_64 io_8 rfl rfl rfl rfl ⟨rfl, rfl⟩ (fun H locs hP hS => ?_)
    refine u_aload_n X hl dX7_readWord_26 1 rfl ?_
    refine u_iload_n X hl dX7_readWord_27 0 rfl ?_
    refine pf_X7_26_8 X hP hS dX7_readWord_28 (fun H locs hP hS => ?_)
    exact u_vretM X hr hret h hP hS dX7_readWord_31
def fTape_readAway_J93 (z : MS) (K25 : MS → Int32 → Int32 → Option MS) (l3 : Int32) (s0 : Int32) : Option MS :=
  if s0 = 0 then K25 z s0 (l3 + 1) else Option.bind (fTape_readWord z 13) (fun zc101 => K25 zc101 s0 (l3 + 1))
def fTape_readAway_J92 (z : MS) (K25 : MS → Int32 → Int32 → Option MS) (l3 : Int32) : Option MS :=
  fTape_readAway_J93 z K25 l3 0
def fTape_readAway_J64 (z : MS) (K25 : MS → Int32 → Int32 → Option MS) (l3 : Int32) : Option MS :=
  Option.bind (fTape_skipBlanks z) (fun zc65 => if 0 ≤ (gI zc65 8 4) then fTape_readAway_J92 zc65 K25 l3 else Option.bind (fTape_endOfName zc65) (fun w79 => Option.bind (fTape_stands zc65 13 w79) (fun w82 => if w82 = 0 then fTape_readAway_J92 zc65 K25 l3 else fTape_readAway_J93 zc65 K25 l3 1)))
def fTape_readAway_L25 (l1 : Int32) : Nat → MS → Int32 → Int32 → Option MS
  | 0, _, _, _ => none
  | n + 1, z, l2, l3 => if 200 ≤ l3 then some z else (if l2 = 0 then some z else ob2 (fTape_readNumber z 9 (-1)) (fun w40 zc40 => if 0 ≤ (gI zc40 8 4) then fTape_readAway_J64 zc40 (fTape_readAway_L25 l1 n) l3 else ob2 (fHouse10_setAway zc40 l1 w40 1) (fun w60 zc60 => fTape_readAway_J64 zc60 (fTape_readAway_L25 l1 n) l3)))
def fTape_readAway (z : MS) : Option MS :=
  ob2 (fTape_readNumber z ((gI z 10 0) - 1) (-1)) (fun w11 zc11 => Option.bind (fTape_readWord zc11 12) (fun zc18 => fTape_readAway_L25 w11 LF zc18 1 0))
set_option maxRecDepth 4000 in
theorem cTape_readAway (l : Launch) {z : MS} {z1 : MS} (h : fTape_readAway z = some z1) : CT l yX7_readAway cX7_readAway 5 none 8 345 (fun ad sd => [.ref (ad 8)]) z none z1 := by
  rw [fTape_readAway] at h
  refine u_start RX7 rfl (by decide) (fun _ _ => Nat.le_of_ble_eq_true rfl) (fun p e s m args below meth c R D ad cs sd A Q ls X hP hS hl hr hret => ?_)
  have hl : lv_has ls 5 [(0, .ref (ad 8))] := hl
  refine u_aload_n X hl dX7_readAway_0 0 rfl ?_
  refine u_aload_n X hl dX7_readAway_1 0 rfl ?_
  refine gf_X7_18_8 X hP dX7_readAway_2 ?_
  refine gf_X7_61_10 X hP dX7_readAway_5 ?_
  refine u_iconst (v := 1) X dX7_readAway_8 rfl ?_
  refine u_isub X dX7_readAway_9 ?_
  refine u_iconst (v := (-1)) X dX7_readAway_10 rfl ?_
  obtain ⟨w11, zc11, hc11, h⟩ := ob2_inv h
  refine u_callVi X hP hS hl dX7_readAway_11 (cTape_readNumber l hc11) cw_X7_110 io_8 rfl rfl rfl rfl ⟨rfl, rfl⟩ (fun H locs hP hS => ?_)
  refine u_istore_n [(1, .int w11), (0, .ref (ad 8))] X hl dX7_readAway_14 (Nat.le_of_ble_eq_true rfl) rfl (fun ls hl => ?_)
  refine u_aload_n X hl dX7_readAway_15 1 rfl ?_
  refine u_ldcS 12 (by decide) X dX7_readAway_16 ?_
  obtain ⟨zc18, hc18, h⟩ := ob_inv h
  refine u_callVv X hP hS hl dX7_readAway_18 (cTape_readWord l hc18) cw_X7_126 io_8 rfl rfl rfl rfl ⟨rfl, rfl⟩ (fun H locs hP hS => ?_)
  refine u_iconst (v := 1) X dX7_readAway_21 rfl ?_
  refine u_istore_n [(2, .int 1), (1, .int w11), (0, .ref (ad 8))] X hl dX7_readAway_22 (Nat.le_of_ble_eq_true rfl) rfl (fun ls hl => ?_)
  refine u_iconst (v := 0) X dX7_readAway_23 rfl ?_
  refine u_istore_n [(3, .int 0), (2, .int 1), (1, .int w11), (0, .ref (ad 8))] X hl dX7_readAway_24 (Nat.le_of_ble_eq_true rfl) rfl (fun ls hl => ?_)
  have L25 : ∀ (n : Nat) (H : Heap) (locs : List Loc) (ls : Array Slot) (z_25 : MS) (l2_25 : Int32) (l3_25 : Int32), lv_has ls 5 [(0, .ref (ad 8)), (1, .int w11), (2, .int l2_25), (3, .int l3_25)] → va_P D clss (wld cs ad z_25) H → va_S A s.heap H locs → fTape_readAway_L25 w11 n z_25 l2_25 l3_25 = some z1 → W p l e R s m args below meth c H locs 0 0 Q (F0 m 25 ls []) := by
    intro n
    induction n with
    | zero =>
      intro H locs ls z_25 l2_25 l3_25 hl hP hS h
      rw [fTape_readAway_L25] at h
      cases h
    | succ n25 ih25 =>
      intro H locs ls z_25 l2_25 l3_25 hl hP hS h
      rw [fTape_readAway_L25] at h
      refine u_iload_n X hl dX7_readAway_25 3 rfl ?_
      refine u_sipush (v := 200) X dX7_readAway_26 rfl ?_
      refine u_icmp_ge 110 X dX7_readAway_29 rfl (fun hc => ?_) (fun hc => ?_)
      · rw [if_pos hc] at h
        exact u_vretM X hr hret h hP hS dX7_readAway_110
      · rw [if_neg hc] at h
        refine u_iload_n X hl dX7_readAway_32 2 rfl ?_
        refine u_if_eq 110 X dX7_readAway_33 rfl (fun hc => ?_) (fun hc => ?_)
        · rw [if_pos hc] at h
          exact u_vretM X hr hret h hP hS dX7_readAway_110
        · rw [if_neg hc] at h
          refine u_aload_n X hl dX7_readAway_36 0 rfl ?_
          refine u_bipush (v := 9) X dX7_readAway_37 rfl ?_
          refine u_iconst (v := (-1)) X dX7_readAway_39 rfl ?_
          obtain ⟨w40, zc40, hc40, h⟩ := ob2_inv h
          refine u_callVi X hP hS hl dX7_readAway_40 (cTape_readNumber l hc40) cw_X7_110 io_8 rfl rfl rfl rfl ⟨rfl, rfl⟩ (fun H locs hP hS => ?_)
          refine u_istore [(4, .int w40), (0, .ref (ad 8)), (1, .int w11), (2, .int l2_25), (3, .int l3_25)] X hl dX7_readAway_43 (Nat.le_of_ble_eq_true rfl) rfl (fun ls hl => ?_)
          refine u_aload_n X hl dX7_readAway_45 1 rfl ?_
          refine gf_X7_29_8 X hP dX7_readAway_46 ?_
          have J64 : ∀ (H : Heap) (locs : List Loc) (ls : Array Slot) (z_64 : MS), lv_has ls 5 [(0, .ref (ad 8)), (1, .int w11), (3, .int l3_25)] → va_P D clss (wld cs ad z_64) H → va_S A s.heap H locs → fTape_readAway_J64 z_64 (fTape_readAway_L25 w11 n25) l3_25 = some z1 → W p l e R s m args below meth c H locs 0 0 Q (F0 m 64 ls []) := by
            intro H locs ls z_64 hl hP hS h
            rw [fTape_readAway_J64] at h
            refine u_aload_n X hl dX7_readAway_64 0 rfl ?_
            obtain ⟨zc65, hc65, h⟩ := ob_inv h
            refine u_callVv X hP hS hl dX7_readAway_65 (cTape_skipBlanks l hc65) cw_X7_39 io_8 rfl rfl rfl rfl ⟨rfl, rfl⟩ (fun H locs hP hS => ?_)
            refine u_aload_n X hl dX7_readAway_68 0 rfl ?_
            refine gf_X7_29_8 X hP dX7_readAway_69 ?_
            have J93 : ∀ (H : Heap) (locs : List Loc) (ls : Array Slot) (s0_93 : Int32), lv_has ls 5 [(0, .ref (ad 8)), (1, .int w11), (3, .int l3_25)] → va_P D clss (wld cs ad zc65) H → va_S A s.heap H locs → fTape_readAway_J93 zc65 (fTape_readAway_L25 w11 n25) l3_25 s0_93 = some z1 → W p l e R s m args below meth c H locs 0 0 Q (F0 m 93 ls [.int s0_93]) := by
              intro H locs ls s0_93 hl hP hS h
              rw [fTape_readAway_J93] at h
              refine u_istore_n [(2, .int s0_93), (0, .ref (ad 8)), (1, .int w11), (3, .int l3_25)] X hl dX7_readAway_93 (Nat.le_of_ble_eq_true rfl) rfl (fun ls hl => ?_)
              refine u_iload_n X hl dX7_readAway_94 0 rfl ?_
              refine u_if_eq 104 X dX7_readAway_95 rfl (fun hc => ?_) (fun hc => ?_)
              · rw [if_pos hc] at h
                refine u_iinc [(3, .int (l3_25 + 1)), (2, .int s0_93), (0, .ref (ad 8)), (1, .int w11)] X hl dX7_readAway_104 3 rfl rfl (Nat.le_of_ble_eq_true rfl) rfl (fun ls hl => ?_)
                refine u_goto 25 X dX7_readAway_107 rfl ?_
                exact ih25 _ _ _ _ _ _ (lv_sub hl [2, 3, 1, 0] rfl) hP hS h
              · rw [if_neg hc] at h
                refine u_aload_n X hl dX7_readAway_98 1 rfl ?_
                refine u_ldcS 13 (by decide) X dX7_readAway_99 ?_
                obtain ⟨zc101, hc101, h⟩ := ob_inv h
                refine u_callVv X hP hS hl dX7_readAway_101 (cTape_readWord l hc101) cw_X7_126 io_8 rfl rfl rfl rfl ⟨rfl, rfl⟩ (fun H locs hP hS => ?_)
                refine u_iinc [(3, .int (l3_25 + 1)), (2, .int s0_93), (0, .ref (ad 8)), (1, .int w11)] X hl dX7_readAway_104 3 rfl rfl (Nat.le_of_ble_eq_true rfl) rfl (fun ls hl => ?_)
                refine u_goto 25 X dX7_readAway_107 rfl ?_
                exact ih25 _ _ _ _ _ _ (lv_sub hl [2, 3, 1, 0] rfl) hP hS h
            have J92 : ∀ (H : Heap) (locs : List Loc) (ls : Array Slot), lv_has ls 5 [(0, .ref (ad 8)), (1, .int w11), (3, .int l3_25)] → va_P D clss (wld cs ad zc65) H → va_S A s.heap H locs → fTape_readAway_J92 zc65 (fTape_readAway_L25 w11 n25) l3_25 = some z1 → W p l e R s m args below meth c H locs 0 0 Q (F0 m 92 ls []) := by
              intro H locs ls hl hP hS h
              rw [fTape_readAway_J92] at h
              refine u_iconst (v := 0) X dX7_readAway_92 rfl ?_
              exact J93 _ _ _ _ hl hP hS h
            refine u_if_ge 92 X dX7_readAway_72 rfl (fun hc => ?_) (fun hc => ?_)
            · rw [if_pos hc] at h
              exact J92 _ _ _ hl hP hS h
            · rw [if_neg hc] at h
              refine u_aload_n X hl dX7_readAway_75 0 rfl ?_
              refine u_ldcS 13 (by decide) X dX7_readAway_76 ?_
              refine u_aload_n X hl dX7_readAway_78 0 rfl ?_
              obtain ⟨w79, hc79, h⟩ := ob_inv h
              refine u_callVi X hP hS hl dX7_readAway_79 (cTape_endOfName l hc79) cw_X7_49 io_8 rfl rfl rfl rfl ⟨rfl, rfl⟩ (fun H locs hP hS => ?_)
              obtain ⟨w82, hc82, h⟩ := ob_inv h
              refine u_callVi X hP hS hl dX7_readAway_82 (cTape_stands l hc82) cw_X7_57 io_8 rfl rfl rfl rfl ⟨rfl, rfl⟩ (fun H locs hP hS => ?_)
              refine u_if_eq 92 X dX7_readAway_85 rfl (fun hc => ?_) (fun hc => ?_)
              · rw [if_pos hc] at h
                exact J92 _ _ _ hl hP hS h
              · rw [if_neg hc] at h
                refine u_iconst (v := 1) X dX7_readAway_88 rfl ?_
                refine u_goto 93 X dX7_readAway_89 rfl ?_
                exact J93 _ _ _ _ hl hP hS h
          refine u_if_ge 64 X dX7_readAway_49 rfl (fun hc => ?_) (fun hc => ?_)
          · rw [if_pos hc] at h
            exact J64 _ _ _ _ (lv_sub hl [1, 2, 4] rfl) hP hS h
          · rw [if_neg hc] at h
            refine u_aload_n X hl dX7_readAway_52 1 rfl ?_
            refine gf_X7_18_8 X hP dX7_readAway_53 ?_
            refine u_iload_n X hl dX7_readAway_56 2 rfl ?_
            refine u_iload X hl dX7_readAway_57 0 rfl ?_
            refine u_iconst (v := 1) X dX7_readAway_59 rfl ?_
            obtain ⟨w60, zc60, hc60, h⟩ := ob2_inv h
            refine u_callVi X hP hS hl dX7_readAway_60 (cHouse10_setAway l hc60) cw_X7_130 io_10 rfl rfl rfl rfl ⟨rfl, rfl⟩ (fun H locs hP hS => ?_)
            refine u_pop X rfl dX7_readAway_63 ?_
            exact J64 _ _ _ _ (lv_sub hl [1, 2, 4] rfl) hP hS h
  exact L25 LF _ _ _ _ _ _ (lv_sub hl [3, 2, 1, 0] rfl) hP hS h
def fTape_readLaw (z : MS) (a0 : Int32) : Option MS :=
  if a0 < 0 ∨ 8 ≤ a0.toNatClampNeg then none else ob2 (fTape_readNumber z (cST1.getD a0.toNatClampNeg 0) (-1)) (fun w7 zc7 => if 0 ≤ (gI zc7 8 4) then some zc7 else (if a0 < 0 ∨ 8 ≤ a0.toNatClampNeg then none else some (pI zc7 14 a0.toNatClampNeg w7)))
set_option maxRecDepth 4000 in
theorem cTape_readLaw (l : Launch) {z : MS} {a0 : Int32} {z1 : MS} (h : fTape_readLaw z a0 = some z1) : CT l yX7_readLaw cX7_readLaw 3 none 3 69 (fun ad sd => [.ref (ad 8), .int a0]) z none z1 := by
  rw [fTape_readLaw] at h
  refine u_start RX7 rfl (by decide) (fun _ _ => Nat.le_of_ble_eq_true rfl) (fun p e s m args below meth c R D ad cs sd A Q ls X hP hS hl hr hret => ?_)
  have hl : lv_has ls 3 [(0, .ref (ad 8)), (1, .int a0)] := hl
  refine u_aload_n X hl dX7_readLaw_0 0 rfl ?_
  refine gs_X7_135 X hS dX7_readLaw_1 ?_
  refine u_iload_n X hl dX7_readLaw_4 1 rfl ?_
  obtain ⟨hin, h⟩ := ifn_inv h
  refine u_tald1 X hS hin dX7_readLaw_5 ?_
  refine u_iconst (v := (-1)) X dX7_readLaw_6 rfl ?_
  obtain ⟨w7, zc7, hc7, h⟩ := ob2_inv h
  refine u_callVi X hP hS hl dX7_readLaw_7 (cTape_readNumber l hc7) cw_X7_110 io_8 rfl rfl rfl rfl ⟨rfl, rfl⟩ (fun H locs hP hS => ?_)
  refine u_istore_n [(2, .int w7), (0, .ref (ad 8)), (1, .int a0)] X hl dX7_readLaw_10 (Nat.le_of_ble_eq_true rfl) rfl (fun ls hl => ?_)
  refine u_aload_n X hl dX7_readLaw_11 1 rfl ?_
  refine gf_X7_29_8 X hP dX7_readLaw_12 ?_
  refine u_if_ge 28 X dX7_readLaw_15 rfl (fun hc => ?_) (fun hc => ?_)
  · rw [if_pos hc] at h
    exact u_vretM X hr hret h hP hS dX7_readLaw_28
  · rw [if_neg hc] at h
    refine u_aload_n X hl dX7_readLaw_18 1 rfl ?_
    refine gf_X7_18_8 X hP dX7_readLaw_19 ?_
    refine gf_X7_32_10 X hP dX7_readLaw_22 ?_
    refine u_iload_n X hl dX7_readLaw_25 2 rfl ?_
    refine u_iload_n X hl dX7_readLaw_26 0 rfl ?_
    obtain ⟨hin, h⟩ := ifn_inv h
    refine as_14 X hP hS rfl hin dX7_readLaw_27 (fun H locs hP hS => ?_)
    exact u_vretM X hr hret h hP hS dX7_readLaw_28
def fTape_nameOf (a0 : Int32) : Nat :=
  if a0 = 0 then 0 else if a0 = 1 then 1 else if a0 = 2 then 2 else if a0 = 3 then 3 else if a0 = 4 then 4 else if a0 = 5 then 5 else if a0 = 6 then 6 else if a0 = 7 then 7 else if a0 = 8 then 8 else if a0 = 9 then 9 else if a0 = 10 then 10 else 11
set_option maxRecDepth 4000 in
theorem cTape_nameOf (l : Launch) (z : MS) (a0 : Int32) : CTS l yX7_nameOf cX7_nameOf 1 (some (.object "java/lang/String")) 0 0 (fun ad sd => [.int a0]) z (fun sd => some (.ref (sd (4 + (fTape_nameOf a0))))) z := by
  generalize h : fTape_nameOf a0 = r
  rw [fTape_nameOf] at h
  refine u_startS RX7 rfl (by decide) (fun _ _ => Nat.le_of_ble_eq_true rfl) (fun p e s m args below meth c R D ad cs sd A Q ls X hP hS hl hr hret => ?_)
  have hl : lv_has ls 1 [(0, .int a0)] := hl
  refine u_iload_n X hl dX7_nameOf_0 0 rfl ?_
  by_cases hc0 : a0 = 0
  · rw [if_pos hc0] at h
    refine u_tsw 60 X dX7_nameOf_1 (v := 0) (by rw [hc0]; rfl) (by decide) ?_
    refine u_ldcS 0 (by decide) X dX7_nameOf_60 ?_
    exact u_sretT X hr hret h hP hS dX7_nameOf_62
  rw [if_neg hc0] at h
  by_cases hc1 : a0 = 1
  · rw [if_pos hc1] at h
    refine u_tsw 63 X dX7_nameOf_1 (v := 1) (by rw [hc1]; rfl) (by decide) ?_
    refine u_ldcS 1 (by decide) X dX7_nameOf_63 ?_
    exact u_sretT X hr hret h hP hS dX7_nameOf_65
  rw [if_neg hc1] at h
  by_cases hc2 : a0 = 2
  · rw [if_pos hc2] at h
    refine u_tsw 66 X dX7_nameOf_1 (v := 2) (by rw [hc2]; rfl) (by decide) ?_
    refine u_ldcS 2 (by decide) X dX7_nameOf_66 ?_
    exact u_sretT X hr hret h hP hS dX7_nameOf_68
  rw [if_neg hc2] at h
  by_cases hc3 : a0 = 3
  · rw [if_pos hc3] at h
    refine u_tsw 69 X dX7_nameOf_1 (v := 3) (by rw [hc3]; rfl) (by decide) ?_
    refine u_ldcS 3 (by decide) X dX7_nameOf_69 ?_
    exact u_sretT X hr hret h hP hS dX7_nameOf_71
  rw [if_neg hc3] at h
  by_cases hc4 : a0 = 4
  · rw [if_pos hc4] at h
    refine u_tsw 72 X dX7_nameOf_1 (v := 4) (by rw [hc4]; rfl) (by decide) ?_
    refine u_ldcS 4 (by decide) X dX7_nameOf_72 ?_
    exact u_sretT X hr hret h hP hS dX7_nameOf_74
  rw [if_neg hc4] at h
  by_cases hc5 : a0 = 5
  · rw [if_pos hc5] at h
    refine u_tsw 75 X dX7_nameOf_1 (v := 5) (by rw [hc5]; rfl) (by decide) ?_
    refine u_ldcS 5 (by decide) X dX7_nameOf_75 ?_
    exact u_sretT X hr hret h hP hS dX7_nameOf_77
  rw [if_neg hc5] at h
  by_cases hc6 : a0 = 6
  · rw [if_pos hc6] at h
    refine u_tsw 78 X dX7_nameOf_1 (v := 6) (by rw [hc6]; rfl) (by decide) ?_
    refine u_ldcS 6 (by decide) X dX7_nameOf_78 ?_
    exact u_sretT X hr hret h hP hS dX7_nameOf_80
  rw [if_neg hc6] at h
  by_cases hc7 : a0 = 7
  · rw [if_pos hc7] at h
    refine u_tsw 81 X dX7_nameOf_1 (v := 7) (by rw [hc7]; rfl) (by decide) ?_
    refine u_ldcS 7 (by decide) X dX7_nameOf_81 ?_
    exact u_sretT X hr hret h hP hS dX7_nameOf_83
  rw [if_neg hc7] at h
  by_cases hc8 : a0 = 8
  · rw [if_pos hc8] at h
    refine u_tsw 84 X dX7_nameOf_1 (v := 8) (by rw [hc8]; rfl) (by decide) ?_
    refine u_ldcS 8 (by decide) X dX7_nameOf_84 ?_
    exact u_sretT X hr hret h hP hS dX7_nameOf_86
  rw [if_neg hc8] at h
  by_cases hc9 : a0 = 9
  · rw [if_pos hc9] at h
    refine u_tsw 87 X dX7_nameOf_1 (v := 9) (by rw [hc9]; rfl) (by decide) ?_
    refine u_ldcS 9 (by decide) X dX7_nameOf_87 ?_
    exact u_sretT X hr hret h hP hS dX7_nameOf_89
  rw [if_neg hc9] at h
  by_cases hc10 : a0 = 10
  · rw [if_pos hc10] at h
    refine u_tsw 90 X dX7_nameOf_1 (v := 10) (by rw [hc10]; rfl) (by decide) ?_
    refine u_ldcS 10 (by decide) X dX7_nameOf_90 ?_
    exact u_sretT X hr hret h hP hS dX7_nameOf_92
  rw [if_neg hc10] at h
  refine u_tswD 93 X dX7_nameOf_1 rfl (vs := [0, 1, 2, 3, 4, 5, 6, 7, 8, 9, 10]) (List.forall_mem_cons.mpr ⟨fun q9 => hc0 (Int32.toInt_inj.mp q9), (List.forall_mem_cons.mpr ⟨fun q9 => hc1 (Int32.toInt_inj.mp q9), (List.forall_mem_cons.mpr ⟨fun q9 => hc2 (Int32.toInt_inj.mp q9), (List.forall_mem_cons.mpr ⟨fun q9 => hc3 (Int32.toInt_inj.mp q9), (List.forall_mem_cons.mpr ⟨fun q9 => hc4 (Int32.toInt_inj.mp q9), (List.forall_mem_cons.mpr ⟨fun q9 => hc5 (Int32.toInt_inj.mp q9), (List.forall_mem_cons.mpr ⟨fun q9 => hc6 (Int32.toInt_inj.mp q9), (List.forall_mem_cons.mpr ⟨fun q9 => hc7 (Int32.toInt_inj.mp q9), (List.forall_mem_cons.mpr ⟨fun q9 => hc8 (Int32.toInt_inj.mp q9), (List.forall_mem_cons.mpr ⟨fun q9 => hc9 (Int32.toInt_inj.mp q9), (List.forall_mem_cons.mpr ⟨fun q9 => hc10 (Int32.toInt_inj.mp q9), (fun _ h9 => by cases h9)⟩)⟩)⟩)⟩)⟩)⟩)⟩)⟩)⟩)⟩)⟩) (by decide) ?_
  refine u_ldcS 11 (by decide) X dX7_nameOf_93 ?_
  exact u_sretT X hr hret h hP hS dX7_nameOf_95
def fTape_readStatement_J53 (z : MS) : Option MS :=
  Option.bind (fTape_fail z (gI z 8 3)) (fun zc58 => some zc58)
def fTape_readStatement_J139 (z : MS) : Option MS :=
  Option.bind (fTape_readEnd z) (fun zc140 => some zc140)
def fTape_readStatement_J62 (z : MS) (l1 : Int32) (l2 : Int32) : Option MS :=
  if l2 = 0 then ob2 (fHouse10_addPerson (pI z 8 3 l1)) (fun w104 zc104 => fTape_readStatement_J139 zc104) else if l2 = 1 then Option.bind (fTape_readKin (pI z 8 3 l1)) (fun zc112 => fTape_readStatement_J139 zc112) else if l2 = 2 then Option.bind (fTape_readTrust (pI z 8 3 l1)) (fun zc119 => fTape_readStatement_J139 zc119) else if l2 = 3 then Option.bind (fTape_readAway (pI z 8 3 l1)) (fun zc126 => fTape_readStatement_J139 zc126) else Option.bind (fTape_readLaw (pI z 8 3 l1) (l2 - 4)) (fun zc136 => fTape_readStatement_J139 zc136)
def fTape_readStatement_J31 (z : MS) (l1 : Int32) (l2 : Int32) : Option MS :=
  if 12 ≤ l2 then fTape_readStatement_J53 z else (if l2 = 0 then (if (gI z 10 0) < 8 then fTape_readStatement_J62 z l1 l2 else fTape_readStatement_J53 z) else fTape_readStatement_J62 z l1 l2)
def fTape_readStatement_L7 (z : MS) (l1 : Int32) : Nat → Int32 → Option MS
  | 0, _ => none
  | n + 1, l2 => if 12 ≤ l2 then fTape_readStatement_J31 z l1 l2 else Option.bind (fTape_stands z (fTape_nameOf l2) l1) (fun w19 => if w19 = 0 then fTape_readStatement_L7 z l1 n (l2 + 1) else fTape_readStatement_J31 z l1 l2)
def fTape_readStatement (z : MS) : Option MS :=
  Option.bind (fTape_endOfName z) (fun w1 => fTape_readStatement_L7 z w1 LF 0)
set_option maxRecDepth 4000 in
theorem cTape_readStatement (l : Launch) {z : MS} {z1 : MS} (h : fTape_readStatement z = some z1) : CT l yX7_readStatement cX7_readStatement 3 none 9 369 (fun ad sd => [.ref (ad 8)]) z none z1 := by
  rw [fTape_readStatement] at h
  refine u_start RX7 rfl (by decide) (fun _ _ => Nat.le_of_ble_eq_true rfl) (fun p e s m args below meth c R D ad cs sd A Q ls X hP hS hl hr hret => ?_)
  have hl : lv_has ls 3 [(0, .ref (ad 8))] := hl
  refine u_aload_n X hl dX7_readStatement_0 0 rfl ?_
  obtain ⟨w1, hc1, h⟩ := ob_inv h
  refine u_callVi X hP hS hl dX7_readStatement_1 (cTape_endOfName l hc1) cw_X7_49 io_8 rfl rfl rfl rfl ⟨rfl, rfl⟩ (fun H locs hP hS => ?_)
  refine u_istore_n [(1, .int w1), (0, .ref (ad 8))] X hl dX7_readStatement_4 (Nat.le_of_ble_eq_true rfl) rfl (fun ls hl => ?_)
  refine u_iconst (v := 0) X dX7_readStatement_5 rfl ?_
  refine u_istore_n [(2, .int 0), (1, .int w1), (0, .ref (ad 8))] X hl dX7_readStatement_6 (Nat.le_of_ble_eq_true rfl) rfl (fun ls hl => ?_)
  have L7 : ∀ (n : Nat) (H : Heap) (locs : List Loc) (ls : Array Slot) (l2_7 : Int32), lv_has ls 3 [(0, .ref (ad 8)), (1, .int w1), (2, .int l2_7)] → va_P D clss (wld cs ad z) H → va_S A s.heap H locs → fTape_readStatement_L7 z w1 n l2_7 = some z1 → W p l e R s m args below meth c H locs 0 0 Q (F0 m 7 ls []) := by
    intro n
    induction n with
    | zero =>
      intro H locs ls l2_7 hl hP hS h
      rw [fTape_readStatement_L7] at h
      cases h
    | succ n7 ih7 =>
      intro H locs ls l2_7 hl hP hS h
      rw [fTape_readStatement_L7] at h
      refine u_iload_n X hl dX7_readStatement_7 2 rfl ?_
      refine u_bipush (v := 12) X dX7_readStatement_8 rfl ?_
      have J31 : ∀ (H : Heap) (locs : List Loc) (ls : Array Slot), lv_has ls 3 [(0, .ref (ad 8)), (1, .int w1), (2, .int l2_7)] → va_P D clss (wld cs ad z) H → va_S A s.heap H locs → fTape_readStatement_J31 z w1 l2_7 = some z1 → W p l e R s m args below meth c H locs 0 0 Q (F0 m 31 ls []) := by
        intro H locs ls hl hP hS h
        rw [fTape_readStatement_J31] at h
        refine u_iload_n X hl dX7_readStatement_31 2 rfl ?_
        refine u_bipush (v := 12) X dX7_readStatement_32 rfl ?_
        have J53 : ∀ (H : Heap) (locs : List Loc) (ls : Array Slot), lv_has ls 3 [(0, .ref (ad 8))] → va_P D clss (wld cs ad z) H → va_S A s.heap H locs → fTape_readStatement_J53 z = some z1 → W p l e R s m args below meth c H locs 0 0 Q (F0 m 53 ls []) := by
          intro H locs ls hl hP hS h
          rw [fTape_readStatement_J53] at h
          refine u_aload_n X hl dX7_readStatement_53 0 rfl ?_
          refine u_aload_n X hl dX7_readStatement_54 0 rfl ?_
          refine gf_X7_26_8 X hP dX7_readStatement_55 ?_
          obtain ⟨zc58, hc58, h⟩ := ob_inv h
          refine u_callVv X hP hS hl dX7_readStatement_58 (cTape_fail l hc58) cw_X7_64 io_8 rfl rfl rfl rfl ⟨rfl, rfl⟩ (fun H locs hP hS => ?_)
          exact u_vretM X hr hret h hP hS dX7_readStatement_61
        refine u_icmp_ge 53 X dX7_readStatement_34 rfl (fun hc => ?_) (fun hc => ?_)
        · rw [if_pos hc] at h
          exact J53 _ _ _ (lv_sub hl [0] rfl) hP hS h
        · rw [if_neg hc] at h
          refine u_iload_n X hl dX7_readStatement_37 2 rfl ?_
          have J62 : ∀ (H : Heap) (locs : List Loc) (ls : Array Slot), lv_has ls 3 [(0, .ref (ad 8)), (1, .int w1), (2, .int l2_7)] → va_P D clss (wld cs ad z) H → va_S A s.heap H locs → fTape_readStatement_J62 z w1 l2_7 = some z1 → W p l e R s m args below meth c H locs 0 0 Q (F0 m 62 ls []) := by
            intro H locs ls hl hP hS h
            rw [fTape_readStatement_J62] at h
            refine u_aload_n X hl dX7_readStatement_62 0 rfl ?_
            refine u_iload_n X hl dX7_readStatement_63 1 rfl ?_
            refine pf_X7_26_8 X hP hS dX7_readStatement_64 (fun H locs hP hS => ?_)
            refine u_iload_n X hl dX7_readStatement_67 2 rfl ?_
            have J139 : ∀ (H : Heap) (locs : List Loc) (ls : Array Slot) (z_139 : MS), lv_has ls 3 [(0, .ref (ad 8))] → va_P D clss (wld cs ad z_139) H → va_S A s.heap H locs → fTape_readStatement_J139 z_139 = some z1 → W p l e R s m args below meth c H locs 0 0 Q (F0 m 139 ls []) := by
              intro H locs ls z_139 hl hP hS h
              rw [fTape_readStatement_J139] at h
              refine u_aload_n X hl dX7_readStatement_139 0 rfl ?_
              obtain ⟨zc140, hc140, h⟩ := ob_inv h
              refine u_callVv X hP hS hl dX7_readStatement_140 (cTape_readEnd l hc140) cw_X7_83 io_8 rfl rfl rfl rfl ⟨rfl, rfl⟩ (fun H locs hP hS => ?_)
              exact u_vretM X hr hret h hP hS dX7_readStatement_143
            by_cases hc0 : l2_7 = 0
            · rw [if_pos hc0] at h
              refine u_tsw 100 X dX7_readStatement_68 (v := 0) (by rw [hc0]; rfl) (by decide) ?_
              refine u_aload_n X hl dX7_readStatement_100 0 rfl ?_
              refine gf_X7_18_8 X hP dX7_readStatement_101 ?_
              obtain ⟨w104, zc104, hc104, h⟩ := ob2_inv h
              refine u_callVi X hP hS hl dX7_readStatement_104 (cHouse10_addPerson l hc104) cw_X7_68 io_10 rfl rfl rfl rfl ⟨rfl, rfl⟩ (fun H locs hP hS => ?_)
              refine u_pop X rfl dX7_readStatement_107 ?_
              refine u_goto 139 X dX7_readStatement_108 rfl ?_
              exact J139 _ _ _ _ (lv_sub hl [0] rfl) hP hS h
            rw [if_neg hc0] at h
            by_cases hc1 : l2_7 = 1
            · rw [if_pos hc1] at h
              refine u_tsw 111 X dX7_readStatement_68 (v := 1) (by rw [hc1]; rfl) (by decide) ?_
              refine u_aload_n X hl dX7_readStatement_111 0 rfl ?_
              obtain ⟨zc112, hc112, h⟩ := ob_inv h
              refine u_callVv X hP hS hl dX7_readStatement_112 (cTape_readKin l hc112) cw_X7_71 io_8 rfl rfl rfl rfl ⟨rfl, rfl⟩ (fun H locs hP hS => ?_)
              refine u_goto 139 X dX7_readStatement_115 rfl ?_
              exact J139 _ _ _ _ (lv_sub hl [0] rfl) hP hS h
            rw [if_neg hc1] at h
            by_cases hc2 : l2_7 = 2
            · rw [if_pos hc2] at h
              refine u_tsw 118 X dX7_readStatement_68 (v := 2) (by rw [hc2]; rfl) (by decide) ?_
              refine u_aload_n X hl dX7_readStatement_118 0 rfl ?_
              obtain ⟨zc119, hc119, h⟩ := ob_inv h
              refine u_callVv X hP hS hl dX7_readStatement_119 (cTape_readTrust l hc119) cw_X7_74 io_8 rfl rfl rfl rfl ⟨rfl, rfl⟩ (fun H locs hP hS => ?_)
              refine u_goto 139 X dX7_readStatement_122 rfl ?_
              exact J139 _ _ _ _ (lv_sub hl [0] rfl) hP hS h
            rw [if_neg hc2] at h
            by_cases hc3 : l2_7 = 3
            · rw [if_pos hc3] at h
              refine u_tsw 125 X dX7_readStatement_68 (v := 3) (by rw [hc3]; rfl) (by decide) ?_
              refine u_aload_n X hl dX7_readStatement_125 0 rfl ?_
              obtain ⟨zc126, hc126, h⟩ := ob_inv h
              refine u_callVv X hP hS hl dX7_readStatement_126 (cTape_readAway l hc126) cw_X7_77 io_8 rfl rfl rfl rfl ⟨rfl, rfl⟩ (fun H locs hP hS => ?_)
              refine u_goto 139 X dX7_readStatement_129 rfl ?_
              exact J139 _ _ _ _ (lv_sub hl [0] rfl) hP hS h
            rw [if_neg hc3] at h
            refine u_tswD 132 X dX7_readStatement_68 rfl (vs := [0, 1, 2, 3]) (List.forall_mem_cons.mpr ⟨fun q9 => hc0 (Int32.toInt_inj.mp q9), (List.forall_mem_cons.mpr ⟨fun q9 => hc1 (Int32.toInt_inj.mp q9), (List.forall_mem_cons.mpr ⟨fun q9 => hc2 (Int32.toInt_inj.mp q9), (List.forall_mem_cons.mpr ⟨fun q9 => hc3 (Int32.toInt_inj.mp q9), (fun _ h9 => by cases h9)⟩)⟩)⟩)⟩) (by decide) ?_
            refine u_aload_n X hl dX7_readStatement_132 0 rfl ?_
            refine u_iload_n X hl dX7_readStatement_133 2 rfl ?_
            refine u_iconst (v := 4) X dX7_readStatement_134 rfl ?_
            refine u_isub X dX7_readStatement_135 ?_
            obtain ⟨zc136, hc136, h⟩ := ob_inv h
            refine u_callVv X hP hS hl dX7_readStatement_136 (cTape_readLaw l hc136) cw_X7_80 io_8 rfl rfl rfl rfl ⟨rfl, rfl⟩ (fun H locs hP hS => ?_)
            exact J139 _ _ _ _ (lv_sub hl [0] rfl) hP hS h
          refine u_if_ne 62 X dX7_readStatement_38 rfl (fun hc => ?_) (fun hc => ?_)
          · rw [if_neg hc] at h
            exact J62 _ _ _ hl hP hS h
          · rw [if_pos hc] at h
            refine u_aload_n X hl dX7_readStatement_41 0 rfl ?_
            refine gf_X7_18_8 X hP dX7_readStatement_42 ?_
            refine gf_X7_61_10 X hP dX7_readStatement_45 ?_
            refine u_bipush (v := 8) X dX7_readStatement_48 rfl ?_
            refine u_icmp_lt 62 X dX7_readStatement_50 rfl (fun hc => ?_) (fun hc => ?_)
            · rw [if_pos hc] at h
              exact J62 _ _ _ hl hP hS h
            · rw [if_neg hc] at h
              exact J53 _ _ _ (lv_sub hl [0] rfl) hP hS h
      refine u_icmp_ge 31 X dX7_readStatement_10 rfl (fun hc => ?_) (fun hc => ?_)
      · rw [if_pos hc] at h
        exact J31 _ _ _ hl hP hS h
      · rw [if_neg hc] at h
        refine u_aload_n X hl dX7_readStatement_13 0 rfl ?_
        refine u_iload_n X hl dX7_readStatement_14 2 rfl ?_
        refine u_callSrS X hP hS hl dX7_readStatement_15 (cTape_nameOf l z l2_7) cw_X7_53 rfl rfl rfl rfl ⟨rfl, rfl⟩ (fun H locs hP hS => ?_)
        refine u_iload_n X hl dX7_readStatement_18 1 rfl ?_
        obtain ⟨w19, hc19, h⟩ := ob_inv h
        refine u_callVi X hP hS hl dX7_readStatement_19 (cTape_stands l hc19) cw_X7_57 io_8 rfl rfl rfl rfl ⟨rfl, rfl⟩ (fun H locs hP hS => ?_)
        refine u_if_ne 31 X dX7_readStatement_22 rfl (fun hc => ?_) (fun hc => ?_)
        · rw [if_neg hc] at h
          exact J31 _ _ _ hl hP hS h
        · rw [if_pos hc] at h
          refine u_iinc [(2, .int (l2_7 + 1)), (0, .ref (ad 8)), (1, .int w1)] X hl dX7_readStatement_25 2 rfl rfl (Nat.le_of_ble_eq_true rfl) rfl (fun ls hl => ?_)
          refine u_goto 7 X dX7_readStatement_28 rfl ?_
          exact ih7 _ _ _ _ (lv_sub hl [1, 2, 0] rfl) hP hS h
  exact L7 LF _ _ _ _ (lv_sub hl [2, 1, 0] rfl) hP hS h
def fTape_tell_J66 (z : MS) : Option (Int32 × MS) :=
  if 0 ≤ (gI z 8 4) then some (gI (pI z 8 2 0) 8 4, pI z 8 2 0) else Option.bind (fHouse_become_10 z) (fun zc78 => some (gI (pI zc78 8 2 0) 8 4, pI zc78 8 2 0))
def fTape_tell_L27 : Nat → MS → Int32 → Option (Int32 × MS)
  | 0, _, _ => none
  | n + 1, z, l2 => if 200 ≤ l2 then fTape_tell_J66 z else (if 0 ≤ (gI z 8 4) then fTape_tell_J66 z else (if (gI z 8 2) ≤ (gI z 8 3) then fTape_tell_J66 z else Option.bind (fTape_readStatement z) (fun zc53 => Option.bind (fTape_skipBlanks zc53) (fun zc57 => fTape_tell_L27 n zc57 (l2 + 1)))))
def fTape_tell (z : MS) : Option (Int32 × MS) :=
  Option.bind (fHouse10_emptyBut z) (fun zc8 => Option.bind (fTape_skipBlanks (pI (pI zc8 8 3 0) 8 4 (-1))) (fun zc22 => fTape_tell_L27 LF zc22 0))
set_option maxRecDepth 4000 in
theorem cTape_tell (l : Launch) {z : MS} {r : Int32} {z1 : MS} (h : fTape_tell z = some (r, z1)) : CT l yX7_tell cX7_tell 3 (some .int) 10 391 (fun ad sd => [.ref (ad 8), .ref (ad 1)]) z (some (.int r)) z1 := by
  rw [fTape_tell] at h
  refine u_start RX7 rfl (by decide) (fun _ _ => Nat.le_of_ble_eq_true rfl) (fun p e s m args below meth c R D ad cs sd A Q ls X hP hS hl hr hret => ?_)
  have hl : lv_has ls 3 [(0, .ref (ad 8)), (1, .ref (ad 1))] := hl
  refine u_aload_n X hl dX7_tell_0 0 rfl ?_
  refine gf_X7_18_8 X hP dX7_tell_1 ?_
  refine u_aload_n X hl dX7_tell_4 1 rfl ?_
  refine gf_X7_32_1 X hP dX7_tell_5 ?_
  obtain ⟨zc8, hc8, h⟩ := ob_inv h
  refine u_callVv X hP hS hl dX7_tell_8 (cHouse10_emptyBut l hc8) cw_X7_35 io_10 rfl rfl rfl rfl ⟨rfl, rfl⟩ (fun H locs hP hS => ?_)
  refine u_aload_n X hl dX7_tell_11 0 rfl ?_
  refine u_iconst (v := 0) X dX7_tell_12 rfl ?_
  refine pf_X7_26_8 X hP hS dX7_tell_13 (fun H locs hP hS => ?_)
  refine u_aload_n X hl dX7_tell_16 0 rfl ?_
  refine u_iconst (v := (-1)) X dX7_tell_17 rfl ?_
  refine pf_X7_29_8 X hP hS dX7_tell_18 (fun H locs hP hS => ?_)
  refine u_aload_n X hl dX7_tell_21 0 rfl ?_
  obtain ⟨zc22, hc22, h⟩ := ob_inv h
  refine u_callVv X hP hS hl dX7_tell_22 (cTape_skipBlanks l hc22) cw_X7_39 io_8 rfl rfl rfl rfl ⟨rfl, rfl⟩ (fun H locs hP hS => ?_)
  refine u_iconst (v := 0) X dX7_tell_25 rfl ?_
  refine u_istore_n [(2, .int 0), (0, .ref (ad 8)), (1, .ref (ad 1))] X hl dX7_tell_26 (Nat.le_of_ble_eq_true rfl) rfl (fun ls hl => ?_)
  have L27 : ∀ (n : Nat) (H : Heap) (locs : List Loc) (ls : Array Slot) (z_27 : MS) (l2_27 : Int32), lv_has ls 3 [(0, .ref (ad 8)), (1, .ref (ad 1)), (2, .int l2_27)] → va_P D clss (wld cs ad z_27) H → va_S A s.heap H locs → fTape_tell_L27 n z_27 l2_27 = some (r, z1) → W p l e R s m args below meth c H locs 0 0 Q (F0 m 27 ls []) := by
    intro n
    induction n with
    | zero =>
      intro H locs ls z_27 l2_27 hl hP hS h
      rw [fTape_tell_L27] at h
      cases h
    | succ n27 ih27 =>
      intro H locs ls z_27 l2_27 hl hP hS h
      rw [fTape_tell_L27] at h
      refine u_iload_n X hl dX7_tell_27 2 rfl ?_
      refine u_sipush (v := 200) X dX7_tell_28 rfl ?_
      have J66 : ∀ (H : Heap) (locs : List Loc) (ls : Array Slot), lv_has ls 3 [(0, .ref (ad 8)), (1, .ref (ad 1))] → va_P D clss (wld cs ad z_27) H → va_S A s.heap H locs → fTape_tell_J66 z_27 = some (r, z1) → W p l e R s m args below meth c H locs 0 0 Q (F0 m 66 ls []) := by
        intro H locs ls hl hP hS h
        rw [fTape_tell_J66] at h
        refine u_aload_n X hl dX7_tell_66 0 rfl ?_
        refine gf_X7_29_8 X hP dX7_tell_67 ?_
        refine u_if_ge 81 X dX7_tell_70 rfl (fun hc => ?_) (fun hc => ?_)
        · rw [if_pos hc] at h
          refine u_aload_n X hl dX7_tell_81 0 rfl ?_
          refine u_iconst (v := 0) X dX7_tell_82 rfl ?_
          refine pf_X7_22_8 X hP hS dX7_tell_83 (fun H locs hP hS => ?_)
          refine u_aload_n X hl dX7_tell_86 0 rfl ?_
          refine gf_X7_29_8 X hP dX7_tell_87 ?_
          exact u_iretM X hr hret h hP hS dX7_tell_90
        · rw [if_neg hc] at h
          refine u_aload_n X hl dX7_tell_73 1 rfl ?_
          refine u_aload_n X hl dX7_tell_74 0 rfl ?_
          refine gf_X7_18_8 X hP dX7_tell_75 ?_
          obtain ⟨zc78, hc78, h⟩ := ob_inv h
          refine u_callVv X hP hS hl dX7_tell_78 (cHouse_become_10 l hc78) cw_X7_45 io_1 rfl rfl rfl rfl ⟨rfl, rfl⟩ (fun H locs hP hS => ?_)
          refine u_aload_n X hl dX7_tell_81 0 rfl ?_
          refine u_iconst (v := 0) X dX7_tell_82 rfl ?_
          refine pf_X7_22_8 X hP hS dX7_tell_83 (fun H locs hP hS => ?_)
          refine u_aload_n X hl dX7_tell_86 0 rfl ?_
          refine gf_X7_29_8 X hP dX7_tell_87 ?_
          exact u_iretM X hr hret h hP hS dX7_tell_90
      refine u_icmp_ge 66 X dX7_tell_31 rfl (fun hc => ?_) (fun hc => ?_)
      · rw [if_pos hc] at h
        exact J66 _ _ _ (lv_sub hl [0, 1] rfl) hP hS h
      · rw [if_neg hc] at h
        refine u_aload_n X hl dX7_tell_34 0 rfl ?_
        refine gf_X7_29_8 X hP dX7_tell_35 ?_
        refine u_if_ge 66 X dX7_tell_38 rfl (fun hc => ?_) (fun hc => ?_)
        · rw [if_pos hc] at h
          exact J66 _ _ _ (lv_sub hl [0, 1] rfl) hP hS h
        · rw [if_neg hc] at h
          refine u_aload_n X hl dX7_tell_41 0 rfl ?_
          refine gf_X7_26_8 X hP dX7_tell_42 ?_
          refine u_aload_n X hl dX7_tell_45 0 rfl ?_
          refine gf_X7_22_8 X hP dX7_tell_46 ?_
          refine u_icmp_ge 66 X dX7_tell_49 rfl (fun hc => ?_) (fun hc => ?_)
          · rw [if_pos hc] at h
            exact J66 _ _ _ (lv_sub hl [0, 1] rfl) hP hS h
          · rw [if_neg hc] at h
            refine u_aload_n X hl dX7_tell_52 0 rfl ?_
            obtain ⟨zc53, hc53, h⟩ := ob_inv h
            refine u_callVv X hP hS hl dX7_tell_53 (cTape_readStatement l hc53) cw_X7_42 io_8 rfl rfl rfl rfl ⟨rfl, rfl⟩ (fun H locs hP hS => ?_)
            refine u_aload_n X hl dX7_tell_56 0 rfl ?_
            obtain ⟨zc57, hc57, h⟩ := ob_inv h
            refine u_callVv X hP hS hl dX7_tell_57 (cTape_skipBlanks l hc57) cw_X7_39 io_8 rfl rfl rfl rfl ⟨rfl, rfl⟩ (fun H locs hP hS => ?_)
            refine u_iinc [(2, .int (l2_27 + 1)), (0, .ref (ad 8)), (1, .ref (ad 1))] X hl dX7_tell_60 2 rfl rfl (Nat.le_of_ble_eq_true rfl) rfl (fun ls hl => ?_)
            refine u_goto 27 X dX7_tell_63 rfl ?_
            exact ih27 _ _ _ _ _ (lv_sub hl [1, 2, 0] rfl) hP hS h
  exact L27 LF _ _ _ _ _ (lv_sub hl [1, 2, 0] rfl) hP hS h
