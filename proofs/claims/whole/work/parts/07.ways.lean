theorem dX8_init_0 : decode cX8_init 0 = .ok (.aload_n 0, 1) := by decide +kernel
theorem dX8_init_1 : decode cX8_init 1 = .ok (.invokespecial 3, 3) := by decide +kernel
theorem dX8_init_4 : decode cX8_init 4 = .ok (.aload_n 0, 1) := by decide +kernel
theorem dX8_init_5 : decode cX8_init 5 = .ok (.aload_n 1, 1) := by decide +kernel
theorem dX8_init_6 : decode cX8_init 6 = .ok (.putfield 9, 3) := by decide +kernel
theorem dX8_init_9 : decode cX8_init 9 = .ok (.aload_n 0, 1) := by decide +kernel
theorem dX8_init_10 : decode cX8_init 10 = .ok (.aload_n 2, 1) := by decide +kernel
theorem dX8_init_11 : decode cX8_init 11 = .ok (.putfield 15, 3) := by decide +kernel
theorem dX8_init_14 : decode cX8_init 14 = .ok (.aload_n 0, 1) := by decide +kernel
theorem dX8_init_15 : decode cX8_init 15 = .ok (.bipush 64, 2) := by decide +kernel
theorem dX8_init_17 : decode cX8_init 17 = .ok (.newarray .int, 2) := by decide +kernel
theorem dX8_init_19 : decode cX8_init 19 = .ok (.putfield 19, 3) := by decide +kernel
theorem dX8_init_22 : decode cX8_init 22 = .ok (.aload_n 0, 1) := by decide +kernel
theorem dX8_init_23 : decode cX8_init 23 = .ok (.iconst 3, 1) := by decide +kernel
theorem dX8_init_24 : decode cX8_init 24 = .ok (.bipush 64, 2) := by decide +kernel
theorem dX8_init_26 : decode cX8_init 26 = .ok (.multianewarray 23 2, 4) := by decide +kernel
theorem dX8_init_30 : decode cX8_init 30 = .ok (.putfield 25, 3) := by decide +kernel
theorem dX8_init_33 : decode cX8_init 33 = .ok (.aload_n 0, 1) := by decide +kernel
theorem dX8_init_34 : decode cX8_init 34 = .ok (.iconst 3, 1) := by decide +kernel
theorem dX8_init_35 : decode cX8_init 35 = .ok (.newarray .int, 2) := by decide +kernel
theorem dX8_init_37 : decode cX8_init 37 = .ok (.putfield 28, 3) := by decide +kernel
theorem dX8_init_40 : decode cX8_init 40 = .ok (.aload_n 0, 1) := by decide +kernel
theorem dX8_init_41 : decode cX8_init 41 = .ok (.iconst 0, 1) := by decide +kernel
theorem dX8_init_42 : decode cX8_init 42 = .ok (.putfield 31, 3) := by decide +kernel
theorem dX8_init_45 : decode cX8_init 45 = .ok (.aload_n 0, 1) := by decide +kernel
theorem dX8_init_46 : decode cX8_init 46 = .ok (.iconst 0, 1) := by decide +kernel
theorem dX8_init_47 : decode cX8_init 47 = .ok (.putfield 35, 3) := by decide +kernel
theorem dX8_init_50 : decode cX8_init 50 = .ok (.return_, 1) := by decide +kernel
theorem dX8_mend_0 : decode cX8_mend 0 = .ok (.aload_n 0, 1) := by decide +kernel
theorem dX8_mend_1 : decode cX8_mend 1 = .ok (.iconst 5, 1) := by decide +kernel
theorem dX8_mend_2 : decode cX8_mend 2 = .ok (.putfield 31, 3) := by decide +kernel
theorem dX8_mend_5 : decode cX8_mend 5 = .ok (.iconst 0, 1) := by decide +kernel
theorem dX8_mend_6 : decode cX8_mend 6 = .ok (.istore_n 2, 1) := by decide +kernel
theorem dX8_mend_7 : decode cX8_mend 7 = .ok (.iload_n 2, 1) := by decide +kernel
theorem dX8_mend_8 : decode cX8_mend 8 = .ok (.aload_n 0, 1) := by decide +kernel
theorem dX8_mend_9 : decode cX8_mend 9 = .ok (.getfield 9, 3) := by decide +kernel
theorem dX8_mend_12 : decode cX8_mend 12 = .ok (.getfield 38, 3) := by decide +kernel
theorem dX8_mend_15 : decode cX8_mend 15 = .ok (.if_icmp .ge 66, 3) := by decide +kernel
theorem dX8_mend_18 : decode cX8_mend 18 = .ok (.iconst 0, 1) := by decide +kernel
theorem dX8_mend_19 : decode cX8_mend 19 = .ok (.istore_n 3, 1) := by decide +kernel
theorem dX8_mend_20 : decode cX8_mend 20 = .ok (.iload_n 3, 1) := by decide +kernel
theorem dX8_mend_21 : decode cX8_mend 21 = .ok (.aload_n 0, 1) := by decide +kernel
theorem dX8_mend_22 : decode cX8_mend 22 = .ok (.getfield 9, 3) := by decide +kernel
theorem dX8_mend_25 : decode cX8_mend 25 = .ok (.getfield 38, 3) := by decide +kernel
theorem dX8_mend_28 : decode cX8_mend 28 = .ok (.if_icmp .ge 47, 3) := by decide +kernel
theorem dX8_mend_31 : decode cX8_mend 31 = .ok (.iload_n 2, 1) := by decide +kernel
theorem dX8_mend_32 : decode cX8_mend 32 = .ok (.iload_n 3, 1) := by decide +kernel
theorem dX8_mend_33 : decode cX8_mend 33 = .ok (.if_icmp .eq 36, 3) := by decide +kernel
theorem dX8_mend_36 : decode cX8_mend 36 = .ok (.aload_n 0, 1) := by decide +kernel
theorem dX8_mend_37 : decode cX8_mend 37 = .ok (.iload_n 2, 1) := by decide +kernel
theorem dX8_mend_38 : decode cX8_mend 38 = .ok (.iload_n 3, 1) := by decide +kernel
theorem dX8_mend_39 : decode cX8_mend 39 = .ok (.iload_n 1, 1) := by decide +kernel
theorem dX8_mend_40 : decode cX8_mend 40 = .ok (.invokevirtual 43, 3) := by decide +kernel
theorem dX8_mend_43 : decode cX8_mend 43 = .ok (.ifCond .eq 26, 3) := by decide +kernel
theorem dX8_mend_46 : decode cX8_mend 46 = .ok (.aload_n 0, 1) := by decide +kernel
theorem dX8_mend_47 : decode cX8_mend 47 = .ok (.getfield 9, 3) := by decide +kernel
theorem dX8_mend_50 : decode cX8_mend 50 = .ok (.iload_n 2, 1) := by decide +kernel
theorem dX8_mend_51 : decode cX8_mend 51 = .ok (.iload_n 3, 1) := by decide +kernel
theorem dX8_mend_52 : decode cX8_mend 52 = .ok (.invokestatic 47, 3) := by decide +kernel
theorem dX8_mend_55 : decode cX8_mend 55 = .ok (.iload_n 1, 1) := by decide +kernel
theorem dX8_mend_56 : decode cX8_mend 56 = .ok (.invokevirtual 51, 3) := by decide +kernel
theorem dX8_mend_59 : decode cX8_mend 59 = .ok (.ifCond .ne 10, 3) := by decide +kernel
theorem dX8_mend_62 : decode cX8_mend 62 = .ok (.aload_n 0, 1) := by decide +kernel
theorem dX8_mend_63 : decode cX8_mend 63 = .ok (.iload_n 1, 1) := by decide +kernel
theorem dX8_mend_64 : decode cX8_mend 64 = .ok (.iload_n 2, 1) := by decide +kernel
theorem dX8_mend_65 : decode cX8_mend 65 = .ok (.iload_n 3, 1) := by decide +kernel
theorem dX8_mend_66 : decode cX8_mend 66 = .ok (.invokevirtual 55, 3) := by decide +kernel
theorem dX8_mend_69 : decode cX8_mend 69 = .ok (.iinc 3 1, 3) := by decide +kernel
theorem dX8_mend_72 : decode cX8_mend 72 = .ok (.goto (-52), 3) := by decide +kernel
theorem dX8_mend_75 : decode cX8_mend 75 = .ok (.iinc 2 1, 3) := by decide +kernel
theorem dX8_mend_78 : decode cX8_mend 78 = .ok (.goto (-71), 3) := by decide +kernel
theorem dX8_mend_81 : decode cX8_mend 81 = .ok (.aload_n 0, 1) := by decide +kernel
theorem dX8_mend_82 : decode cX8_mend 82 = .ok (.getfield 31, 3) := by decide +kernel
theorem dX8_mend_85 : decode cX8_mend 85 = .ok (.iconst 4, 1) := by decide +kernel
theorem dX8_mend_86 : decode cX8_mend 86 = .ok (.if_icmp .gt 7, 3) := by decide +kernel
theorem dX8_mend_89 : decode cX8_mend 89 = .ok (.iconst 1, 1) := by decide +kernel
theorem dX8_mend_90 : decode cX8_mend 90 = .ok (.goto 4, 3) := by decide +kernel
theorem dX8_mend_93 : decode cX8_mend 93 = .ok (.iconst 0, 1) := by decide +kernel
theorem dX8_mend_94 : decode cX8_mend 94 = .ok (.ireturn, 1) := by decide +kernel
theorem dX8_mendBy_0 : decode cX8_mendBy 0 = .ok (.iload_n 2, 1) := by decide +kernel
theorem dX8_mendBy_1 : decode cX8_mendBy 1 = .ok (.iload_n 3, 1) := by decide +kernel
theorem dX8_mendBy_2 : decode cX8_mendBy 2 = .ok (.invokestatic 47, 3) := by decide +kernel
theorem dX8_mendBy_5 : decode cX8_mendBy 5 = .ok (.istore 4, 2) := by decide +kernel
theorem dX8_mendBy_7 : decode cX8_mendBy 7 = .ok (.aload_n 0, 1) := by decide +kernel
theorem dX8_mendBy_8 : decode cX8_mendBy 8 = .ok (.getfield 15, 3) := by decide +kernel
theorem dX8_mendBy_11 : decode cX8_mendBy 11 = .ok (.iload 4, 2) := by decide +kernel
theorem dX8_mendBy_13 : decode cX8_mendBy 13 = .ok (.iload_n 1, 1) := by decide +kernel
theorem dX8_mendBy_14 : decode cX8_mendBy 14 = .ok (.invokevirtual 59, 3) := by decide +kernel
theorem dX8_mendBy_17 : decode cX8_mendBy 17 = .ok (.istore 5, 2) := by decide +kernel
theorem dX8_mendBy_19 : decode cX8_mendBy 19 = .ok (.aload_n 0, 1) := by decide +kernel
theorem dX8_mendBy_20 : decode cX8_mendBy 20 = .ok (.iload_n 1, 1) := by decide +kernel
theorem dX8_mendBy_21 : decode cX8_mendBy 21 = .ok (.iconst 0, 1) := by decide +kernel
theorem dX8_mendBy_22 : decode cX8_mendBy 22 = .ok (.iload_n 2, 1) := by decide +kernel
theorem dX8_mendBy_23 : decode cX8_mendBy 23 = .ok (.invokevirtual 64, 3) := by decide +kernel
theorem dX8_mendBy_26 : decode cX8_mendBy 26 = .ok (.aload_n 0, 1) := by decide +kernel
theorem dX8_mendBy_27 : decode cX8_mendBy 27 = .ok (.iload_n 1, 1) := by decide +kernel
theorem dX8_mendBy_28 : decode cX8_mendBy 28 = .ok (.iconst 1, 1) := by decide +kernel
theorem dX8_mendBy_29 : decode cX8_mendBy 29 = .ok (.iload_n 3, 1) := by decide +kernel
theorem dX8_mendBy_30 : decode cX8_mendBy 30 = .ok (.invokevirtual 64, 3) := by decide +kernel
theorem dX8_mendBy_33 : decode cX8_mendBy 33 = .ok (.iadd, 1) := by decide +kernel
theorem dX8_mendBy_34 : decode cX8_mendBy 34 = .ok (.istore 6, 2) := by decide +kernel
theorem dX8_mendBy_36 : decode cX8_mendBy 36 = .ok (.iconst 0, 1) := by decide +kernel
theorem dX8_mendBy_37 : decode cX8_mendBy 37 = .ok (.istore 7, 2) := by decide +kernel
theorem dX8_mendBy_39 : decode cX8_mendBy 39 = .ok (.iload 7, 2) := by decide +kernel
theorem dX8_mendBy_41 : decode cX8_mendBy 41 = .ok (.aload_n 0, 1) := by decide +kernel
theorem dX8_mendBy_42 : decode cX8_mendBy 42 = .ok (.getfield 9, 3) := by decide +kernel
theorem dX8_mendBy_45 : decode cX8_mendBy 45 = .ok (.getfield 38, 3) := by decide +kernel
theorem dX8_mendBy_48 : decode cX8_mendBy 48 = .ok (.if_icmp .ge 135, 3) := by decide +kernel
theorem dX8_mendBy_51 : decode cX8_mendBy 51 = .ok (.iconst 0, 1) := by decide +kernel
theorem dX8_mendBy_52 : decode cX8_mendBy 52 = .ok (.istore 8, 2) := by decide +kernel
theorem dX8_mendBy_54 : decode cX8_mendBy 54 = .ok (.iload 8, 2) := by decide +kernel
theorem dX8_mendBy_56 : decode cX8_mendBy 56 = .ok (.aload_n 0, 1) := by decide +kernel
theorem dX8_mendBy_57 : decode cX8_mendBy 57 = .ok (.getfield 9, 3) := by decide +kernel
theorem dX8_mendBy_60 : decode cX8_mendBy 60 = .ok (.getfield 38, 3) := by decide +kernel
theorem dX8_mendBy_63 : decode cX8_mendBy 63 = .ok (.if_icmp .ge 114, 3) := by decide +kernel
theorem dX8_mendBy_66 : decode cX8_mendBy 66 = .ok (.iload 6, 2) := by decide +kernel
theorem dX8_mendBy_68 : decode cX8_mendBy 68 = .ok (.aload_n 0, 1) := by decide +kernel
theorem dX8_mendBy_69 : decode cX8_mendBy 69 = .ok (.iload_n 1, 1) := by decide +kernel
theorem dX8_mendBy_70 : decode cX8_mendBy 70 = .ok (.iconst 2, 1) := by decide +kernel
theorem dX8_mendBy_71 : decode cX8_mendBy 71 = .ok (.iload 7, 2) := by decide +kernel
theorem dX8_mendBy_73 : decode cX8_mendBy 73 = .ok (.invokevirtual 64, 3) := by decide +kernel
theorem dX8_mendBy_76 : decode cX8_mendBy 76 = .ok (.iadd, 1) := by decide +kernel
theorem dX8_mendBy_77 : decode cX8_mendBy 77 = .ok (.aload_n 0, 1) := by decide +kernel
theorem dX8_mendBy_78 : decode cX8_mendBy 78 = .ok (.iload_n 1, 1) := by decide +kernel
theorem dX8_mendBy_79 : decode cX8_mendBy 79 = .ok (.iconst 3, 1) := by decide +kernel
theorem dX8_mendBy_80 : decode cX8_mendBy 80 = .ok (.iload 8, 2) := by decide +kernel
theorem dX8_mendBy_82 : decode cX8_mendBy 82 = .ok (.invokevirtual 64, 3) := by decide +kernel
theorem dX8_mendBy_85 : decode cX8_mendBy 85 = .ok (.iadd, 1) := by decide +kernel
theorem dX8_mendBy_86 : decode cX8_mendBy 86 = .ok (.istore 9, 2) := by decide +kernel
theorem dX8_mendBy_88 : decode cX8_mendBy 88 = .ok (.iload 9, 2) := by decide +kernel
theorem dX8_mendBy_90 : decode cX8_mendBy 90 = .ok (.aload_n 0, 1) := by decide +kernel
theorem dX8_mendBy_91 : decode cX8_mendBy 91 = .ok (.getfield 31, 3) := by decide +kernel
theorem dX8_mendBy_94 : decode cX8_mendBy 94 = .ok (.if_icmp .ge 77, 3) := by decide +kernel
theorem dX8_mendBy_97 : decode cX8_mendBy 97 = .ok (.iload 7, 2) := by decide +kernel
theorem dX8_mendBy_99 : decode cX8_mendBy 99 = .ok (.iload 8, 2) := by decide +kernel
theorem dX8_mendBy_101 : decode cX8_mendBy 101 = .ok (.if_icmp .eq 70, 3) := by decide +kernel
theorem dX8_mendBy_104 : decode cX8_mendBy 104 = .ok (.aload_n 0, 1) := by decide +kernel
theorem dX8_mendBy_105 : decode cX8_mendBy 105 = .ok (.iload 7, 2) := by decide +kernel
theorem dX8_mendBy_107 : decode cX8_mendBy 107 = .ok (.iload 4, 2) := by decide +kernel
theorem dX8_mendBy_109 : decode cX8_mendBy 109 = .ok (.iload_n 1, 1) := by decide +kernel
theorem dX8_mendBy_110 : decode cX8_mendBy 110 = .ok (.invokevirtual 68, 3) := by decide +kernel
theorem dX8_mendBy_113 : decode cX8_mendBy 113 = .ok (.ifCond .eq 58, 3) := by decide +kernel
theorem dX8_mendBy_116 : decode cX8_mendBy 116 = .ok (.aload_n 0, 1) := by decide +kernel
theorem dX8_mendBy_117 : decode cX8_mendBy 117 = .ok (.iload 8, 2) := by decide +kernel
theorem dX8_mendBy_119 : decode cX8_mendBy 119 = .ok (.iload 4, 2) := by decide +kernel
theorem dX8_mendBy_121 : decode cX8_mendBy 121 = .ok (.iload_n 1, 1) := by decide +kernel
theorem dX8_mendBy_122 : decode cX8_mendBy 122 = .ok (.invokevirtual 68, 3) := by decide +kernel
theorem dX8_mendBy_125 : decode cX8_mendBy 125 = .ok (.ifCond .eq 46, 3) := by decide +kernel
theorem dX8_mendBy_128 : decode cX8_mendBy 128 = .ok (.aload_n 0, 1) := by decide +kernel
theorem dX8_mendBy_129 : decode cX8_mendBy 129 = .ok (.iload 4, 2) := by decide +kernel
theorem dX8_mendBy_131 : decode cX8_mendBy 131 = .ok (.iload 5, 2) := by decide +kernel
theorem dX8_mendBy_133 : decode cX8_mendBy 133 = .ok (.iload 7, 2) := by decide +kernel
theorem dX8_mendBy_135 : decode cX8_mendBy 135 = .ok (.iload 8, 2) := by decide +kernel
theorem dX8_mendBy_137 : decode cX8_mendBy 137 = .ok (.iload_n 1, 1) := by decide +kernel
theorem dX8_mendBy_138 : decode cX8_mendBy 138 = .ok (.invokevirtual 71, 3) := by decide +kernel
theorem dX8_mendBy_141 : decode cX8_mendBy 141 = .ok (.ifCond .ne 30, 3) := by decide +kernel
theorem dX8_mendBy_144 : decode cX8_mendBy 144 = .ok (.aload_n 0, 1) := by decide +kernel
theorem dX8_mendBy_145 : decode cX8_mendBy 145 = .ok (.iload 9, 2) := by decide +kernel
theorem dX8_mendBy_147 : decode cX8_mendBy 147 = .ok (.putfield 31, 3) := by decide +kernel
theorem dX8_mendBy_150 : decode cX8_mendBy 150 = .ok (.aload_n 0, 1) := by decide +kernel
theorem dX8_mendBy_151 : decode cX8_mendBy 151 = .ok (.iload_n 2, 1) := by decide +kernel
theorem dX8_mendBy_152 : decode cX8_mendBy 152 = .ok (.iload_n 3, 1) := by decide +kernel
theorem dX8_mendBy_153 : decode cX8_mendBy 153 = .ok (.iconst 3, 1) := by decide +kernel
theorem dX8_mendBy_154 : decode cX8_mendBy 154 = .ok (.ishl, 1) := by decide +kernel
theorem dX8_mendBy_155 : decode cX8_mendBy 155 = .ok (.ior, 1) := by decide +kernel
theorem dX8_mendBy_156 : decode cX8_mendBy 156 = .ok (.iload 7, 2) := by decide +kernel
theorem dX8_mendBy_158 : decode cX8_mendBy 158 = .ok (.bipush 6, 2) := by decide +kernel
theorem dX8_mendBy_160 : decode cX8_mendBy 160 = .ok (.ishl, 1) := by decide +kernel
theorem dX8_mendBy_161 : decode cX8_mendBy 161 = .ok (.ior, 1) := by decide +kernel
theorem dX8_mendBy_162 : decode cX8_mendBy 162 = .ok (.iload 8, 2) := by decide +kernel
theorem dX8_mendBy_164 : decode cX8_mendBy 164 = .ok (.bipush 9, 2) := by decide +kernel
theorem dX8_mendBy_166 : decode cX8_mendBy 166 = .ok (.ishl, 1) := by decide +kernel
theorem dX8_mendBy_167 : decode cX8_mendBy 167 = .ok (.ior, 1) := by decide +kernel
theorem dX8_mendBy_168 : decode cX8_mendBy 168 = .ok (.putfield 35, 3) := by decide +kernel
theorem dX8_mendBy_171 : decode cX8_mendBy 171 = .ok (.iinc 8 1, 3) := by decide +kernel
theorem dX8_mendBy_174 : decode cX8_mendBy 174 = .ok (.goto (-120), 3) := by decide +kernel
theorem dX8_mendBy_177 : decode cX8_mendBy 177 = .ok (.iinc 7 1, 3) := by decide +kernel
theorem dX8_mendBy_180 : decode cX8_mendBy 180 = .ok (.goto (-141), 3) := by decide +kernel
theorem dX8_mendBy_183 : decode cX8_mendBy 183 = .ok (.return_, 1) := by decide +kernel
theorem dX8_change_0 : decode cX8_change 0 = .ok (.aload_n 0, 1) := by decide +kernel
theorem dX8_change_1 : decode cX8_change 1 = .ok (.getfield 9, 3) := by decide +kernel
theorem dX8_change_4 : decode cX8_change 4 = .ok (.iload_n 1, 1) := by decide +kernel
theorem dX8_change_5 : decode cX8_change 5 = .ok (.iload_n 2, 1) := by decide +kernel
theorem dX8_change_6 : decode cX8_change 6 = .ok (.invokevirtual 75, 3) := by decide +kernel
theorem dX8_change_9 : decode cX8_change 9 = .ok (.iload_n 3, 1) := by decide +kernel
theorem dX8_change_10 : decode cX8_change 10 = .ok (.if_icmp .ne 7, 3) := by decide +kernel
theorem dX8_change_13 : decode cX8_change 13 = .ok (.iconst 0, 1) := by decide +kernel
theorem dX8_change_14 : decode cX8_change 14 = .ok (.goto 4, 3) := by decide +kernel
theorem dX8_change_17 : decode cX8_change 17 = .ok (.iconst 1, 1) := by decide +kernel
theorem dX8_change_18 : decode cX8_change 18 = .ok (.ireturn, 1) := by decide +kernel
theorem dX8_maySit_0 : decode cX8_maySit 0 = .ok (.aload_n 0, 1) := by decide +kernel
theorem dX8_maySit_1 : decode cX8_maySit 1 = .ok (.getfield 9, 3) := by decide +kernel
theorem dX8_maySit_4 : decode cX8_maySit 4 = .ok (.iload_n 1, 1) := by decide +kernel
theorem dX8_maySit_5 : decode cX8_maySit 5 = .ok (.iload_n 3, 1) := by decide +kernel
theorem dX8_maySit_6 : decode cX8_maySit 6 = .ok (.invokevirtual 78, 3) := by decide +kernel
theorem dX8_maySit_9 : decode cX8_maySit 9 = .ok (.ifCond .ne 31, 3) := by decide +kernel
theorem dX8_maySit_12 : decode cX8_maySit 12 = .ok (.aload_n 0, 1) := by decide +kernel
theorem dX8_maySit_13 : decode cX8_maySit 13 = .ok (.getfield 9, 3) := by decide +kernel
theorem dX8_maySit_16 : decode cX8_maySit 16 = .ok (.iload_n 2, 1) := by decide +kernel
theorem dX8_maySit_17 : decode cX8_maySit 17 = .ok (.iload_n 3, 1) := by decide +kernel
theorem dX8_maySit_18 : decode cX8_maySit 18 = .ok (.invokevirtual 78, 3) := by decide +kernel
theorem dX8_maySit_21 : decode cX8_maySit 21 = .ok (.ifCond .ne 19, 3) := by decide +kernel
theorem dX8_maySit_24 : decode cX8_maySit 24 = .ok (.aload_n 0, 1) := by decide +kernel
theorem dX8_maySit_25 : decode cX8_maySit 25 = .ok (.getfield 9, 3) := by decide +kernel
theorem dX8_maySit_28 : decode cX8_maySit 28 = .ok (.iload_n 1, 1) := by decide +kernel
theorem dX8_maySit_29 : decode cX8_maySit 29 = .ok (.iload_n 2, 1) := by decide +kernel
theorem dX8_maySit_30 : decode cX8_maySit 30 = .ok (.invokevirtual 81, 3) := by decide +kernel
theorem dX8_maySit_33 : decode cX8_maySit 33 = .ok (.ifCond .ne 7, 3) := by decide +kernel
theorem dX8_maySit_36 : decode cX8_maySit 36 = .ok (.iconst 1, 1) := by decide +kernel
theorem dX8_maySit_37 : decode cX8_maySit 37 = .ok (.goto 4, 3) := by decide +kernel
theorem dX8_maySit_40 : decode cX8_maySit 40 = .ok (.iconst 0, 1) := by decide +kernel
theorem dX8_maySit_41 : decode cX8_maySit 41 = .ok (.ireturn, 1) := by decide +kernel
theorem dX8_isFree_0 : decode cX8_isFree 0 = .ok (.iload_n 1, 1) := by decide +kernel
theorem dX8_isFree_1 : decode cX8_isFree 1 = .ok (.iload_n 2, 1) := by decide +kernel
theorem dX8_isFree_2 : decode cX8_isFree 2 = .ok (.bipush 8, 2) := by decide +kernel
theorem dX8_isFree_4 : decode cX8_isFree 4 = .ok (.idiv, 1) := by decide +kernel
theorem dX8_isFree_5 : decode cX8_isFree 5 = .ok (.if_icmp .eq 27, 3) := by decide +kernel
theorem dX8_isFree_8 : decode cX8_isFree 8 = .ok (.iload_n 1, 1) := by decide +kernel
theorem dX8_isFree_9 : decode cX8_isFree 9 = .ok (.iload_n 2, 1) := by decide +kernel
theorem dX8_isFree_10 : decode cX8_isFree 10 = .ok (.bipush 8, 2) := by decide +kernel
theorem dX8_isFree_12 : decode cX8_isFree 12 = .ok (.irem, 1) := by decide +kernel
theorem dX8_isFree_13 : decode cX8_isFree 13 = .ok (.if_icmp .eq 19, 3) := by decide +kernel
theorem dX8_isFree_16 : decode cX8_isFree 16 = .ok (.aload_n 0, 1) := by decide +kernel
theorem dX8_isFree_17 : decode cX8_isFree 17 = .ok (.getfield 9, 3) := by decide +kernel
theorem dX8_isFree_20 : decode cX8_isFree 20 = .ok (.iload_n 1, 1) := by decide +kernel
theorem dX8_isFree_21 : decode cX8_isFree 21 = .ok (.iload_n 3, 1) := by decide +kernel
theorem dX8_isFree_22 : decode cX8_isFree 22 = .ok (.invokevirtual 78, 3) := by decide +kernel
theorem dX8_isFree_25 : decode cX8_isFree 25 = .ok (.ifCond .ne 7, 3) := by decide +kernel
theorem dX8_isFree_28 : decode cX8_isFree 28 = .ok (.iconst 1, 1) := by decide +kernel
theorem dX8_isFree_29 : decode cX8_isFree 29 = .ok (.goto 4, 3) := by decide +kernel
theorem dX8_isFree_32 : decode cX8_isFree 32 = .ok (.iconst 0, 1) := by decide +kernel
theorem dX8_isFree_33 : decode cX8_isFree 33 = .ok (.ireturn, 1) := by decide +kernel
theorem dX8_wouldPay_0 : decode cX8_wouldPay 0 = .ok (.aload_n 0, 1) := by decide +kernel
theorem dX8_wouldPay_1 : decode cX8_wouldPay 1 = .ok (.getfield 15, 3) := by decide +kernel
theorem dX8_wouldPay_4 : decode cX8_wouldPay 4 = .ok (.iload_n 1, 1) := by decide +kernel
theorem dX8_wouldPay_5 : decode cX8_wouldPay 5 = .ok (.iload_n 3, 1) := by decide +kernel
theorem dX8_wouldPay_6 : decode cX8_wouldPay 6 = .ok (.iload 4, 2) := by decide +kernel
theorem dX8_wouldPay_8 : decode cX8_wouldPay 8 = .ok (.aload_n 0, 1) := by decide +kernel
theorem dX8_wouldPay_9 : decode cX8_wouldPay 9 = .ok (.getfield 9, 3) := by decide +kernel
theorem dX8_wouldPay_12 : decode cX8_wouldPay 12 = .ok (.iload 5, 2) := by decide +kernel
theorem dX8_wouldPay_14 : decode cX8_wouldPay 14 = .ok (.invokevirtual 84, 3) := by decide +kernel
theorem dX8_wouldPay_17 : decode cX8_wouldPay 17 = .ok (.invokevirtual 88, 3) := by decide +kernel
theorem dX8_wouldPay_20 : decode cX8_wouldPay 20 = .ok (.istore 6, 2) := by decide +kernel
theorem dX8_wouldPay_22 : decode cX8_wouldPay 22 = .ok (.aload_n 0, 1) := by decide +kernel
theorem dX8_wouldPay_23 : decode cX8_wouldPay 23 = .ok (.getfield 15, 3) := by decide +kernel
theorem dX8_wouldPay_26 : decode cX8_wouldPay 26 = .ok (.aload_n 0, 1) := by decide +kernel
theorem dX8_wouldPay_27 : decode cX8_wouldPay 27 = .ok (.getfield 15, 3) := by decide +kernel
theorem dX8_wouldPay_30 : decode cX8_wouldPay 30 = .ok (.iload_n 2, 1) := by decide +kernel
theorem dX8_wouldPay_31 : decode cX8_wouldPay 31 = .ok (.iload 6, 2) := by decide +kernel
theorem dX8_wouldPay_33 : decode cX8_wouldPay 33 = .ok (.invokevirtual 92, 3) := by decide +kernel
theorem dX8_wouldPay_36 : decode cX8_wouldPay 36 = .ok (.aload_n 0, 1) := by decide +kernel
theorem dX8_wouldPay_37 : decode cX8_wouldPay 37 = .ok (.getfield 9, 3) := by decide +kernel
theorem dX8_wouldPay_40 : decode cX8_wouldPay 40 = .ok (.getfield 95, 3) := by decide +kernel
theorem dX8_wouldPay_43 : decode cX8_wouldPay 43 = .ok (.bipush 6, 2) := by decide +kernel
theorem dX8_wouldPay_45 : decode cX8_wouldPay 45 = .ok (.iaload, 1) := by decide +kernel
theorem dX8_wouldPay_46 : decode cX8_wouldPay 46 = .ok (.invokevirtual 98, 3) := by decide +kernel
theorem dX8_wouldPay_49 : decode cX8_wouldPay 49 = .ok (.ireturn, 1) := by decide +kernel
theorem dX8_rowsAhead_0 : decode cX8_rowsAhead 0 = .ok (.iconst 0, 1) := by decide +kernel
theorem dX8_rowsAhead_1 : decode cX8_rowsAhead 1 = .ok (.istore_n 3, 1) := by decide +kernel
theorem dX8_rowsAhead_2 : decode cX8_rowsAhead 2 = .ok (.iload_n 3, 1) := by decide +kernel
theorem dX8_rowsAhead_3 : decode cX8_rowsAhead 3 = .ok (.aload_n 0, 1) := by decide +kernel
theorem dX8_rowsAhead_4 : decode cX8_rowsAhead 4 = .ok (.getfield 9, 3) := by decide +kernel
theorem dX8_rowsAhead_7 : decode cX8_rowsAhead 7 = .ok (.getfield 38, 3) := by decide +kernel
theorem dX8_rowsAhead_10 : decode cX8_rowsAhead 10 = .ok (.if_icmp .ge 145, 3) := by decide +kernel
theorem dX8_rowsAhead_13 : decode cX8_rowsAhead 13 = .ok (.iload_n 3, 1) := by decide +kernel
theorem dX8_rowsAhead_14 : decode cX8_rowsAhead 14 = .ok (.iconst 1, 1) := by decide +kernel
theorem dX8_rowsAhead_15 : decode cX8_rowsAhead 15 = .ok (.iadd, 1) := by decide +kernel
theorem dX8_rowsAhead_16 : decode cX8_rowsAhead 16 = .ok (.istore 4, 2) := by decide +kernel
theorem dX8_rowsAhead_18 : decode cX8_rowsAhead 18 = .ok (.iload 4, 2) := by decide +kernel
theorem dX8_rowsAhead_20 : decode cX8_rowsAhead 20 = .ok (.aload_n 0, 1) := by decide +kernel
theorem dX8_rowsAhead_21 : decode cX8_rowsAhead 21 = .ok (.getfield 9, 3) := by decide +kernel
theorem dX8_rowsAhead_24 : decode cX8_rowsAhead 24 = .ok (.getfield 38, 3) := by decide +kernel
theorem dX8_rowsAhead_27 : decode cX8_rowsAhead 27 = .ok (.if_icmp .ge 122, 3) := by decide +kernel
theorem dX8_rowsAhead_30 : decode cX8_rowsAhead 30 = .ok (.iload_n 3, 1) := by decide +kernel
theorem dX8_rowsAhead_31 : decode cX8_rowsAhead 31 = .ok (.iload 4, 2) := by decide +kernel
theorem dX8_rowsAhead_33 : decode cX8_rowsAhead 33 = .ok (.invokestatic 47, 3) := by decide +kernel
theorem dX8_rowsAhead_36 : decode cX8_rowsAhead 36 = .ok (.istore 5, 2) := by decide +kernel
theorem dX8_rowsAhead_38 : decode cX8_rowsAhead 38 = .ok (.aload_n 0, 1) := by decide +kernel
theorem dX8_rowsAhead_39 : decode cX8_rowsAhead 39 = .ok (.getfield 19, 3) := by decide +kernel
theorem dX8_rowsAhead_42 : decode cX8_rowsAhead 42 = .ok (.iload 5, 2) := by decide +kernel
theorem dX8_rowsAhead_44 : decode cX8_rowsAhead 44 = .ok (.aload_n 0, 1) := by decide +kernel
theorem dX8_rowsAhead_45 : decode cX8_rowsAhead 45 = .ok (.getfield 15, 3) := by decide +kernel
theorem dX8_rowsAhead_48 : decode cX8_rowsAhead 48 = .ok (.iload 5, 2) := by decide +kernel
theorem dX8_rowsAhead_50 : decode cX8_rowsAhead 50 = .ok (.iload_n 1, 1) := by decide +kernel
theorem dX8_rowsAhead_51 : decode cX8_rowsAhead 51 = .ok (.invokevirtual 59, 3) := by decide +kernel
theorem dX8_rowsAhead_54 : decode cX8_rowsAhead 54 = .ok (.iastore, 1) := by decide +kernel
theorem dX8_rowsAhead_55 : decode cX8_rowsAhead 55 = .ok (.aload_n 0, 1) := by decide +kernel
theorem dX8_rowsAhead_56 : decode cX8_rowsAhead 56 = .ok (.getfield 9, 3) := by decide +kernel
theorem dX8_rowsAhead_59 : decode cX8_rowsAhead 59 = .ok (.iload 5, 2) := by decide +kernel
theorem dX8_rowsAhead_61 : decode cX8_rowsAhead 61 = .ok (.iload_n 1, 1) := by decide +kernel
theorem dX8_rowsAhead_62 : decode cX8_rowsAhead 62 = .ok (.invokevirtual 101, 3) := by decide +kernel
theorem dX8_rowsAhead_65 : decode cX8_rowsAhead 65 = .ok (.istore 6, 2) := by decide +kernel
theorem dX8_rowsAhead_67 : decode cX8_rowsAhead 67 = .ok (.iconst 0, 1) := by decide +kernel
theorem dX8_rowsAhead_68 : decode cX8_rowsAhead 68 = .ok (.istore 7, 2) := by decide +kernel
theorem dX8_rowsAhead_70 : decode cX8_rowsAhead 70 = .ok (.iload 7, 2) := by decide +kernel
theorem dX8_rowsAhead_72 : decode cX8_rowsAhead 72 = .ok (.iload_n 2, 1) := by decide +kernel
theorem dX8_rowsAhead_73 : decode cX8_rowsAhead 73 = .ok (.if_icmp .ge 70, 3) := by decide +kernel
theorem dX8_rowsAhead_76 : decode cX8_rowsAhead 76 = .ok (.iload 6, 2) := by decide +kernel
theorem dX8_rowsAhead_78 : decode cX8_rowsAhead 78 = .ok (.ifCond .lt 27, 3) := by decide +kernel
theorem dX8_rowsAhead_81 : decode cX8_rowsAhead 81 = .ok (.iload 6, 2) := by decide +kernel
theorem dX8_rowsAhead_83 : decode cX8_rowsAhead 83 = .ok (.iload_n 1, 1) := by decide +kernel
theorem dX8_rowsAhead_84 : decode cX8_rowsAhead 84 = .ok (.iload 7, 2) := by decide +kernel
theorem dX8_rowsAhead_86 : decode cX8_rowsAhead 86 = .ok (.iadd, 1) := by decide +kernel
theorem dX8_rowsAhead_87 : decode cX8_rowsAhead 87 = .ok (.aload_n 0, 1) := by decide +kernel
theorem dX8_rowsAhead_88 : decode cX8_rowsAhead 88 = .ok (.getfield 9, 3) := by decide +kernel
theorem dX8_rowsAhead_91 : decode cX8_rowsAhead 91 = .ok (.getfield 95, 3) := by decide +kernel
theorem dX8_rowsAhead_94 : decode cX8_rowsAhead 94 = .ok (.bipush 7, 2) := by decide +kernel
theorem dX8_rowsAhead_96 : decode cX8_rowsAhead 96 = .ok (.iaload, 1) := by decide +kernel
theorem dX8_rowsAhead_97 : decode cX8_rowsAhead 97 = .ok (.isub, 1) := by decide +kernel
theorem dX8_rowsAhead_98 : decode cX8_rowsAhead 98 = .ok (.if_icmp .lt 7, 3) := by decide +kernel
theorem dX8_rowsAhead_101 : decode cX8_rowsAhead 101 = .ok (.iconst 1, 1) := by decide +kernel
theorem dX8_rowsAhead_102 : decode cX8_rowsAhead 102 = .ok (.goto 4, 3) := by decide +kernel
theorem dX8_rowsAhead_105 : decode cX8_rowsAhead 105 = .ok (.iconst 0, 1) := by decide +kernel
theorem dX8_rowsAhead_106 : decode cX8_rowsAhead 106 = .ok (.istore 8, 2) := by decide +kernel
theorem dX8_rowsAhead_108 : decode cX8_rowsAhead 108 = .ok (.aload_n 0, 1) := by decide +kernel
theorem dX8_rowsAhead_109 : decode cX8_rowsAhead 109 = .ok (.getfield 25, 3) := by decide +kernel
theorem dX8_rowsAhead_112 : decode cX8_rowsAhead 112 = .ok (.iload 7, 2) := by decide +kernel
theorem dX8_rowsAhead_114 : decode cX8_rowsAhead 114 = .ok (.aaload, 1) := by decide +kernel
theorem dX8_rowsAhead_115 : decode cX8_rowsAhead 115 = .ok (.iload 5, 2) := by decide +kernel
theorem dX8_rowsAhead_117 : decode cX8_rowsAhead 117 = .ok (.iload 8, 2) := by decide +kernel
theorem dX8_rowsAhead_119 : decode cX8_rowsAhead 119 = .ok (.ifCond .eq 7, 3) := by decide +kernel
theorem dX8_rowsAhead_122 : decode cX8_rowsAhead 122 = .ok (.iconst (-1), 1) := by decide +kernel
theorem dX8_rowsAhead_123 : decode cX8_rowsAhead 123 = .ok (.goto 13, 3) := by decide +kernel
theorem dX8_rowsAhead_126 : decode cX8_rowsAhead 126 = .ok (.aload_n 0, 1) := by decide +kernel
theorem dX8_rowsAhead_127 : decode cX8_rowsAhead 127 = .ok (.iload 5, 2) := by decide +kernel
theorem dX8_rowsAhead_129 : decode cX8_rowsAhead 129 = .ok (.iload_n 1, 1) := by decide +kernel
theorem dX8_rowsAhead_130 : decode cX8_rowsAhead 130 = .ok (.iload 7, 2) := by decide +kernel
theorem dX8_rowsAhead_132 : decode cX8_rowsAhead 132 = .ok (.iadd, 1) := by decide +kernel
theorem dX8_rowsAhead_133 : decode cX8_rowsAhead 133 = .ok (.invokevirtual 104, 3) := by decide +kernel
theorem dX8_rowsAhead_136 : decode cX8_rowsAhead 136 = .ok (.iastore, 1) := by decide +kernel
theorem dX8_rowsAhead_137 : decode cX8_rowsAhead 137 = .ok (.iinc 7 1, 3) := by decide +kernel
theorem dX8_rowsAhead_140 : decode cX8_rowsAhead 140 = .ok (.goto (-70), 3) := by decide +kernel
theorem dX8_rowsAhead_143 : decode cX8_rowsAhead 143 = .ok (.iinc 4 1, 3) := by decide +kernel
theorem dX8_rowsAhead_146 : decode cX8_rowsAhead 146 = .ok (.goto (-128), 3) := by decide +kernel
theorem dX8_rowsAhead_149 : decode cX8_rowsAhead 149 = .ok (.iinc 3 1, 3) := by decide +kernel
theorem dX8_rowsAhead_152 : decode cX8_rowsAhead 152 = .ok (.goto (-150), 3) := by decide +kernel
theorem dX8_rowsAhead_155 : decode cX8_rowsAhead 155 = .ok (.aload_n 0, 1) := by decide +kernel
theorem dX8_rowsAhead_156 : decode cX8_rowsAhead 156 = .ok (.iconst 0, 1) := by decide +kernel
theorem dX8_rowsAhead_157 : decode cX8_rowsAhead 157 = .ok (.iload_n 2, 1) := by decide +kernel
theorem dX8_rowsAhead_158 : decode cX8_rowsAhead 158 = .ok (.invokestatic 107, 3) := by decide +kernel
theorem dX8_rowsAhead_161 : decode cX8_rowsAhead 161 = .ok (.ireturn, 1) := by decide +kernel
theorem dX8_mostTrust_0 : decode cX8_mostTrust 0 = .ok (.aload_n 0, 1) := by decide +kernel
theorem dX8_mostTrust_1 : decode cX8_mostTrust 1 = .ok (.getfield 9, 3) := by decide +kernel
theorem dX8_mostTrust_4 : decode cX8_mostTrust 4 = .ok (.iload_n 2, 1) := by decide +kernel
theorem dX8_mostTrust_5 : decode cX8_mostTrust 5 = .ok (.iconst 2, 1) := by decide +kernel
theorem dX8_mostTrust_6 : decode cX8_mostTrust 6 = .ok (.invokevirtual 75, 3) := by decide +kernel
theorem dX8_mostTrust_9 : decode cX8_mostTrust 9 = .ok (.istore_n 3, 1) := by decide +kernel
theorem dX8_mostTrust_10 : decode cX8_mostTrust 10 = .ok (.aload_n 0, 1) := by decide +kernel
theorem dX8_mostTrust_11 : decode cX8_mostTrust 11 = .ok (.getfield 9, 3) := by decide +kernel
theorem dX8_mostTrust_14 : decode cX8_mostTrust 14 = .ok (.iload_n 2, 1) := by decide +kernel
theorem dX8_mostTrust_15 : decode cX8_mostTrust 15 = .ok (.iconst 3, 1) := by decide +kernel
theorem dX8_mostTrust_16 : decode cX8_mostTrust 16 = .ok (.invokevirtual 75, 3) := by decide +kernel
theorem dX8_mostTrust_19 : decode cX8_mostTrust 19 = .ok (.istore 4, 2) := by decide +kernel
theorem dX8_mostTrust_21 : decode cX8_mostTrust 21 = .ok (.aload_n 0, 1) := by decide +kernel
theorem dX8_mostTrust_22 : decode cX8_mostTrust 22 = .ok (.iload_n 1, 1) := by decide +kernel
theorem dX8_mostTrust_23 : decode cX8_mostTrust 23 = .ok (.bipush 8, 2) := by decide +kernel
theorem dX8_mostTrust_25 : decode cX8_mostTrust 25 = .ok (.idiv, 1) := by decide +kernel
theorem dX8_mostTrust_26 : decode cX8_mostTrust 26 = .ok (.iload_n 1, 1) := by decide +kernel
theorem dX8_mostTrust_27 : decode cX8_mostTrust 27 = .ok (.bipush 8, 2) := by decide +kernel
theorem dX8_mostTrust_29 : decode cX8_mostTrust 29 = .ok (.irem, 1) := by decide +kernel
theorem dX8_mostTrust_30 : decode cX8_mostTrust 30 = .ok (.iload_n 2, 1) := by decide +kernel
theorem dX8_mostTrust_31 : decode cX8_mostTrust 31 = .ok (.invokevirtual 43, 3) := by decide +kernel
theorem dX8_mostTrust_34 : decode cX8_mostTrust 34 = .ok (.ifCond .eq 50, 3) := by decide +kernel
theorem dX8_mostTrust_37 : decode cX8_mostTrust 37 = .ok (.iload_n 3, 1) := by decide +kernel
theorem dX8_mostTrust_38 : decode cX8_mostTrust 38 = .ok (.iconst (-1), 1) := by decide +kernel
theorem dX8_mostTrust_39 : decode cX8_mostTrust 39 = .ok (.if_icmp .eq 13, 3) := by decide +kernel
theorem dX8_mostTrust_42 : decode cX8_mostTrust 42 = .ok (.aload_n 0, 1) := by decide +kernel
theorem dX8_mostTrust_43 : decode cX8_mostTrust 43 = .ok (.iload_n 3, 1) := by decide +kernel
theorem dX8_mostTrust_44 : decode cX8_mostTrust 44 = .ok (.iload_n 1, 1) := by decide +kernel
theorem dX8_mostTrust_45 : decode cX8_mostTrust 45 = .ok (.iload_n 2, 1) := by decide +kernel
theorem dX8_mostTrust_46 : decode cX8_mostTrust 46 = .ok (.invokevirtual 68, 3) := by decide +kernel
theorem dX8_mostTrust_49 : decode cX8_mostTrust 49 = .ok (.ifCond .eq 35, 3) := by decide +kernel
theorem dX8_mostTrust_52 : decode cX8_mostTrust 52 = .ok (.iload 4, 2) := by decide +kernel
theorem dX8_mostTrust_54 : decode cX8_mostTrust 54 = .ok (.iconst (-1), 1) := by decide +kernel
theorem dX8_mostTrust_55 : decode cX8_mostTrust 55 = .ok (.if_icmp .eq 14, 3) := by decide +kernel
theorem dX8_mostTrust_58 : decode cX8_mostTrust 58 = .ok (.aload_n 0, 1) := by decide +kernel
theorem dX8_mostTrust_59 : decode cX8_mostTrust 59 = .ok (.iload 4, 2) := by decide +kernel
theorem dX8_mostTrust_61 : decode cX8_mostTrust 61 = .ok (.iload_n 1, 1) := by decide +kernel
theorem dX8_mostTrust_62 : decode cX8_mostTrust 62 = .ok (.iload_n 2, 1) := by decide +kernel
theorem dX8_mostTrust_63 : decode cX8_mostTrust 63 = .ok (.invokevirtual 68, 3) := by decide +kernel
theorem dX8_mostTrust_66 : decode cX8_mostTrust 66 = .ok (.ifCond .eq 18, 3) := by decide +kernel
theorem dX8_mostTrust_69 : decode cX8_mostTrust 69 = .ok (.iload_n 3, 1) := by decide +kernel
theorem dX8_mostTrust_70 : decode cX8_mostTrust 70 = .ok (.iconst (-1), 1) := by decide +kernel
theorem dX8_mostTrust_71 : decode cX8_mostTrust 71 = .ok (.if_icmp .eq 9, 3) := by decide +kernel
theorem dX8_mostTrust_74 : decode cX8_mostTrust 74 = .ok (.iload_n 3, 1) := by decide +kernel
theorem dX8_mostTrust_75 : decode cX8_mostTrust 75 = .ok (.iload 4, 2) := by decide +kernel
theorem dX8_mostTrust_77 : decode cX8_mostTrust 77 = .ok (.if_icmp .eq 7, 3) := by decide +kernel
theorem dX8_mostTrust_80 : decode cX8_mostTrust 80 = .ok (.iconst 1, 1) := by decide +kernel
theorem dX8_mostTrust_81 : decode cX8_mostTrust 81 = .ok (.goto 4, 3) := by decide +kernel
theorem dX8_mostTrust_84 : decode cX8_mostTrust 84 = .ok (.iconst 0, 1) := by decide +kernel
theorem dX8_mostTrust_85 : decode cX8_mostTrust 85 = .ok (.istore 5, 2) := by decide +kernel
theorem dX8_mostTrust_87 : decode cX8_mostTrust 87 = .ok (.iload 5, 2) := by decide +kernel
theorem dX8_mostTrust_89 : decode cX8_mostTrust 89 = .ok (.ifCond .ne 5, 3) := by decide +kernel
theorem dX8_mostTrust_92 : decode cX8_mostTrust 92 = .ok (.iconst (-1), 1) := by decide +kernel
theorem dX8_mostTrust_93 : decode cX8_mostTrust 93 = .ok (.ireturn, 1) := by decide +kernel
theorem dX8_mostTrust_94 : decode cX8_mostTrust 94 = .ok (.bipush 9, 2) := by decide +kernel
theorem dX8_mostTrust_96 : decode cX8_mostTrust 96 = .ok (.istore 6, 2) := by decide +kernel
theorem dX8_mostTrust_98 : decode cX8_mostTrust 98 = .ok (.iload 6, 2) := by decide +kernel
theorem dX8_mostTrust_100 : decode cX8_mostTrust 100 = .ok (.ifCond .lt 23, 3) := by decide +kernel
theorem dX8_mostTrust_103 : decode cX8_mostTrust 103 = .ok (.aload_n 0, 1) := by decide +kernel
theorem dX8_mostTrust_104 : decode cX8_mostTrust 104 = .ok (.iload_n 1, 1) := by decide +kernel
theorem dX8_mostTrust_105 : decode cX8_mostTrust 105 = .ok (.iload 6, 2) := by decide +kernel
theorem dX8_mostTrust_107 : decode cX8_mostTrust 107 = .ok (.iload_n 3, 1) := by decide +kernel
theorem dX8_mostTrust_108 : decode cX8_mostTrust 108 = .ok (.iload 4, 2) := by decide +kernel
theorem dX8_mostTrust_110 : decode cX8_mostTrust 110 = .ok (.iload_n 2, 1) := by decide +kernel
theorem dX8_mostTrust_111 : decode cX8_mostTrust 111 = .ok (.invokevirtual 71, 3) := by decide +kernel
theorem dX8_mostTrust_114 : decode cX8_mostTrust 114 = .ok (.ifCond .eq 9, 3) := by decide +kernel
theorem dX8_mostTrust_117 : decode cX8_mostTrust 117 = .ok (.iinc 6 (-1), 3) := by decide +kernel
theorem dX8_mostTrust_120 : decode cX8_mostTrust 120 = .ok (.goto (-22), 3) := by decide +kernel
theorem dX8_mostTrust_123 : decode cX8_mostTrust 123 = .ok (.iload 6, 2) := by decide +kernel
theorem dX8_mostTrust_125 : decode cX8_mostTrust 125 = .ok (.ireturn, 1) := by decide +kernel
theorem dX8_countRows_0 : decode cX8_countRows 0 = .ok (.iload_n 1, 1) := by decide +kernel
theorem dX8_countRows_1 : decode cX8_countRows 1 = .ok (.iload_n 2, 1) := by decide +kernel
theorem dX8_countRows_2 : decode cX8_countRows 2 = .ok (.if_icmp .ge 8, 3) := by decide +kernel
theorem dX8_countRows_5 : decode cX8_countRows 5 = .ok (.iload_n 1, 1) := by decide +kernel
theorem dX8_countRows_6 : decode cX8_countRows 6 = .ok (.iconst 3, 1) := by decide +kernel
theorem dX8_countRows_7 : decode cX8_countRows 7 = .ok (.if_icmp .lt 5, 3) := by decide +kernel
theorem dX8_countRows_10 : decode cX8_countRows 10 = .ok (.iconst 1, 1) := by decide +kernel
theorem dX8_countRows_11 : decode cX8_countRows 11 = .ok (.ireturn, 1) := by decide +kernel
theorem dX8_countRows_12 : decode cX8_countRows 12 = .ok (.iconst 0, 1) := by decide +kernel
theorem dX8_countRows_13 : decode cX8_countRows 13 = .ok (.istore_n 3, 1) := by decide +kernel
theorem dX8_countRows_14 : decode cX8_countRows 14 = .ok (.iconst 0, 1) := by decide +kernel
theorem dX8_countRows_15 : decode cX8_countRows 15 = .ok (.istore 4, 2) := by decide +kernel
theorem dX8_countRows_17 : decode cX8_countRows 17 = .ok (.iload 4, 2) := by decide +kernel
theorem dX8_countRows_19 : decode cX8_countRows 19 = .ok (.aload_n 0, 1) := by decide +kernel
theorem dX8_countRows_20 : decode cX8_countRows 20 = .ok (.getfield 9, 3) := by decide +kernel
theorem dX8_countRows_23 : decode cX8_countRows 23 = .ok (.getfield 38, 3) := by decide +kernel
theorem dX8_countRows_26 : decode cX8_countRows 26 = .ok (.if_icmp .ge 83, 3) := by decide +kernel
theorem dX8_countRows_29 : decode cX8_countRows 29 = .ok (.iload 4, 2) := by decide +kernel
theorem dX8_countRows_31 : decode cX8_countRows 31 = .ok (.iconst 1, 1) := by decide +kernel
theorem dX8_countRows_32 : decode cX8_countRows 32 = .ok (.iadd, 1) := by decide +kernel
theorem dX8_countRows_33 : decode cX8_countRows 33 = .ok (.istore 5, 2) := by decide +kernel
theorem dX8_countRows_35 : decode cX8_countRows 35 = .ok (.iload 5, 2) := by decide +kernel
theorem dX8_countRows_37 : decode cX8_countRows 37 = .ok (.aload_n 0, 1) := by decide +kernel
theorem dX8_countRows_38 : decode cX8_countRows 38 = .ok (.getfield 9, 3) := by decide +kernel
theorem dX8_countRows_41 : decode cX8_countRows 41 = .ok (.getfield 38, 3) := by decide +kernel
theorem dX8_countRows_44 : decode cX8_countRows 44 = .ok (.if_icmp .ge 59, 3) := by decide +kernel
theorem dX8_countRows_47 : decode cX8_countRows 47 = .ok (.iload 4, 2) := by decide +kernel
theorem dX8_countRows_49 : decode cX8_countRows 49 = .ok (.iload 5, 2) := by decide +kernel
theorem dX8_countRows_51 : decode cX8_countRows 51 = .ok (.invokestatic 47, 3) := by decide +kernel
theorem dX8_countRows_54 : decode cX8_countRows 54 = .ok (.istore 6, 2) := by decide +kernel
theorem dX8_countRows_56 : decode cX8_countRows 56 = .ok (.aload_n 0, 1) := by decide +kernel
theorem dX8_countRows_57 : decode cX8_countRows 57 = .ok (.getfield 25, 3) := by decide +kernel
theorem dX8_countRows_60 : decode cX8_countRows 60 = .ok (.iload_n 1, 1) := by decide +kernel
theorem dX8_countRows_61 : decode cX8_countRows 61 = .ok (.aaload, 1) := by decide +kernel
theorem dX8_countRows_62 : decode cX8_countRows 62 = .ok (.iload 6, 2) := by decide +kernel
theorem dX8_countRows_64 : decode cX8_countRows 64 = .ok (.iaload, 1) := by decide +kernel
theorem dX8_countRows_65 : decode cX8_countRows 65 = .ok (.ifCond .lt 32, 3) := by decide +kernel
theorem dX8_countRows_68 : decode cX8_countRows 68 = .ok (.aload_n 0, 1) := by decide +kernel
theorem dX8_countRows_69 : decode cX8_countRows 69 = .ok (.iload 6, 2) := by decide +kernel
theorem dX8_countRows_71 : decode cX8_countRows 71 = .ok (.iload_n 1, 1) := by decide +kernel
theorem dX8_countRows_72 : decode cX8_countRows 72 = .ok (.invokevirtual 111, 3) := by decide +kernel
theorem dX8_countRows_75 : decode cX8_countRows 75 = .ok (.ifCond .eq 22, 3) := by decide +kernel
theorem dX8_countRows_78 : decode cX8_countRows 78 = .ok (.aload_n 0, 1) := by decide +kernel
theorem dX8_countRows_79 : decode cX8_countRows 79 = .ok (.getfield 28, 3) := by decide +kernel
theorem dX8_countRows_82 : decode cX8_countRows 82 = .ok (.iload_n 1, 1) := by decide +kernel
theorem dX8_countRows_83 : decode cX8_countRows 83 = .ok (.iload 6, 2) := by decide +kernel
theorem dX8_countRows_85 : decode cX8_countRows 85 = .ok (.iastore, 1) := by decide +kernel
theorem dX8_countRows_86 : decode cX8_countRows 86 = .ok (.iload_n 3, 1) := by decide +kernel
theorem dX8_countRows_87 : decode cX8_countRows 87 = .ok (.aload_n 0, 1) := by decide +kernel
theorem dX8_countRows_88 : decode cX8_countRows 88 = .ok (.iload_n 1, 1) := by decide +kernel
theorem dX8_countRows_89 : decode cX8_countRows 89 = .ok (.iconst 1, 1) := by decide +kernel
theorem dX8_countRows_90 : decode cX8_countRows 90 = .ok (.iadd, 1) := by decide +kernel
theorem dX8_countRows_91 : decode cX8_countRows 91 = .ok (.iload_n 2, 1) := by decide +kernel
theorem dX8_countRows_92 : decode cX8_countRows 92 = .ok (.invokestatic 107, 3) := by decide +kernel
theorem dX8_countRows_95 : decode cX8_countRows 95 = .ok (.iadd, 1) := by decide +kernel
theorem dX8_countRows_96 : decode cX8_countRows 96 = .ok (.istore_n 3, 1) := by decide +kernel
theorem dX8_countRows_97 : decode cX8_countRows 97 = .ok (.iinc 5 1, 3) := by decide +kernel
theorem dX8_countRows_100 : decode cX8_countRows 100 = .ok (.goto (-65), 3) := by decide +kernel
theorem dX8_countRows_103 : decode cX8_countRows 103 = .ok (.iinc 4 1, 3) := by decide +kernel
theorem dX8_countRows_106 : decode cX8_countRows 106 = .ok (.goto (-89), 3) := by decide +kernel
theorem dX8_countRows_109 : decode cX8_countRows 109 = .ok (.iload_n 3, 1) := by decide +kernel
theorem dX8_countRows_110 : decode cX8_countRows 110 = .ok (.ireturn, 1) := by decide +kernel
theorem dX8_standsBehindChosen_0 : decode cX8_standsBehindChosen 0 = .ok (.aload_n 0, 1) := by decide +kernel
theorem dX8_standsBehindChosen_1 : decode cX8_standsBehindChosen 1 = .ok (.getfield 19, 3) := by decide +kernel
theorem dX8_standsBehindChosen_4 : decode cX8_standsBehindChosen 4 = .ok (.iload_n 1, 1) := by decide +kernel
theorem dX8_standsBehindChosen_5 : decode cX8_standsBehindChosen 5 = .ok (.iaload, 1) := by decide +kernel
theorem dX8_standsBehindChosen_6 : decode cX8_standsBehindChosen 6 = .ok (.istore_n 3, 1) := by decide +kernel
theorem dX8_standsBehindChosen_7 : decode cX8_standsBehindChosen 7 = .ok (.iconst 0, 1) := by decide +kernel
theorem dX8_standsBehindChosen_8 : decode cX8_standsBehindChosen 8 = .ok (.istore 4, 2) := by decide +kernel
theorem dX8_standsBehindChosen_10 : decode cX8_standsBehindChosen 10 = .ok (.iload 4, 2) := by decide +kernel
theorem dX8_standsBehindChosen_12 : decode cX8_standsBehindChosen 12 = .ok (.iload_n 2, 1) := by decide +kernel
theorem dX8_standsBehindChosen_13 : decode cX8_standsBehindChosen 13 = .ok (.if_icmp .ge 62, 3) := by decide +kernel
theorem dX8_standsBehindChosen_16 : decode cX8_standsBehindChosen 16 = .ok (.aload_n 0, 1) := by decide +kernel
theorem dX8_standsBehindChosen_17 : decode cX8_standsBehindChosen 17 = .ok (.getfield 28, 3) := by decide +kernel
theorem dX8_standsBehindChosen_20 : decode cX8_standsBehindChosen 20 = .ok (.iload 4, 2) := by decide +kernel
theorem dX8_standsBehindChosen_22 : decode cX8_standsBehindChosen 22 = .ok (.iaload, 1) := by decide +kernel
theorem dX8_standsBehindChosen_23 : decode cX8_standsBehindChosen 23 = .ok (.iload_n 1, 1) := by decide +kernel
theorem dX8_standsBehindChosen_24 : decode cX8_standsBehindChosen 24 = .ok (.if_icmp .ne 7, 3) := by decide +kernel
theorem dX8_standsBehindChosen_27 : decode cX8_standsBehindChosen 27 = .ok (.iconst 1, 1) := by decide +kernel
theorem dX8_standsBehindChosen_28 : decode cX8_standsBehindChosen 28 = .ok (.goto 4, 3) := by decide +kernel
theorem dX8_standsBehindChosen_31 : decode cX8_standsBehindChosen 31 = .ok (.iconst 0, 1) := by decide +kernel
theorem dX8_standsBehindChosen_32 : decode cX8_standsBehindChosen 32 = .ok (.istore 5, 2) := by decide +kernel
theorem dX8_standsBehindChosen_34 : decode cX8_standsBehindChosen 34 = .ok (.iload 5, 2) := by decide +kernel
theorem dX8_standsBehindChosen_36 : decode cX8_standsBehindChosen 36 = .ok (.ifCond .eq 22, 3) := by decide +kernel
theorem dX8_standsBehindChosen_39 : decode cX8_standsBehindChosen 39 = .ok (.iload_n 2, 1) := by decide +kernel
theorem dX8_standsBehindChosen_40 : decode cX8_standsBehindChosen 40 = .ok (.iload 4, 2) := by decide +kernel
theorem dX8_standsBehindChosen_42 : decode cX8_standsBehindChosen 42 = .ok (.isub, 1) := by decide +kernel
theorem dX8_standsBehindChosen_43 : decode cX8_standsBehindChosen 43 = .ok (.aload_n 0, 1) := by decide +kernel
theorem dX8_standsBehindChosen_44 : decode cX8_standsBehindChosen 44 = .ok (.getfield 9, 3) := by decide +kernel
theorem dX8_standsBehindChosen_47 : decode cX8_standsBehindChosen 47 = .ok (.getfield 95, 3) := by decide +kernel
theorem dX8_standsBehindChosen_50 : decode cX8_standsBehindChosen 50 = .ok (.bipush 7, 2) := by decide +kernel
theorem dX8_standsBehindChosen_52 : decode cX8_standsBehindChosen 52 = .ok (.iaload, 1) := by decide +kernel
theorem dX8_standsBehindChosen_53 : decode cX8_standsBehindChosen 53 = .ok (.if_icmp .gt 5, 3) := by decide +kernel
theorem dX8_standsBehindChosen_56 : decode cX8_standsBehindChosen 56 = .ok (.iconst 0, 1) := by decide +kernel
theorem dX8_standsBehindChosen_57 : decode cX8_standsBehindChosen 57 = .ok (.ireturn, 1) := by decide +kernel
theorem dX8_standsBehindChosen_58 : decode cX8_standsBehindChosen 58 = .ok (.aload_n 0, 1) := by decide +kernel
theorem dX8_standsBehindChosen_59 : decode cX8_standsBehindChosen 59 = .ok (.getfield 15, 3) := by decide +kernel
theorem dX8_standsBehindChosen_62 : decode cX8_standsBehindChosen 62 = .ok (.iload_n 3, 1) := by decide +kernel
theorem dX8_standsBehindChosen_63 : decode cX8_standsBehindChosen 63 = .ok (.iload 5, 2) := by decide +kernel
theorem dX8_standsBehindChosen_65 : decode cX8_standsBehindChosen 65 = .ok (.invokevirtual 114, 3) := by decide +kernel
theorem dX8_standsBehindChosen_68 : decode cX8_standsBehindChosen 68 = .ok (.istore_n 3, 1) := by decide +kernel
theorem dX8_standsBehindChosen_69 : decode cX8_standsBehindChosen 69 = .ok (.iinc 4 1, 3) := by decide +kernel
theorem dX8_standsBehindChosen_72 : decode cX8_standsBehindChosen 72 = .ok (.goto (-62), 3) := by decide +kernel
theorem dX8_standsBehindChosen_75 : decode cX8_standsBehindChosen 75 = .ok (.iload_n 3, 1) := by decide +kernel
theorem dX8_standsBehindChosen_76 : decode cX8_standsBehindChosen 76 = .ok (.aload_n 0, 1) := by decide +kernel
theorem dX8_standsBehindChosen_77 : decode cX8_standsBehindChosen 77 = .ok (.getfield 25, 3) := by decide +kernel
theorem dX8_standsBehindChosen_80 : decode cX8_standsBehindChosen 80 = .ok (.iload_n 2, 1) := by decide +kernel
theorem dX8_standsBehindChosen_81 : decode cX8_standsBehindChosen 81 = .ok (.aaload, 1) := by decide +kernel
theorem dX8_standsBehindChosen_82 : decode cX8_standsBehindChosen 82 = .ok (.iload_n 1, 1) := by decide +kernel
theorem dX8_standsBehindChosen_83 : decode cX8_standsBehindChosen 83 = .ok (.iaload, 1) := by decide +kernel
theorem dX8_standsBehindChosen_84 : decode cX8_standsBehindChosen 84 = .ok (.if_icmp .gt 7, 3) := by decide +kernel
theorem dX8_standsBehindChosen_87 : decode cX8_standsBehindChosen 87 = .ok (.iconst 1, 1) := by decide +kernel
theorem dX8_standsBehindChosen_88 : decode cX8_standsBehindChosen 88 = .ok (.goto 4, 3) := by decide +kernel
theorem dX8_standsBehindChosen_91 : decode cX8_standsBehindChosen 91 = .ok (.iconst 0, 1) := by decide +kernel
theorem dX8_standsBehindChosen_92 : decode cX8_standsBehindChosen 92 = .ok (.ireturn, 1) := by decide +kernel
def fWays_maySit (z : MS) (a0 : Int32) (a1 : Int32) (a2 : Int32) : Option Int32 :=
  Option.bind (fHouse_isAway z a0 a2) (fun w6 => if w6 = 0 then Option.bind (fHouse_isAway z a1 a2) (fun w18 => if w18 = 0 then Option.bind (fHouse_areKin z a0 a1) (fun w30 => if w30 = 0 then some 1 else some 0) else some 0) else some 0)
set_option maxRecDepth 4000 in
theorem cWays_maySit (l : Launch) {z : MS} {a0 : Int32} {a1 : Int32} {a2 : Int32} {r : Int32} (h : fWays_maySit z a0 a1 a2 = some r) : CT l yX8_maySit cX8_maySit 4 (some .boolean) 1 22 (fun ad sd => [.ref (ad 19), .int a0, .int a1, .int a2]) z (some (.int r)) z := by
  rw [fWays_maySit] at h
  refine u_start RX8 rfl (by decide) (fun _ _ => Nat.le_of_ble_eq_true rfl) (fun p e s m args below meth c R D ad cs sd A Q ls X hP hS hl hr hret => ?_)
  have hl : lv_has ls 4 [(0, .ref (ad 19)), (1, .int a0), (2, .int a1), (3, .int a2)] := hl
  refine u_aload_n X hl dX8_maySit_0 0 rfl ?_
  refine gf_X8_9_19 X hP dX8_maySit_1 ?_
  refine u_iload_n X hl dX8_maySit_4 1 rfl ?_
  refine u_iload_n X hl dX8_maySit_5 3 rfl ?_
  obtain ⟨w6, hc6, h⟩ := ob_inv h
  refine u_callVi X hP hS hl dX8_maySit_6 (cHouse_isAway l hc6) cw_X8_78 io_1 rfl rfl rfl rfl ⟨rfl, rfl⟩ (fun H locs hP hS => ?_)
  refine u_if_ne 40 X dX8_maySit_9 rfl (fun hc => ?_) (fun hc => ?_)
  · rw [if_neg hc] at h
    refine u_iconst (v := 0) X dX8_maySit_40 rfl ?_
    exact u_zretP X hr hret h hP hS (Or.inl rfl) dX8_maySit_41
  · rw [if_pos hc] at h
    refine u_aload_n X hl dX8_maySit_12 0 rfl ?_
    refine gf_X8_9_19 X hP dX8_maySit_13 ?_
    refine u_iload_n X hl dX8_maySit_16 2 rfl ?_
    refine u_iload_n X hl dX8_maySit_17 3 rfl ?_
    obtain ⟨w18, hc18, h⟩ := ob_inv h
    refine u_callVi X hP hS hl dX8_maySit_18 (cHouse_isAway l hc18) cw_X8_78 io_1 rfl rfl rfl rfl ⟨rfl, rfl⟩ (fun H locs hP hS => ?_)
    refine u_if_ne 40 X dX8_maySit_21 rfl (fun hc => ?_) (fun hc => ?_)
    · rw [if_neg hc] at h
      refine u_iconst (v := 0) X dX8_maySit_40 rfl ?_
      exact u_zretP X hr hret h hP hS (Or.inl rfl) dX8_maySit_41
    · rw [if_pos hc] at h
      refine u_aload_n X hl dX8_maySit_24 0 rfl ?_
      refine gf_X8_9_19 X hP dX8_maySit_25 ?_
      refine u_iload_n X hl dX8_maySit_28 1 rfl ?_
      refine u_iload_n X hl dX8_maySit_29 2 rfl ?_
      obtain ⟨w30, hc30, h⟩ := ob_inv h
      refine u_callVi X hP hS hl dX8_maySit_30 (cHouse_areKin l hc30) cw_X8_81 io_1 rfl rfl rfl rfl ⟨rfl, rfl⟩ (fun H locs hP hS => ?_)
      refine u_if_ne 40 X dX8_maySit_33 rfl (fun hc => ?_) (fun hc => ?_)
      · rw [if_neg hc] at h
        refine u_iconst (v := 0) X dX8_maySit_40 rfl ?_
        exact u_zretP X hr hret h hP hS (Or.inl rfl) dX8_maySit_41
      · rw [if_pos hc] at h
        refine u_iconst (v := 1) X dX8_maySit_36 rfl ?_
        refine u_goto 41 X dX8_maySit_37 rfl ?_
        exact u_zretP X hr hret h hP hS (Or.inr rfl) dX8_maySit_41
def fWays_change (z : MS) (a0 : Int32) (a1 : Int32) (a2 : Int32) : Option Int32 :=
  Option.bind (fHouse_at z a0 a1) (fun w6 => if w6 = a2 then some 0 else some 1)
set_option maxRecDepth 4000 in
theorem cWays_change (l : Launch) {z : MS} {a0 : Int32} {a1 : Int32} {a2 : Int32} {r : Int32} (h : fWays_change z a0 a1 a2 = some r) : CT l yX8_change cX8_change 4 (some .int) 1 22 (fun ad sd => [.ref (ad 19), .int a0, .int a1, .int a2]) z (some (.int r)) z := by
  rw [fWays_change] at h
  refine u_start RX8 rfl (by decide) (fun _ _ => Nat.le_of_ble_eq_true rfl) (fun p e s m args below meth c R D ad cs sd A Q ls X hP hS hl hr hret => ?_)
  have hl : lv_has ls 4 [(0, .ref (ad 19)), (1, .int a0), (2, .int a1), (3, .int a2)] := hl
  refine u_aload_n X hl dX8_change_0 0 rfl ?_
  refine gf_X8_9_19 X hP dX8_change_1 ?_
  refine u_iload_n X hl dX8_change_4 1 rfl ?_
  refine u_iload_n X hl dX8_change_5 2 rfl ?_
  obtain ⟨w6, hc6, h⟩ := ob_inv h
  refine u_callVi X hP hS hl dX8_change_6 (cHouse_at l hc6) cw_X8_75 io_1 rfl rfl rfl rfl ⟨rfl, rfl⟩ (fun H locs hP hS => ?_)
  refine u_iload_n X hl dX8_change_9 3 rfl ?_
  refine u_icmp_ne 17 X dX8_change_10 rfl (fun hc => ?_) (fun hc => ?_)
  · rw [if_neg hc] at h
    refine u_iconst (v := 1) X dX8_change_17 rfl ?_
    exact u_iretP X hr hret h hP hS dX8_change_18
  · rw [if_pos hc] at h
    refine u_iconst (v := 0) X dX8_change_13 rfl ?_
    refine u_goto 18 X dX8_change_14 rfl ?_
    exact u_iretP X hr hret h hP hS dX8_change_18
def fWays_isFree (z : MS) (a0 : Int32) (a1 : Int32) (a2 : Int32) : Option Int32 :=
  if a0 = (a1 / 8) then some 0 else (if a0 = (irm a1 8) then some 0 else Option.bind (fHouse_isAway z a0 a2) (fun w22 => if w22 = 0 then some 1 else some 0))
set_option maxRecDepth 4000 in
theorem cWays_isFree (l : Launch) {z : MS} {a0 : Int32} {a1 : Int32} {a2 : Int32} {r : Int32} (h : fWays_isFree z a0 a1 a2 = some r) : CT l yX8_isFree cX8_isFree 4 (some .boolean) 1 22 (fun ad sd => [.ref (ad 19), .int a0, .int a1, .int a2]) z (some (.int r)) z := by
  rw [fWays_isFree] at h
  refine u_start RX8 rfl (by decide) (fun _ _ => Nat.le_of_ble_eq_true rfl) (fun p e s m args below meth c R D ad cs sd A Q ls X hP hS hl hr hret => ?_)
  have hl : lv_has ls 4 [(0, .ref (ad 19)), (1, .int a0), (2, .int a1), (3, .int a2)] := hl
  refine u_iload_n X hl dX8_isFree_0 1 rfl ?_
  refine u_iload_n X hl dX8_isFree_1 2 rfl ?_
  refine u_bipush (v := 8) X dX8_isFree_2 rfl ?_
  refine u_idiv X (by decide) dX8_isFree_4 ?_
  refine u_icmp_eq 32 X dX8_isFree_5 rfl (fun hc => ?_) (fun hc => ?_)
  · rw [if_pos hc] at h
    refine u_iconst (v := 0) X dX8_isFree_32 rfl ?_
    exact u_zretP X hr hret h hP hS (Or.inl rfl) dX8_isFree_33
  · rw [if_neg hc] at h
    refine u_iload_n X hl dX8_isFree_8 1 rfl ?_
    refine u_iload_n X hl dX8_isFree_9 2 rfl ?_
    refine u_bipush (v := 8) X dX8_isFree_10 rfl ?_
    refine u_irem X (by decide) dX8_isFree_12 ?_
    refine u_icmp_eq 32 X dX8_isFree_13 rfl (fun hc => ?_) (fun hc => ?_)
    · rw [if_pos hc] at h
      refine u_iconst (v := 0) X dX8_isFree_32 rfl ?_
      exact u_zretP X hr hret h hP hS (Or.inl rfl) dX8_isFree_33
    · rw [if_neg hc] at h
      refine u_aload_n X hl dX8_isFree_16 0 rfl ?_
      refine gf_X8_9_19 X hP dX8_isFree_17 ?_
      refine u_iload_n X hl dX8_isFree_20 1 rfl ?_
      refine u_iload_n X hl dX8_isFree_21 3 rfl ?_
      obtain ⟨w22, hc22, h⟩ := ob_inv h
      refine u_callVi X hP hS hl dX8_isFree_22 (cHouse_isAway l hc22) cw_X8_78 io_1 rfl rfl rfl rfl ⟨rfl, rfl⟩ (fun H locs hP hS => ?_)
      refine u_if_ne 32 X dX8_isFree_25 rfl (fun hc => ?_) (fun hc => ?_)
      · rw [if_neg hc] at h
        refine u_iconst (v := 0) X dX8_isFree_32 rfl ?_
        exact u_zretP X hr hret h hP hS (Or.inl rfl) dX8_isFree_33
      · rw [if_pos hc] at h
        refine u_iconst (v := 1) X dX8_isFree_28 rfl ?_
        refine u_goto 33 X dX8_isFree_29 rfl ?_
        exact u_zretP X hr hret h hP hS (Or.inr rfl) dX8_isFree_33
def fWays_wouldPay (z : MS) (a0 : Int32) (a1 : Int32) (a2 : Int32) (a3 : Int32) (a4 : Int32) : Option Int32 :=
  Option.bind (fJudge_seenOf z a0 a2 a3 (fHouse_hasSurprise z a4)) (fun w17 => some (fJudge_isPaying (fJudge_worthOf z a1 w17) (gI z 5 6)))
set_option maxRecDepth 4000 in
theorem cWays_wouldPay (l : Launch) {z : MS} {a0 : Int32} {a1 : Int32} {a2 : Int32} {a3 : Int32} {a4 : Int32} {r : Int32} (h : fWays_wouldPay z a0 a1 a2 a3 a4 = some r) : CT l yX8_wouldPay cX8_wouldPay 7 (some .boolean) 2 49 (fun ad sd => [.ref (ad 19), .int a0, .int a1, .int a2, .int a3, .int a4]) z (some (.int r)) z := by
  rw [fWays_wouldPay] at h
  refine u_start RX8 rfl (by decide) (fun _ _ => Nat.le_of_ble_eq_true rfl) (fun p e s m args below meth c R D ad cs sd A Q ls X hP hS hl hr hret => ?_)
  have hl : lv_has ls 7 [(0, .ref (ad 19)), (1, .int a0), (2, .int a1), (3, .int a2), (4, .int a3), (5, .int a4)] := hl
  refine u_aload_n X hl dX8_wouldPay_0 0 rfl ?_
  refine gf_X8_15_19 X hP dX8_wouldPay_1 ?_
  refine u_iload_n X hl dX8_wouldPay_4 1 rfl ?_
  refine u_iload_n X hl dX8_wouldPay_5 3 rfl ?_
  refine u_iload X hl dX8_wouldPay_6 4 rfl ?_
  refine u_aload_n X hl dX8_wouldPay_8 0 rfl ?_
  refine gf_X8_9_19 X hP dX8_wouldPay_9 ?_
  refine u_iload X hl dX8_wouldPay_12 5 rfl ?_
  refine u_callVi X hP hS hl dX8_wouldPay_14 (cHouse_hasSurprise l z a4) cw_X8_84 io_1 rfl rfl rfl rfl ⟨rfl, rfl⟩ (fun H locs hP hS => ?_)
  obtain ⟨w17, hc17, h⟩ := ob_inv h
  refine u_callVi X hP hS hl dX8_wouldPay_17 (cJudge_seenOf l hc17) cw_X8_88 io_17 rfl rfl rfl rfl ⟨rfl, rfl⟩ (fun H locs hP hS => ?_)
  refine u_istore [(6, .int w17), (0, .ref (ad 19)), (1, .int a0), (2, .int a1), (3, .int a2), (4, .int a3), (5, .int a4)] X hl dX8_wouldPay_20 (Nat.le_of_ble_eq_true rfl) rfl (fun ls hl => ?_)
  refine u_aload_n X hl dX8_wouldPay_22 1 rfl ?_
  refine gf_X8_15_19 X hP dX8_wouldPay_23 ?_
  refine u_aload_n X hl dX8_wouldPay_26 1 rfl ?_
  refine gf_X8_15_19 X hP dX8_wouldPay_27 ?_
  refine u_iload_n X hl dX8_wouldPay_30 3 rfl ?_
  refine u_iload X hl dX8_wouldPay_31 0 rfl ?_
  refine u_callVi X hP hS hl dX8_wouldPay_33 (cJudge_worthOf l z a1 w17) cw_X8_92 io_17 rfl rfl rfl rfl ⟨rfl, rfl⟩ (fun H locs hP hS => ?_)
  refine u_aload_n X hl dX8_wouldPay_36 1 rfl ?_
  refine gf_X8_9_19 X hP dX8_wouldPay_37 ?_
  refine gf_X8_95_1 X hP dX8_wouldPay_40 ?_
  refine u_bipush (v := 6) X dX8_wouldPay_43 rfl ?_
  refine ld_5 (w := 6) X hP rfl (by decide) dX8_wouldPay_45 ?_
  refine u_callVi X hP hS hl dX8_wouldPay_46 (cJudge_isPaying l z (fJudge_worthOf z a1 w17) (gI z 5 6)) cw_X8_98 io_17 rfl rfl rfl rfl ⟨rfl, rfl⟩ (fun H locs hP hS => ?_)
  exact u_zretP X hr hret h hP hS (fJudge_isPaying_b _ _) dX8_wouldPay_49
def fWays_mendBy_L54 (K39 : MS → Int32 → Option MS) (l1 : Int32) (l2 : Int32) (l3 : Int32) (l4 : Int32) (l5 : Int32) (l6 : Int32) (l7 : Int32) : Nat → MS → Int32 → Option MS
  | 0, _, _ => none
  | n + 1, z, l8 => if (gI z 1 0) ≤ l8 then K39 z (l7 + 1) else Option.bind (fWays_change z l1 2 l7) (fun w73 => Option.bind (fWays_change z l1 3 l8) (fun w82 => if (gI z 19 5) ≤ ((l6 + w73) + w82) then fWays_mendBy_L54 K39 l1 l2 l3 l4 l5 l6 l7 n z (l8 + 1) else (if l7 = l8 then fWays_mendBy_L54 K39 l1 l2 l3 l4 l5 l6 l7 n z (l8 + 1) else Option.bind (fWays_isFree z l7 l4 l1) (fun w110 => if w110 = 0 then fWays_mendBy_L54 K39 l1 l2 l3 l4 l5 l6 l7 n z (l8 + 1) else Option.bind (fWays_isFree z l8 l4 l1) (fun w122 => if w122 = 0 then fWays_mendBy_L54 K39 l1 l2 l3 l4 l5 l6 l7 n z (l8 + 1) else Option.bind (fWays_wouldPay z l4 l5 l7 l8 l1) (fun w138 => if w138 = 0 then fWays_mendBy_L54 K39 l1 l2 l3 l4 l5 l6 l7 n (pI (pI z 19 5 ((l6 + w73) + w82)) 19 6 (((l2 ||| (l3 <<< (3 &&& 31))) ||| (l7 <<< (6 &&& 31))) ||| (l8 <<< (9 &&& 31)))) (l8 + 1) else fWays_mendBy_L54 K39 l1 l2 l3 l4 l5 l6 l7 n z (l8 + 1)))))))
def fWays_mendBy_L39 (l1 : Int32) (l2 : Int32) (l3 : Int32) (l4 : Int32) (l5 : Int32) (l6 : Int32) : Nat → MS → Int32 → Option MS
  | 0, _, _ => none
  | n + 1, z, l7 => if (gI z 1 0) ≤ l7 then some z else fWays_mendBy_L54 (fWays_mendBy_L39 l1 l2 l3 l4 l5 l6 n) l1 l2 l3 l4 l5 l6 l7 LF z 0
def fWays_mendBy (z : MS) (a0 : Int32) (a1 : Int32) (a2 : Int32) : Option MS :=
  Option.bind (fJudge_trustOfPair z (fHouse_pairOf a1 a2) a0) (fun w14 => Option.bind (fWays_change z a0 0 a1) (fun w23 => Option.bind (fWays_change z a0 1 a2) (fun w30 => fWays_mendBy_L39 a0 a1 a2 (fHouse_pairOf a1 a2) w14 (w23 + w30) LF z 0)))
set_option maxRecDepth 4000 in
theorem cWays_mendBy (l : Launch) {z : MS} {a0 : Int32} {a1 : Int32} {a2 : Int32} {z1 : MS} (h : fWays_mendBy z a0 a1 a2 = some z1) : CT l yX8_mendBy cX8_mendBy 10 none 3 75 (fun ad sd => [.ref (ad 19), .int a0, .int a1, .int a2]) z none z1 := by
  rw [fWays_mendBy] at h
  refine u_start RX8 rfl (by decide) (fun _ _ => Nat.le_of_ble_eq_true rfl) (fun p e s m args below meth c R D ad cs sd A Q ls X hP hS hl hr hret => ?_)
  have hl : lv_has ls 10 [(0, .ref (ad 19)), (1, .int a0), (2, .int a1), (3, .int a2)] := hl
  refine u_iload_n X hl dX8_mendBy_0 2 rfl ?_
  refine u_iload_n X hl dX8_mendBy_1 3 rfl ?_
  refine u_callSi X hP hS hl dX8_mendBy_2 (cHouse_pairOf l z a1 a2) cw_X8_47 rfl rfl rfl rfl ⟨rfl, rfl⟩ (fun H locs hP hS => ?_)
  refine u_istore [(4, .int (fHouse_pairOf a1 a2)), (0, .ref (ad 19)), (1, .int a0), (2, .int a1), (3, .int a2)] X hl dX8_mendBy_5 (Nat.le_of_ble_eq_true rfl) rfl (fun ls hl => ?_)
  refine u_aload_n X hl dX8_mendBy_7 1 rfl ?_
  refine gf_X8_15_19 X hP dX8_mendBy_8 ?_
  refine u_iload X hl dX8_mendBy_11 0 rfl ?_
  refine u_iload_n X hl dX8_mendBy_13 2 rfl ?_
  obtain ⟨w14, hc14, h⟩ := ob_inv h
  refine u_callVi X hP hS hl dX8_mendBy_14 (cJudge_trustOfPair l hc14) cw_X8_59 io_17 rfl rfl rfl rfl ⟨rfl, rfl⟩ (fun H locs hP hS => ?_)
  refine u_istore [(5, .int w14), (4, .int (fHouse_pairOf a1 a2)), (0, .ref (ad 19)), (1, .int a0), (2, .int a1), (3, .int a2)] X hl dX8_mendBy_17 (Nat.le_of_ble_eq_true rfl) rfl (fun ls hl => ?_)
  refine u_aload_n X hl dX8_mendBy_19 2 rfl ?_
  refine u_iload_n X hl dX8_mendBy_20 3 rfl ?_
  refine u_iconst (v := 0) X dX8_mendBy_21 rfl ?_
  refine u_iload_n X hl dX8_mendBy_22 4 rfl ?_
  obtain ⟨w23, hc23, h⟩ := ob_inv h
  refine u_callVi X hP hS hl dX8_mendBy_23 (cWays_change l hc23) cw_X8_64 io_19 rfl rfl rfl rfl ⟨rfl, rfl⟩ (fun H locs hP hS => ?_)
  refine u_aload_n X hl dX8_mendBy_26 2 rfl ?_
  refine u_iload_n X hl dX8_mendBy_27 3 rfl ?_
  refine u_iconst (v := 1) X dX8_mendBy_28 rfl ?_
  refine u_iload_n X hl dX8_mendBy_29 5 rfl ?_
  obtain ⟨w30, hc30, h⟩ := ob_inv h
  refine u_callVi X hP hS hl dX8_mendBy_30 (cWays_change l hc30) cw_X8_64 io_19 rfl rfl rfl rfl ⟨rfl, rfl⟩ (fun H locs hP hS => ?_)
  refine u_iadd X dX8_mendBy_33 ?_
  refine u_istore [(6, .int (w23 + w30)), (5, .int w14), (4, .int (fHouse_pairOf a1 a2)), (0, .ref (ad 19)), (1, .int a0), (2, .int a1), (3, .int a2)] X hl dX8_mendBy_34 (Nat.le_of_ble_eq_true rfl) rfl (fun ls hl => ?_)
  refine u_iconst (v := 0) X dX8_mendBy_36 rfl ?_
  refine u_istore [(7, .int 0), (6, .int (w23 + w30)), (5, .int w14), (4, .int (fHouse_pairOf a1 a2)), (0, .ref (ad 19)), (1, .int a0), (2, .int a1), (3, .int a2)] X hl dX8_mendBy_37 (Nat.le_of_ble_eq_true rfl) rfl (fun ls hl => ?_)
  have L39 : ∀ (n : Nat) (H : Heap) (locs : List Loc) (ls : Array Slot) (z_39 : MS) (l7_39 : Int32), lv_has ls 10 [(0, .ref (ad 19)), (1, .int a0), (2, .int a1), (3, .int a2), (4, .int (fHouse_pairOf a1 a2)), (5, .int w14), (6, .int (w23 + w30)), (7, .int l7_39)] → va_P D clss (wld cs ad z_39) H → va_S A s.heap H locs → fWays_mendBy_L39 a0 a1 a2 (fHouse_pairOf a1 a2) w14 (w23 + w30) n z_39 l7_39 = some z1 → W p l e R s m args below meth c H locs 0 0 Q (F0 m 39 ls []) := by
    intro n
    induction n with
    | zero =>
      intro H locs ls z_39 l7_39 hl hP hS h
      rw [fWays_mendBy_L39] at h
      cases h
    | succ n39 ih39 =>
      intro H locs ls z_39 l7_39 hl hP hS h
      rw [fWays_mendBy_L39] at h
      refine u_iload X hl dX8_mendBy_39 7 rfl ?_
      refine u_aload_n X hl dX8_mendBy_41 0 rfl ?_
      refine gf_X8_9_19 X hP dX8_mendBy_42 ?_
      refine gf_X8_38_1 X hP dX8_mendBy_45 ?_
      refine u_icmp_ge 183 X dX8_mendBy_48 rfl (fun hc => ?_) (fun hc => ?_)
      · rw [if_pos hc] at h
        exact u_vretM X hr hret h hP hS dX8_mendBy_183
      · rw [if_neg hc] at h
        refine u_iconst (v := 0) X dX8_mendBy_51 rfl ?_
        refine u_istore [(8, .int 0), (0, .ref (ad 19)), (1, .int a0), (2, .int a1), (3, .int a2), (4, .int (fHouse_pairOf a1 a2)), (5, .int w14), (6, .int (w23 + w30)), (7, .int l7_39)] X hl dX8_mendBy_52 (Nat.le_of_ble_eq_true rfl) rfl (fun ls hl => ?_)
        have L54 : ∀ (n : Nat) (H : Heap) (locs : List Loc) (ls : Array Slot) (z_54 : MS) (l8_54 : Int32), lv_has ls 10 [(0, .ref (ad 19)), (1, .int a0), (2, .int a1), (3, .int a2), (4, .int (fHouse_pairOf a1 a2)), (5, .int w14), (6, .int (w23 + w30)), (7, .int l7_39), (8, .int l8_54)] → va_P D clss (wld cs ad z_54) H → va_S A s.heap H locs → fWays_mendBy_L54 (fWays_mendBy_L39 a0 a1 a2 (fHouse_pairOf a1 a2) w14 (w23 + w30) n39) a0 a1 a2 (fHouse_pairOf a1 a2) w14 (w23 + w30) l7_39 n z_54 l8_54 = some z1 → W p l e R s m args below meth c H locs 0 0 Q (F0 m 54 ls []) := by
          intro n
          induction n with
          | zero =>
            intro H locs ls z_54 l8_54 hl hP hS h
            rw [fWays_mendBy_L54] at h
            cases h
          | succ n54 ih54 =>
            intro H locs ls z_54 l8_54 hl hP hS h
            rw [fWays_mendBy_L54] at h
            refine u_iload X hl dX8_mendBy_54 8 rfl ?_
            refine u_aload_n X hl dX8_mendBy_56 0 rfl ?_
            refine gf_X8_9_19 X hP dX8_mendBy_57 ?_
            refine gf_X8_38_1 X hP dX8_mendBy_60 ?_
            refine u_icmp_ge 177 X dX8_mendBy_63 rfl (fun hc => ?_) (fun hc => ?_)
            · rw [if_pos hc] at h
              refine u_iinc [(7, .int (l7_39 + 1)), (0, .ref (ad 19)), (1, .int a0), (2, .int a1), (3, .int a2), (4, .int (fHouse_pairOf a1 a2)), (5, .int w14), (6, .int (w23 + w30)), (8, .int l8_54)] X hl dX8_mendBy_177 7 rfl rfl (Nat.le_of_ble_eq_true rfl) rfl (fun ls hl => ?_)
              refine u_goto 39 X dX8_mendBy_180 rfl ?_
              exact ih39 _ _ _ _ _ (lv_sub hl [1, 2, 3, 4, 5, 6, 7, 0] rfl) hP hS h
            · rw [if_neg hc] at h
              refine u_iload X hl dX8_mendBy_66 6 rfl ?_
              refine u_aload_n X hl dX8_mendBy_68 0 rfl ?_
              refine u_iload_n X hl dX8_mendBy_69 1 rfl ?_
              refine u_iconst (v := 2) X dX8_mendBy_70 rfl ?_
              refine u_iload X hl dX8_mendBy_71 7 rfl ?_
              obtain ⟨w73, hc73, h⟩ := ob_inv h
              refine u_callVi X hP hS hl dX8_mendBy_73 (cWays_change l hc73) cw_X8_64 io_19 rfl rfl rfl rfl ⟨rfl, rfl⟩ (fun H locs hP hS => ?_)
              refine u_iadd X dX8_mendBy_76 ?_
              refine u_aload_n X hl dX8_mendBy_77 0 rfl ?_
              refine u_iload_n X hl dX8_mendBy_78 1 rfl ?_
              refine u_iconst (v := 3) X dX8_mendBy_79 rfl ?_
              refine u_iload X hl dX8_mendBy_80 8 rfl ?_
              obtain ⟨w82, hc82, h⟩ := ob_inv h
              refine u_callVi X hP hS hl dX8_mendBy_82 (cWays_change l hc82) cw_X8_64 io_19 rfl rfl rfl rfl ⟨rfl, rfl⟩ (fun H locs hP hS => ?_)
              refine u_iadd X dX8_mendBy_85 ?_
              refine u_istore [(9, .int (((w23 + w30) + w73) + w82)), (0, .ref (ad 19)), (1, .int a0), (2, .int a1), (3, .int a2), (4, .int (fHouse_pairOf a1 a2)), (5, .int w14), (6, .int (w23 + w30)), (7, .int l7_39), (8, .int l8_54)] X hl dX8_mendBy_86 (Nat.le_of_ble_eq_true rfl) rfl (fun ls hl => ?_)
              refine u_iload X hl dX8_mendBy_88 0 rfl ?_
              refine u_aload_n X hl dX8_mendBy_90 1 rfl ?_
              refine gf_X8_31_19 X hP dX8_mendBy_91 ?_
              refine u_icmp_ge 171 X dX8_mendBy_94 rfl (fun hc => ?_) (fun hc => ?_)
              · rw [if_pos hc] at h
                refine u_iinc [(8, .int (l8_54 + 1)), (9, .int (((w23 + w30) + w73) + w82)), (0, .ref (ad 19)), (1, .int a0), (2, .int a1), (3, .int a2), (4, .int (fHouse_pairOf a1 a2)), (5, .int w14), (6, .int (w23 + w30)), (7, .int l7_39)] X hl dX8_mendBy_171 9 rfl rfl (Nat.le_of_ble_eq_true rfl) rfl (fun ls hl => ?_)
                refine u_goto 54 X dX8_mendBy_174 rfl ?_
                exact ih54 _ _ _ _ _ (lv_sub hl [2, 3, 4, 5, 6, 7, 8, 9, 0] rfl) hP hS h
              · rw [if_neg hc] at h
                refine u_iload X hl dX8_mendBy_97 8 rfl ?_
                refine u_iload X hl dX8_mendBy_99 9 rfl ?_
                refine u_icmp_eq 171 X dX8_mendBy_101 rfl (fun hc => ?_) (fun hc => ?_)
                · rw [if_pos hc] at h
                  refine u_iinc [(8, .int (l8_54 + 1)), (9, .int (((w23 + w30) + w73) + w82)), (0, .ref (ad 19)), (1, .int a0), (2, .int a1), (3, .int a2), (4, .int (fHouse_pairOf a1 a2)), (5, .int w14), (6, .int (w23 + w30)), (7, .int l7_39)] X hl dX8_mendBy_171 9 rfl rfl (Nat.le_of_ble_eq_true rfl) rfl (fun ls hl => ?_)
                  refine u_goto 54 X dX8_mendBy_174 rfl ?_
                  exact ih54 _ _ _ _ _ (lv_sub hl [2, 3, 4, 5, 6, 7, 8, 9, 0] rfl) hP hS h
                · rw [if_neg hc] at h
                  refine u_aload_n X hl dX8_mendBy_104 1 rfl ?_
                  refine u_iload X hl dX8_mendBy_105 8 rfl ?_
                  refine u_iload X hl dX8_mendBy_107 5 rfl ?_
                  refine u_iload_n X hl dX8_mendBy_109 2 rfl ?_
                  obtain ⟨w110, hc110, h⟩ := ob_inv h
                  refine u_callVi X hP hS hl dX8_mendBy_110 (cWays_isFree l hc110) cw_X8_68 io_19 rfl rfl rfl rfl ⟨rfl, rfl⟩ (fun H locs hP hS => ?_)
                  refine u_if_eq 171 X dX8_mendBy_113 rfl (fun hc => ?_) (fun hc => ?_)
                  · rw [if_pos hc] at h
                    refine u_iinc [(8, .int (l8_54 + 1)), (9, .int (((w23 + w30) + w73) + w82)), (0, .ref (ad 19)), (1, .int a0), (2, .int a1), (3, .int a2), (4, .int (fHouse_pairOf a1 a2)), (5, .int w14), (6, .int (w23 + w30)), (7, .int l7_39)] X hl dX8_mendBy_171 9 rfl rfl (Nat.le_of_ble_eq_true rfl) rfl (fun ls hl => ?_)
                    refine u_goto 54 X dX8_mendBy_174 rfl ?_
                    exact ih54 _ _ _ _ _ (lv_sub hl [2, 3, 4, 5, 6, 7, 8, 9, 0] rfl) hP hS h
                  · rw [if_neg hc] at h
                    refine u_aload_n X hl dX8_mendBy_116 1 rfl ?_
                    refine u_iload X hl dX8_mendBy_117 9 rfl ?_
                    refine u_iload X hl dX8_mendBy_119 5 rfl ?_
                    refine u_iload_n X hl dX8_mendBy_121 2 rfl ?_
                    obtain ⟨w122, hc122, h⟩ := ob_inv h
                    refine u_callVi X hP hS hl dX8_mendBy_122 (cWays_isFree l hc122) cw_X8_68 io_19 rfl rfl rfl rfl ⟨rfl, rfl⟩ (fun H locs hP hS => ?_)
                    refine u_if_eq 171 X dX8_mendBy_125 rfl (fun hc => ?_) (fun hc => ?_)
                    · rw [if_pos hc] at h
                      refine u_iinc [(8, .int (l8_54 + 1)), (9, .int (((w23 + w30) + w73) + w82)), (0, .ref (ad 19)), (1, .int a0), (2, .int a1), (3, .int a2), (4, .int (fHouse_pairOf a1 a2)), (5, .int w14), (6, .int (w23 + w30)), (7, .int l7_39)] X hl dX8_mendBy_171 9 rfl rfl (Nat.le_of_ble_eq_true rfl) rfl (fun ls hl => ?_)
                      refine u_goto 54 X dX8_mendBy_174 rfl ?_
                      exact ih54 _ _ _ _ _ (lv_sub hl [2, 3, 4, 5, 6, 7, 8, 9, 0] rfl) hP hS h
                    · rw [if_neg hc] at h
                      refine u_aload_n X hl dX8_mendBy_128 1 rfl ?_
                      refine u_iload X hl dX8_mendBy_129 5 rfl ?_
                      refine u_iload X hl dX8_mendBy_131 6 rfl ?_
                      refine u_iload X hl dX8_mendBy_133 8 rfl ?_
                      refine u_iload X hl dX8_mendBy_135 9 rfl ?_
                      refine u_iload_n X hl dX8_mendBy_137 2 rfl ?_
                      obtain ⟨w138, hc138, h⟩ := ob_inv h
                      refine u_callVi X hP hS hl dX8_mendBy_138 (cWays_wouldPay l hc138) cw_X8_71 io_19 rfl rfl rfl rfl ⟨rfl, rfl⟩ (fun H locs hP hS => ?_)
                      refine u_if_ne 171 X dX8_mendBy_141 rfl (fun hc => ?_) (fun hc => ?_)
                      · rw [if_neg hc] at h
                        refine u_iinc [(8, .int (l8_54 + 1)), (9, .int (((w23 + w30) + w73) + w82)), (0, .ref (ad 19)), (1, .int a0), (2, .int a1), (3, .int a2), (4, .int (fHouse_pairOf a1 a2)), (5, .int w14), (6, .int (w23 + w30)), (7, .int l7_39)] X hl dX8_mendBy_171 9 rfl rfl (Nat.le_of_ble_eq_true rfl) rfl (fun ls hl => ?_)
                        refine u_goto 54 X dX8_mendBy_174 rfl ?_
                        exact ih54 _ _ _ _ _ (lv_sub hl [2, 3, 4, 5, 6, 7, 8, 9, 0] rfl) hP hS h
                      · rw [if_pos hc] at h
                        refine u_aload_n X hl dX8_mendBy_144 1 rfl ?_
                        refine u_iload X hl dX8_mendBy_145 0 rfl ?_
                        refine pf_X8_31_19 X hP hS dX8_mendBy_147 (fun H locs hP hS => ?_)
                        refine u_aload_n X hl dX8_mendBy_150 1 rfl ?_
                        refine u_iload_n X hl dX8_mendBy_151 3 rfl ?_
                        refine u_iload_n X hl dX8_mendBy_152 4 rfl ?_
                        refine u_iconst (v := 3) X dX8_mendBy_153 rfl ?_
                        refine u_ishl X dX8_mendBy_154 ?_
                        refine u_ior X dX8_mendBy_155 ?_
                        refine u_iload X hl dX8_mendBy_156 8 rfl ?_
                        refine u_bipush (v := 6) X dX8_mendBy_158 rfl ?_
                        refine u_ishl X dX8_mendBy_160 ?_
                        refine u_ior X dX8_mendBy_161 ?_
                        refine u_iload X hl dX8_mendBy_162 9 rfl ?_
                        refine u_bipush (v := 9) X dX8_mendBy_164 rfl ?_
                        refine u_ishl X dX8_mendBy_166 ?_
                        refine u_ior X dX8_mendBy_167 ?_
                        refine pf_X8_35_19 X hP hS dX8_mendBy_168 (fun H locs hP hS => ?_)
                        refine u_iinc [(8, .int (l8_54 + 1)), (9, .int (((w23 + w30) + w73) + w82)), (0, .ref (ad 19)), (1, .int a0), (2, .int a1), (3, .int a2), (4, .int (fHouse_pairOf a1 a2)), (5, .int w14), (6, .int (w23 + w30)), (7, .int l7_39)] X hl dX8_mendBy_171 9 rfl rfl (Nat.le_of_ble_eq_true rfl) rfl (fun ls hl => ?_)
                        refine u_goto 54 X dX8_mendBy_174 rfl ?_
                        exact ih54 _ _ _ _ _ (lv_sub hl [2, 3, 4, 5, 6, 7, 8, 9, 0] rfl) hP hS h
        exact L54 LF _ _ _ _ _ (lv_sub hl [1, 2, 3, 4, 5, 6, 7, 8, 0] rfl) hP hS h
  exact L39 LF _ _ _ _ _ (lv_sub hl [4, 5, 6, 7, 3, 2, 1, 0] rfl) hP hS h
def fWays_mend_L20 (K7 : MS → Int32 → Option (Int32 × MS)) (l1 : Int32) (l2 : Int32) : Nat → MS → Int32 → Option (Int32 × MS)
  | 0, _, _ => none
  | n + 1, z, l3 => if (gI z 1 0) ≤ l3 then K7 z (l2 + 1) else (if l2 = l3 then fWays_mend_L20 K7 l1 l2 n z (l3 + 1) else Option.bind (fWays_maySit z l2 l3 l1) (fun w40 => if w40 = 0 then fWays_mend_L20 K7 l1 l2 n z (l3 + 1) else Option.bind (fHouse_satInGap z (fHouse_pairOf l2 l3) l1) (fun w56 => if w56 = 0 then Option.bind (fWays_mendBy z l1 l2 l3) (fun zc66 => fWays_mend_L20 K7 l1 l2 n zc66 (l3 + 1)) else fWays_mend_L20 K7 l1 l2 n z (l3 + 1))))
def fWays_mend_L7 (l1 : Int32) : Nat → MS → Int32 → Option (Int32 × MS)
  | 0, _, _ => none
  | n + 1, z, l2 => if (gI z 1 0) ≤ l2 then (if 4 < (gI z 19 5) then some (0, z) else some (1, z)) else fWays_mend_L20 (fWays_mend_L7 l1 n) l1 l2 LF z 0
def fWays_mend (z : MS) (a0 : Int32) : Option (Int32 × MS) :=
  fWays_mend_L7 a0 LF (pI z 19 5 5) 0
set_option maxRecDepth 4000 in
theorem cWays_mend (l : Launch) {z : MS} {a0 : Int32} {r : Int32} {z1 : MS} (h : fWays_mend z a0 = some (r, z1)) : CT l yX8_mend cX8_mend 4 (some .boolean) 4 104 (fun ad sd => [.ref (ad 19), .int a0]) z (some (.int r)) z1 := by
  rw [fWays_mend] at h
  refine u_start RX8 rfl (by decide) (fun _ _ => Nat.le_of_ble_eq_true rfl) (fun p e s m args below meth c R D ad cs sd A Q ls X hP hS hl hr hret => ?_)
  have hl : lv_has ls 4 [(0, .ref (ad 19)), (1, .int a0)] := hl
  refine u_aload_n X hl dX8_mend_0 0 rfl ?_
  refine u_iconst (v := 5) X dX8_mend_1 rfl ?_
  refine pf_X8_31_19 X hP hS dX8_mend_2 (fun H locs hP hS => ?_)
  refine u_iconst (v := 0) X dX8_mend_5 rfl ?_
  refine u_istore_n [(2, .int 0), (0, .ref (ad 19)), (1, .int a0)] X hl dX8_mend_6 (Nat.le_of_ble_eq_true rfl) rfl (fun ls hl => ?_)
  have L7 : ∀ (n : Nat) (H : Heap) (locs : List Loc) (ls : Array Slot) (z_7 : MS) (l2_7 : Int32), lv_has ls 4 [(0, .ref (ad 19)), (1, .int a0), (2, .int l2_7)] → va_P D clss (wld cs ad z_7) H → va_S A s.heap H locs → fWays_mend_L7 a0 n z_7 l2_7 = some (r, z1) → W p l e R s m args below meth c H locs 0 0 Q (F0 m 7 ls []) := by
    intro n
    induction n with
    | zero =>
      intro H locs ls z_7 l2_7 hl hP hS h
      rw [fWays_mend_L7] at h
      cases h
    | succ n7 ih7 =>
      intro H locs ls z_7 l2_7 hl hP hS h
      rw [fWays_mend_L7] at h
      refine u_iload_n X hl dX8_mend_7 2 rfl ?_
      refine u_aload_n X hl dX8_mend_8 0 rfl ?_
      refine gf_X8_9_19 X hP dX8_mend_9 ?_
      refine gf_X8_38_1 X hP dX8_mend_12 ?_
      refine u_icmp_ge 81 X dX8_mend_15 rfl (fun hc => ?_) (fun hc => ?_)
      · rw [if_pos hc] at h
        refine u_aload_n X hl dX8_mend_81 0 rfl ?_
        refine gf_X8_31_19 X hP dX8_mend_82 ?_
        refine u_iconst (v := 4) X dX8_mend_85 rfl ?_
        refine u_icmp_gt 93 X dX8_mend_86 rfl (fun hc => ?_) (fun hc => ?_)
        · rw [if_pos hc] at h
          refine u_iconst (v := 0) X dX8_mend_93 rfl ?_
          exact u_zretM X hr hret h hP hS (Or.inl rfl) dX8_mend_94
        · rw [if_neg hc] at h
          refine u_iconst (v := 1) X dX8_mend_89 rfl ?_
          refine u_goto 94 X dX8_mend_90 rfl ?_
          exact u_zretM X hr hret h hP hS (Or.inr rfl) dX8_mend_94
      · rw [if_neg hc] at h
        refine u_iconst (v := 0) X dX8_mend_18 rfl ?_
        refine u_istore_n [(3, .int 0), (0, .ref (ad 19)), (1, .int a0), (2, .int l2_7)] X hl dX8_mend_19 (Nat.le_of_ble_eq_true rfl) rfl (fun ls hl => ?_)
        have L20 : ∀ (n : Nat) (H : Heap) (locs : List Loc) (ls : Array Slot) (z_20 : MS) (l3_20 : Int32), lv_has ls 4 [(0, .ref (ad 19)), (1, .int a0), (2, .int l2_7), (3, .int l3_20)] → va_P D clss (wld cs ad z_20) H → va_S A s.heap H locs → fWays_mend_L20 (fWays_mend_L7 a0 n7) a0 l2_7 n z_20 l3_20 = some (r, z1) → W p l e R s m args below meth c H locs 0 0 Q (F0 m 20 ls []) := by
          intro n
          induction n with
          | zero =>
            intro H locs ls z_20 l3_20 hl hP hS h
            rw [fWays_mend_L20] at h
            cases h
          | succ n20 ih20 =>
            intro H locs ls z_20 l3_20 hl hP hS h
            rw [fWays_mend_L20] at h
            refine u_iload_n X hl dX8_mend_20 3 rfl ?_
            refine u_aload_n X hl dX8_mend_21 0 rfl ?_
            refine gf_X8_9_19 X hP dX8_mend_22 ?_
            refine gf_X8_38_1 X hP dX8_mend_25 ?_
            refine u_icmp_ge 75 X dX8_mend_28 rfl (fun hc => ?_) (fun hc => ?_)
            · rw [if_pos hc] at h
              refine u_iinc [(2, .int (l2_7 + 1)), (0, .ref (ad 19)), (1, .int a0), (3, .int l3_20)] X hl dX8_mend_75 2 rfl rfl (Nat.le_of_ble_eq_true rfl) rfl (fun ls hl => ?_)
              refine u_goto 7 X dX8_mend_78 rfl ?_
              exact ih7 _ _ _ _ _ (lv_sub hl [1, 2, 0] rfl) hP hS h
            · rw [if_neg hc] at h
              refine u_iload_n X hl dX8_mend_31 2 rfl ?_
              refine u_iload_n X hl dX8_mend_32 3 rfl ?_
              refine u_icmp_eq 69 X dX8_mend_33 rfl (fun hc => ?_) (fun hc => ?_)
              · rw [if_pos hc] at h
                refine u_iinc [(3, .int (l3_20 + 1)), (0, .ref (ad 19)), (1, .int a0), (2, .int l2_7)] X hl dX8_mend_69 3 rfl rfl (Nat.le_of_ble_eq_true rfl) rfl (fun ls hl => ?_)
                refine u_goto 20 X dX8_mend_72 rfl ?_
                exact ih20 _ _ _ _ _ (lv_sub hl [1, 2, 3, 0] rfl) hP hS h
              · rw [if_neg hc] at h
                refine u_aload_n X hl dX8_mend_36 0 rfl ?_
                refine u_iload_n X hl dX8_mend_37 2 rfl ?_
                refine u_iload_n X hl dX8_mend_38 3 rfl ?_
                refine u_iload_n X hl dX8_mend_39 1 rfl ?_
                obtain ⟨w40, hc40, h⟩ := ob_inv h
                refine u_callVi X hP hS hl dX8_mend_40 (cWays_maySit l hc40) cw_X8_43 io_19 rfl rfl rfl rfl ⟨rfl, rfl⟩ (fun H locs hP hS => ?_)
                refine u_if_eq 69 X dX8_mend_43 rfl (fun hc => ?_) (fun hc => ?_)
                · rw [if_pos hc] at h
                  refine u_iinc [(3, .int (l3_20 + 1)), (0, .ref (ad 19)), (1, .int a0), (2, .int l2_7)] X hl dX8_mend_69 3 rfl rfl (Nat.le_of_ble_eq_true rfl) rfl (fun ls hl => ?_)
                  refine u_goto 20 X dX8_mend_72 rfl ?_
                  exact ih20 _ _ _ _ _ (lv_sub hl [1, 2, 3, 0] rfl) hP hS h
                · rw [if_neg hc] at h
                  refine u_aload_n X hl dX8_mend_46 0 rfl ?_
                  refine gf_X8_9_19 X hP dX8_mend_47 ?_
                  refine u_iload_n X hl dX8_mend_50 2 rfl ?_
                  refine u_iload_n X hl dX8_mend_51 3 rfl ?_
                  refine u_callSi X hP hS hl dX8_mend_52 (cHouse_pairOf l z_20 l2_7 l3_20) cw_X8_47 rfl rfl rfl rfl ⟨rfl, rfl⟩ (fun H locs hP hS => ?_)
                  refine u_iload_n X hl dX8_mend_55 1 rfl ?_
                  obtain ⟨w56, hc56, h⟩ := ob_inv h
                  refine u_callVi X hP hS hl dX8_mend_56 (cHouse_satInGap l hc56) cw_X8_51 io_1 rfl rfl rfl rfl ⟨rfl, rfl⟩ (fun H locs hP hS => ?_)
                  refine u_if_ne 69 X dX8_mend_59 rfl (fun hc => ?_) (fun hc => ?_)
                  · rw [if_neg hc] at h
                    refine u_iinc [(3, .int (l3_20 + 1)), (0, .ref (ad 19)), (1, .int a0), (2, .int l2_7)] X hl dX8_mend_69 3 rfl rfl (Nat.le_of_ble_eq_true rfl) rfl (fun ls hl => ?_)
                    refine u_goto 20 X dX8_mend_72 rfl ?_
                    exact ih20 _ _ _ _ _ (lv_sub hl [1, 2, 3, 0] rfl) hP hS h
                  · rw [if_pos hc] at h
                    refine u_aload_n X hl dX8_mend_62 0 rfl ?_
                    refine u_iload_n X hl dX8_mend_63 1 rfl ?_
                    refine u_iload_n X hl dX8_mend_64 2 rfl ?_
                    refine u_iload_n X hl dX8_mend_65 3 rfl ?_
                    obtain ⟨zc66, hc66, h⟩ := ob_inv h
                    refine u_callVv X hP hS hl dX8_mend_66 (cWays_mendBy l hc66) cw_X8_55 io_19 rfl rfl rfl rfl ⟨rfl, rfl⟩ (fun H locs hP hS => ?_)
                    refine u_iinc [(3, .int (l3_20 + 1)), (0, .ref (ad 19)), (1, .int a0), (2, .int l2_7)] X hl dX8_mend_69 3 rfl rfl (Nat.le_of_ble_eq_true rfl) rfl (fun ls hl => ?_)
                    refine u_goto 20 X dX8_mend_72 rfl ?_
                    exact ih20 _ _ _ _ _ (lv_sub hl [1, 2, 3, 0] rfl) hP hS h
        exact L20 LF _ _ _ _ _ (lv_sub hl [1, 2, 3, 0] rfl) hP hS h
  exact L7 LF _ _ _ _ _ (lv_sub hl [1, 2, 0] rfl) hP hS h
def fWays_standsBehindChosen_J58 (z : MS) (K10 : Int32 → Int32 → Option Int32) (l3 : Int32) (l4 : Int32) (l5 : Int32) : Option Int32 :=
  K10 (fJudge_trustAfter z l3 l5) (l4 + 1)
def fWays_standsBehindChosen_J32 (z : MS) (K10 : Int32 → Int32 → Option Int32) (l2 : Int32) (l3 : Int32) (l4 : Int32) (s0 : Int32) : Option Int32 :=
  if s0 = 0 then fWays_standsBehindChosen_J58 z K10 l3 l4 s0 else (if (gI z 5 7) < (l2 - l4) then fWays_standsBehindChosen_J58 z K10 l3 l4 s0 else some 0)
def fWays_standsBehindChosen_L10 (z : MS) (l1 : Int32) (l2 : Int32) : Nat → Int32 → Int32 → Option Int32
  | 0, _, _ => none
  | n + 1, l3, l4 => if l2 ≤ l4 then (if l2 < 0 ∨ 3 ≤ l2.toNatClampNeg then none else if l1 < 0 ∨ 64 ≤ l1.toNatClampNeg then none else if (gI z (22 + l2.toNatClampNeg) l1.toNatClampNeg) < l3 then some 0 else some 1) else (if l4 < 0 ∨ 3 ≤ l4.toNatClampNeg then none else if (gI z 25 l4.toNatClampNeg) = l1 then fWays_standsBehindChosen_J32 z (fWays_standsBehindChosen_L10 z l1 l2 n) l2 l3 l4 1 else fWays_standsBehindChosen_J32 z (fWays_standsBehindChosen_L10 z l1 l2 n) l2 l3 l4 0)
def fWays_standsBehindChosen (z : MS) (a0 : Int32) (a1 : Int32) : Option Int32 :=
  if a0 < 0 ∨ 64 ≤ a0.toNatClampNeg then none else fWays_standsBehindChosen_L10 z a0 a1 LF (gI z 20 a0.toNatClampNeg) 0
set_option maxRecDepth 4000 in
theorem cWays_standsBehindChosen (l : Launch) {z : MS} {a0 : Int32} {a1 : Int32} {r : Int32} (h : fWays_standsBehindChosen z a0 a1 = some r) : CT l yX8_standsBehindChosen cX8_standsBehindChosen 6 (some .boolean) 2 45 (fun ad sd => [.ref (ad 19), .int a0, .int a1]) z (some (.int r)) z := by
  rw [fWays_standsBehindChosen] at h
  refine u_start RX8 rfl (by decide) (fun _ _ => Nat.le_of_ble_eq_true rfl) (fun p e s m args below meth c R D ad cs sd A Q ls X hP hS hl hr hret => ?_)
  have hl : lv_has ls 6 [(0, .ref (ad 19)), (1, .int a0), (2, .int a1)] := hl
  refine u_aload_n X hl dX8_standsBehindChosen_0 0 rfl ?_
  refine gf_X8_19_19 X hP dX8_standsBehindChosen_1 ?_
  refine u_iload_n X hl dX8_standsBehindChosen_4 1 rfl ?_
  obtain ⟨hin, h⟩ := ifn_inv h
  refine ld_20 X hP rfl hin dX8_standsBehindChosen_5 ?_
  refine u_istore_n [(3, .int (gI z 20 a0.toNatClampNeg)), (0, .ref (ad 19)), (1, .int a0), (2, .int a1)] X hl dX8_standsBehindChosen_6 (Nat.le_of_ble_eq_true rfl) rfl (fun ls hl => ?_)
  refine u_iconst (v := 0) X dX8_standsBehindChosen_7 rfl ?_
  refine u_istore [(4, .int 0), (3, .int (gI z 20 a0.toNatClampNeg)), (0, .ref (ad 19)), (1, .int a0), (2, .int a1)] X hl dX8_standsBehindChosen_8 (Nat.le_of_ble_eq_true rfl) rfl (fun ls hl => ?_)
  have L10 : ∀ (n : Nat) (H : Heap) (locs : List Loc) (ls : Array Slot) (l3_10 : Int32) (l4_10 : Int32), lv_has ls 6 [(0, .ref (ad 19)), (1, .int a0), (2, .int a1), (3, .int l3_10), (4, .int l4_10)] → va_P D clss (wld cs ad z) H → va_S A s.heap H locs → fWays_standsBehindChosen_L10 z a0 a1 n l3_10 l4_10 = some r → W p l e R s m args below meth c H locs 0 0 Q (F0 m 10 ls []) := by
    intro n
    induction n with
    | zero =>
      intro H locs ls l3_10 l4_10 hl hP hS h
      rw [fWays_standsBehindChosen_L10] at h
      cases h
    | succ n10 ih10 =>
      intro H locs ls l3_10 l4_10 hl hP hS h
      rw [fWays_standsBehindChosen_L10] at h
      refine u_iload X hl dX8_standsBehindChosen_10 4 rfl ?_
      refine u_iload_n X hl dX8_standsBehindChosen_12 2 rfl ?_
      refine u_icmp_ge 75 X dX8_standsBehindChosen_13 rfl (fun hc => ?_) (fun hc => ?_)
      · rw [if_pos hc] at h
        refine u_iload_n X hl dX8_standsBehindChosen_75 3 rfl ?_
        refine u_aload_n X hl dX8_standsBehindChosen_76 0 rfl ?_
        refine gf_X8_25_19 X hP dX8_standsBehindChosen_77 ?_
        refine u_iload_n X hl dX8_standsBehindChosen_80 2 rfl ?_
        obtain ⟨hin, h⟩ := ifn_inv h
        have hdy := vp_lt hin
        refine la_21 X hP hin dX8_standsBehindChosen_81 ?_
        refine u_iload_n X hl dX8_standsBehindChosen_82 1 rfl ?_
        obtain ⟨hin, h⟩ := ifn_inv h
        refine ld_dyn22 hdy X hP rfl hin dX8_standsBehindChosen_83 ?_
        refine u_icmp_gt 91 X dX8_standsBehindChosen_84 rfl (fun hc => ?_) (fun hc => ?_)
        · rw [if_pos hc] at h
          refine u_iconst (v := 0) X dX8_standsBehindChosen_91 rfl ?_
          exact u_zretP X hr hret h hP hS (Or.inl rfl) dX8_standsBehindChosen_92
        · rw [if_neg hc] at h
          refine u_iconst (v := 1) X dX8_standsBehindChosen_87 rfl ?_
          refine u_goto 92 X dX8_standsBehindChosen_88 rfl ?_
          exact u_zretP X hr hret h hP hS (Or.inr rfl) dX8_standsBehindChosen_92
      · rw [if_neg hc] at h
        refine u_aload_n X hl dX8_standsBehindChosen_16 0 rfl ?_
        refine gf_X8_28_19 X hP dX8_standsBehindChosen_17 ?_
        refine u_iload X hl dX8_standsBehindChosen_20 4 rfl ?_
        obtain ⟨hin, h⟩ := ifn_inv h
        refine ld_25 X hP rfl hin dX8_standsBehindChosen_22 ?_
        refine u_iload_n X hl dX8_standsBehindChosen_23 1 rfl ?_
        have J32 : ∀ (H : Heap) (locs : List Loc) (ls : Array Slot) (s0_32 : Int32), lv_has ls 6 [(0, .ref (ad 19)), (1, .int a0), (2, .int a1), (3, .int l3_10), (4, .int l4_10)] → va_P D clss (wld cs ad z) H → va_S A s.heap H locs → fWays_standsBehindChosen_J32 z (fWays_standsBehindChosen_L10 z a0 a1 n10) a1 l3_10 l4_10 s0_32 = some r → W p l e R s m args below meth c H locs 0 0 Q (F0 m 32 ls [.int s0_32]) := by
          intro H locs ls s0_32 hl hP hS h
          rw [fWays_standsBehindChosen_J32] at h
          refine u_istore [(5, .int s0_32), (0, .ref (ad 19)), (1, .int a0), (2, .int a1), (3, .int l3_10), (4, .int l4_10)] X hl dX8_standsBehindChosen_32 (Nat.le_of_ble_eq_true rfl) rfl (fun ls hl => ?_)
          refine u_iload X hl dX8_standsBehindChosen_34 0 rfl ?_
          have J58 : ∀ (H : Heap) (locs : List Loc) (ls : Array Slot), lv_has ls 6 [(0, .ref (ad 19)), (1, .int a0), (2, .int a1), (3, .int l3_10), (4, .int l4_10), (5, .int s0_32)] → va_P D clss (wld cs ad z) H → va_S A s.heap H locs → fWays_standsBehindChosen_J58 z (fWays_standsBehindChosen_L10 z a0 a1 n10) l3_10 l4_10 s0_32 = some r → W p l e R s m args below meth c H locs 0 0 Q (F0 m 58 ls []) := by
            intro H locs ls hl hP hS h
            rw [fWays_standsBehindChosen_J58] at h
            refine u_aload_n X hl dX8_standsBehindChosen_58 0 rfl ?_
            refine gf_X8_15_19 X hP dX8_standsBehindChosen_59 ?_
            refine u_iload_n X hl dX8_standsBehindChosen_62 3 rfl ?_
            refine u_iload X hl dX8_standsBehindChosen_63 5 rfl ?_
            refine u_callVi X hP hS hl dX8_standsBehindChosen_65 (cJudge_trustAfter l z l3_10 s0_32) cw_X8_114 io_17 rfl rfl rfl rfl ⟨rfl, rfl⟩ (fun H locs hP hS => ?_)
            refine u_istore_n [(3, .int (fJudge_trustAfter z l3_10 s0_32)), (0, .ref (ad 19)), (1, .int a0), (2, .int a1), (4, .int l4_10), (5, .int s0_32)] X hl dX8_standsBehindChosen_68 (Nat.le_of_ble_eq_true rfl) rfl (fun ls hl => ?_)
            refine u_iinc [(4, .int (l4_10 + 1)), (3, .int (fJudge_trustAfter z l3_10 s0_32)), (0, .ref (ad 19)), (1, .int a0), (2, .int a1), (5, .int s0_32)] X hl dX8_standsBehindChosen_69 4 rfl rfl (Nat.le_of_ble_eq_true rfl) rfl (fun ls hl => ?_)
            refine u_goto 10 X dX8_standsBehindChosen_72 rfl ?_
            exact ih10 _ _ _ _ _ (lv_sub hl [2, 3, 4, 1, 0] rfl) hP hS h
          refine u_if_eq 58 X dX8_standsBehindChosen_36 rfl (fun hc => ?_) (fun hc => ?_)
          · rw [if_pos hc] at h
            exact J58 _ _ _ (lv_sub hl [1, 2, 3, 4, 5, 0] rfl) hP hS h
          · rw [if_neg hc] at h
            refine u_iload_n X hl dX8_standsBehindChosen_39 3 rfl ?_
            refine u_iload X hl dX8_standsBehindChosen_40 5 rfl ?_
            refine u_isub X dX8_standsBehindChosen_42 ?_
            refine u_aload_n X hl dX8_standsBehindChosen_43 1 rfl ?_
            refine gf_X8_9_19 X hP dX8_standsBehindChosen_44 ?_
            refine gf_X8_95_1 X hP dX8_standsBehindChosen_47 ?_
            refine u_bipush (v := 7) X dX8_standsBehindChosen_50 rfl ?_
            refine ld_5 (w := 7) X hP rfl (by decide) dX8_standsBehindChosen_52 ?_
            refine u_icmp_gt 58 X dX8_standsBehindChosen_53 rfl (fun hc => ?_) (fun hc => ?_)
            · rw [if_pos hc] at h
              exact J58 _ _ _ (lv_sub hl [1, 2, 3, 4, 5, 0] rfl) hP hS h
            · rw [if_neg hc] at h
              refine u_iconst (v := 0) X dX8_standsBehindChosen_56 rfl ?_
              exact u_zretP X hr hret h hP hS (Or.inl rfl) dX8_standsBehindChosen_57
        refine u_icmp_ne 31 X dX8_standsBehindChosen_24 rfl (fun hc => ?_) (fun hc => ?_)
        · rw [if_neg hc] at h
          refine u_iconst (v := 0) X dX8_standsBehindChosen_31 rfl ?_
          exact J32 _ _ _ _ hl hP hS h
        · rw [if_pos hc] at h
          refine u_iconst (v := 1) X dX8_standsBehindChosen_27 rfl ?_
          refine u_goto 32 X dX8_standsBehindChosen_28 rfl ?_
          exact J32 _ _ _ _ hl hP hS h
  exact L10 LF _ _ _ _ _ (lv_sub hl [2, 3, 4, 1, 0] rfl) hP hS h
def fWays_countRows_L35 (RC : MS → Int32 → Int32 → Option (Int32 × MS)) (K17 : MS → Int32 → Int32 → Option (Int32 × MS)) (l1 : Int32) (l2 : Int32) (l4 : Int32) : Nat → MS → Int32 → Int32 → Option (Int32 × MS)
  | 0, _, _, _ => none
  | n + 1, z, l3, l5 => if (gI z 1 0) ≤ l5 then K17 z l3 (l4 + 1) else (if l1 < 0 ∨ 3 ≤ l1.toNatClampNeg then none else if (fHouse_pairOf l4 l5) < 0 ∨ 64 ≤ (fHouse_pairOf l4 l5).toNatClampNeg then none else if (gI z (22 + l1.toNatClampNeg) (fHouse_pairOf l4 l5).toNatClampNeg) < 0 then fWays_countRows_L35 RC K17 l1 l2 l4 n z l3 (l5 + 1) else Option.bind (fWays_standsBehindChosen z (fHouse_pairOf l4 l5) l1) (fun w72 => if w72 = 0 then fWays_countRows_L35 RC K17 l1 l2 l4 n z l3 (l5 + 1) else (if l1 < 0 ∨ 3 ≤ l1.toNatClampNeg then none else ob2 (RC (pI z 25 l1.toNatClampNeg (fHouse_pairOf l4 l5)) (l1 + 1) l2) (fun w92 zc92 => fWays_countRows_L35 RC K17 l1 l2 l4 n zc92 (l3 + w92) (l5 + 1)))))
def fWays_countRows_L17 (RC : MS → Int32 → Int32 → Option (Int32 × MS)) (l1 : Int32) (l2 : Int32) : Nat → MS → Int32 → Int32 → Option (Int32 × MS)
  | 0, _, _, _ => none
  | n + 1, z, l3, l4 => if (gI z 1 0) ≤ l4 then some (l3, z) else fWays_countRows_L35 RC (fWays_countRows_L17 RC l1 l2 n) l1 l2 l4 LF z l3 (l4 + 1)
def fWays_countRows : Nat → MS → Int32 → Int32 → Option (Int32 × MS)
  | 0, _, _, _ => none
  | n + 1, z, a0, a1 => if a1 ≤ a0 then some (1, z) else (if a0 < 3 then fWays_countRows_L17 (fWays_countRows n) a0 a1 LF z 0 0 else some (1, z))
set_option maxRecDepth 4000 in
theorem cWays_countRows (l : Launch) : ∀ (nr : Nat) {z : MS} {a0 : Int32} {a1 : Int32} {r : Int32} {z1 : MS} (h : fWays_countRows nr z a0 a1 = some (r, z1)), CT l yX8_countRows cX8_countRows 7 (some .int) (3 + nr) (70 + nr * 26) (fun ad sd => [.ref (ad 19), .int a0, .int a1]) z (some (.int r)) z1 := by
  intro nr
  induction nr with
  | zero =>
    intro z a0 a1 r z1 h
    rw [fWays_countRows] at h
    cases h
  | succ nr ihr =>
    intro z a0 a1 r z1 h
    rw [fWays_countRows] at h
    refine u_start RX8 rfl (by decide) (fun _ _ => Nat.le_of_ble_eq_true rfl) (fun p e s m args below meth c R D ad cs sd A Q ls X hP hS hl hr hret => ?_)
    have hl : lv_has ls 7 [(0, .ref (ad 19)), (1, .int a0), (2, .int a1)] := hl
    refine u_iload_n X hl dX8_countRows_0 1 rfl ?_
    refine u_iload_n X hl dX8_countRows_1 2 rfl ?_
    refine u_icmp_ge 10 X dX8_countRows_2 rfl (fun hc => ?_) (fun hc => ?_)
    · rw [if_pos hc] at h
      refine u_iconst (v := 1) X dX8_countRows_10 rfl ?_
      exact u_iretM X hr hret h hP hS dX8_countRows_11
    · rw [if_neg hc] at h
      refine u_iload_n X hl dX8_countRows_5 1 rfl ?_
      refine u_iconst (v := 3) X dX8_countRows_6 rfl ?_
      refine u_icmp_lt 12 X dX8_countRows_7 rfl (fun hc => ?_) (fun hc => ?_)
      · rw [if_pos hc] at h
        refine u_iconst (v := 0) X dX8_countRows_12 rfl ?_
        refine u_istore_n [(3, .int 0), (0, .ref (ad 19)), (1, .int a0), (2, .int a1)] X hl dX8_countRows_13 (Nat.le_of_ble_eq_true rfl) rfl (fun ls hl => ?_)
        refine u_iconst (v := 0) X dX8_countRows_14 rfl ?_
        refine u_istore [(4, .int 0), (3, .int 0), (0, .ref (ad 19)), (1, .int a0), (2, .int a1)] X hl dX8_countRows_15 (Nat.le_of_ble_eq_true rfl) rfl (fun ls hl => ?_)
        have L17 : ∀ (n : Nat) (H : Heap) (locs : List Loc) (ls : Array Slot) (z_17 : MS) (l3_17 : Int32) (l4_17 : Int32), lv_has ls 7 [(0, .ref (ad 19)), (1, .int a0), (2, .int a1), (3, .int l3_17), (4, .int l4_17)] → va_P D clss (wld cs ad z_17) H → va_S A s.heap H locs → fWays_countRows_L17 (fWays_countRows nr) a0 a1 n z_17 l3_17 l4_17 = some (r, z1) → W p l e R s m args below meth c H locs 0 0 Q (F0 m 17 ls []) := by
          intro n
          induction n with
          | zero =>
            intro H locs ls z_17 l3_17 l4_17 hl hP hS h
            rw [fWays_countRows_L17] at h
            cases h
          | succ n17 ih17 =>
            intro H locs ls z_17 l3_17 l4_17 hl hP hS h
            rw [fWays_countRows_L17] at h
            refine u_iload X hl dX8_countRows_17 4 rfl ?_
            refine u_aload_n X hl dX8_countRows_19 0 rfl ?_
            refine gf_X8_9_19 X hP dX8_countRows_20 ?_
            refine gf_X8_38_1 X hP dX8_countRows_23 ?_
            refine u_icmp_ge 109 X dX8_countRows_26 rfl (fun hc => ?_) (fun hc => ?_)
            · rw [if_pos hc] at h
              refine u_iload_n X hl dX8_countRows_109 3 rfl ?_
              exact u_iretM X hr hret h hP hS dX8_countRows_110
            · rw [if_neg hc] at h
              refine u_iload X hl dX8_countRows_29 4 rfl ?_
              refine u_iconst (v := 1) X dX8_countRows_31 rfl ?_
              refine u_iadd X dX8_countRows_32 ?_
              refine u_istore [(5, .int (l4_17 + 1)), (0, .ref (ad 19)), (1, .int a0), (2, .int a1), (3, .int l3_17), (4, .int l4_17)] X hl dX8_countRows_33 (Nat.le_of_ble_eq_true rfl) rfl (fun ls hl => ?_)
              have L35 : ∀ (n : Nat) (H : Heap) (locs : List Loc) (ls : Array Slot) (z_35 : MS) (l3_35 : Int32) (l5_35 : Int32), lv_has ls 7 [(0, .ref (ad 19)), (1, .int a0), (2, .int a1), (3, .int l3_35), (4, .int l4_17), (5, .int l5_35)] → va_P D clss (wld cs ad z_35) H → va_S A s.heap H locs → fWays_countRows_L35 (fWays_countRows nr) (fWays_countRows_L17 (fWays_countRows nr) a0 a1 n17) a0 a1 l4_17 n z_35 l3_35 l5_35 = some (r, z1) → W p l e R s m args below meth c H locs 0 0 Q (F0 m 35 ls []) := by
                intro n
                induction n with
                | zero =>
                  intro H locs ls z_35 l3_35 l5_35 hl hP hS h
                  rw [fWays_countRows_L35] at h
                  cases h
                | succ n35 ih35 =>
                  intro H locs ls z_35 l3_35 l5_35 hl hP hS h
                  rw [fWays_countRows_L35] at h
                  refine u_iload X hl dX8_countRows_35 5 rfl ?_
                  refine u_aload_n X hl dX8_countRows_37 0 rfl ?_
                  refine gf_X8_9_19 X hP dX8_countRows_38 ?_
                  refine gf_X8_38_1 X hP dX8_countRows_41 ?_
                  refine u_icmp_ge 103 X dX8_countRows_44 rfl (fun hc => ?_) (fun hc => ?_)
                  · rw [if_pos hc] at h
                    refine u_iinc [(4, .int (l4_17 + 1)), (0, .ref (ad 19)), (1, .int a0), (2, .int a1), (3, .int l3_35), (5, .int l5_35)] X hl dX8_countRows_103 4 rfl rfl (Nat.le_of_ble_eq_true rfl) rfl (fun ls hl => ?_)
                    refine u_goto 17 X dX8_countRows_106 rfl ?_
                    exact ih17 _ _ _ _ _ _ (lv_sub hl [1, 2, 3, 4, 0] rfl) hP hS h
                  · rw [if_neg hc] at h
                    refine u_iload X hl dX8_countRows_47 4 rfl ?_
                    refine u_iload X hl dX8_countRows_49 5 rfl ?_
                    refine u_callSi X hP hS hl dX8_countRows_51 (cHouse_pairOf l z_35 l4_17 l5_35) cw_X8_47 rfl rfl rfl rfl ⟨Nat.ble_eq_true_of_le (by omega), Nat.ble_eq_true_of_le (by omega)⟩ (fun H locs hP hS => ?_)
                    refine u_istore [(6, .int (fHouse_pairOf l4_17 l5_35)), (0, .ref (ad 19)), (1, .int a0), (2, .int a1), (3, .int l3_35), (4, .int l4_17), (5, .int l5_35)] X hl dX8_countRows_54 (Nat.le_of_ble_eq_true rfl) rfl (fun ls hl => ?_)
                    refine u_aload_n X hl dX8_countRows_56 1 rfl ?_
                    refine gf_X8_25_19 X hP dX8_countRows_57 ?_
                    refine u_iload_n X hl dX8_countRows_60 2 rfl ?_
                    obtain ⟨hin, h⟩ := ifn_inv h
                    have hdy := vp_lt hin
                    refine la_21 X hP hin dX8_countRows_61 ?_
                    refine u_iload X hl dX8_countRows_62 0 rfl ?_
                    obtain ⟨hin, h⟩ := ifn_inv h
                    refine ld_dyn22 hdy X hP rfl hin dX8_countRows_64 ?_
                    refine u_if_lt 97 X dX8_countRows_65 rfl (fun hc => ?_) (fun hc => ?_)
                    · rw [if_pos hc] at h
                      refine u_iinc [(5, .int (l5_35 + 1)), (6, .int (fHouse_pairOf l4_17 l5_35)), (0, .ref (ad 19)), (1, .int a0), (2, .int a1), (3, .int l3_35), (4, .int l4_17)] X hl dX8_countRows_97 6 rfl rfl (Nat.le_of_ble_eq_true rfl) rfl (fun ls hl => ?_)
                      refine u_goto 35 X dX8_countRows_100 rfl ?_
                      exact ih35 _ _ _ _ _ _ (lv_sub hl [2, 3, 4, 5, 6, 0] rfl) hP hS h
                    · rw [if_neg hc] at h
                      refine u_aload_n X hl dX8_countRows_68 1 rfl ?_
                      refine u_iload X hl dX8_countRows_69 0 rfl ?_
                      refine u_iload_n X hl dX8_countRows_71 2 rfl ?_
                      obtain ⟨w72, hc72, h⟩ := ob_inv h
                      refine u_callVi X hP hS hl dX8_countRows_72 (cWays_standsBehindChosen l hc72) cw_X8_111 io_19 rfl rfl rfl rfl ⟨Nat.ble_eq_true_of_le (by omega), Nat.ble_eq_true_of_le (by omega)⟩ (fun H locs hP hS => ?_)
                      refine u_if_eq 97 X dX8_countRows_75 rfl (fun hc => ?_) (fun hc => ?_)
                      · rw [if_pos hc] at h
                        refine u_iinc [(5, .int (l5_35 + 1)), (6, .int (fHouse_pairOf l4_17 l5_35)), (0, .ref (ad 19)), (1, .int a0), (2, .int a1), (3, .int l3_35), (4, .int l4_17)] X hl dX8_countRows_97 6 rfl rfl (Nat.le_of_ble_eq_true rfl) rfl (fun ls hl => ?_)
                        refine u_goto 35 X dX8_countRows_100 rfl ?_
                        exact ih35 _ _ _ _ _ _ (lv_sub hl [2, 3, 4, 5, 6, 0] rfl) hP hS h
                      · rw [if_neg hc] at h
                        refine u_aload_n X hl dX8_countRows_78 1 rfl ?_
                        refine gf_X8_28_19 X hP dX8_countRows_79 ?_
                        refine u_iload_n X hl dX8_countRows_82 2 rfl ?_
                        refine u_iload X hl dX8_countRows_83 0 rfl ?_
                        obtain ⟨hin, h⟩ := ifn_inv h
                        refine as_25 X hP hS rfl hin dX8_countRows_85 (fun H locs hP hS => ?_)
                        refine u_iload_n X hl dX8_countRows_86 4 rfl ?_
                        refine u_aload_n X hl dX8_countRows_87 1 rfl ?_
                        refine u_iload_n X hl dX8_countRows_88 2 rfl ?_
                        refine u_iconst (v := 1) X dX8_countRows_89 rfl ?_
                        refine u_iadd X dX8_countRows_90 ?_
                        refine u_iload_n X hl dX8_countRows_91 3 rfl ?_
                        obtain ⟨w92, zc92, hc92, h⟩ := ob2_inv h
                        refine u_callSi X hP hS hl dX8_countRows_92 (ihr hc92) cw_X8_107 rfl rfl rfl rfl ⟨Nat.ble_eq_true_of_le (by omega), Nat.ble_eq_true_of_le (by omega)⟩ (fun H locs hP hS => ?_)
                        refine u_iadd X dX8_countRows_95 ?_
                        refine u_istore_n [(3, .int (l3_35 + w92)), (6, .int (fHouse_pairOf l4_17 l5_35)), (0, .ref (ad 19)), (1, .int a0), (2, .int a1), (4, .int l4_17), (5, .int l5_35)] X hl dX8_countRows_96 (Nat.le_of_ble_eq_true rfl) rfl (fun ls hl => ?_)
                        refine u_iinc [(5, .int (l5_35 + 1)), (3, .int (l3_35 + w92)), (6, .int (fHouse_pairOf l4_17 l5_35)), (0, .ref (ad 19)), (1, .int a0), (2, .int a1), (4, .int l4_17)] X hl dX8_countRows_97 6 rfl rfl (Nat.le_of_ble_eq_true rfl) rfl (fun ls hl => ?_)
                        refine u_goto 35 X dX8_countRows_100 rfl ?_
                        exact ih35 _ _ _ _ _ _ (lv_sub hl [3, 4, 5, 1, 6, 0] rfl) hP hS h
              exact L35 LF _ _ _ _ _ _ (lv_sub hl [1, 2, 3, 4, 5, 0] rfl) hP hS h
        exact L17 LF _ _ _ _ _ _ (lv_sub hl [2, 3, 4, 1, 0] rfl) hP hS h
      · rw [if_neg hc] at h
        refine u_iconst (v := 1) X dX8_countRows_10 rfl ?_
        exact u_iretM X hr hret h hP hS dX8_countRows_11
def fWays_mostTrust_L98 (z : MS) (l1 : Int32) (l2 : Int32) (l3 : Int32) (l4 : Int32) : Nat → Int32 → Option Int32
  | 0, _ => none
  | n + 1, l6 => if l6 < 0 then some l6 else Option.bind (fWays_wouldPay z l1 l6 l3 l4 l2) (fun w111 => if w111 = 0 then some l6 else fWays_mostTrust_L98 z l1 l2 l3 l4 n (l6 + (-1)))
def fWays_mostTrust_J85 (z : MS) (l1 : Int32) (l2 : Int32) (l3 : Int32) (l4 : Int32) (s0 : Int32) : Option Int32 :=
  if s0 = 0 then some (-1) else fWays_mostTrust_L98 z l1 l2 l3 l4 LF 9
def fWays_mostTrust_J84 (z : MS) (l1 : Int32) (l2 : Int32) (l3 : Int32) (l4 : Int32) : Option Int32 :=
  fWays_mostTrust_J85 z l1 l2 l3 l4 0
def fWays_mostTrust_J80 (z : MS) (l1 : Int32) (l2 : Int32) (l3 : Int32) (l4 : Int32) : Option Int32 :=
  fWays_mostTrust_J85 z l1 l2 l3 l4 1
def fWays_mostTrust_J69 (z : MS) (l1 : Int32) (l2 : Int32) (l3 : Int32) (l4 : Int32) : Option Int32 :=
  if l3 = (-1) then fWays_mostTrust_J80 z l1 l2 l3 l4 else (if l3 = l4 then fWays_mostTrust_J84 z l1 l2 l3 l4 else fWays_mostTrust_J80 z l1 l2 l3 l4)
def fWays_mostTrust_J52 (z : MS) (l1 : Int32) (l2 : Int32) (l3 : Int32) (l4 : Int32) : Option Int32 :=
  if l4 = (-1) then fWays_mostTrust_J69 z l1 l2 l3 l4 else Option.bind (fWays_isFree z l4 l1 l2) (fun w63 => if w63 = 0 then fWays_mostTrust_J84 z l1 l2 l3 l4 else fWays_mostTrust_J69 z l1 l2 l3 l4)
def fWays_mostTrust (z : MS) (a0 : Int32) (a1 : Int32) : Option Int32 :=
  Option.bind (fHouse_at z a1 2) (fun w6 => Option.bind (fHouse_at z a1 3) (fun w16 => Option.bind (fWays_maySit z (a0 / 8) (irm a0 8) a1) (fun w31 => if w31 = 0 then fWays_mostTrust_J84 z a0 a1 w6 w16 else (if w6 = (-1) then fWays_mostTrust_J52 z a0 a1 w6 w16 else Option.bind (fWays_isFree z w6 a0 a1) (fun w46 => if w46 = 0 then fWays_mostTrust_J84 z a0 a1 w6 w16 else fWays_mostTrust_J52 z a0 a1 w6 w16)))))
set_option maxRecDepth 4000 in
theorem cWays_mostTrust (l : Launch) {z : MS} {a0 : Int32} {a1 : Int32} {r : Int32} (h : fWays_mostTrust z a0 a1 = some r) : CT l yX8_mostTrust cX8_mostTrust 7 (some .int) 3 75 (fun ad sd => [.ref (ad 19), .int a0, .int a1]) z (some (.int r)) z := by
  rw [fWays_mostTrust] at h
  refine u_start RX8 rfl (by decide) (fun _ _ => Nat.le_of_ble_eq_true rfl) (fun p e s m args below meth c R D ad cs sd A Q ls X hP hS hl hr hret => ?_)
  have hl : lv_has ls 7 [(0, .ref (ad 19)), (1, .int a0), (2, .int a1)] := hl
  refine u_aload_n X hl dX8_mostTrust_0 0 rfl ?_
  refine gf_X8_9_19 X hP dX8_mostTrust_1 ?_
  refine u_iload_n X hl dX8_mostTrust_4 2 rfl ?_
  refine u_iconst (v := 2) X dX8_mostTrust_5 rfl ?_
  obtain ⟨w6, hc6, h⟩ := ob_inv h
  refine u_callVi X hP hS hl dX8_mostTrust_6 (cHouse_at l hc6) cw_X8_75 io_1 rfl rfl rfl rfl ⟨rfl, rfl⟩ (fun H locs hP hS => ?_)
  refine u_istore_n [(3, .int w6), (0, .ref (ad 19)), (1, .int a0), (2, .int a1)] X hl dX8_mostTrust_9 (Nat.le_of_ble_eq_true rfl) rfl (fun ls hl => ?_)
  refine u_aload_n X hl dX8_mostTrust_10 1 rfl ?_
  refine gf_X8_9_19 X hP dX8_mostTrust_11 ?_
  refine u_iload_n X hl dX8_mostTrust_14 3 rfl ?_
  refine u_iconst (v := 3) X dX8_mostTrust_15 rfl ?_
  obtain ⟨w16, hc16, h⟩ := ob_inv h
  refine u_callVi X hP hS hl dX8_mostTrust_16 (cHouse_at l hc16) cw_X8_75 io_1 rfl rfl rfl rfl ⟨rfl, rfl⟩ (fun H locs hP hS => ?_)
  refine u_istore [(4, .int w16), (3, .int w6), (0, .ref (ad 19)), (1, .int a0), (2, .int a1)] X hl dX8_mostTrust_19 (Nat.le_of_ble_eq_true rfl) rfl (fun ls hl => ?_)
  refine u_aload_n X hl dX8_mostTrust_21 2 rfl ?_
  refine u_iload_n X hl dX8_mostTrust_22 3 rfl ?_
  refine u_bipush (v := 8) X dX8_mostTrust_23 rfl ?_
  refine u_idiv X (by decide) dX8_mostTrust_25 ?_
  refine u_iload_n X hl dX8_mostTrust_26 3 rfl ?_
  refine u_bipush (v := 8) X dX8_mostTrust_27 rfl ?_
  refine u_irem X (by decide) dX8_mostTrust_29 ?_
  refine u_iload_n X hl dX8_mostTrust_30 4 rfl ?_
  obtain ⟨w31, hc31, h⟩ := ob_inv h
  refine u_callVi X hP hS hl dX8_mostTrust_31 (cWays_maySit l hc31) cw_X8_43 io_19 rfl rfl rfl rfl ⟨rfl, rfl⟩ (fun H locs hP hS => ?_)
  have J85 : ∀ (H : Heap) (locs : List Loc) (ls : Array Slot) (s0_85 : Int32), lv_has ls 7 [(0, .ref (ad 19)), (1, .int a0), (2, .int a1), (3, .int w6), (4, .int w16)] → va_P D clss (wld cs ad z) H → va_S A s.heap H locs → fWays_mostTrust_J85 z a0 a1 w6 w16 s0_85 = some r → W p l e R s m args below meth c H locs 0 0 Q (F0 m 85 ls [.int s0_85]) := by
    intro H locs ls s0_85 hl hP hS h
    rw [fWays_mostTrust_J85] at h
    refine u_istore [(5, .int s0_85), (0, .ref (ad 19)), (1, .int a0), (2, .int a1), (3, .int w6), (4, .int w16)] X hl dX8_mostTrust_85 (Nat.le_of_ble_eq_true rfl) rfl (fun ls hl => ?_)
    refine u_iload X hl dX8_mostTrust_87 0 rfl ?_
    refine u_if_ne 94 X dX8_mostTrust_89 rfl (fun hc => ?_) (fun hc => ?_)
    · rw [if_neg hc] at h
      refine u_bipush (v := 9) X dX8_mostTrust_94 rfl ?_
      refine u_istore [(6, .int 9), (5, .int s0_85), (0, .ref (ad 19)), (1, .int a0), (2, .int a1), (3, .int w6), (4, .int w16)] X hl dX8_mostTrust_96 (Nat.le_of_ble_eq_true rfl) rfl (fun ls hl => ?_)
      have L98 : ∀ (n : Nat) (H : Heap) (locs : List Loc) (ls : Array Slot) (l6_98 : Int32), lv_has ls 7 [(0, .ref (ad 19)), (1, .int a0), (2, .int a1), (3, .int w6), (4, .int w16), (6, .int l6_98)] → va_P D clss (wld cs ad z) H → va_S A s.heap H locs → fWays_mostTrust_L98 z a0 a1 w6 w16 n l6_98 = some r → W p l e R s m args below meth c H locs 0 0 Q (F0 m 98 ls []) := by
        intro n
        induction n with
        | zero =>
          intro H locs ls l6_98 hl hP hS h
          rw [fWays_mostTrust_L98] at h
          cases h
        | succ n98 ih98 =>
          intro H locs ls l6_98 hl hP hS h
          rw [fWays_mostTrust_L98] at h
          refine u_iload X hl dX8_mostTrust_98 5 rfl ?_
          refine u_if_lt 123 X dX8_mostTrust_100 rfl (fun hc => ?_) (fun hc => ?_)
          · rw [if_pos hc] at h
            refine u_iload X hl dX8_mostTrust_123 5 rfl ?_
            exact u_iretP X hr hret h hP hS dX8_mostTrust_125
          · rw [if_neg hc] at h
            refine u_aload_n X hl dX8_mostTrust_103 0 rfl ?_
            refine u_iload_n X hl dX8_mostTrust_104 1 rfl ?_
            refine u_iload X hl dX8_mostTrust_105 5 rfl ?_
            refine u_iload_n X hl dX8_mostTrust_107 3 rfl ?_
            refine u_iload X hl dX8_mostTrust_108 4 rfl ?_
            refine u_iload_n X hl dX8_mostTrust_110 2 rfl ?_
            obtain ⟨w111, hc111, h⟩ := ob_inv h
            refine u_callVi X hP hS hl dX8_mostTrust_111 (cWays_wouldPay l hc111) cw_X8_71 io_19 rfl rfl rfl rfl ⟨rfl, rfl⟩ (fun H locs hP hS => ?_)
            refine u_if_eq 123 X dX8_mostTrust_114 rfl (fun hc => ?_) (fun hc => ?_)
            · rw [if_pos hc] at h
              refine u_iload X hl dX8_mostTrust_123 5 rfl ?_
              exact u_iretP X hr hret h hP hS dX8_mostTrust_125
            · rw [if_neg hc] at h
              refine u_iinc [(6, .int (l6_98 + (-1))), (0, .ref (ad 19)), (1, .int a0), (2, .int a1), (3, .int w6), (4, .int w16)] X hl dX8_mostTrust_117 5 rfl rfl (Nat.le_of_ble_eq_true rfl) rfl (fun ls hl => ?_)
              refine u_goto 98 X dX8_mostTrust_120 rfl ?_
              exact ih98 _ _ _ _ (lv_sub hl [1, 2, 3, 4, 5, 0] rfl) hP hS h
      exact L98 LF _ _ _ _ (lv_sub hl [2, 3, 4, 5, 6, 0] rfl) hP hS h
    · rw [if_pos hc] at h
      refine u_iconst (v := (-1)) X dX8_mostTrust_92 rfl ?_
      exact u_iretP X hr hret h hP hS dX8_mostTrust_93
  have J84 : ∀ (H : Heap) (locs : List Loc) (ls : Array Slot), lv_has ls 7 [(0, .ref (ad 19)), (1, .int a0), (2, .int a1), (3, .int w6), (4, .int w16)] → va_P D clss (wld cs ad z) H → va_S A s.heap H locs → fWays_mostTrust_J84 z a0 a1 w6 w16 = some r → W p l e R s m args below meth c H locs 0 0 Q (F0 m 84 ls []) := by
    intro H locs ls hl hP hS h
    rw [fWays_mostTrust_J84] at h
    refine u_iconst (v := 0) X dX8_mostTrust_84 rfl ?_
    exact J85 _ _ _ _ hl hP hS h
  refine u_if_eq 84 X dX8_mostTrust_34 rfl (fun hc => ?_) (fun hc => ?_)
  · rw [if_pos hc] at h
    exact J84 _ _ _ (lv_sub hl [2, 3, 4, 1, 0] rfl) hP hS h
  · rw [if_neg hc] at h
    refine u_iload_n X hl dX8_mostTrust_37 1 rfl ?_
    refine u_iconst (v := (-1)) X dX8_mostTrust_38 rfl ?_
    have J52 : ∀ (H : Heap) (locs : List Loc) (ls : Array Slot), lv_has ls 7 [(0, .ref (ad 19)), (1, .int a0), (2, .int a1), (3, .int w6), (4, .int w16)] → va_P D clss (wld cs ad z) H → va_S A s.heap H locs → fWays_mostTrust_J52 z a0 a1 w6 w16 = some r → W p l e R s m args below meth c H locs 0 0 Q (F0 m 52 ls []) := by
      intro H locs ls hl hP hS h
      rw [fWays_mostTrust_J52] at h
      refine u_iload X hl dX8_mostTrust_52 4 rfl ?_
      refine u_iconst (v := (-1)) X dX8_mostTrust_54 rfl ?_
      have J69 : ∀ (H : Heap) (locs : List Loc) (ls : Array Slot), lv_has ls 7 [(0, .ref (ad 19)), (1, .int a0), (2, .int a1), (3, .int w6), (4, .int w16)] → va_P D clss (wld cs ad z) H → va_S A s.heap H locs → fWays_mostTrust_J69 z a0 a1 w6 w16 = some r → W p l e R s m args below meth c H locs 0 0 Q (F0 m 69 ls []) := by
        intro H locs ls hl hP hS h
        rw [fWays_mostTrust_J69] at h
        refine u_iload_n X hl dX8_mostTrust_69 3 rfl ?_
        refine u_iconst (v := (-1)) X dX8_mostTrust_70 rfl ?_
        have J80 : ∀ (H : Heap) (locs : List Loc) (ls : Array Slot), lv_has ls 7 [(0, .ref (ad 19)), (1, .int a0), (2, .int a1), (3, .int w6), (4, .int w16)] → va_P D clss (wld cs ad z) H → va_S A s.heap H locs → fWays_mostTrust_J80 z a0 a1 w6 w16 = some r → W p l e R s m args below meth c H locs 0 0 Q (F0 m 80 ls []) := by
          intro H locs ls hl hP hS h
          rw [fWays_mostTrust_J80] at h
          refine u_iconst (v := 1) X dX8_mostTrust_80 rfl ?_
          refine u_goto 85 X dX8_mostTrust_81 rfl ?_
          exact J85 _ _ _ _ hl hP hS h
        refine u_icmp_eq 80 X dX8_mostTrust_71 rfl (fun hc => ?_) (fun hc => ?_)
        · rw [if_pos hc] at h
          exact J80 _ _ _ hl hP hS h
        · rw [if_neg hc] at h
          refine u_iload_n X hl dX8_mostTrust_74 3 rfl ?_
          refine u_iload X hl dX8_mostTrust_75 4 rfl ?_
          refine u_icmp_eq 84 X dX8_mostTrust_77 rfl (fun hc => ?_) (fun hc => ?_)
          · rw [if_pos hc] at h
            exact J84 _ _ _ hl hP hS h
          · rw [if_neg hc] at h
            exact J80 _ _ _ hl hP hS h
      refine u_icmp_eq 69 X dX8_mostTrust_55 rfl (fun hc => ?_) (fun hc => ?_)
      · rw [if_pos hc] at h
        exact J69 _ _ _ hl hP hS h
      · rw [if_neg hc] at h
        refine u_aload_n X hl dX8_mostTrust_58 0 rfl ?_
        refine u_iload X hl dX8_mostTrust_59 4 rfl ?_
        refine u_iload_n X hl dX8_mostTrust_61 1 rfl ?_
        refine u_iload_n X hl dX8_mostTrust_62 2 rfl ?_
        obtain ⟨w63, hc63, h⟩ := ob_inv h
        refine u_callVi X hP hS hl dX8_mostTrust_63 (cWays_isFree l hc63) cw_X8_68 io_19 rfl rfl rfl rfl ⟨rfl, rfl⟩ (fun H locs hP hS => ?_)
        refine u_if_eq 84 X dX8_mostTrust_66 rfl (fun hc => ?_) (fun hc => ?_)
        · rw [if_pos hc] at h
          exact J84 _ _ _ hl hP hS h
        · rw [if_neg hc] at h
          exact J69 _ _ _ hl hP hS h
    refine u_icmp_eq 52 X dX8_mostTrust_39 rfl (fun hc => ?_) (fun hc => ?_)
    · rw [if_pos hc] at h
      exact J52 _ _ _ (lv_sub hl [2, 3, 4, 1, 0] rfl) hP hS h
    · rw [if_neg hc] at h
      refine u_aload_n X hl dX8_mostTrust_42 2 rfl ?_
      refine u_iload_n X hl dX8_mostTrust_43 1 rfl ?_
      refine u_iload_n X hl dX8_mostTrust_44 3 rfl ?_
      refine u_iload_n X hl dX8_mostTrust_45 4 rfl ?_
      obtain ⟨w46, hc46, h⟩ := ob_inv h
      refine u_callVi X hP hS hl dX8_mostTrust_46 (cWays_isFree l hc46) cw_X8_68 io_19 rfl rfl rfl rfl ⟨rfl, rfl⟩ (fun H locs hP hS => ?_)
      refine u_if_eq 84 X dX8_mostTrust_49 rfl (fun hc => ?_) (fun hc => ?_)
      · rw [if_pos hc] at h
        exact J84 _ _ _ (lv_sub hl [2, 3, 4, 1, 0] rfl) hP hS h
      · rw [if_neg hc] at h
        exact J52 _ _ _ (lv_sub hl [2, 3, 4, 1, 0] rfl) hP hS h
def fWays_rowsAhead_J106 (z : MS) (K70 : MS → Int32 → Option (Int32 × MS)) (l1 : Int32) (l5 : Int32) (l7 : Int32) (s0 : Int32) : Option (Int32 × MS) :=
  if l7 < 0 ∨ 3 ≤ l7.toNatClampNeg then none else if s0 = 0 then Option.bind (fWays_mostTrust z l5 (l1 + l7)) (fun w133 => if l5 < 0 ∨ 64 ≤ l5.toNatClampNeg then none else K70 (pI z (22 + l7.toNatClampNeg) l5.toNatClampNeg w133) (l7 + 1)) else (if l5 < 0 ∨ 64 ≤ l5.toNatClampNeg then none else K70 (pI z (22 + l7.toNatClampNeg) l5.toNatClampNeg (-1)) (l7 + 1))
def fWays_rowsAhead_J105 (z : MS) (K70 : MS → Int32 → Option (Int32 × MS)) (l1 : Int32) (l5 : Int32) (l7 : Int32) : Option (Int32 × MS) :=
  fWays_rowsAhead_J106 z K70 l1 l5 l7 0
def fWays_rowsAhead_L70 (K18 : MS → Int32 → Option (Int32 × MS)) (l1 : Int32) (l2 : Int32) (l4 : Int32) (l5 : Int32) (l6 : Int32) : Nat → MS → Int32 → Option (Int32 × MS)
  | 0, _, _ => none
  | n + 1, z, l7 => if l2 ≤ l7 then K18 z (l4 + 1) else (if l6 < 0 then fWays_rowsAhead_J105 z (fWays_rowsAhead_L70 K18 l1 l2 l4 l5 l6 n) l1 l5 l7 else (if l6 < ((l1 + l7) - (gI z 5 7)) then fWays_rowsAhead_J105 z (fWays_rowsAhead_L70 K18 l1 l2 l4 l5 l6 n) l1 l5 l7 else fWays_rowsAhead_J106 z (fWays_rowsAhead_L70 K18 l1 l2 l4 l5 l6 n) l1 l5 l7 1))
def fWays_rowsAhead_L18 (K2 : MS → Int32 → Option (Int32 × MS)) (l1 : Int32) (l2 : Int32) (l3 : Int32) : Nat → MS → Int32 → Option (Int32 × MS)
  | 0, _, _ => none
  | n + 1, z, l4 => if (gI z 1 0) ≤ l4 then K2 z (l3 + 1) else Option.bind (fJudge_trustOfPair z (fHouse_pairOf l3 l4) l1) (fun w51 => if (fHouse_pairOf l3 l4) < 0 ∨ 64 ≤ (fHouse_pairOf l3 l4).toNatClampNeg then none else Option.bind (fHouse_lastDayOf (pI z 20 (fHouse_pairOf l3 l4).toNatClampNeg w51) (fHouse_pairOf l3 l4) l1) (fun w62 => fWays_rowsAhead_L70 (fWays_rowsAhead_L18 K2 l1 l2 l3 n) l1 l2 l4 (fHouse_pairOf l3 l4) w62 LF (pI z 20 (fHouse_pairOf l3 l4).toNatClampNeg w51) 0))
def fWays_rowsAhead_L2 (l1 : Int32) (l2 : Int32) : Nat → MS → Int32 → Option (Int32 × MS)
  | 0, _, _ => none
  | n + 1, z, l3 => if (gI z 1 0) ≤ l3 then ob2 (fWays_countRows 6 z 0 l2) (fun w158 zc158 => some (w158, zc158)) else fWays_rowsAhead_L18 (fWays_rowsAhead_L2 l1 l2 n) l1 l2 l3 LF z (l3 + 1)
def fWays_rowsAhead (z : MS) (a0 : Int32) (a1 : Int32) : Option (Int32 × MS) :=
  fWays_rowsAhead_L2 a0 a1 LF z 0
set_option maxRecDepth 4000 in
theorem cWays_rowsAhead (l : Launch) {z : MS} {a0 : Int32} {a1 : Int32} {r : Int32} {z1 : MS} (h : fWays_rowsAhead z a0 a1 = some (r, z1)) : CT l yX8_rowsAhead cX8_rowsAhead 9 (some .int) 10 252 (fun ad sd => [.ref (ad 19), .int a0, .int a1]) z (some (.int r)) z1 := by
  rw [fWays_rowsAhead] at h
  refine u_start RX8 rfl (by decide) (fun _ _ => Nat.le_of_ble_eq_true rfl) (fun p e s m args below meth c R D ad cs sd A Q ls X hP hS hl hr hret => ?_)
  have hl : lv_has ls 9 [(0, .ref (ad 19)), (1, .int a0), (2, .int a1)] := hl
  refine u_iconst (v := 0) X dX8_rowsAhead_0 rfl ?_
  refine u_istore_n [(3, .int 0), (0, .ref (ad 19)), (1, .int a0), (2, .int a1)] X hl dX8_rowsAhead_1 (Nat.le_of_ble_eq_true rfl) rfl (fun ls hl => ?_)
  have L2 : ∀ (n : Nat) (H : Heap) (locs : List Loc) (ls : Array Slot) (z_2 : MS) (l3_2 : Int32), lv_has ls 9 [(0, .ref (ad 19)), (1, .int a0), (2, .int a1), (3, .int l3_2)] → va_P D clss (wld cs ad z_2) H → va_S A s.heap H locs → fWays_rowsAhead_L2 a0 a1 n z_2 l3_2 = some (r, z1) → W p l e R s m args below meth c H locs 0 0 Q (F0 m 2 ls []) := by
    intro n
    induction n with
    | zero =>
      intro H locs ls z_2 l3_2 hl hP hS h
      rw [fWays_rowsAhead_L2] at h
      cases h
    | succ n2 ih2 =>
      intro H locs ls z_2 l3_2 hl hP hS h
      rw [fWays_rowsAhead_L2] at h
      refine u_iload_n X hl dX8_rowsAhead_2 3 rfl ?_
      refine u_aload_n X hl dX8_rowsAhead_3 0 rfl ?_
      refine gf_X8_9_19 X hP dX8_rowsAhead_4 ?_
      refine gf_X8_38_1 X hP dX8_rowsAhead_7 ?_
      refine u_icmp_ge 155 X dX8_rowsAhead_10 rfl (fun hc => ?_) (fun hc => ?_)
      · rw [if_pos hc] at h
        refine u_aload_n X hl dX8_rowsAhead_155 0 rfl ?_
        refine u_iconst (v := 0) X dX8_rowsAhead_156 rfl ?_
        refine u_iload_n X hl dX8_rowsAhead_157 2 rfl ?_
        obtain ⟨w158, zc158, hc158, h⟩ := ob2_inv h
        refine u_callSi X hP hS hl dX8_rowsAhead_158 (cWays_countRows l 6 hc158) cw_X8_107 rfl rfl rfl rfl ⟨rfl, rfl⟩ (fun H locs hP hS => ?_)
        exact u_iretM X hr hret h hP hS dX8_rowsAhead_161
      · rw [if_neg hc] at h
        refine u_iload_n X hl dX8_rowsAhead_13 3 rfl ?_
        refine u_iconst (v := 1) X dX8_rowsAhead_14 rfl ?_
        refine u_iadd X dX8_rowsAhead_15 ?_
        refine u_istore [(4, .int (l3_2 + 1)), (0, .ref (ad 19)), (1, .int a0), (2, .int a1), (3, .int l3_2)] X hl dX8_rowsAhead_16 (Nat.le_of_ble_eq_true rfl) rfl (fun ls hl => ?_)
        have L18 : ∀ (n : Nat) (H : Heap) (locs : List Loc) (ls : Array Slot) (z_18 : MS) (l4_18 : Int32), lv_has ls 9 [(0, .ref (ad 19)), (1, .int a0), (2, .int a1), (3, .int l3_2), (4, .int l4_18)] → va_P D clss (wld cs ad z_18) H → va_S A s.heap H locs → fWays_rowsAhead_L18 (fWays_rowsAhead_L2 a0 a1 n2) a0 a1 l3_2 n z_18 l4_18 = some (r, z1) → W p l e R s m args below meth c H locs 0 0 Q (F0 m 18 ls []) := by
          intro n
          induction n with
          | zero =>
            intro H locs ls z_18 l4_18 hl hP hS h
            rw [fWays_rowsAhead_L18] at h
            cases h
          | succ n18 ih18 =>
            intro H locs ls z_18 l4_18 hl hP hS h
            rw [fWays_rowsAhead_L18] at h
            refine u_iload X hl dX8_rowsAhead_18 4 rfl ?_
            refine u_aload_n X hl dX8_rowsAhead_20 0 rfl ?_
            refine gf_X8_9_19 X hP dX8_rowsAhead_21 ?_
            refine gf_X8_38_1 X hP dX8_rowsAhead_24 ?_
            refine u_icmp_ge 149 X dX8_rowsAhead_27 rfl (fun hc => ?_) (fun hc => ?_)
            · rw [if_pos hc] at h
              refine u_iinc [(3, .int (l3_2 + 1)), (0, .ref (ad 19)), (1, .int a0), (2, .int a1), (4, .int l4_18)] X hl dX8_rowsAhead_149 3 rfl rfl (Nat.le_of_ble_eq_true rfl) rfl (fun ls hl => ?_)
              refine u_goto 2 X dX8_rowsAhead_152 rfl ?_
              exact ih2 _ _ _ _ _ (lv_sub hl [1, 2, 3, 0] rfl) hP hS h
            · rw [if_neg hc] at h
              refine u_iload_n X hl dX8_rowsAhead_30 3 rfl ?_
              refine u_iload X hl dX8_rowsAhead_31 4 rfl ?_
              refine u_callSi X hP hS hl dX8_rowsAhead_33 (cHouse_pairOf l z_18 l3_2 l4_18) cw_X8_47 rfl rfl rfl rfl ⟨rfl, rfl⟩ (fun H locs hP hS => ?_)
              refine u_istore [(5, .int (fHouse_pairOf l3_2 l4_18)), (0, .ref (ad 19)), (1, .int a0), (2, .int a1), (3, .int l3_2), (4, .int l4_18)] X hl dX8_rowsAhead_36 (Nat.le_of_ble_eq_true rfl) rfl (fun ls hl => ?_)
              refine u_aload_n X hl dX8_rowsAhead_38 1 rfl ?_
              refine gf_X8_19_19 X hP dX8_rowsAhead_39 ?_
              refine u_iload X hl dX8_rowsAhead_42 0 rfl ?_
              refine u_aload_n X hl dX8_rowsAhead_44 1 rfl ?_
              refine gf_X8_15_19 X hP dX8_rowsAhead_45 ?_
              refine u_iload X hl dX8_rowsAhead_48 0 rfl ?_
              refine u_iload_n X hl dX8_rowsAhead_50 2 rfl ?_
              obtain ⟨w51, hc51, h⟩ := ob_inv h
              refine u_callVi X hP hS hl dX8_rowsAhead_51 (cJudge_trustOfPair l hc51) cw_X8_59 io_17 rfl rfl rfl rfl ⟨rfl, rfl⟩ (fun H locs hP hS => ?_)
              obtain ⟨hin, h⟩ := ifn_inv h
              refine as_20 X hP hS rfl hin dX8_rowsAhead_54 (fun H locs hP hS => ?_)
              refine u_aload_n X hl dX8_rowsAhead_55 1 rfl ?_
              refine gf_X8_9_19 X hP dX8_rowsAhead_56 ?_
              refine u_iload X hl dX8_rowsAhead_59 0 rfl ?_
              refine u_iload_n X hl dX8_rowsAhead_61 2 rfl ?_
              obtain ⟨w62, hc62, h⟩ := ob_inv h
              refine u_callVi X hP hS hl dX8_rowsAhead_62 (cHouse_lastDayOf l hc62) cw_X8_101 io_1 rfl rfl rfl rfl ⟨rfl, rfl⟩ (fun H locs hP hS => ?_)
              refine u_istore [(6, .int w62), (5, .int (fHouse_pairOf l3_2 l4_18)), (0, .ref (ad 19)), (1, .int a0), (2, .int a1), (3, .int l3_2), (4, .int l4_18)] X hl dX8_rowsAhead_65 (Nat.le_of_ble_eq_true rfl) rfl (fun ls hl => ?_)
              refine u_iconst (v := 0) X dX8_rowsAhead_67 rfl ?_
              refine u_istore [(7, .int 0), (6, .int w62), (5, .int (fHouse_pairOf l3_2 l4_18)), (0, .ref (ad 19)), (1, .int a0), (2, .int a1), (3, .int l3_2), (4, .int l4_18)] X hl dX8_rowsAhead_68 (Nat.le_of_ble_eq_true rfl) rfl (fun ls hl => ?_)
              have L70 : ∀ (n : Nat) (H : Heap) (locs : List Loc) (ls : Array Slot) (z_70 : MS) (l7_70 : Int32), lv_has ls 9 [(0, .ref (ad 19)), (1, .int a0), (2, .int a1), (3, .int l3_2), (4, .int l4_18), (5, .int (fHouse_pairOf l3_2 l4_18)), (6, .int w62), (7, .int l7_70)] → va_P D clss (wld cs ad z_70) H → va_S A s.heap H locs → fWays_rowsAhead_L70 (fWays_rowsAhead_L18 (fWays_rowsAhead_L2 a0 a1 n2) a0 a1 l3_2 n18) a0 a1 l4_18 (fHouse_pairOf l3_2 l4_18) w62 n z_70 l7_70 = some (r, z1) → W p l e R s m args below meth c H locs 0 0 Q (F0 m 70 ls []) := by
                intro n
                induction n with
                | zero =>
                  intro H locs ls z_70 l7_70 hl hP hS h
                  rw [fWays_rowsAhead_L70] at h
                  cases h
                | succ n70 ih70 =>
                  intro H locs ls z_70 l7_70 hl hP hS h
                  rw [fWays_rowsAhead_L70] at h
                  refine u_iload X hl dX8_rowsAhead_70 7 rfl ?_
                  refine u_iload_n X hl dX8_rowsAhead_72 2 rfl ?_
                  refine u_icmp_ge 143 X dX8_rowsAhead_73 rfl (fun hc => ?_) (fun hc => ?_)
                  · rw [if_pos hc] at h
                    refine u_iinc [(4, .int (l4_18 + 1)), (0, .ref (ad 19)), (1, .int a0), (2, .int a1), (3, .int l3_2), (5, .int (fHouse_pairOf l3_2 l4_18)), (6, .int w62), (7, .int l7_70)] X hl dX8_rowsAhead_143 4 rfl rfl (Nat.le_of_ble_eq_true rfl) rfl (fun ls hl => ?_)
                    refine u_goto 18 X dX8_rowsAhead_146 rfl ?_
                    exact ih18 _ _ _ _ _ (lv_sub hl [1, 2, 3, 4, 0] rfl) hP hS h
                  · rw [if_neg hc] at h
                    refine u_iload X hl dX8_rowsAhead_76 6 rfl ?_
                    have J106 : ∀ (H : Heap) (locs : List Loc) (ls : Array Slot) (s0_106 : Int32), lv_has ls 9 [(0, .ref (ad 19)), (1, .int a0), (2, .int a1), (3, .int l3_2), (4, .int l4_18), (5, .int (fHouse_pairOf l3_2 l4_18)), (6, .int w62), (7, .int l7_70)] → va_P D clss (wld cs ad z_70) H → va_S A s.heap H locs → fWays_rowsAhead_J106 z_70 (fWays_rowsAhead_L70 (fWays_rowsAhead_L18 (fWays_rowsAhead_L2 a0 a1 n2) a0 a1 l3_2 n18) a0 a1 l4_18 (fHouse_pairOf l3_2 l4_18) w62 n70) a0 (fHouse_pairOf l3_2 l4_18) l7_70 s0_106 = some (r, z1) → W p l e R s m args below meth c H locs 0 0 Q (F0 m 106 ls [.int s0_106]) := by
                      intro H locs ls s0_106 hl hP hS h
                      rw [fWays_rowsAhead_J106] at h
                      refine u_istore [(8, .int s0_106), (0, .ref (ad 19)), (1, .int a0), (2, .int a1), (3, .int l3_2), (4, .int l4_18), (5, .int (fHouse_pairOf l3_2 l4_18)), (6, .int w62), (7, .int l7_70)] X hl dX8_rowsAhead_106 (Nat.le_of_ble_eq_true rfl) rfl (fun ls hl => ?_)
                      refine u_aload_n X hl dX8_rowsAhead_108 1 rfl ?_
                      refine gf_X8_25_19 X hP dX8_rowsAhead_109 ?_
                      refine u_iload X hl dX8_rowsAhead_112 8 rfl ?_
                      obtain ⟨hin, h⟩ := ifn_inv h
                      have hdy := vp_lt hin
                      refine la_21 X hP hin dX8_rowsAhead_114 ?_
                      refine u_iload X hl dX8_rowsAhead_115 6 rfl ?_
                      refine u_iload X hl dX8_rowsAhead_117 0 rfl ?_
                      refine u_if_eq 126 X dX8_rowsAhead_119 rfl (fun hc => ?_) (fun hc => ?_)
                      · rw [if_pos hc] at h
                        refine u_aload_n X hl dX8_rowsAhead_126 1 rfl ?_
                        refine u_iload X hl dX8_rowsAhead_127 6 rfl ?_
                        refine u_iload_n X hl dX8_rowsAhead_129 2 rfl ?_
                        refine u_iload X hl dX8_rowsAhead_130 8 rfl ?_
                        refine u_iadd X dX8_rowsAhead_132 ?_
                        obtain ⟨w133, hc133, h⟩ := ob_inv h
                        refine u_callVi X hP hS hl dX8_rowsAhead_133 (cWays_mostTrust l hc133) cw_X8_104 io_19 rfl rfl rfl rfl ⟨rfl, rfl⟩ (fun H locs hP hS => ?_)
                        obtain ⟨hin, h⟩ := ifn_inv h
                        refine as_dyn22 hdy X hP hS rfl hin dX8_rowsAhead_136 (fun H locs hP hS => ?_)
                        refine u_iinc [(7, .int (l7_70 + 1)), (8, .int s0_106), (0, .ref (ad 19)), (1, .int a0), (2, .int a1), (3, .int l3_2), (4, .int l4_18), (5, .int (fHouse_pairOf l3_2 l4_18)), (6, .int w62)] X hl dX8_rowsAhead_137 8 rfl rfl (Nat.le_of_ble_eq_true rfl) rfl (fun ls hl => ?_)
                        refine u_goto 70 X dX8_rowsAhead_140 rfl ?_
                        exact ih70 _ _ _ _ _ (lv_sub hl [2, 3, 4, 5, 6, 7, 8, 0] rfl) hP hS h
                      · rw [if_neg hc] at h
                        refine u_iconst (v := (-1)) X dX8_rowsAhead_122 rfl ?_
                        refine u_goto 136 X dX8_rowsAhead_123 rfl ?_
                        obtain ⟨hin, h⟩ := ifn_inv h
                        refine as_dyn22 hdy X hP hS rfl hin dX8_rowsAhead_136 (fun H locs hP hS => ?_)
                        refine u_iinc [(7, .int (l7_70 + 1)), (8, .int s0_106), (0, .ref (ad 19)), (1, .int a0), (2, .int a1), (3, .int l3_2), (4, .int l4_18), (5, .int (fHouse_pairOf l3_2 l4_18)), (6, .int w62)] X hl dX8_rowsAhead_137 8 rfl rfl (Nat.le_of_ble_eq_true rfl) rfl (fun ls hl => ?_)
                        refine u_goto 70 X dX8_rowsAhead_140 rfl ?_
                        exact ih70 _ _ _ _ _ (lv_sub hl [2, 3, 4, 5, 6, 7, 8, 0] rfl) hP hS h
                    have J105 : ∀ (H : Heap) (locs : List Loc) (ls : Array Slot), lv_has ls 9 [(0, .ref (ad 19)), (1, .int a0), (2, .int a1), (3, .int l3_2), (4, .int l4_18), (5, .int (fHouse_pairOf l3_2 l4_18)), (6, .int w62), (7, .int l7_70)] → va_P D clss (wld cs ad z_70) H → va_S A s.heap H locs → fWays_rowsAhead_J105 z_70 (fWays_rowsAhead_L70 (fWays_rowsAhead_L18 (fWays_rowsAhead_L2 a0 a1 n2) a0 a1 l3_2 n18) a0 a1 l4_18 (fHouse_pairOf l3_2 l4_18) w62 n70) a0 (fHouse_pairOf l3_2 l4_18) l7_70 = some (r, z1) → W p l e R s m args below meth c H locs 0 0 Q (F0 m 105 ls []) := by
                      intro H locs ls hl hP hS h
                      rw [fWays_rowsAhead_J105] at h
                      refine u_iconst (v := 0) X dX8_rowsAhead_105 rfl ?_
                      exact J106 _ _ _ _ hl hP hS h
                    refine u_if_lt 105 X dX8_rowsAhead_78 rfl (fun hc => ?_) (fun hc => ?_)
                    · rw [if_pos hc] at h
                      exact J105 _ _ _ hl hP hS h
                    · rw [if_neg hc] at h
                      refine u_iload X hl dX8_rowsAhead_81 6 rfl ?_
                      refine u_iload_n X hl dX8_rowsAhead_83 1 rfl ?_
                      refine u_iload X hl dX8_rowsAhead_84 7 rfl ?_
                      refine u_iadd X dX8_rowsAhead_86 ?_
                      refine u_aload_n X hl dX8_rowsAhead_87 0 rfl ?_
                      refine gf_X8_9_19 X hP dX8_rowsAhead_88 ?_
                      refine gf_X8_95_1 X hP dX8_rowsAhead_91 ?_
                      refine u_bipush (v := 7) X dX8_rowsAhead_94 rfl ?_
                      refine ld_5 (w := 7) X hP rfl (by decide) dX8_rowsAhead_96 ?_
                      refine u_isub X dX8_rowsAhead_97 ?_
                      refine u_icmp_lt 105 X dX8_rowsAhead_98 rfl (fun hc => ?_) (fun hc => ?_)
                      · rw [if_pos hc] at h
                        exact J105 _ _ _ hl hP hS h
                      · rw [if_neg hc] at h
                        refine u_iconst (v := 1) X dX8_rowsAhead_101 rfl ?_
                        refine u_goto 106 X dX8_rowsAhead_102 rfl ?_
                        exact J106 _ _ _ _ hl hP hS h
              exact L70 LF _ _ _ _ _ (lv_sub hl [3, 4, 5, 6, 7, 2, 1, 0] rfl) hP hS h
        exact L18 LF _ _ _ _ _ (lv_sub hl [1, 2, 3, 4, 0] rfl) hP hS h
  exact L2 LF _ _ _ _ _ (lv_sub hl [1, 2, 3, 0] rfl) hP hS h
