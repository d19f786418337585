theorem dX2_init_0 : decode cX2_init 0 = .ok (.aload_n 0, 1) := by decide +kernel
theorem dX2_init_1 : decode cX2_init 1 = .ok (.invokespecial 3, 3) := by decide +kernel
theorem dX2_init_4 : decode cX2_init 4 = .ok (.aload_n 0, 1) := by decide +kernel
theorem dX2_init_5 : decode cX2_init 5 = .ok (.iconst 0, 1) := by decide +kernel
theorem dX2_init_6 : decode cX2_init 6 = .ok (.putfield 9, 3) := by decide +kernel
theorem dX2_init_9 : decode cX2_init 9 = .ok (.aload_n 0, 1) := by decide +kernel
theorem dX2_init_10 : decode cX2_init 10 = .ok (.iconst 0, 1) := by decide +kernel
theorem dX2_init_11 : decode cX2_init 11 = .ok (.putfield 15, 3) := by decide +kernel
theorem dX2_init_14 : decode cX2_init 14 = .ok (.aload_n 0, 1) := by decide +kernel
theorem dX2_init_15 : decode cX2_init 15 = .ok (.bipush 8, 2) := by decide +kernel
theorem dX2_init_17 : decode cX2_init 17 = .ok (.newarray .int, 2) := by decide +kernel
theorem dX2_init_19 : decode cX2_init 19 = .ok (.putfield 18, 3) := by decide +kernel
theorem dX2_init_22 : decode cX2_init 22 = .ok (.aload_n 0, 1) := by decide +kernel
theorem dX2_init_23 : decode cX2_init 23 = .ok (.bipush 8, 2) := by decide +kernel
theorem dX2_init_25 : decode cX2_init 25 = .ok (.newarray .int, 2) := by decide +kernel
theorem dX2_init_27 : decode cX2_init 27 = .ok (.putfield 22, 3) := by decide +kernel
theorem dX2_init_30 : decode cX2_init 30 = .ok (.aload_n 0, 1) := by decide +kernel
theorem dX2_init_31 : decode cX2_init 31 = .ok (.bipush 64, 2) := by decide +kernel
theorem dX2_init_33 : decode cX2_init 33 = .ok (.newarray .int, 2) := by decide +kernel
theorem dX2_init_35 : decode cX2_init 35 = .ok (.putfield 25, 3) := by decide +kernel
theorem dX2_init_38 : decode cX2_init 38 = .ok (.aload_n 0, 1) := by decide +kernel
theorem dX2_init_39 : decode cX2_init 39 = .ok (.bipush 8, 2) := by decide +kernel
theorem dX2_init_41 : decode cX2_init 41 = .ok (.newarray .int, 2) := by decide +kernel
theorem dX2_init_43 : decode cX2_init 43 = .ok (.putfield 28, 3) := by decide +kernel
theorem dX2_init_46 : decode cX2_init 46 = .ok (.aload_n 0, 1) := by decide +kernel
theorem dX2_init_47 : decode cX2_init 47 = .ok (.bipush 40, 2) := by decide +kernel
theorem dX2_init_49 : decode cX2_init 49 = .ok (.newarray .int, 2) := by decide +kernel
theorem dX2_init_51 : decode cX2_init 51 = .ok (.putfield 31, 3) := by decide +kernel
theorem dX2_init_54 : decode cX2_init 54 = .ok (.aload_n 0, 1) := by decide +kernel
theorem dX2_init_55 : decode cX2_init 55 = .ok (.bipush 10, 2) := by decide +kernel
theorem dX2_init_57 : decode cX2_init 57 = .ok (.newarray .int, 2) := by decide +kernel
theorem dX2_init_59 : decode cX2_init 59 = .ok (.putfield 34, 3) := by decide +kernel
theorem dX2_init_62 : decode cX2_init 62 = .ok (.getstatic 37, 3) := by decide +kernel
theorem dX2_init_65 : decode cX2_init 65 = .ok (.iconst 0, 1) := by decide +kernel
theorem dX2_init_66 : decode cX2_init 66 = .ok (.aload_n 0, 1) := by decide +kernel
theorem dX2_init_67 : decode cX2_init 67 = .ok (.getfield 28, 3) := by decide +kernel
theorem dX2_init_70 : decode cX2_init 70 = .ok (.iconst 0, 1) := by decide +kernel
theorem dX2_init_71 : decode cX2_init 71 = .ok (.bipush 8, 2) := by decide +kernel
theorem dX2_init_73 : decode cX2_init 73 = .ok (.invokestatic 40, 3) := by decide +kernel
theorem dX2_init_76 : decode cX2_init 76 = .ok (.aload_n 0, 1) := by decide +kernel
theorem dX2_init_77 : decode cX2_init 77 = .ok (.getfield 31, 3) := by decide +kernel
theorem dX2_init_80 : decode cX2_init 80 = .ok (.iconst (-1), 1) := by decide +kernel
theorem dX2_init_81 : decode cX2_init 81 = .ok (.invokestatic 46, 3) := by decide +kernel
theorem dX2_init_84 : decode cX2_init 84 = .ok (.return_, 1) := by decide +kernel
theorem dX2_pairOf_0 : decode cX2_pairOf 0 = .ok (.iload_n 0, 1) := by decide +kernel
theorem dX2_pairOf_1 : decode cX2_pairOf 1 = .ok (.iload_n 1, 1) := by decide +kernel
theorem dX2_pairOf_2 : decode cX2_pairOf 2 = .ok (.if_icmp .ge 12, 3) := by decide +kernel
theorem dX2_pairOf_5 : decode cX2_pairOf 5 = .ok (.bipush 8, 2) := by decide +kernel
theorem dX2_pairOf_7 : decode cX2_pairOf 7 = .ok (.iload_n 0, 1) := by decide +kernel
theorem dX2_pairOf_8 : decode cX2_pairOf 8 = .ok (.imul, 1) := by decide +kernel
theorem dX2_pairOf_9 : decode cX2_pairOf 9 = .ok (.iload_n 1, 1) := by decide +kernel
theorem dX2_pairOf_10 : decode cX2_pairOf 10 = .ok (.iadd, 1) := by decide +kernel
theorem dX2_pairOf_11 : decode cX2_pairOf 11 = .ok (.goto 9, 3) := by decide +kernel
theorem dX2_pairOf_14 : decode cX2_pairOf 14 = .ok (.bipush 8, 2) := by decide +kernel
theorem dX2_pairOf_16 : decode cX2_pairOf 16 = .ok (.iload_n 1, 1) := by decide +kernel
theorem dX2_pairOf_17 : decode cX2_pairOf 17 = .ok (.imul, 1) := by decide +kernel
theorem dX2_pairOf_18 : decode cX2_pairOf 18 = .ok (.iload_n 0, 1) := by decide +kernel
theorem dX2_pairOf_19 : decode cX2_pairOf 19 = .ok (.iadd, 1) := by decide +kernel
theorem dX2_pairOf_20 : decode cX2_pairOf 20 = .ok (.ireturn, 1) := by decide +kernel
theorem dX2_become_0 : decode cX2_become 0 = .ok (.aload_n 0, 1) := by decide +kernel
theorem dX2_become_1 : decode cX2_become 1 = .ok (.aload_n 1, 1) := by decide +kernel
theorem dX2_become_2 : decode cX2_become 2 = .ok (.getfield 9, 3) := by decide +kernel
theorem dX2_become_5 : decode cX2_become 5 = .ok (.putfield 9, 3) := by decide +kernel
theorem dX2_become_8 : decode cX2_become 8 = .ok (.aload_n 0, 1) := by decide +kernel
theorem dX2_become_9 : decode cX2_become 9 = .ok (.aload_n 1, 1) := by decide +kernel
theorem dX2_become_10 : decode cX2_become 10 = .ok (.getfield 15, 3) := by decide +kernel
theorem dX2_become_13 : decode cX2_become 13 = .ok (.putfield 15, 3) := by decide +kernel
theorem dX2_become_16 : decode cX2_become 16 = .ok (.aload_n 1, 1) := by decide +kernel
theorem dX2_become_17 : decode cX2_become 17 = .ok (.getfield 18, 3) := by decide +kernel
theorem dX2_become_20 : decode cX2_become 20 = .ok (.iconst 0, 1) := by decide +kernel
theorem dX2_become_21 : decode cX2_become 21 = .ok (.aload_n 0, 1) := by decide +kernel
theorem dX2_become_22 : decode cX2_become 22 = .ok (.getfield 18, 3) := by decide +kernel
theorem dX2_become_25 : decode cX2_become 25 = .ok (.iconst 0, 1) := by decide +kernel
theorem dX2_become_26 : decode cX2_become 26 = .ok (.bipush 8, 2) := by decide +kernel
theorem dX2_become_28 : decode cX2_become 28 = .ok (.invokestatic 40, 3) := by decide +kernel
theorem dX2_become_31 : decode cX2_become 31 = .ok (.aload_n 1, 1) := by decide +kernel
theorem dX2_become_32 : decode cX2_become 32 = .ok (.getfield 22, 3) := by decide +kernel
theorem dX2_become_35 : decode cX2_become 35 = .ok (.iconst 0, 1) := by decide +kernel
theorem dX2_become_36 : decode cX2_become 36 = .ok (.aload_n 0, 1) := by decide +kernel
theorem dX2_become_37 : decode cX2_become 37 = .ok (.getfield 22, 3) := by decide +kernel
theorem dX2_become_40 : decode cX2_become 40 = .ok (.iconst 0, 1) := by decide +kernel
theorem dX2_become_41 : decode cX2_become 41 = .ok (.bipush 8, 2) := by decide +kernel
theorem dX2_become_43 : decode cX2_become 43 = .ok (.invokestatic 40, 3) := by decide +kernel
theorem dX2_become_46 : decode cX2_become 46 = .ok (.aload_n 1, 1) := by decide +kernel
theorem dX2_become_47 : decode cX2_become 47 = .ok (.getfield 25, 3) := by decide +kernel
theorem dX2_become_50 : decode cX2_become 50 = .ok (.iconst 0, 1) := by decide +kernel
theorem dX2_become_51 : decode cX2_become 51 = .ok (.aload_n 0, 1) := by decide +kernel
theorem dX2_become_52 : decode cX2_become 52 = .ok (.getfield 25, 3) := by decide +kernel
theorem dX2_become_55 : decode cX2_become 55 = .ok (.iconst 0, 1) := by decide +kernel
theorem dX2_become_56 : decode cX2_become 56 = .ok (.bipush 64, 2) := by decide +kernel
theorem dX2_become_58 : decode cX2_become 58 = .ok (.invokestatic 40, 3) := by decide +kernel
theorem dX2_become_61 : decode cX2_become 61 = .ok (.aload_n 1, 1) := by decide +kernel
theorem dX2_become_62 : decode cX2_become 62 = .ok (.getfield 28, 3) := by decide +kernel
theorem dX2_become_65 : decode cX2_become 65 = .ok (.iconst 0, 1) := by decide +kernel
theorem dX2_become_66 : decode cX2_become 66 = .ok (.aload_n 0, 1) := by decide +kernel
theorem dX2_become_67 : decode cX2_become 67 = .ok (.getfield 28, 3) := by decide +kernel
theorem dX2_become_70 : decode cX2_become 70 = .ok (.iconst 0, 1) := by decide +kernel
theorem dX2_become_71 : decode cX2_become 71 = .ok (.bipush 8, 2) := by decide +kernel
theorem dX2_become_73 : decode cX2_become 73 = .ok (.invokestatic 40, 3) := by decide +kernel
theorem dX2_become_76 : decode cX2_become 76 = .ok (.aload_n 1, 1) := by decide +kernel
theorem dX2_become_77 : decode cX2_become 77 = .ok (.getfield 31, 3) := by decide +kernel
theorem dX2_become_80 : decode cX2_become 80 = .ok (.iconst 0, 1) := by decide +kernel
theorem dX2_become_81 : decode cX2_become 81 = .ok (.aload_n 0, 1) := by decide +kernel
theorem dX2_become_82 : decode cX2_become 82 = .ok (.getfield 31, 3) := by decide +kernel
theorem dX2_become_85 : decode cX2_become 85 = .ok (.iconst 0, 1) := by decide +kernel
theorem dX2_become_86 : decode cX2_become 86 = .ok (.bipush 40, 2) := by decide +kernel
theorem dX2_become_88 : decode cX2_become 88 = .ok (.invokestatic 40, 3) := by decide +kernel
theorem dX2_become_91 : decode cX2_become 91 = .ok (.aload_n 1, 1) := by decide +kernel
theorem dX2_become_92 : decode cX2_become 92 = .ok (.getfield 34, 3) := by decide +kernel
theorem dX2_become_95 : decode cX2_become 95 = .ok (.iconst 0, 1) := by decide +kernel
theorem dX2_become_96 : decode cX2_become 96 = .ok (.aload_n 0, 1) := by decide +kernel
theorem dX2_become_97 : decode cX2_become 97 = .ok (.getfield 34, 3) := by decide +kernel
theorem dX2_become_100 : decode cX2_become 100 = .ok (.iconst 0, 1) := by decide +kernel
theorem dX2_become_101 : decode cX2_become 101 = .ok (.bipush 10, 2) := by decide +kernel
theorem dX2_become_103 : decode cX2_become 103 = .ok (.invokestatic 40, 3) := by decide +kernel
theorem dX2_become_106 : decode cX2_become 106 = .ok (.return_, 1) := by decide +kernel
theorem dX2_emptyBut_0 : decode cX2_emptyBut 0 = .ok (.aload_n 0, 1) := by decide +kernel
theorem dX2_emptyBut_1 : decode cX2_emptyBut 1 = .ok (.iconst 0, 1) := by decide +kernel
theorem dX2_emptyBut_2 : decode cX2_emptyBut 2 = .ok (.putfield 9, 3) := by decide +kernel
theorem dX2_emptyBut_5 : decode cX2_emptyBut 5 = .ok (.aload_n 0, 1) := by decide +kernel
theorem dX2_emptyBut_6 : decode cX2_emptyBut 6 = .ok (.iconst 0, 1) := by decide +kernel
theorem dX2_emptyBut_7 : decode cX2_emptyBut 7 = .ok (.putfield 15, 3) := by decide +kernel
theorem dX2_emptyBut_10 : decode cX2_emptyBut 10 = .ok (.aload_n 0, 1) := by decide +kernel
theorem dX2_emptyBut_11 : decode cX2_emptyBut 11 = .ok (.getfield 18, 3) := by decide +kernel
theorem dX2_emptyBut_14 : decode cX2_emptyBut 14 = .ok (.iconst 0, 1) := by decide +kernel
theorem dX2_emptyBut_15 : decode cX2_emptyBut 15 = .ok (.invokestatic 46, 3) := by decide +kernel
theorem dX2_emptyBut_18 : decode cX2_emptyBut 18 = .ok (.aload_n 0, 1) := by decide +kernel
theorem dX2_emptyBut_19 : decode cX2_emptyBut 19 = .ok (.getfield 22, 3) := by decide +kernel
theorem dX2_emptyBut_22 : decode cX2_emptyBut 22 = .ok (.iconst 0, 1) := by decide +kernel
theorem dX2_emptyBut_23 : decode cX2_emptyBut 23 = .ok (.invokestatic 46, 3) := by decide +kernel
theorem dX2_emptyBut_26 : decode cX2_emptyBut 26 = .ok (.aload_n 0, 1) := by decide +kernel
theorem dX2_emptyBut_27 : decode cX2_emptyBut 27 = .ok (.getfield 25, 3) := by decide +kernel
theorem dX2_emptyBut_30 : decode cX2_emptyBut 30 = .ok (.iconst 0, 1) := by decide +kernel
theorem dX2_emptyBut_31 : decode cX2_emptyBut 31 = .ok (.invokestatic 46, 3) := by decide +kernel
theorem dX2_emptyBut_34 : decode cX2_emptyBut 34 = .ok (.aload_n 1, 1) := by decide +kernel
theorem dX2_emptyBut_35 : decode cX2_emptyBut 35 = .ok (.iconst 0, 1) := by decide +kernel
theorem dX2_emptyBut_36 : decode cX2_emptyBut 36 = .ok (.aload_n 0, 1) := by decide +kernel
theorem dX2_emptyBut_37 : decode cX2_emptyBut 37 = .ok (.getfield 28, 3) := by decide +kernel
theorem dX2_emptyBut_40 : decode cX2_emptyBut 40 = .ok (.iconst 0, 1) := by decide +kernel
theorem dX2_emptyBut_41 : decode cX2_emptyBut 41 = .ok (.bipush 8, 2) := by decide +kernel
theorem dX2_emptyBut_43 : decode cX2_emptyBut 43 = .ok (.invokestatic 40, 3) := by decide +kernel
theorem dX2_emptyBut_46 : decode cX2_emptyBut 46 = .ok (.aload_n 0, 1) := by decide +kernel
theorem dX2_emptyBut_47 : decode cX2_emptyBut 47 = .ok (.getfield 31, 3) := by decide +kernel
theorem dX2_emptyBut_50 : decode cX2_emptyBut 50 = .ok (.iconst (-1), 1) := by decide +kernel
theorem dX2_emptyBut_51 : decode cX2_emptyBut 51 = .ok (.invokestatic 46, 3) := by decide +kernel
theorem dX2_emptyBut_54 : decode cX2_emptyBut 54 = .ok (.aload_n 0, 1) := by decide +kernel
theorem dX2_emptyBut_55 : decode cX2_emptyBut 55 = .ok (.getfield 34, 3) := by decide +kernel
theorem dX2_emptyBut_58 : decode cX2_emptyBut 58 = .ok (.iconst 0, 1) := by decide +kernel
theorem dX2_emptyBut_59 : decode cX2_emptyBut 59 = .ok (.invokestatic 46, 3) := by decide +kernel
theorem dX2_emptyBut_62 : decode cX2_emptyBut 62 = .ok (.return_, 1) := by decide +kernel
theorem dX2_isPerson_0 : decode cX2_isPerson 0 = .ok (.iload_n 1, 1) := by decide +kernel
theorem dX2_isPerson_1 : decode cX2_isPerson 1 = .ok (.ifCond .lt 15, 3) := by decide +kernel
theorem dX2_isPerson_4 : decode cX2_isPerson 4 = .ok (.iload_n 1, 1) := by decide +kernel
theorem dX2_isPerson_5 : decode cX2_isPerson 5 = .ok (.aload_n 0, 1) := by decide +kernel
theorem dX2_isPerson_6 : decode cX2_isPerson 6 = .ok (.getfield 9, 3) := by decide +kernel
theorem dX2_isPerson_9 : decode cX2_isPerson 9 = .ok (.if_icmp .ge 7, 3) := by decide +kernel
theorem dX2_isPerson_12 : decode cX2_isPerson 12 = .ok (.iconst 1, 1) := by decide +kernel
theorem dX2_isPerson_13 : decode cX2_isPerson 13 = .ok (.goto 4, 3) := by decide +kernel
theorem dX2_isPerson_16 : decode cX2_isPerson 16 = .ok (.iconst 0, 1) := by decide +kernel
theorem dX2_isPerson_17 : decode cX2_isPerson 17 = .ok (.ireturn, 1) := by decide +kernel
theorem dX2_areTwo_0 : decode cX2_areTwo 0 = .ok (.aload_n 0, 1) := by decide +kernel
theorem dX2_areTwo_1 : decode cX2_areTwo 1 = .ok (.iload_n 1, 1) := by decide +kernel
theorem dX2_areTwo_2 : decode cX2_areTwo 2 = .ok (.invokevirtual 52, 3) := by decide +kernel
theorem dX2_areTwo_5 : decode cX2_areTwo 5 = .ok (.ifCond .eq 20, 3) := by decide +kernel
theorem dX2_areTwo_8 : decode cX2_areTwo 8 = .ok (.aload_n 0, 1) := by decide +kernel
theorem dX2_areTwo_9 : decode cX2_areTwo 9 = .ok (.iload_n 2, 1) := by decide +kernel
theorem dX2_areTwo_10 : decode cX2_areTwo 10 = .ok (.invokevirtual 52, 3) := by decide +kernel
theorem dX2_areTwo_13 : decode cX2_areTwo 13 = .ok (.ifCond .eq 12, 3) := by decide +kernel
theorem dX2_areTwo_16 : decode cX2_areTwo 16 = .ok (.iload_n 1, 1) := by decide +kernel
theorem dX2_areTwo_17 : decode cX2_areTwo 17 = .ok (.iload_n 2, 1) := by decide +kernel
theorem dX2_areTwo_18 : decode cX2_areTwo 18 = .ok (.if_icmp .eq 7, 3) := by decide +kernel
theorem dX2_areTwo_21 : decode cX2_areTwo 21 = .ok (.iconst 1, 1) := by decide +kernel
theorem dX2_areTwo_22 : decode cX2_areTwo 22 = .ok (.goto 4, 3) := by decide +kernel
theorem dX2_areTwo_25 : decode cX2_areTwo 25 = .ok (.iconst 0, 1) := by decide +kernel
theorem dX2_areTwo_26 : decode cX2_areTwo 26 = .ok (.ireturn, 1) := by decide +kernel
theorem dX2_addPerson_0 : decode cX2_addPerson 0 = .ok (.aload_n 0, 1) := by decide +kernel
theorem dX2_addPerson_1 : decode cX2_addPerson 1 = .ok (.dup, 1) := by decide +kernel
theorem dX2_addPerson_2 : decode cX2_addPerson 2 = .ok (.getfield 9, 3) := by decide +kernel
theorem dX2_addPerson_5 : decode cX2_addPerson 5 = .ok (.iconst 1, 1) := by decide +kernel
theorem dX2_addPerson_6 : decode cX2_addPerson 6 = .ok (.iadd, 1) := by decide +kernel
theorem dX2_addPerson_7 : decode cX2_addPerson 7 = .ok (.putfield 9, 3) := by decide +kernel
theorem dX2_addPerson_10 : decode cX2_addPerson 10 = .ok (.aload_n 0, 1) := by decide +kernel
theorem dX2_addPerson_11 : decode cX2_addPerson 11 = .ok (.getfield 9, 3) := by decide +kernel
theorem dX2_addPerson_14 : decode cX2_addPerson 14 = .ok (.iconst 1, 1) := by decide +kernel
theorem dX2_addPerson_15 : decode cX2_addPerson 15 = .ok (.isub, 1) := by decide +kernel
theorem dX2_addPerson_16 : decode cX2_addPerson 16 = .ok (.ireturn, 1) := by decide +kernel
theorem dX2_setKin_0 : decode cX2_setKin 0 = .ok (.aload_n 0, 1) := by decide +kernel
theorem dX2_setKin_1 : decode cX2_setKin 1 = .ok (.iload_n 1, 1) := by decide +kernel
theorem dX2_setKin_2 : decode cX2_setKin 2 = .ok (.iload_n 2, 1) := by decide +kernel
theorem dX2_setKin_3 : decode cX2_setKin 3 = .ok (.invokevirtual 56, 3) := by decide +kernel
theorem dX2_setKin_6 : decode cX2_setKin 6 = .ok (.iload_n 3, 1) := by decide +kernel
theorem dX2_setKin_7 : decode cX2_setKin 7 = .ok (.if_icmp .ne 5, 3) := by decide +kernel
theorem dX2_setKin_10 : decode cX2_setKin 10 = .ok (.iconst 0, 1) := by decide +kernel
theorem dX2_setKin_11 : decode cX2_setKin 11 = .ok (.ireturn, 1) := by decide +kernel
theorem dX2_setKin_12 : decode cX2_setKin 12 = .ok (.aload_n 0, 1) := by decide +kernel
theorem dX2_setKin_13 : decode cX2_setKin 13 = .ok (.getfield 18, 3) := by decide +kernel
theorem dX2_setKin_16 : decode cX2_setKin 16 = .ok (.iload_n 1, 1) := by decide +kernel
theorem dX2_setKin_17 : decode cX2_setKin 17 = .ok (.dup2, 1) := by decide +kernel
theorem dX2_setKin_18 : decode cX2_setKin 18 = .ok (.iaload, 1) := by decide +kernel
theorem dX2_setKin_19 : decode cX2_setKin 19 = .ok (.iconst 1, 1) := by decide +kernel
theorem dX2_setKin_20 : decode cX2_setKin 20 = .ok (.iload_n 2, 1) := by decide +kernel
theorem dX2_setKin_21 : decode cX2_setKin 21 = .ok (.ishl, 1) := by decide +kernel
theorem dX2_setKin_22 : decode cX2_setKin 22 = .ok (.ixor, 1) := by decide +kernel
theorem dX2_setKin_23 : decode cX2_setKin 23 = .ok (.iastore, 1) := by decide +kernel
theorem dX2_setKin_24 : decode cX2_setKin 24 = .ok (.aload_n 0, 1) := by decide +kernel
theorem dX2_setKin_25 : decode cX2_setKin 25 = .ok (.getfield 18, 3) := by decide +kernel
theorem dX2_setKin_28 : decode cX2_setKin 28 = .ok (.iload_n 2, 1) := by decide +kernel
theorem dX2_setKin_29 : decode cX2_setKin 29 = .ok (.dup2, 1) := by decide +kernel
theorem dX2_setKin_30 : decode cX2_setKin 30 = .ok (.iaload, 1) := by decide +kernel
theorem dX2_setKin_31 : decode cX2_setKin 31 = .ok (.iconst 1, 1) := by decide +kernel
theorem dX2_setKin_32 : decode cX2_setKin 32 = .ok (.iload_n 1, 1) := by decide +kernel
theorem dX2_setKin_33 : decode cX2_setKin 33 = .ok (.ishl, 1) := by decide +kernel
theorem dX2_setKin_34 : decode cX2_setKin 34 = .ok (.ixor, 1) := by decide +kernel
theorem dX2_setKin_35 : decode cX2_setKin 35 = .ok (.iastore, 1) := by decide +kernel
theorem dX2_setKin_36 : decode cX2_setKin 36 = .ok (.iconst 1, 1) := by decide +kernel
theorem dX2_setKin_37 : decode cX2_setKin 37 = .ok (.ireturn, 1) := by decide +kernel
theorem dX2_areKin_0 : decode cX2_areKin 0 = .ok (.aload_n 0, 1) := by decide +kernel
theorem dX2_areKin_1 : decode cX2_areKin 1 = .ok (.getfield 18, 3) := by decide +kernel
theorem dX2_areKin_4 : decode cX2_areKin 4 = .ok (.iload_n 1, 1) := by decide +kernel
theorem dX2_areKin_5 : decode cX2_areKin 5 = .ok (.iaload, 1) := by decide +kernel
theorem dX2_areKin_6 : decode cX2_areKin 6 = .ok (.iload_n 2, 1) := by decide +kernel
theorem dX2_areKin_7 : decode cX2_areKin 7 = .ok (.ishr, 1) := by decide +kernel
theorem dX2_areKin_8 : decode cX2_areKin 8 = .ok (.iconst 1, 1) := by decide +kernel
theorem dX2_areKin_9 : decode cX2_areKin 9 = .ok (.iand, 1) := by decide +kernel
theorem dX2_areKin_10 : decode cX2_areKin 10 = .ok (.iconst 1, 1) := by decide +kernel
theorem dX2_areKin_11 : decode cX2_areKin 11 = .ok (.if_icmp .ne 7, 3) := by decide +kernel
theorem dX2_areKin_14 : decode cX2_areKin 14 = .ok (.iconst 1, 1) := by decide +kernel
theorem dX2_areKin_15 : decode cX2_areKin 15 = .ok (.goto 4, 3) := by decide +kernel
theorem dX2_areKin_18 : decode cX2_areKin 18 = .ok (.iconst 0, 1) := by decide +kernel
theorem dX2_areKin_19 : decode cX2_areKin 19 = .ok (.ireturn, 1) := by decide +kernel
theorem dX2_setAway_0 : decode cX2_setAway 0 = .ok (.aload_n 0, 1) := by decide +kernel
theorem dX2_setAway_1 : decode cX2_setAway 1 = .ok (.iload_n 1, 1) := by decide +kernel
theorem dX2_setAway_2 : decode cX2_setAway 2 = .ok (.iload_n 2, 1) := by decide +kernel
theorem dX2_setAway_3 : decode cX2_setAway 3 = .ok (.invokevirtual 60, 3) := by decide +kernel
theorem dX2_setAway_6 : decode cX2_setAway 6 = .ok (.iload_n 3, 1) := by decide +kernel
theorem dX2_setAway_7 : decode cX2_setAway 7 = .ok (.if_icmp .ne 5, 3) := by decide +kernel
theorem dX2_setAway_10 : decode cX2_setAway 10 = .ok (.iconst 0, 1) := by decide +kernel
theorem dX2_setAway_11 : decode cX2_setAway 11 = .ok (.ireturn, 1) := by decide +kernel
theorem dX2_setAway_12 : decode cX2_setAway 12 = .ok (.aload_n 0, 1) := by decide +kernel
theorem dX2_setAway_13 : decode cX2_setAway 13 = .ok (.getfield 22, 3) := by decide +kernel
theorem dX2_setAway_16 : decode cX2_setAway 16 = .ok (.iload_n 1, 1) := by decide +kernel
theorem dX2_setAway_17 : decode cX2_setAway 17 = .ok (.dup2, 1) := by decide +kernel
theorem dX2_setAway_18 : decode cX2_setAway 18 = .ok (.iaload, 1) := by decide +kernel
theorem dX2_setAway_19 : decode cX2_setAway 19 = .ok (.iconst 1, 1) := by decide +kernel
theorem dX2_setAway_20 : decode cX2_setAway 20 = .ok (.iload_n 2, 1) := by decide +kernel
theorem dX2_setAway_21 : decode cX2_setAway 21 = .ok (.ishl, 1) := by decide +kernel
theorem dX2_setAway_22 : decode cX2_setAway 22 = .ok (.ixor, 1) := by decide +kernel
theorem dX2_setAway_23 : decode cX2_setAway 23 = .ok (.iastore, 1) := by decide +kernel
theorem dX2_setAway_24 : decode cX2_setAway 24 = .ok (.iconst 1, 1) := by decide +kernel
theorem dX2_setAway_25 : decode cX2_setAway 25 = .ok (.ireturn, 1) := by decide +kernel
theorem dX2_isAway_0 : decode cX2_isAway 0 = .ok (.aload_n 0, 1) := by decide +kernel
theorem dX2_isAway_1 : decode cX2_isAway 1 = .ok (.getfield 22, 3) := by decide +kernel
theorem dX2_isAway_4 : decode cX2_isAway 4 = .ok (.iload_n 1, 1) := by decide +kernel
theorem dX2_isAway_5 : decode cX2_isAway 5 = .ok (.iaload, 1) := by decide +kernel
theorem dX2_isAway_6 : decode cX2_isAway 6 = .ok (.iload_n 2, 1) := by decide +kernel
theorem dX2_isAway_7 : decode cX2_isAway 7 = .ok (.ishr, 1) := by decide +kernel
theorem dX2_isAway_8 : decode cX2_isAway 8 = .ok (.iconst 1, 1) := by decide +kernel
theorem dX2_isAway_9 : decode cX2_isAway 9 = .ok (.iand, 1) := by decide +kernel
theorem dX2_isAway_10 : decode cX2_isAway 10 = .ok (.iconst 1, 1) := by decide +kernel
theorem dX2_isAway_11 : decode cX2_isAway 11 = .ok (.if_icmp .ne 7, 3) := by decide +kernel
theorem dX2_isAway_14 : decode cX2_isAway 14 = .ok (.iconst 1, 1) := by decide +kernel
theorem dX2_isAway_15 : decode cX2_isAway 15 = .ok (.goto 4, 3) := by decide +kernel
theorem dX2_isAway_18 : decode cX2_isAway 18 = .ok (.iconst 0, 1) := by decide +kernel
theorem dX2_isAway_19 : decode cX2_isAway 19 = .ok (.ireturn, 1) := by decide +kernel
theorem dX2_setSurprise_0 : decode cX2_setSurprise 0 = .ok (.aload_n 0, 1) := by decide +kernel
theorem dX2_setSurprise_1 : decode cX2_setSurprise 1 = .ok (.iload_n 1, 1) := by decide +kernel
theorem dX2_setSurprise_2 : decode cX2_setSurprise 2 = .ok (.invokevirtual 63, 3) := by decide +kernel
theorem dX2_setSurprise_5 : decode cX2_setSurprise 5 = .ok (.iload_n 2, 1) := by decide +kernel
theorem dX2_setSurprise_6 : decode cX2_setSurprise 6 = .ok (.if_icmp .ne 5, 3) := by decide +kernel
theorem dX2_setSurprise_9 : decode cX2_setSurprise 9 = .ok (.iconst 0, 1) := by decide +kernel
theorem dX2_setSurprise_10 : decode cX2_setSurprise 10 = .ok (.ireturn, 1) := by decide +kernel
theorem dX2_setSurprise_11 : decode cX2_setSurprise 11 = .ok (.aload_n 0, 1) := by decide +kernel
theorem dX2_setSurprise_12 : decode cX2_setSurprise 12 = .ok (.dup, 1) := by decide +kernel
theorem dX2_setSurprise_13 : decode cX2_setSurprise 13 = .ok (.getfield 15, 3) := by decide +kernel
theorem dX2_setSurprise_16 : decode cX2_setSurprise 16 = .ok (.iconst 1, 1) := by decide +kernel
theorem dX2_setSurprise_17 : decode cX2_setSurprise 17 = .ok (.iload_n 1, 1) := by decide +kernel
theorem dX2_setSurprise_18 : decode cX2_setSurprise 18 = .ok (.ishl, 1) := by decide +kernel
theorem dX2_setSurprise_19 : decode cX2_setSurprise 19 = .ok (.ixor, 1) := by decide +kernel
theorem dX2_setSurprise_20 : decode cX2_setSurprise 20 = .ok (.putfield 15, 3) := by decide +kernel
theorem dX2_setSurprise_23 : decode cX2_setSurprise 23 = .ok (.iconst 1, 1) := by decide +kernel
theorem dX2_setSurprise_24 : decode cX2_setSurprise 24 = .ok (.ireturn, 1) := by decide +kernel
theorem dX2_hasSurprise_0 : decode cX2_hasSurprise 0 = .ok (.aload_n 0, 1) := by decide +kernel
theorem dX2_hasSurprise_1 : decode cX2_hasSurprise 1 = .ok (.getfield 15, 3) := by decide +kernel
theorem dX2_hasSurprise_4 : decode cX2_hasSurprise 4 = .ok (.iload_n 1, 1) := by decide +kernel
theorem dX2_hasSurprise_5 : decode cX2_hasSurprise 5 = .ok (.ishr, 1) := by decide +kernel
theorem dX2_hasSurprise_6 : decode cX2_hasSurprise 6 = .ok (.iconst 1, 1) := by decide +kernel
theorem dX2_hasSurprise_7 : decode cX2_hasSurprise 7 = .ok (.iand, 1) := by decide +kernel
theorem dX2_hasSurprise_8 : decode cX2_hasSurprise 8 = .ok (.iconst 1, 1) := by decide +kernel
theorem dX2_hasSurprise_9 : decode cX2_hasSurprise 9 = .ok (.if_icmp .ne 7, 3) := by decide +kernel
theorem dX2_hasSurprise_12 : decode cX2_hasSurprise 12 = .ok (.iconst 1, 1) := by decide +kernel
theorem dX2_hasSurprise_13 : decode cX2_hasSurprise 13 = .ok (.goto 4, 3) := by decide +kernel
theorem dX2_hasSurprise_16 : decode cX2_hasSurprise 16 = .ok (.iconst 0, 1) := by decide +kernel
theorem dX2_hasSurprise_17 : decode cX2_hasSurprise 17 = .ok (.ireturn, 1) := by decide +kernel
theorem dX2_at_0 : decode cX2_at 0 = .ok (.aload_n 0, 1) := by decide +kernel
theorem dX2_at_1 : decode cX2_at 1 = .ok (.getfield 31, 3) := by decide +kernel
theorem dX2_at_4 : decode cX2_at 4 = .ok (.iload_n 1, 1) := by decide +kernel
theorem dX2_at_5 : decode cX2_at 5 = .ok (.iconst 4, 1) := by decide +kernel
theorem dX2_at_6 : decode cX2_at 6 = .ok (.imul, 1) := by decide +kernel
theorem dX2_at_7 : decode cX2_at 7 = .ok (.iload_n 2, 1) := by decide +kernel
theorem dX2_at_8 : decode cX2_at 8 = .ok (.iadd, 1) := by decide +kernel
theorem dX2_at_9 : decode cX2_at 9 = .ok (.iaload, 1) := by decide +kernel
theorem dX2_at_10 : decode cX2_at 10 = .ok (.ireturn, 1) := by decide +kernel
theorem dX2_seat_0 : decode cX2_seat 0 = .ok (.aload_n 0, 1) := by decide +kernel
theorem dX2_seat_1 : decode cX2_seat 1 = .ok (.getfield 31, 3) := by decide +kernel
theorem dX2_seat_4 : decode cX2_seat 4 = .ok (.iload_n 1, 1) := by decide +kernel
theorem dX2_seat_5 : decode cX2_seat 5 = .ok (.iconst 4, 1) := by decide +kernel
theorem dX2_seat_6 : decode cX2_seat 6 = .ok (.imul, 1) := by decide +kernel
theorem dX2_seat_7 : decode cX2_seat 7 = .ok (.iload_n 2, 1) := by decide +kernel
theorem dX2_seat_8 : decode cX2_seat 8 = .ok (.iadd, 1) := by decide +kernel
theorem dX2_seat_9 : decode cX2_seat 9 = .ok (.iload_n 3, 1) := by decide +kernel
theorem dX2_seat_10 : decode cX2_seat 10 = .ok (.iastore, 1) := by decide +kernel
theorem dX2_seat_11 : decode cX2_seat 11 = .ok (.return_, 1) := by decide +kernel
theorem dX2_pairOn_0 : decode cX2_pairOn 0 = .ok (.aload_n 0, 1) := by decide +kernel
theorem dX2_pairOn_1 : decode cX2_pairOn 1 = .ok (.getfield 31, 3) := by decide +kernel
theorem dX2_pairOn_4 : decode cX2_pairOn 4 = .ok (.iload_n 1, 1) := by decide +kernel
theorem dX2_pairOn_5 : decode cX2_pairOn 5 = .ok (.iconst 4, 1) := by decide +kernel
theorem dX2_pairOn_6 : decode cX2_pairOn 6 = .ok (.imul, 1) := by decide +kernel
theorem dX2_pairOn_7 : decode cX2_pairOn 7 = .ok (.iaload, 1) := by decide +kernel
theorem dX2_pairOn_8 : decode cX2_pairOn 8 = .ok (.istore_n 2, 1) := by decide +kernel
theorem dX2_pairOn_9 : decode cX2_pairOn 9 = .ok (.aload_n 0, 1) := by decide +kernel
theorem dX2_pairOn_10 : decode cX2_pairOn 10 = .ok (.getfield 31, 3) := by decide +kernel
theorem dX2_pairOn_13 : decode cX2_pairOn 13 = .ok (.iload_n 1, 1) := by decide +kernel
theorem dX2_pairOn_14 : decode cX2_pairOn 14 = .ok (.iconst 4, 1) := by decide +kernel
theorem dX2_pairOn_15 : decode cX2_pairOn 15 = .ok (.imul, 1) := by decide +kernel
theorem dX2_pairOn_16 : decode cX2_pairOn 16 = .ok (.iconst 1, 1) := by decide +kernel
theorem dX2_pairOn_17 : decode cX2_pairOn 17 = .ok (.iadd, 1) := by decide +kernel
theorem dX2_pairOn_18 : decode cX2_pairOn 18 = .ok (.iaload, 1) := by decide +kernel
theorem dX2_pairOn_19 : decode cX2_pairOn 19 = .ok (.istore_n 3, 1) := by decide +kernel
theorem dX2_pairOn_20 : decode cX2_pairOn 20 = .ok (.iload_n 2, 1) := by decide +kernel
theorem dX2_pairOn_21 : decode cX2_pairOn 21 = .ok (.iconst (-1), 1) := by decide +kernel
theorem dX2_pairOn_22 : decode cX2_pairOn 22 = .ok (.if_icmp .eq 13, 3) := by decide +kernel
theorem dX2_pairOn_25 : decode cX2_pairOn 25 = .ok (.iload_n 3, 1) := by decide +kernel
theorem dX2_pairOn_26 : decode cX2_pairOn 26 = .ok (.iconst (-1), 1) := by decide +kernel
theorem dX2_pairOn_27 : decode cX2_pairOn 27 = .ok (.if_icmp .eq 8, 3) := by decide +kernel
theorem dX2_pairOn_30 : decode cX2_pairOn 30 = .ok (.iload_n 2, 1) := by decide +kernel
theorem dX2_pairOn_31 : decode cX2_pairOn 31 = .ok (.iload_n 3, 1) := by decide +kernel
theorem dX2_pairOn_32 : decode cX2_pairOn 32 = .ok (.if_icmp .ne 7, 3) := by decide +kernel
theorem dX2_pairOn_35 : decode cX2_pairOn 35 = .ok (.iconst (-1), 1) := by decide +kernel
theorem dX2_pairOn_36 : decode cX2_pairOn 36 = .ok (.goto 8, 3) := by decide +kernel
theorem dX2_pairOn_39 : decode cX2_pairOn 39 = .ok (.iload_n 2, 1) := by decide +kernel
theorem dX2_pairOn_40 : decode cX2_pairOn 40 = .ok (.iload_n 3, 1) := by decide +kernel
theorem dX2_pairOn_41 : decode cX2_pairOn 41 = .ok (.invokestatic 66, 3) := by decide +kernel
theorem dX2_pairOn_44 : decode cX2_pairOn 44 = .ok (.ireturn, 1) := by decide +kernel
theorem dX2_sittings_0 : decode cX2_sittings 0 = .ok (.iconst 0, 1) := by decide +kernel
theorem dX2_sittings_1 : decode cX2_sittings 1 = .ok (.istore_n 1, 1) := by decide +kernel
theorem dX2_sittings_2 : decode cX2_sittings 2 = .ok (.iconst 0, 1) := by decide +kernel
theorem dX2_sittings_3 : decode cX2_sittings 3 = .ok (.istore_n 2, 1) := by decide +kernel
theorem dX2_sittings_4 : decode cX2_sittings 4 = .ok (.iload_n 2, 1) := by decide +kernel
theorem dX2_sittings_5 : decode cX2_sittings 5 = .ok (.bipush 10, 2) := by decide +kernel
theorem dX2_sittings_7 : decode cX2_sittings 7 = .ok (.if_icmp .ge 21, 3) := by decide +kernel
theorem dX2_sittings_10 : decode cX2_sittings 10 = .ok (.aload_n 0, 1) := by decide +kernel
theorem dX2_sittings_11 : decode cX2_sittings 11 = .ok (.iload_n 2, 1) := by decide +kernel
theorem dX2_sittings_12 : decode cX2_sittings 12 = .ok (.invokevirtual 70, 3) := by decide +kernel
theorem dX2_sittings_15 : decode cX2_sittings 15 = .ok (.iconst (-1), 1) := by decide +kernel
theorem dX2_sittings_16 : decode cX2_sittings 16 = .ok (.if_icmp .eq 6, 3) := by decide +kernel
theorem dX2_sittings_19 : decode cX2_sittings 19 = .ok (.iinc 1 1, 3) := by decide +kernel
theorem dX2_sittings_22 : decode cX2_sittings 22 = .ok (.iinc 2 1, 3) := by decide +kernel
theorem dX2_sittings_25 : decode cX2_sittings 25 = .ok (.goto (-21), 3) := by decide +kernel
theorem dX2_sittings_28 : decode cX2_sittings 28 = .ok (.iload_n 1, 1) := by decide +kernel
theorem dX2_sittings_29 : decode cX2_sittings 29 = .ok (.ireturn, 1) := by decide +kernel
theorem dX2_daysOf_0 : decode cX2_daysOf 0 = .ok (.iconst 0, 1) := by decide +kernel
theorem dX2_daysOf_1 : decode cX2_daysOf 1 = .ok (.istore_n 2, 1) := by decide +kernel
theorem dX2_daysOf_2 : decode cX2_daysOf 2 = .ok (.iconst 0, 1) := by decide +kernel
theorem dX2_daysOf_3 : decode cX2_daysOf 3 = .ok (.istore_n 3, 1) := by decide +kernel
theorem dX2_daysOf_4 : decode cX2_daysOf 4 = .ok (.iload_n 3, 1) := by decide +kernel
theorem dX2_daysOf_5 : decode cX2_daysOf 5 = .ok (.bipush 10, 2) := by decide +kernel
theorem dX2_daysOf_7 : decode cX2_daysOf 7 = .ok (.if_icmp .ge 24, 3) := by decide +kernel
theorem dX2_daysOf_10 : decode cX2_daysOf 10 = .ok (.aload_n 0, 1) := by decide +kernel
theorem dX2_daysOf_11 : decode cX2_daysOf 11 = .ok (.iload_n 3, 1) := by decide +kernel
theorem dX2_daysOf_12 : decode cX2_daysOf 12 = .ok (.invokevirtual 70, 3) := by decide +kernel
theorem dX2_daysOf_15 : decode cX2_daysOf 15 = .ok (.iload_n 1, 1) := by decide +kernel
theorem dX2_daysOf_16 : decode cX2_daysOf 16 = .ok (.if_icmp .ne 9, 3) := by decide +kernel
theorem dX2_daysOf_19 : decode cX2_daysOf 19 = .ok (.iload_n 2, 1) := by decide +kernel
theorem dX2_daysOf_20 : decode cX2_daysOf 20 = .ok (.iconst 1, 1) := by decide +kernel
theorem dX2_daysOf_21 : decode cX2_daysOf 21 = .ok (.iload_n 3, 1) := by decide +kernel
theorem dX2_daysOf_22 : decode cX2_daysOf 22 = .ok (.ishl, 1) := by decide +kernel
theorem dX2_daysOf_23 : decode cX2_daysOf 23 = .ok (.ior, 1) := by decide +kernel
theorem dX2_daysOf_24 : decode cX2_daysOf 24 = .ok (.istore_n 2, 1) := by decide +kernel
theorem dX2_daysOf_25 : decode cX2_daysOf 25 = .ok (.iinc 3 1, 3) := by decide +kernel
theorem dX2_daysOf_28 : decode cX2_daysOf 28 = .ok (.goto (-24), 3) := by decide +kernel
theorem dX2_daysOf_31 : decode cX2_daysOf 31 = .ok (.iload_n 2, 1) := by decide +kernel
theorem dX2_daysOf_32 : decode cX2_daysOf 32 = .ok (.ireturn, 1) := by decide +kernel
theorem dX2_lastDayOf_0 : decode cX2_lastDayOf 0 = .ok (.iload_n 2, 1) := by decide +kernel
theorem dX2_lastDayOf_1 : decode cX2_lastDayOf 1 = .ok (.iconst 1, 1) := by decide +kernel
theorem dX2_lastDayOf_2 : decode cX2_lastDayOf 2 = .ok (.isub, 1) := by decide +kernel
theorem dX2_lastDayOf_3 : decode cX2_lastDayOf 3 = .ok (.istore_n 3, 1) := by decide +kernel
theorem dX2_lastDayOf_4 : decode cX2_lastDayOf 4 = .ok (.iload_n 3, 1) := by decide +kernel
theorem dX2_lastDayOf_5 : decode cX2_lastDayOf 5 = .ok (.ifCond .lt 20, 3) := by decide +kernel
theorem dX2_lastDayOf_8 : decode cX2_lastDayOf 8 = .ok (.aload_n 0, 1) := by decide +kernel
theorem dX2_lastDayOf_9 : decode cX2_lastDayOf 9 = .ok (.iload_n 3, 1) := by decide +kernel
theorem dX2_lastDayOf_10 : decode cX2_lastDayOf 10 = .ok (.invokevirtual 70, 3) := by decide +kernel
theorem dX2_lastDayOf_13 : decode cX2_lastDayOf 13 = .ok (.iload_n 1, 1) := by decide +kernel
theorem dX2_lastDayOf_14 : decode cX2_lastDayOf 14 = .ok (.if_icmp .ne 5, 3) := by decide +kernel
theorem dX2_lastDayOf_17 : decode cX2_lastDayOf 17 = .ok (.iload_n 3, 1) := by decide +kernel
theorem dX2_lastDayOf_18 : decode cX2_lastDayOf 18 = .ok (.ireturn, 1) := by decide +kernel
theorem dX2_lastDayOf_19 : decode cX2_lastDayOf 19 = .ok (.iinc 3 (-1), 3) := by decide +kernel
theorem dX2_lastDayOf_22 : decode cX2_lastDayOf 22 = .ok (.goto (-18), 3) := by decide +kernel
theorem dX2_lastDayOf_25 : decode cX2_lastDayOf 25 = .ok (.iconst (-1), 1) := by decide +kernel
theorem dX2_lastDayOf_26 : decode cX2_lastDayOf 26 = .ok (.ireturn, 1) := by decide +kernel
theorem dX2_satInGap_0 : decode cX2_satInGap 0 = .ok (.aload_n 0, 1) := by decide +kernel
theorem dX2_satInGap_1 : decode cX2_satInGap 1 = .ok (.iload_n 1, 1) := by decide +kernel
theorem dX2_satInGap_2 : decode cX2_satInGap 2 = .ok (.iload_n 2, 1) := by decide +kernel
theorem dX2_satInGap_3 : decode cX2_satInGap 3 = .ok (.invokevirtual 74, 3) := by decide +kernel
theorem dX2_satInGap_6 : decode cX2_satInGap 6 = .ok (.istore_n 3, 1) := by decide +kernel
theorem dX2_satInGap_7 : decode cX2_satInGap 7 = .ok (.iload_n 3, 1) := by decide +kernel
theorem dX2_satInGap_8 : decode cX2_satInGap 8 = .ok (.ifCond .lt 20, 3) := by decide +kernel
theorem dX2_satInGap_11 : decode cX2_satInGap 11 = .ok (.iload_n 3, 1) := by decide +kernel
theorem dX2_satInGap_12 : decode cX2_satInGap 12 = .ok (.iload_n 2, 1) := by decide +kernel
theorem dX2_satInGap_13 : decode cX2_satInGap 13 = .ok (.aload_n 0, 1) := by decide +kernel
theorem dX2_satInGap_14 : decode cX2_satInGap 14 = .ok (.getfield 28, 3) := by decide +kernel
theorem dX2_satInGap_17 : decode cX2_satInGap 17 = .ok (.bipush 7, 2) := by decide +kernel
theorem dX2_satInGap_19 : decode cX2_satInGap 19 = .ok (.iaload, 1) := by decide +kernel
theorem dX2_satInGap_20 : decode cX2_satInGap 20 = .ok (.isub, 1) := by decide +kernel
theorem dX2_satInGap_21 : decode cX2_satInGap 21 = .ok (.if_icmp .lt 7, 3) := by decide +kernel
theorem dX2_satInGap_24 : decode cX2_satInGap 24 = .ok (.iconst 1, 1) := by decide +kernel
theorem dX2_satInGap_25 : decode cX2_satInGap 25 = .ok (.goto 4, 3) := by decide +kernel
theorem dX2_satInGap_28 : decode cX2_satInGap 28 = .ok (.iconst 0, 1) := by decide +kernel
theorem dX2_satInGap_29 : decode cX2_satInGap 29 = .ok (.ireturn, 1) := by decide +kernel
theorem dX2_lossOf_0 : decode cX2_lossOf 0 = .ok (.iconst 0, 1) := by decide +kernel
theorem dX2_lossOf_1 : decode cX2_lossOf 1 = .ok (.istore_n 2, 1) := by decide +kernel
theorem dX2_lossOf_2 : decode cX2_lossOf 2 = .ok (.iconst 0, 1) := by decide +kernel
theorem dX2_lossOf_3 : decode cX2_lossOf 3 = .ok (.istore_n 3, 1) := by decide +kernel
theorem dX2_lossOf_4 : decode cX2_lossOf 4 = .ok (.iload_n 3, 1) := by decide +kernel
theorem dX2_lossOf_5 : decode cX2_lossOf 5 = .ok (.bipush 10, 2) := by decide +kernel
theorem dX2_lossOf_7 : decode cX2_lossOf 7 = .ok (.if_icmp .ge 27, 3) := by decide +kernel
theorem dX2_lossOf_10 : decode cX2_lossOf 10 = .ok (.aload_n 0, 1) := by decide +kernel
theorem dX2_lossOf_11 : decode cX2_lossOf 11 = .ok (.iload_n 3, 1) := by decide +kernel
theorem dX2_lossOf_12 : decode cX2_lossOf 12 = .ok (.invokevirtual 70, 3) := by decide +kernel
theorem dX2_lossOf_15 : decode cX2_lossOf 15 = .ok (.iload_n 1, 1) := by decide +kernel
theorem dX2_lossOf_16 : decode cX2_lossOf 16 = .ok (.if_icmp .ne 12, 3) := by decide +kernel
theorem dX2_lossOf_19 : decode cX2_lossOf 19 = .ok (.iload_n 2, 1) := by decide +kernel
theorem dX2_lossOf_20 : decode cX2_lossOf 20 = .ok (.aload_n 0, 1) := by decide +kernel
theorem dX2_lossOf_21 : decode cX2_lossOf 21 = .ok (.getfield 34, 3) := by decide +kernel
theorem dX2_lossOf_24 : decode cX2_lossOf 24 = .ok (.iload_n 3, 1) := by decide +kernel
theorem dX2_lossOf_25 : decode cX2_lossOf 25 = .ok (.iaload, 1) := by decide +kernel
theorem dX2_lossOf_26 : decode cX2_lossOf 26 = .ok (.iadd, 1) := by decide +kernel
theorem dX2_lossOf_27 : decode cX2_lossOf 27 = .ok (.istore_n 2, 1) := by decide +kernel
theorem dX2_lossOf_28 : decode cX2_lossOf 28 = .ok (.iinc 3 1, 3) := by decide +kernel
theorem dX2_lossOf_31 : decode cX2_lossOf 31 = .ok (.goto (-27), 3) := by decide +kernel
theorem dX2_lossOf_34 : decode cX2_lossOf 34 = .ok (.iload_n 2, 1) := by decide +kernel
theorem dX2_lossOf_35 : decode cX2_lossOf 35 = .ok (.ireturn, 1) := by decide +kernel
theorem dX2_pairOfMostLoss_0 : decode cX2_pairOfMostLoss 0 = .ok (.iconst (-1), 1) := by decide +kernel
theorem dX2_pairOfMostLoss_1 : decode cX2_pairOfMostLoss 1 = .ok (.istore_n 1, 1) := by decide +kernel
theorem dX2_pairOfMostLoss_2 : decode cX2_pairOfMostLoss 2 = .ok (.iconst 0, 1) := by decide +kernel
theorem dX2_pairOfMostLoss_3 : decode cX2_pairOfMostLoss 3 = .ok (.istore_n 2, 1) := by decide +kernel
theorem dX2_pairOfMostLoss_4 : decode cX2_pairOfMostLoss 4 = .ok (.iconst 0, 1) := by decide +kernel
theorem dX2_pairOfMostLoss_5 : decode cX2_pairOfMostLoss 5 = .ok (.istore_n 3, 1) := by decide +kernel
theorem dX2_pairOfMostLoss_6 : decode cX2_pairOfMostLoss 6 = .ok (.iload_n 3, 1) := by decide +kernel
theorem dX2_pairOfMostLoss_7 : decode cX2_pairOfMostLoss 7 = .ok (.aload_n 0, 1) := by decide +kernel
theorem dX2_pairOfMostLoss_8 : decode cX2_pairOfMostLoss 8 = .ok (.getfield 9, 3) := by decide +kernel
theorem dX2_pairOfMostLoss_11 : decode cX2_pairOfMostLoss 11 = .ok (.if_icmp .ge 57, 3) := by decide +kernel
theorem dX2_pairOfMostLoss_14 : decode cX2_pairOfMostLoss 14 = .ok (.iload_n 3, 1) := by decide +kernel
theorem dX2_pairOfMostLoss_15 : decode cX2_pairOfMostLoss 15 = .ok (.iconst 1, 1) := by decide +kernel
theorem dX2_pairOfMostLoss_16 : decode cX2_pairOfMostLoss 16 = .ok (.iadd, 1) := by decide +kernel
theorem dX2_pairOfMostLoss_17 : decode cX2_pairOfMostLoss 17 = .ok (.istore 4, 2) := by decide +kernel
theorem dX2_pairOfMostLoss_19 : decode cX2_pairOfMostLoss 19 = .ok (.iload 4, 2) := by decide +kernel
theorem dX2_pairOfMostLoss_21 : decode cX2_pairOfMostLoss 21 = .ok (.aload_n 0, 1) := by decide +kernel
theorem dX2_pairOfMostLoss_22 : decode cX2_pairOfMostLoss 22 = .ok (.getfield 9, 3) := by decide +kernel
theorem dX2_pairOfMostLoss_25 : decode cX2_pairOfMostLoss 25 = .ok (.if_icmp .ge 37, 3) := by decide +kernel
theorem dX2_pairOfMostLoss_28 : decode cX2_pairOfMostLoss 28 = .ok (.aload_n 0, 1) := by decide +kernel
theorem dX2_pairOfMostLoss_29 : decode cX2_pairOfMostLoss 29 = .ok (.iload_n 3, 1) := by decide +kernel
theorem dX2_pairOfMostLoss_30 : decode cX2_pairOfMostLoss 30 = .ok (.iload 4, 2) := by decide +kernel
theorem dX2_pairOfMostLoss_32 : decode cX2_pairOfMostLoss 32 = .ok (.invokestatic 66, 3) := by decide +kernel
theorem dX2_pairOfMostLoss_35 : decode cX2_pairOfMostLoss 35 = .ok (.invokevirtual 77, 3) := by decide +kernel
theorem dX2_pairOfMostLoss_38 : decode cX2_pairOfMostLoss 38 = .ok (.istore 5, 2) := by decide +kernel
theorem dX2_pairOfMostLoss_40 : decode cX2_pairOfMostLoss 40 = .ok (.iload 5, 2) := by decide +kernel
theorem dX2_pairOfMostLoss_42 : decode cX2_pairOfMostLoss 42 = .ok (.iload_n 1, 1) := by decide +kernel
theorem dX2_pairOfMostLoss_43 : decode cX2_pairOfMostLoss 43 = .ok (.if_icmp .le 13, 3) := by decide +kernel
theorem dX2_pairOfMostLoss_46 : decode cX2_pairOfMostLoss 46 = .ok (.iload 5, 2) := by decide +kernel
theorem dX2_pairOfMostLoss_48 : decode cX2_pairOfMostLoss 48 = .ok (.istore_n 1, 1) := by decide +kernel
theorem dX2_pairOfMostLoss_49 : decode cX2_pairOfMostLoss 49 = .ok (.iload_n 3, 1) := by decide +kernel
theorem dX2_pairOfMostLoss_50 : decode cX2_pairOfMostLoss 50 = .ok (.iload 4, 2) := by decide +kernel
theorem dX2_pairOfMostLoss_52 : decode cX2_pairOfMostLoss 52 = .ok (.invokestatic 66, 3) := by decide +kernel
theorem dX2_pairOfMostLoss_55 : decode cX2_pairOfMostLoss 55 = .ok (.istore_n 2, 1) := by decide +kernel
theorem dX2_pairOfMostLoss_56 : decode cX2_pairOfMostLoss 56 = .ok (.iinc 4 1, 3) := by decide +kernel
theorem dX2_pairOfMostLoss_59 : decode cX2_pairOfMostLoss 59 = .ok (.goto (-40), 3) := by decide +kernel
theorem dX2_pairOfMostLoss_62 : decode cX2_pairOfMostLoss 62 = .ok (.iinc 3 1, 3) := by decide +kernel
theorem dX2_pairOfMostLoss_65 : decode cX2_pairOfMostLoss 65 = .ok (.goto (-59), 3) := by decide +kernel
theorem dX2_pairOfMostLoss_68 : decode cX2_pairOfMostLoss 68 = .ok (.iload_n 2, 1) := by decide +kernel
theorem dX2_pairOfMostLoss_69 : decode cX2_pairOfMostLoss 69 = .ok (.ireturn, 1) := by decide +kernel
theorem dJ6_bitCount_0f7a4_0 : decode cJ6_bitCount_0f7a4 0 = .ok (.iload_n 0, 1) := by decide +kernel
theorem dJ6_bitCount_0f7a4_1 : decode cJ6_bitCount_0f7a4 1 = .ok (.iload_n 0, 1) := by decide +kernel
theorem dJ6_bitCount_0f7a4_2 : decode cJ6_bitCount_0f7a4 2 = .ok (.iconst 1, 1) := by decide +kernel
theorem dJ6_bitCount_0f7a4_3 : decode cJ6_bitCount_0f7a4 3 = .ok (.iushr, 1) := by decide +kernel
theorem dJ6_bitCount_0f7a4_4 : decode cJ6_bitCount_0f7a4 4 = .ok (.ldc_w 265, 3) := by decide +kernel
theorem dJ6_bitCount_0f7a4_7 : decode cJ6_bitCount_0f7a4 7 = .ok (.iand, 1) := by decide +kernel
theorem dJ6_bitCount_0f7a4_8 : decode cJ6_bitCount_0f7a4 8 = .ok (.isub, 1) := by decide +kernel
theorem dJ6_bitCount_0f7a4_9 : decode cJ6_bitCount_0f7a4 9 = .ok (.istore_n 0, 1) := by decide +kernel
theorem dJ6_bitCount_0f7a4_10 : decode cJ6_bitCount_0f7a4 10 = .ok (.iload_n 0, 1) := by decide +kernel
theorem dJ6_bitCount_0f7a4_11 : decode cJ6_bitCount_0f7a4 11 = .ok (.ldc_w 266, 3) := by decide +kernel
theorem dJ6_bitCount_0f7a4_14 : decode cJ6_bitCount_0f7a4 14 = .ok (.iand, 1) := by decide +kernel
theorem dJ6_bitCount_0f7a4_15 : decode cJ6_bitCount_0f7a4 15 = .ok (.iload_n 0, 1) := by decide +kernel
theorem dJ6_bitCount_0f7a4_16 : decode cJ6_bitCount_0f7a4 16 = .ok (.iconst 2, 1) := by decide +kernel
theorem dJ6_bitCount_0f7a4_17 : decode cJ6_bitCount_0f7a4 17 = .ok (.iushr, 1) := by decide +kernel
theorem dJ6_bitCount_0f7a4_18 : decode cJ6_bitCount_0f7a4 18 = .ok (.ldc_w 266, 3) := by decide +kernel
theorem dJ6_bitCount_0f7a4_21 : decode cJ6_bitCount_0f7a4 21 = .ok (.iand, 1) := by decide +kernel
theorem dJ6_bitCount_0f7a4_22 : decode cJ6_bitCount_0f7a4 22 = .ok (.iadd, 1) := by decide +kernel
theorem dJ6_bitCount_0f7a4_23 : decode cJ6_bitCount_0f7a4 23 = .ok (.istore_n 0, 1) := by decide +kernel
theorem dJ6_bitCount_0f7a4_24 : decode cJ6_bitCount_0f7a4 24 = .ok (.iload_n 0, 1) := by decide +kernel
theorem dJ6_bitCount_0f7a4_25 : decode cJ6_bitCount_0f7a4 25 = .ok (.iload_n 0, 1) := by decide +kernel
theorem dJ6_bitCount_0f7a4_26 : decode cJ6_bitCount_0f7a4 26 = .ok (.iconst 4, 1) := by decide +kernel
theorem dJ6_bitCount_0f7a4_27 : decode cJ6_bitCount_0f7a4 27 = .ok (.iushr, 1) := by decide +kernel
theorem dJ6_bitCount_0f7a4_28 : decode cJ6_bitCount_0f7a4 28 = .ok (.iadd, 1) := by decide +kernel
theorem dJ6_bitCount_0f7a4_29 : decode cJ6_bitCount_0f7a4 29 = .ok (.ldc_w 267, 3) := by decide +kernel
theorem dJ6_bitCount_0f7a4_32 : decode cJ6_bitCount_0f7a4 32 = .ok (.iand, 1) := by decide +kernel
theorem dJ6_bitCount_0f7a4_33 : decode cJ6_bitCount_0f7a4 33 = .ok (.istore_n 0, 1) := by decide +kernel
theorem dJ6_bitCount_0f7a4_34 : decode cJ6_bitCount_0f7a4 34 = .ok (.iload_n 0, 1) := by decide +kernel
theorem dJ6_bitCount_0f7a4_35 : decode cJ6_bitCount_0f7a4 35 = .ok (.iload_n 0, 1) := by decide +kernel
theorem dJ6_bitCount_0f7a4_36 : decode cJ6_bitCount_0f7a4 36 = .ok (.bipush 8, 2) := by decide +kernel
theorem dJ6_bitCount_0f7a4_38 : decode cJ6_bitCount_0f7a4 38 = .ok (.iushr, 1) := by decide +kernel
theorem dJ6_bitCount_0f7a4_39 : decode cJ6_bitCount_0f7a4 39 = .ok (.iadd, 1) := by decide +kernel
theorem dJ6_bitCount_0f7a4_40 : decode cJ6_bitCount_0f7a4 40 = .ok (.istore_n 0, 1) := by decide +kernel
theorem dJ6_bitCount_0f7a4_41 : decode cJ6_bitCount_0f7a4 41 = .ok (.iload_n 0, 1) := by decide +kernel
theorem dJ6_bitCount_0f7a4_42 : decode cJ6_bitCount_0f7a4 42 = .ok (.iload_n 0, 1) := by decide +kernel
theorem dJ6_bitCount_0f7a4_43 : decode cJ6_bitCount_0f7a4 43 = .ok (.bipush 16, 2) := by decide +kernel
theorem dJ6_bitCount_0f7a4_45 : decode cJ6_bitCount_0f7a4 45 = .ok (.iushr, 1) := by decide +kernel
theorem dJ6_bitCount_0f7a4_46 : decode cJ6_bitCount_0f7a4 46 = .ok (.iadd, 1) := by decide +kernel
theorem dJ6_bitCount_0f7a4_47 : decode cJ6_bitCount_0f7a4 47 = .ok (.istore_n 0, 1) := by decide +kernel
theorem dJ6_bitCount_0f7a4_48 : decode cJ6_bitCount_0f7a4 48 = .ok (.iload_n 0, 1) := by decide +kernel
theorem dJ6_bitCount_0f7a4_49 : decode cJ6_bitCount_0f7a4 49 = .ok (.bipush 63, 2) := by decide +kernel
theorem dJ6_bitCount_0f7a4_51 : decode cJ6_bitCount_0f7a4 51 = .ok (.iand, 1) := by decide +kernel
theorem dJ6_bitCount_0f7a4_52 : decode cJ6_bitCount_0f7a4 52 = .ok (.ireturn, 1) := by decide +kernel
theorem dJ7_fill_53178_0 : decode cJ7_fill_53178 0 = .ok (.iconst 0, 1) := by decide +kernel
theorem dJ7_fill_53178_1 : decode cJ7_fill_53178 1 = .ok (.istore_n 2, 1) := by decide +kernel
theorem dJ7_fill_53178_2 : decode cJ7_fill_53178 2 = .ok (.aload_n 0, 1) := by decide +kernel
theorem dJ7_fill_53178_3 : decode cJ7_fill_53178 3 = .ok (.arraylength, 1) := by decide +kernel
theorem dJ7_fill_53178_4 : decode cJ7_fill_53178 4 = .ok (.istore_n 3, 1) := by decide +kernel
theorem dJ7_fill_53178_5 : decode cJ7_fill_53178 5 = .ok (.iload_n 2, 1) := by decide +kernel
theorem dJ7_fill_53178_6 : decode cJ7_fill_53178 6 = .ok (.iload_n 3, 1) := by decide +kernel
theorem dJ7_fill_53178_7 : decode cJ7_fill_53178 7 = .ok (.if_icmp .ge 13, 3) := by decide +kernel
theorem dJ7_fill_53178_10 : decode cJ7_fill_53178 10 = .ok (.aload_n 0, 1) := by decide +kernel
theorem dJ7_fill_53178_11 : decode cJ7_fill_53178 11 = .ok (.iload_n 2, 1) := by decide +kernel
theorem dJ7_fill_53178_12 : decode cJ7_fill_53178 12 = .ok (.iload_n 1, 1) := by decide +kernel
theorem dJ7_fill_53178_13 : decode cJ7_fill_53178 13 = .ok (.iastore, 1) := by decide +kernel
theorem dJ7_fill_53178_14 : decode cJ7_fill_53178 14 = .ok (.iinc 2 1, 3) := by decide +kernel
theorem dJ7_fill_53178_17 : decode cJ7_fill_53178 17 = .ok (.goto (-12), 3) := by decide +kernel
theorem dJ7_fill_53178_20 : decode cJ7_fill_53178 20 = .ok (.return_, 1) := by decide +kernel
theorem gI_wI (z : MS) (k : Nat) (F : Nat → Int32) : gI (wI z k F) k = F := if_pos rfl
theorem gI_wI_ne (z : MS) {k k1 : Nat} (F : Nat → Int32) (h : k1 ≠ k) : gI (wI z k F) k1 = gI z k1 := if_neg h
theorem wI_wI (z : MS) (k : Nat) (F G : Nat → Int32) : wI (wI z k F) k G = wI z k G := by
  refine Prod.ext (funext fun a => ?_) rfl
  show (if a = k then G else (if a = k then F else z.1 a)) = if a = k then G else z.1 a
  by_cases h : a = k
  · rw [if_pos h, if_pos h]
  · rw [if_neg h, if_neg h, if_neg h]
theorem wI_self (z : MS) (k : Nat) : wI z k (gI z k) = z := by
  refine Prod.ext (funext fun a => ?_) rfl
  show (if a = k then z.1 k else z.1 a) = z.1 a
  by_cases h : a = k
  · rw [if_pos h, h]
  · rw [if_neg h]
theorem fI_0 (z : MS) (k : Nat) (v : Int32) : fI z k 0 v = z := wI_self z k
theorem fI_s (z : MS) (k j : Nat) (v : Int32) : wI (fI z k j v) k (upd (gI (fI z k j v) k) j v) = fI z k (j + 1) v := by
  unfold fI
  rw [wI_wI, gI_wI]
  congr 1
  funext x
  unfold upd
  by_cases h1 : x = j
  · rw [if_pos h1, if_pos (by omega)]
  · rw [if_neg h1]
    show (if x < j then v else gI z k x) = if x < j + 1 then v else gI z k x
    by_cases h2 : x < j
    · rw [if_pos h2, if_pos (by omega)]
    · rw [if_neg h2, if_neg (by omega)]
theorem c_fill (l : Launch) {z : MS} (k N : Nat) (v : Int32) (hN : N < 2 ^ 31) (he : ∀ (cs : Nat → ClassId) (ad : Nat → Nat) (z : MS), (wld cs ad z)[k]? = some (ad k, .inl (cs 0, N, .inl (gI z k)))) (hs : ∀ (cs : Nat → ClassId) (ad : Nat → Nat) (z : MS) (F : Nat → Int32), (wld cs ad z).set k (ad k, .inl (cs 0, N, .inl F)) = wld cs ad (wI z k F)) :
    CT l yJ7_fill_53178 cJ7_fill_53178 4 none 0 0 (fun ad sd => [.ref (ad k), .int v]) z none (fI z k N v) := by
  refine u_start RJ7 rfl (by decide) (fun _ _ => Nat.le_of_ble_eq_true rfl) (fun p e s m args below meth c R D ad cs sd A Q ls X hP hS hl hr hret => ?_)
  have hl : lv_has ls 4 [(0, .ref (ad k)), (1, .int v)] := hl
  have hP : va_P D clss (wld cs ad (fI z k 0 v)) s.heap := by rw [fI_0]; exact hP
  refine u_iconst (v := 0) X dJ7_fill_53178_0 rfl ?_
  refine u_istore_n [(2, .int 0), (0, .ref (ad k)), (1, .int v)] X hl dJ7_fill_53178_1 (Nat.le_of_ble_eq_true rfl) rfl (fun ls hl => ?_)
  refine u_aload_n X hl dJ7_fill_53178_2 1 rfl ?_
  refine va_alen (v := nI N) X.1 X.2.1 X.2.2.2.2.2.2.1 hP k 0 (he cs ad _) rfl rfl dJ7_fill_53178_3 ?_
  refine u_istore_n [(3, .int (nI N)), (2, .int (nI 0)), (0, .ref (ad k)), (1, .int v)] X hl dJ7_fill_53178_4 (Nat.le_of_ble_eq_true rfl) rfl (fun ls hl => ?_)
  have L : ∀ (d j : Nat) (H : Heap) (locs : List Loc) (ls : Array Slot), j + d = N → lv_has ls 4 [(0, .ref (ad k)), (1, .int v), (2, .int (nI j)), (3, .int (nI N))] → va_P D clss (wld cs ad (fI z k j v)) H → va_S A s.heap H locs → W p l e R s m args below meth c H locs 0 0 Q (F0 m 5 ls []) := by
    intro d
    induction d with
    | zero =>
      intro j H locs ls hj hl hP hS
      have hj : j = N := hj
      subst hj
      refine u_iload_n X hl dJ7_fill_53178_5 2 rfl ?_
      refine u_iload_n X hl dJ7_fill_53178_6 3 rfl ?_
      refine u_icmp_ge 20 X dJ7_fill_53178_7 rfl (fun hc => ?_) (fun hc => ?_)
      · exact u_vret X hr hret hP hS dJ7_fill_53178_20
      · exact absurd (Int32.le_refl _) hc
    | succ d ih =>
      intro j H locs ls hj hl hP hS
      have hjN : j < N := by omega
      refine u_iload_n X hl dJ7_fill_53178_5 2 rfl ?_
      refine u_iload_n X hl dJ7_fill_53178_6 3 rfl ?_
      refine u_icmp_ge 20 X dJ7_fill_53178_7 rfl (fun hc => ?_) (fun hc => ?_)
      · exact absurd hc (nI_ge hjN hN)
      · refine u_aload_n X hl dJ7_fill_53178_10 0 rfl ?_
        refine u_iload_n X hl dJ7_fill_53178_11 2 rfl ?_
        refine u_iload_n X hl dJ7_fill_53178_12 1 rfl ?_
        refine u_iast k (fI z k (j + 1) v) X hP hS (he cs ad _) ?_ (nI_in hjN hN) dJ7_fill_53178_13 (fun H locs hP hS => ?_)
        · rw [hs, nI_clamp (by omega), fI_s]
        refine u_iinc [(2, .int (nI (j + 1))), (0, .ref (ad k)), (1, .int v), (3, .int (nI N))] X hl dJ7_fill_53178_14 2 rfl (nI_succ j).symm (Nat.le_of_ble_eq_true rfl) rfl (fun ls hl => ?_)
        refine u_goto 5 X dJ7_fill_53178_17 rfl ?_
        exact ih (j + 1) H locs ls (by omega) (lv_sub hl [1, 2, 0, 3] rfl) hP hS
  exact L N 0 _ _ _ (by omega) (lv_sub hl [2, 3, 1, 0] rfl) hP hS
def fHouse10_emptyBut (z : MS) : Option MS :=
  some (fI (fI (cI (fI (fI (fI (pI (pI z 10 0 0) 10 1 0) 11 8 0) 12 8 0) 13 64 0) 14 5 8) 15 40 (-1)) 16 10 0)
set_option maxRecDepth 4000 in
theorem cHouse10_emptyBut (l : Launch) {z : MS} {z1 : MS} (h : fHouse10_emptyBut z = some z1) : CT l yX2_emptyBut cX2_emptyBut 2 none 1 26 (fun ad sd => [.ref (ad 10), .ref (ad 5)]) z none z1 := by
  rw [fHouse10_emptyBut] at h
  refine u_start RX2 rfl (by decide) (fun _ _ => Nat.le_of_ble_eq_true rfl) (fun p e s m args below meth c R D ad cs sd A Q ls X hP hS hl hr hret => ?_)
  have hl : lv_has ls 2 [(0, .ref (ad 10)), (1, .ref (ad 5))] := hl
  refine u_aload_n X hl dX2_emptyBut_0 0 rfl ?_
  refine u_iconst (v := 0) X dX2_emptyBut_1 rfl ?_
  refine pf_X2_9_10 X hP hS dX2_emptyBut_2 (fun H locs hP hS => ?_)
  refine u_aload_n X hl dX2_emptyBut_5 0 rfl ?_
  refine u_iconst (v := 0) X dX2_emptyBut_6 rfl ?_
  refine pf_X2_15_10 X hP hS dX2_emptyBut_7 (fun H locs hP hS => ?_)
  refine u_aload_n X hl dX2_emptyBut_10 0 rfl ?_
  refine gf_X2_18_10 X hP dX2_emptyBut_11 ?_
  refine u_iconst (v := 0) X dX2_emptyBut_14 rfl ?_
  refine u_callSv X hP hS hl dX2_emptyBut_15 (c_fill l 11 8 0 (by decide) (fun _ _ _ => rfl) (ax_11)) cw_X2_46 rfl rfl rfl rfl ⟨rfl, rfl⟩ (fun H locs hP hS => ?_)
  refine u_aload_n X hl dX2_emptyBut_18 0 rfl ?_
  refine gf_X2_22_10 X hP dX2_emptyBut_19 ?_
  refine u_iconst (v := 0) X dX2_emptyBut_22 rfl ?_
  refine u_callSv X hP hS hl dX2_emptyBut_23 (c_fill l 12 8 0 (by decide) (fun _ _ _ => rfl) (ax_12)) cw_X2_46 rfl rfl rfl rfl ⟨rfl, rfl⟩ (fun H locs hP hS => ?_)
  refine u_aload_n X hl dX2_emptyBut_26 0 rfl ?_
  refine gf_X2_25_10 X hP dX2_emptyBut_27 ?_
  refine u_iconst (v := 0) X dX2_emptyBut_30 rfl ?_
  refine u_callSv X hP hS hl dX2_emptyBut_31 (c_fill l 13 64 0 (by decide) (fun _ _ _ => rfl) (ax_13)) cw_X2_46 rfl rfl rfl rfl ⟨rfl, rfl⟩ (fun H locs hP hS => ?_)
  refine u_aload_n X hl dX2_emptyBut_34 1 rfl ?_
  refine u_iconst (v := 0) X dX2_emptyBut_35 rfl ?_
  refine u_aload_n X hl dX2_emptyBut_36 0 rfl ?_
  refine gf_X2_28_10 X hP dX2_emptyBut_37 ?_
  refine u_iconst (v := 0) X dX2_emptyBut_40 rfl ?_
  refine u_bipush (v := 8) X dX2_emptyBut_41 rfl ?_
  refine cp_X2_40 (i0 := 5) (i1 := 14) (cI (fI (fI (fI (pI (pI z 10 0 0) 10 1 0) 11 8 0) 12 8 0) 13 64 0) 14 5 8) X hP hS hl dX2_emptyBut_43 rfl rfl (by decide) rfl rfl rfl (ax_14 _ _ _ _) rfl ⟨rfl, rfl⟩ (fun H locs hP hS => ?_)
  refine u_aload_n X hl dX2_emptyBut_46 0 rfl ?_
  refine gf_X2_31_10 X hP dX2_emptyBut_47 ?_
  refine u_iconst (v := (-1)) X dX2_emptyBut_50 rfl ?_
  refine u_callSv X hP hS hl dX2_emptyBut_51 (c_fill l 15 40 (-1) (by decide) (fun _ _ _ => rfl) (ax_15)) cw_X2_46 rfl rfl rfl rfl ⟨rfl, rfl⟩ (fun H locs hP hS => ?_)
  refine u_aload_n X hl dX2_emptyBut_54 0 rfl ?_
  refine gf_X2_34_10 X hP dX2_emptyBut_55 ?_
  refine u_iconst (v := 0) X dX2_emptyBut_58 rfl ?_
  refine u_callSv X hP hS hl dX2_emptyBut_59 (c_fill l 16 10 0 (by decide) (fun _ _ _ => rfl) (ax_16)) cw_X2_46 rfl rfl rfl rfl ⟨rfl, rfl⟩ (fun H locs hP hS => ?_)
  exact u_vretM X hr hret h hP hS dX2_emptyBut_62
def fHouse_become_10 (z : MS) : Option MS :=
  some (cI (cI (cI (cI (cI (cI (pI (pI z 1 0 (gI z 10 0)) 1 1 (gI (pI z 1 0 (gI z 10 0)) 10 1)) 2 11 8) 3 12 8) 4 13 64) 5 14 8) 6 15 40) 7 16 10)
set_option maxRecDepth 4000 in
theorem cHouse_become_10 (l : Launch) {z : MS} {z1 : MS} (h : fHouse_become_10 z = some z1) : CT l yX2_become cX2_become 2 none 1 26 (fun ad sd => [.ref (ad 1), .ref (ad 10)]) z none z1 := by
  rw [fHouse_become_10] at h
  refine u_start RX2 rfl (by decide) (fun _ _ => Nat.le_of_ble_eq_true rfl) (fun p e s m args below meth c R D ad cs sd A Q ls X hP hS hl hr hret => ?_)
  have hl : lv_has ls 2 [(0, .ref (ad 1)), (1, .ref (ad 10))] := hl
  refine u_aload_n X hl dX2_become_0 0 rfl ?_
  refine u_aload_n X hl dX2_become_1 1 rfl ?_
  refine gf_X2_9_10 X hP dX2_become_2 ?_
  refine pf_X2_9_1 X hP hS dX2_become_5 (fun H locs hP hS => ?_)
  refine u_aload_n X hl dX2_become_8 0 rfl ?_
  refine u_aload_n X hl dX2_become_9 1 rfl ?_
  refine gf_X2_15_10 X hP dX2_become_10 ?_
  refine pf_X2_15_1 X hP hS dX2_become_13 (fun H locs hP hS => ?_)
  refine u_aload_n X hl dX2_become_16 1 rfl ?_
  refine gf_X2_18_10 X hP dX2_become_17 ?_
  refine u_iconst (v := 0) X dX2_become_20 rfl ?_
  refine u_aload_n X hl dX2_become_21 0 rfl ?_
  refine gf_X2_18_1 X hP dX2_become_22 ?_
  refine u_iconst (v := 0) X dX2_become_25 rfl ?_
  refine u_bipush (v := 8) X dX2_become_26 rfl ?_
  refine cp_X2_40 (i0 := 11) (i1 := 2) (cI (pI (pI z 1 0 (gI z 10 0)) 1 1 (gI (pI z 1 0 (gI z 10 0)) 10 1)) 2 11 8) X hP hS hl dX2_become_28 rfl rfl (by decide) rfl rfl rfl (ax_2 _ _ _ _) rfl ⟨rfl, rfl⟩ (fun H locs hP hS => ?_)
  refine u_aload_n X hl dX2_become_31 1 rfl ?_
  refine gf_X2_22_10 X hP dX2_become_32 ?_
  refine u_iconst (v := 0) X dX2_become_35 rfl ?_
  refine u_aload_n X hl dX2_become_36 0 rfl ?_
  refine gf_X2_22_1 X hP dX2_become_37 ?_
  refine u_iconst (v := 0) X dX2_become_40 rfl ?_
  refine u_bipush (v := 8) X dX2_become_41 rfl ?_
  refine cp_X2_40 (i0 := 12) (i1 := 3) (cI (cI (pI (pI z 1 0 (gI z 10 0)) 1 1 (gI (pI z 1 0 (gI z 10 0)) 10 1)) 2 11 8) 3 12 8) X hP hS hl dX2_become_43 rfl rfl (by decide) rfl rfl rfl (ax_3 _ _ _ _) rfl ⟨rfl, rfl⟩ (fun H locs hP hS => ?_)
  refine u_aload_n X hl dX2_become_46 1 rfl ?_
  refine gf_X2_25_10 X hP dX2_become_47 ?_
  refine u_iconst (v := 0) X dX2_become_50 rfl ?_
  refine u_aload_n X hl dX2_become_51 0 rfl ?_
  refine gf_X2_25_1 X hP dX2_become_52 ?_
  refine u_iconst (v := 0) X dX2_become_55 rfl ?_
  refine u_bipush (v := 64) X dX2_become_56 rfl ?_
  refine cp_X2_40 (i0 := 13) (i1 := 4) (cI (cI (cI (pI (pI z 1 0 (gI z 10 0)) 1 1 (gI (pI z 1 0 (gI z 10 0)) 10 1)) 2 11 8) 3 12 8) 4 13 64) X hP hS hl dX2_become_58 rfl rfl (by decide) rfl rfl rfl (ax_4 _ _ _ _) rfl ⟨rfl, rfl⟩ (fun H locs hP hS => ?_)
  refine u_aload_n X hl dX2_become_61 1 rfl ?_
  refine gf_X2_28_10 X hP dX2_become_62 ?_
  refine u_iconst (v := 0) X dX2_become_65 rfl ?_
  refine u_aload_n X hl dX2_become_66 0 rfl ?_
  refine gf_X2_28_1 X hP dX2_become_67 ?_
  refine u_iconst (v := 0) X dX2_become_70 rfl ?_
  refine u_bipush (v := 8) X dX2_become_71 rfl ?_
  refine cp_X2_40 (i0 := 14) (i1 := 5) (cI (cI (cI (cI (pI (pI z 1 0 (gI z 10 0)) 1 1 (gI (pI z 1 0 (gI z 10 0)) 10 1)) 2 11 8) 3 12 8) 4 13 64) 5 14 8) X hP hS hl dX2_become_73 rfl rfl (by decide) rfl rfl rfl (ax_5 _ _ _ _) rfl ⟨rfl, rfl⟩ (fun H locs hP hS => ?_)
  refine u_aload_n X hl dX2_become_76 1 rfl ?_
  refine gf_X2_31_10 X hP dX2_become_77 ?_
  refine u_iconst (v := 0) X dX2_become_80 rfl ?_
  refine u_aload_n X hl dX2_become_81 0 rfl ?_
  refine gf_X2_31_1 X hP dX2_become_82 ?_
  refine u_iconst (v := 0) X dX2_become_85 rfl ?_
  refine u_bipush (v := 40) X dX2_become_86 rfl ?_
  refine cp_X2_40 (i0 := 15) (i1 := 6) (cI (cI (cI (cI (cI (pI (pI z 1 0 (gI z 10 0)) 1 1 (gI (pI z 1 0 (gI z 10 0)) 10 1)) 2 11 8) 3 12 8) 4 13 64) 5 14 8) 6 15 40) X hP hS hl dX2_become_88 rfl rfl (by decide) rfl rfl rfl (ax_6 _ _ _ _) rfl ⟨rfl, rfl⟩ (fun H locs hP hS => ?_)
  refine u_aload_n X hl dX2_become_91 1 rfl ?_
  refine gf_X2_34_10 X hP dX2_become_92 ?_
  refine u_iconst (v := 0) X dX2_become_95 rfl ?_
  refine u_aload_n X hl dX2_become_96 0 rfl ?_
  refine gf_X2_34_1 X hP dX2_become_97 ?_
  refine u_iconst (v := 0) X dX2_become_100 rfl ?_
  refine u_bipush (v := 10) X dX2_become_101 rfl ?_
  refine cp_X2_40 (i0 := 16) (i1 := 7) (cI (cI (cI (cI (cI (cI (pI (pI z 1 0 (gI z 10 0)) 1 1 (gI (pI z 1 0 (gI z 10 0)) 10 1)) 2 11 8) 3 12 8) 4 13 64) 5 14 8) 6 15 40) 7 16 10) X hP hS hl dX2_become_103 rfl rfl (by decide) rfl rfl rfl (ax_7 _ _ _ _) rfl ⟨rfl, rfl⟩ (fun H locs hP hS => ?_)
  exact u_vretM X hr hret h hP hS dX2_become_106
def fHouse10_addPerson (z : MS) : Option (Int32 × MS) :=
  some ((gI (pI z 10 0 ((gI z 10 0) + 1)) 10 0) - 1, pI z 10 0 ((gI z 10 0) + 1))
set_option maxRecDepth 4000 in
theorem cHouse10_addPerson (l : Launch) {z : MS} {r : Int32} {z1 : MS} (h : fHouse10_addPerson z = some (r, z1)) : CT l yX2_addPerson cX2_addPerson 1 (some .int) 0 0 (fun ad sd => [.ref (ad 10)]) z (some (.int r)) z1 := by
  rw [fHouse10_addPerson] at h
  refine u_start RX2 rfl (by decide) (fun _ _ => Nat.le_of_ble_eq_true rfl) (fun p e s m args below meth c R D ad cs sd A Q ls X hP hS hl hr hret => ?_)
  have hl : lv_has ls 1 [(0, .ref (ad 10))] := hl
  refine u_aload_n X hl dX2_addPerson_0 0 rfl ?_
  refine u_dup X rfl dX2_addPerson_1 ?_
  refine gf_X2_9_10 X hP dX2_addPerson_2 ?_
  refine u_iconst (v := 1) X dX2_addPerson_5 rfl ?_
  refine u_iadd X dX2_addPerson_6 ?_
  refine pf_X2_9_10 X hP hS dX2_addPerson_7 (fun H locs hP hS => ?_)
  refine u_aload_n X hl dX2_addPerson_10 0 rfl ?_
  refine gf_X2_9_10 X hP dX2_addPerson_11 ?_
  refine u_iconst (v := 1) X dX2_addPerson_14 rfl ?_
  refine u_isub X dX2_addPerson_15 ?_
  exact u_iretM X hr hret h hP hS dX2_addPerson_16
def fHouse10_areKin (z : MS) (a0 : Int32) (a1 : Int32) : Option Int32 :=
  if a0 < 0 ∨ 8 ≤ a0.toNatClampNeg then none else if (((gI z 11 a0.toNatClampNeg) >>> (a1 &&& 31)) &&& 1) = 1 then some 1 else some 0
set_option maxRecDepth 4000 in
theorem cHouse10_areKin (l : Launch) {z : MS} {a0 : Int32} {a1 : Int32} {r : Int32} (h : fHouse10_areKin z a0 a1 = some r) : CT l yX2_areKin cX2_areKin 3 (some .boolean) 0 0 (fun ad sd => [.ref (ad 10), .int a0, .int a1]) z (some (.int r)) z := by
  rw [fHouse10_areKin] at h
  refine u_start RX2 rfl (by decide) (fun _ _ => Nat.le_of_ble_eq_true rfl) (fun p e s m args below meth c R D ad cs sd A Q ls X hP hS hl hr hret => ?_)
  have hl : lv_has ls 3 [(0, .ref (ad 10)), (1, .int a0), (2, .int a1)] := hl
  refine u_aload_n X hl dX2_areKin_0 0 rfl ?_
  refine gf_X2_18_10 X hP dX2_areKin_1 ?_
  refine u_iload_n X hl dX2_areKin_4 1 rfl ?_
  obtain ⟨hin, h⟩ := ifn_inv h
  refine ld_11 X hP rfl hin dX2_areKin_5 ?_
  refine u_iload_n X hl dX2_areKin_6 2 rfl ?_
  refine u_ishr X dX2_areKin_7 ?_
  refine u_iconst (v := 1) X dX2_areKin_8 rfl ?_
  refine u_iand X dX2_areKin_9 ?_
  refine u_iconst (v := 1) X dX2_areKin_10 rfl ?_
  refine u_icmp_ne 18 X dX2_areKin_11 rfl (fun hc => ?_) (fun hc => ?_)
  · rw [if_neg hc] at h
    refine u_iconst (v := 0) X dX2_areKin_18 rfl ?_
    exact u_zretP X hr hret h hP hS (Or.inl rfl) dX2_areKin_19
  · rw [if_pos hc] at h
    refine u_iconst (v := 1) X dX2_areKin_14 rfl ?_
    refine u_goto 19 X dX2_areKin_15 rfl ?_
    exact u_zretP X hr hret h hP hS (Or.inr rfl) dX2_areKin_19
def fHouse10_setKin (z : MS) (a0 : Int32) (a1 : Int32) (a2 : Int32) : Option (Int32 × MS) :=
  Option.bind (fHouse10_areKin z a0 a1) (fun w3 => if w3 = a2 then some (0, z) else (if a0 < 0 ∨ 8 ≤ a0.toNatClampNeg then none else if a0 < 0 ∨ 8 ≤ a0.toNatClampNeg then none else if a1 < 0 ∨ 8 ≤ a1.toNatClampNeg then none else if a1 < 0 ∨ 8 ≤ a1.toNatClampNeg then none else some (1, pI (pI z 11 a0.toNatClampNeg ((gI z 11 a0.toNatClampNeg) ^^^ ((1 : Int32) <<< (a1 &&& 31)))) 11 a1.toNatClampNeg ((gI (pI z 11 a0.toNatClampNeg ((gI z 11 a0.toNatClampNeg) ^^^ ((1 : Int32) <<< (a1 &&& 31)))) 11 a1.toNatClampNeg) ^^^ ((1 : Int32) <<< (a0 &&& 31))))))
set_option maxRecDepth 4000 in
theorem cHouse10_setKin (l : Launch) {z : MS} {a0 : Int32} {a1 : Int32} {a2 : Int32} {r : Int32} {z1 : MS} (h : fHouse10_setKin z a0 a1 a2 = some (r, z1)) : CT l yX2_setKin cX2_setKin 4 (some .int) 1 22 (fun ad sd => [.ref (ad 10), .int a0, .int a1, .int a2]) z (some (.int r)) z1 := by
  rw [fHouse10_setKin] at h
  refine u_start RX2 rfl (by decide) (fun _ _ => Nat.le_of_ble_eq_true rfl) (fun p e s m args below meth c R D ad cs sd A Q ls X hP hS hl hr hret => ?_)
  have hl : lv_has ls 4 [(0, .ref (ad 10)), (1, .int a0), (2, .int a1), (3, .int a2)] := hl
  refine u_aload_n X hl dX2_setKin_0 0 rfl ?_
  refine u_iload_n X hl dX2_setKin_1 1 rfl ?_
  refine u_iload_n X hl dX2_setKin_2 2 rfl ?_
  obtain ⟨w3, hc3, h⟩ := ob_inv h
  refine u_callVi X hP hS hl dX2_setKin_3 (cHouse10_areKin l hc3) cw_X2_56 io_10 rfl rfl rfl rfl ⟨rfl, rfl⟩ (fun H locs hP hS => ?_)
  refine u_iload_n X hl dX2_setKin_6 3 rfl ?_
  refine u_icmp_ne 12 X dX2_setKin_7 rfl (fun hc => ?_) (fun hc => ?_)
  · rw [if_neg hc] at h
    refine u_aload_n X hl dX2_setKin_12 0 rfl ?_
    refine gf_X2_18_10 X hP dX2_setKin_13 ?_
    refine u_iload_n X hl dX2_setKin_16 1 rfl ?_
    refine u_dup2 X rfl rfl dX2_setKin_17 ?_
    obtain ⟨hin, h⟩ := ifn_inv h
    refine ld_11 X hP rfl hin dX2_setKin_18 ?_
    refine u_iconst (v := 1) X dX2_setKin_19 rfl ?_
    refine u_iload_n X hl dX2_setKin_20 2 rfl ?_
    refine u_ishl X dX2_setKin_21 ?_
    refine u_ixor X dX2_setKin_22 ?_
    obtain ⟨hin, h⟩ := ifn_inv h
    refine as_11 X hP hS rfl hin dX2_setKin_23 (fun H locs hP hS => ?_)
    refine u_aload_n X hl dX2_setKin_24 0 rfl ?_
    refine gf_X2_18_10 X hP dX2_setKin_25 ?_
    refine u_iload_n X hl dX2_setKin_28 2 rfl ?_
    refine u_dup2 X rfl rfl dX2_setKin_29 ?_
    obtain ⟨hin, h⟩ := ifn_inv h
    refine ld_11 X hP rfl hin dX2_setKin_30 ?_
    refine u_iconst (v := 1) X dX2_setKin_31 rfl ?_
    refine u_iload_n X hl dX2_setKin_32 1 rfl ?_
    refine u_ishl X dX2_setKin_33 ?_
    refine u_ixor X dX2_setKin_34 ?_
    obtain ⟨hin, h⟩ := ifn_inv h
    refine as_11 X hP hS rfl hin dX2_setKin_35 (fun H locs hP hS => ?_)
    refine u_iconst (v := 1) X dX2_setKin_36 rfl ?_
    exact u_iretM X hr hret h hP hS dX2_setKin_37
  · rw [if_pos hc] at h
    refine u_iconst (v := 0) X dX2_setKin_10 rfl ?_
    exact u_iretM X hr hret h hP hS dX2_setKin_11
def fHouse_pairOf (a0 : Int32) (a1 : Int32) : Int32 :=
  if a1 ≤ a0 then (8 * a1) + a0 else (8 * a0) + a1
set_option maxRecDepth 4000 in
theorem cHouse_pairOf (l : Launch) (z : MS) (a0 : Int32) (a1 : Int32) : CT l yX2_pairOf cX2_pairOf 2 (some .int) 0 0 (fun ad sd => [.int a0, .int a1]) z (some (.int (fHouse_pairOf a0 a1))) z := by
  generalize h : fHouse_pairOf a0 a1 = r
  rw [fHouse_pairOf] at h
  refine u_start RX2 rfl (by decide) (fun _ _ => Nat.le_of_ble_eq_true rfl) (fun p e s m args below meth c R D ad cs sd A Q ls X hP hS hl hr hret => ?_)
  have hl : lv_has ls 2 [(0, .int a0), (1, .int a1)] := hl
  refine u_iload_n X hl dX2_pairOf_0 0 rfl ?_
  refine u_iload_n X hl dX2_pairOf_1 1 rfl ?_
  refine u_icmp_ge 14 X dX2_pairOf_2 rfl (fun hc => ?_) (fun hc => ?_)
  · rw [if_pos hc] at h
    refine u_bipush (v := 8) X dX2_pairOf_14 rfl ?_
    refine u_iload_n X hl dX2_pairOf_16 1 rfl ?_
    refine u_imul X dX2_pairOf_17 ?_
    refine u_iload_n X hl dX2_pairOf_18 0 rfl ?_
    refine u_iadd X dX2_pairOf_19 ?_
    exact u_iretT X hr hret h hP hS dX2_pairOf_20
  · rw [if_neg hc] at h
    refine u_bipush (v := 8) X dX2_pairOf_5 rfl ?_
    refine u_iload_n X hl dX2_pairOf_7 0 rfl ?_
    refine u_imul X dX2_pairOf_8 ?_
    refine u_iload_n X hl dX2_pairOf_9 1 rfl ?_
    refine u_iadd X dX2_pairOf_10 ?_
    refine u_goto 20 X dX2_pairOf_11 rfl ?_
    exact u_iretT X hr hret h hP hS dX2_pairOf_20
def fHouse10_isAway (z : MS) (a0 : Int32) (a1 : Int32) : Option Int32 :=
  if a0 < 0 ∨ 8 ≤ a0.toNatClampNeg then none else if (((gI z 12 a0.toNatClampNeg) >>> (a1 &&& 31)) &&& 1) = 1 then some 1 else some 0
set_option maxRecDepth 4000 in
theorem cHouse10_isAway (l : Launch) {z : MS} {a0 : Int32} {a1 : Int32} {r : Int32} (h : fHouse10_isAway z a0 a1 = some r) : CT l yX2_isAway cX2_isAway 3 (some .boolean) 0 0 (fun ad sd => [.ref (ad 10), .int a0, .int a1]) z (some (.int r)) z := by
  rw [fHouse10_isAway] at h
  refine u_start RX2 rfl (by decide) (fun _ _ => Nat.le_of_ble_eq_true rfl) (fun p e s m args below meth c R D ad cs sd A Q ls X hP hS hl hr hret => ?_)
  have hl : lv_has ls 3 [(0, .ref (ad 10)), (1, .int a0), (2, .int a1)] := hl
  refine u_aload_n X hl dX2_isAway_0 0 rfl ?_
  refine gf_X2_22_10 X hP dX2_isAway_1 ?_
  refine u_iload_n X hl dX2_isAway_4 1 rfl ?_
  obtain ⟨hin, h⟩ := ifn_inv h
  refine ld_12 X hP rfl hin dX2_isAway_5 ?_
  refine u_iload_n X hl dX2_isAway_6 2 rfl ?_
  refine u_ishr X dX2_isAway_7 ?_
  refine u_iconst (v := 1) X dX2_isAway_8 rfl ?_
  refine u_iand X dX2_isAway_9 ?_
  refine u_iconst (v := 1) X dX2_isAway_10 rfl ?_
  refine u_icmp_ne 18 X dX2_isAway_11 rfl (fun hc => ?_) (fun hc => ?_)
  · rw [if_neg hc] at h
    refine u_iconst (v := 0) X dX2_isAway_18 rfl ?_
    exact u_zretP X hr hret h hP hS (Or.inl rfl) dX2_isAway_19
  · rw [if_pos hc] at h
    refine u_iconst (v := 1) X dX2_isAway_14 rfl ?_
    refine u_goto 19 X dX2_isAway_15 rfl ?_
    exact u_zretP X hr hret h hP hS (Or.inr rfl) dX2_isAway_19
def fHouse10_setAway (z : MS) (a0 : Int32) (a1 : Int32) (a2 : Int32) : Option (Int32 × MS) :=
  Option.bind (fHouse10_isAway z a0 a1) (fun w3 => if w3 = a2 then some (0, z) else (if a0 < 0 ∨ 8 ≤ a0.toNatClampNeg then none else if a0 < 0 ∨ 8 ≤ a0.toNatClampNeg then none else some (1, pI z 12 a0.toNatClampNeg ((gI z 12 a0.toNatClampNeg) ^^^ ((1 : Int32) <<< (a1 &&& 31))))))
set_option maxRecDepth 4000 in
theorem cHouse10_setAway (l : Launch) {z : MS} {a0 : Int32} {a1 : Int32} {a2 : Int32} {r : Int32} {z1 : MS} (h : fHouse10_setAway z a0 a1 a2 = some (r, z1)) : CT l yX2_setAway cX2_setAway 4 (some .int) 1 22 (fun ad sd => [.ref (ad 10), .int a0, .int a1, .int a2]) z (some (.int r)) z1 := by
  rw [fHouse10_setAway] at h
  refine u_start RX2 rfl (by decide) (fun _ _ => Nat.le_of_ble_eq_true rfl) (fun p e s m args below meth c R D ad cs sd A Q ls X hP hS hl hr hret => ?_)
  have hl : lv_has ls 4 [(0, .ref (ad 10)), (1, .int a0), (2, .int a1), (3, .int a2)] := hl
  refine u_aload_n X hl dX2_setAway_0 0 rfl ?_
  refine u_iload_n X hl dX2_setAway_1 1 rfl ?_
  refine u_iload_n X hl dX2_setAway_2 2 rfl ?_
  obtain ⟨w3, hc3, h⟩ := ob_inv h
  refine u_callVi X hP hS hl dX2_setAway_3 (cHouse10_isAway l hc3) cw_X2_60 io_10 rfl rfl rfl rfl ⟨rfl, rfl⟩ (fun H locs hP hS => ?_)
  refine u_iload_n X hl dX2_setAway_6 3 rfl ?_
  refine u_icmp_ne 12 X dX2_setAway_7 rfl (fun hc => ?_) (fun hc => ?_)
  · rw [if_neg hc] at h
    refine u_aload_n X hl dX2_setAway_12 0 rfl ?_
    refine gf_X2_22_10 X hP dX2_setAway_13 ?_
    refine u_iload_n X hl dX2_setAway_16 1 rfl ?_
    refine u_dup2 X rfl rfl dX2_setAway_17 ?_
    obtain ⟨hin, h⟩ := ifn_inv h
    refine ld_12 X hP rfl hin dX2_setAway_18 ?_
    refine u_iconst (v := 1) X dX2_setAway_19 rfl ?_
    refine u_iload_n X hl dX2_setAway_20 2 rfl ?_
    refine u_ishl X dX2_setAway_21 ?_
    refine u_ixor X dX2_setAway_22 ?_
    obtain ⟨hin, h⟩ := ifn_inv h
    refine as_12 X hP hS rfl hin dX2_setAway_23 (fun H locs hP hS => ?_)
    refine u_iconst (v := 1) X dX2_setAway_24 rfl ?_
    exact u_iretM X hr hret h hP hS dX2_setAway_25
  · rw [if_pos hc] at h
    refine u_iconst (v := 0) X dX2_setAway_10 rfl ?_
    exact u_iretM X hr hret h hP hS dX2_setAway_11
def fHouse_addPerson (z : MS) : Option (Int32 × MS) :=
  some ((gI (pI z 1 0 ((gI z 1 0) + 1)) 1 0) - 1, pI z 1 0 ((gI z 1 0) + 1))
set_option maxRecDepth 4000 in
theorem cHouse_addPerson (l : Launch) {z : MS} {r : Int32} {z1 : MS} (h : fHouse_addPerson z = some (r, z1)) : CT l yX2_addPerson cX2_addPerson 1 (some .int) 0 0 (fun ad sd => [.ref (ad 1)]) z (some (.int r)) z1 := by
  rw [fHouse_addPerson] at h
  refine u_start RX2 rfl (by decide) (fun _ _ => Nat.le_of_ble_eq_true rfl) (fun p e s m args below meth c R D ad cs sd A Q ls X hP hS hl hr hret => ?_)
  have hl : lv_has ls 1 [(0, .ref (ad 1))] := hl
  refine u_aload_n X hl dX2_addPerson_0 0 rfl ?_
  refine u_dup X rfl dX2_addPerson_1 ?_
  refine gf_X2_9_1 X hP dX2_addPerson_2 ?_
  refine u_iconst (v := 1) X dX2_addPerson_5 rfl ?_
  refine u_iadd X dX2_addPerson_6 ?_
  refine pf_X2_9_1 X hP hS dX2_addPerson_7 (fun H locs hP hS => ?_)
  refine u_aload_n X hl dX2_addPerson_10 0 rfl ?_
  refine gf_X2_9_1 X hP dX2_addPerson_11 ?_
  refine u_iconst (v := 1) X dX2_addPerson_14 rfl ?_
  refine u_isub X dX2_addPerson_15 ?_
  exact u_iretM X hr hret h hP hS dX2_addPerson_16
def fHouse_isPerson (z : MS) (a0 : Int32) : Int32 :=
  if a0 < 0 then 0 else (if (gI z 1 0) ≤ a0 then 0 else 1)
theorem fHouse_isPerson_b (z : MS) (a0 : Int32) : fHouse_isPerson z a0 = 0 ∨ fHouse_isPerson z a0 = 1 := by
  unfold fHouse_isPerson
  (repeat' split) <;> first | with_reducible exact Or.inl rfl | with_reducible exact Or.inr rfl
set_option maxRecDepth 4000 in
theorem cHouse_isPerson (l : Launch) (z : MS) (a0 : Int32) : CT l yX2_isPerson cX2_isPerson 2 (some .boolean) 0 0 (fun ad sd => [.ref (ad 1), .int a0]) z (some (.int (fHouse_isPerson z a0))) z := by
  generalize h : fHouse_isPerson z a0 = r
  rw [fHouse_isPerson] at h
  refine u_start RX2 rfl (by decide) (fun _ _ => Nat.le_of_ble_eq_true rfl) (fun p e s m args below meth c R D ad cs sd A Q ls X hP hS hl hr hret => ?_)
  have hl : lv_has ls 2 [(0, .ref (ad 1)), (1, .int a0)] := hl
  refine u_iload_n X hl dX2_isPerson_0 1 rfl ?_
  refine u_if_lt 16 X dX2_isPerson_1 rfl (fun hc => ?_) (fun hc => ?_)
  · rw [if_pos hc] at h
    refine u_iconst (v := 0) X dX2_isPerson_16 rfl ?_
    exact u_zretT X hr hret h hP hS (Or.inl rfl) dX2_isPerson_17
  · rw [if_neg hc] at h
    refine u_iload_n X hl dX2_isPerson_4 1 rfl ?_
    refine u_aload_n X hl dX2_isPerson_5 0 rfl ?_
    refine gf_X2_9_1 X hP dX2_isPerson_6 ?_
    refine u_icmp_ge 16 X dX2_isPerson_9 rfl (fun hc => ?_) (fun hc => ?_)
    · rw [if_pos hc] at h
      refine u_iconst (v := 0) X dX2_isPerson_16 rfl ?_
      exact u_zretT X hr hret h hP hS (Or.inl rfl) dX2_isPerson_17
    · rw [if_neg hc] at h
      refine u_iconst (v := 1) X dX2_isPerson_12 rfl ?_
      refine u_goto 17 X dX2_isPerson_13 rfl ?_
      exact u_zretT X hr hret h hP hS (Or.inr rfl) dX2_isPerson_17
def fHouse_areTwo (z : MS) (a0 : Int32) (a1 : Int32) : Int32 :=
  if (fHouse_isPerson z a0) = 0 then 0 else (if (fHouse_isPerson z a1) = 0 then 0 else (if a0 = a1 then 0 else 1))
theorem fHouse_areTwo_b (z : MS) (a0 : Int32) (a1 : Int32) : fHouse_areTwo z a0 a1 = 0 ∨ fHouse_areTwo z a0 a1 = 1 := by
  unfold fHouse_areTwo
  (repeat' split) <;> first | with_reducible exact Or.inl rfl | with_reducible exact Or.inr rfl | with_reducible exact fHouse_isPerson_b _ _
set_option maxRecDepth 4000 in
theorem cHouse_areTwo (l : Launch) (z : MS) (a0 : Int32) (a1 : Int32) : CT l yX2_areTwo cX2_areTwo 3 (some .boolean) 1 21 (fun ad sd => [.ref (ad 1), .int a0, .int a1]) z (some (.int (fHouse_areTwo z a0 a1))) z := by
  generalize h : fHouse_areTwo z a0 a1 = r
  rw [fHouse_areTwo] at h
  refine u_start RX2 rfl (by decide) (fun _ _ => Nat.le_of_ble_eq_true rfl) (fun p e s m args below meth c R D ad cs sd A Q ls X hP hS hl hr hret => ?_)
  have hl : lv_has ls 3 [(0, .ref (ad 1)), (1, .int a0), (2, .int a1)] := hl
  refine u_aload_n X hl dX2_areTwo_0 0 rfl ?_
  refine u_iload_n X hl dX2_areTwo_1 1 rfl ?_
  refine u_callVi X hP hS hl dX2_areTwo_2 (cHouse_isPerson l z a0) cw_X2_52 io_1 rfl rfl rfl rfl ⟨rfl, rfl⟩ (fun H locs hP hS => ?_)
  refine u_if_eq 25 X dX2_areTwo_5 rfl (fun hc => ?_) (fun hc => ?_)
  · rw [if_pos hc] at h
    refine u_iconst (v := 0) X dX2_areTwo_25 rfl ?_
    exact u_zretT X hr hret h hP hS (Or.inl rfl) dX2_areTwo_26
  · rw [if_neg hc] at h
    refine u_aload_n X hl dX2_areTwo_8 0 rfl ?_
    refine u_iload_n X hl dX2_areTwo_9 2 rfl ?_
    refine u_callVi X hP hS hl dX2_areTwo_10 (cHouse_isPerson l z a1) cw_X2_52 io_1 rfl rfl rfl rfl ⟨rfl, rfl⟩ (fun H locs hP hS => ?_)
    refine u_if_eq 25 X dX2_areTwo_13 rfl (fun hc => ?_) (fun hc => ?_)
    · rw [if_pos hc] at h
      refine u_iconst (v := 0) X dX2_areTwo_25 rfl ?_
      exact u_zretT X hr hret h hP hS (Or.inl rfl) dX2_areTwo_26
    · rw [if_neg hc] at h
      refine u_iload_n X hl dX2_areTwo_16 1 rfl ?_
      refine u_iload_n X hl dX2_areTwo_17 2 rfl ?_
      refine u_icmp_eq 25 X dX2_areTwo_18 rfl (fun hc => ?_) (fun hc => ?_)
      · rw [if_pos hc] at h
        refine u_iconst (v := 0) X dX2_areTwo_25 rfl ?_
        exact u_zretT X hr hret h hP hS (Or.inl rfl) dX2_areTwo_26
      · rw [if_neg hc] at h
        refine u_iconst (v := 1) X dX2_areTwo_21 rfl ?_
        refine u_goto 26 X dX2_areTwo_22 rfl ?_
        exact u_zretT X hr hret h hP hS (Or.inr rfl) dX2_areTwo_26
def fHouse_areKin (z : MS) (a0 : Int32) (a1 : Int32) : Option Int32 :=
  if a0 < 0 ∨ 8 ≤ a0.toNatClampNeg then none else if (((gI z 2 a0.toNatClampNeg) >>> (a1 &&& 31)) &&& 1) = 1 then some 1 else some 0
set_option maxRecDepth 4000 in
theorem cHouse_areKin (l : Launch) {z : MS} {a0 : Int32} {a1 : Int32} {r : Int32} (h : fHouse_areKin z a0 a1 = some r) : CT l yX2_areKin cX2_areKin 3 (some .boolean) 0 0 (fun ad sd => [.ref (ad 1), .int a0, .int a1]) z (some (.int r)) z := by
  rw [fHouse_areKin] at h
  refine u_start RX2 rfl (by decide) (fun _ _ => Nat.le_of_ble_eq_true rfl) (fun p e s m args below meth c R D ad cs sd A Q ls X hP hS hl hr hret => ?_)
  have hl : lv_has ls 3 [(0, .ref (ad 1)), (1, .int a0), (2, .int a1)] := hl
  refine u_aload_n X hl dX2_areKin_0 0 rfl ?_
  refine gf_X2_18_1 X hP dX2_areKin_1 ?_
  refine u_iload_n X hl dX2_areKin_4 1 rfl ?_
  obtain ⟨hin, h⟩ := ifn_inv h
  refine ld_2 X hP rfl hin dX2_areKin_5 ?_
  refine u_iload_n X hl dX2_areKin_6 2 rfl ?_
  refine u_ishr X dX2_areKin_7 ?_
  refine u_iconst (v := 1) X dX2_areKin_8 rfl ?_
  refine u_iand X dX2_areKin_9 ?_
  refine u_iconst (v := 1) X dX2_areKin_10 rfl ?_
  refine u_icmp_ne 18 X dX2_areKin_11 rfl (fun hc => ?_) (fun hc => ?_)
  · rw [if_neg hc] at h
    refine u_iconst (v := 0) X dX2_areKin_18 rfl ?_
    exact u_zretP X hr hret h hP hS (Or.inl rfl) dX2_areKin_19
  · rw [if_pos hc] at h
    refine u_iconst (v := 1) X dX2_areKin_14 rfl ?_
    refine u_goto 19 X dX2_areKin_15 rfl ?_
    exact u_zretP X hr hret h hP hS (Or.inr rfl) dX2_areKin_19
def fHouse_setKin (z : MS) (a0 : Int32) (a1 : Int32) (a2 : Int32) : Option (Int32 × MS) :=
  Option.bind (fHouse_areKin z a0 a1) (fun w3 => if w3 = a2 then some (0, z) else (if a0 < 0 ∨ 8 ≤ a0.toNatClampNeg then none else if a0 < 0 ∨ 8 ≤ a0.toNatClampNeg then none else if a1 < 0 ∨ 8 ≤ a1.toNatClampNeg then none else if a1 < 0 ∨ 8 ≤ a1.toNatClampNeg then none else some (1, pI (pI z 2 a0.toNatClampNeg ((gI z 2 a0.toNatClampNeg) ^^^ ((1 : Int32) <<< (a1 &&& 31)))) 2 a1.toNatClampNeg ((gI (pI z 2 a0.toNatClampNeg ((gI z 2 a0.toNatClampNeg) ^^^ ((1 : Int32) <<< (a1 &&& 31)))) 2 a1.toNatClampNeg) ^^^ ((1 : Int32) <<< (a0 &&& 31))))))
set_option maxRecDepth 4000 in
theorem cHouse_setKin (l : Launch) {z : MS} {a0 : Int32} {a1 : Int32} {a2 : Int32} {r : Int32} {z1 : MS} (h : fHouse_setKin z a0 a1 a2 = some (r, z1)) : CT l yX2_setKin cX2_setKin 4 (some .int) 1 22 (fun ad sd => [.ref (ad 1), .int a0, .int a1, .int a2]) z (some (.int r)) z1 := by
  rw [fHouse_setKin] at h
  refine u_start RX2 rfl (by decide) (fun _ _ => Nat.le_of_ble_eq_true rfl) (fun p e s m args below meth c R D ad cs sd A Q ls X hP hS hl hr hret => ?_)
  have hl : lv_has ls 4 [(0, .ref (ad 1)), (1, .int a0), (2, .int a1), (3, .int a2)] := hl
  refine u_aload_n X hl dX2_setKin_0 0 rfl ?_
  refine u_iload_n X hl dX2_setKin_1 1 rfl ?_
  refine u_iload_n X hl dX2_setKin_2 2 rfl ?_
  obtain ⟨w3, hc3, h⟩ := ob_inv h
  refine u_callVi X hP hS hl dX2_setKin_3 (cHouse_areKin l hc3) cw_X2_56 io_1 rfl rfl rfl rfl ⟨rfl, rfl⟩ (fun H locs hP hS => ?_)
  refine u_iload_n X hl dX2_setKin_6 3 rfl ?_
  refine u_icmp_ne 12 X dX2_setKin_7 rfl (fun hc => ?_) (fun hc => ?_)
  · rw [if_neg hc] at h
    refine u_aload_n X hl dX2_setKin_12 0 rfl ?_
    refine gf_X2_18_1 X hP dX2_setKin_13 ?_
    refine u_iload_n X hl dX2_setKin_16 1 rfl ?_
    refine u_dup2 X rfl rfl dX2_setKin_17 ?_
    obtain ⟨hin, h⟩ := ifn_inv h
    refine ld_2 X hP rfl hin dX2_setKin_18 ?_
    refine u_iconst (v := 1) X dX2_setKin_19 rfl ?_
    refine u_iload_n X hl dX2_setKin_20 2 rfl ?_
    refine u_ishl X dX2_setKin_21 ?_
    refine u_ixor X dX2_setKin_22 ?_
    obtain ⟨hin, h⟩ := ifn_inv h
    refine as_2 X hP hS rfl hin dX2_setKin_23 (fun H locs hP hS => ?_)
    refine u_aload_n X hl dX2_setKin_24 0 rfl ?_
    refine gf_X2_18_1 X hP dX2_setKin_25 ?_
    refine u_iload_n X hl dX2_setKin_28 2 rfl ?_
    refine u_dup2 X rfl rfl dX2_setKin_29 ?_
    obtain ⟨hin, h⟩ := ifn_inv h
    refine ld_2 X hP rfl hin dX2_setKin_30 ?_
    refine u_iconst (v := 1) X dX2_setKin_31 rfl ?_
    refine u_iload_n X hl dX2_setKin_32 1 rfl ?_
    refine u_ishl X dX2_setKin_33 ?_
    refine u_ixor X dX2_setKin_34 ?_
    obtain ⟨hin, h⟩ := ifn_inv h
    refine as_2 X hP hS rfl hin dX2_setKin_35 (fun H locs hP hS => ?_)
    refine u_iconst (v := 1) X dX2_setKin_36 rfl ?_
    exact u_iretM X hr hret h hP hS dX2_setKin_37
  · rw [if_pos hc] at h
    refine u_iconst (v := 0) X dX2_setKin_10 rfl ?_
    exact u_iretM X hr hret h hP hS dX2_setKin_11
def fHouse_isAway (z : MS) (a0 : Int32) (a1 : Int32) : Option Int32 :=
  if a0 < 0 ∨ 8 ≤ a0.toNatClampNeg then none else if (((gI z 3 a0.toNatClampNeg) >>> (a1 &&& 31)) &&& 1) = 1 then some 1 else some 0
set_option maxRecDepth 4000 in
theorem cHouse_isAway (l : Launch) {z : MS} {a0 : Int32} {a1 : Int32} {r : Int32} (h : fHouse_isAway z a0 a1 = some r) : CT l yX2_isAway cX2_isAway 3 (some .boolean) 0 0 (fun ad sd => [.ref (ad 1), .int a0, .int a1]) z (some (.int r)) z := by
  rw [fHouse_isAway] at h
  refine u_start RX2 rfl (by decide) (fun _ _ => Nat.le_of_ble_eq_true rfl) (fun p e s m args below meth c R D ad cs sd A Q ls X hP hS hl hr hret => ?_)
  have hl : lv_has ls 3 [(0, .ref (ad 1)), (1, .int a0), (2, .int a1)] := hl
  refine u_aload_n X hl dX2_isAway_0 0 rfl ?_
  refine gf_X2_22_1 X hP dX2_isAway_1 ?_
  refine u_iload_n X hl dX2_isAway_4 1 rfl ?_
  obtain ⟨hin, h⟩ := ifn_inv h
  refine ld_3 X hP rfl hin dX2_isAway_5 ?_
  refine u_iload_n X hl dX2_isAway_6 2 rfl ?_
  refine u_ishr X dX2_isAway_7 ?_
  refine u_iconst (v := 1) X dX2_isAway_8 rfl ?_
  refine u_iand X dX2_isAway_9 ?_
  refine u_iconst (v := 1) X dX2_isAway_10 rfl ?_
  refine u_icmp_ne 18 X dX2_isAway_11 rfl (fun hc => ?_) (fun hc => ?_)
  · rw [if_neg hc] at h
    refine u_iconst (v := 0) X dX2_isAway_18 rfl ?_
    exact u_zretP X hr hret h hP hS (Or.inl rfl) dX2_isAway_19
  · rw [if_pos hc] at h
    refine u_iconst (v := 1) X dX2_isAway_14 rfl ?_
    refine u_goto 19 X dX2_isAway_15 rfl ?_
    exact u_zretP X hr hret h hP hS (Or.inr rfl) dX2_isAway_19
def fHouse_setAway (z : MS) (a0 : Int32) (a1 : Int32) (a2 : Int32) : Option (Int32 × MS) :=
  Option.bind (fHouse_isAway z a0 a1) (fun w3 => if w3 = a2 then some (0, z) else (if a0 < 0 ∨ 8 ≤ a0.toNatClampNeg then none else if a0 < 0 ∨ 8 ≤ a0.toNatClampNeg then none else some (1, pI z 3 a0.toNatClampNeg ((gI z 3 a0.toNatClampNeg) ^^^ ((1 : Int32) <<< (a1 &&& 31))))))
set_option maxRecDepth 4000 in
theorem cHouse_setAway (l : Launch) {z : MS} {a0 : Int32} {a1 : Int32} {a2 : Int32} {r : Int32} {z1 : MS} (h : fHouse_setAway z a0 a1 a2 = some (r, z1)) : CT l yX2_setAway cX2_setAway 4 (some .int) 1 22 (fun ad sd => [.ref (ad 1), .int a0, .int a1, .int a2]) z (some (.int r)) z1 := by
  rw [fHouse_setAway] at h
  refine u_start RX2 rfl (by decide) (fun _ _ => Nat.le_of_ble_eq_true rfl) (fun p e s m args below meth c R D ad cs sd A Q ls X hP hS hl hr hret => ?_)
  have hl : lv_has ls 4 [(0, .ref (ad 1)), (1, .int a0), (2, .int a1), (3, .int a2)] := hl
  refine u_aload_n X hl dX2_setAway_0 0 rfl ?_
  refine u_iload_n X hl dX2_setAway_1 1 rfl ?_
  refine u_iload_n X hl dX2_setAway_2 2 rfl ?_
  obtain ⟨w3, hc3, h⟩ := ob_inv h
  refine u_callVi X hP hS hl dX2_setAway_3 (cHouse_isAway l hc3) cw_X2_60 io_1 rfl rfl rfl rfl ⟨rfl, rfl⟩ (fun H locs hP hS => ?_)
  refine u_iload_n X hl dX2_setAway_6 3 rfl ?_
  refine u_icmp_ne 12 X dX2_setAway_7 rfl (fun hc => ?_) (fun hc => ?_)
  · rw [if_neg hc] at h
    refine u_aload_n X hl dX2_setAway_12 0 rfl ?_
    refine gf_X2_22_1 X hP dX2_setAway_13 ?_
    refine u_iload_n X hl dX2_setAway_16 1 rfl ?_
    refine u_dup2 X rfl rfl dX2_setAway_17 ?_
    obtain ⟨hin, h⟩ := ifn_inv h
    refine ld_3 X hP rfl hin dX2_setAway_18 ?_
    refine u_iconst (v := 1) X dX2_setAway_19 rfl ?_
    refine u_iload_n X hl dX2_setAway_20 2 rfl ?_
    refine u_ishl X dX2_setAway_21 ?_
    refine u_ixor X dX2_setAway_22 ?_
    obtain ⟨hin, h⟩ := ifn_inv h
    refine as_3 X hP hS rfl hin dX2_setAway_23 (fun H locs hP hS => ?_)
    refine u_iconst (v := 1) X dX2_setAway_24 rfl ?_
    exact u_iretM X hr hret h hP hS dX2_setAway_25
  · rw [if_pos hc] at h
    refine u_iconst (v := 0) X dX2_setAway_10 rfl ?_
    exact u_iretM X hr hret h hP hS dX2_setAway_11
def fHouse_at (z : MS) (a0 : Int32) (a1 : Int32) : Option Int32 :=
  if ((a0 * 4) + a1) < 0 ∨ 40 ≤ ((a0 * 4) + a1).toNatClampNeg then none else some (gI z 6 ((a0 * 4) + a1).toNatClampNeg)
set_option maxRecDepth 4000 in
theorem cHouse_at (l : Launch) {z : MS} {a0 : Int32} {a1 : Int32} {r : Int32} (h : fHouse_at z a0 a1 = some r) : CT l yX2_at cX2_at 3 (some .int) 0 0 (fun ad sd => [.ref (ad 1), .int a0, .int a1]) z (some (.int r)) z := by
  rw [fHouse_at] at h
  refine u_start RX2 rfl (by decide) (fun _ _ => Nat.le_of_ble_eq_true rfl) (fun p e s m args below meth c R D ad cs sd A Q ls X hP hS hl hr hret => ?_)
  have hl : lv_has ls 3 [(0, .ref (ad 1)), (1, .int a0), (2, .int a1)] := hl
  refine u_aload_n X hl dX2_at_0 0 rfl ?_
  refine gf_X2_31_1 X hP dX2_at_1 ?_
  refine u_iload_n X hl dX2_at_4 1 rfl ?_
  refine u_iconst (v := 4) X dX2_at_5 rfl ?_
  refine u_imul X dX2_at_6 ?_
  refine u_iload_n X hl dX2_at_7 2 rfl ?_
  refine u_iadd X dX2_at_8 ?_
  obtain ⟨hin, h⟩ := ifn_inv h
  refine ld_6 X hP rfl hin dX2_at_9 ?_
  exact u_iretP X hr hret h hP hS dX2_at_10
def fHouse_seat (z : MS) (a0 : Int32) (a1 : Int32) (a2 : Int32) : Option MS :=
  if ((a0 * 4) + a1) < 0 ∨ 40 ≤ ((a0 * 4) + a1).toNatClampNeg then none else some (pI z 6 ((a0 * 4) + a1).toNatClampNeg a2)
set_option maxRecDepth 4000 in
theorem cHouse_seat (l : Launch) {z : MS} {a0 : Int32} {a1 : Int32} {a2 : Int32} {z1 : MS} (h : fHouse_seat z a0 a1 a2 = some z1) : CT l yX2_seat cX2_seat 4 none 0 0 (fun ad sd => [.ref (ad 1), .int a0, .int a1, .int a2]) z none z1 := by
  rw [fHouse_seat] at h
  refine u_start RX2 rfl (by decide) (fun _ _ => Nat.le_of_ble_eq_true rfl) (fun p e s m args below meth c R D ad cs sd A Q ls X hP hS hl hr hret => ?_)
  have hl : lv_has ls 4 [(0, .ref (ad 1)), (1, .int a0), (2, .int a1), (3, .int a2)] := hl
  refine u_aload_n X hl dX2_seat_0 0 rfl ?_
  refine gf_X2_31_1 X hP dX2_seat_1 ?_
  refine u_iload_n X hl dX2_seat_4 1 rfl ?_
  refine u_iconst (v := 4) X dX2_seat_5 rfl ?_
  refine u_imul X dX2_seat_6 ?_
  refine u_iload_n X hl dX2_seat_7 2 rfl ?_
  refine u_iadd X dX2_seat_8 ?_
  refine u_iload_n X hl dX2_seat_9 3 rfl ?_
  obtain ⟨hin, h⟩ := ifn_inv h
  refine as_6 X hP hS rfl hin dX2_seat_10 (fun H locs hP hS => ?_)
  exact u_vretM X hr hret h hP hS dX2_seat_11
def fHouse_hasSurprise (z : MS) (a0 : Int32) : Int32 :=
  if (((gI z 1 1) >>> (a0 &&& 31)) &&& 1) = 1 then 1 else 0
theorem fHouse_hasSurprise_b (z : MS) (a0 : Int32) : fHouse_hasSurprise z a0 = 0 ∨ fHouse_hasSurprise z a0 = 1 := by
  unfold fHouse_hasSurprise
  (repeat' split) <;> first | with_reducible exact Or.inl rfl | with_reducible exact Or.inr rfl
set_option maxRecDepth 4000 in
theorem cHouse_hasSurprise (l : Launch) (z : MS) (a0 : Int32) : CT l yX2_hasSurprise cX2_hasSurprise 2 (some .boolean) 0 0 (fun ad sd => [.ref (ad 1), .int a0]) z (some (.int (fHouse_hasSurprise z a0))) z := by
  generalize h : fHouse_hasSurprise z a0 = r
  rw [fHouse_hasSurprise] at h
  refine u_start RX2 rfl (by decide) (fun _ _ => Nat.le_of_ble_eq_true rfl) (fun p e s m args below meth c R D ad cs sd A Q ls X hP hS hl hr hret => ?_)
  have hl : lv_has ls 2 [(0, .ref (ad 1)), (1, .int a0)] := hl
  refine u_aload_n X hl dX2_hasSurprise_0 0 rfl ?_
  refine gf_X2_15_1 X hP dX2_hasSurprise_1 ?_
  refine u_iload_n X hl dX2_hasSurprise_4 1 rfl ?_
  refine u_ishr X dX2_hasSurprise_5 ?_
  refine u_iconst (v := 1) X dX2_hasSurprise_6 rfl ?_
  refine u_iand X dX2_hasSurprise_7 ?_
  refine u_iconst (v := 1) X dX2_hasSurprise_8 rfl ?_
  refine u_icmp_ne 16 X dX2_hasSurprise_9 rfl (fun hc => ?_) (fun hc => ?_)
  · rw [if_neg hc] at h
    refine u_iconst (v := 0) X dX2_hasSurprise_16 rfl ?_
    exact u_zretT X hr hret h hP hS (Or.inl rfl) dX2_hasSurprise_17
  · rw [if_pos hc] at h
    refine u_iconst (v := 1) X dX2_hasSurprise_12 rfl ?_
    refine u_goto 17 X dX2_hasSurprise_13 rfl ?_
    exact u_zretT X hr hret h hP hS (Or.inr rfl) dX2_hasSurprise_17
def fHouse_setSurprise (z : MS) (a0 : Int32) (a1 : Int32) : Option (Int32 × MS) :=
  if (fHouse_hasSurprise z a0) = a1 then some (0, z) else some (1, pI z 1 1 ((gI z 1 1) ^^^ ((1 : Int32) <<< (a0 &&& 31))))
set_option maxRecDepth 4000 in
theorem cHouse_setSurprise (l : Launch) {z : MS} {a0 : Int32} {a1 : Int32} {r : Int32} {z1 : MS} (h : fHouse_setSurprise z a0 a1 = some (r, z1)) : CT l yX2_setSurprise cX2_setSurprise 3 (some .int) 1 21 (fun ad sd => [.ref (ad 1), .int a0, .int a1]) z (some (.int r)) z1 := by
  rw [fHouse_setSurprise] at h
  refine u_start RX2 rfl (by decide) (fun _ _ => Nat.le_of_ble_eq_true rfl) (fun p e s m args below meth c R D ad cs sd A Q ls X hP hS hl hr hret => ?_)
  have hl : lv_has ls 3 [(0, .ref (ad 1)), (1, .int a0), (2, .int a1)] := hl
  refine u_aload_n X hl dX2_setSurprise_0 0 rfl ?_
  refine u_iload_n X hl dX2_setSurprise_1 1 rfl ?_
  refine u_callVi X hP hS hl dX2_setSurprise_2 (cHouse_hasSurprise l z a0) cw_X2_63 io_1 rfl rfl rfl rfl ⟨rfl, rfl⟩ (fun H locs hP hS => ?_)
  refine u_iload_n X hl dX2_setSurprise_5 2 rfl ?_
  refine u_icmp_ne 11 X dX2_setSurprise_6 rfl (fun hc => ?_) (fun hc => ?_)
  · rw [if_neg hc] at h
    refine u_aload_n X hl dX2_setSurprise_11 0 rfl ?_
    refine u_dup X rfl dX2_setSurprise_12 ?_
    refine gf_X2_15_1 X hP dX2_setSurprise_13 ?_
    refine u_iconst (v := 1) X dX2_setSurprise_16 rfl ?_
    refine u_iload_n X hl dX2_setSurprise_17 1 rfl ?_
    refine u_ishl X dX2_setSurprise_18 ?_
    refine u_ixor X dX2_setSurprise_19 ?_
    refine pf_X2_15_1 X hP hS dX2_setSurprise_20 (fun H locs hP hS => ?_)
    refine u_iconst (v := 1) X dX2_setSurprise_23 rfl ?_
    exact u_iretM X hr hret h hP hS dX2_setSurprise_24
  · rw [if_pos hc] at h
    refine u_iconst (v := 0) X dX2_setSurprise_9 rfl ?_
    exact u_iretM X hr hret h hP hS dX2_setSurprise_10
def fHouse_pairOn (z : MS) (a0 : Int32) : Option Int32 :=
  if (a0 * 4) < 0 ∨ 40 ≤ (a0 * 4).toNatClampNeg then none else if ((a0 * 4) + 1) < 0 ∨ 40 ≤ ((a0 * 4) + 1).toNatClampNeg then none else if (gI z 6 (a0 * 4).toNatClampNeg) = (-1) then some (-1) else (if (gI z 6 ((a0 * 4) + 1).toNatClampNeg) = (-1) then some (-1) else (if (gI z 6 (a0 * 4).toNatClampNeg) = (gI z 6 ((a0 * 4) + 1).toNatClampNeg) then some (-1) else some (fHouse_pairOf (gI z 6 (a0 * 4).toNatClampNeg) (gI z 6 ((a0 * 4) + 1).toNatClampNeg))))
set_option maxRecDepth 4000 in
theorem cHouse_pairOn (l : Launch) {z : MS} {a0 : Int32} {r : Int32} (h : fHouse_pairOn z a0 = some r) : CT l yX2_pairOn cX2_pairOn 4 (some .int) 1 21 (fun ad sd => [.ref (ad 1), .int a0]) z (some (.int r)) z := by
  rw [fHouse_pairOn] at h
  refine u_start RX2 rfl (by decide) (fun _ _ => Nat.le_of_ble_eq_true rfl) (fun p e s m args below meth c R D ad cs sd A Q ls X hP hS hl hr hret => ?_)
  have hl : lv_has ls 4 [(0, .ref (ad 1)), (1, .int a0)] := hl
  refine u_aload_n X hl dX2_pairOn_0 0 rfl ?_
  refine gf_X2_31_1 X hP dX2_pairOn_1 ?_
  refine u_iload_n X hl dX2_pairOn_4 1 rfl ?_
  refine u_iconst (v := 4) X dX2_pairOn_5 rfl ?_
  refine u_imul X dX2_pairOn_6 ?_
  obtain ⟨hin, h⟩ := ifn_inv h
  refine ld_6 X hP rfl hin dX2_pairOn_7 ?_
  refine u_istore_n [(2, .int (gI z 6 (a0 * 4).toNatClampNeg)), (0, .ref (ad 1)), (1, .int a0)] X hl dX2_pairOn_8 (Nat.le_of_ble_eq_true rfl) rfl (fun ls hl => ?_)
  refine u_aload_n X hl dX2_pairOn_9 1 rfl ?_
  refine gf_X2_31_1 X hP dX2_pairOn_10 ?_
  refine u_iload_n X hl dX2_pairOn_13 2 rfl ?_
  refine u_iconst (v := 4) X dX2_pairOn_14 rfl ?_
  refine u_imul X dX2_pairOn_15 ?_
  refine u_iconst (v := 1) X dX2_pairOn_16 rfl ?_
  refine u_iadd X dX2_pairOn_17 ?_
  obtain ⟨hin, h⟩ := ifn_inv h
  refine ld_6 X hP rfl hin dX2_pairOn_18 ?_
  refine u_istore_n [(3, .int (gI z 6 ((a0 * 4) + 1).toNatClampNeg)), (2, .int (gI z 6 (a0 * 4).toNatClampNeg)), (0, .ref (ad 1)), (1, .int a0)] X hl dX2_pairOn_19 (Nat.le_of_ble_eq_true rfl) rfl (fun ls hl => ?_)
  refine u_iload_n X hl dX2_pairOn_20 1 rfl ?_
  refine u_iconst (v := (-1)) X dX2_pairOn_21 rfl ?_
  refine u_icmp_eq 35 X dX2_pairOn_22 rfl (fun hc => ?_) (fun hc => ?_)
  · rw [if_pos hc] at h
    refine u_iconst (v := (-1)) X dX2_pairOn_35 rfl ?_
    refine u_goto 44 X dX2_pairOn_36 rfl ?_
    exact u_iretP X hr hret h hP hS dX2_pairOn_44
  · rw [if_neg hc] at h
    refine u_iload_n X hl dX2_pairOn_25 0 rfl ?_
    refine u_iconst (v := (-1)) X dX2_pairOn_26 rfl ?_
    refine u_icmp_eq 35 X dX2_pairOn_27 rfl (fun hc => ?_) (fun hc => ?_)
    · rw [if_pos hc] at h
      refine u_iconst (v := (-1)) X dX2_pairOn_35 rfl ?_
      refine u_goto 44 X dX2_pairOn_36 rfl ?_
      exact u_iretP X hr hret h hP hS dX2_pairOn_44
    · rw [if_neg hc] at h
      refine u_iload_n X hl dX2_pairOn_30 1 rfl ?_
      refine u_iload_n X hl dX2_pairOn_31 0 rfl ?_
      refine u_icmp_ne 39 X dX2_pairOn_32 rfl (fun hc => ?_) (fun hc => ?_)
      · rw [if_neg hc] at h
        refine u_iload_n X hl dX2_pairOn_39 1 rfl ?_
        refine u_iload_n X hl dX2_pairOn_40 0 rfl ?_
        refine u_callSi X hP hS hl dX2_pairOn_41 (cHouse_pairOf l z (gI z 6 (a0 * 4).toNatClampNeg) (gI z 6 ((a0 * 4) + 1).toNatClampNeg)) cw_X2_66 rfl rfl rfl rfl ⟨rfl, rfl⟩ (fun H locs hP hS => ?_)
        exact u_iretP X hr hret h hP hS dX2_pairOn_44
      · rw [if_pos hc] at h
        refine u_iconst (v := (-1)) X dX2_pairOn_35 rfl ?_
        refine u_goto 44 X dX2_pairOn_36 rfl ?_
        exact u_iretP X hr hret h hP hS dX2_pairOn_44
def fHouse_lastDayOf_L4 (z : MS) (l1 : Int32) : Nat → Int32 → Option Int32
  | 0, _ => none
  | n + 1, l3 => if l3 < 0 then some (-1) else Option.bind (fHouse_pairOn z l3) (fun w10 => if w10 = l1 then some l3 else fHouse_lastDayOf_L4 z l1 n (l3 + (-1)))
def fHouse_lastDayOf (z : MS) (a0 : Int32) (a1 : Int32) : Option Int32 :=
  fHouse_lastDayOf_L4 z a0 LF (a1 - 1)
set_option maxRecDepth 4000 in
theorem cHouse_lastDayOf (l : Launch) {z : MS} {a0 : Int32} {a1 : Int32} {r : Int32} (h : fHouse_lastDayOf z a0 a1 = some r) : CT l yX2_lastDayOf cX2_lastDayOf 4 (some .int) 2 44 (fun ad sd => [.ref (ad 1), .int a0, .int a1]) z (some (.int r)) z := by
  rw [fHouse_lastDayOf] at h
  refine u_start RX2 rfl (by decide) (fun _ _ => Nat.le_of_ble_eq_true rfl) (fun p e s m args below meth c R D ad cs sd A Q ls X hP hS hl hr hret => ?_)
  have hl : lv_has ls 4 [(0, .ref (ad 1)), (1, .int a0), (2, .int a1)] := hl
  refine u_iload_n X hl dX2_lastDayOf_0 2 rfl ?_
  refine u_iconst (v := 1) X dX2_lastDayOf_1 rfl ?_
  refine u_isub X dX2_lastDayOf_2 ?_
  refine u_istore_n [(3, .int (a1 - 1)), (0, .ref (ad 1)), (1, .int a0), (2, .int a1)] X hl dX2_lastDayOf_3 (Nat.le_of_ble_eq_true rfl) rfl (fun ls hl => ?_)
  have L4 : ∀ (n : Nat) (H : Heap) (locs : List Loc) (ls : Array Slot) (l3_4 : Int32), lv_has ls 4 [(0, .ref (ad 1)), (1, .int a0), (3, .int l3_4)] → va_P D clss (wld cs ad z) H → va_S A s.heap H locs → fHouse_lastDayOf_L4 z a0 n l3_4 = some r → W p l e R s m args below meth c H locs 0 0 Q (F0 m 4 ls []) := by
    intro n
    induction n with
    | zero =>
      intro H locs ls l3_4 hl hP hS h
      rw [fHouse_lastDayOf_L4] at h
      cases h
    | succ n4 ih4 =>
      intro H locs ls l3_4 hl hP hS h
      rw [fHouse_lastDayOf_L4] at h
      refine u_iload_n X hl dX2_lastDayOf_4 2 rfl ?_
      refine u_if_lt 25 X dX2_lastDayOf_5 rfl (fun hc => ?_) (fun hc => ?_)
      · rw [if_pos hc] at h
        refine u_iconst (v := (-1)) X dX2_lastDayOf_25 rfl ?_
        exact u_iretP X hr hret h hP hS dX2_lastDayOf_26
      · rw [if_neg hc] at h
        refine u_aload_n X hl dX2_lastDayOf_8 0 rfl ?_
        refine u_iload_n X hl dX2_lastDayOf_9 2 rfl ?_
        obtain ⟨w10, hc10, h⟩ := ob_inv h
        refine u_callVi X hP hS hl dX2_lastDayOf_10 (cHouse_pairOn l hc10) cw_X2_70 io_1 rfl rfl rfl rfl ⟨rfl, rfl⟩ (fun H locs hP hS => ?_)
        refine u_iload_n X hl dX2_lastDayOf_13 1 rfl ?_
        refine u_icmp_ne 19 X dX2_lastDayOf_14 rfl (fun hc => ?_) (fun hc => ?_)
        · rw [if_neg hc] at h
          refine u_iinc [(3, .int (l3_4 + (-1))), (0, .ref (ad 1)), (1, .int a0)] X hl dX2_lastDayOf_19 2 rfl rfl (Nat.le_of_ble_eq_true rfl) rfl (fun ls hl => ?_)
          refine u_goto 4 X dX2_lastDayOf_22 rfl ?_
          exact ih4 _ _ _ _ (lv_sub hl [1, 2, 0] rfl) hP hS h
        · rw [if_pos hc] at h
          refine u_iload_n X hl dX2_lastDayOf_17 2 rfl ?_
          exact u_iretP X hr hret h hP hS dX2_lastDayOf_18
  exact L4 LF _ _ _ _ (lv_sub hl [1, 2, 0] rfl) hP hS h
def fHouse_satInGap (z : MS) (a0 : Int32) (a1 : Int32) : Option Int32 :=
  Option.bind (fHouse_lastDayOf z a0 a1) (fun w3 => if w3 < 0 then some 0 else (if w3 < (a1 - (gI z 5 7)) then some 0 else some 1))
set_option maxRecDepth 4000 in
theorem cHouse_satInGap (l : Launch) {z : MS} {a0 : Int32} {a1 : Int32} {r : Int32} (h : fHouse_satInGap z a0 a1 = some r) : CT l yX2_satInGap cX2_satInGap 4 (some .boolean) 3 67 (fun ad sd => [.ref (ad 1), .int a0, .int a1]) z (some (.int r)) z := by
  rw [fHouse_satInGap] at h
  refine u_start RX2 rfl (by decide) (fun _ _ => Nat.le_of_ble_eq_true rfl) (fun p e s m args below meth c R D ad cs sd A Q ls X hP hS hl hr hret => ?_)
  have hl : lv_has ls 4 [(0, .ref (ad 1)), (1, .int a0), (2, .int a1)] := hl
  refine u_aload_n X hl dX2_satInGap_0 0 rfl ?_
  refine u_iload_n X hl dX2_satInGap_1 1 rfl ?_
  refine u_iload_n X hl dX2_satInGap_2 2 rfl ?_
  obtain ⟨w3, hc3, h⟩ := ob_inv h
  refine u_callVi X hP hS hl dX2_satInGap_3 (cHouse_lastDayOf l hc3) cw_X2_74 io_1 rfl rfl rfl rfl ⟨rfl, rfl⟩ (fun H locs hP hS => ?_)
  refine u_istore_n [(3, .int w3), (0, .ref (ad 1)), (1, .int a0), (2, .int a1)] X hl dX2_satInGap_6 (Nat.le_of_ble_eq_true rfl) rfl (fun ls hl => ?_)
  refine u_iload_n X hl dX2_satInGap_7 0 rfl ?_
  refine u_if_lt 28 X dX2_satInGap_8 rfl (fun hc => ?_) (fun hc => ?_)
  · rw [if_pos hc] at h
    refine u_iconst (v := 0) X dX2_satInGap_28 rfl ?_
    exact u_zretP X hr hret h hP hS (Or.inl rfl) dX2_satInGap_29
  · rw [if_neg hc] at h
    refine u_iload_n X hl dX2_satInGap_11 0 rfl ?_
    refine u_iload_n X hl dX2_satInGap_12 3 rfl ?_
    refine u_aload_n X hl dX2_satInGap_13 1 rfl ?_
    refine gf_X2_28_1 X hP dX2_satInGap_14 ?_
    refine u_bipush (v := 7) X dX2_satInGap_17 rfl ?_
    refine ld_5 (w := 7) X hP rfl (by decide) dX2_satInGap_19 ?_
    refine u_isub X dX2_satInGap_20 ?_
    refine u_icmp_lt 28 X dX2_satInGap_21 rfl (fun hc => ?_) (fun hc => ?_)
    · rw [if_pos hc] at h
      refine u_iconst (v := 0) X dX2_satInGap_28 rfl ?_
      exact u_zretP X hr hret h hP hS (Or.inl rfl) dX2_satInGap_29
    · rw [if_neg hc] at h
      refine u_iconst (v := 1) X dX2_satInGap_24 rfl ?_
      refine u_goto 29 X dX2_satInGap_25 rfl ?_
      exact u_zretP X hr hret h hP hS (Or.inr rfl) dX2_satInGap_29
def fHouse_sittings_L4 (z : MS) : Nat → Int32 → Int32 → Option Int32
  | 0, _, _ => none
  | n + 1, l1, l2 => if 10 ≤ l2 then some l1 else Option.bind (fHouse_pairOn z l2) (fun w12 => if w12 = (-1) then fHouse_sittings_L4 z n l1 (l2 + 1) else fHouse_sittings_L4 z n (l1 + 1) (l2 + 1))
def fHouse_sittings (z : MS) : Option Int32 :=
  fHouse_sittings_L4 z LF 0 0
set_option maxRecDepth 4000 in
theorem cHouse_sittings (l : Launch) {z : MS} {r : Int32} (h : fHouse_sittings z = some r) : CT l yX2_sittings cX2_sittings 3 (some .int) 2 44 (fun ad sd => [.ref (ad 1)]) z (some (.int r)) z := by
  rw [fHouse_sittings] at h
  refine u_start RX2 rfl (by decide) (fun _ _ => Nat.le_of_ble_eq_true rfl) (fun p e s m args below meth c R D ad cs sd A Q ls X hP hS hl hr hret => ?_)
  have hl : lv_has ls 3 [(0, .ref (ad 1))] := hl
  refine u_iconst (v := 0) X dX2_sittings_0 rfl ?_
  refine u_istore_n [(1, .int 0), (0, .ref (ad 1))] X hl dX2_sittings_1 (Nat.le_of_ble_eq_true rfl) rfl (fun ls hl => ?_)
  refine u_iconst (v := 0) X dX2_sittings_2 rfl ?_
  refine u_istore_n [(2, .int 0), (1, .int 0), (0, .ref (ad 1))] X hl dX2_sittings_3 (Nat.le_of_ble_eq_true rfl) rfl (fun ls hl => ?_)
  have L4 : ∀ (n : Nat) (H : Heap) (locs : List Loc) (ls : Array Slot) (l1_4 : Int32) (l2_4 : Int32), lv_has ls 3 [(0, .ref (ad 1)), (1, .int l1_4), (2, .int l2_4)] → va_P D clss (wld cs ad z) H → va_S A s.heap H locs → fHouse_sittings_L4 z n l1_4 l2_4 = some r → W p l e R s m args below meth c H locs 0 0 Q (F0 m 4 ls []) := by
    intro n
    induction n with
    | zero =>
      intro H locs ls l1_4 l2_4 hl hP hS h
      rw [fHouse_sittings_L4] at h
      cases h
    | succ n4 ih4 =>
      intro H locs ls l1_4 l2_4 hl hP hS h
      rw [fHouse_sittings_L4] at h
      refine u_iload_n X hl dX2_sittings_4 2 rfl ?_
      refine u_bipush (v := 10) X dX2_sittings_5 rfl ?_
      refine u_icmp_ge 28 X dX2_sittings_7 rfl (fun hc => ?_) (fun hc => ?_)
      · rw [if_pos hc] at h
        refine u_iload_n X hl dX2_sittings_28 1 rfl ?_
        exact u_iretP X hr hret h hP hS dX2_sittings_29
      · rw [if_neg hc] at h
        refine u_aload_n X hl dX2_sittings_10 0 rfl ?_
        refine u_iload_n X hl dX2_sittings_11 2 rfl ?_
        obtain ⟨w12, hc12, h⟩ := ob_inv h
        refine u_callVi X hP hS hl dX2_sittings_12 (cHouse_pairOn l hc12) cw_X2_70 io_1 rfl rfl rfl rfl ⟨rfl, rfl⟩ (fun H locs hP hS => ?_)
        refine u_iconst (v := (-1)) X dX2_sittings_15 rfl ?_
        refine u_icmp_eq 22 X dX2_sittings_16 rfl (fun hc => ?_) (fun hc => ?_)
        · rw [if_pos hc] at h
          refine u_iinc [(2, .int (l2_4 + 1)), (0, .ref (ad 1)), (1, .int l1_4)] X hl dX2_sittings_22 2 rfl rfl (Nat.le_of_ble_eq_true rfl) rfl (fun ls hl => ?_)
          refine u_goto 4 X dX2_sittings_25 rfl ?_
          exact ih4 _ _ _ _ _ (lv_sub hl [1, 2, 0] rfl) hP hS h
        · rw [if_neg hc] at h
          refine u_iinc [(1, .int (l1_4 + 1)), (0, .ref (ad 1)), (2, .int l2_4)] X hl dX2_sittings_19 1 rfl rfl (Nat.le_of_ble_eq_true rfl) rfl (fun ls hl => ?_)
          refine u_iinc [(2, .int (l2_4 + 1)), (1, .int (l1_4 + 1)), (0, .ref (ad 1))] X hl dX2_sittings_22 2 rfl rfl (Nat.le_of_ble_eq_true rfl) rfl (fun ls hl => ?_)
          refine u_goto 4 X dX2_sittings_25 rfl ?_
          exact ih4 _ _ _ _ _ (lv_sub hl [2, 1, 0] rfl) hP hS h
  exact L4 LF _ _ _ _ _ (lv_sub hl [2, 1, 0] rfl) hP hS h
def fHouse_daysOf_L4 (z : MS) (l1 : Int32) : Nat → Int32 → Int32 → Option Int32
  | 0, _, _ => none
  | n + 1, l2, l3 => if 10 ≤ l3 then some l2 else Option.bind (fHouse_pairOn z l3) (fun w12 => if w12 = l1 then fHouse_daysOf_L4 z l1 n (l2 ||| ((1 : Int32) <<< (l3 &&& 31))) (l3 + 1) else fHouse_daysOf_L4 z l1 n l2 (l3 + 1))
def fHouse_daysOf (z : MS) (a0 : Int32) : Option Int32 :=
  fHouse_daysOf_L4 z a0 LF 0 0
set_option maxRecDepth 4000 in
theorem cHouse_daysOf (l : Launch) {z : MS} {a0 : Int32} {r : Int32} (h : fHouse_daysOf z a0 = some r) : CT l yX2_daysOf cX2_daysOf 4 (some .int) 2 44 (fun ad sd => [.ref (ad 1), .int a0]) z (some (.int r)) z := by
  rw [fHouse_daysOf] at h
  refine u_start RX2 rfl (by decide) (fun _ _ => Nat.le_of_ble_eq_true rfl) (fun p e s m args below meth c R D ad cs sd A Q ls X hP hS hl hr hret => ?_)
  have hl : lv_has ls 4 [(0, .ref (ad 1)), (1, .int a0)] := hl
  refine u_iconst (v := 0) X dX2_daysOf_0 rfl ?_
  refine u_istore_n [(2, .int 0), (0, .ref (ad 1)), (1, .int a0)] X hl dX2_daysOf_1 (Nat.le_of_ble_eq_true rfl) rfl (fun ls hl => ?_)
  refine u_iconst (v := 0) X dX2_daysOf_2 rfl ?_
  refine u_istore_n [(3, .int 0), (2, .int 0), (0, .ref (ad 1)), (1, .int a0)] X hl dX2_daysOf_3 (Nat.le_of_ble_eq_true rfl) rfl (fun ls hl => ?_)
  have L4 : ∀ (n : Nat) (H : Heap) (locs : List Loc) (ls : Array Slot) (l2_4 : Int32) (l3_4 : Int32), lv_has ls 4 [(0, .ref (ad 1)), (1, .int a0), (2, .int l2_4), (3, .int l3_4)] → va_P D clss (wld cs ad z) H → va_S A s.heap H locs → fHouse_daysOf_L4 z a0 n l2_4 l3_4 = some r → W p l e R s m args below meth c H locs 0 0 Q (F0 m 4 ls []) := by
    intro n
    induction n with
    | zero =>
      intro H locs ls l2_4 l3_4 hl hP hS h
      rw [fHouse_daysOf_L4] at h
      cases h
    | succ n4 ih4 =>
      intro H locs ls l2_4 l3_4 hl hP hS h
      rw [fHouse_daysOf_L4] at h
      refine u_iload_n X hl dX2_daysOf_4 3 rfl ?_
      refine u_bipush (v := 10) X dX2_daysOf_5 rfl ?_
      refine u_icmp_ge 31 X dX2_daysOf_7 rfl (fun hc => ?_) (fun hc => ?_)
      · rw [if_pos hc] at h
        refine u_iload_n X hl dX2_daysOf_31 2 rfl ?_
        exact u_iretP X hr hret h hP hS dX2_daysOf_32
      · rw [if_neg hc] at h
        refine u_aload_n X hl dX2_daysOf_10 0 rfl ?_
        refine u_iload_n X hl dX2_daysOf_11 3 rfl ?_
        obtain ⟨w12, hc12, h⟩ := ob_inv h
        refine u_callVi X hP hS hl dX2_daysOf_12 (cHouse_pairOn l hc12) cw_X2_70 io_1 rfl rfl rfl rfl ⟨rfl, rfl⟩ (fun H locs hP hS => ?_)
        refine u_iload_n X hl dX2_daysOf_15 1 rfl ?_
        refine u_icmp_ne 25 X dX2_daysOf_16 rfl (fun hc => ?_) (fun hc => ?_)
        · rw [if_neg hc] at h
          refine u_iinc [(3, .int (l3_4 + 1)), (0, .ref (ad 1)), (1, .int a0), (2, .int l2_4)] X hl dX2_daysOf_25 3 rfl rfl (Nat.le_of_ble_eq_true rfl) rfl (fun ls hl => ?_)
          refine u_goto 4 X dX2_daysOf_28 rfl ?_
          exact ih4 _ _ _ _ _ (lv_sub hl [1, 2, 3, 0] rfl) hP hS h
        · rw [if_pos hc] at h
          refine u_iload_n X hl dX2_daysOf_19 2 rfl ?_
          refine u_iconst (v := 1) X dX2_daysOf_20 rfl ?_
          refine u_iload_n X hl dX2_daysOf_21 3 rfl ?_
          refine u_ishl X dX2_daysOf_22 ?_
          refine u_ior X dX2_daysOf_23 ?_
          refine u_istore_n [(2, .int (l2_4 ||| ((1 : Int32) <<< (l3_4 &&& 31)))), (0, .ref (ad 1)), (1, .int a0), (3, .int l3_4)] X hl dX2_daysOf_24 (Nat.le_of_ble_eq_true rfl) rfl (fun ls hl => ?_)
          refine u_iinc [(3, .int (l3_4 + 1)), (2, .int (l2_4 ||| ((1 : Int32) <<< (l3_4 &&& 31)))), (0, .ref (ad 1)), (1, .int a0)] X hl dX2_daysOf_25 3 rfl rfl (Nat.le_of_ble_eq_true rfl) rfl (fun ls hl => ?_)
          refine u_goto 4 X dX2_daysOf_28 rfl ?_
          exact ih4 _ _ _ _ _ (lv_sub hl [2, 3, 1, 0] rfl) hP hS h
  exact L4 LF _ _ _ _ _ (lv_sub hl [2, 3, 1, 0] rfl) hP hS h
def fJInt_bitCount (a0 : Int32) : Int32 :=
  (((((((a0 - ((iush a0 1) &&& 1431655765)) &&& 858993459) + ((iush (a0 - ((iush a0 1) &&& 1431655765)) 2) &&& 858993459)) + (iush (((a0 - ((iush a0 1) &&& 1431655765)) &&& 858993459) + ((iush (a0 - ((iush a0 1) &&& 1431655765)) 2) &&& 858993459)) 4)) &&& 252645135) + (iush (((((a0 - ((iush a0 1) &&& 1431655765)) &&& 858993459) + ((iush (a0 - ((iush a0 1) &&& 1431655765)) 2) &&& 858993459)) + (iush (((a0 - ((iush a0 1) &&& 1431655765)) &&& 858993459) + ((iush (a0 - ((iush a0 1) &&& 1431655765)) 2) &&& 858993459)) 4)) &&& 252645135) 8)) + (iush ((((((a0 - ((iush a0 1) &&& 1431655765)) &&& 858993459) + ((iush (a0 - ((iush a0 1) &&& 1431655765)) 2) &&& 858993459)) + (iush (((a0 - ((iush a0 1) &&& 1431655765)) &&& 858993459) + ((iush (a0 - ((iush a0 1) &&& 1431655765)) 2) &&& 858993459)) 4)) &&& 252645135) + (iush (((((a0 - ((iush a0 1) &&& 1431655765)) &&& 858993459) + ((iush (a0 - ((iush a0 1) &&& 1431655765)) 2) &&& 858993459)) + (iush (((a0 - ((iush a0 1) &&& 1431655765)) &&& 858993459) + ((iush (a0 - ((iush a0 1) &&& 1431655765)) 2) &&& 858993459)) 4)) &&& 252645135) 8)) 16)) &&& 63
set_option maxRecDepth 4000 in
theorem cJInt_bitCount (l : Launch) (z : MS) (a0 : Int32) : CT l yJ6_bitCount_0f7a4 cJ6_bitCount_0f7a4 1 (some .int) 0 0 (fun ad sd => [.int a0]) z (some (.int (fJInt_bitCount a0))) z := by
  generalize h : fJInt_bitCount a0 = r
  rw [fJInt_bitCount] at h
  refine u_start RJ6 rfl (by decide) (fun _ _ => Nat.le_of_ble_eq_true rfl) (fun p e s m args below meth c R D ad cs sd A Q ls X hP hS hl hr hret => ?_)
  have hl : lv_has ls 1 [(0, .int a0)] := hl
  refine u_iload_n X hl dJ6_bitCount_0f7a4_0 0 rfl ?_
  refine u_iload_n X hl dJ6_bitCount_0f7a4_1 0 rfl ?_
  refine u_iconst (v := 1) X dJ6_bitCount_0f7a4_2 rfl ?_
  refine u_iushr X dJ6_bitCount_0f7a4_3 ?_
  refine u_ldcw X dJ6_bitCount_0f7a4_4 kw_J6_265 ?_
  refine u_iand X dJ6_bitCount_0f7a4_7 ?_
  refine u_isub X dJ6_bitCount_0f7a4_8 ?_
  refine u_istore_n [(0, .int (a0 - ((iush a0 1) &&& 1431655765)))] X hl dJ6_bitCount_0f7a4_9 (Nat.le_of_ble_eq_true rfl) rfl (fun ls hl => ?_)
  refine u_iload_n X hl dJ6_bitCount_0f7a4_10 0 rfl ?_
  refine u_ldcw X dJ6_bitCount_0f7a4_11 kw_J6_266 ?_
  refine u_iand X dJ6_bitCount_0f7a4_14 ?_
  refine u_iload_n X hl dJ6_bitCount_0f7a4_15 0 rfl ?_
  refine u_iconst (v := 2) X dJ6_bitCount_0f7a4_16 rfl ?_
  refine u_iushr X dJ6_bitCount_0f7a4_17 ?_
  refine u_ldcw X dJ6_bitCount_0f7a4_18 kw_J6_266 ?_
  refine u_iand X dJ6_bitCount_0f7a4_21 ?_
  refine u_iadd X dJ6_bitCount_0f7a4_22 ?_
  refine u_istore_n [(0, .int (((a0 - ((iush a0 1) &&& 1431655765)) &&& 858993459) + ((iush (a0 - ((iush a0 1) &&& 1431655765)) 2) &&& 858993459)))] X hl dJ6_bitCount_0f7a4_23 (Nat.le_of_ble_eq_true rfl) rfl (fun ls hl => ?_)
  refine u_iload_n X hl dJ6_bitCount_0f7a4_24 0 rfl ?_
  refine u_iload_n X hl dJ6_bitCount_0f7a4_25 0 rfl ?_
  refine u_iconst (v := 4) X dJ6_bitCount_0f7a4_26 rfl ?_
  refine u_iushr X dJ6_bitCount_0f7a4_27 ?_
  refine u_iadd X dJ6_bitCount_0f7a4_28 ?_
  refine u_ldcw X dJ6_bitCount_0f7a4_29 kw_J6_267 ?_
  refine u_iand X dJ6_bitCount_0f7a4_32 ?_
  refine u_istore_n [(0, .int (((((a0 - ((iush a0 1) &&& 1431655765)) &&& 858993459) + ((iush (a0 - ((iush a0 1) &&& 1431655765)) 2) &&& 858993459)) + (iush (((a0 - ((iush a0 1) &&& 1431655765)) &&& 858993459) + ((iush (a0 - ((iush a0 1) &&& 1431655765)) 2) &&& 858993459)) 4)) &&& 252645135))] X hl dJ6_bitCount_0f7a4_33 (Nat.le_of_ble_eq_true rfl) rfl (fun ls hl => ?_)
  refine u_iload_n X hl dJ6_bitCount_0f7a4_34 0 rfl ?_
  refine u_iload_n X hl dJ6_bitCount_0f7a4_35 0 rfl ?_
  refine u_bipush (v := 8) X dJ6_bitCount_0f7a4_36 rfl ?_
  refine u_iushr X dJ6_bitCount_0f7a4_38 ?_
  refine u_iadd X dJ6_bitCount_0f7a4_39 ?_
  refine u_istore_n [(0, .int ((((((a0 - ((iush a0 1) &&& 1431655765)) &&& 858993459) + ((iush (a0 - ((iush a0 1) &&& 1431655765)) 2) &&& 858993459)) + (iush (((a0 - ((iush a0 1) &&& 1431655765)) &&& 858993459) + ((iush (a0 - ((iush a0 1) &&& 1431655765)) 2) &&& 858993459)) 4)) &&& 252645135) + (iush (((((a0 - ((iush a0 1) &&& 1431655765)) &&& 858993459) + ((iush (a0 - ((iush a0 1) &&& 1431655765)) 2) &&& 858993459)) + (iush (((a0 - ((iush a0 1) &&& 1431655765)) &&& 858993459) + ((iush (a0 - ((iush a0 1) &&& 1431655765)) 2) &&& 858993459)) 4)) &&& 252645135) 8)))] X hl dJ6_bitCount_0f7a4_40 (Nat.le_of_ble_eq_true rfl) rfl (fun ls hl => ?_)
  refine u_iload_n X hl dJ6_bitCount_0f7a4_41 0 rfl ?_
  refine u_iload_n X hl dJ6_bitCount_0f7a4_42 0 rfl ?_
  refine u_bipush (v := 16) X dJ6_bitCount_0f7a4_43 rfl ?_
  refine u_iushr X dJ6_bitCount_0f7a4_45 ?_
  refine u_iadd X dJ6_bitCount_0f7a4_46 ?_
  refine u_istore_n [(0, .int (((((((a0 - ((iush a0 1) &&& 1431655765)) &&& 858993459) + ((iush (a0 - ((iush a0 1) &&& 1431655765)) 2) &&& 858993459)) + (iush (((a0 - ((iush a0 1) &&& 1431655765)) &&& 858993459) + ((iush (a0 - ((iush a0 1) &&& 1431655765)) 2) &&& 858993459)) 4)) &&& 252645135) + (iush (((((a0 - ((iush a0 1) &&& 1431655765)) &&& 858993459) + ((iush (a0 - ((iush a0 1) &&& 1431655765)) 2) &&& 858993459)) + (iush (((a0 - ((iush a0 1) &&& 1431655765)) &&& 858993459) + ((iush (a0 - ((iush a0 1) &&& 1431655765)) 2) &&& 858993459)) 4)) &&& 252645135) 8)) + (iush ((((((a0 - ((iush a0 1) &&& 1431655765)) &&& 858993459) + ((iush (a0 - ((iush a0 1) &&& 1431655765)) 2) &&& 858993459)) + (iush (((a0 - ((iush a0 1) &&& 1431655765)) &&& 858993459) + ((iush (a0 - ((iush a0 1) &&& 1431655765)) 2) &&& 858993459)) 4)) &&& 252645135) + (iush (((((a0 - ((iush a0 1) &&& 1431655765)) &&& 858993459) + ((iush (a0 - ((iush a0 1) &&& 1431655765)) 2) &&& 858993459)) + (iush (((a0 - ((iush a0 1) &&& 1431655765)) &&& 858993459) + ((iush (a0 - ((iush a0 1) &&& 1431655765)) 2) &&& 858993459)) 4)) &&& 252645135) 8)) 16)))] X hl dJ6_bitCount_0f7a4_47 (Nat.le_of_ble_eq_true rfl) rfl (fun ls hl => ?_)
  refine u_iload_n X hl dJ6_bitCount_0f7a4_48 0 rfl ?_
  refine u_bipush (v := 63) X dJ6_bitCount_0f7a4_49 rfl ?_
  refine u_iand X dJ6_bitCount_0f7a4_51 ?_
  exact u_iretT X hr hret h hP hS dJ6_bitCount_0f7a4_52
def fHouse_lossOf_L4 (z : MS) (l1 : Int32) : Nat → Int32 → Int32 → Option Int32
  | 0, _, _ => none
  | n + 1, l2, l3 => if 10 ≤ l3 then some l2 else Option.bind (fHouse_pairOn z l3) (fun w12 => if w12 = l1 then (if l3 < 0 ∨ 10 ≤ l3.toNatClampNeg then none else fHouse_lossOf_L4 z l1 n (l2 + (gI z 7 l3.toNatClampNeg)) (l3 + 1)) else fHouse_lossOf_L4 z l1 n l2 (l3 + 1))
def fHouse_lossOf (z : MS) (a0 : Int32) : Option Int32 :=
  fHouse_lossOf_L4 z a0 LF 0 0
set_option maxRecDepth 4000 in
theorem cHouse_lossOf (l : Launch) {z : MS} {a0 : Int32} {r : Int32} (h : fHouse_lossOf z a0 = some r) : CT l yX2_lossOf cX2_lossOf 4 (some .int) 2 44 (fun ad sd => [.ref (ad 1), .int a0]) z (some (.int r)) z := by
  rw [fHouse_lossOf] at h
  refine u_start RX2 rfl (by decide) (fun _ _ => Nat.le_of_ble_eq_true rfl) (fun p e s m args below meth c R D ad cs sd A Q ls X hP hS hl hr hret => ?_)
  have hl : lv_has ls 4 [(0, .ref (ad 1)), (1, .int a0)] := hl
  refine u_iconst (v := 0) X dX2_lossOf_0 rfl ?_
  refine u_istore_n [(2, .int 0), (0, .ref (ad 1)), (1, .int a0)] X hl dX2_lossOf_1 (Nat.le_of_ble_eq_true rfl) rfl (fun ls hl => ?_)
  refine u_iconst (v := 0) X dX2_lossOf_2 rfl ?_
  refine u_istore_n [(3, .int 0), (2, .int 0), (0, .ref (ad 1)), (1, .int a0)] X hl dX2_lossOf_3 (Nat.le_of_ble_eq_true rfl) rfl (fun ls hl => ?_)
  have L4 : ∀ (n : Nat) (H : Heap) (locs : List Loc) (ls : Array Slot) (l2_4 : Int32) (l3_4 : Int32), lv_has ls 4 [(0, .ref (ad 1)), (1, .int a0), (2, .int l2_4), (3, .int l3_4)] → va_P D clss (wld cs ad z) H → va_S A s.heap H locs → fHouse_lossOf_L4 z a0 n l2_4 l3_4 = some r → W p l e R s m args below meth c H locs 0 0 Q (F0 m 4 ls []) := by
    intro n
    induction n with
    | zero =>
      intro H locs ls l2_4 l3_4 hl hP hS h
      rw [fHouse_lossOf_L4] at h
      cases h
    | succ n4 ih4 =>
      intro H locs ls l2_4 l3_4 hl hP hS h
      rw [fHouse_lossOf_L4] at h
      refine u_iload_n X hl dX2_lossOf_4 3 rfl ?_
      refine u_bipush (v := 10) X dX2_lossOf_5 rfl ?_
      refine u_icmp_ge 34 X dX2_lossOf_7 rfl (fun hc => ?_) (fun hc => ?_)
      · rw [if_pos hc] at h
        refine u_iload_n X hl dX2_lossOf_34 2 rfl ?_
        exact u_iretP X hr hret h hP hS dX2_lossOf_35
      · rw [if_neg hc] at h
        refine u_aload_n X hl dX2_lossOf_10 0 rfl ?_
        refine u_iload_n X hl dX2_lossOf_11 3 rfl ?_
        obtain ⟨w12, hc12, h⟩ := ob_inv h
        refine u_callVi X hP hS hl dX2_lossOf_12 (cHouse_pairOn l hc12) cw_X2_70 io_1 rfl rfl rfl rfl ⟨rfl, rfl⟩ (fun H locs hP hS => ?_)
        refine u_iload_n X hl dX2_lossOf_15 1 rfl ?_
        refine u_icmp_ne 28 X dX2_lossOf_16 rfl (fun hc => ?_) (fun hc => ?_)
        · rw [if_neg hc] at h
          refine u_iinc [(3, .int (l3_4 + 1)), (0, .ref (ad 1)), (1, .int a0), (2, .int l2_4)] X hl dX2_lossOf_28 3 rfl rfl (Nat.le_of_ble_eq_true rfl) rfl (fun ls hl => ?_)
          refine u_goto 4 X dX2_lossOf_31 rfl ?_
          exact ih4 _ _ _ _ _ (lv_sub hl [1, 2, 3, 0] rfl) hP hS h
        · rw [if_pos hc] at h
          refine u_iload_n X hl dX2_lossOf_19 2 rfl ?_
          refine u_aload_n X hl dX2_lossOf_20 0 rfl ?_
          refine gf_X2_34_1 X hP dX2_lossOf_21 ?_
          refine u_iload_n X hl dX2_lossOf_24 3 rfl ?_
          obtain ⟨hin, h⟩ := ifn_inv h
          refine ld_7 X hP rfl hin dX2_lossOf_25 ?_
          refine u_iadd X dX2_lossOf_26 ?_
          refine u_istore_n [(2, .int (l2_4 + (gI z 7 l3_4.toNatClampNeg))), (0, .ref (ad 1)), (1, .int a0), (3, .int l3_4)] X hl dX2_lossOf_27 (Nat.le_of_ble_eq_true rfl) rfl (fun ls hl => ?_)
          refine u_iinc [(3, .int (l3_4 + 1)), (2, .int (l2_4 + (gI z 7 l3_4.toNatClampNeg))), (0, .ref (ad 1)), (1, .int a0)] X hl dX2_lossOf_28 3 rfl rfl (Nat.le_of_ble_eq_true rfl) rfl (fun ls hl => ?_)
          refine u_goto 4 X dX2_lossOf_31 rfl ?_
          exact ih4 _ _ _ _ _ (lv_sub hl [2, 3, 1, 0] rfl) hP hS h
  exact L4 LF _ _ _ _ _ (lv_sub hl [2, 3, 1, 0] rfl) hP hS h
def fHouse_pairOfMostLoss_L19 (z : MS) (K6 : Int32 → Int32 → Int32 → Option Int32) (l3 : Int32) : Nat → Int32 → Int32 → Int32 → Option Int32
  | 0, _, _, _ => none
  | n + 1, l1, l2, l4 => if (gI z 1 0) ≤ l4 then K6 l1 l2 (l3 + 1) else Option.bind (fHouse_lossOf z (fHouse_pairOf l3 l4)) (fun w35 => if w35 ≤ l1 then fHouse_pairOfMostLoss_L19 z K6 l3 n l1 l2 (l4 + 1) else fHouse_pairOfMostLoss_L19 z K6 l3 n w35 (fHouse_pairOf l3 l4) (l4 + 1))
def fHouse_pairOfMostLoss_L6 (z : MS) : Nat → Int32 → Int32 → Int32 → Option Int32
  | 0, _, _, _ => none
  | n + 1, l1, l2, l3 => if (gI z 1 0) ≤ l3 then some l2 else fHouse_pairOfMostLoss_L19 z (fHouse_pairOfMostLoss_L6 z n) l3 LF l1 l2 (l3 + 1)
def fHouse_pairOfMostLoss (z : MS) : Option Int32 :=
  fHouse_pairOfMostLoss_L6 z LF (-1) 0 0
set_option maxRecDepth 4000 in
theorem cHouse_pairOfMostLoss (l : Launch) {z : MS} {r : Int32} (h : fHouse_pairOfMostLoss z = some r) : CT l yX2_pairOfMostLoss cX2_pairOfMostLoss 6 (some .int) 3 67 (fun ad sd => [.ref (ad 1)]) z (some (.int r)) z := by
  rw [fHouse_pairOfMostLoss] at h
  refine u_start RX2 rfl (by decide) (fun _ _ => Nat.le_of_ble_eq_true rfl) (fun p e s m args below meth c R D ad cs sd A Q ls X hP hS hl hr hret => ?_)
  have hl : lv_has ls 6 [(0, .ref (ad 1))] := hl
  refine u_iconst (v := (-1)) X dX2_pairOfMostLoss_0 rfl ?_
  refine u_istore_n [(1, .int (-1)), (0, .ref (ad 1))] X hl dX2_pairOfMostLoss_1 (Nat.le_of_ble_eq_true rfl) rfl (fun ls hl => ?_)
  refine u_iconst (v := 0) X dX2_pairOfMostLoss_2 rfl ?_
  refine u_istore_n [(2, .int 0), (1, .int (-1)), (0, .ref (ad 1))] X hl dX2_pairOfMostLoss_3 (Nat.le_of_ble_eq_true rfl) rfl (fun ls hl => ?_)
  refine u_iconst (v := 0) X dX2_pairOfMostLoss_4 rfl ?_
  refine u_istore_n [(3, .int 0), (2, .int 0), (1, .int (-1)), (0, .ref (ad 1))] X hl dX2_pairOfMostLoss_5 (Nat.le_of_ble_eq_true rfl) rfl (fun ls hl => ?_)
  have L6 : ∀ (n : Nat) (H : Heap) (locs : List Loc) (ls : Array Slot) (l1_6 : Int32) (l2_6 : Int32) (l3_6 : Int32), lv_has ls 6 [(0, .ref (ad 1)), (1, .int l1_6), (2, .int l2_6), (3, .int l3_6)] → va_P D clss (wld cs ad z) H → va_S A s.heap H locs → fHouse_pairOfMostLoss_L6 z n l1_6 l2_6 l3_6 = some r → W p l e R s m args below meth c H locs 0 0 Q (F0 m 6 ls []) := by
    intro n
    induction n with
    | zero =>
      intro H locs ls l1_6 l2_6 l3_6 hl hP hS h
      rw [fHouse_pairOfMostLoss_L6] at h
      cases h
    | succ n6 ih6 =>
      intro H locs ls l1_6 l2_6 l3_6 hl hP hS h
      rw [fHouse_pairOfMostLoss_L6] at h
      refine u_iload_n X hl dX2_pairOfMostLoss_6 3 rfl ?_
      refine u_aload_n X hl dX2_pairOfMostLoss_7 0 rfl ?_
      refine gf_X2_9_1 X hP dX2_pairOfMostLoss_8 ?_
      refine u_icmp_ge 68 X dX2_pairOfMostLoss_11 rfl (fun hc => ?_) (fun hc => ?_)
      · rw [if_pos hc] at h
        refine u_iload_n X hl dX2_pairOfMostLoss_68 2 rfl ?_
        exact u_iretP X hr hret h hP hS dX2_pairOfMostLoss_69
      · rw [if_neg hc] at h
        refine u_iload_n X hl dX2_pairOfMostLoss_14 3 rfl ?_
        refine u_iconst (v := 1) X dX2_pairOfMostLoss_15 rfl ?_
        refine u_iadd X dX2_pairOfMostLoss_16 ?_
        refine u_istore [(4, .int (l3_6 + 1)), (0, .ref (ad 1)), (1, .int l1_6), (2, .int l2_6), (3, .int l3_6)] X hl dX2_pairOfMostLoss_17 (Nat.le_of_ble_eq_true rfl) rfl (fun ls hl => ?_)
        have L19 : ∀ (n : Nat) (H : Heap) (locs : List Loc) (ls : Array Slot) (l1_19 : Int32) (l2_19 : Int32) (l4_19 : Int32), lv_has ls 6 [(0, .ref (ad 1)), (1, .int l1_19), (2, .int l2_19), (3, .int l3_6), (4, .int l4_19)] → va_P D clss (wld cs ad z) H → va_S A s.heap H locs → fHouse_pairOfMostLoss_L19 z (fHouse_pairOfMostLoss_L6 z n6) l3_6 n l1_19 l2_19 l4_19 = some r → W p l e R s m args below meth c H locs 0 0 Q (F0 m 19 ls []) := by
          intro n
          induction n with
          | zero =>
            intro H locs ls l1_19 l2_19 l4_19 hl hP hS h
            rw [fHouse_pairOfMostLoss_L19] at h
            cases h
          | succ n19 ih19 =>
            intro H locs ls l1_19 l2_19 l4_19 hl hP hS h
            rw [fHouse_pairOfMostLoss_L19] at h
            refine u_iload X hl dX2_pairOfMostLoss_19 4 rfl ?_
            refine u_aload_n X hl dX2_pairOfMostLoss_21 0 rfl ?_
            refine gf_X2_9_1 X hP dX2_pairOfMostLoss_22 ?_
            refine u_icmp_ge 62 X dX2_pairOfMostLoss_25 rfl (fun hc => ?_) (fun hc => ?_)
            · rw [if_pos hc] at h
              refine u_iinc [(3, .int (l3_6 + 1)), (0, .ref (ad 1)), (1, .int l1_19), (2, .int l2_19), (4, .int l4_19)] X hl dX2_pairOfMostLoss_62 3 rfl rfl (Nat.le_of_ble_eq_true rfl) rfl (fun ls hl => ?_)
              refine u_goto 6 X dX2_pairOfMostLoss_65 rfl ?_
              exact ih6 _ _ _ _ _ _ (lv_sub hl [1, 2, 3, 0] rfl) hP hS h
            · rw [if_neg hc] at h
              refine u_aload_n X hl dX2_pairOfMostLoss_28 0 rfl ?_
              refine u_iload_n X hl dX2_pairOfMostLoss_29 3 rfl ?_
              refine u_iload X hl dX2_pairOfMostLoss_30 4 rfl ?_
              refine u_callSi X hP hS hl dX2_pairOfMostLoss_32 (cHouse_pairOf l z l3_6 l4_19) cw_X2_66 rfl rfl rfl rfl ⟨rfl, rfl⟩ (fun H locs hP hS => ?_)
              obtain ⟨w35, hc35, h⟩ := ob_inv h
              refine u_callVi X hP hS hl dX2_pairOfMostLoss_35 (cHouse_lossOf l hc35) cw_X2_77 io_1 rfl rfl rfl rfl ⟨rfl, rfl⟩ (fun H locs hP hS => ?_)
              refine u_istore [(5, .int w35), (0, .ref (ad 1)), (1, .int l1_19), (2, .int l2_19), (3, .int l3_6), (4, .int l4_19)] X hl dX2_pairOfMostLoss_38 (Nat.le_of_ble_eq_true rfl) rfl (fun ls hl => ?_)
              refine u_iload X hl dX2_pairOfMostLoss_40 0 rfl ?_
              refine u_iload_n X hl dX2_pairOfMostLoss_42 2 rfl ?_
              refine u_icmp_le 56 X dX2_pairOfMostLoss_43 rfl (fun hc => ?_) (fun hc => ?_)
              · rw [if_pos hc] at h
                refine u_iinc [(4, .int (l4_19 + 1)), (5, .int w35), (0, .ref (ad 1)), (1, .int l1_19), (2, .int l2_19), (3, .int l3_6)] X hl dX2_pairOfMostLoss_56 5 rfl rfl (Nat.le_of_ble_eq_true rfl) rfl (fun ls hl => ?_)
                refine u_goto 19 X dX2_pairOfMostLoss_59 rfl ?_
                exact ih19 _ _ _ _ _ _ (lv_sub hl [2, 3, 4, 5, 0] rfl) hP hS h
              · rw [if_neg hc] at h
                refine u_iload X hl dX2_pairOfMostLoss_46 0 rfl ?_
                refine u_istore_n [(1, .int w35), (5, .int w35), (0, .ref (ad 1)), (2, .int l2_19), (3, .int l3_6), (4, .int l4_19)] X hl dX2_pairOfMostLoss_48 (Nat.le_of_ble_eq_true rfl) rfl (fun ls hl => ?_)
                refine u_iload_n X hl dX2_pairOfMostLoss_49 4 rfl ?_
                refine u_iload X hl dX2_pairOfMostLoss_50 5 rfl ?_
                refine u_callSi X hP hS hl dX2_pairOfMostLoss_52 (cHouse_pairOf l z l3_6 l4_19) cw_X2_66 rfl rfl rfl rfl ⟨rfl, rfl⟩ (fun H locs hP hS => ?_)
                refine u_istore_n [(2, .int (fHouse_pairOf l3_6 l4_19)), (1, .int w35), (5, .int w35), (0, .ref (ad 1)), (3, .int l3_6), (4, .int l4_19)] X hl dX2_pairOfMostLoss_55 (Nat.le_of_ble_eq_true rfl) rfl (fun ls hl => ?_)
                refine u_iinc [(4, .int (l4_19 + 1)), (2, .int (fHouse_pairOf l3_6 l4_19)), (1, .int w35), (5, .int w35), (0, .ref (ad 1)), (3, .int l3_6)] X hl dX2_pairOfMostLoss_56 5 rfl rfl (Nat.le_of_ble_eq_true rfl) rfl (fun ls hl => ?_)
                refine u_goto 19 X dX2_pairOfMostLoss_59 rfl ?_
                exact ih19 _ _ _ _ _ _ (lv_sub hl [4, 2, 1, 5, 0] rfl) hP hS h
        exact L19 LF _ _ _ _ _ _ (lv_sub hl [1, 2, 3, 4, 0] rfl) hP hS h
  exact L6 LF _ _ _ _ _ _ (lv_sub hl [3, 2, 1, 0] rfl) hP hS h
def fHouse45_become_1 (z : MS) : Option MS :=
  some (cI (cI (cI (cI (cI (cI (pI (pI z 45 0 (gI z 1 0)) 45 1 (gI (pI z 45 0 (gI z 1 0)) 1 1)) 46 2 8) 47 3 8) 48 4 64) 49 5 8) 50 6 40) 51 7 10)
set_option maxRecDepth 4000 in
theorem cHouse45_become_1 (l : Launch) {z : MS} {z1 : MS} (h : fHouse45_become_1 z = some z1) : CT l yX2_become cX2_become 2 none 1 26 (fun ad sd => [.ref (ad 45), .ref (ad 1)]) z none z1 := by
  rw [fHouse45_become_1] at h
  refine u_start RX2 rfl (by decide) (fun _ _ => Nat.le_of_ble_eq_true rfl) (fun p e s m args below meth c R D ad cs sd A Q ls X hP hS hl hr hret => ?_)
  have hl : lv_has ls 2 [(0, .ref (ad 45)), (1, .ref (ad 1))] := hl
  refine u_aload_n X hl dX2_become_0 0 rfl ?_
  refine u_aload_n X hl dX2_become_1 1 rfl ?_
  refine gf_X2_9_1 X hP dX2_become_2 ?_
  refine pf_X2_9_45 X hP hS dX2_become_5 (fun H locs hP hS => ?_)
  refine u_aload_n X hl dX2_become_8 0 rfl ?_
  refine u_aload_n X hl dX2_become_9 1 rfl ?_
  refine gf_X2_15_1 X hP dX2_become_10 ?_
  refine pf_X2_15_45 X hP hS dX2_become_13 (fun H locs hP hS => ?_)
  refine u_aload_n X hl dX2_become_16 1 rfl ?_
  refine gf_X2_18_1 X hP dX2_become_17 ?_
  refine u_iconst (v := 0) X dX2_become_20 rfl ?_
  refine u_aload_n X hl dX2_become_21 0 rfl ?_
  refine gf_X2_18_45 X hP dX2_become_22 ?_
  refine u_iconst (v := 0) X dX2_become_25 rfl ?_
  refine u_bipush (v := 8) X dX2_become_26 rfl ?_
  refine cp_X2_40 (i0 := 2) (i1 := 46) (cI (pI (pI z 45 0 (gI z 1 0)) 45 1 (gI (pI z 45 0 (gI z 1 0)) 1 1)) 46 2 8) X hP hS hl dX2_become_28 rfl rfl (by decide) rfl rfl rfl (ax_46 _ _ _ _) rfl ⟨rfl, rfl⟩ (fun H locs hP hS => ?_)
  refine u_aload_n X hl dX2_become_31 1 rfl ?_
  refine gf_X2_22_1 X hP dX2_become_32 ?_
  refine u_iconst (v := 0) X dX2_become_35 rfl ?_
  refine u_aload_n X hl dX2_become_36 0 rfl ?_
  refine gf_X2_22_45 X hP dX2_become_37 ?_
  refine u_iconst (v := 0) X dX2_become_40 rfl ?_
  refine u_bipush (v := 8) X dX2_become_41 rfl ?_
  refine cp_X2_40 (i0 := 3) (i1 := 47) (cI (cI (pI (pI z 45 0 (gI z 1 0)) 45 1 (gI (pI z 45 0 (gI z 1 0)) 1 1)) 46 2 8) 47 3 8) X hP hS hl dX2_become_43 rfl rfl (by decide) rfl rfl rfl (ax_47 _ _ _ _) rfl ⟨rfl, rfl⟩ (fun H locs hP hS => ?_)
  refine u_aload_n X hl dX2_become_46 1 rfl ?_
  refine gf_X2_25_1 X hP dX2_become_47 ?_
  refine u_iconst (v := 0) X dX2_become_50 rfl ?_
  refine u_aload_n X hl dX2_become_51 0 rfl ?_
  refine gf_X2_25_45 X hP dX2_become_52 ?_
  refine u_iconst (v := 0) X dX2_become_55 rfl ?_
  refine u_bipush (v := 64) X dX2_become_56 rfl ?_
  refine cp_X2_40 (i0 := 4) (i1 := 48) (cI (cI (cI (pI (pI z 45 0 (gI z 1 0)) 45 1 (gI (pI z 45 0 (gI z 1 0)) 1 1)) 46 2 8) 47 3 8) 48 4 64) X hP hS hl dX2_become_58 rfl rfl (by decide) rfl rfl rfl (ax_48 _ _ _ _) rfl ⟨rfl, rfl⟩ (fun H locs hP hS => ?_)
  refine u_aload_n X hl dX2_become_61 1 rfl ?_
  refine gf_X2_28_1 X hP dX2_become_62 ?_
  refine u_iconst (v := 0) X dX2_become_65 rfl ?_
  refine u_aload_n X hl dX2_become_66 0 rfl ?_
  refine gf_X2_28_45 X hP dX2_become_67 ?_
  refine u_iconst (v := 0) X dX2_become_70 rfl ?_
  refine u_bipush (v := 8) X dX2_become_71 rfl ?_
  refine cp_X2_40 (i0 := 5) (i1 := 49) (cI (cI (cI (cI (pI (pI z 45 0 (gI z 1 0)) 45 1 (gI (pI z 45 0 (gI z 1 0)) 1 1)) 46 2 8) 47 3 8) 48 4 64) 49 5 8) X hP hS hl dX2_become_73 rfl rfl (by decide) rfl rfl rfl (ax_49 _ _ _ _) rfl ⟨rfl, rfl⟩ (fun H locs hP hS => ?_)
  refine u_aload_n X hl dX2_become_76 1 rfl ?_
  refine gf_X2_31_1 X hP dX2_become_77 ?_
  refine u_iconst (v := 0) X dX2_become_80 rfl ?_
  refine u_aload_n X hl dX2_become_81 0 rfl ?_
  refine gf_X2_31_45 X hP dX2_become_82 ?_
  refine u_iconst (v := 0) X dX2_become_85 rfl ?_
  refine u_bipush (v := 40) X dX2_become_86 rfl ?_
  refine cp_X2_40 (i0 := 6) (i1 := 50) (cI (cI (cI (cI (cI (pI (pI z 45 0 (gI z 1 0)) 45 1 (gI (pI z 45 0 (gI z 1 0)) 1 1)) 46 2 8) 47 3 8) 48 4 64) 49 5 8) 50 6 40) X hP hS hl dX2_become_88 rfl rfl (by decide) rfl rfl rfl (ax_50 _ _ _ _) rfl ⟨rfl, rfl⟩ (fun H locs hP hS => ?_)
  refine u_aload_n X hl dX2_become_91 1 rfl ?_
  refine gf_X2_34_1 X hP dX2_become_92 ?_
  refine u_iconst (v := 0) X dX2_become_95 rfl ?_
  refine u_aload_n X hl dX2_become_96 0 rfl ?_
  refine gf_X2_34_45 X hP dX2_become_97 ?_
  refine u_iconst (v := 0) X dX2_become_100 rfl ?_
  refine u_bipush (v := 10) X dX2_become_101 rfl ?_
  refine cp_X2_40 (i0 := 7) (i1 := 51) (cI (cI (cI (cI (cI (cI (pI (pI z 45 0 (gI z 1 0)) 45 1 (gI (pI z 45 0 (gI z 1 0)) 1 1)) 46 2 8) 47 3 8) 48 4 64) 49 5 8) 50 6 40) 51 7 10) X hP hS hl dX2_become_103 rfl rfl (by decide) rfl rfl rfl (ax_51 _ _ _ _) rfl ⟨rfl, rfl⟩ (fun H locs hP hS => ?_)
  exact u_vretM X hr hret h hP hS dX2_become_106
def fHouse_become_45 (z : MS) : Option MS :=
  some (cI (cI (cI (cI (cI (cI (pI (pI z 1 0 (gI z 45 0)) 1 1 (gI (pI z 1 0 (gI z 45 0)) 45 1)) 2 46 8) 3 47 8) 4 48 64) 5 49 8) 6 50 40) 7 51 10)
set_option maxRecDepth 4000 in
theorem cHouse_become_45 (l : Launch) {z : MS} {z1 : MS} (h : fHouse_become_45 z = some z1) : CT l yX2_become cX2_become 2 none 1 26 (fun ad sd => [.ref (ad 1), .ref (ad 45)]) z none z1 := by
  rw [fHouse_become_45] at h
  refine u_start RX2 rfl (by decide) (fun _ _ => Nat.le_of_ble_eq_true rfl) (fun p e s m args below meth c R D ad cs sd A Q ls X hP hS hl hr hret => ?_)
  have hl : lv_has ls 2 [(0, .ref (ad 1)), (1, .ref (ad 45))] := hl
  refine u_aload_n X hl dX2_become_0 0 rfl ?_
  refine u_aload_n X hl dX2_become_1 1 rfl ?_
  refine gf_X2_9_45 X hP dX2_become_2 ?_
  refine pf_X2_9_1 X hP hS dX2_become_5 (fun H locs hP hS => ?_)
  refine u_aload_n X hl dX2_become_8 0 rfl ?_
  refine u_aload_n X hl dX2_become_9 1 rfl ?_
  refine gf_X2_15_45 X hP dX2_become_10 ?_
  refine pf_X2_15_1 X hP hS dX2_become_13 (fun H locs hP hS => ?_)
  refine u_aload_n X hl dX2_become_16 1 rfl ?_
  refine gf_X2_18_45 X hP dX2_become_17 ?_
  refine u_iconst (v := 0) X dX2_become_20 rfl ?_
  refine u_aload_n X hl dX2_become_21 0 rfl ?_
  refine gf_X2_18_1 X hP dX2_become_22 ?_
  refine u_iconst (v := 0) X dX2_become_25 rfl ?_
  refine u_bipush (v := 8) X dX2_become_26 rfl ?_
  refine cp_X2_40 (i0 := 46) (i1 := 2) (cI (pI (pI z 1 0 (gI z 45 0)) 1 1 (gI (pI z 1 0 (gI z 45 0)) 45 1)) 2 46 8) X hP hS hl dX2_become_28 rfl rfl (by decide) rfl rfl rfl (ax_2 _ _ _ _) rfl ⟨rfl, rfl⟩ (fun H locs hP hS => ?_)
  refine u_aload_n X hl dX2_become_31 1 rfl ?_
  refine gf_X2_22_45 X hP dX2_become_32 ?_
  refine u_iconst (v := 0) X dX2_become_35 rfl ?_
  refine u_aload_n X hl dX2_become_36 0 rfl ?_
  refine gf_X2_22_1 X hP dX2_become_37 ?_
  refine u_iconst (v := 0) X dX2_become_40 rfl ?_
  refine u_bipush (v := 8) X dX2_become_41 rfl ?_
  refine cp_X2_40 (i0 := 47) (i1 := 3) (cI (cI (pI (pI z 1 0 (gI z 45 0)) 1 1 (gI (pI z 1 0 (gI z 45 0)) 45 1)) 2 46 8) 3 47 8) X hP hS hl dX2_become_43 rfl rfl (by decide) rfl rfl rfl (ax_3 _ _ _ _) rfl ⟨rfl, rfl⟩ (fun H locs hP hS => ?_)
  refine u_aload_n X hl dX2_become_46 1 rfl ?_
  refine gf_X2_25_45 X hP dX2_become_47 ?_
  refine u_iconst (v := 0) X dX2_become_50 rfl ?_
  refine u_aload_n X hl dX2_become_51 0 rfl ?_
  refine gf_X2_25_1 X hP dX2_become_52 ?_
  refine u_iconst (v := 0) X dX2_become_55 rfl ?_
  refine u_bipush (v := 64) X dX2_become_56 rfl ?_
  refine cp_X2_40 (i0 := 48) (i1 := 4) (cI (cI (cI (pI (pI z 1 0 (gI z 45 0)) 1 1 (gI (pI z 1 0 (gI z 45 0)) 45 1)) 2 46 8) 3 47 8) 4 48 64) X hP hS hl dX2_become_58 rfl rfl (by decide) rfl rfl rfl (ax_4 _ _ _ _) rfl ⟨rfl, rfl⟩ (fun H locs hP hS => ?_)
  refine u_aload_n X hl dX2_become_61 1 rfl ?_
  refine gf_X2_28_45 X hP dX2_become_62 ?_
  refine u_iconst (v := 0) X dX2_become_65 rfl ?_
  refine u_aload_n X hl dX2_become_66 0 rfl ?_
  refine gf_X2_28_1 X hP dX2_become_67 ?_
  refine u_iconst (v := 0) X dX2_become_70 rfl ?_
  refine u_bipush (v := 8) X dX2_become_71 rfl ?_
  refine cp_X2_40 (i0 := 49) (i1 := 5) (cI (cI (cI (cI (pI (pI z 1 0 (gI z 45 0)) 1 1 (gI (pI z 1 0 (gI z 45 0)) 45 1)) 2 46 8) 3 47 8) 4 48 64) 5 49 8) X hP hS hl dX2_become_73 rfl rfl (by decide) rfl rfl rfl (ax_5 _ _ _ _) rfl ⟨rfl, rfl⟩ (fun H locs hP hS => ?_)
  refine u_aload_n X hl dX2_become_76 1 rfl ?_
  refine gf_X2_31_45 X hP dX2_become_77 ?_
  refine u_iconst (v := 0) X dX2_become_80 rfl ?_
  refine u_aload_n X hl dX2_become_81 0 rfl ?_
  refine gf_X2_31_1 X hP dX2_become_82 ?_
  refine u_iconst (v := 0) X dX2_become_85 rfl ?_
  refine u_bipush (v := 40) X dX2_become_86 rfl ?_
  refine cp_X2_40 (i0 := 50) (i1 := 6) (cI (cI (cI (cI (cI (pI (pI z 1 0 (gI z 45 0)) 1 1 (gI (pI z 1 0 (gI z 45 0)) 45 1)) 2 46 8) 3 47 8) 4 48 64) 5 49 8) 6 50 40) X hP hS hl dX2_become_88 rfl rfl (by decide) rfl rfl rfl (ax_6 _ _ _ _) rfl ⟨rfl, rfl⟩ (fun H locs hP hS => ?_)
  refine u_aload_n X hl dX2_become_91 1 rfl ?_
  refine gf_X2_34_45 X hP dX2_become_92 ?_
  refine u_iconst (v := 0) X dX2_become_95 rfl ?_
  refine u_aload_n X hl dX2_become_96 0 rfl ?_
  refine gf_X2_34_1 X hP dX2_become_97 ?_
  refine u_iconst (v := 0) X dX2_become_100 rfl ?_
  refine u_bipush (v := 10) X dX2_become_101 rfl ?_
  refine cp_X2_40 (i0 := 51) (i1 := 7) (cI (cI (cI (cI (cI (cI (pI (pI z 1 0 (gI z 45 0)) 1 1 (gI (pI z 1 0 (gI z 45 0)) 45 1)) 2 46 8) 3 47 8) 4 48 64) 5 49 8) 6 50 40) 7 51 10) X hP hS hl dX2_become_103 rfl rfl (by decide) rfl rfl rfl (ax_7 _ _ _ _) rfl ⟨rfl, rfl⟩ (fun H locs hP hS => ?_)
  exact u_vretM X hr hret h hP hS dX2_become_106
