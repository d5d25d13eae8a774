theorem dX7_init_0 : decode cX7_init 0 = .ok (.aload_n 0, 1) := by decide +kernel
theorem dX7_init_1 : decode cX7_init 1 = .ok (.invokespecial 3, 3) := by decide +kernel
theorem dX7_init_4 : decode cX7_init 4 = .ok (.aload_n 0, 1) := by decide +kernel
theorem dX7_init_5 : decode cX7_init 5 = .ok (.aload_n 1, 1) := by decide +kernel
theorem dX7_init_6 : decode cX7_init 6 = .ok (.putfield 9, 3) := by decide +kernel
theorem dX7_init_9 : decode cX7_init 9 = .ok (.aload_n 0, 1) := by decide +kernel
theorem dX7_init_10 : decode cX7_init 10 = .ok (.aload_n 2, 1) := by decide +kernel
theorem dX7_init_11 : decode cX7_init 11 = .ok (.putfield 15, 3) := by decide +kernel
theorem dX7_init_14 : decode cX7_init 14 = .ok (.aload_n 0, 1) := by decide +kernel
theorem dX7_init_15 : decode cX7_init 15 = .ok (.aload_n 3, 1) := by decide +kernel
theorem dX7_init_16 : decode cX7_init 16 = .ok (.putfield 19, 3) := by decide +kernel
theorem dX7_init_19 : decode cX7_init 19 = .ok (.aload_n 0, 1) := by decide +kernel
theorem dX7_init_20 : decode cX7_init 20 = .ok (.iconst 4, 1) := by decide +kernel
theorem dX7_init_21 : decode cX7_init 21 = .ok (.newarray .int, 2) := by decide +kernel
theorem dX7_init_23 : decode cX7_init 23 = .ok (.putfield 23, 3) := by decide +kernel
theorem dX7_init_26 : decode cX7_init 26 = .ok (.aload_n 0, 1) := by decide +kernel
theorem dX7_init_27 : decode cX7_init 27 = .ok (.iconst 4, 1) := by decide +kernel
theorem dX7_init_28 : decode cX7_init 28 = .ok (.newarray .int, 2) := by decide +kernel
theorem dX7_init_30 : decode cX7_init 30 = .ok (.putfield 27, 3) := by decide +kernel
theorem dX7_init_33 : decode cX7_init 33 = .ok (.return_, 1) := by decide +kernel
theorem dX7_readRace_0 : decode cX7_readRace 0 = .ok (.aload_n 0, 1) := by decide +kernel
theorem dX7_readRace_1 : decode cX7_readRace 1 = .ok (.getfield 15, 3) := by decide +kernel
theorem dX7_readRace_4 : decode cX7_readRace 4 = .ok (.invokevirtual 30, 3) := by decide +kernel
theorem dX7_readRace_7 : decode cX7_readRace 7 = .ok (.aload_n 0, 1) := by decide +kernel
theorem dX7_readRace_8 : decode cX7_readRace 8 = .ok (.iconst 0, 1) := by decide +kernel
theorem dX7_readRace_9 : decode cX7_readRace 9 = .ok (.putfield 35, 3) := by decide +kernel
theorem dX7_readRace_12 : decode cX7_readRace 12 = .ok (.aload_n 0, 1) := by decide +kernel
theorem dX7_readRace_13 : decode cX7_readRace 13 = .ok (.iconst 0, 1) := by decide +kernel
theorem dX7_readRace_14 : decode cX7_readRace 14 = .ok (.putfield 39, 3) := by decide +kernel
theorem dX7_readRace_17 : decode cX7_readRace 17 = .ok (.aload_n 0, 1) := by decide +kernel
theorem dX7_readRace_18 : decode cX7_readRace 18 = .ok (.iconst 5, 1) := by decide +kernel
theorem dX7_readRace_19 : decode cX7_readRace 19 = .ok (.putfield 42, 3) := by decide +kernel
theorem dX7_readRace_22 : decode cX7_readRace 22 = .ok (.aload_n 0, 1) := by decide +kernel
theorem dX7_readRace_23 : decode cX7_readRace 23 = .ok (.getfield 9, 3) := by decide +kernel
theorem dX7_readRace_26 : decode cX7_readRace 26 = .ok (.invokevirtual 46, 3) := by decide +kernel
theorem dX7_readRace_29 : decode cX7_readRace 29 = .ok (.iconst 0, 1) := by decide +kernel
theorem dX7_readRace_30 : decode cX7_readRace 30 = .ok (.istore_n 1, 1) := by decide +kernel
theorem dX7_readRace_31 : decode cX7_readRace 31 = .ok (.iload_n 1, 1) := by decide +kernel
theorem dX7_readRace_32 : decode cX7_readRace 32 = .ok (.sipush 700, 3) := by decide +kernel
theorem dX7_readRace_35 : decode cX7_readRace 35 = .ok (.if_icmp .gt 38, 3) := by decide +kernel
theorem dX7_readRace_38 : decode cX7_readRace 38 = .ok (.aload_n 0, 1) := by decide +kernel
theorem dX7_readRace_39 : decode cX7_readRace 39 = .ok (.getfield 9, 3) := by decide +kernel
theorem dX7_readRace_42 : decode cX7_readRace 42 = .ok (.invokevirtual 51, 3) := by decide +kernel
theorem dX7_readRace_45 : decode cX7_readRace 45 = .ok (.aload_n 0, 1) := by decide +kernel
theorem dX7_readRace_46 : decode cX7_readRace 46 = .ok (.getfield 9, 3) := by decide +kernel
theorem dX7_readRace_49 : decode cX7_readRace 49 = .ok (.getfield 54, 3) := by decide +kernel
theorem dX7_readRace_52 : decode cX7_readRace 52 = .ok (.iconst 5, 1) := by decide +kernel
theorem dX7_readRace_53 : decode cX7_readRace 53 = .ok (.if_icmp .ne 5, 3) := by decide +kernel
theorem dX7_readRace_56 : decode cX7_readRace 56 = .ok (.iconst 1, 1) := by decide +kernel
theorem dX7_readRace_57 : decode cX7_readRace 57 = .ok (.ireturn, 1) := by decide +kernel
theorem dX7_readRace_58 : decode cX7_readRace 58 = .ok (.aload_n 0, 1) := by decide +kernel
theorem dX7_readRace_59 : decode cX7_readRace 59 = .ok (.invokevirtual 57, 3) := by decide +kernel
theorem dX7_readRace_62 : decode cX7_readRace 62 = .ok (.ifCond .ne 5, 3) := by decide +kernel
theorem dX7_readRace_65 : decode cX7_readRace 65 = .ok (.iconst 0, 1) := by decide +kernel
theorem dX7_readRace_66 : decode cX7_readRace 66 = .ok (.ireturn, 1) := by decide +kernel
theorem dX7_readRace_67 : decode cX7_readRace 67 = .ok (.iinc 1 1, 3) := by decide +kernel
theorem dX7_readRace_70 : decode cX7_readRace 70 = .ok (.goto (-39), 3) := by decide +kernel
theorem dX7_readRace_73 : decode cX7_readRace 73 = .ok (.iconst 1, 1) := by decide +kernel
theorem dX7_readRace_74 : decode cX7_readRace 74 = .ok (.ireturn, 1) := by decide +kernel
theorem dX7_readStatement_0 : decode cX7_readStatement 0 = .ok (.aload_n 0, 1) := by decide +kernel
theorem dX7_readStatement_1 : decode cX7_readStatement 1 = .ok (.getfield 9, 3) := by decide +kernel
theorem dX7_readStatement_4 : decode cX7_readStatement 4 = .ok (.ldc 61, 2) := by decide +kernel
theorem dX7_readStatement_6 : decode cX7_readStatement 6 = .ok (.invokevirtual 63, 3) := by decide +kernel
theorem dX7_readStatement_9 : decode cX7_readStatement 9 = .ok (.ifCond .eq 8, 3) := by decide +kernel
theorem dX7_readStatement_12 : decode cX7_readStatement 12 = .ok (.aload_n 0, 1) := by decide +kernel
theorem dX7_readStatement_13 : decode cX7_readStatement 13 = .ok (.invokevirtual 67, 3) := by decide +kernel
theorem dX7_readStatement_16 : decode cX7_readStatement 16 = .ok (.ireturn, 1) := by decide +kernel
theorem dX7_readStatement_17 : decode cX7_readStatement 17 = .ok (.aload_n 0, 1) := by decide +kernel
theorem dX7_readStatement_18 : decode cX7_readStatement 18 = .ok (.getfield 9, 3) := by decide +kernel
theorem dX7_readStatement_21 : decode cX7_readStatement 21 = .ok (.ldc 70, 2) := by decide +kernel
theorem dX7_readStatement_23 : decode cX7_readStatement 23 = .ok (.invokevirtual 63, 3) := by decide +kernel
theorem dX7_readStatement_26 : decode cX7_readStatement 26 = .ok (.ifCond .eq 8, 3) := by decide +kernel
theorem dX7_readStatement_29 : decode cX7_readStatement 29 = .ok (.aload_n 0, 1) := by decide +kernel
theorem dX7_readStatement_30 : decode cX7_readStatement 30 = .ok (.invokevirtual 72, 3) := by decide +kernel
theorem dX7_readStatement_33 : decode cX7_readStatement 33 = .ok (.ireturn, 1) := by decide +kernel
theorem dX7_readStatement_34 : decode cX7_readStatement 34 = .ok (.aload_n 0, 1) := by decide +kernel
theorem dX7_readStatement_35 : decode cX7_readStatement 35 = .ok (.getfield 9, 3) := by decide +kernel
theorem dX7_readStatement_38 : decode cX7_readStatement 38 = .ok (.ldc 75, 2) := by decide +kernel
theorem dX7_readStatement_40 : decode cX7_readStatement 40 = .ok (.invokevirtual 63, 3) := by decide +kernel
theorem dX7_readStatement_43 : decode cX7_readStatement 43 = .ok (.ifCond .eq 8, 3) := by decide +kernel
theorem dX7_readStatement_46 : decode cX7_readStatement 46 = .ok (.aload_n 0, 1) := by decide +kernel
theorem dX7_readStatement_47 : decode cX7_readStatement 47 = .ok (.invokevirtual 77, 3) := by decide +kernel
theorem dX7_readStatement_50 : decode cX7_readStatement 50 = .ok (.ireturn, 1) := by decide +kernel
theorem dX7_readStatement_51 : decode cX7_readStatement 51 = .ok (.aload_n 0, 1) := by decide +kernel
theorem dX7_readStatement_52 : decode cX7_readStatement 52 = .ok (.getfield 9, 3) := by decide +kernel
theorem dX7_readStatement_55 : decode cX7_readStatement 55 = .ok (.ldc 80, 2) := by decide +kernel
theorem dX7_readStatement_57 : decode cX7_readStatement 57 = .ok (.invokevirtual 63, 3) := by decide +kernel
theorem dX7_readStatement_60 : decode cX7_readStatement 60 = .ok (.ifCond .eq 8, 3) := by decide +kernel
theorem dX7_readStatement_63 : decode cX7_readStatement 63 = .ok (.aload_n 0, 1) := by decide +kernel
theorem dX7_readStatement_64 : decode cX7_readStatement 64 = .ok (.invokevirtual 82, 3) := by decide +kernel
theorem dX7_readStatement_67 : decode cX7_readStatement 67 = .ok (.ireturn, 1) := by decide +kernel
theorem dX7_readStatement_68 : decode cX7_readStatement 68 = .ok (.aload_n 0, 1) := by decide +kernel
theorem dX7_readStatement_69 : decode cX7_readStatement 69 = .ok (.getfield 9, 3) := by decide +kernel
theorem dX7_readStatement_72 : decode cX7_readStatement 72 = .ok (.ldc 85, 2) := by decide +kernel
theorem dX7_readStatement_74 : decode cX7_readStatement 74 = .ok (.invokevirtual 63, 3) := by decide +kernel
theorem dX7_readStatement_77 : decode cX7_readStatement 77 = .ok (.ifCond .eq 10, 3) := by decide +kernel
theorem dX7_readStatement_80 : decode cX7_readStatement 80 = .ok (.aload_n 0, 1) := by decide +kernel
theorem dX7_readStatement_81 : decode cX7_readStatement 81 = .ok (.invokevirtual 87, 3) := by decide +kernel
theorem dX7_readStatement_84 : decode cX7_readStatement 84 = .ok (.goto 11, 3) := by decide +kernel
theorem dX7_readStatement_87 : decode cX7_readStatement 87 = .ok (.aload_n 0, 1) := by decide +kernel
theorem dX7_readStatement_88 : decode cX7_readStatement 88 = .ok (.getfield 9, 3) := by decide +kernel
theorem dX7_readStatement_91 : decode cX7_readStatement 91 = .ok (.iconst 1, 1) := by decide +kernel
theorem dX7_readStatement_92 : decode cX7_readStatement 92 = .ok (.invokevirtual 90, 3) := by decide +kernel
theorem dX7_readStatement_95 : decode cX7_readStatement 95 = .ok (.ireturn, 1) := by decide +kernel
theorem dX7_readBoard_0 : decode cX7_readBoard 0 = .ok (.aload_n 0, 1) := by decide +kernel
theorem dX7_readBoard_1 : decode cX7_readBoard 1 = .ok (.getfield 35, 3) := by decide +kernel
theorem dX7_readBoard_4 : decode cX7_readBoard 4 = .ok (.ifCond .ne 26, 3) := by decide +kernel
theorem dX7_readBoard_7 : decode cX7_readBoard 7 = .ok (.aload_n 0, 1) := by decide +kernel
theorem dX7_readBoard_8 : decode cX7_readBoard 8 = .ok (.getfield 15, 3) := by decide +kernel
theorem dX7_readBoard_11 : decode cX7_readBoard 11 = .ok (.getfield 94, 3) := by decide +kernel
theorem dX7_readBoard_14 : decode cX7_readBoard 14 = .ok (.ifCond .gt 16, 3) := by decide +kernel
theorem dX7_readBoard_17 : decode cX7_readBoard 17 = .ok (.aload_n 0, 1) := by decide +kernel
theorem dX7_readBoard_18 : decode cX7_readBoard 18 = .ok (.getfield 15, 3) := by decide +kernel
theorem dX7_readBoard_21 : decode cX7_readBoard 21 = .ok (.getfield 97, 3) := by decide +kernel
theorem dX7_readBoard_24 : decode cX7_readBoard 24 = .ok (.getfield 100, 3) := by decide +kernel
theorem dX7_readBoard_27 : decode cX7_readBoard 27 = .ok (.ifCond .le 12, 3) := by decide +kernel
theorem dX7_readBoard_30 : decode cX7_readBoard 30 = .ok (.aload_n 0, 1) := by decide +kernel
theorem dX7_readBoard_31 : decode cX7_readBoard 31 = .ok (.getfield 9, 3) := by decide +kernel
theorem dX7_readBoard_34 : decode cX7_readBoard 34 = .ok (.iconst 3, 1) := by decide +kernel
theorem dX7_readBoard_35 : decode cX7_readBoard 35 = .ok (.invokevirtual 90, 3) := by decide +kernel
theorem dX7_readBoard_38 : decode cX7_readBoard 38 = .ok (.ireturn, 1) := by decide +kernel
theorem dX7_readBoard_39 : decode cX7_readBoard 39 = .ok (.aload_n 0, 1) := by decide +kernel
theorem dX7_readBoard_40 : decode cX7_readBoard 40 = .ok (.iconst 1, 1) := by decide +kernel
theorem dX7_readBoard_41 : decode cX7_readBoard 41 = .ok (.putfield 35, 3) := by decide +kernel
theorem dX7_readBoard_44 : decode cX7_readBoard 44 = .ok (.aload_n 0, 1) := by decide +kernel
theorem dX7_readBoard_45 : decode cX7_readBoard 45 = .ok (.getfield 9, 3) := by decide +kernel
theorem dX7_readBoard_48 : decode cX7_readBoard 48 = .ok (.iconst 3, 1) := by decide +kernel
theorem dX7_readBoard_49 : decode cX7_readBoard 49 = .ok (.bipush 9, 2) := by decide +kernel
theorem dX7_readBoard_51 : decode cX7_readBoard 51 = .ok (.invokevirtual 104, 3) := by decide +kernel
theorem dX7_readBoard_54 : decode cX7_readBoard 54 = .ok (.ifCond .ne 5, 3) := by decide +kernel
theorem dX7_readBoard_57 : decode cX7_readBoard 57 = .ok (.iconst 0, 1) := by decide +kernel
theorem dX7_readBoard_58 : decode cX7_readBoard 58 = .ok (.ireturn, 1) := by decide +kernel
theorem dX7_readBoard_59 : decode cX7_readBoard 59 = .ok (.aload_n 0, 1) := by decide +kernel
theorem dX7_readBoard_60 : decode cX7_readBoard 60 = .ok (.getfield 9, 3) := by decide +kernel
theorem dX7_readBoard_63 : decode cX7_readBoard 63 = .ok (.getfield 108, 3) := by decide +kernel
theorem dX7_readBoard_66 : decode cX7_readBoard 66 = .ok (.istore_n 1, 1) := by decide +kernel
theorem dX7_readBoard_67 : decode cX7_readBoard 67 = .ok (.aload_n 0, 1) := by decide +kernel
theorem dX7_readBoard_68 : decode cX7_readBoard 68 = .ok (.getfield 9, 3) := by decide +kernel
theorem dX7_readBoard_71 : decode cX7_readBoard 71 = .ok (.iconst 3, 1) := by decide +kernel
theorem dX7_readBoard_72 : decode cX7_readBoard 72 = .ok (.bipush 9, 2) := by decide +kernel
theorem dX7_readBoard_74 : decode cX7_readBoard 74 = .ok (.invokevirtual 104, 3) := by decide +kernel
theorem dX7_readBoard_77 : decode cX7_readBoard 77 = .ok (.ifCond .ne 5, 3) := by decide +kernel
theorem dX7_readBoard_80 : decode cX7_readBoard 80 = .ok (.iconst 0, 1) := by decide +kernel
theorem dX7_readBoard_81 : decode cX7_readBoard 81 = .ok (.ireturn, 1) := by decide +kernel
theorem dX7_readBoard_82 : decode cX7_readBoard 82 = .ok (.aload_n 0, 1) := by decide +kernel
theorem dX7_readBoard_83 : decode cX7_readBoard 83 = .ok (.getfield 15, 3) := by decide +kernel
theorem dX7_readBoard_86 : decode cX7_readBoard 86 = .ok (.getfield 97, 3) := by decide +kernel
theorem dX7_readBoard_89 : decode cX7_readBoard 89 = .ok (.iload_n 1, 1) := by decide +kernel
theorem dX7_readBoard_90 : decode cX7_readBoard 90 = .ok (.aload_n 0, 1) := by decide +kernel
theorem dX7_readBoard_91 : decode cX7_readBoard 91 = .ok (.getfield 9, 3) := by decide +kernel
theorem dX7_readBoard_94 : decode cX7_readBoard 94 = .ok (.getfield 108, 3) := by decide +kernel
theorem dX7_readBoard_97 : decode cX7_readBoard 97 = .ok (.invokevirtual 111, 3) := by decide +kernel
theorem dX7_readBoard_100 : decode cX7_readBoard 100 = .ok (.aload_n 0, 1) := by decide +kernel
theorem dX7_readBoard_101 : decode cX7_readBoard 101 = .ok (.getfield 9, 3) := by decide +kernel
theorem dX7_readBoard_104 : decode cX7_readBoard 104 = .ok (.bipush 59, 2) := by decide +kernel
theorem dX7_readBoard_106 : decode cX7_readBoard 106 = .ok (.invokevirtual 114, 3) := by decide +kernel
theorem dX7_readBoard_109 : decode cX7_readBoard 109 = .ok (.ireturn, 1) := by decide +kernel
theorem dX7_readWalls_0 : decode cX7_readWalls 0 = .ok (.aload_n 0, 1) := by decide +kernel
theorem dX7_readWalls_1 : decode cX7_readWalls 1 = .ok (.getfield 39, 3) := by decide +kernel
theorem dX7_readWalls_4 : decode cX7_readWalls 4 = .ok (.ifCond .eq 12, 3) := by decide +kernel
theorem dX7_readWalls_7 : decode cX7_readWalls 7 = .ok (.aload_n 0, 1) := by decide +kernel
theorem dX7_readWalls_8 : decode cX7_readWalls 8 = .ok (.getfield 9, 3) := by decide +kernel
theorem dX7_readWalls_11 : decode cX7_readWalls 11 = .ok (.iconst 3, 1) := by decide +kernel
theorem dX7_readWalls_12 : decode cX7_readWalls 12 = .ok (.invokevirtual 90, 3) := by decide +kernel
theorem dX7_readWalls_15 : decode cX7_readWalls 15 = .ok (.ireturn, 1) := by decide +kernel
theorem dX7_readWalls_16 : decode cX7_readWalls 16 = .ok (.aload_n 0, 1) := by decide +kernel
theorem dX7_readWalls_17 : decode cX7_readWalls 17 = .ok (.iconst 1, 1) := by decide +kernel
theorem dX7_readWalls_18 : decode cX7_readWalls 18 = .ok (.putfield 39, 3) := by decide +kernel
theorem dX7_readWalls_21 : decode cX7_readWalls 21 = .ok (.aload_n 0, 1) := by decide +kernel
theorem dX7_readWalls_22 : decode cX7_readWalls 22 = .ok (.getfield 9, 3) := by decide +kernel
theorem dX7_readWalls_25 : decode cX7_readWalls 25 = .ok (.iconst 0, 1) := by decide +kernel
theorem dX7_readWalls_26 : decode cX7_readWalls 26 = .ok (.bipush 20, 2) := by decide +kernel
theorem dX7_readWalls_28 : decode cX7_readWalls 28 = .ok (.invokevirtual 104, 3) := by decide +kernel
theorem dX7_readWalls_31 : decode cX7_readWalls 31 = .ok (.ifCond .ne 5, 3) := by decide +kernel
theorem dX7_readWalls_34 : decode cX7_readWalls 34 = .ok (.iconst 0, 1) := by decide +kernel
theorem dX7_readWalls_35 : decode cX7_readWalls 35 = .ok (.ireturn, 1) := by decide +kernel
theorem dX7_readWalls_36 : decode cX7_readWalls 36 = .ok (.aload_n 0, 1) := by decide +kernel
theorem dX7_readWalls_37 : decode cX7_readWalls 37 = .ok (.aload_n 0, 1) := by decide +kernel
theorem dX7_readWalls_38 : decode cX7_readWalls 38 = .ok (.getfield 9, 3) := by decide +kernel
theorem dX7_readWalls_41 : decode cX7_readWalls 41 = .ok (.getfield 108, 3) := by decide +kernel
theorem dX7_readWalls_44 : decode cX7_readWalls 44 = .ok (.putfield 42, 3) := by decide +kernel
theorem dX7_readWalls_47 : decode cX7_readWalls 47 = .ok (.aload_n 0, 1) := by decide +kernel
theorem dX7_readWalls_48 : decode cX7_readWalls 48 = .ok (.getfield 9, 3) := by decide +kernel
theorem dX7_readWalls_51 : decode cX7_readWalls 51 = .ok (.bipush 59, 2) := by decide +kernel
theorem dX7_readWalls_53 : decode cX7_readWalls 53 = .ok (.invokevirtual 114, 3) := by decide +kernel
theorem dX7_readWalls_56 : decode cX7_readWalls 56 = .ok (.ireturn, 1) := by decide +kernel
theorem dX7_readPawn_0 : decode cX7_readPawn 0 = .ok (.aload_n 0, 1) := by decide +kernel
theorem dX7_readPawn_1 : decode cX7_readPawn 1 = .ok (.getfield 15, 3) := by decide +kernel
theorem dX7_readPawn_4 : decode cX7_readPawn 4 = .ok (.getfield 94, 3) := by decide +kernel
theorem dX7_readPawn_7 : decode cX7_readPawn 7 = .ok (.istore_n 1, 1) := by decide +kernel
theorem dX7_readPawn_8 : decode cX7_readPawn 8 = .ok (.iload_n 1, 1) := by decide +kernel
theorem dX7_readPawn_9 : decode cX7_readPawn 9 = .ok (.ifCond .lt 8, 3) := by decide +kernel
theorem dX7_readPawn_12 : decode cX7_readPawn 12 = .ok (.iload_n 1, 1) := by decide +kernel
theorem dX7_readPawn_13 : decode cX7_readPawn 13 = .ok (.iconst 4, 1) := by decide +kernel
theorem dX7_readPawn_14 : decode cX7_readPawn 14 = .ok (.if_icmp .lt 13, 3) := by decide +kernel
theorem dX7_readPawn_17 : decode cX7_readPawn 17 = .ok (.aload_n 0, 1) := by decide +kernel
theorem dX7_readPawn_18 : decode cX7_readPawn 18 = .ok (.getfield 9, 3) := by decide +kernel
theorem dX7_readPawn_21 : decode cX7_readPawn 21 = .ok (.bipush 6, 2) := by decide +kernel
theorem dX7_readPawn_23 : decode cX7_readPawn 23 = .ok (.invokevirtual 90, 3) := by decide +kernel
theorem dX7_readPawn_26 : decode cX7_readPawn 26 = .ok (.ireturn, 1) := by decide +kernel
theorem dX7_readPawn_27 : decode cX7_readPawn 27 = .ok (.aload_n 0, 1) := by decide +kernel
theorem dX7_readPawn_28 : decode cX7_readPawn 28 = .ok (.iconst 0, 1) := by decide +kernel
theorem dX7_readPawn_29 : decode cX7_readPawn 29 = .ok (.invokevirtual 117, 3) := by decide +kernel
theorem dX7_readPawn_32 : decode cX7_readPawn 32 = .ok (.ifCond .ne 5, 3) := by decide +kernel
theorem dX7_readPawn_35 : decode cX7_readPawn 35 = .ok (.iconst 0, 1) := by decide +kernel
theorem dX7_readPawn_36 : decode cX7_readPawn 36 = .ok (.ireturn, 1) := by decide +kernel
theorem dX7_readPawn_37 : decode cX7_readPawn 37 = .ok (.aload_n 0, 1) := by decide +kernel
theorem dX7_readPawn_38 : decode cX7_readPawn 38 = .ok (.getfield 23, 3) := by decide +kernel
theorem dX7_readPawn_41 : decode cX7_readPawn 41 = .ok (.iload_n 1, 1) := by decide +kernel
theorem dX7_readPawn_42 : decode cX7_readPawn 42 = .ok (.aload_n 0, 1) := by decide +kernel
theorem dX7_readPawn_43 : decode cX7_readPawn 43 = .ok (.getfield 9, 3) := by decide +kernel
theorem dX7_readPawn_46 : decode cX7_readPawn 46 = .ok (.getfield 121, 3) := by decide +kernel
theorem dX7_readPawn_49 : decode cX7_readPawn 49 = .ok (.iastore, 1) := by decide +kernel
theorem dX7_readPawn_50 : decode cX7_readPawn 50 = .ok (.aload_n 0, 1) := by decide +kernel
theorem dX7_readPawn_51 : decode cX7_readPawn 51 = .ok (.getfield 27, 3) := by decide +kernel
theorem dX7_readPawn_54 : decode cX7_readPawn 54 = .ok (.iload_n 1, 1) := by decide +kernel
theorem dX7_readPawn_55 : decode cX7_readPawn 55 = .ok (.aload_n 0, 1) := by decide +kernel
theorem dX7_readPawn_56 : decode cX7_readPawn 56 = .ok (.getfield 9, 3) := by decide +kernel
theorem dX7_readPawn_59 : decode cX7_readPawn 59 = .ok (.getfield 124, 3) := by decide +kernel
theorem dX7_readPawn_62 : decode cX7_readPawn 62 = .ok (.iastore, 1) := by decide +kernel
theorem dX7_readPawn_63 : decode cX7_readPawn 63 = .ok (.aload_n 0, 1) := by decide +kernel
theorem dX7_readPawn_64 : decode cX7_readPawn 64 = .ok (.invokevirtual 127, 3) := by decide +kernel
theorem dX7_readPawn_67 : decode cX7_readPawn 67 = .ok (.ifCond .ne 5, 3) := by decide +kernel
theorem dX7_readPawn_70 : decode cX7_readPawn 70 = .ok (.iconst 0, 1) := by decide +kernel
theorem dX7_readPawn_71 : decode cX7_readPawn 71 = .ok (.ireturn, 1) := by decide +kernel
theorem dX7_readPawn_72 : decode cX7_readPawn 72 = .ok (.aload_n 0, 1) := by decide +kernel
theorem dX7_readPawn_73 : decode cX7_readPawn 73 = .ok (.getfield 15, 3) := by decide +kernel
theorem dX7_readPawn_76 : decode cX7_readPawn 76 = .ok (.aload_n 0, 1) := by decide +kernel
theorem dX7_readPawn_77 : decode cX7_readPawn 77 = .ok (.getfield 130, 3) := by decide +kernel
theorem dX7_readPawn_80 : decode cX7_readPawn 80 = .ok (.invokevirtual 133, 3) := by decide +kernel
theorem dX7_readPawn_83 : decode cX7_readPawn 83 = .ok (.iconst (-1), 1) := by decide +kernel
theorem dX7_readPawn_84 : decode cX7_readPawn 84 = .ok (.if_icmp .eq 12, 3) := by decide +kernel
theorem dX7_readPawn_87 : decode cX7_readPawn 87 = .ok (.aload_n 0, 1) := by decide +kernel
theorem dX7_readPawn_88 : decode cX7_readPawn 88 = .ok (.getfield 9, 3) := by decide +kernel
theorem dX7_readPawn_91 : decode cX7_readPawn 91 = .ok (.iconst 4, 1) := by decide +kernel
theorem dX7_readPawn_92 : decode cX7_readPawn 92 = .ok (.invokevirtual 90, 3) := by decide +kernel
theorem dX7_readPawn_95 : decode cX7_readPawn 95 = .ok (.ireturn, 1) := by decide +kernel
theorem dX7_readPawn_96 : decode cX7_readPawn 96 = .ok (.aload_n 0, 1) := by decide +kernel
theorem dX7_readPawn_97 : decode cX7_readPawn 97 = .ok (.getfield 9, 3) := by decide +kernel
theorem dX7_readPawn_100 : decode cX7_readPawn 100 = .ok (.invokevirtual 137, 3) := by decide +kernel
theorem dX7_readPawn_103 : decode cX7_readPawn 103 = .ok (.istore_n 2, 1) := by decide +kernel
theorem dX7_readPawn_104 : decode cX7_readPawn 104 = .ok (.iload_n 2, 1) := by decide +kernel
theorem dX7_readPawn_105 : decode cX7_readPawn 105 = .ok (.iconst (-1), 1) := by decide +kernel
theorem dX7_readPawn_106 : decode cX7_readPawn 106 = .ok (.if_icmp .ne 5, 3) := by decide +kernel
theorem dX7_readPawn_109 : decode cX7_readPawn 109 = .ok (.iconst 0, 1) := by decide +kernel
theorem dX7_readPawn_110 : decode cX7_readPawn 110 = .ok (.ireturn, 1) := by decide +kernel
theorem dX7_readPawn_111 : decode cX7_readPawn 111 = .ok (.aload_n 0, 1) := by decide +kernel
theorem dX7_readPawn_112 : decode cX7_readPawn 112 = .ok (.getfield 15, 3) := by decide +kernel
theorem dX7_readPawn_115 : decode cX7_readPawn 115 = .ok (.getfield 97, 3) := by decide +kernel
theorem dX7_readPawn_118 : decode cX7_readPawn 118 = .ok (.aload_n 0, 1) := by decide +kernel
theorem dX7_readPawn_119 : decode cX7_readPawn 119 = .ok (.getfield 130, 3) := by decide +kernel
theorem dX7_readPawn_122 : decode cX7_readPawn 122 = .ok (.iload_n 2, 1) := by decide +kernel
theorem dX7_readPawn_123 : decode cX7_readPawn 123 = .ok (.invokevirtual 141, 3) := by decide +kernel
theorem dX7_readPawn_126 : decode cX7_readPawn 126 = .ok (.ifCond .eq 12, 3) := by decide +kernel
theorem dX7_readPawn_129 : decode cX7_readPawn 129 = .ok (.aload_n 0, 1) := by decide +kernel
theorem dX7_readPawn_130 : decode cX7_readPawn 130 = .ok (.getfield 9, 3) := by decide +kernel
theorem dX7_readPawn_133 : decode cX7_readPawn 133 = .ok (.iconst 4, 1) := by decide +kernel
theorem dX7_readPawn_134 : decode cX7_readPawn 134 = .ok (.invokevirtual 90, 3) := by decide +kernel
theorem dX7_readPawn_137 : decode cX7_readPawn 137 = .ok (.ireturn, 1) := by decide +kernel
theorem dX7_readPawn_138 : decode cX7_readPawn 138 = .ok (.aload_n 0, 1) := by decide +kernel
theorem dX7_readPawn_139 : decode cX7_readPawn 139 = .ok (.iload_n 2, 1) := by decide +kernel
theorem dX7_readPawn_140 : decode cX7_readPawn 140 = .ok (.invokevirtual 144, 3) := by decide +kernel
theorem dX7_readPawn_143 : decode cX7_readPawn 143 = .ok (.ifCond .ne 5, 3) := by decide +kernel
theorem dX7_readPawn_146 : decode cX7_readPawn 146 = .ok (.iconst 0, 1) := by decide +kernel
theorem dX7_readPawn_147 : decode cX7_readPawn 147 = .ok (.ireturn, 1) := by decide +kernel
theorem dX7_readPawn_148 : decode cX7_readPawn 148 = .ok (.aload_n 0, 1) := by decide +kernel
theorem dX7_readPawn_149 : decode cX7_readPawn 149 = .ok (.getfield 19, 3) := by decide +kernel
theorem dX7_readPawn_152 : decode cX7_readPawn 152 = .ok (.aload_n 0, 1) := by decide +kernel
theorem dX7_readPawn_153 : decode cX7_readPawn 153 = .ok (.getfield 15, 3) := by decide +kernel
theorem dX7_readPawn_156 : decode cX7_readPawn 156 = .ok (.iload_n 1, 1) := by decide +kernel
theorem dX7_readPawn_157 : decode cX7_readPawn 157 = .ok (.invokevirtual 147, 3) := by decide +kernel
theorem dX7_readPawn_160 : decode cX7_readPawn 160 = .ok (.ifCond .ne 14, 3) := by decide +kernel
theorem dX7_readPawn_163 : decode cX7_readPawn 163 = .ok (.aload_n 0, 1) := by decide +kernel
theorem dX7_readPawn_164 : decode cX7_readPawn 164 = .ok (.getfield 9, 3) := by decide +kernel
theorem dX7_readPawn_167 : decode cX7_readPawn 167 = .ok (.iconst 5, 1) := by decide +kernel
theorem dX7_readPawn_168 : decode cX7_readPawn 168 = .ok (.invokevirtual 90, 3) := by decide +kernel
theorem dX7_readPawn_171 : decode cX7_readPawn 171 = .ok (.ifCond .eq 7, 3) := by decide +kernel
theorem dX7_readPawn_174 : decode cX7_readPawn 174 = .ok (.iconst 1, 1) := by decide +kernel
theorem dX7_readPawn_175 : decode cX7_readPawn 175 = .ok (.goto 4, 3) := by decide +kernel
theorem dX7_readPawn_178 : decode cX7_readPawn 178 = .ok (.iconst 0, 1) := by decide +kernel
theorem dX7_readPawn_179 : decode cX7_readPawn 179 = .ok (.ireturn, 1) := by decide +kernel
theorem dX7_readWallsOfPawn_0 : decode cX7_readWallsOfPawn 0 = .ok (.aload_n 0, 1) := by decide +kernel
theorem dX7_readWallsOfPawn_1 : decode cX7_readWallsOfPawn 1 = .ok (.getfield 42, 3) := by decide +kernel
theorem dX7_readWallsOfPawn_4 : decode cX7_readWallsOfPawn 4 = .ok (.istore_n 2, 1) := by decide +kernel
theorem dX7_readWallsOfPawn_5 : decode cX7_readWallsOfPawn 5 = .ok (.aload_n 0, 1) := by decide +kernel
theorem dX7_readWallsOfPawn_6 : decode cX7_readWallsOfPawn 6 = .ok (.getfield 9, 3) := by decide +kernel
theorem dX7_readWallsOfPawn_9 : decode cX7_readWallsOfPawn 9 = .ok (.invokevirtual 51, 3) := by decide +kernel
theorem dX7_readWallsOfPawn_12 : decode cX7_readWallsOfPawn 12 = .ok (.aload_n 0, 1) := by decide +kernel
theorem dX7_readWallsOfPawn_13 : decode cX7_readWallsOfPawn 13 = .ok (.getfield 9, 3) := by decide +kernel
theorem dX7_readWallsOfPawn_16 : decode cX7_readWallsOfPawn 16 = .ok (.ldc 70, 2) := by decide +kernel
theorem dX7_readWallsOfPawn_18 : decode cX7_readWallsOfPawn 18 = .ok (.invokevirtual 63, 3) := by decide +kernel
theorem dX7_readWallsOfPawn_21 : decode cX7_readWallsOfPawn 21 = .ok (.ifCond .eq 33, 3) := by decide +kernel
theorem dX7_readWallsOfPawn_24 : decode cX7_readWallsOfPawn 24 = .ok (.aload_n 0, 1) := by decide +kernel
theorem dX7_readWallsOfPawn_25 : decode cX7_readWallsOfPawn 25 = .ok (.getfield 9, 3) := by decide +kernel
theorem dX7_readWallsOfPawn_28 : decode cX7_readWallsOfPawn 28 = .ok (.iconst 0, 1) := by decide +kernel
theorem dX7_readWallsOfPawn_29 : decode cX7_readWallsOfPawn 29 = .ok (.bipush 20, 2) := by decide +kernel
theorem dX7_readWallsOfPawn_31 : decode cX7_readWallsOfPawn 31 = .ok (.invokevirtual 104, 3) := by decide +kernel
theorem dX7_readWallsOfPawn_34 : decode cX7_readWallsOfPawn 34 = .ok (.ifCond .ne 5, 3) := by decide +kernel
theorem dX7_readWallsOfPawn_37 : decode cX7_readWallsOfPawn 37 = .ok (.iconst 0, 1) := by decide +kernel
theorem dX7_readWallsOfPawn_38 : decode cX7_readWallsOfPawn 38 = .ok (.ireturn, 1) := by decide +kernel
theorem dX7_readWallsOfPawn_39 : decode cX7_readWallsOfPawn 39 = .ok (.aload_n 0, 1) := by decide +kernel
theorem dX7_readWallsOfPawn_40 : decode cX7_readWallsOfPawn 40 = .ok (.getfield 9, 3) := by decide +kernel
theorem dX7_readWallsOfPawn_43 : decode cX7_readWallsOfPawn 43 = .ok (.getfield 108, 3) := by decide +kernel
theorem dX7_readWallsOfPawn_46 : decode cX7_readWallsOfPawn 46 = .ok (.istore_n 2, 1) := by decide +kernel
theorem dX7_readWallsOfPawn_47 : decode cX7_readWallsOfPawn 47 = .ok (.aload_n 0, 1) := by decide +kernel
theorem dX7_readWallsOfPawn_48 : decode cX7_readWallsOfPawn 48 = .ok (.getfield 9, 3) := by decide +kernel
theorem dX7_readWallsOfPawn_51 : decode cX7_readWallsOfPawn 51 = .ok (.invokevirtual 51, 3) := by decide +kernel
theorem dX7_readWallsOfPawn_54 : decode cX7_readWallsOfPawn 54 = .ok (.aload_n 0, 1) := by decide +kernel
theorem dX7_readWallsOfPawn_55 : decode cX7_readWallsOfPawn 55 = .ok (.getfield 9, 3) := by decide +kernel
theorem dX7_readWallsOfPawn_58 : decode cX7_readWallsOfPawn 58 = .ok (.bipush 59, 2) := by decide +kernel
theorem dX7_readWallsOfPawn_60 : decode cX7_readWallsOfPawn 60 = .ok (.invokevirtual 153, 3) := by decide +kernel
theorem dX7_readWallsOfPawn_63 : decode cX7_readWallsOfPawn 63 = .ok (.ifCond .ne 12, 3) := by decide +kernel
theorem dX7_readWallsOfPawn_66 : decode cX7_readWallsOfPawn 66 = .ok (.aload_n 0, 1) := by decide +kernel
theorem dX7_readWallsOfPawn_67 : decode cX7_readWallsOfPawn 67 = .ok (.getfield 9, 3) := by decide +kernel
theorem dX7_readWallsOfPawn_70 : decode cX7_readWallsOfPawn 70 = .ok (.iconst 1, 1) := by decide +kernel
theorem dX7_readWallsOfPawn_71 : decode cX7_readWallsOfPawn 71 = .ok (.invokevirtual 90, 3) := by decide +kernel
theorem dX7_readWallsOfPawn_74 : decode cX7_readWallsOfPawn 74 = .ok (.ireturn, 1) := by decide +kernel
theorem dX7_readWallsOfPawn_75 : decode cX7_readWallsOfPawn 75 = .ok (.aload_n 0, 1) := by decide +kernel
theorem dX7_readWallsOfPawn_76 : decode cX7_readWallsOfPawn 76 = .ok (.getfield 15, 3) := by decide +kernel
theorem dX7_readWallsOfPawn_79 : decode cX7_readWallsOfPawn 79 = .ok (.aload_n 0, 1) := by decide +kernel
theorem dX7_readWallsOfPawn_80 : decode cX7_readWallsOfPawn 80 = .ok (.getfield 130, 3) := by decide +kernel
theorem dX7_readWallsOfPawn_83 : decode cX7_readWallsOfPawn 83 = .ok (.iload_n 1, 1) := by decide +kernel
theorem dX7_readWallsOfPawn_84 : decode cX7_readWallsOfPawn 84 = .ok (.iload_n 2, 1) := by decide +kernel
theorem dX7_readWallsOfPawn_85 : decode cX7_readWallsOfPawn 85 = .ok (.invokevirtual 156, 3) := by decide +kernel
theorem dX7_readWallsOfPawn_88 : decode cX7_readWallsOfPawn 88 = .ok (.iconst 1, 1) := by decide +kernel
theorem dX7_readWallsOfPawn_89 : decode cX7_readWallsOfPawn 89 = .ok (.ireturn, 1) := by decide +kernel
theorem dX7_readName_0 : decode cX7_readName 0 = .ok (.aload_n 0, 1) := by decide +kernel
theorem dX7_readName_1 : decode cX7_readName 1 = .ok (.getfield 9, 3) := by decide +kernel
theorem dX7_readName_4 : decode cX7_readName 4 = .ok (.invokevirtual 51, 3) := by decide +kernel
theorem dX7_readName_7 : decode cX7_readName 7 = .ok (.aload_n 0, 1) := by decide +kernel
theorem dX7_readName_8 : decode cX7_readName 8 = .ok (.getfield 9, 3) := by decide +kernel
theorem dX7_readName_11 : decode cX7_readName 11 = .ok (.getfield 54, 3) := by decide +kernel
theorem dX7_readName_14 : decode cX7_readName 14 = .ok (.iconst 1, 1) := by decide +kernel
theorem dX7_readName_15 : decode cX7_readName 15 = .ok (.if_icmp .eq 12, 3) := by decide +kernel
theorem dX7_readName_18 : decode cX7_readName 18 = .ok (.aload_n 0, 1) := by decide +kernel
theorem dX7_readName_19 : decode cX7_readName 19 = .ok (.getfield 9, 3) := by decide +kernel
theorem dX7_readName_22 : decode cX7_readName 22 = .ok (.iconst 1, 1) := by decide +kernel
theorem dX7_readName_23 : decode cX7_readName 23 = .ok (.invokevirtual 90, 3) := by decide +kernel
theorem dX7_readName_26 : decode cX7_readName 26 = .ok (.ireturn, 1) := by decide +kernel
theorem dX7_readName_27 : decode cX7_readName 27 = .ok (.iload_n 1, 1) := by decide +kernel
theorem dX7_readName_28 : decode cX7_readName 28 = .ok (.aload_n 0, 1) := by decide +kernel
theorem dX7_readName_29 : decode cX7_readName 29 = .ok (.invokevirtual 160, 3) := by decide +kernel
theorem dX7_readName_32 : decode cX7_readName 32 = .ok (.iconst (-1), 1) := by decide +kernel
theorem dX7_readName_33 : decode cX7_readName 33 = .ok (.if_icmp .eq 7, 3) := by decide +kernel
theorem dX7_readName_36 : decode cX7_readName 36 = .ok (.iconst 1, 1) := by decide +kernel
theorem dX7_readName_37 : decode cX7_readName 37 = .ok (.goto 4, 3) := by decide +kernel
theorem dX7_readName_40 : decode cX7_readName 40 = .ok (.iconst 0, 1) := by decide +kernel
theorem dX7_readName_41 : decode cX7_readName 41 = .ok (.if_icmp .eq 14, 3) := by decide +kernel
theorem dX7_readName_44 : decode cX7_readName 44 = .ok (.aload_n 0, 1) := by decide +kernel
theorem dX7_readName_45 : decode cX7_readName 45 = .ok (.getfield 9, 3) := by decide +kernel
theorem dX7_readName_48 : decode cX7_readName 48 = .ok (.iconst 4, 1) := by decide +kernel
theorem dX7_readName_49 : decode cX7_readName 49 = .ok (.invokevirtual 90, 3) := by decide +kernel
theorem dX7_readName_52 : decode cX7_readName 52 = .ok (.ifCond .eq 7, 3) := by decide +kernel
theorem dX7_readName_55 : decode cX7_readName 55 = .ok (.iconst 1, 1) := by decide +kernel
theorem dX7_readName_56 : decode cX7_readName 56 = .ok (.goto 4, 3) := by decide +kernel
theorem dX7_readName_59 : decode cX7_readName 59 = .ok (.iconst 0, 1) := by decide +kernel
theorem dX7_readName_60 : decode cX7_readName 60 = .ok (.ireturn, 1) := by decide +kernel
theorem dX7_pawnNamed_0 : decode cX7_pawnNamed 0 = .ok (.iconst 0, 1) := by decide +kernel
theorem dX7_pawnNamed_1 : decode cX7_pawnNamed 1 = .ok (.istore_n 1, 1) := by decide +kernel
theorem dX7_pawnNamed_2 : decode cX7_pawnNamed 2 = .ok (.iload_n 1, 1) := by decide +kernel
theorem dX7_pawnNamed_3 : decode cX7_pawnNamed 3 = .ok (.aload_n 0, 1) := by decide +kernel
theorem dX7_pawnNamed_4 : decode cX7_pawnNamed 4 = .ok (.getfield 15, 3) := by decide +kernel
theorem dX7_pawnNamed_7 : decode cX7_pawnNamed 7 = .ok (.getfield 94, 3) := by decide +kernel
theorem dX7_pawnNamed_10 : decode cX7_pawnNamed 10 = .ok (.if_icmp .ge 33, 3) := by decide +kernel
theorem dX7_pawnNamed_13 : decode cX7_pawnNamed 13 = .ok (.aload_n 0, 1) := by decide +kernel
theorem dX7_pawnNamed_14 : decode cX7_pawnNamed 14 = .ok (.getfield 9, 3) := by decide +kernel
theorem dX7_pawnNamed_17 : decode cX7_pawnNamed 17 = .ok (.aload_n 0, 1) := by decide +kernel
theorem dX7_pawnNamed_18 : decode cX7_pawnNamed 18 = .ok (.getfield 23, 3) := by decide +kernel
theorem dX7_pawnNamed_21 : decode cX7_pawnNamed 21 = .ok (.iload_n 1, 1) := by decide +kernel
theorem dX7_pawnNamed_22 : decode cX7_pawnNamed 22 = .ok (.iaload, 1) := by decide +kernel
theorem dX7_pawnNamed_23 : decode cX7_pawnNamed 23 = .ok (.aload_n 0, 1) := by decide +kernel
theorem dX7_pawnNamed_24 : decode cX7_pawnNamed 24 = .ok (.getfield 27, 3) := by decide +kernel
theorem dX7_pawnNamed_27 : decode cX7_pawnNamed 27 = .ok (.iload_n 1, 1) := by decide +kernel
theorem dX7_pawnNamed_28 : decode cX7_pawnNamed 28 = .ok (.iaload, 1) := by decide +kernel
theorem dX7_pawnNamed_29 : decode cX7_pawnNamed 29 = .ok (.invokevirtual 163, 3) := by decide +kernel
theorem dX7_pawnNamed_32 : decode cX7_pawnNamed 32 = .ok (.ifCond .eq 5, 3) := by decide +kernel
theorem dX7_pawnNamed_35 : decode cX7_pawnNamed 35 = .ok (.iload_n 1, 1) := by decide +kernel
theorem dX7_pawnNamed_36 : decode cX7_pawnNamed 36 = .ok (.ireturn, 1) := by decide +kernel
theorem dX7_pawnNamed_37 : decode cX7_pawnNamed 37 = .ok (.iinc 1 1, 3) := by decide +kernel
theorem dX7_pawnNamed_40 : decode cX7_pawnNamed 40 = .ok (.goto (-38), 3) := by decide +kernel
theorem dX7_pawnNamed_43 : decode cX7_pawnNamed 43 = .ok (.iconst (-1), 1) := by decide +kernel
theorem dX7_pawnNamed_44 : decode cX7_pawnNamed 44 = .ok (.ireturn, 1) := by decide +kernel
theorem dX7_readCell_0 : decode cX7_readCell 0 = .ok (.aload_n 0, 1) := by decide +kernel
theorem dX7_readCell_1 : decode cX7_readCell 1 = .ok (.getfield 9, 3) := by decide +kernel
theorem dX7_readCell_4 : decode cX7_readCell 4 = .ok (.iconst 0, 1) := by decide +kernel
theorem dX7_readCell_5 : decode cX7_readCell 5 = .ok (.aload_n 0, 1) := by decide +kernel
theorem dX7_readCell_6 : decode cX7_readCell 6 = .ok (.getfield 15, 3) := by decide +kernel
theorem dX7_readCell_9 : decode cX7_readCell 9 = .ok (.getfield 97, 3) := by decide +kernel
theorem dX7_readCell_12 : decode cX7_readCell 12 = .ok (.getfield 166, 3) := by decide +kernel
theorem dX7_readCell_15 : decode cX7_readCell 15 = .ok (.iconst 1, 1) := by decide +kernel
theorem dX7_readCell_16 : decode cX7_readCell 16 = .ok (.isub, 1) := by decide +kernel
theorem dX7_readCell_17 : decode cX7_readCell 17 = .ok (.invokevirtual 104, 3) := by decide +kernel
theorem dX7_readCell_20 : decode cX7_readCell 20 = .ok (.ifCond .ne 5, 3) := by decide +kernel
theorem dX7_readCell_23 : decode cX7_readCell 23 = .ok (.iconst 0, 1) := by decide +kernel
theorem dX7_readCell_24 : decode cX7_readCell 24 = .ok (.ireturn, 1) := by decide +kernel
theorem dX7_readCell_25 : decode cX7_readCell 25 = .ok (.aload_n 0, 1) := by decide +kernel
theorem dX7_readCell_26 : decode cX7_readCell 26 = .ok (.getfield 9, 3) := by decide +kernel
theorem dX7_readCell_29 : decode cX7_readCell 29 = .ok (.getfield 108, 3) := by decide +kernel
theorem dX7_readCell_32 : decode cX7_readCell 32 = .ok (.istore_n 1, 1) := by decide +kernel
theorem dX7_readCell_33 : decode cX7_readCell 33 = .ok (.aload_n 0, 1) := by decide +kernel
theorem dX7_readCell_34 : decode cX7_readCell 34 = .ok (.getfield 9, 3) := by decide +kernel
theorem dX7_readCell_37 : decode cX7_readCell 37 = .ok (.iconst 0, 1) := by decide +kernel
theorem dX7_readCell_38 : decode cX7_readCell 38 = .ok (.aload_n 0, 1) := by decide +kernel
theorem dX7_readCell_39 : decode cX7_readCell 39 = .ok (.getfield 15, 3) := by decide +kernel
theorem dX7_readCell_42 : decode cX7_readCell 42 = .ok (.getfield 97, 3) := by decide +kernel
theorem dX7_readCell_45 : decode cX7_readCell 45 = .ok (.getfield 169, 3) := by decide +kernel
theorem dX7_readCell_48 : decode cX7_readCell 48 = .ok (.iconst 1, 1) := by decide +kernel
theorem dX7_readCell_49 : decode cX7_readCell 49 = .ok (.isub, 1) := by decide +kernel
theorem dX7_readCell_50 : decode cX7_readCell 50 = .ok (.invokevirtual 104, 3) := by decide +kernel
theorem dX7_readCell_53 : decode cX7_readCell 53 = .ok (.ifCond .ne 5, 3) := by decide +kernel
theorem dX7_readCell_56 : decode cX7_readCell 56 = .ok (.iconst 0, 1) := by decide +kernel
theorem dX7_readCell_57 : decode cX7_readCell 57 = .ok (.ireturn, 1) := by decide +kernel
theorem dX7_readCell_58 : decode cX7_readCell 58 = .ok (.aload_n 0, 1) := by decide +kernel
theorem dX7_readCell_59 : decode cX7_readCell 59 = .ok (.aload_n 0, 1) := by decide +kernel
theorem dX7_readCell_60 : decode cX7_readCell 60 = .ok (.getfield 9, 3) := by decide +kernel
theorem dX7_readCell_63 : decode cX7_readCell 63 = .ok (.getfield 108, 3) := by decide +kernel
theorem dX7_readCell_66 : decode cX7_readCell 66 = .ok (.bipush 9, 2) := by decide +kernel
theorem dX7_readCell_68 : decode cX7_readCell 68 = .ok (.imul, 1) := by decide +kernel
theorem dX7_readCell_69 : decode cX7_readCell 69 = .ok (.iload_n 1, 1) := by decide +kernel
theorem dX7_readCell_70 : decode cX7_readCell 70 = .ok (.iadd, 1) := by decide +kernel
theorem dX7_readCell_71 : decode cX7_readCell 71 = .ok (.putfield 130, 3) := by decide +kernel
theorem dX7_readCell_74 : decode cX7_readCell 74 = .ok (.iconst 1, 1) := by decide +kernel
theorem dX7_readCell_75 : decode cX7_readCell 75 = .ok (.ireturn, 1) := by decide +kernel
theorem dX7_readBan_0 : decode cX7_readBan 0 = .ok (.aload_n 0, 1) := by decide +kernel
theorem dX7_readBan_1 : decode cX7_readBan 1 = .ok (.getfield 15, 3) := by decide +kernel
theorem dX7_readBan_4 : decode cX7_readBan 4 = .ok (.getfield 172, 3) := by decide +kernel
theorem dX7_readBan_7 : decode cX7_readBan 7 = .ok (.ifCond .lt 15, 3) := by decide +kernel
theorem dX7_readBan_10 : decode cX7_readBan 10 = .ok (.aload_n 0, 1) := by decide +kernel
theorem dX7_readBan_11 : decode cX7_readBan 11 = .ok (.getfield 15, 3) := by decide +kernel
theorem dX7_readBan_14 : decode cX7_readBan 14 = .ok (.getfield 172, 3) := by decide +kernel
theorem dX7_readBan_17 : decode cX7_readBan 17 = .ok (.bipush 12, 2) := by decide +kernel
theorem dX7_readBan_19 : decode cX7_readBan 19 = .ok (.if_icmp .lt 13, 3) := by decide +kernel
theorem dX7_readBan_22 : decode cX7_readBan 22 = .ok (.aload_n 0, 1) := by decide +kernel
theorem dX7_readBan_23 : decode cX7_readBan 23 = .ok (.getfield 9, 3) := by decide +kernel
theorem dX7_readBan_26 : decode cX7_readBan 26 = .ok (.bipush 6, 2) := by decide +kernel
theorem dX7_readBan_28 : decode cX7_readBan 28 = .ok (.invokevirtual 90, 3) := by decide +kernel
theorem dX7_readBan_31 : decode cX7_readBan 31 = .ok (.ireturn, 1) := by decide +kernel
theorem dX7_readBan_32 : decode cX7_readBan 32 = .ok (.aload_n 0, 1) := by decide +kernel
theorem dX7_readBan_33 : decode cX7_readBan 33 = .ok (.iconst 1, 1) := by decide +kernel
theorem dX7_readBan_34 : decode cX7_readBan 34 = .ok (.invokevirtual 117, 3) := by decide +kernel
theorem dX7_readBan_37 : decode cX7_readBan 37 = .ok (.ifCond .ne 5, 3) := by decide +kernel
theorem dX7_readBan_40 : decode cX7_readBan 40 = .ok (.iconst 0, 1) := by decide +kernel
theorem dX7_readBan_41 : decode cX7_readBan 41 = .ok (.ireturn, 1) := by decide +kernel
theorem dX7_readBan_42 : decode cX7_readBan 42 = .ok (.aload_n 0, 1) := by decide +kernel
theorem dX7_readBan_43 : decode cX7_readBan 43 = .ok (.getfield 15, 3) := by decide +kernel
theorem dX7_readBan_46 : decode cX7_readBan 46 = .ok (.getfield 175, 3) := by decide +kernel
theorem dX7_readBan_49 : decode cX7_readBan 49 = .ok (.aload_n 0, 1) := by decide +kernel
theorem dX7_readBan_50 : decode cX7_readBan 50 = .ok (.getfield 15, 3) := by decide +kernel
theorem dX7_readBan_53 : decode cX7_readBan 53 = .ok (.getfield 172, 3) := by decide +kernel
theorem dX7_readBan_56 : decode cX7_readBan 56 = .ok (.aaload, 1) := by decide +kernel
theorem dX7_readBan_57 : decode cX7_readBan 57 = .ok (.astore_n 1, 1) := by decide +kernel
theorem dX7_readBan_58 : decode cX7_readBan 58 = .ok (.aload_n 0, 1) := by decide +kernel
theorem dX7_readBan_59 : decode cX7_readBan 59 = .ok (.getfield 15, 3) := by decide +kernel
theorem dX7_readBan_62 : decode cX7_readBan 62 = .ok (.dup, 1) := by decide +kernel
theorem dX7_readBan_63 : decode cX7_readBan 63 = .ok (.getfield 172, 3) := by decide +kernel
theorem dX7_readBan_66 : decode cX7_readBan 66 = .ok (.iconst 1, 1) := by decide +kernel
theorem dX7_readBan_67 : decode cX7_readBan 67 = .ok (.iadd, 1) := by decide +kernel
theorem dX7_readBan_68 : decode cX7_readBan 68 = .ok (.putfield 172, 3) := by decide +kernel
theorem dX7_readBan_71 : decode cX7_readBan 71 = .ok (.aload_n 1, 1) := by decide +kernel
theorem dX7_readBan_72 : decode cX7_readBan 72 = .ok (.aload_n 0, 1) := by decide +kernel
theorem dX7_readBan_73 : decode cX7_readBan 73 = .ok (.invokevirtual 160, 3) := by decide +kernel
theorem dX7_readBan_76 : decode cX7_readBan 76 = .ok (.putfield 179, 3) := by decide +kernel
theorem dX7_readBan_79 : decode cX7_readBan 79 = .ok (.aload_n 0, 1) := by decide +kernel
theorem dX7_readBan_80 : decode cX7_readBan 80 = .ok (.getfield 9, 3) := by decide +kernel
theorem dX7_readBan_83 : decode cX7_readBan 83 = .ok (.invokevirtual 51, 3) := by decide +kernel
theorem dX7_readBan_86 : decode cX7_readBan 86 = .ok (.aload_n 0, 1) := by decide +kernel
theorem dX7_readBan_87 : decode cX7_readBan 87 = .ok (.getfield 9, 3) := by decide +kernel
theorem dX7_readBan_90 : decode cX7_readBan 90 = .ok (.ldc 183, 2) := by decide +kernel
theorem dX7_readBan_92 : decode cX7_readBan 92 = .ok (.invokevirtual 63, 3) := by decide +kernel
theorem dX7_readBan_95 : decode cX7_readBan 95 = .ok (.ifCond .eq 18, 3) := by decide +kernel
theorem dX7_readBan_98 : decode cX7_readBan 98 = .ok (.aload_n 1, 1) := by decide +kernel
theorem dX7_readBan_99 : decode cX7_readBan 99 = .ok (.iconst 0, 1) := by decide +kernel
theorem dX7_readBan_100 : decode cX7_readBan 100 = .ok (.putfield 185, 3) := by decide +kernel
theorem dX7_readBan_103 : decode cX7_readBan 103 = .ok (.aload_n 0, 1) := by decide +kernel
theorem dX7_readBan_104 : decode cX7_readBan 104 = .ok (.getfield 9, 3) := by decide +kernel
theorem dX7_readBan_107 : decode cX7_readBan 107 = .ok (.bipush 59, 2) := by decide +kernel
theorem dX7_readBan_109 : decode cX7_readBan 109 = .ok (.invokevirtual 114, 3) := by decide +kernel
theorem dX7_readBan_112 : decode cX7_readBan 112 = .ok (.ireturn, 1) := by decide +kernel
theorem dX7_readBan_113 : decode cX7_readBan 113 = .ok (.aload_n 0, 1) := by decide +kernel
theorem dX7_readBan_114 : decode cX7_readBan 114 = .ok (.getfield 9, 3) := by decide +kernel
theorem dX7_readBan_117 : decode cX7_readBan 117 = .ok (.ldc 186, 2) := by decide +kernel
theorem dX7_readBan_119 : decode cX7_readBan 119 = .ok (.invokevirtual 63, 3) := by decide +kernel
theorem dX7_readBan_122 : decode cX7_readBan 122 = .ok (.ifCond .eq 18, 3) := by decide +kernel
theorem dX7_readBan_125 : decode cX7_readBan 125 = .ok (.aload_n 1, 1) := by decide +kernel
theorem dX7_readBan_126 : decode cX7_readBan 126 = .ok (.iconst 1, 1) := by decide +kernel
theorem dX7_readBan_127 : decode cX7_readBan 127 = .ok (.putfield 185, 3) := by decide +kernel
theorem dX7_readBan_130 : decode cX7_readBan 130 = .ok (.aload_n 0, 1) := by decide +kernel
theorem dX7_readBan_131 : decode cX7_readBan 131 = .ok (.getfield 9, 3) := by decide +kernel
theorem dX7_readBan_134 : decode cX7_readBan 134 = .ok (.bipush 59, 2) := by decide +kernel
theorem dX7_readBan_136 : decode cX7_readBan 136 = .ok (.invokevirtual 114, 3) := by decide +kernel
theorem dX7_readBan_139 : decode cX7_readBan 139 = .ok (.ireturn, 1) := by decide +kernel
theorem dX7_readBan_140 : decode cX7_readBan 140 = .ok (.aload_n 0, 1) := by decide +kernel
theorem dX7_readBan_141 : decode cX7_readBan 141 = .ok (.getfield 9, 3) := by decide +kernel
theorem dX7_readBan_144 : decode cX7_readBan 144 = .ok (.invokevirtual 188, 3) := by decide +kernel
theorem dX7_readBan_147 : decode cX7_readBan 147 = .ok (.istore_n 2, 1) := by decide +kernel
theorem dX7_readBan_148 : decode cX7_readBan 148 = .ok (.iload_n 2, 1) := by decide +kernel
theorem dX7_readBan_149 : decode cX7_readBan 149 = .ok (.iconst (-1), 1) := by decide +kernel
theorem dX7_readBan_150 : decode cX7_readBan 150 = .ok (.if_icmp .ne 12, 3) := by decide +kernel
theorem dX7_readBan_153 : decode cX7_readBan 153 = .ok (.aload_n 0, 1) := by decide +kernel
theorem dX7_readBan_154 : decode cX7_readBan 154 = .ok (.getfield 9, 3) := by decide +kernel
theorem dX7_readBan_157 : decode cX7_readBan 157 = .ok (.iconst 1, 1) := by decide +kernel
theorem dX7_readBan_158 : decode cX7_readBan 158 = .ok (.invokevirtual 90, 3) := by decide +kernel
theorem dX7_readBan_161 : decode cX7_readBan 161 = .ok (.ireturn, 1) := by decide +kernel
theorem dX7_readBan_162 : decode cX7_readBan 162 = .ok (.aload_n 0, 1) := by decide +kernel
theorem dX7_readBan_163 : decode cX7_readBan 163 = .ok (.getfield 9, 3) := by decide +kernel
theorem dX7_readBan_166 : decode cX7_readBan 166 = .ok (.invokevirtual 51, 3) := by decide +kernel
theorem dX7_readBan_169 : decode cX7_readBan 169 = .ok (.aload_n 0, 1) := by decide +kernel
theorem dX7_readBan_170 : decode cX7_readBan 170 = .ok (.getfield 9, 3) := by decide +kernel
theorem dX7_readBan_173 : decode cX7_readBan 173 = .ok (.ldc 191, 2) := by decide +kernel
theorem dX7_readBan_175 : decode cX7_readBan 175 = .ok (.invokevirtual 63, 3) := by decide +kernel
theorem dX7_readBan_178 : decode cX7_readBan 178 = .ok (.ifCond .eq 10, 3) := by decide +kernel
theorem dX7_readBan_181 : decode cX7_readBan 181 = .ok (.aload_n 0, 1) := by decide +kernel
theorem dX7_readBan_182 : decode cX7_readBan 182 = .ok (.aload_n 1, 1) := by decide +kernel
theorem dX7_readBan_183 : decode cX7_readBan 183 = .ok (.iload_n 2, 1) := by decide +kernel
theorem dX7_readBan_184 : decode cX7_readBan 184 = .ok (.invokevirtual 193, 3) := by decide +kernel
theorem dX7_readBan_187 : decode cX7_readBan 187 = .ok (.ireturn, 1) := by decide +kernel
theorem dX7_readBan_188 : decode cX7_readBan 188 = .ok (.aload_n 0, 1) := by decide +kernel
theorem dX7_readBan_189 : decode cX7_readBan 189 = .ok (.getfield 9, 3) := by decide +kernel
theorem dX7_readBan_192 : decode cX7_readBan 192 = .ok (.ldc 197, 2) := by decide +kernel
theorem dX7_readBan_194 : decode cX7_readBan 194 = .ok (.invokevirtual 63, 3) := by decide +kernel
theorem dX7_readBan_197 : decode cX7_readBan 197 = .ok (.ifCond .eq 12, 3) := by decide +kernel
theorem dX7_readBan_200 : decode cX7_readBan 200 = .ok (.aload_n 0, 1) := by decide +kernel
theorem dX7_readBan_201 : decode cX7_readBan 201 = .ok (.aload_n 1, 1) := by decide +kernel
theorem dX7_readBan_202 : decode cX7_readBan 202 = .ok (.iload_n 2, 1) := by decide +kernel
theorem dX7_readBan_203 : decode cX7_readBan 203 = .ok (.invokevirtual 199, 3) := by decide +kernel
theorem dX7_readBan_206 : decode cX7_readBan 206 = .ok (.goto 11, 3) := by decide +kernel
theorem dX7_readBan_209 : decode cX7_readBan 209 = .ok (.aload_n 0, 1) := by decide +kernel
theorem dX7_readBan_210 : decode cX7_readBan 210 = .ok (.getfield 9, 3) := by decide +kernel
theorem dX7_readBan_213 : decode cX7_readBan 213 = .ok (.iconst 1, 1) := by decide +kernel
theorem dX7_readBan_214 : decode cX7_readBan 214 = .ok (.invokevirtual 90, 3) := by decide +kernel
theorem dX7_readBan_217 : decode cX7_readBan 217 = .ok (.ireturn, 1) := by decide +kernel
theorem dX7_readEvery_0 : decode cX7_readEvery 0 = .ok (.aload_n 0, 1) := by decide +kernel
theorem dX7_readEvery_1 : decode cX7_readEvery 1 = .ok (.getfield 9, 3) := by decide +kernel
theorem dX7_readEvery_4 : decode cX7_readEvery 4 = .ok (.iconst 2, 1) := by decide +kernel
theorem dX7_readEvery_5 : decode cX7_readEvery 5 = .ok (.iconst 5, 1) := by decide +kernel
theorem dX7_readEvery_6 : decode cX7_readEvery 6 = .ok (.invokevirtual 104, 3) := by decide +kernel
theorem dX7_readEvery_9 : decode cX7_readEvery 9 = .ok (.ifCond .ne 5, 3) := by decide +kernel
theorem dX7_readEvery_12 : decode cX7_readEvery 12 = .ok (.iconst 0, 1) := by decide +kernel
theorem dX7_readEvery_13 : decode cX7_readEvery 13 = .ok (.ireturn, 1) := by decide +kernel
theorem dX7_readEvery_14 : decode cX7_readEvery 14 = .ok (.aload_n 0, 1) := by decide +kernel
theorem dX7_readEvery_15 : decode cX7_readEvery 15 = .ok (.getfield 9, 3) := by decide +kernel
theorem dX7_readEvery_18 : decode cX7_readEvery 18 = .ok (.getfield 108, 3) := by decide +kernel
theorem dX7_readEvery_21 : decode cX7_readEvery 21 = .ok (.istore_n 3, 1) := by decide +kernel
theorem dX7_readEvery_22 : decode cX7_readEvery 22 = .ok (.aload_n 0, 1) := by decide +kernel
theorem dX7_readEvery_23 : decode cX7_readEvery 23 = .ok (.getfield 9, 3) := by decide +kernel
theorem dX7_readEvery_26 : decode cX7_readEvery 26 = .ok (.invokevirtual 51, 3) := by decide +kernel
theorem dX7_readEvery_29 : decode cX7_readEvery 29 = .ok (.aload_n 0, 1) := by decide +kernel
theorem dX7_readEvery_30 : decode cX7_readEvery 30 = .ok (.getfield 9, 3) := by decide +kernel
theorem dX7_readEvery_33 : decode cX7_readEvery 33 = .ok (.ldc 202, 2) := by decide +kernel
theorem dX7_readEvery_35 : decode cX7_readEvery 35 = .ok (.invokevirtual 63, 3) := by decide +kernel
theorem dX7_readEvery_38 : decode cX7_readEvery 38 = .ok (.ifCond .ne 12, 3) := by decide +kernel
theorem dX7_readEvery_41 : decode cX7_readEvery 41 = .ok (.aload_n 0, 1) := by decide +kernel
theorem dX7_readEvery_42 : decode cX7_readEvery 42 = .ok (.getfield 9, 3) := by decide +kernel
theorem dX7_readEvery_45 : decode cX7_readEvery 45 = .ok (.iconst 1, 1) := by decide +kernel
theorem dX7_readEvery_46 : decode cX7_readEvery 46 = .ok (.invokevirtual 90, 3) := by decide +kernel
theorem dX7_readEvery_49 : decode cX7_readEvery 49 = .ok (.ireturn, 1) := by decide +kernel
theorem dX7_readEvery_50 : decode cX7_readEvery 50 = .ok (.aload_n 0, 1) := by decide +kernel
theorem dX7_readEvery_51 : decode cX7_readEvery 51 = .ok (.getfield 9, 3) := by decide +kernel
theorem dX7_readEvery_54 : decode cX7_readEvery 54 = .ok (.iconst 0, 1) := by decide +kernel
theorem dX7_readEvery_55 : decode cX7_readEvery 55 = .ok (.iload_n 3, 1) := by decide +kernel
theorem dX7_readEvery_56 : decode cX7_readEvery 56 = .ok (.iconst 1, 1) := by decide +kernel
theorem dX7_readEvery_57 : decode cX7_readEvery 57 = .ok (.isub, 1) := by decide +kernel
theorem dX7_readEvery_58 : decode cX7_readEvery 58 = .ok (.invokevirtual 104, 3) := by decide +kernel
theorem dX7_readEvery_61 : decode cX7_readEvery 61 = .ok (.ifCond .ne 5, 3) := by decide +kernel
theorem dX7_readEvery_64 : decode cX7_readEvery 64 = .ok (.iconst 0, 1) := by decide +kernel
theorem dX7_readEvery_65 : decode cX7_readEvery 65 = .ok (.ireturn, 1) := by decide +kernel
theorem dX7_readEvery_66 : decode cX7_readEvery 66 = .ok (.aload_n 1, 1) := by decide +kernel
theorem dX7_readEvery_67 : decode cX7_readEvery 67 = .ok (.iload_n 2, 1) := by decide +kernel
theorem dX7_readEvery_68 : decode cX7_readEvery 68 = .ok (.iload_n 3, 1) := by decide +kernel
theorem dX7_readEvery_69 : decode cX7_readEvery 69 = .ok (.aload_n 0, 1) := by decide +kernel
theorem dX7_readEvery_70 : decode cX7_readEvery 70 = .ok (.getfield 9, 3) := by decide +kernel
theorem dX7_readEvery_73 : decode cX7_readEvery 73 = .ok (.getfield 108, 3) := by decide +kernel
theorem dX7_readEvery_76 : decode cX7_readEvery 76 = .ok (.invokevirtual 204, 3) := by decide +kernel
theorem dX7_readEvery_79 : decode cX7_readEvery 79 = .ok (.aload_n 0, 1) := by decide +kernel
theorem dX7_readEvery_80 : decode cX7_readEvery 80 = .ok (.getfield 9, 3) := by decide +kernel
theorem dX7_readEvery_83 : decode cX7_readEvery 83 = .ok (.bipush 59, 2) := by decide +kernel
theorem dX7_readEvery_85 : decode cX7_readEvery 85 = .ok (.invokevirtual 114, 3) := by decide +kernel
theorem dX7_readEvery_88 : decode cX7_readEvery 88 = .ok (.ireturn, 1) := by decide +kernel
theorem dX7_readWithin_0 : decode cX7_readWithin 0 = .ok (.aload_n 0, 1) := by decide +kernel
theorem dX7_readWithin_1 : decode cX7_readWithin 1 = .ok (.invokevirtual 127, 3) := by decide +kernel
theorem dX7_readWithin_4 : decode cX7_readWithin 4 = .ok (.ifCond .ne 5, 3) := by decide +kernel
theorem dX7_readWithin_7 : decode cX7_readWithin 7 = .ok (.iconst 0, 1) := by decide +kernel
theorem dX7_readWithin_8 : decode cX7_readWithin 8 = .ok (.ireturn, 1) := by decide +kernel
theorem dX7_readWithin_9 : decode cX7_readWithin 9 = .ok (.aload_n 0, 1) := by decide +kernel
theorem dX7_readWithin_10 : decode cX7_readWithin 10 = .ok (.getfield 130, 3) := by decide +kernel
theorem dX7_readWithin_13 : decode cX7_readWithin 13 = .ok (.istore_n 3, 1) := by decide +kernel
theorem dX7_readWithin_14 : decode cX7_readWithin 14 = .ok (.aload_n 0, 1) := by decide +kernel
theorem dX7_readWithin_15 : decode cX7_readWithin 15 = .ok (.getfield 9, 3) := by decide +kernel
theorem dX7_readWithin_18 : decode cX7_readWithin 18 = .ok (.invokevirtual 51, 3) := by decide +kernel
theorem dX7_readWithin_21 : decode cX7_readWithin 21 = .ok (.aload_n 0, 1) := by decide +kernel
theorem dX7_readWithin_22 : decode cX7_readWithin 22 = .ok (.getfield 9, 3) := by decide +kernel
theorem dX7_readWithin_25 : decode cX7_readWithin 25 = .ok (.ldc 207, 2) := by decide +kernel
theorem dX7_readWithin_27 : decode cX7_readWithin 27 = .ok (.invokevirtual 63, 3) := by decide +kernel
theorem dX7_readWithin_30 : decode cX7_readWithin 30 = .ok (.ifCond .ne 12, 3) := by decide +kernel
theorem dX7_readWithin_33 : decode cX7_readWithin 33 = .ok (.aload_n 0, 1) := by decide +kernel
theorem dX7_readWithin_34 : decode cX7_readWithin 34 = .ok (.getfield 9, 3) := by decide +kernel
theorem dX7_readWithin_37 : decode cX7_readWithin 37 = .ok (.iconst 1, 1) := by decide +kernel
theorem dX7_readWithin_38 : decode cX7_readWithin 38 = .ok (.invokevirtual 90, 3) := by decide +kernel
theorem dX7_readWithin_41 : decode cX7_readWithin 41 = .ok (.ireturn, 1) := by decide +kernel
theorem dX7_readWithin_42 : decode cX7_readWithin 42 = .ok (.aload_n 0, 1) := by decide +kernel
theorem dX7_readWithin_43 : decode cX7_readWithin 43 = .ok (.invokevirtual 127, 3) := by decide +kernel
theorem dX7_readWithin_46 : decode cX7_readWithin 46 = .ok (.ifCond .ne 5, 3) := by decide +kernel
theorem dX7_readWithin_49 : decode cX7_readWithin 49 = .ok (.iconst 0, 1) := by decide +kernel
theorem dX7_readWithin_50 : decode cX7_readWithin 50 = .ok (.ireturn, 1) := by decide +kernel
theorem dX7_readWithin_51 : decode cX7_readWithin 51 = .ok (.aload_n 1, 1) := by decide +kernel
theorem dX7_readWithin_52 : decode cX7_readWithin 52 = .ok (.iload_n 2, 1) := by decide +kernel
theorem dX7_readWithin_53 : decode cX7_readWithin 53 = .ok (.iload_n 3, 1) := by decide +kernel
theorem dX7_readWithin_54 : decode cX7_readWithin 54 = .ok (.aload_n 0, 1) := by decide +kernel
theorem dX7_readWithin_55 : decode cX7_readWithin 55 = .ok (.getfield 130, 3) := by decide +kernel
theorem dX7_readWithin_58 : decode cX7_readWithin 58 = .ok (.invokevirtual 209, 3) := by decide +kernel
theorem dX7_readWithin_61 : decode cX7_readWithin 61 = .ok (.aload_n 0, 1) := by decide +kernel
theorem dX7_readWithin_62 : decode cX7_readWithin 62 = .ok (.getfield 9, 3) := by decide +kernel
theorem dX7_readWithin_65 : decode cX7_readWithin 65 = .ok (.bipush 59, 2) := by decide +kernel
theorem dX7_readWithin_67 : decode cX7_readWithin 67 = .ok (.invokevirtual 114, 3) := by decide +kernel
theorem dX7_readWithin_70 : decode cX7_readWithin 70 = .ok (.ireturn, 1) := by decide +kernel
theorem dX7_readBlock_0 : decode cX7_readBlock 0 = .ok (.aload_n 0, 1) := by decide +kernel
theorem dX7_readBlock_1 : decode cX7_readBlock 1 = .ok (.getfield 15, 3) := by decide +kernel
theorem dX7_readBlock_4 : decode cX7_readBlock 4 = .ok (.getfield 97, 3) := by decide +kernel
theorem dX7_readBlock_7 : decode cX7_readBlock 7 = .ok (.getfield 100, 3) := by decide +kernel
theorem dX7_readBlock_10 : decode cX7_readBlock 10 = .ok (.bipush 40, 2) := by decide +kernel
theorem dX7_readBlock_12 : decode cX7_readBlock 12 = .ok (.if_icmp .lt 13, 3) := by decide +kernel
theorem dX7_readBlock_15 : decode cX7_readBlock 15 = .ok (.aload_n 0, 1) := by decide +kernel
theorem dX7_readBlock_16 : decode cX7_readBlock 16 = .ok (.getfield 9, 3) := by decide +kernel
theorem dX7_readBlock_19 : decode cX7_readBlock 19 = .ok (.bipush 6, 2) := by decide +kernel
theorem dX7_readBlock_21 : decode cX7_readBlock 21 = .ok (.invokevirtual 90, 3) := by decide +kernel
theorem dX7_readBlock_24 : decode cX7_readBlock 24 = .ok (.ireturn, 1) := by decide +kernel
theorem dX7_readBlock_25 : decode cX7_readBlock 25 = .ok (.aload_n 0, 1) := by decide +kernel
theorem dX7_readBlock_26 : decode cX7_readBlock 26 = .ok (.getfield 9, 3) := by decide +kernel
theorem dX7_readBlock_29 : decode cX7_readBlock 29 = .ok (.iconst 0, 1) := by decide +kernel
theorem dX7_readBlock_30 : decode cX7_readBlock 30 = .ok (.aload_n 0, 1) := by decide +kernel
theorem dX7_readBlock_31 : decode cX7_readBlock 31 = .ok (.getfield 15, 3) := by decide +kernel
theorem dX7_readBlock_34 : decode cX7_readBlock 34 = .ok (.getfield 97, 3) := by decide +kernel
theorem dX7_readBlock_37 : decode cX7_readBlock 37 = .ok (.getfield 166, 3) := by decide +kernel
theorem dX7_readBlock_40 : decode cX7_readBlock 40 = .ok (.iconst 2, 1) := by decide +kernel
theorem dX7_readBlock_41 : decode cX7_readBlock 41 = .ok (.isub, 1) := by decide +kernel
theorem dX7_readBlock_42 : decode cX7_readBlock 42 = .ok (.invokevirtual 104, 3) := by decide +kernel
theorem dX7_readBlock_45 : decode cX7_readBlock 45 = .ok (.ifCond .ne 5, 3) := by decide +kernel
theorem dX7_readBlock_48 : decode cX7_readBlock 48 = .ok (.iconst 0, 1) := by decide +kernel
theorem dX7_readBlock_49 : decode cX7_readBlock 49 = .ok (.ireturn, 1) := by decide +kernel
theorem dX7_readBlock_50 : decode cX7_readBlock 50 = .ok (.aload_n 0, 1) := by decide +kernel
theorem dX7_readBlock_51 : decode cX7_readBlock 51 = .ok (.getfield 9, 3) := by decide +kernel
theorem dX7_readBlock_54 : decode cX7_readBlock 54 = .ok (.getfield 108, 3) := by decide +kernel
theorem dX7_readBlock_57 : decode cX7_readBlock 57 = .ok (.istore_n 1, 1) := by decide +kernel
theorem dX7_readBlock_58 : decode cX7_readBlock 58 = .ok (.aload_n 0, 1) := by decide +kernel
theorem dX7_readBlock_59 : decode cX7_readBlock 59 = .ok (.getfield 9, 3) := by decide +kernel
theorem dX7_readBlock_62 : decode cX7_readBlock 62 = .ok (.iconst 0, 1) := by decide +kernel
theorem dX7_readBlock_63 : decode cX7_readBlock 63 = .ok (.aload_n 0, 1) := by decide +kernel
theorem dX7_readBlock_64 : decode cX7_readBlock 64 = .ok (.getfield 15, 3) := by decide +kernel
theorem dX7_readBlock_67 : decode cX7_readBlock 67 = .ok (.getfield 97, 3) := by decide +kernel
theorem dX7_readBlock_70 : decode cX7_readBlock 70 = .ok (.getfield 169, 3) := by decide +kernel
theorem dX7_readBlock_73 : decode cX7_readBlock 73 = .ok (.iconst 2, 1) := by decide +kernel
theorem dX7_readBlock_74 : decode cX7_readBlock 74 = .ok (.isub, 1) := by decide +kernel
theorem dX7_readBlock_75 : decode cX7_readBlock 75 = .ok (.invokevirtual 104, 3) := by decide +kernel
theorem dX7_readBlock_78 : decode cX7_readBlock 78 = .ok (.ifCond .ne 5, 3) := by decide +kernel
theorem dX7_readBlock_81 : decode cX7_readBlock 81 = .ok (.iconst 0, 1) := by decide +kernel
theorem dX7_readBlock_82 : decode cX7_readBlock 82 = .ok (.ireturn, 1) := by decide +kernel
theorem dX7_readBlock_83 : decode cX7_readBlock 83 = .ok (.aload_n 0, 1) := by decide +kernel
theorem dX7_readBlock_84 : decode cX7_readBlock 84 = .ok (.getfield 9, 3) := by decide +kernel
theorem dX7_readBlock_87 : decode cX7_readBlock 87 = .ok (.getfield 108, 3) := by decide +kernel
theorem dX7_readBlock_90 : decode cX7_readBlock 90 = .ok (.istore_n 2, 1) := by decide +kernel
theorem dX7_readBlock_91 : decode cX7_readBlock 91 = .ok (.aload_n 0, 1) := by decide +kernel
theorem dX7_readBlock_92 : decode cX7_readBlock 92 = .ok (.getfield 9, 3) := by decide +kernel
theorem dX7_readBlock_95 : decode cX7_readBlock 95 = .ok (.invokevirtual 212, 3) := by decide +kernel
theorem dX7_readBlock_98 : decode cX7_readBlock 98 = .ok (.istore_n 3, 1) := by decide +kernel
theorem dX7_readBlock_99 : decode cX7_readBlock 99 = .ok (.iload_n 3, 1) := by decide +kernel
theorem dX7_readBlock_100 : decode cX7_readBlock 100 = .ok (.iconst (-1), 1) := by decide +kernel
theorem dX7_readBlock_101 : decode cX7_readBlock 101 = .ok (.if_icmp .eq 15, 3) := by decide +kernel
theorem dX7_readBlock_104 : decode cX7_readBlock 104 = .ok (.aload_n 0, 1) := by decide +kernel
theorem dX7_readBlock_105 : decode cX7_readBlock 105 = .ok (.getfield 9, 3) := by decide +kernel
theorem dX7_readBlock_108 : decode cX7_readBlock 108 = .ok (.bipush 59, 2) := by decide +kernel
theorem dX7_readBlock_110 : decode cX7_readBlock 110 = .ok (.invokevirtual 114, 3) := by decide +kernel
theorem dX7_readBlock_113 : decode cX7_readBlock 113 = .ok (.ifCond .ne 5, 3) := by decide +kernel
theorem dX7_readBlock_116 : decode cX7_readBlock 116 = .ok (.iconst 0, 1) := by decide +kernel
theorem dX7_readBlock_117 : decode cX7_readBlock 117 = .ok (.ireturn, 1) := by decide +kernel
theorem dX7_readBlock_118 : decode cX7_readBlock 118 = .ok (.aload_n 0, 1) := by decide +kernel
theorem dX7_readBlock_119 : decode cX7_readBlock 119 = .ok (.getfield 19, 3) := by decide +kernel
theorem dX7_readBlock_122 : decode cX7_readBlock 122 = .ok (.aload_n 0, 1) := by decide +kernel
theorem dX7_readBlock_123 : decode cX7_readBlock 123 = .ok (.getfield 15, 3) := by decide +kernel
theorem dX7_readBlock_126 : decode cX7_readBlock 126 = .ok (.invokevirtual 215, 3) := by decide +kernel
theorem dX7_readBlock_129 : decode cX7_readBlock 129 = .ok (.aload_n 0, 1) := by decide +kernel
theorem dX7_readBlock_130 : decode cX7_readBlock 130 = .ok (.getfield 19, 3) := by decide +kernel
theorem dX7_readBlock_133 : decode cX7_readBlock 133 = .ok (.aload_n 0, 1) := by decide +kernel
theorem dX7_readBlock_134 : decode cX7_readBlock 134 = .ok (.getfield 15, 3) := by decide +kernel
theorem dX7_readBlock_137 : decode cX7_readBlock 137 = .ok (.iload_n 1, 1) := by decide +kernel
theorem dX7_readBlock_138 : decode cX7_readBlock 138 = .ok (.iload_n 2, 1) := by decide +kernel
theorem dX7_readBlock_139 : decode cX7_readBlock 139 = .ok (.iload_n 3, 1) := by decide +kernel
theorem dX7_readBlock_140 : decode cX7_readBlock 140 = .ok (.invokevirtual 219, 3) := by decide +kernel
theorem dX7_readBlock_143 : decode cX7_readBlock 143 = .ok (.ifCond .ne 12, 3) := by decide +kernel
theorem dX7_readBlock_146 : decode cX7_readBlock 146 = .ok (.aload_n 0, 1) := by decide +kernel
theorem dX7_readBlock_147 : decode cX7_readBlock 147 = .ok (.getfield 9, 3) := by decide +kernel
theorem dX7_readBlock_150 : decode cX7_readBlock 150 = .ok (.iconst 5, 1) := by decide +kernel
theorem dX7_readBlock_151 : decode cX7_readBlock 151 = .ok (.invokevirtual 90, 3) := by decide +kernel
theorem dX7_readBlock_154 : decode cX7_readBlock 154 = .ok (.ireturn, 1) := by decide +kernel
theorem dX7_readBlock_155 : decode cX7_readBlock 155 = .ok (.aload_n 0, 1) := by decide +kernel
theorem dX7_readBlock_156 : decode cX7_readBlock 156 = .ok (.getfield 15, 3) := by decide +kernel
theorem dX7_readBlock_159 : decode cX7_readBlock 159 = .ok (.getfield 97, 3) := by decide +kernel
theorem dX7_readBlock_162 : decode cX7_readBlock 162 = .ok (.iload_n 1, 1) := by decide +kernel
theorem dX7_readBlock_163 : decode cX7_readBlock 163 = .ok (.iload_n 2, 1) := by decide +kernel
theorem dX7_readBlock_164 : decode cX7_readBlock 164 = .ok (.iload_n 3, 1) := by decide +kernel
theorem dX7_readBlock_165 : decode cX7_readBlock 165 = .ok (.invokevirtual 223, 3) := by decide +kernel
theorem dX7_readBlock_168 : decode cX7_readBlock 168 = .ok (.iconst 1, 1) := by decide +kernel
theorem dX7_readBlock_169 : decode cX7_readBlock 169 = .ok (.ireturn, 1) := by decide +kernel
theorem dX8_init_0 : decode cX8_init 0 = .ok (.aload_n 0, 1) := by decide +kernel
theorem dX8_init_1 : decode cX8_init 1 = .ok (.invokespecial 3, 3) := by decide +kernel
theorem dX8_init_4 : decode cX8_init 4 = .ok (.aload_n 0, 1) := by decide +kernel
theorem dX8_init_5 : decode cX8_init 5 = .ok (.aload_n 1, 1) := by decide +kernel
theorem dX8_init_6 : decode cX8_init 6 = .ok (.putfield 9, 3) := by decide +kernel
theorem dX8_init_9 : decode cX8_init 9 = .ok (.aload_n 0, 1) := by decide +kernel
theorem dX8_init_10 : decode cX8_init 10 = .ok (.bipush 60, 2) := by decide +kernel
theorem dX8_init_12 : decode cX8_init 12 = .ok (.newarray .int, 2) := by decide +kernel
theorem dX8_init_14 : decode cX8_init 14 = .ok (.putfield 15, 3) := by decide +kernel
theorem dX8_init_17 : decode cX8_init 17 = .ok (.aload_n 0, 1) := by decide +kernel
theorem dX8_init_18 : decode cX8_init 18 = .ok (.bipush 60, 2) := by decide +kernel
theorem dX8_init_20 : decode cX8_init 20 = .ok (.newarray .int, 2) := by decide +kernel
theorem dX8_init_22 : decode cX8_init 22 = .ok (.putfield 19, 3) := by decide +kernel
theorem dX8_init_25 : decode cX8_init 25 = .ok (.aload_n 0, 1) := by decide +kernel
theorem dX8_init_26 : decode cX8_init 26 = .ok (.bipush 60, 2) := by decide +kernel
theorem dX8_init_28 : decode cX8_init 28 = .ok (.newarray .int, 2) := by decide +kernel
theorem dX8_init_30 : decode cX8_init 30 = .ok (.putfield 22, 3) := by decide +kernel
theorem dX8_init_33 : decode cX8_init 33 = .ok (.aload_n 0, 1) := by decide +kernel
theorem dX8_init_34 : decode cX8_init 34 = .ok (.bipush 60, 2) := by decide +kernel
theorem dX8_init_36 : decode cX8_init 36 = .ok (.newarray .int, 2) := by decide +kernel
theorem dX8_init_38 : decode cX8_init 38 = .ok (.putfield 25, 3) := by decide +kernel
theorem dX8_init_41 : decode cX8_init 41 = .ok (.aload_n 0, 1) := by decide +kernel
theorem dX8_init_42 : decode cX8_init 42 = .ok (.bipush 60, 2) := by decide +kernel
theorem dX8_init_44 : decode cX8_init 44 = .ok (.newarray .int, 2) := by decide +kernel
theorem dX8_init_46 : decode cX8_init 46 = .ok (.putfield 28, 3) := by decide +kernel
theorem dX8_init_49 : decode cX8_init 49 = .ok (.aload_n 0, 1) := by decide +kernel
theorem dX8_init_50 : decode cX8_init 50 = .ok (.iconst 2, 1) := by decide +kernel
theorem dX8_init_51 : decode cX8_init 51 = .ok (.newarray .int, 2) := by decide +kernel
theorem dX8_init_53 : decode cX8_init 53 = .ok (.putfield 31, 3) := by decide +kernel
theorem dX8_init_56 : decode cX8_init 56 = .ok (.return_, 1) := by decide +kernel
theorem dX9_init_0 : decode cX9_init 0 = .ok (.aload_n 0, 1) := by decide +kernel
theorem dX9_init_1 : decode cX9_init 1 = .ok (.invokespecial 3, 3) := by decide +kernel
theorem dX9_init_4 : decode cX9_init 4 = .ok (.aload_n 0, 1) := by decide +kernel
theorem dX9_init_5 : decode cX9_init 5 = .ok (.sipush 700, 3) := by decide +kernel
theorem dX9_init_8 : decode cX9_init 8 = .ok (.newarray .byte, 2) := by decide +kernel
theorem dX9_init_10 : decode cX9_init 10 = .ok (.putfield 9, 3) := by decide +kernel
theorem dX9_init_13 : decode cX9_init 13 = .ok (.aload_n 0, 1) := by decide +kernel
theorem dX9_init_14 : decode cX9_init 14 = .ok (.sipush 701, 3) := by decide +kernel
theorem dX9_init_17 : decode cX9_init 17 = .ok (.newarray .int, 2) := by decide +kernel
theorem dX9_init_19 : decode cX9_init 19 = .ok (.putfield 15, 3) := by decide +kernel
theorem dX9_init_22 : decode cX9_init 22 = .ok (.aload_n 0, 1) := by decide +kernel
theorem dX9_init_23 : decode cX9_init 23 = .ok (.sipush 701, 3) := by decide +kernel
theorem dX9_init_26 : decode cX9_init 26 = .ok (.newarray .int, 2) := by decide +kernel
theorem dX9_init_28 : decode cX9_init 28 = .ok (.putfield 19, 3) := by decide +kernel
theorem dX9_init_31 : decode cX9_init 31 = .ok (.aload_n 0, 1) := by decide +kernel
theorem dX9_init_32 : decode cX9_init 32 = .ok (.sipush 701, 3) := by decide +kernel
theorem dX9_init_35 : decode cX9_init 35 = .ok (.newarray .int, 2) := by decide +kernel
theorem dX9_init_37 : decode cX9_init 37 = .ok (.putfield 22, 3) := by decide +kernel
theorem dX9_init_40 : decode cX9_init 40 = .ok (.aload_n 0, 1) := by decide +kernel
theorem dX9_init_41 : decode cX9_init 41 = .ok (.iconst (-1), 1) := by decide +kernel
theorem dX9_init_42 : decode cX9_init 42 = .ok (.putfield 25, 3) := by decide +kernel
theorem dX9_init_45 : decode cX9_init 45 = .ok (.return_, 1) := by decide +kernel
theorem dX9_append_0 : decode cX9_append 0 = .ok (.bipush 24, 2) := by decide +kernel
theorem dX9_append_2 : decode cX9_append 2 = .ok (.istore_n 2, 1) := by decide +kernel
theorem dX9_append_3 : decode cX9_append 3 = .ok (.iload_n 2, 1) := by decide +kernel
theorem dX9_append_4 : decode cX9_append 4 = .ok (.ifCond .lt 42, 3) := by decide +kernel
theorem dX9_append_7 : decode cX9_append 7 = .ok (.aload_n 0, 1) := by decide +kernel
theorem dX9_append_8 : decode cX9_append 8 = .ok (.getfield 29, 3) := by decide +kernel
theorem dX9_append_11 : decode cX9_append 11 = .ok (.sipush 700, 3) := by decide +kernel
theorem dX9_append_14 : decode cX9_append 14 = .ok (.if_icmp .ge 26, 3) := by decide +kernel
theorem dX9_append_17 : decode cX9_append 17 = .ok (.aload_n 0, 1) := by decide +kernel
theorem dX9_append_18 : decode cX9_append 18 = .ok (.getfield 9, 3) := by decide +kernel
theorem dX9_append_21 : decode cX9_append 21 = .ok (.aload_n 0, 1) := by decide +kernel
theorem dX9_append_22 : decode cX9_append 22 = .ok (.getfield 29, 3) := by decide +kernel
theorem dX9_append_25 : decode cX9_append 25 = .ok (.iload_n 1, 1) := by decide +kernel
theorem dX9_append_26 : decode cX9_append 26 = .ok (.iload_n 2, 1) := by decide +kernel
theorem dX9_append_27 : decode cX9_append 27 = .ok (.ishr, 1) := by decide +kernel
theorem dX9_append_28 : decode cX9_append 28 = .ok (.i2b, 1) := by decide +kernel
theorem dX9_append_29 : decode cX9_append 29 = .ok (.bastore, 1) := by decide +kernel
theorem dX9_append_30 : decode cX9_append 30 = .ok (.aload_n 0, 1) := by decide +kernel
theorem dX9_append_31 : decode cX9_append 31 = .ok (.dup, 1) := by decide +kernel
theorem dX9_append_32 : decode cX9_append 32 = .ok (.getfield 29, 3) := by decide +kernel
theorem dX9_append_35 : decode cX9_append 35 = .ok (.iconst 1, 1) := by decide +kernel
theorem dX9_append_36 : decode cX9_append 36 = .ok (.iadd, 1) := by decide +kernel
theorem dX9_append_37 : decode cX9_append 37 = .ok (.putfield 29, 3) := by decide +kernel
theorem dX9_append_40 : decode cX9_append 40 = .ok (.iinc 2 (-8), 3) := by decide +kernel
theorem dX9_append_43 : decode cX9_append 43 = .ok (.goto (-40), 3) := by decide +kernel
theorem dX9_append_46 : decode cX9_append 46 = .ok (.return_, 1) := by decide +kernel
theorem dX9_begin_0 : decode cX9_begin 0 = .ok (.aload_n 0, 1) := by decide +kernel
theorem dX9_begin_1 : decode cX9_begin 1 = .ok (.iconst 0, 1) := by decide +kernel
theorem dX9_begin_2 : decode cX9_begin 2 = .ok (.putfield 32, 3) := by decide +kernel
theorem dX9_begin_5 : decode cX9_begin 5 = .ok (.aload_n 0, 1) := by decide +kernel
theorem dX9_begin_6 : decode cX9_begin 6 = .ok (.iconst (-1), 1) := by decide +kernel
theorem dX9_begin_7 : decode cX9_begin 7 = .ok (.putfield 25, 3) := by decide +kernel
theorem dX9_begin_10 : decode cX9_begin 10 = .ok (.aload_n 0, 1) := by decide +kernel
theorem dX9_begin_11 : decode cX9_begin 11 = .ok (.iconst 0, 1) := by decide +kernel
theorem dX9_begin_12 : decode cX9_begin 12 = .ok (.putfield 35, 3) := by decide +kernel
theorem dX9_begin_15 : decode cX9_begin 15 = .ok (.aload_n 0, 1) := by decide +kernel
theorem dX9_begin_16 : decode cX9_begin 16 = .ok (.iconst (-1), 1) := by decide +kernel
theorem dX9_begin_17 : decode cX9_begin 17 = .ok (.putfield 38, 3) := by decide +kernel
theorem dX9_begin_20 : decode cX9_begin 20 = .ok (.iconst 0, 1) := by decide +kernel
theorem dX9_begin_21 : decode cX9_begin 21 = .ok (.istore_n 1, 1) := by decide +kernel
theorem dX9_begin_22 : decode cX9_begin 22 = .ok (.iconst 0, 1) := by decide +kernel
theorem dX9_begin_23 : decode cX9_begin 23 = .ok (.istore_n 2, 1) := by decide +kernel
theorem dX9_begin_24 : decode cX9_begin 24 = .ok (.iload_n 2, 1) := by decide +kernel
theorem dX9_begin_25 : decode cX9_begin 25 = .ok (.aload_n 0, 1) := by decide +kernel
theorem dX9_begin_26 : decode cX9_begin 26 = .ok (.getfield 29, 3) := by decide +kernel
theorem dX9_begin_29 : decode cX9_begin 29 = .ok (.if_icmp .ge 70, 3) := by decide +kernel
theorem dX9_begin_32 : decode cX9_begin 32 = .ok (.aload_n 0, 1) := by decide +kernel
theorem dX9_begin_33 : decode cX9_begin 33 = .ok (.iload_n 2, 1) := by decide +kernel
theorem dX9_begin_34 : decode cX9_begin 34 = .ok (.invokevirtual 41, 3) := by decide +kernel
theorem dX9_begin_37 : decode cX9_begin 37 = .ok (.invokestatic 45, 3) := by decide +kernel
theorem dX9_begin_40 : decode cX9_begin 40 = .ok (.istore_n 3, 1) := by decide +kernel
theorem dX9_begin_41 : decode cX9_begin 41 = .ok (.iload_n 3, 1) := by decide +kernel
theorem dX9_begin_42 : decode cX9_begin 42 = .ok (.iload_n 1, 1) := by decide +kernel
theorem dX9_begin_43 : decode cX9_begin 43 = .ok (.if_icmp .ne 38, 3) := by decide +kernel
theorem dX9_begin_46 : decode cX9_begin 46 = .ok (.iload_n 3, 1) := by decide +kernel
theorem dX9_begin_47 : decode cX9_begin 47 = .ok (.iconst 1, 1) := by decide +kernel
theorem dX9_begin_48 : decode cX9_begin 48 = .ok (.if_icmp .eq 8, 3) := by decide +kernel
theorem dX9_begin_51 : decode cX9_begin 51 = .ok (.iload_n 3, 1) := by decide +kernel
theorem dX9_begin_52 : decode cX9_begin 52 = .ok (.iconst 2, 1) := by decide +kernel
theorem dX9_begin_53 : decode cX9_begin 53 = .ok (.if_icmp .ne 28, 3) := by decide +kernel
theorem dX9_begin_56 : decode cX9_begin 56 = .ok (.aload_n 0, 1) := by decide +kernel
theorem dX9_begin_57 : decode cX9_begin 57 = .ok (.getfield 35, 3) := by decide +kernel
theorem dX9_begin_60 : decode cX9_begin 60 = .ok (.ifCond .le 21, 3) := by decide +kernel
theorem dX9_begin_63 : decode cX9_begin 63 = .ok (.aload_n 0, 1) := by decide +kernel
theorem dX9_begin_64 : decode cX9_begin 64 = .ok (.getfield 22, 3) := by decide +kernel
theorem dX9_begin_67 : decode cX9_begin 67 = .ok (.aload_n 0, 1) := by decide +kernel
theorem dX9_begin_68 : decode cX9_begin 68 = .ok (.getfield 35, 3) := by decide +kernel
theorem dX9_begin_71 : decode cX9_begin 71 = .ok (.iconst 1, 1) := by decide +kernel
theorem dX9_begin_72 : decode cX9_begin 72 = .ok (.isub, 1) := by decide +kernel
theorem dX9_begin_73 : decode cX9_begin 73 = .ok (.dup2, 1) := by decide +kernel
theorem dX9_begin_74 : decode cX9_begin 74 = .ok (.iaload, 1) := by decide +kernel
theorem dX9_begin_75 : decode cX9_begin 75 = .ok (.iconst 1, 1) := by decide +kernel
theorem dX9_begin_76 : decode cX9_begin 76 = .ok (.iadd, 1) := by decide +kernel
theorem dX9_begin_77 : decode cX9_begin 77 = .ok (.iastore, 1) := by decide +kernel
theorem dX9_begin_78 : decode cX9_begin 78 = .ok (.goto 13, 3) := by decide +kernel
theorem dX9_begin_81 : decode cX9_begin 81 = .ok (.iload_n 3, 1) := by decide +kernel
theorem dX9_begin_82 : decode cX9_begin 82 = .ok (.ifCond .eq 9, 3) := by decide +kernel
theorem dX9_begin_85 : decode cX9_begin 85 = .ok (.aload_n 0, 1) := by decide +kernel
theorem dX9_begin_86 : decode cX9_begin 86 = .ok (.iload_n 3, 1) := by decide +kernel
theorem dX9_begin_87 : decode cX9_begin 87 = .ok (.iload_n 2, 1) := by decide +kernel
theorem dX9_begin_88 : decode cX9_begin 88 = .ok (.invokevirtual 48, 3) := by decide +kernel
theorem dX9_begin_91 : decode cX9_begin 91 = .ok (.iload_n 3, 1) := by decide +kernel
theorem dX9_begin_92 : decode cX9_begin 92 = .ok (.istore_n 1, 1) := by decide +kernel
theorem dX9_begin_93 : decode cX9_begin 93 = .ok (.iinc 2 1, 3) := by decide +kernel
theorem dX9_begin_96 : decode cX9_begin 96 = .ok (.goto (-72), 3) := by decide +kernel
theorem dX9_begin_99 : decode cX9_begin 99 = .ok (.aload_n 0, 1) := by decide +kernel
theorem dX9_begin_100 : decode cX9_begin 100 = .ok (.iconst 5, 1) := by decide +kernel
theorem dX9_begin_101 : decode cX9_begin 101 = .ok (.aload_n 0, 1) := by decide +kernel
theorem dX9_begin_102 : decode cX9_begin 102 = .ok (.getfield 29, 3) := by decide +kernel
theorem dX9_begin_105 : decode cX9_begin 105 = .ok (.invokevirtual 48, 3) := by decide +kernel
theorem dX9_begin_108 : decode cX9_begin 108 = .ok (.return_, 1) := by decide +kernel
theorem dX9_addToken_0 : decode cX9_addToken 0 = .ok (.aload_n 0, 1) := by decide +kernel
theorem dX9_addToken_1 : decode cX9_addToken 1 = .ok (.getfield 35, 3) := by decide +kernel
theorem dX9_addToken_4 : decode cX9_addToken 4 = .ok (.aload_n 0, 1) := by decide +kernel
theorem dX9_addToken_5 : decode cX9_addToken 5 = .ok (.getfield 15, 3) := by decide +kernel
theorem dX9_addToken_8 : decode cX9_addToken 8 = .ok (.arraylength, 1) := by decide +kernel
theorem dX9_addToken_9 : decode cX9_addToken 9 = .ok (.if_icmp .ge 43, 3) := by decide +kernel
theorem dX9_addToken_12 : decode cX9_addToken 12 = .ok (.aload_n 0, 1) := by decide +kernel
theorem dX9_addToken_13 : decode cX9_addToken 13 = .ok (.getfield 15, 3) := by decide +kernel
theorem dX9_addToken_16 : decode cX9_addToken 16 = .ok (.aload_n 0, 1) := by decide +kernel
theorem dX9_addToken_17 : decode cX9_addToken 17 = .ok (.getfield 35, 3) := by decide +kernel
theorem dX9_addToken_20 : decode cX9_addToken 20 = .ok (.iload_n 1, 1) := by decide +kernel
theorem dX9_addToken_21 : decode cX9_addToken 21 = .ok (.iastore, 1) := by decide +kernel
theorem dX9_addToken_22 : decode cX9_addToken 22 = .ok (.aload_n 0, 1) := by decide +kernel
theorem dX9_addToken_23 : decode cX9_addToken 23 = .ok (.getfield 19, 3) := by decide +kernel
theorem dX9_addToken_26 : decode cX9_addToken 26 = .ok (.aload_n 0, 1) := by decide +kernel
theorem dX9_addToken_27 : decode cX9_addToken 27 = .ok (.getfield 35, 3) := by decide +kernel
theorem dX9_addToken_30 : decode cX9_addToken 30 = .ok (.iload_n 2, 1) := by decide +kernel
theorem dX9_addToken_31 : decode cX9_addToken 31 = .ok (.iastore, 1) := by decide +kernel
theorem dX9_addToken_32 : decode cX9_addToken 32 = .ok (.aload_n 0, 1) := by decide +kernel
theorem dX9_addToken_33 : decode cX9_addToken 33 = .ok (.getfield 22, 3) := by decide +kernel
theorem dX9_addToken_36 : decode cX9_addToken 36 = .ok (.aload_n 0, 1) := by decide +kernel
theorem dX9_addToken_37 : decode cX9_addToken 37 = .ok (.getfield 35, 3) := by decide +kernel
theorem dX9_addToken_40 : decode cX9_addToken 40 = .ok (.iconst 1, 1) := by decide +kernel
theorem dX9_addToken_41 : decode cX9_addToken 41 = .ok (.iastore, 1) := by decide +kernel
theorem dX9_addToken_42 : decode cX9_addToken 42 = .ok (.aload_n 0, 1) := by decide +kernel
theorem dX9_addToken_43 : decode cX9_addToken 43 = .ok (.dup, 1) := by decide +kernel
theorem dX9_addToken_44 : decode cX9_addToken 44 = .ok (.getfield 35, 3) := by decide +kernel
theorem dX9_addToken_47 : decode cX9_addToken 47 = .ok (.iconst 1, 1) := by decide +kernel
theorem dX9_addToken_48 : decode cX9_addToken 48 = .ok (.iadd, 1) := by decide +kernel
theorem dX9_addToken_49 : decode cX9_addToken 49 = .ok (.putfield 35, 3) := by decide +kernel
theorem dX9_addToken_52 : decode cX9_addToken 52 = .ok (.return_, 1) := by decide +kernel
theorem dX9_kindOf_0 : decode cX9_kindOf 0 = .ok (.iload_n 0, 1) := by decide +kernel
theorem dX9_kindOf_1 : decode cX9_kindOf 1 = .ok (.bipush 32, 2) := by decide +kernel
theorem dX9_kindOf_3 : decode cX9_kindOf 3 = .ok (.if_icmp .eq 9, 3) := by decide +kernel
theorem dX9_kindOf_6 : decode cX9_kindOf 6 = .ok (.iload_n 0, 1) := by decide +kernel
theorem dX9_kindOf_7 : decode cX9_kindOf 7 = .ok (.bipush 10, 2) := by decide +kernel
theorem dX9_kindOf_9 : decode cX9_kindOf 9 = .ok (.if_icmp .ne 5, 3) := by decide +kernel
theorem dX9_kindOf_12 : decode cX9_kindOf 12 = .ok (.iconst 0, 1) := by decide +kernel
theorem dX9_kindOf_13 : decode cX9_kindOf 13 = .ok (.ireturn, 1) := by decide +kernel
theorem dX9_kindOf_14 : decode cX9_kindOf 14 = .ok (.iload_n 0, 1) := by decide +kernel
theorem dX9_kindOf_15 : decode cX9_kindOf 15 = .ok (.bipush 97, 2) := by decide +kernel
theorem dX9_kindOf_17 : decode cX9_kindOf 17 = .ok (.if_icmp .lt 11, 3) := by decide +kernel
theorem dX9_kindOf_20 : decode cX9_kindOf 20 = .ok (.iload_n 0, 1) := by decide +kernel
theorem dX9_kindOf_21 : decode cX9_kindOf 21 = .ok (.bipush 122, 2) := by decide +kernel
theorem dX9_kindOf_23 : decode cX9_kindOf 23 = .ok (.if_icmp .gt 5, 3) := by decide +kernel
theorem dX9_kindOf_26 : decode cX9_kindOf 26 = .ok (.iconst 1, 1) := by decide +kernel
theorem dX9_kindOf_27 : decode cX9_kindOf 27 = .ok (.ireturn, 1) := by decide +kernel
theorem dX9_kindOf_28 : decode cX9_kindOf 28 = .ok (.iload_n 0, 1) := by decide +kernel
theorem dX9_kindOf_29 : decode cX9_kindOf 29 = .ok (.bipush 48, 2) := by decide +kernel
theorem dX9_kindOf_31 : decode cX9_kindOf 31 = .ok (.if_icmp .lt 11, 3) := by decide +kernel
theorem dX9_kindOf_34 : decode cX9_kindOf 34 = .ok (.iload_n 0, 1) := by decide +kernel
theorem dX9_kindOf_35 : decode cX9_kindOf 35 = .ok (.bipush 57, 2) := by decide +kernel
theorem dX9_kindOf_37 : decode cX9_kindOf 37 = .ok (.if_icmp .gt 5, 3) := by decide +kernel
theorem dX9_kindOf_40 : decode cX9_kindOf 40 = .ok (.iconst 2, 1) := by decide +kernel
theorem dX9_kindOf_41 : decode cX9_kindOf 41 = .ok (.ireturn, 1) := by decide +kernel
theorem dX9_kindOf_42 : decode cX9_kindOf 42 = .ok (.iload_n 0, 1) := by decide +kernel
theorem dX9_kindOf_43 : decode cX9_kindOf 43 = .ok (.bipush 59, 2) := by decide +kernel
theorem dX9_kindOf_45 : decode cX9_kindOf 45 = .ok (.if_icmp .eq 15, 3) := by decide +kernel
theorem dX9_kindOf_48 : decode cX9_kindOf 48 = .ok (.iload_n 0, 1) := by decide +kernel
theorem dX9_kindOf_49 : decode cX9_kindOf 49 = .ok (.bipush 40, 2) := by decide +kernel
theorem dX9_kindOf_51 : decode cX9_kindOf 51 = .ok (.if_icmp .eq 9, 3) := by decide +kernel
theorem dX9_kindOf_54 : decode cX9_kindOf 54 = .ok (.iload_n 0, 1) := by decide +kernel
theorem dX9_kindOf_55 : decode cX9_kindOf 55 = .ok (.bipush 41, 2) := by decide +kernel
theorem dX9_kindOf_57 : decode cX9_kindOf 57 = .ok (.if_icmp .ne 7, 3) := by decide +kernel
theorem dX9_kindOf_60 : decode cX9_kindOf 60 = .ok (.iconst 3, 1) := by decide +kernel
theorem dX9_kindOf_61 : decode cX9_kindOf 61 = .ok (.goto 4, 3) := by decide +kernel
theorem dX9_kindOf_64 : decode cX9_kindOf 64 = .ok (.iconst 4, 1) := by decide +kernel
theorem dX9_kindOf_65 : decode cX9_kindOf 65 = .ok (.ireturn, 1) := by decide +kernel
theorem dX9_byteAt_0 : decode cX9_byteAt 0 = .ok (.iload_n 1, 1) := by decide +kernel
theorem dX9_byteAt_1 : decode cX9_byteAt 1 = .ok (.ifCond .lt 31, 3) := by decide +kernel
theorem dX9_byteAt_4 : decode cX9_byteAt 4 = .ok (.iload_n 1, 1) := by decide +kernel
theorem dX9_byteAt_5 : decode cX9_byteAt 5 = .ok (.aload_n 0, 1) := by decide +kernel
theorem dX9_byteAt_6 : decode cX9_byteAt 6 = .ok (.getfield 29, 3) := by decide +kernel
theorem dX9_byteAt_9 : decode cX9_byteAt 9 = .ok (.if_icmp .ge 23, 3) := by decide +kernel
theorem dX9_byteAt_12 : decode cX9_byteAt 12 = .ok (.iload_n 1, 1) := by decide +kernel
theorem dX9_byteAt_13 : decode cX9_byteAt 13 = .ok (.sipush 700, 3) := by decide +kernel
theorem dX9_byteAt_16 : decode cX9_byteAt 16 = .ok (.if_icmp .ge 16, 3) := by decide +kernel
theorem dX9_byteAt_19 : decode cX9_byteAt 19 = .ok (.aload_n 0, 1) := by decide +kernel
theorem dX9_byteAt_20 : decode cX9_byteAt 20 = .ok (.getfield 9, 3) := by decide +kernel
theorem dX9_byteAt_23 : decode cX9_byteAt 23 = .ok (.iload_n 1, 1) := by decide +kernel
theorem dX9_byteAt_24 : decode cX9_byteAt 24 = .ok (.baload, 1) := by decide +kernel
theorem dX9_byteAt_25 : decode cX9_byteAt 25 = .ok (.sipush 255, 3) := by decide +kernel
theorem dX9_byteAt_28 : decode cX9_byteAt 28 = .ok (.iand, 1) := by decide +kernel
theorem dX9_byteAt_29 : decode cX9_byteAt 29 = .ok (.goto 4, 3) := by decide +kernel
theorem dX9_byteAt_32 : decode cX9_byteAt 32 = .ok (.iconst (-1), 1) := by decide +kernel
theorem dX9_byteAt_33 : decode cX9_byteAt 33 = .ok (.ireturn, 1) := by decide +kernel
theorem dX9_advance_0 : decode cX9_advance 0 = .ok (.aload_n 0, 1) := by decide +kernel
theorem dX9_advance_1 : decode cX9_advance 1 = .ok (.getfield 38, 3) := by decide +kernel
theorem dX9_advance_4 : decode cX9_advance 4 = .ok (.iconst 1, 1) := by decide +kernel
theorem dX9_advance_5 : decode cX9_advance 5 = .ok (.iadd, 1) := by decide +kernel
theorem dX9_advance_6 : decode cX9_advance 6 = .ok (.aload_n 0, 1) := by decide +kernel
theorem dX9_advance_7 : decode cX9_advance 7 = .ok (.getfield 35, 3) := by decide +kernel
theorem dX9_advance_10 : decode cX9_advance 10 = .ok (.if_icmp .ge 13, 3) := by decide +kernel
theorem dX9_advance_13 : decode cX9_advance 13 = .ok (.aload_n 0, 1) := by decide +kernel
theorem dX9_advance_14 : decode cX9_advance 14 = .ok (.dup, 1) := by decide +kernel
theorem dX9_advance_15 : decode cX9_advance 15 = .ok (.getfield 38, 3) := by decide +kernel
theorem dX9_advance_18 : decode cX9_advance 18 = .ok (.iconst 1, 1) := by decide +kernel
theorem dX9_advance_19 : decode cX9_advance 19 = .ok (.iadd, 1) := by decide +kernel
theorem dX9_advance_20 : decode cX9_advance 20 = .ok (.putfield 38, 3) := by decide +kernel
theorem dX9_advance_23 : decode cX9_advance 23 = .ok (.aload_n 0, 1) := by decide +kernel
theorem dX9_advance_24 : decode cX9_advance 24 = .ok (.getfield 38, 3) := by decide +kernel
theorem dX9_advance_27 : decode cX9_advance 27 = .ok (.ifCond .lt 15, 3) := by decide +kernel
theorem dX9_advance_30 : decode cX9_advance 30 = .ok (.aload_n 0, 1) := by decide +kernel
theorem dX9_advance_31 : decode cX9_advance 31 = .ok (.getfield 38, 3) := by decide +kernel
theorem dX9_advance_34 : decode cX9_advance 34 = .ok (.aload_n 0, 1) := by decide +kernel
theorem dX9_advance_35 : decode cX9_advance 35 = .ok (.getfield 15, 3) := by decide +kernel
theorem dX9_advance_38 : decode cX9_advance 38 = .ok (.arraylength, 1) := by decide +kernel
theorem dX9_advance_39 : decode cX9_advance 39 = .ok (.if_icmp .lt 4, 3) := by decide +kernel
theorem dX9_advance_42 : decode cX9_advance 42 = .ok (.return_, 1) := by decide +kernel
theorem dX9_advance_43 : decode cX9_advance 43 = .ok (.aload_n 0, 1) := by decide +kernel
theorem dX9_advance_44 : decode cX9_advance 44 = .ok (.aload_n 0, 1) := by decide +kernel
theorem dX9_advance_45 : decode cX9_advance 45 = .ok (.getfield 15, 3) := by decide +kernel
theorem dX9_advance_48 : decode cX9_advance 48 = .ok (.aload_n 0, 1) := by decide +kernel
theorem dX9_advance_49 : decode cX9_advance 49 = .ok (.getfield 38, 3) := by decide +kernel
theorem dX9_advance_52 : decode cX9_advance 52 = .ok (.iaload, 1) := by decide +kernel
theorem dX9_advance_53 : decode cX9_advance 53 = .ok (.putfield 52, 3) := by decide +kernel
theorem dX9_advance_56 : decode cX9_advance 56 = .ok (.aload_n 0, 1) := by decide +kernel
theorem dX9_advance_57 : decode cX9_advance 57 = .ok (.aload_n 0, 1) := by decide +kernel
theorem dX9_advance_58 : decode cX9_advance 58 = .ok (.getfield 19, 3) := by decide +kernel
theorem dX9_advance_61 : decode cX9_advance 61 = .ok (.aload_n 0, 1) := by decide +kernel
theorem dX9_advance_62 : decode cX9_advance 62 = .ok (.getfield 38, 3) := by decide +kernel
theorem dX9_advance_65 : decode cX9_advance 65 = .ok (.iaload, 1) := by decide +kernel
theorem dX9_advance_66 : decode cX9_advance 66 = .ok (.putfield 55, 3) := by decide +kernel
theorem dX9_advance_69 : decode cX9_advance 69 = .ok (.aload_n 0, 1) := by decide +kernel
theorem dX9_advance_70 : decode cX9_advance 70 = .ok (.aload_n 0, 1) := by decide +kernel
theorem dX9_advance_71 : decode cX9_advance 71 = .ok (.getfield 22, 3) := by decide +kernel
theorem dX9_advance_74 : decode cX9_advance 74 = .ok (.aload_n 0, 1) := by decide +kernel
theorem dX9_advance_75 : decode cX9_advance 75 = .ok (.getfield 38, 3) := by decide +kernel
theorem dX9_advance_78 : decode cX9_advance 78 = .ok (.iaload, 1) := by decide +kernel
theorem dX9_advance_79 : decode cX9_advance 79 = .ok (.putfield 58, 3) := by decide +kernel
theorem dX9_advance_82 : decode cX9_advance 82 = .ok (.aload_n 0, 1) := by decide +kernel
theorem dX9_advance_83 : decode cX9_advance 83 = .ok (.getfield 52, 3) := by decide +kernel
theorem dX9_advance_86 : decode cX9_advance 86 = .ok (.iconst 1, 1) := by decide +kernel
theorem dX9_advance_87 : decode cX9_advance 87 = .ok (.if_icmp .ne 12, 3) := by decide +kernel
theorem dX9_advance_90 : decode cX9_advance 90 = .ok (.aload_n 0, 1) := by decide +kernel
theorem dX9_advance_91 : decode cX9_advance 91 = .ok (.getfield 58, 3) := by decide +kernel
theorem dX9_advance_94 : decode cX9_advance 94 = .ok (.bipush 8, 2) := by decide +kernel
theorem dX9_advance_96 : decode cX9_advance 96 = .ok (.if_icmp .gt 19, 3) := by decide +kernel
theorem dX9_advance_99 : decode cX9_advance 99 = .ok (.aload_n 0, 1) := by decide +kernel
theorem dX9_advance_100 : decode cX9_advance 100 = .ok (.getfield 52, 3) := by decide +kernel
theorem dX9_advance_103 : decode cX9_advance 103 = .ok (.iconst 2, 1) := by decide +kernel
theorem dX9_advance_104 : decode cX9_advance 104 = .ok (.if_icmp .ne 16, 3) := by decide +kernel
theorem dX9_advance_107 : decode cX9_advance 107 = .ok (.aload_n 0, 1) := by decide +kernel
theorem dX9_advance_108 : decode cX9_advance 108 = .ok (.getfield 58, 3) := by decide +kernel
theorem dX9_advance_111 : decode cX9_advance 111 = .ok (.iconst 3, 1) := by decide +kernel
theorem dX9_advance_112 : decode cX9_advance 112 = .ok (.if_icmp .le 8, 3) := by decide +kernel
theorem dX9_advance_115 : decode cX9_advance 115 = .ok (.aload_n 0, 1) := by decide +kernel
theorem dX9_advance_116 : decode cX9_advance 116 = .ok (.iconst 4, 1) := by decide +kernel
theorem dX9_advance_117 : decode cX9_advance 117 = .ok (.putfield 52, 3) := by decide +kernel
theorem dX9_advance_120 : decode cX9_advance 120 = .ok (.return_, 1) := by decide +kernel
theorem dX9_fail_0 : decode cX9_fail 0 = .ok (.aload_n 0, 1) := by decide +kernel
theorem dX9_fail_1 : decode cX9_fail 1 = .ok (.iload_n 1, 1) := by decide +kernel
theorem dX9_fail_2 : decode cX9_fail 2 = .ok (.putfield 32, 3) := by decide +kernel
theorem dX9_fail_5 : decode cX9_fail 5 = .ok (.aload_n 0, 1) := by decide +kernel
theorem dX9_fail_6 : decode cX9_fail 6 = .ok (.aload_n 0, 1) := by decide +kernel
theorem dX9_fail_7 : decode cX9_fail 7 = .ok (.getfield 55, 3) := by decide +kernel
theorem dX9_fail_10 : decode cX9_fail 10 = .ok (.putfield 25, 3) := by decide +kernel
theorem dX9_fail_13 : decode cX9_fail 13 = .ok (.iconst 0, 1) := by decide +kernel
theorem dX9_fail_14 : decode cX9_fail 14 = .ok (.ireturn, 1) := by decide +kernel
theorem dX9_isWord_0 : decode cX9_isWord 0 = .ok (.aload_n 0, 1) := by decide +kernel
theorem dX9_isWord_1 : decode cX9_isWord 1 = .ok (.getfield 52, 3) := by decide +kernel
theorem dX9_isWord_4 : decode cX9_isWord 4 = .ok (.iconst 1, 1) := by decide +kernel
theorem dX9_isWord_5 : decode cX9_isWord 5 = .ok (.if_icmp .ne 14, 3) := by decide +kernel
theorem dX9_isWord_8 : decode cX9_isWord 8 = .ok (.aload_n 0, 1) := by decide +kernel
theorem dX9_isWord_9 : decode cX9_isWord 9 = .ok (.getfield 58, 3) := by decide +kernel
theorem dX9_isWord_12 : decode cX9_isWord 12 = .ok (.aload_n 1, 1) := by decide +kernel
theorem dX9_isWord_13 : decode cX9_isWord 13 = .ok (.invokevirtual 61, 3) := by decide +kernel
theorem dX9_isWord_16 : decode cX9_isWord 16 = .ok (.if_icmp .eq 5, 3) := by decide +kernel
theorem dX9_isWord_19 : decode cX9_isWord 19 = .ok (.iconst 0, 1) := by decide +kernel
theorem dX9_isWord_20 : decode cX9_isWord 20 = .ok (.ireturn, 1) := by decide +kernel
theorem dX9_isWord_21 : decode cX9_isWord 21 = .ok (.iconst 0, 1) := by decide +kernel
theorem dX9_isWord_22 : decode cX9_isWord 22 = .ok (.istore_n 2, 1) := by decide +kernel
theorem dX9_isWord_23 : decode cX9_isWord 23 = .ok (.iload_n 2, 1) := by decide +kernel
theorem dX9_isWord_24 : decode cX9_isWord 24 = .ok (.aload_n 0, 1) := by decide +kernel
theorem dX9_isWord_25 : decode cX9_isWord 25 = .ok (.getfield 58, 3) := by decide +kernel
theorem dX9_isWord_28 : decode cX9_isWord 28 = .ok (.if_icmp .ge 51, 3) := by decide +kernel
theorem dX9_isWord_31 : decode cX9_isWord 31 = .ok (.aload_n 0, 1) := by decide +kernel
theorem dX9_isWord_32 : decode cX9_isWord 32 = .ok (.getfield 55, 3) := by decide +kernel
theorem dX9_isWord_35 : decode cX9_isWord 35 = .ok (.iload_n 2, 1) := by decide +kernel
theorem dX9_isWord_36 : decode cX9_isWord 36 = .ok (.iadd, 1) := by decide +kernel
theorem dX9_isWord_37 : decode cX9_isWord 37 = .ok (.istore_n 3, 1) := by decide +kernel
theorem dX9_isWord_38 : decode cX9_isWord 38 = .ok (.iload_n 3, 1) := by decide +kernel
theorem dX9_isWord_39 : decode cX9_isWord 39 = .ok (.ifCond .lt 32, 3) := by decide +kernel
theorem dX9_isWord_42 : decode cX9_isWord 42 = .ok (.iload_n 3, 1) := by decide +kernel
theorem dX9_isWord_43 : decode cX9_isWord 43 = .ok (.aload_n 0, 1) := by decide +kernel
theorem dX9_isWord_44 : decode cX9_isWord 44 = .ok (.getfield 29, 3) := by decide +kernel
theorem dX9_isWord_47 : decode cX9_isWord 47 = .ok (.if_icmp .ge 24, 3) := by decide +kernel
theorem dX9_isWord_50 : decode cX9_isWord 50 = .ok (.iload_n 3, 1) := by decide +kernel
theorem dX9_isWord_51 : decode cX9_isWord 51 = .ok (.sipush 700, 3) := by decide +kernel
theorem dX9_isWord_54 : decode cX9_isWord 54 = .ok (.if_icmp .ge 17, 3) := by decide +kernel
theorem dX9_isWord_57 : decode cX9_isWord 57 = .ok (.aload_n 0, 1) := by decide +kernel
theorem dX9_isWord_58 : decode cX9_isWord 58 = .ok (.getfield 9, 3) := by decide +kernel
theorem dX9_isWord_61 : decode cX9_isWord 61 = .ok (.iload_n 3, 1) := by decide +kernel
theorem dX9_isWord_62 : decode cX9_isWord 62 = .ok (.baload, 1) := by decide +kernel
theorem dX9_isWord_63 : decode cX9_isWord 63 = .ok (.aload_n 1, 1) := by decide +kernel
theorem dX9_isWord_64 : decode cX9_isWord 64 = .ok (.iload_n 2, 1) := by decide +kernel
theorem dX9_isWord_65 : decode cX9_isWord 65 = .ok (.invokevirtual 66, 3) := by decide +kernel
theorem dX9_isWord_68 : decode cX9_isWord 68 = .ok (.if_icmp .eq 5, 3) := by decide +kernel
theorem dX9_isWord_71 : decode cX9_isWord 71 = .ok (.iconst 0, 1) := by decide +kernel
theorem dX9_isWord_72 : decode cX9_isWord 72 = .ok (.ireturn, 1) := by decide +kernel
theorem dX9_isWord_73 : decode cX9_isWord 73 = .ok (.iinc 2 1, 3) := by decide +kernel
theorem dX9_isWord_76 : decode cX9_isWord 76 = .ok (.goto (-53), 3) := by decide +kernel
theorem dX9_isWord_79 : decode cX9_isWord 79 = .ok (.iconst 1, 1) := by decide +kernel
theorem dX9_isWord_80 : decode cX9_isWord 80 = .ok (.ireturn, 1) := by decide +kernel
theorem dX9_isSign_0 : decode cX9_isSign 0 = .ok (.aload_n 0, 1) := by decide +kernel
theorem dX9_isSign_1 : decode cX9_isSign 1 = .ok (.getfield 52, 3) := by decide +kernel
theorem dX9_isSign_4 : decode cX9_isSign 4 = .ok (.iconst 3, 1) := by decide +kernel
theorem dX9_isSign_5 : decode cX9_isSign 5 = .ok (.if_icmp .ne 19, 3) := by decide +kernel
theorem dX9_isSign_8 : decode cX9_isSign 8 = .ok (.aload_n 0, 1) := by decide +kernel
theorem dX9_isSign_9 : decode cX9_isSign 9 = .ok (.aload_n 0, 1) := by decide +kernel
theorem dX9_isSign_10 : decode cX9_isSign 10 = .ok (.getfield 55, 3) := by decide +kernel
theorem dX9_isSign_13 : decode cX9_isSign 13 = .ok (.invokevirtual 41, 3) := by decide +kernel
theorem dX9_isSign_16 : decode cX9_isSign 16 = .ok (.iload_n 1, 1) := by decide +kernel
theorem dX9_isSign_17 : decode cX9_isSign 17 = .ok (.if_icmp .ne 7, 3) := by decide +kernel
theorem dX9_isSign_20 : decode cX9_isSign 20 = .ok (.iconst 1, 1) := by decide +kernel
theorem dX9_isSign_21 : decode cX9_isSign 21 = .ok (.goto 4, 3) := by decide +kernel
theorem dX9_isSign_24 : decode cX9_isSign 24 = .ok (.iconst 0, 1) := by decide +kernel
theorem dX9_isSign_25 : decode cX9_isSign 25 = .ok (.ireturn, 1) := by decide +kernel
theorem dX9_isSameWord_0 : decode cX9_isSameWord 0 = .ok (.aload_n 0, 1) := by decide +kernel
theorem dX9_isSameWord_1 : decode cX9_isSameWord 1 = .ok (.getfield 52, 3) := by decide +kernel
theorem dX9_isSameWord_4 : decode cX9_isSameWord 4 = .ok (.iconst 1, 1) := by decide +kernel
theorem dX9_isSameWord_5 : decode cX9_isSameWord 5 = .ok (.if_icmp .ne 11, 3) := by decide +kernel
theorem dX9_isSameWord_8 : decode cX9_isSameWord 8 = .ok (.aload_n 0, 1) := by decide +kernel
theorem dX9_isSameWord_9 : decode cX9_isSameWord 9 = .ok (.getfield 58, 3) := by decide +kernel
theorem dX9_isSameWord_12 : decode cX9_isSameWord 12 = .ok (.iload_n 2, 1) := by decide +kernel
theorem dX9_isSameWord_13 : decode cX9_isSameWord 13 = .ok (.if_icmp .eq 5, 3) := by decide +kernel
theorem dX9_isSameWord_16 : decode cX9_isSameWord 16 = .ok (.iconst 0, 1) := by decide +kernel
theorem dX9_isSameWord_17 : decode cX9_isSameWord 17 = .ok (.ireturn, 1) := by decide +kernel
theorem dX9_isSameWord_18 : decode cX9_isSameWord 18 = .ok (.iconst 0, 1) := by decide +kernel
theorem dX9_isSameWord_19 : decode cX9_isSameWord 19 = .ok (.istore_n 3, 1) := by decide +kernel
theorem dX9_isSameWord_20 : decode cX9_isSameWord 20 = .ok (.iload_n 3, 1) := by decide +kernel
theorem dX9_isSameWord_21 : decode cX9_isSameWord 21 = .ok (.iload_n 2, 1) := by decide +kernel
theorem dX9_isSameWord_22 : decode cX9_isSameWord 22 = .ok (.if_icmp .ge 31, 3) := by decide +kernel
theorem dX9_isSameWord_25 : decode cX9_isSameWord 25 = .ok (.aload_n 0, 1) := by decide +kernel
theorem dX9_isSameWord_26 : decode cX9_isSameWord 26 = .ok (.aload_n 0, 1) := by decide +kernel
theorem dX9_isSameWord_27 : decode cX9_isSameWord 27 = .ok (.getfield 55, 3) := by decide +kernel
theorem dX9_isSameWord_30 : decode cX9_isSameWord 30 = .ok (.iload_n 3, 1) := by decide +kernel
theorem dX9_isSameWord_31 : decode cX9_isSameWord 31 = .ok (.iadd, 1) := by decide +kernel
theorem dX9_isSameWord_32 : decode cX9_isSameWord 32 = .ok (.invokevirtual 41, 3) := by decide +kernel
theorem dX9_isSameWord_35 : decode cX9_isSameWord 35 = .ok (.aload_n 0, 1) := by decide +kernel
theorem dX9_isSameWord_36 : decode cX9_isSameWord 36 = .ok (.iload_n 1, 1) := by decide +kernel
theorem dX9_isSameWord_37 : decode cX9_isSameWord 37 = .ok (.iload_n 3, 1) := by decide +kernel
theorem dX9_isSameWord_38 : decode cX9_isSameWord 38 = .ok (.iadd, 1) := by decide +kernel
theorem dX9_isSameWord_39 : decode cX9_isSameWord 39 = .ok (.invokevirtual 41, 3) := by decide +kernel
theorem dX9_isSameWord_42 : decode cX9_isSameWord 42 = .ok (.if_icmp .eq 5, 3) := by decide +kernel
theorem dX9_isSameWord_45 : decode cX9_isSameWord 45 = .ok (.iconst 0, 1) := by decide +kernel
theorem dX9_isSameWord_46 : decode cX9_isSameWord 46 = .ok (.ireturn, 1) := by decide +kernel
theorem dX9_isSameWord_47 : decode cX9_isSameWord 47 = .ok (.iinc 3 1, 3) := by decide +kernel
theorem dX9_isSameWord_50 : decode cX9_isSameWord 50 = .ok (.goto (-30), 3) := by decide +kernel
theorem dX9_isSameWord_53 : decode cX9_isSameWord 53 = .ok (.iconst 1, 1) := by decide +kernel
theorem dX9_isSameWord_54 : decode cX9_isSameWord 54 = .ok (.ireturn, 1) := by decide +kernel
theorem dX9_side_0 : decode cX9_side 0 = .ok (.aload_n 0, 1) := by decide +kernel
theorem dX9_side_1 : decode cX9_side 1 = .ok (.ldc 70, 2) := by decide +kernel
theorem dX9_side_3 : decode cX9_side 3 = .ok (.invokevirtual 72, 3) := by decide +kernel
theorem dX9_side_6 : decode cX9_side 6 = .ok (.ifCond .eq 5, 3) := by decide +kernel
theorem dX9_side_9 : decode cX9_side 9 = .ok (.iconst 0, 1) := by decide +kernel
theorem dX9_side_10 : decode cX9_side 10 = .ok (.ireturn, 1) := by decide +kernel
theorem dX9_side_11 : decode cX9_side 11 = .ok (.aload_n 0, 1) := by decide +kernel
theorem dX9_side_12 : decode cX9_side 12 = .ok (.ldc 76, 2) := by decide +kernel
theorem dX9_side_14 : decode cX9_side 14 = .ok (.invokevirtual 72, 3) := by decide +kernel
theorem dX9_side_17 : decode cX9_side 17 = .ok (.ifCond .eq 5, 3) := by decide +kernel
theorem dX9_side_20 : decode cX9_side 20 = .ok (.iconst 1, 1) := by decide +kernel
theorem dX9_side_21 : decode cX9_side 21 = .ok (.ireturn, 1) := by decide +kernel
theorem dX9_side_22 : decode cX9_side 22 = .ok (.aload_n 0, 1) := by decide +kernel
theorem dX9_side_23 : decode cX9_side 23 = .ok (.ldc 78, 2) := by decide +kernel
theorem dX9_side_25 : decode cX9_side 25 = .ok (.invokevirtual 72, 3) := by decide +kernel
theorem dX9_side_28 : decode cX9_side 28 = .ok (.ifCond .eq 5, 3) := by decide +kernel
theorem dX9_side_31 : decode cX9_side 31 = .ok (.iconst 2, 1) := by decide +kernel
theorem dX9_side_32 : decode cX9_side 32 = .ok (.ireturn, 1) := by decide +kernel
theorem dX9_side_33 : decode cX9_side 33 = .ok (.aload_n 0, 1) := by decide +kernel
theorem dX9_side_34 : decode cX9_side 34 = .ok (.ldc 80, 2) := by decide +kernel
theorem dX9_side_36 : decode cX9_side 36 = .ok (.invokevirtual 72, 3) := by decide +kernel
theorem dX9_side_39 : decode cX9_side 39 = .ok (.ifCond .eq 7, 3) := by decide +kernel
theorem dX9_side_42 : decode cX9_side 42 = .ok (.iconst 3, 1) := by decide +kernel
theorem dX9_side_43 : decode cX9_side 43 = .ok (.goto 4, 3) := by decide +kernel
theorem dX9_side_46 : decode cX9_side 46 = .ok (.iconst (-1), 1) := by decide +kernel
theorem dX9_side_47 : decode cX9_side 47 = .ok (.ireturn, 1) := by decide +kernel
theorem dX9_needSide_0 : decode cX9_needSide 0 = .ok (.aload_n 0, 1) := by decide +kernel
theorem dX9_needSide_1 : decode cX9_needSide 1 = .ok (.invokevirtual 82, 3) := by decide +kernel
theorem dX9_needSide_4 : decode cX9_needSide 4 = .ok (.aload_n 0, 1) := by decide +kernel
theorem dX9_needSide_5 : decode cX9_needSide 5 = .ok (.invokevirtual 85, 3) := by decide +kernel
theorem dX9_needSide_8 : decode cX9_needSide 8 = .ok (.istore_n 1, 1) := by decide +kernel
theorem dX9_needSide_9 : decode cX9_needSide 9 = .ok (.iload_n 1, 1) := by decide +kernel
theorem dX9_needSide_10 : decode cX9_needSide 10 = .ok (.iconst (-1), 1) := by decide +kernel
theorem dX9_needSide_11 : decode cX9_needSide 11 = .ok (.if_icmp .ne 9, 3) := by decide +kernel
theorem dX9_needSide_14 : decode cX9_needSide 14 = .ok (.aload_n 0, 1) := by decide +kernel
theorem dX9_needSide_15 : decode cX9_needSide 15 = .ok (.iconst 1, 1) := by decide +kernel
theorem dX9_needSide_16 : decode cX9_needSide 16 = .ok (.invokevirtual 88, 3) := by decide +kernel
theorem dX9_needSide_19 : decode cX9_needSide 19 = .ok (.pop, 1) := by decide +kernel
theorem dX9_needSide_20 : decode cX9_needSide 20 = .ok (.iload_n 1, 1) := by decide +kernel
theorem dX9_needSide_21 : decode cX9_needSide 21 = .ok (.ireturn, 1) := by decide +kernel
theorem dX9_needWay_0 : decode cX9_needWay 0 = .ok (.aload_n 0, 1) := by decide +kernel
theorem dX9_needWay_1 : decode cX9_needWay 1 = .ok (.invokevirtual 82, 3) := by decide +kernel
theorem dX9_needWay_4 : decode cX9_needWay 4 = .ok (.aload_n 0, 1) := by decide +kernel
theorem dX9_needWay_5 : decode cX9_needWay 5 = .ok (.ldc 92, 2) := by decide +kernel
theorem dX9_needWay_7 : decode cX9_needWay 7 = .ok (.invokevirtual 72, 3) := by decide +kernel
theorem dX9_needWay_10 : decode cX9_needWay 10 = .ok (.ifCond .eq 5, 3) := by decide +kernel
theorem dX9_needWay_13 : decode cX9_needWay 13 = .ok (.iconst 0, 1) := by decide +kernel
theorem dX9_needWay_14 : decode cX9_needWay 14 = .ok (.ireturn, 1) := by decide +kernel
theorem dX9_needWay_15 : decode cX9_needWay 15 = .ok (.aload_n 0, 1) := by decide +kernel
theorem dX9_needWay_16 : decode cX9_needWay 16 = .ok (.ldc 94, 2) := by decide +kernel
theorem dX9_needWay_18 : decode cX9_needWay 18 = .ok (.invokevirtual 72, 3) := by decide +kernel
theorem dX9_needWay_21 : decode cX9_needWay 21 = .ok (.ifCond .eq 5, 3) := by decide +kernel
theorem dX9_needWay_24 : decode cX9_needWay 24 = .ok (.iconst 1, 1) := by decide +kernel
theorem dX9_needWay_25 : decode cX9_needWay 25 = .ok (.ireturn, 1) := by decide +kernel
theorem dX9_needWay_26 : decode cX9_needWay 26 = .ok (.aload_n 0, 1) := by decide +kernel
theorem dX9_needWay_27 : decode cX9_needWay 27 = .ok (.iconst 1, 1) := by decide +kernel
theorem dX9_needWay_28 : decode cX9_needWay 28 = .ok (.invokevirtual 88, 3) := by decide +kernel
theorem dX9_needWay_31 : decode cX9_needWay 31 = .ok (.pop, 1) := by decide +kernel
theorem dX9_needWay_32 : decode cX9_needWay 32 = .ok (.iconst (-1), 1) := by decide +kernel
theorem dX9_needWay_33 : decode cX9_needWay 33 = .ok (.ireturn, 1) := by decide +kernel
theorem dX9_needSign_0 : decode cX9_needSign 0 = .ok (.aload_n 0, 1) := by decide +kernel
theorem dX9_needSign_1 : decode cX9_needSign 1 = .ok (.invokevirtual 82, 3) := by decide +kernel
theorem dX9_needSign_4 : decode cX9_needSign 4 = .ok (.aload_n 0, 1) := by decide +kernel
theorem dX9_needSign_5 : decode cX9_needSign 5 = .ok (.iload_n 1, 1) := by decide +kernel
theorem dX9_needSign_6 : decode cX9_needSign 6 = .ok (.invokevirtual 96, 3) := by decide +kernel
theorem dX9_needSign_9 : decode cX9_needSign 9 = .ok (.ifCond .ne 11, 3) := by decide +kernel
theorem dX9_needSign_12 : decode cX9_needSign 12 = .ok (.aload_n 0, 1) := by decide +kernel
theorem dX9_needSign_13 : decode cX9_needSign 13 = .ok (.iconst 1, 1) := by decide +kernel
theorem dX9_needSign_14 : decode cX9_needSign 14 = .ok (.invokevirtual 88, 3) := by decide +kernel
theorem dX9_needSign_17 : decode cX9_needSign 17 = .ok (.ifCond .eq 7, 3) := by decide +kernel
theorem dX9_needSign_20 : decode cX9_needSign 20 = .ok (.iconst 1, 1) := by decide +kernel
theorem dX9_needSign_21 : decode cX9_needSign 21 = .ok (.goto 4, 3) := by decide +kernel
theorem dX9_needSign_24 : decode cX9_needSign 24 = .ok (.iconst 0, 1) := by decide +kernel
theorem dX9_needSign_25 : decode cX9_needSign 25 = .ok (.ireturn, 1) := by decide +kernel
theorem dX9_needNumber_0 : decode cX9_needNumber 0 = .ok (.aload_n 0, 1) := by decide +kernel
theorem dX9_needNumber_1 : decode cX9_needNumber 1 = .ok (.invokevirtual 82, 3) := by decide +kernel
theorem dX9_needNumber_4 : decode cX9_needNumber 4 = .ok (.aload_n 0, 1) := by decide +kernel
theorem dX9_needNumber_5 : decode cX9_needNumber 5 = .ok (.getfield 52, 3) := by decide +kernel
theorem dX9_needNumber_8 : decode cX9_needNumber 8 = .ok (.iconst 2, 1) := by decide +kernel
theorem dX9_needNumber_9 : decode cX9_needNumber 9 = .ok (.if_icmp .eq 9, 3) := by decide +kernel
theorem dX9_needNumber_12 : decode cX9_needNumber 12 = .ok (.aload_n 0, 1) := by decide +kernel
theorem dX9_needNumber_13 : decode cX9_needNumber 13 = .ok (.iconst 1, 1) := by decide +kernel
theorem dX9_needNumber_14 : decode cX9_needNumber 14 = .ok (.invokevirtual 88, 3) := by decide +kernel
theorem dX9_needNumber_17 : decode cX9_needNumber 17 = .ok (.ireturn, 1) := by decide +kernel
theorem dX9_needNumber_18 : decode cX9_needNumber 18 = .ok (.aload_n 0, 1) := by decide +kernel
theorem dX9_needNumber_19 : decode cX9_needNumber 19 = .ok (.iconst 0, 1) := by decide +kernel
theorem dX9_needNumber_20 : decode cX9_needNumber 20 = .ok (.putfield 99, 3) := by decide +kernel
theorem dX9_needNumber_23 : decode cX9_needNumber 23 = .ok (.iconst 0, 1) := by decide +kernel
theorem dX9_needNumber_24 : decode cX9_needNumber 24 = .ok (.istore_n 3, 1) := by decide +kernel
theorem dX9_needNumber_25 : decode cX9_needNumber 25 = .ok (.iload_n 3, 1) := by decide +kernel
theorem dX9_needNumber_26 : decode cX9_needNumber 26 = .ok (.aload_n 0, 1) := by decide +kernel
theorem dX9_needNumber_27 : decode cX9_needNumber 27 = .ok (.getfield 58, 3) := by decide +kernel
theorem dX9_needNumber_30 : decode cX9_needNumber 30 = .ok (.if_icmp .ge 34, 3) := by decide +kernel
theorem dX9_needNumber_33 : decode cX9_needNumber 33 = .ok (.aload_n 0, 1) := by decide +kernel
theorem dX9_needNumber_34 : decode cX9_needNumber 34 = .ok (.aload_n 0, 1) := by decide +kernel
theorem dX9_needNumber_35 : decode cX9_needNumber 35 = .ok (.getfield 99, 3) := by decide +kernel
theorem dX9_needNumber_38 : decode cX9_needNumber 38 = .ok (.bipush 10, 2) := by decide +kernel
theorem dX9_needNumber_40 : decode cX9_needNumber 40 = .ok (.imul, 1) := by decide +kernel
theorem dX9_needNumber_41 : decode cX9_needNumber 41 = .ok (.aload_n 0, 1) := by decide +kernel
theorem dX9_needNumber_42 : decode cX9_needNumber 42 = .ok (.aload_n 0, 1) := by decide +kernel
theorem dX9_needNumber_43 : decode cX9_needNumber 43 = .ok (.getfield 55, 3) := by decide +kernel
theorem dX9_needNumber_46 : decode cX9_needNumber 46 = .ok (.iload_n 3, 1) := by decide +kernel
theorem dX9_needNumber_47 : decode cX9_needNumber 47 = .ok (.iadd, 1) := by decide +kernel
theorem dX9_needNumber_48 : decode cX9_needNumber 48 = .ok (.invokevirtual 41, 3) := by decide +kernel
theorem dX9_needNumber_51 : decode cX9_needNumber 51 = .ok (.iadd, 1) := by decide +kernel
theorem dX9_needNumber_52 : decode cX9_needNumber 52 = .ok (.bipush 48, 2) := by decide +kernel
theorem dX9_needNumber_54 : decode cX9_needNumber 54 = .ok (.isub, 1) := by decide +kernel
theorem dX9_needNumber_55 : decode cX9_needNumber 55 = .ok (.putfield 99, 3) := by decide +kernel
theorem dX9_needNumber_58 : decode cX9_needNumber 58 = .ok (.iinc 3 1, 3) := by decide +kernel
theorem dX9_needNumber_61 : decode cX9_needNumber 61 = .ok (.goto (-36), 3) := by decide +kernel
theorem dX9_needNumber_64 : decode cX9_needNumber 64 = .ok (.aload_n 0, 1) := by decide +kernel
theorem dX9_needNumber_65 : decode cX9_needNumber 65 = .ok (.getfield 99, 3) := by decide +kernel
theorem dX9_needNumber_68 : decode cX9_needNumber 68 = .ok (.iload_n 1, 1) := by decide +kernel
theorem dX9_needNumber_69 : decode cX9_needNumber 69 = .ok (.if_icmp .lt 11, 3) := by decide +kernel
theorem dX9_needNumber_72 : decode cX9_needNumber 72 = .ok (.aload_n 0, 1) := by decide +kernel
theorem dX9_needNumber_73 : decode cX9_needNumber 73 = .ok (.getfield 99, 3) := by decide +kernel
theorem dX9_needNumber_76 : decode cX9_needNumber 76 = .ok (.iload_n 2, 1) := by decide +kernel
theorem dX9_needNumber_77 : decode cX9_needNumber 77 = .ok (.if_icmp .le 11, 3) := by decide +kernel
theorem dX9_needNumber_80 : decode cX9_needNumber 80 = .ok (.aload_n 0, 1) := by decide +kernel
theorem dX9_needNumber_81 : decode cX9_needNumber 81 = .ok (.iconst 2, 1) := by decide +kernel
theorem dX9_needNumber_82 : decode cX9_needNumber 82 = .ok (.invokevirtual 88, 3) := by decide +kernel
theorem dX9_needNumber_85 : decode cX9_needNumber 85 = .ok (.ifCond .eq 7, 3) := by decide +kernel
theorem dX9_needNumber_88 : decode cX9_needNumber 88 = .ok (.iconst 1, 1) := by decide +kernel
theorem dX9_needNumber_89 : decode cX9_needNumber 89 = .ok (.goto 4, 3) := by decide +kernel
theorem dX9_needNumber_92 : decode cX9_needNumber 92 = .ok (.iconst 0, 1) := by decide +kernel
theorem dX9_needNumber_93 : decode cX9_needNumber 93 = .ok (.ireturn, 1) := by decide +kernel
theorem dX10_init_0 : decode cX10_init 0 = .ok (.aload_n 0, 1) := by decide +kernel
theorem dX10_init_1 : decode cX10_init 1 = .ok (.invokespecial 3, 3) := by decide +kernel
theorem dX10_init_4 : decode cX10_init 4 = .ok (.aload_n 0, 1) := by decide +kernel
theorem dX10_init_5 : decode cX10_init 5 = .ok (.bipush 81, 2) := by decide +kernel
theorem dX10_init_7 : decode cX10_init 7 = .ok (.newarray .int, 2) := by decide +kernel
theorem dX10_init_9 : decode cX10_init 9 = .ok (.putfield 9, 3) := by decide +kernel
theorem dX10_init_12 : decode cX10_init 12 = .ok (.aload_n 0, 1) := by decide +kernel
theorem dX10_init_13 : decode cX10_init 13 = .ok (.bipush 81, 2) := by decide +kernel
theorem dX10_init_15 : decode cX10_init 15 = .ok (.newarray .int, 2) := by decide +kernel
theorem dX10_init_17 : decode cX10_init 17 = .ok (.putfield 15, 3) := by decide +kernel
theorem dX10_init_20 : decode cX10_init 20 = .ok (.aload_n 0, 1) := by decide +kernel
theorem dX10_init_21 : decode cX10_init 21 = .ok (.bipush 81, 2) := by decide +kernel
theorem dX10_init_23 : decode cX10_init 23 = .ok (.newarray .int, 2) := by decide +kernel
theorem dX10_init_25 : decode cX10_init 25 = .ok (.putfield 18, 3) := by decide +kernel
theorem dX10_init_28 : decode cX10_init 28 = .ok (.return_, 1) := by decide +kernel
theorem dX10_spread_0 : decode cX10_spread 0 = .ok (.aload_n 0, 1) := by decide +kernel
theorem dX10_spread_1 : decode cX10_spread 1 = .ok (.getfield 9, 3) := by decide +kernel
theorem dX10_spread_4 : decode cX10_spread 4 = .ok (.iconst (-1), 1) := by decide +kernel
theorem dX10_spread_5 : decode cX10_spread 5 = .ok (.invokestatic 21, 3) := by decide +kernel
theorem dX10_spread_8 : decode cX10_spread 8 = .ok (.aload_n 0, 1) := by decide +kernel
theorem dX10_spread_9 : decode cX10_spread 9 = .ok (.iconst 0, 1) := by decide +kernel
theorem dX10_spread_10 : decode cX10_spread 10 = .ok (.putfield 27, 3) := by decide +kernel
theorem dX10_spread_13 : decode cX10_spread 13 = .ok (.aload_n 1, 1) := by decide +kernel
theorem dX10_spread_14 : decode cX10_spread 14 = .ok (.iload_n 2, 1) := by decide +kernel
theorem dX10_spread_15 : decode cX10_spread 15 = .ok (.invokevirtual 31, 3) := by decide +kernel
theorem dX10_spread_18 : decode cX10_spread 18 = .ok (.istore 5, 2) := by decide +kernel
theorem dX10_spread_20 : decode cX10_spread 20 = .ok (.iconst 0, 1) := by decide +kernel
theorem dX10_spread_21 : decode cX10_spread 21 = .ok (.istore 6, 2) := by decide +kernel
theorem dX10_spread_23 : decode cX10_spread 23 = .ok (.iload 6, 2) := by decide +kernel
theorem dX10_spread_25 : decode cX10_spread 25 = .ok (.iload 5, 2) := by decide +kernel
theorem dX10_spread_27 : decode cX10_spread 27 = .ok (.if_icmp .ge 30, 3) := by decide +kernel
theorem dX10_spread_30 : decode cX10_spread 30 = .ok (.aload_n 1, 1) := by decide +kernel
theorem dX10_spread_31 : decode cX10_spread 31 = .ok (.iload_n 2, 1) := by decide +kernel
theorem dX10_spread_32 : decode cX10_spread 32 = .ok (.iload 6, 2) := by decide +kernel
theorem dX10_spread_34 : decode cX10_spread 34 = .ok (.invokevirtual 37, 3) := by decide +kernel
theorem dX10_spread_37 : decode cX10_spread 37 = .ok (.istore 7, 2) := by decide +kernel
theorem dX10_spread_39 : decode cX10_spread 39 = .ok (.iload 7, 2) := by decide +kernel
theorem dX10_spread_41 : decode cX10_spread 41 = .ok (.iload_n 3, 1) := by decide +kernel
theorem dX10_spread_42 : decode cX10_spread 42 = .ok (.if_icmp .eq 9, 3) := by decide +kernel
theorem dX10_spread_45 : decode cX10_spread 45 = .ok (.aload_n 0, 1) := by decide +kernel
theorem dX10_spread_46 : decode cX10_spread 46 = .ok (.iload 7, 2) := by decide +kernel
theorem dX10_spread_48 : decode cX10_spread 48 = .ok (.invokevirtual 41, 3) := by decide +kernel
theorem dX10_spread_51 : decode cX10_spread 51 = .ok (.iinc 6 1, 3) := by decide +kernel
theorem dX10_spread_54 : decode cX10_spread 54 = .ok (.goto (-31), 3) := by decide +kernel
theorem dX10_spread_57 : decode cX10_spread 57 = .ok (.aload_n 0, 1) := by decide +kernel
theorem dX10_spread_58 : decode cX10_spread 58 = .ok (.aload_n 1, 1) := by decide +kernel
theorem dX10_spread_59 : decode cX10_spread 59 = .ok (.iload_n 3, 1) := by decide +kernel
theorem dX10_spread_60 : decode cX10_spread 60 = .ok (.iload 4, 2) := by decide +kernel
theorem dX10_spread_62 : decode cX10_spread 62 = .ok (.invokevirtual 45, 3) := by decide +kernel
theorem dX10_spread_65 : decode cX10_spread 65 = .ok (.iload 4, 2) := by decide +kernel
theorem dX10_spread_67 : decode cX10_spread 67 = .ok (.ifCond .lt 20, 3) := by decide +kernel
theorem dX10_spread_70 : decode cX10_spread 70 = .ok (.iload 4, 2) := by decide +kernel
theorem dX10_spread_72 : decode cX10_spread 72 = .ok (.bipush 81, 2) := by decide +kernel
theorem dX10_spread_74 : decode cX10_spread 74 = .ok (.if_icmp .ge 13, 3) := by decide +kernel
theorem dX10_spread_77 : decode cX10_spread 77 = .ok (.aload_n 0, 1) := by decide +kernel
theorem dX10_spread_78 : decode cX10_spread 78 = .ok (.getfield 9, 3) := by decide +kernel
theorem dX10_spread_81 : decode cX10_spread 81 = .ok (.iload 4, 2) := by decide +kernel
theorem dX10_spread_83 : decode cX10_spread 83 = .ok (.iaload, 1) := by decide +kernel
theorem dX10_spread_84 : decode cX10_spread 84 = .ok (.goto 4, 3) := by decide +kernel
theorem dX10_spread_87 : decode cX10_spread 87 = .ok (.iconst (-1), 1) := by decide +kernel
theorem dX10_spread_88 : decode cX10_spread 88 = .ok (.ireturn, 1) := by decide +kernel
theorem dX10_beginAt_0 : decode cX10_beginAt 0 = .ok (.iload_n 1, 1) := by decide +kernel
theorem dX10_beginAt_1 : decode cX10_beginAt 1 = .ok (.ifCond .lt 45, 3) := by decide +kernel
theorem dX10_beginAt_4 : decode cX10_beginAt 4 = .ok (.iload_n 1, 1) := by decide +kernel
theorem dX10_beginAt_5 : decode cX10_beginAt 5 = .ok (.bipush 81, 2) := by decide +kernel
theorem dX10_beginAt_7 : decode cX10_beginAt 7 = .ok (.if_icmp .ge 39, 3) := by decide +kernel
theorem dX10_beginAt_10 : decode cX10_beginAt 10 = .ok (.aload_n 0, 1) := by decide +kernel
theorem dX10_beginAt_11 : decode cX10_beginAt 11 = .ok (.getfield 27, 3) := by decide +kernel
theorem dX10_beginAt_14 : decode cX10_beginAt 14 = .ok (.bipush 81, 2) := by decide +kernel
theorem dX10_beginAt_16 : decode cX10_beginAt 16 = .ok (.if_icmp .ge 30, 3) := by decide +kernel
theorem dX10_beginAt_19 : decode cX10_beginAt 19 = .ok (.aload_n 0, 1) := by decide +kernel
theorem dX10_beginAt_20 : decode cX10_beginAt 20 = .ok (.getfield 9, 3) := by decide +kernel
theorem dX10_beginAt_23 : decode cX10_beginAt 23 = .ok (.iload_n 1, 1) := by decide +kernel
theorem dX10_beginAt_24 : decode cX10_beginAt 24 = .ok (.iconst 0, 1) := by decide +kernel
theorem dX10_beginAt_25 : decode cX10_beginAt 25 = .ok (.iastore, 1) := by decide +kernel
theorem dX10_beginAt_26 : decode cX10_beginAt 26 = .ok (.aload_n 0, 1) := by decide +kernel
theorem dX10_beginAt_27 : decode cX10_beginAt 27 = .ok (.getfield 15, 3) := by decide +kernel
theorem dX10_beginAt_30 : decode cX10_beginAt 30 = .ok (.aload_n 0, 1) := by decide +kernel
theorem dX10_beginAt_31 : decode cX10_beginAt 31 = .ok (.getfield 27, 3) := by decide +kernel
theorem dX10_beginAt_34 : decode cX10_beginAt 34 = .ok (.iload_n 1, 1) := by decide +kernel
theorem dX10_beginAt_35 : decode cX10_beginAt 35 = .ok (.iastore, 1) := by decide +kernel
theorem dX10_beginAt_36 : decode cX10_beginAt 36 = .ok (.aload_n 0, 1) := by decide +kernel
theorem dX10_beginAt_37 : decode cX10_beginAt 37 = .ok (.dup, 1) := by decide +kernel
theorem dX10_beginAt_38 : decode cX10_beginAt 38 = .ok (.getfield 27, 3) := by decide +kernel
theorem dX10_beginAt_41 : decode cX10_beginAt 41 = .ok (.iconst 1, 1) := by decide +kernel
theorem dX10_beginAt_42 : decode cX10_beginAt 42 = .ok (.iadd, 1) := by decide +kernel
theorem dX10_beginAt_43 : decode cX10_beginAt 43 = .ok (.putfield 27, 3) := by decide +kernel
theorem dX10_beginAt_46 : decode cX10_beginAt 46 = .ok (.return_, 1) := by decide +kernel
theorem dX10_flow_0 : decode cX10_flow 0 = .ok (.iconst 0, 1) := by decide +kernel
theorem dX10_flow_1 : decode cX10_flow 1 = .ok (.istore 4, 2) := by decide +kernel
theorem dX10_flow_3 : decode cX10_flow 3 = .ok (.iload 4, 2) := by decide +kernel
theorem dX10_flow_5 : decode cX10_flow 5 = .ok (.aload_n 0, 1) := by decide +kernel
theorem dX10_flow_6 : decode cX10_flow 6 = .ok (.getfield 27, 3) := by decide +kernel
theorem dX10_flow_9 : decode cX10_flow 9 = .ok (.if_icmp .ge 160, 3) := by decide +kernel
theorem dX10_flow_12 : decode cX10_flow 12 = .ok (.iload 4, 2) := by decide +kernel
theorem dX10_flow_14 : decode cX10_flow 14 = .ok (.bipush 81, 2) := by decide +kernel
theorem dX10_flow_16 : decode cX10_flow 16 = .ok (.if_icmp .ge 153, 3) := by decide +kernel
theorem dX10_flow_19 : decode cX10_flow 19 = .ok (.aload_n 0, 1) := by decide +kernel
theorem dX10_flow_20 : decode cX10_flow 20 = .ok (.getfield 15, 3) := by decide +kernel
theorem dX10_flow_23 : decode cX10_flow 23 = .ok (.iload 4, 2) := by decide +kernel
theorem dX10_flow_25 : decode cX10_flow 25 = .ok (.iaload, 1) := by decide +kernel
theorem dX10_flow_26 : decode cX10_flow 26 = .ok (.istore 5, 2) := by decide +kernel
theorem dX10_flow_28 : decode cX10_flow 28 = .ok (.iload 5, 2) := by decide +kernel
theorem dX10_flow_30 : decode cX10_flow 30 = .ok (.iload_n 3, 1) := by decide +kernel
theorem dX10_flow_31 : decode cX10_flow 31 = .ok (.if_icmp .ne 4, 3) := by decide +kernel
theorem dX10_flow_34 : decode cX10_flow 34 = .ok (.return_, 1) := by decide +kernel
theorem dX10_flow_35 : decode cX10_flow 35 = .ok (.iconst 0, 1) := by decide +kernel
theorem dX10_flow_36 : decode cX10_flow 36 = .ok (.istore 6, 2) := by decide +kernel
theorem dX10_flow_38 : decode cX10_flow 38 = .ok (.iload 6, 2) := by decide +kernel
theorem dX10_flow_40 : decode cX10_flow 40 = .ok (.iconst 4, 1) := by decide +kernel
theorem dX10_flow_41 : decode cX10_flow 41 = .ok (.if_icmp .ge 122, 3) := by decide +kernel
theorem dX10_flow_44 : decode cX10_flow 44 = .ok (.iload 5, 2) := by decide +kernel
theorem dX10_flow_46 : decode cX10_flow 46 = .ok (.getstatic 49, 3) := by decide +kernel
theorem dX10_flow_49 : decode cX10_flow 49 = .ok (.iload 6, 2) := by decide +kernel
theorem dX10_flow_51 : decode cX10_flow 51 = .ok (.iaload, 1) := by decide +kernel
theorem dX10_flow_52 : decode cX10_flow 52 = .ok (.iadd, 1) := by decide +kernel
theorem dX10_flow_53 : decode cX10_flow 53 = .ok (.istore 7, 2) := by decide +kernel
theorem dX10_flow_55 : decode cX10_flow 55 = .ok (.aload_n 1, 1) := by decide +kernel
theorem dX10_flow_56 : decode cX10_flow 56 = .ok (.getfield 52, 3) := by decide +kernel
theorem dX10_flow_59 : decode cX10_flow 59 = .ok (.iload 5, 2) := by decide +kernel
theorem dX10_flow_61 : decode cX10_flow 61 = .ok (.iaload, 1) := by decide +kernel
theorem dX10_flow_62 : decode cX10_flow 62 = .ok (.iload 6, 2) := by decide +kernel
theorem dX10_flow_64 : decode cX10_flow 64 = .ok (.ishr, 1) := by decide +kernel
theorem dX10_flow_65 : decode cX10_flow 65 = .ok (.iconst 1, 1) := by decide +kernel
theorem dX10_flow_66 : decode cX10_flow 66 = .ok (.iand, 1) := by decide +kernel
theorem dX10_flow_67 : decode cX10_flow 67 = .ok (.ifCond .eq 13, 3) := by decide +kernel
theorem dX10_flow_70 : decode cX10_flow 70 = .ok (.iload 7, 2) := by decide +kernel
theorem dX10_flow_72 : decode cX10_flow 72 = .ok (.iload_n 2, 1) := by decide +kernel
theorem dX10_flow_73 : decode cX10_flow 73 = .ok (.if_icmp .eq 7, 3) := by decide +kernel
theorem dX10_flow_76 : decode cX10_flow 76 = .ok (.iconst 1, 1) := by decide +kernel
theorem dX10_flow_77 : decode cX10_flow 77 = .ok (.goto 4, 3) := by decide +kernel
theorem dX10_flow_80 : decode cX10_flow 80 = .ok (.iconst 0, 1) := by decide +kernel
theorem dX10_flow_81 : decode cX10_flow 81 = .ok (.istore 8, 2) := by decide +kernel
theorem dX10_flow_83 : decode cX10_flow 83 = .ok (.iload 8, 2) := by decide +kernel
theorem dX10_flow_85 : decode cX10_flow 85 = .ok (.ifCond .eq 72, 3) := by decide +kernel
theorem dX10_flow_88 : decode cX10_flow 88 = .ok (.iload 7, 2) := by decide +kernel
theorem dX10_flow_90 : decode cX10_flow 90 = .ok (.ifCond .lt 67, 3) := by decide +kernel
theorem dX10_flow_93 : decode cX10_flow 93 = .ok (.iload 7, 2) := by decide +kernel
theorem dX10_flow_95 : decode cX10_flow 95 = .ok (.bipush 81, 2) := by decide +kernel
theorem dX10_flow_97 : decode cX10_flow 97 = .ok (.if_icmp .ge 60, 3) := by decide +kernel
theorem dX10_flow_100 : decode cX10_flow 100 = .ok (.aload_n 0, 1) := by decide +kernel
theorem dX10_flow_101 : decode cX10_flow 101 = .ok (.getfield 9, 3) := by decide +kernel
theorem dX10_flow_104 : decode cX10_flow 104 = .ok (.iload 7, 2) := by decide +kernel
theorem dX10_flow_106 : decode cX10_flow 106 = .ok (.iaload, 1) := by decide +kernel
theorem dX10_flow_107 : decode cX10_flow 107 = .ok (.iconst (-1), 1) := by decide +kernel
theorem dX10_flow_108 : decode cX10_flow 108 = .ok (.if_icmp .ne 49, 3) := by decide +kernel
theorem dX10_flow_111 : decode cX10_flow 111 = .ok (.aload_n 0, 1) := by decide +kernel
theorem dX10_flow_112 : decode cX10_flow 112 = .ok (.getfield 27, 3) := by decide +kernel
theorem dX10_flow_115 : decode cX10_flow 115 = .ok (.bipush 81, 2) := by decide +kernel
theorem dX10_flow_117 : decode cX10_flow 117 = .ok (.if_icmp .ge 40, 3) := by decide +kernel
theorem dX10_flow_120 : decode cX10_flow 120 = .ok (.aload_n 0, 1) := by decide +kernel
theorem dX10_flow_121 : decode cX10_flow 121 = .ok (.getfield 9, 3) := by decide +kernel
theorem dX10_flow_124 : decode cX10_flow 124 = .ok (.iload 7, 2) := by decide +kernel
theorem dX10_flow_126 : decode cX10_flow 126 = .ok (.aload_n 0, 1) := by decide +kernel
theorem dX10_flow_127 : decode cX10_flow 127 = .ok (.getfield 9, 3) := by decide +kernel
theorem dX10_flow_130 : decode cX10_flow 130 = .ok (.iload 5, 2) := by decide +kernel
theorem dX10_flow_132 : decode cX10_flow 132 = .ok (.iaload, 1) := by decide +kernel
theorem dX10_flow_133 : decode cX10_flow 133 = .ok (.iconst 1, 1) := by decide +kernel
theorem dX10_flow_134 : decode cX10_flow 134 = .ok (.iadd, 1) := by decide +kernel
theorem dX10_flow_135 : decode cX10_flow 135 = .ok (.iastore, 1) := by decide +kernel
theorem dX10_flow_136 : decode cX10_flow 136 = .ok (.aload_n 0, 1) := by decide +kernel
theorem dX10_flow_137 : decode cX10_flow 137 = .ok (.getfield 15, 3) := by decide +kernel
theorem dX10_flow_140 : decode cX10_flow 140 = .ok (.aload_n 0, 1) := by decide +kernel
theorem dX10_flow_141 : decode cX10_flow 141 = .ok (.getfield 27, 3) := by decide +kernel
theorem dX10_flow_144 : decode cX10_flow 144 = .ok (.iload 7, 2) := by decide +kernel
theorem dX10_flow_146 : decode cX10_flow 146 = .ok (.iastore, 1) := by decide +kernel
theorem dX10_flow_147 : decode cX10_flow 147 = .ok (.aload_n 0, 1) := by decide +kernel
theorem dX10_flow_148 : decode cX10_flow 148 = .ok (.dup, 1) := by decide +kernel
theorem dX10_flow_149 : decode cX10_flow 149 = .ok (.getfield 27, 3) := by decide +kernel
theorem dX10_flow_152 : decode cX10_flow 152 = .ok (.iconst 1, 1) := by decide +kernel
theorem dX10_flow_153 : decode cX10_flow 153 = .ok (.iadd, 1) := by decide +kernel
theorem dX10_flow_154 : decode cX10_flow 154 = .ok (.putfield 27, 3) := by decide +kernel
theorem dX10_flow_157 : decode cX10_flow 157 = .ok (.iinc 6 1, 3) := by decide +kernel
theorem dX10_flow_160 : decode cX10_flow 160 = .ok (.goto (-122), 3) := by decide +kernel
theorem dX10_flow_163 : decode cX10_flow 163 = .ok (.iinc 4 1, 3) := by decide +kernel
theorem dX10_flow_166 : decode cX10_flow 166 = .ok (.goto (-163), 3) := by decide +kernel
theorem dX10_flow_169 : decode cX10_flow 169 = .ok (.return_, 1) := by decide +kernel
theorem dX10_measure_0 : decode cX10_measure 0 = .ok (.aload_n 0, 1) := by decide +kernel
theorem dX10_measure_1 : decode cX10_measure 1 = .ok (.aload_n 1, 1) := by decide +kernel
theorem dX10_measure_2 : decode cX10_measure 2 = .ok (.aload_n 2, 1) := by decide +kernel
theorem dX10_measure_3 : decode cX10_measure 3 = .ok (.getfield 55, 3) := by decide +kernel
theorem dX10_measure_6 : decode cX10_measure 6 = .ok (.iconst (-1), 1) := by decide +kernel
theorem dX10_measure_7 : decode cX10_measure 7 = .ok (.aload_n 2, 1) := by decide +kernel
theorem dX10_measure_8 : decode cX10_measure 8 = .ok (.getfield 60, 3) := by decide +kernel
theorem dX10_measure_11 : decode cX10_measure 11 = .ok (.invokevirtual 63, 3) := by decide +kernel
theorem dX10_measure_14 : decode cX10_measure 14 = .ok (.ireturn, 1) := by decide +kernel
theorem dX10_isNearer_0 : decode cX10_isNearer 0 = .ok (.iload_n 2, 1) := by decide +kernel
theorem dX10_isNearer_1 : decode cX10_isNearer 1 = .ok (.getstatic 49, 3) := by decide +kernel
theorem dX10_isNearer_4 : decode cX10_isNearer 4 = .ok (.iload_n 3, 1) := by decide +kernel
theorem dX10_isNearer_5 : decode cX10_isNearer 5 = .ok (.iaload, 1) := by decide +kernel
theorem dX10_isNearer_6 : decode cX10_isNearer 6 = .ok (.iadd, 1) := by decide +kernel
theorem dX10_isNearer_7 : decode cX10_isNearer 7 = .ok (.istore 4, 2) := by decide +kernel
theorem dX10_isNearer_9 : decode cX10_isNearer 9 = .ok (.aload_n 1, 1) := by decide +kernel
theorem dX10_isNearer_10 : decode cX10_isNearer 10 = .ok (.getfield 52, 3) := by decide +kernel
theorem dX10_isNearer_13 : decode cX10_isNearer 13 = .ok (.iload_n 2, 1) := by decide +kernel
theorem dX10_isNearer_14 : decode cX10_isNearer 14 = .ok (.iaload, 1) := by decide +kernel
theorem dX10_isNearer_15 : decode cX10_isNearer 15 = .ok (.iload_n 3, 1) := by decide +kernel
theorem dX10_isNearer_16 : decode cX10_isNearer 16 = .ok (.ishr, 1) := by decide +kernel
theorem dX10_isNearer_17 : decode cX10_isNearer 17 = .ok (.iconst 1, 1) := by decide +kernel
theorem dX10_isNearer_18 : decode cX10_isNearer 18 = .ok (.iand, 1) := by decide +kernel
theorem dX10_isNearer_19 : decode cX10_isNearer 19 = .ok (.ifCond .eq 19, 3) := by decide +kernel
theorem dX10_isNearer_22 : decode cX10_isNearer 22 = .ok (.iload 4, 2) := by decide +kernel
theorem dX10_isNearer_24 : decode cX10_isNearer 24 = .ok (.ifCond .lt 14, 3) := by decide +kernel
theorem dX10_isNearer_27 : decode cX10_isNearer 27 = .ok (.iload 4, 2) := by decide +kernel
theorem dX10_isNearer_29 : decode cX10_isNearer 29 = .ok (.bipush 81, 2) := by decide +kernel
theorem dX10_isNearer_31 : decode cX10_isNearer 31 = .ok (.if_icmp .ge 7, 3) := by decide +kernel
theorem dX10_isNearer_34 : decode cX10_isNearer 34 = .ok (.iconst 1, 1) := by decide +kernel
theorem dX10_isNearer_35 : decode cX10_isNearer 35 = .ok (.goto 4, 3) := by decide +kernel
theorem dX10_isNearer_38 : decode cX10_isNearer 38 = .ok (.iconst 0, 1) := by decide +kernel
theorem dX10_isNearer_39 : decode cX10_isNearer 39 = .ok (.istore 5, 2) := by decide +kernel
theorem dX10_isNearer_41 : decode cX10_isNearer 41 = .ok (.iload 5, 2) := by decide +kernel
theorem dX10_isNearer_43 : decode cX10_isNearer 43 = .ok (.ifCond .eq 34, 3) := by decide +kernel
theorem dX10_isNearer_46 : decode cX10_isNearer 46 = .ok (.aload_n 0, 1) := by decide +kernel
theorem dX10_isNearer_47 : decode cX10_isNearer 47 = .ok (.getfield 9, 3) := by decide +kernel
theorem dX10_isNearer_50 : decode cX10_isNearer 50 = .ok (.iload_n 2, 1) := by decide +kernel
theorem dX10_isNearer_51 : decode cX10_isNearer 51 = .ok (.iaload, 1) := by decide +kernel
theorem dX10_isNearer_52 : decode cX10_isNearer 52 = .ok (.ifCond .le 25, 3) := by decide +kernel
theorem dX10_isNearer_55 : decode cX10_isNearer 55 = .ok (.aload_n 0, 1) := by decide +kernel
theorem dX10_isNearer_56 : decode cX10_isNearer 56 = .ok (.getfield 9, 3) := by decide +kernel
theorem dX10_isNearer_59 : decode cX10_isNearer 59 = .ok (.iload 4, 2) := by decide +kernel
theorem dX10_isNearer_61 : decode cX10_isNearer 61 = .ok (.iaload, 1) := by decide +kernel
theorem dX10_isNearer_62 : decode cX10_isNearer 62 = .ok (.aload_n 0, 1) := by decide +kernel
theorem dX10_isNearer_63 : decode cX10_isNearer 63 = .ok (.getfield 9, 3) := by decide +kernel
theorem dX10_isNearer_66 : decode cX10_isNearer 66 = .ok (.iload_n 2, 1) := by decide +kernel
theorem dX10_isNearer_67 : decode cX10_isNearer 67 = .ok (.iaload, 1) := by decide +kernel
theorem dX10_isNearer_68 : decode cX10_isNearer 68 = .ok (.iconst 1, 1) := by decide +kernel
theorem dX10_isNearer_69 : decode cX10_isNearer 69 = .ok (.isub, 1) := by decide +kernel
theorem dX10_isNearer_70 : decode cX10_isNearer 70 = .ok (.if_icmp .ne 7, 3) := by decide +kernel
theorem dX10_isNearer_73 : decode cX10_isNearer 73 = .ok (.iconst 1, 1) := by decide +kernel
theorem dX10_isNearer_74 : decode cX10_isNearer 74 = .ok (.goto 4, 3) := by decide +kernel
theorem dX10_isNearer_77 : decode cX10_isNearer 77 = .ok (.iconst 0, 1) := by decide +kernel
theorem dX10_isNearer_78 : decode cX10_isNearer 78 = .ok (.ireturn, 1) := by decide +kernel
theorem dX10_countWays_0 : decode cX10_countWays 0 = .ok (.aload_n 0, 1) := by decide +kernel
theorem dX10_countWays_1 : decode cX10_countWays 1 = .ok (.aload_n 1, 1) := by decide +kernel
theorem dX10_countWays_2 : decode cX10_countWays 2 = .ok (.aload_n 2, 1) := by decide +kernel
theorem dX10_countWays_3 : decode cX10_countWays 3 = .ok (.invokevirtual 67, 3) := by decide +kernel
theorem dX10_countWays_6 : decode cX10_countWays 6 = .ok (.pop, 1) := by decide +kernel
theorem dX10_countWays_7 : decode cX10_countWays 7 = .ok (.iconst 0, 1) := by decide +kernel
theorem dX10_countWays_8 : decode cX10_countWays 8 = .ok (.istore_n 3, 1) := by decide +kernel
theorem dX10_countWays_9 : decode cX10_countWays 9 = .ok (.iload_n 3, 1) := by decide +kernel
theorem dX10_countWays_10 : decode cX10_countWays 10 = .ok (.aload_n 0, 1) := by decide +kernel
theorem dX10_countWays_11 : decode cX10_countWays 11 = .ok (.getfield 27, 3) := by decide +kernel
theorem dX10_countWays_14 : decode cX10_countWays 14 = .ok (.if_icmp .ge 45, 3) := by decide +kernel
theorem dX10_countWays_17 : decode cX10_countWays 17 = .ok (.aload_n 0, 1) := by decide +kernel
theorem dX10_countWays_18 : decode cX10_countWays 18 = .ok (.getfield 15, 3) := by decide +kernel
theorem dX10_countWays_21 : decode cX10_countWays 21 = .ok (.iload_n 3, 1) := by decide +kernel
theorem dX10_countWays_22 : decode cX10_countWays 22 = .ok (.iaload, 1) := by decide +kernel
theorem dX10_countWays_23 : decode cX10_countWays 23 = .ok (.istore 4, 2) := by decide +kernel
theorem dX10_countWays_25 : decode cX10_countWays 25 = .ok (.aload_n 0, 1) := by decide +kernel
theorem dX10_countWays_26 : decode cX10_countWays 26 = .ok (.getfield 18, 3) := by decide +kernel
theorem dX10_countWays_29 : decode cX10_countWays 29 = .ok (.iload 4, 2) := by decide +kernel
theorem dX10_countWays_31 : decode cX10_countWays 31 = .ok (.aload_n 0, 1) := by decide +kernel
theorem dX10_countWays_32 : decode cX10_countWays 32 = .ok (.getfield 9, 3) := by decide +kernel
theorem dX10_countWays_35 : decode cX10_countWays 35 = .ok (.iload 4, 2) := by decide +kernel
theorem dX10_countWays_37 : decode cX10_countWays 37 = .ok (.iaload, 1) := by decide +kernel
theorem dX10_countWays_38 : decode cX10_countWays 38 = .ok (.ifCond .ne 7, 3) := by decide +kernel
theorem dX10_countWays_41 : decode cX10_countWays 41 = .ok (.iconst 1, 1) := by decide +kernel
theorem dX10_countWays_42 : decode cX10_countWays 42 = .ok (.goto 10, 3) := by decide +kernel
theorem dX10_countWays_45 : decode cX10_countWays 45 = .ok (.aload_n 0, 1) := by decide +kernel
theorem dX10_countWays_46 : decode cX10_countWays 46 = .ok (.aload_n 1, 1) := by decide +kernel
theorem dX10_countWays_47 : decode cX10_countWays 47 = .ok (.iload 4, 2) := by decide +kernel
theorem dX10_countWays_49 : decode cX10_countWays 49 = .ok (.invokevirtual 71, 3) := by decide +kernel
theorem dX10_countWays_52 : decode cX10_countWays 52 = .ok (.iastore, 1) := by decide +kernel
theorem dX10_countWays_53 : decode cX10_countWays 53 = .ok (.iinc 3 1, 3) := by decide +kernel
theorem dX10_countWays_56 : decode cX10_countWays 56 = .ok (.goto (-47), 3) := by decide +kernel
theorem dX10_countWays_59 : decode cX10_countWays 59 = .ok (.aload_n 0, 1) := by decide +kernel
theorem dX10_countWays_60 : decode cX10_countWays 60 = .ok (.getfield 9, 3) := by decide +kernel
theorem dX10_countWays_63 : decode cX10_countWays 63 = .ok (.aload_n 2, 1) := by decide +kernel
theorem dX10_countWays_64 : decode cX10_countWays 64 = .ok (.getfield 60, 3) := by decide +kernel
theorem dX10_countWays_67 : decode cX10_countWays 67 = .ok (.iaload, 1) := by decide +kernel
theorem dX10_countWays_68 : decode cX10_countWays 68 = .ok (.iconst (-1), 1) := by decide +kernel
theorem dX10_countWays_69 : decode cX10_countWays 69 = .ok (.if_icmp .ne 7, 3) := by decide +kernel
theorem dX10_countWays_72 : decode cX10_countWays 72 = .ok (.iconst 0, 1) := by decide +kernel
theorem dX10_countWays_73 : decode cX10_countWays 73 = .ok (.goto 12, 3) := by decide +kernel
theorem dX10_countWays_76 : decode cX10_countWays 76 = .ok (.aload_n 0, 1) := by decide +kernel
theorem dX10_countWays_77 : decode cX10_countWays 77 = .ok (.getfield 18, 3) := by decide +kernel
theorem dX10_countWays_80 : decode cX10_countWays 80 = .ok (.aload_n 2, 1) := by decide +kernel
theorem dX10_countWays_81 : decode cX10_countWays 81 = .ok (.getfield 60, 3) := by decide +kernel
theorem dX10_countWays_84 : decode cX10_countWays 84 = .ok (.iaload, 1) := by decide +kernel
theorem dX10_countWays_85 : decode cX10_countWays 85 = .ok (.ireturn, 1) := by decide +kernel
theorem dX10_sumOfNearer_0 : decode cX10_sumOfNearer 0 = .ok (.iconst 0, 1) := by decide +kernel
theorem dX10_sumOfNearer_1 : decode cX10_sumOfNearer 1 = .ok (.istore_n 3, 1) := by decide +kernel
theorem dX10_sumOfNearer_2 : decode cX10_sumOfNearer 2 = .ok (.iconst 0, 1) := by decide +kernel
theorem dX10_sumOfNearer_3 : decode cX10_sumOfNearer 3 = .ok (.istore 4, 2) := by decide +kernel
theorem dX10_sumOfNearer_5 : decode cX10_sumOfNearer 5 = .ok (.iload 4, 2) := by decide +kernel
theorem dX10_sumOfNearer_7 : decode cX10_sumOfNearer 7 = .ok (.iconst 4, 1) := by decide +kernel
theorem dX10_sumOfNearer_8 : decode cX10_sumOfNearer 8 = .ok (.if_icmp .ge 36, 3) := by decide +kernel
theorem dX10_sumOfNearer_11 : decode cX10_sumOfNearer 11 = .ok (.aload_n 0, 1) := by decide +kernel
theorem dX10_sumOfNearer_12 : decode cX10_sumOfNearer 12 = .ok (.aload_n 1, 1) := by decide +kernel
theorem dX10_sumOfNearer_13 : decode cX10_sumOfNearer 13 = .ok (.iload_n 2, 1) := by decide +kernel
theorem dX10_sumOfNearer_14 : decode cX10_sumOfNearer 14 = .ok (.iload 4, 2) := by decide +kernel
theorem dX10_sumOfNearer_16 : decode cX10_sumOfNearer 16 = .ok (.invokevirtual 75, 3) := by decide +kernel
theorem dX10_sumOfNearer_19 : decode cX10_sumOfNearer 19 = .ok (.ifCond .eq 19, 3) := by decide +kernel
theorem dX10_sumOfNearer_22 : decode cX10_sumOfNearer 22 = .ok (.iload_n 3, 1) := by decide +kernel
theorem dX10_sumOfNearer_23 : decode cX10_sumOfNearer 23 = .ok (.aload_n 0, 1) := by decide +kernel
theorem dX10_sumOfNearer_24 : decode cX10_sumOfNearer 24 = .ok (.getfield 18, 3) := by decide +kernel
theorem dX10_sumOfNearer_27 : decode cX10_sumOfNearer 27 = .ok (.iload_n 2, 1) := by decide +kernel
theorem dX10_sumOfNearer_28 : decode cX10_sumOfNearer 28 = .ok (.getstatic 49, 3) := by decide +kernel
theorem dX10_sumOfNearer_31 : decode cX10_sumOfNearer 31 = .ok (.iload 4, 2) := by decide +kernel
theorem dX10_sumOfNearer_33 : decode cX10_sumOfNearer 33 = .ok (.iaload, 1) := by decide +kernel
theorem dX10_sumOfNearer_34 : decode cX10_sumOfNearer 34 = .ok (.iadd, 1) := by decide +kernel
theorem dX10_sumOfNearer_35 : decode cX10_sumOfNearer 35 = .ok (.iaload, 1) := by decide +kernel
theorem dX10_sumOfNearer_36 : decode cX10_sumOfNearer 36 = .ok (.iadd, 1) := by decide +kernel
theorem dX10_sumOfNearer_37 : decode cX10_sumOfNearer 37 = .ok (.istore_n 3, 1) := by decide +kernel
theorem dX10_sumOfNearer_38 : decode cX10_sumOfNearer 38 = .ok (.iinc 4 1, 3) := by decide +kernel
theorem dX10_sumOfNearer_41 : decode cX10_sumOfNearer 41 = .ok (.goto (-36), 3) := by decide +kernel
theorem dX10_sumOfNearer_44 : decode cX10_sumOfNearer 44 = .ok (.iload_n 3, 1) := by decide +kernel
theorem dX10_sumOfNearer_45 : decode cX10_sumOfNearer 45 = .ok (.ldc 79, 2) := by decide +kernel
theorem dX10_sumOfNearer_47 : decode cX10_sumOfNearer 47 = .ok (.irem, 1) := by decide +kernel
theorem dX10_sumOfNearer_48 : decode cX10_sumOfNearer 48 = .ok (.ireturn, 1) := by decide +kernel
theorem dX10_countCellsOnWays_0 : decode cX10_countCellsOnWays 0 = .ok (.aload_n 0, 1) := by decide +kernel
theorem dX10_countCellsOnWays_1 : decode cX10_countCellsOnWays 1 = .ok (.aload_n 1, 1) := by decide +kernel
theorem dX10_countCellsOnWays_2 : decode cX10_countCellsOnWays 2 = .ok (.aload_n 2, 1) := by decide +kernel
theorem dX10_countCellsOnWays_3 : decode cX10_countCellsOnWays 3 = .ok (.invokevirtual 67, 3) := by decide +kernel
theorem dX10_countCellsOnWays_6 : decode cX10_countCellsOnWays 6 = .ok (.pop, 1) := by decide +kernel
theorem dX10_countCellsOnWays_7 : decode cX10_countCellsOnWays 7 = .ok (.aload_n 0, 1) := by decide +kernel
theorem dX10_countCellsOnWays_8 : decode cX10_countCellsOnWays 8 = .ok (.getfield 18, 3) := by decide +kernel
theorem dX10_countCellsOnWays_11 : decode cX10_countCellsOnWays 11 = .ok (.iconst 0, 1) := by decide +kernel
theorem dX10_countCellsOnWays_12 : decode cX10_countCellsOnWays 12 = .ok (.invokestatic 21, 3) := by decide +kernel
theorem dX10_countCellsOnWays_15 : decode cX10_countCellsOnWays 15 = .ok (.aload_n 0, 1) := by decide +kernel
theorem dX10_countCellsOnWays_16 : decode cX10_countCellsOnWays 16 = .ok (.getfield 18, 3) := by decide +kernel
theorem dX10_countCellsOnWays_19 : decode cX10_countCellsOnWays 19 = .ok (.aload_n 2, 1) := by decide +kernel
theorem dX10_countCellsOnWays_20 : decode cX10_countCellsOnWays 20 = .ok (.getfield 60, 3) := by decide +kernel
theorem dX10_countCellsOnWays_23 : decode cX10_countCellsOnWays 23 = .ok (.iconst 1, 1) := by decide +kernel
theorem dX10_countCellsOnWays_24 : decode cX10_countCellsOnWays 24 = .ok (.iastore, 1) := by decide +kernel
theorem dX10_countCellsOnWays_25 : decode cX10_countCellsOnWays 25 = .ok (.iconst 0, 1) := by decide +kernel
theorem dX10_countCellsOnWays_26 : decode cX10_countCellsOnWays 26 = .ok (.istore_n 3, 1) := by decide +kernel
theorem dX10_countCellsOnWays_27 : decode cX10_countCellsOnWays 27 = .ok (.aload_n 0, 1) := by decide +kernel
theorem dX10_countCellsOnWays_28 : decode cX10_countCellsOnWays 28 = .ok (.getfield 27, 3) := by decide +kernel
theorem dX10_countCellsOnWays_31 : decode cX10_countCellsOnWays 31 = .ok (.iconst 1, 1) := by decide +kernel
theorem dX10_countCellsOnWays_32 : decode cX10_countCellsOnWays 32 = .ok (.isub, 1) := by decide +kernel
theorem dX10_countCellsOnWays_33 : decode cX10_countCellsOnWays 33 = .ok (.istore 4, 2) := by decide +kernel
theorem dX10_countCellsOnWays_35 : decode cX10_countCellsOnWays 35 = .ok (.iload 4, 2) := by decide +kernel
theorem dX10_countCellsOnWays_37 : decode cX10_countCellsOnWays 37 = .ok (.ifCond .lt 38, 3) := by decide +kernel
theorem dX10_countCellsOnWays_40 : decode cX10_countCellsOnWays 40 = .ok (.aload_n 0, 1) := by decide +kernel
theorem dX10_countCellsOnWays_41 : decode cX10_countCellsOnWays 41 = .ok (.getfield 15, 3) := by decide +kernel
theorem dX10_countCellsOnWays_44 : decode cX10_countCellsOnWays 44 = .ok (.iload 4, 2) := by decide +kernel
theorem dX10_countCellsOnWays_46 : decode cX10_countCellsOnWays 46 = .ok (.iaload, 1) := by decide +kernel
theorem dX10_countCellsOnWays_47 : decode cX10_countCellsOnWays 47 = .ok (.istore 5, 2) := by decide +kernel
theorem dX10_countCellsOnWays_49 : decode cX10_countCellsOnWays 49 = .ok (.aload_n 0, 1) := by decide +kernel
theorem dX10_countCellsOnWays_50 : decode cX10_countCellsOnWays 50 = .ok (.getfield 18, 3) := by decide +kernel
theorem dX10_countCellsOnWays_53 : decode cX10_countCellsOnWays 53 = .ok (.iload 5, 2) := by decide +kernel
theorem dX10_countCellsOnWays_55 : decode cX10_countCellsOnWays 55 = .ok (.iaload, 1) := by decide +kernel
theorem dX10_countCellsOnWays_56 : decode cX10_countCellsOnWays 56 = .ok (.ifCond .eq 13, 3) := by decide +kernel
theorem dX10_countCellsOnWays_59 : decode cX10_countCellsOnWays 59 = .ok (.iinc 3 1, 3) := by decide +kernel
theorem dX10_countCellsOnWays_62 : decode cX10_countCellsOnWays 62 = .ok (.aload_n 0, 1) := by decide +kernel
theorem dX10_countCellsOnWays_63 : decode cX10_countCellsOnWays 63 = .ok (.aload_n 1, 1) := by decide +kernel
theorem dX10_countCellsOnWays_64 : decode cX10_countCellsOnWays 64 = .ok (.iload 5, 2) := by decide +kernel
theorem dX10_countCellsOnWays_66 : decode cX10_countCellsOnWays 66 = .ok (.invokevirtual 80, 3) := by decide +kernel
theorem dX10_countCellsOnWays_69 : decode cX10_countCellsOnWays 69 = .ok (.iinc 4 (-1), 3) := by decide +kernel
theorem dX10_countCellsOnWays_72 : decode cX10_countCellsOnWays 72 = .ok (.goto (-37), 3) := by decide +kernel
theorem dX10_countCellsOnWays_75 : decode cX10_countCellsOnWays 75 = .ok (.iload_n 3, 1) := by decide +kernel
theorem dX10_countCellsOnWays_76 : decode cX10_countCellsOnWays 76 = .ok (.ireturn, 1) := by decide +kernel
theorem dX10_markNearer_0 : decode cX10_markNearer 0 = .ok (.iconst 0, 1) := by decide +kernel
theorem dX10_markNearer_1 : decode cX10_markNearer 1 = .ok (.istore_n 3, 1) := by decide +kernel
theorem dX10_markNearer_2 : decode cX10_markNearer 2 = .ok (.iload_n 3, 1) := by decide +kernel
theorem dX10_markNearer_3 : decode cX10_markNearer 3 = .ok (.iconst 4, 1) := by decide +kernel
theorem dX10_markNearer_4 : decode cX10_markNearer 4 = .ok (.if_icmp .ge 32, 3) := by decide +kernel
theorem dX10_markNearer_7 : decode cX10_markNearer 7 = .ok (.aload_n 0, 1) := by decide +kernel
theorem dX10_markNearer_8 : decode cX10_markNearer 8 = .ok (.aload_n 1, 1) := by decide +kernel
theorem dX10_markNearer_9 : decode cX10_markNearer 9 = .ok (.iload_n 2, 1) := by decide +kernel
theorem dX10_markNearer_10 : decode cX10_markNearer 10 = .ok (.iload_n 3, 1) := by decide +kernel
theorem dX10_markNearer_11 : decode cX10_markNearer 11 = .ok (.invokevirtual 75, 3) := by decide +kernel
theorem dX10_markNearer_14 : decode cX10_markNearer 14 = .ok (.ifCond .eq 16, 3) := by decide +kernel
theorem dX10_markNearer_17 : decode cX10_markNearer 17 = .ok (.aload_n 0, 1) := by decide +kernel
theorem dX10_markNearer_18 : decode cX10_markNearer 18 = .ok (.getfield 18, 3) := by decide +kernel
theorem dX10_markNearer_21 : decode cX10_markNearer 21 = .ok (.iload_n 2, 1) := by decide +kernel
theorem dX10_markNearer_22 : decode cX10_markNearer 22 = .ok (.getstatic 49, 3) := by decide +kernel
theorem dX10_markNearer_25 : decode cX10_markNearer 25 = .ok (.iload_n 3, 1) := by decide +kernel
theorem dX10_markNearer_26 : decode cX10_markNearer 26 = .ok (.iaload, 1) := by decide +kernel
theorem dX10_markNearer_27 : decode cX10_markNearer 27 = .ok (.iadd, 1) := by decide +kernel
theorem dX10_markNearer_28 : decode cX10_markNearer 28 = .ok (.iconst 1, 1) := by decide +kernel
theorem dX10_markNearer_29 : decode cX10_markNearer 29 = .ok (.iastore, 1) := by decide +kernel
theorem dX10_markNearer_30 : decode cX10_markNearer 30 = .ok (.iinc 3 1, 3) := by decide +kernel
theorem dX10_markNearer_33 : decode cX10_markNearer 33 = .ok (.goto (-31), 3) := by decide +kernel
theorem dX10_markNearer_36 : decode cX10_markNearer 36 = .ok (.return_, 1) := by decide +kernel
theorem dX10_countGates_0 : decode cX10_countGates 0 = .ok (.iconst 0, 1) := by decide +kernel
theorem dX10_countGates_1 : decode cX10_countGates 1 = .ok (.istore_n 3, 1) := by decide +kernel
theorem dX10_countGates_2 : decode cX10_countGates 2 = .ok (.iconst 0, 1) := by decide +kernel
theorem dX10_countGates_3 : decode cX10_countGates 3 = .ok (.istore 4, 2) := by decide +kernel
theorem dX10_countGates_5 : decode cX10_countGates 5 = .ok (.iload 4, 2) := by decide +kernel
theorem dX10_countGates_7 : decode cX10_countGates 7 = .ok (.bipush 81, 2) := by decide +kernel
theorem dX10_countGates_9 : decode cX10_countGates 9 = .ok (.if_icmp .ge 23, 3) := by decide +kernel
theorem dX10_countGates_12 : decode cX10_countGates 12 = .ok (.aload_n 0, 1) := by decide +kernel
theorem dX10_countGates_13 : decode cX10_countGates 13 = .ok (.aload_n 1, 1) := by decide +kernel
theorem dX10_countGates_14 : decode cX10_countGates 14 = .ok (.aload_n 2, 1) := by decide +kernel
theorem dX10_countGates_15 : decode cX10_countGates 15 = .ok (.iload 4, 2) := by decide +kernel
theorem dX10_countGates_17 : decode cX10_countGates 17 = .ok (.invokevirtual 84, 3) := by decide +kernel
theorem dX10_countGates_20 : decode cX10_countGates 20 = .ok (.ifCond .eq 6, 3) := by decide +kernel
theorem dX10_countGates_23 : decode cX10_countGates 23 = .ok (.iinc 3 1, 3) := by decide +kernel
theorem dX10_countGates_26 : decode cX10_countGates 26 = .ok (.iinc 4 1, 3) := by decide +kernel
theorem dX10_countGates_29 : decode cX10_countGates 29 = .ok (.goto (-24), 3) := by decide +kernel
theorem dX10_countGates_32 : decode cX10_countGates 32 = .ok (.iload_n 3, 1) := by decide +kernel
theorem dX10_countGates_33 : decode cX10_countGates 33 = .ok (.ireturn, 1) := by decide +kernel
theorem dX10_closesAt_0 : decode cX10_closesAt 0 = .ok (.aload_n 2, 1) := by decide +kernel
theorem dX10_closesAt_1 : decode cX10_closesAt 1 = .ok (.getfield 88, 3) := by decide +kernel
theorem dX10_closesAt_4 : decode cX10_closesAt 4 = .ok (.ifCond .ne 26, 3) := by decide +kernel
theorem dX10_closesAt_7 : decode cX10_closesAt 7 = .ok (.iload_n 3, 1) := by decide +kernel
theorem dX10_closesAt_8 : decode cX10_closesAt 8 = .ok (.aload_n 2, 1) := by decide +kernel
theorem dX10_closesAt_9 : decode cX10_closesAt 9 = .ok (.getfield 60, 3) := by decide +kernel
theorem dX10_closesAt_12 : decode cX10_closesAt 12 = .ok (.if_icmp .eq 18, 3) := by decide +kernel
theorem dX10_closesAt_15 : decode cX10_closesAt 15 = .ok (.aload_n 1, 1) := by decide +kernel
theorem dX10_closesAt_16 : decode cX10_closesAt 16 = .ok (.iload_n 3, 1) := by decide +kernel
theorem dX10_closesAt_17 : decode cX10_closesAt 17 = .ok (.bipush 9, 2) := by decide +kernel
theorem dX10_closesAt_19 : decode cX10_closesAt 19 = .ok (.irem, 1) := by decide +kernel
theorem dX10_closesAt_20 : decode cX10_closesAt 20 = .ok (.iload_n 3, 1) := by decide +kernel
theorem dX10_closesAt_21 : decode cX10_closesAt 21 = .ok (.bipush 9, 2) := by decide +kernel
theorem dX10_closesAt_23 : decode cX10_closesAt 23 = .ok (.idiv, 1) := by decide +kernel
theorem dX10_closesAt_24 : decode cX10_closesAt 24 = .ok (.invokevirtual 91, 3) := by decide +kernel
theorem dX10_closesAt_27 : decode cX10_closesAt 27 = .ok (.ifCond .ne 5, 3) := by decide +kernel
theorem dX10_closesAt_30 : decode cX10_closesAt 30 = .ok (.iconst 0, 1) := by decide +kernel
theorem dX10_closesAt_31 : decode cX10_closesAt 31 = .ok (.ireturn, 1) := by decide +kernel
theorem dX10_closesAt_32 : decode cX10_closesAt 32 = .ok (.aload_n 0, 1) := by decide +kernel
theorem dX10_closesAt_33 : decode cX10_closesAt 33 = .ok (.aload_n 1, 1) := by decide +kernel
theorem dX10_closesAt_34 : decode cX10_closesAt 34 = .ok (.aload_n 2, 1) := by decide +kernel
theorem dX10_closesAt_35 : decode cX10_closesAt 35 = .ok (.getfield 55, 3) := by decide +kernel
theorem dX10_closesAt_38 : decode cX10_closesAt 38 = .ok (.iload_n 3, 1) := by decide +kernel
theorem dX10_closesAt_39 : decode cX10_closesAt 39 = .ok (.aload_n 2, 1) := by decide +kernel
theorem dX10_closesAt_40 : decode cX10_closesAt 40 = .ok (.getfield 60, 3) := by decide +kernel
theorem dX10_closesAt_43 : decode cX10_closesAt 43 = .ok (.invokevirtual 63, 3) := by decide +kernel
theorem dX10_closesAt_46 : decode cX10_closesAt 46 = .ok (.iconst (-1), 1) := by decide +kernel
theorem dX10_closesAt_47 : decode cX10_closesAt 47 = .ok (.if_icmp .ne 7, 3) := by decide +kernel
theorem dX10_closesAt_50 : decode cX10_closesAt 50 = .ok (.iconst 1, 1) := by decide +kernel
theorem dX10_closesAt_51 : decode cX10_closesAt 51 = .ok (.goto 4, 3) := by decide +kernel
theorem dX10_closesAt_54 : decode cX10_closesAt 54 = .ok (.iconst 0, 1) := by decide +kernel
theorem dX10_closesAt_55 : decode cX10_closesAt 55 = .ok (.ireturn, 1) := by decide +kernel
theorem dX11_init_0 : decode cX11_init 0 = .ok (.aload_n 0, 1) := by decide +kernel
theorem dX11_init_1 : decode cX11_init 1 = .ok (.invokespecial 3, 3) := by decide +kernel
theorem dX11_init_4 : decode cX11_init 4 = .ok (.aload_n 0, 1) := by decide +kernel
theorem dX11_init_5 : decode cX11_init 5 = .ok (.new 9, 3) := by decide +kernel
theorem dX11_init_8 : decode cX11_init 8 = .ok (.dup, 1) := by decide +kernel
theorem dX11_init_9 : decode cX11_init 9 = .ok (.invokespecial 11, 3) := by decide +kernel
theorem dX11_init_12 : decode cX11_init 12 = .ok (.putfield 12, 3) := by decide +kernel
theorem dX11_init_15 : decode cX11_init 15 = .ok (.aload_n 0, 1) := by decide +kernel
theorem dX11_init_16 : decode cX11_init 16 = .ok (.new 16, 3) := by decide +kernel
theorem dX11_init_19 : decode cX11_init 19 = .ok (.dup, 1) := by decide +kernel
theorem dX11_init_20 : decode cX11_init 20 = .ok (.invokespecial 18, 3) := by decide +kernel
theorem dX11_init_23 : decode cX11_init 23 = .ok (.putfield 19, 3) := by decide +kernel
theorem dX11_init_26 : decode cX11_init 26 = .ok (.aload_n 0, 1) := by decide +kernel
theorem dX11_init_27 : decode cX11_init 27 = .ok (.new 23, 3) := by decide +kernel
theorem dX11_init_30 : decode cX11_init 30 = .ok (.dup, 1) := by decide +kernel
theorem dX11_init_31 : decode cX11_init 31 = .ok (.invokespecial 25, 3) := by decide +kernel
theorem dX11_init_34 : decode cX11_init 34 = .ok (.putfield 26, 3) := by decide +kernel
theorem dX11_init_37 : decode cX11_init 37 = .ok (.aload_n 0, 1) := by decide +kernel
theorem dX11_init_38 : decode cX11_init 38 = .ok (.new 30, 3) := by decide +kernel
theorem dX11_init_41 : decode cX11_init 41 = .ok (.dup, 1) := by decide +kernel
theorem dX11_init_42 : decode cX11_init 42 = .ok (.invokespecial 32, 3) := by decide +kernel
theorem dX11_init_45 : decode cX11_init 45 = .ok (.putfield 33, 3) := by decide +kernel
theorem dX11_init_48 : decode cX11_init 48 = .ok (.aload_n 0, 1) := by decide +kernel
theorem dX11_init_49 : decode cX11_init 49 = .ok (.new 37, 3) := by decide +kernel
theorem dX11_init_52 : decode cX11_init 52 = .ok (.dup, 1) := by decide +kernel
theorem dX11_init_53 : decode cX11_init 53 = .ok (.invokespecial 39, 3) := by decide +kernel
theorem dX11_init_56 : decode cX11_init 56 = .ok (.putfield 40, 3) := by decide +kernel
theorem dX11_init_59 : decode cX11_init 59 = .ok (.aload_n 0, 1) := by decide +kernel
theorem dX11_init_60 : decode cX11_init 60 = .ok (.new 37, 3) := by decide +kernel
theorem dX11_init_63 : decode cX11_init 63 = .ok (.dup, 1) := by decide +kernel
theorem dX11_init_64 : decode cX11_init 64 = .ok (.invokespecial 39, 3) := by decide +kernel
theorem dX11_init_67 : decode cX11_init 67 = .ok (.putfield 44, 3) := by decide +kernel
theorem dX11_init_70 : decode cX11_init 70 = .ok (.aload_n 0, 1) := by decide +kernel
theorem dX11_init_71 : decode cX11_init 71 = .ok (.new 47, 3) := by decide +kernel
theorem dX11_init_74 : decode cX11_init 74 = .ok (.dup, 1) := by decide +kernel
theorem dX11_init_75 : decode cX11_init 75 = .ok (.aload_n 0, 1) := by decide +kernel
theorem dX11_init_76 : decode cX11_init 76 = .ok (.getfield 12, 3) := by decide +kernel
theorem dX11_init_79 : decode cX11_init 79 = .ok (.aload_n 0, 1) := by decide +kernel
theorem dX11_init_80 : decode cX11_init 80 = .ok (.getfield 44, 3) := by decide +kernel
theorem dX11_init_83 : decode cX11_init 83 = .ok (.aload_n 0, 1) := by decide +kernel
theorem dX11_init_84 : decode cX11_init 84 = .ok (.getfield 19, 3) := by decide +kernel
theorem dX11_init_87 : decode cX11_init 87 = .ok (.invokespecial 49, 3) := by decide +kernel
theorem dX11_init_90 : decode cX11_init 90 = .ok (.putfield 52, 3) := by decide +kernel
theorem dX11_init_93 : decode cX11_init 93 = .ok (.aload_n 0, 1) := by decide +kernel
theorem dX11_init_94 : decode cX11_init 94 = .ok (.new 56, 3) := by decide +kernel
theorem dX11_init_97 : decode cX11_init 97 = .ok (.dup, 1) := by decide +kernel
theorem dX11_init_98 : decode cX11_init 98 = .ok (.aload_n 0, 1) := by decide +kernel
theorem dX11_init_99 : decode cX11_init 99 = .ok (.getfield 12, 3) := by decide +kernel
theorem dX11_init_102 : decode cX11_init 102 = .ok (.invokespecial 58, 3) := by decide +kernel
theorem dX11_init_105 : decode cX11_init 105 = .ok (.putfield 61, 3) := by decide +kernel
theorem dX11_init_108 : decode cX11_init 108 = .ok (.aload_n 0, 1) := by decide +kernel
theorem dX11_init_109 : decode cX11_init 109 = .ok (.new 37, 3) := by decide +kernel
theorem dX11_init_112 : decode cX11_init 112 = .ok (.dup, 1) := by decide +kernel
theorem dX11_init_113 : decode cX11_init 113 = .ok (.invokespecial 39, 3) := by decide +kernel
theorem dX11_init_116 : decode cX11_init 116 = .ok (.putfield 65, 3) := by decide +kernel
theorem dX11_init_119 : decode cX11_init 119 = .ok (.aload_n 0, 1) := by decide +kernel
theorem dX11_init_120 : decode cX11_init 120 = .ok (.new 37, 3) := by decide +kernel
theorem dX11_init_123 : decode cX11_init 123 = .ok (.dup, 1) := by decide +kernel
theorem dX11_init_124 : decode cX11_init 124 = .ok (.invokespecial 39, 3) := by decide +kernel
theorem dX11_init_127 : decode cX11_init 127 = .ok (.putfield 68, 3) := by decide +kernel
theorem dX11_init_130 : decode cX11_init 130 = .ok (.aload_n 0, 1) := by decide +kernel
theorem dX11_init_131 : decode cX11_init 131 = .ok (.iconst 0, 1) := by decide +kernel
theorem dX11_init_132 : decode cX11_init 132 = .ok (.putfield 71, 3) := by decide +kernel
theorem dX11_init_135 : decode cX11_init 135 = .ok (.aload_n 0, 1) := by decide +kernel
theorem dX11_init_136 : decode cX11_init 136 = .ok (.new 75, 3) := by decide +kernel
theorem dX11_init_139 : decode cX11_init 139 = .ok (.dup, 1) := by decide +kernel
theorem dX11_init_140 : decode cX11_init 140 = .ok (.invokespecial 77, 3) := by decide +kernel
theorem dX11_init_143 : decode cX11_init 143 = .ok (.putfield 78, 3) := by decide +kernel
theorem dX11_init_146 : decode cX11_init 146 = .ok (.aload_n 0, 1) := by decide +kernel
theorem dX11_init_147 : decode cX11_init 147 = .ok (.sipush 283, 3) := by decide +kernel
theorem dX11_init_150 : decode cX11_init 150 = .ok (.newarray .byte, 2) := by decide +kernel
theorem dX11_init_152 : decode cX11_init 152 = .ok (.putfield 82, 3) := by decide +kernel
theorem dX11_init_155 : decode cX11_init 155 = .ok (.aload_n 0, 1) := by decide +kernel
theorem dX11_init_156 : decode cX11_init 156 = .ok (.iconst 0, 1) := by decide +kernel
theorem dX11_init_157 : decode cX11_init 157 = .ok (.putfield 86, 3) := by decide +kernel
theorem dX11_init_160 : decode cX11_init 160 = .ok (.return_, 1) := by decide +kernel
theorem dX11_feed_0 : decode cX11_feed 0 = .ok (.aload_n 0, 1) := by decide +kernel
theorem dX11_feed_1 : decode cX11_feed 1 = .ok (.getfield 12, 3) := by decide +kernel
theorem dX11_feed_4 : decode cX11_feed 4 = .ok (.getfield 90, 3) := by decide +kernel
theorem dX11_feed_7 : decode cX11_feed 7 = .ok (.bipush 20, 2) := by decide +kernel
theorem dX11_feed_9 : decode cX11_feed 9 = .ok (.iadd, 1) := by decide +kernel
theorem dX11_feed_10 : decode cX11_feed 10 = .ok (.sipush 700, 3) := by decide +kernel
theorem dX11_feed_13 : decode cX11_feed 13 = .ok (.if_icmp .le 13, 3) := by decide +kernel
theorem dX11_feed_16 : decode cX11_feed 16 = .ok (.new 93, 3) := by decide +kernel
theorem dX11_feed_19 : decode cX11_feed 19 = .ok (.dup, 1) := by decide +kernel
theorem dX11_feed_20 : decode cX11_feed 20 = .ok (.ldc 95, 2) := by decide +kernel
theorem dX11_feed_22 : decode cX11_feed 22 = .ok (.invokespecial 97, 3) := by decide +kernel
theorem dX11_feed_25 : decode cX11_feed 25 = .ok (.athrow, 1) := by decide +kernel
theorem dX11_feed_26 : decode cX11_feed 26 = .ok (.aload_n 0, 1) := by decide +kernel
theorem dX11_feed_27 : decode cX11_feed 27 = .ok (.getfield 12, 3) := by decide +kernel
theorem dX11_feed_30 : decode cX11_feed 30 = .ok (.iload_n 1, 1) := by decide +kernel
theorem dX11_feed_31 : decode cX11_feed 31 = .ok (.invokevirtual 100, 3) := by decide +kernel
theorem dX11_feed_34 : decode cX11_feed 34 = .ok (.aload_n 0, 1) := by decide +kernel
theorem dX11_feed_35 : decode cX11_feed 35 = .ok (.getfield 12, 3) := by decide +kernel
theorem dX11_feed_38 : decode cX11_feed 38 = .ok (.iload_n 2, 1) := by decide +kernel
theorem dX11_feed_39 : decode cX11_feed 39 = .ok (.invokevirtual 100, 3) := by decide +kernel
theorem dX11_feed_42 : decode cX11_feed 42 = .ok (.aload_n 0, 1) := by decide +kernel
theorem dX11_feed_43 : decode cX11_feed 43 = .ok (.getfield 12, 3) := by decide +kernel
theorem dX11_feed_46 : decode cX11_feed 46 = .ok (.iload_n 3, 1) := by decide +kernel
theorem dX11_feed_47 : decode cX11_feed 47 = .ok (.invokevirtual 100, 3) := by decide +kernel
theorem dX11_feed_50 : decode cX11_feed 50 = .ok (.aload_n 0, 1) := by decide +kernel
theorem dX11_feed_51 : decode cX11_feed 51 = .ok (.getfield 12, 3) := by decide +kernel
theorem dX11_feed_54 : decode cX11_feed 54 = .ok (.iload 4, 2) := by decide +kernel
theorem dX11_feed_56 : decode cX11_feed 56 = .ok (.invokevirtual 100, 3) := by decide +kernel
theorem dX11_feed_59 : decode cX11_feed 59 = .ok (.aload_n 0, 1) := by decide +kernel
theorem dX11_feed_60 : decode cX11_feed 60 = .ok (.getfield 12, 3) := by decide +kernel
theorem dX11_feed_63 : decode cX11_feed 63 = .ok (.iload 5, 2) := by decide +kernel
theorem dX11_feed_65 : decode cX11_feed 65 = .ok (.invokevirtual 100, 3) := by decide +kernel
theorem dX11_feed_68 : decode cX11_feed 68 = .ok (.aload_n 0, 1) := by decide +kernel
theorem dX11_feed_69 : decode cX11_feed 69 = .ok (.getfield 12, 3) := by decide +kernel
theorem dX11_feed_72 : decode cX11_feed 72 = .ok (.getfield 90, 3) := by decide +kernel
theorem dX11_feed_75 : decode cX11_feed 75 = .ok (.ireturn, 1) := by decide +kernel
theorem dX11_truncate_0 : decode cX11_truncate 0 = .ok (.iload_n 1, 1) := by decide +kernel
theorem dX11_truncate_1 : decode cX11_truncate 1 = .ok (.ifCond .lt 14, 3) := by decide +kernel
theorem dX11_truncate_4 : decode cX11_truncate 4 = .ok (.iload_n 1, 1) := by decide +kernel
theorem dX11_truncate_5 : decode cX11_truncate 5 = .ok (.aload_n 0, 1) := by decide +kernel
theorem dX11_truncate_6 : decode cX11_truncate 6 = .ok (.getfield 12, 3) := by decide +kernel
theorem dX11_truncate_9 : decode cX11_truncate 9 = .ok (.getfield 90, 3) := by decide +kernel
theorem dX11_truncate_12 : decode cX11_truncate 12 = .ok (.if_icmp .le 13, 3) := by decide +kernel
theorem dX11_truncate_15 : decode cX11_truncate 15 = .ok (.new 104, 3) := by decide +kernel
theorem dX11_truncate_18 : decode cX11_truncate 18 = .ok (.dup, 1) := by decide +kernel
theorem dX11_truncate_19 : decode cX11_truncate 19 = .ok (.ldc 106, 2) := by decide +kernel
theorem dX11_truncate_21 : decode cX11_truncate 21 = .ok (.invokespecial 108, 3) := by decide +kernel
theorem dX11_truncate_24 : decode cX11_truncate 24 = .ok (.athrow, 1) := by decide +kernel
theorem dX11_truncate_25 : decode cX11_truncate 25 = .ok (.aload_n 0, 1) := by decide +kernel
theorem dX11_truncate_26 : decode cX11_truncate 26 = .ok (.getfield 12, 3) := by decide +kernel
theorem dX11_truncate_29 : decode cX11_truncate 29 = .ok (.iload_n 1, 1) := by decide +kernel
theorem dX11_truncate_30 : decode cX11_truncate 30 = .ok (.putfield 90, 3) := by decide +kernel
theorem dX11_truncate_33 : decode cX11_truncate 33 = .ok (.iload_n 1, 1) := by decide +kernel
theorem dX11_truncate_34 : decode cX11_truncate 34 = .ok (.ireturn, 1) := by decide +kernel
theorem dX11_readText_0 : decode cX11_readText 0 = .ok (.aload_n 0, 1) := by decide +kernel
theorem dX11_readText_1 : decode cX11_readText 1 = .ok (.getfield 52, 3) := by decide +kernel
theorem dX11_readText_4 : decode cX11_readText 4 = .ok (.invokevirtual 109, 3) := by decide +kernel
theorem dX11_readText_7 : decode cX11_readText 7 = .ok (.istore_n 1, 1) := by decide +kernel
theorem dX11_readText_8 : decode cX11_readText 8 = .ok (.aload_n 0, 1) := by decide +kernel
theorem dX11_readText_9 : decode cX11_readText 9 = .ok (.getfield 12, 3) := by decide +kernel
theorem dX11_readText_12 : decode cX11_readText 12 = .ok (.iconst 0, 1) := by decide +kernel
theorem dX11_readText_13 : decode cX11_readText 13 = .ok (.putfield 90, 3) := by decide +kernel
theorem dX11_readText_16 : decode cX11_readText 16 = .ok (.iload_n 1, 1) := by decide +kernel
theorem dX11_readText_17 : decode cX11_readText 17 = .ok (.ifCond .ne 13, 3) := by decide +kernel
theorem dX11_readText_20 : decode cX11_readText 20 = .ok (.new 104, 3) := by decide +kernel
theorem dX11_readText_23 : decode cX11_readText 23 = .ok (.dup, 1) := by decide +kernel
theorem dX11_readText_24 : decode cX11_readText 24 = .ok (.ldc 113, 2) := by decide +kernel
theorem dX11_readText_26 : decode cX11_readText 26 = .ok (.invokespecial 108, 3) := by decide +kernel
theorem dX11_readText_29 : decode cX11_readText 29 = .ok (.athrow, 1) := by decide +kernel
theorem dX11_readText_30 : decode cX11_readText 30 = .ok (.aload_n 0, 1) := by decide +kernel
theorem dX11_readText_31 : decode cX11_readText 31 = .ok (.getfield 40, 3) := by decide +kernel
theorem dX11_readText_34 : decode cX11_readText 34 = .ok (.aload_n 0, 1) := by decide +kernel
theorem dX11_readText_35 : decode cX11_readText 35 = .ok (.getfield 44, 3) := by decide +kernel
theorem dX11_readText_38 : decode cX11_readText 38 = .ok (.invokevirtual 115, 3) := by decide +kernel
theorem dX11_readText_41 : decode cX11_readText 41 = .ok (.aload_n 0, 1) := by decide +kernel
theorem dX11_readText_42 : decode cX11_readText 42 = .ok (.getfield 78, 3) := by decide +kernel
theorem dX11_readText_45 : decode cX11_readText 45 = .ok (.invokevirtual 119, 3) := by decide +kernel
theorem dX11_readText_48 : decode cX11_readText 48 = .ok (.aload_n 0, 1) := by decide +kernel
theorem dX11_readText_49 : decode cX11_readText 49 = .ok (.getfield 40, 3) := by decide +kernel
theorem dX11_readText_52 : decode cX11_readText 52 = .ok (.getfield 122, 3) := by decide +kernel
theorem dX11_readText_55 : decode cX11_readText 55 = .ok (.ireturn, 1) := by decide +kernel
theorem dX11_setting_0 : decode cX11_setting 0 = .ok (.iload_n 1, 1) := by decide +kernel
theorem dX11_setting_1 : decode cX11_setting 1 = .ok (.tableswitch 108 0 6 #[43, 54, 65, 73, 84, 92, 100], 43) := by decide +kernel
theorem dX11_setting_44 : decode cX11_setting 44 = .ok (.aload_n 0, 1) := by decide +kernel
theorem dX11_setting_45 : decode cX11_setting 45 = .ok (.getfield 40, 3) := by decide +kernel
theorem dX11_setting_48 : decode cX11_setting 48 = .ok (.getfield 143, 3) := by decide +kernel
theorem dX11_setting_51 : decode cX11_setting 51 = .ok (.getfield 147, 3) := by decide +kernel
theorem dX11_setting_54 : decode cX11_setting 54 = .ok (.ireturn, 1) := by decide +kernel
theorem dX11_setting_55 : decode cX11_setting 55 = .ok (.aload_n 0, 1) := by decide +kernel
theorem dX11_setting_56 : decode cX11_setting 56 = .ok (.getfield 40, 3) := by decide +kernel
theorem dX11_setting_59 : decode cX11_setting 59 = .ok (.getfield 143, 3) := by decide +kernel
theorem dX11_setting_62 : decode cX11_setting 62 = .ok (.getfield 152, 3) := by decide +kernel
theorem dX11_setting_65 : decode cX11_setting 65 = .ok (.ireturn, 1) := by decide +kernel
theorem dX11_setting_66 : decode cX11_setting 66 = .ok (.aload_n 0, 1) := by decide +kernel
theorem dX11_setting_67 : decode cX11_setting 67 = .ok (.getfield 40, 3) := by decide +kernel
theorem dX11_setting_70 : decode cX11_setting 70 = .ok (.getfield 122, 3) := by decide +kernel
theorem dX11_setting_73 : decode cX11_setting 73 = .ok (.ireturn, 1) := by decide +kernel
theorem dX11_setting_74 : decode cX11_setting 74 = .ok (.aload_n 0, 1) := by decide +kernel
theorem dX11_setting_75 : decode cX11_setting 75 = .ok (.getfield 40, 3) := by decide +kernel
theorem dX11_setting_78 : decode cX11_setting 78 = .ok (.getfield 143, 3) := by decide +kernel
theorem dX11_setting_81 : decode cX11_setting 81 = .ok (.getfield 155, 3) := by decide +kernel
theorem dX11_setting_84 : decode cX11_setting 84 = .ok (.ireturn, 1) := by decide +kernel
theorem dX11_setting_85 : decode cX11_setting 85 = .ok (.aload_n 0, 1) := by decide +kernel
theorem dX11_setting_86 : decode cX11_setting 86 = .ok (.getfield 40, 3) := by decide +kernel
theorem dX11_setting_89 : decode cX11_setting 89 = .ok (.getfield 158, 3) := by decide +kernel
theorem dX11_setting_92 : decode cX11_setting 92 = .ok (.ireturn, 1) := by decide +kernel
theorem dX11_setting_93 : decode cX11_setting 93 = .ok (.aload_n 0, 1) := by decide +kernel
theorem dX11_setting_94 : decode cX11_setting 94 = .ok (.getfield 40, 3) := by decide +kernel
theorem dX11_setting_97 : decode cX11_setting 97 = .ok (.getfield 161, 3) := by decide +kernel
theorem dX11_setting_100 : decode cX11_setting 100 = .ok (.ireturn, 1) := by decide +kernel
theorem dX11_setting_101 : decode cX11_setting 101 = .ok (.aload_n 0, 1) := by decide +kernel
theorem dX11_setting_102 : decode cX11_setting 102 = .ok (.getfield 40, 3) := by decide +kernel
theorem dX11_setting_105 : decode cX11_setting 105 = .ok (.getfield 164, 3) := by decide +kernel
theorem dX11_setting_108 : decode cX11_setting 108 = .ok (.ireturn, 1) := by decide +kernel
theorem dX11_setting_109 : decode cX11_setting 109 = .ok (.new 104, 3) := by decide +kernel
theorem dX11_setting_112 : decode cX11_setting 112 = .ok (.dup, 1) := by decide +kernel
theorem dX11_setting_113 : decode cX11_setting 113 = .ok (.ldc 167, 2) := by decide +kernel
theorem dX11_setting_115 : decode cX11_setting 115 = .ok (.invokespecial 108, 3) := by decide +kernel
theorem dX11_setting_118 : decode cX11_setting 118 = .ok (.athrow, 1) := by decide +kernel
theorem dX11_pawn_0 : decode cX11_pawn 0 = .ok (.aload_n 0, 1) := by decide +kernel
theorem dX11_pawn_1 : decode cX11_pawn 1 = .ok (.iload_n 1, 1) := by decide +kernel
theorem dX11_pawn_2 : decode cX11_pawn 2 = .ok (.invokevirtual 169, 3) := by decide +kernel
theorem dX11_pawn_5 : decode cX11_pawn 5 = .ok (.aload_n 0, 1) := by decide +kernel
theorem dX11_pawn_6 : decode cX11_pawn 6 = .ok (.getfield 40, 3) := by decide +kernel
theorem dX11_pawn_9 : decode cX11_pawn 9 = .ok (.getfield 172, 3) := by decide +kernel
theorem dX11_pawn_12 : decode cX11_pawn 12 = .ok (.iload_n 1, 1) := by decide +kernel
theorem dX11_pawn_13 : decode cX11_pawn 13 = .ok (.aaload, 1) := by decide +kernel
theorem dX11_pawn_14 : decode cX11_pawn 14 = .ok (.astore_n 3, 1) := by decide +kernel
theorem dX11_pawn_15 : decode cX11_pawn 15 = .ok (.iload_n 2, 1) := by decide +kernel
theorem dX11_pawn_16 : decode cX11_pawn 16 = .ok (.tableswitch 98 0 7 #[48, 56, 64, 69, 74, 79, 84, 89], 48) := by decide +kernel
theorem dX11_pawn_64 : decode cX11_pawn 64 = .ok (.aload_n 3, 1) := by decide +kernel
theorem dX11_pawn_65 : decode cX11_pawn 65 = .ok (.getfield 176, 3) := by decide +kernel
theorem dX11_pawn_68 : decode cX11_pawn 68 = .ok (.bipush 9, 2) := by decide +kernel
theorem dX11_pawn_70 : decode cX11_pawn 70 = .ok (.irem, 1) := by decide +kernel
theorem dX11_pawn_71 : decode cX11_pawn 71 = .ok (.ireturn, 1) := by decide +kernel
theorem dX11_pawn_72 : decode cX11_pawn 72 = .ok (.aload_n 3, 1) := by decide +kernel
theorem dX11_pawn_73 : decode cX11_pawn 73 = .ok (.getfield 176, 3) := by decide +kernel
theorem dX11_pawn_76 : decode cX11_pawn 76 = .ok (.bipush 9, 2) := by decide +kernel
theorem dX11_pawn_78 : decode cX11_pawn 78 = .ok (.idiv, 1) := by decide +kernel
theorem dX11_pawn_79 : decode cX11_pawn 79 = .ok (.ireturn, 1) := by decide +kernel
theorem dX11_pawn_80 : decode cX11_pawn 80 = .ok (.aload_n 3, 1) := by decide +kernel
theorem dX11_pawn_81 : decode cX11_pawn 81 = .ok (.getfield 181, 3) := by decide +kernel
theorem dX11_pawn_84 : decode cX11_pawn 84 = .ok (.ireturn, 1) := by decide +kernel
theorem dX11_pawn_85 : decode cX11_pawn 85 = .ok (.aload_n 3, 1) := by decide +kernel
theorem dX11_pawn_86 : decode cX11_pawn 86 = .ok (.getfield 184, 3) := by decide +kernel
theorem dX11_pawn_89 : decode cX11_pawn 89 = .ok (.ireturn, 1) := by decide +kernel
theorem dX11_pawn_90 : decode cX11_pawn 90 = .ok (.aload_n 3, 1) := by decide +kernel
theorem dX11_pawn_91 : decode cX11_pawn 91 = .ok (.getfield 185, 3) := by decide +kernel
theorem dX11_pawn_94 : decode cX11_pawn 94 = .ok (.ireturn, 1) := by decide +kernel
theorem dX11_pawn_95 : decode cX11_pawn 95 = .ok (.aload_n 3, 1) := by decide +kernel
theorem dX11_pawn_96 : decode cX11_pawn 96 = .ok (.getfield 188, 3) := by decide +kernel
theorem dX11_pawn_99 : decode cX11_pawn 99 = .ok (.ireturn, 1) := by decide +kernel
theorem dX11_pawn_100 : decode cX11_pawn 100 = .ok (.aload_n 3, 1) := by decide +kernel
theorem dX11_pawn_101 : decode cX11_pawn 101 = .ok (.getfield 191, 3) := by decide +kernel
theorem dX11_pawn_104 : decode cX11_pawn 104 = .ok (.ireturn, 1) := by decide +kernel
theorem dX11_pawn_105 : decode cX11_pawn 105 = .ok (.aload_n 0, 1) := by decide +kernel
theorem dX11_pawn_106 : decode cX11_pawn 106 = .ok (.getfield 40, 3) := by decide +kernel
theorem dX11_pawn_109 : decode cX11_pawn 109 = .ok (.iload_n 1, 1) := by decide +kernel
theorem dX11_pawn_110 : decode cX11_pawn 110 = .ok (.invokevirtual 194, 3) := by decide +kernel
theorem dX11_pawn_113 : decode cX11_pawn 113 = .ok (.ireturn, 1) := by decide +kernel
theorem dX11_pawn_114 : decode cX11_pawn 114 = .ok (.new 104, 3) := by decide +kernel
theorem dX11_pawn_117 : decode cX11_pawn 117 = .ok (.dup, 1) := by decide +kernel
theorem dX11_pawn_118 : decode cX11_pawn 118 = .ok (.ldc 198, 2) := by decide +kernel
theorem dX11_pawn_120 : decode cX11_pawn 120 = .ok (.invokespecial 108, 3) := by decide +kernel
theorem dX11_pawn_123 : decode cX11_pawn 123 = .ok (.athrow, 1) := by decide +kernel
theorem dX11_turnOf_0 : decode cX11_turnOf 0 = .ok (.aload_n 0, 1) := by decide +kernel
theorem dX11_turnOf_1 : decode cX11_turnOf 1 = .ok (.getfield 40, 3) := by decide +kernel
theorem dX11_turnOf_4 : decode cX11_turnOf 4 = .ok (.invokevirtual 200, 3) := by decide +kernel
theorem dX11_turnOf_7 : decode cX11_turnOf 7 = .ok (.ireturn, 1) := by decide +kernel
theorem dX11_isOver_0 : decode cX11_isOver 0 = .ok (.aload_n 0, 1) := by decide +kernel
theorem dX11_isOver_1 : decode cX11_isOver 1 = .ok (.getfield 40, 3) := by decide +kernel
theorem dX11_isOver_4 : decode cX11_isOver 4 = .ok (.invokevirtual 204, 3) := by decide +kernel
theorem dX11_isOver_7 : decode cX11_isOver 7 = .ok (.ireturn, 1) := by decide +kernel
theorem dX11_ranked_0 : decode cX11_ranked 0 = .ok (.aload_n 0, 1) := by decide +kernel
theorem dX11_ranked_1 : decode cX11_ranked 1 = .ok (.getfield 40, 3) := by decide +kernel
theorem dX11_ranked_4 : decode cX11_ranked 4 = .ok (.iload_n 1, 1) := by decide +kernel
theorem dX11_ranked_5 : decode cX11_ranked 5 = .ok (.invokevirtual 214, 3) := by decide +kernel
theorem dX11_ranked_8 : decode cX11_ranked 8 = .ok (.ireturn, 1) := by decide +kernel
theorem dX11_wallAt_0 : decode cX11_wallAt 0 = .ok (.aload_n 0, 1) := by decide +kernel
theorem dX11_wallAt_1 : decode cX11_wallAt 1 = .ok (.iload_n 1, 1) := by decide +kernel
theorem dX11_wallAt_2 : decode cX11_wallAt 2 = .ok (.iload_n 2, 1) := by decide +kernel
theorem dX11_wallAt_3 : decode cX11_wallAt 3 = .ok (.invokevirtual 217, 3) := by decide +kernel
theorem dX11_wallAt_6 : decode cX11_wallAt 6 = .ok (.aload_n 0, 1) := by decide +kernel
theorem dX11_wallAt_7 : decode cX11_wallAt 7 = .ok (.getfield 40, 3) := by decide +kernel
theorem dX11_wallAt_10 : decode cX11_wallAt 10 = .ok (.getfield 143, 3) := by decide +kernel
theorem dX11_wallAt_13 : decode cX11_wallAt 13 = .ok (.iload_n 1, 1) := by decide +kernel
theorem dX11_wallAt_14 : decode cX11_wallAt 14 = .ok (.iload_n 2, 1) := by decide +kernel
theorem dX11_wallAt_15 : decode cX11_wallAt 15 = .ok (.invokevirtual 220, 3) := by decide +kernel
theorem dX11_wallAt_18 : decode cX11_wallAt 18 = .ok (.ireturn, 1) := by decide +kernel
theorem dX11_isBlocked_0 : decode cX11_isBlocked 0 = .ok (.aload_n 0, 1) := by decide +kernel
theorem dX11_isBlocked_1 : decode cX11_isBlocked 1 = .ok (.iload_n 1, 1) := by decide +kernel
theorem dX11_isBlocked_2 : decode cX11_isBlocked 2 = .ok (.iload_n 2, 1) := by decide +kernel
theorem dX11_isBlocked_3 : decode cX11_isBlocked 3 = .ok (.invokevirtual 207, 3) := by decide +kernel
theorem dX11_isBlocked_6 : decode cX11_isBlocked 6 = .ok (.aload_n 0, 1) := by decide +kernel
theorem dX11_isBlocked_7 : decode cX11_isBlocked 7 = .ok (.iload_n 3, 1) := by decide +kernel
theorem dX11_isBlocked_8 : decode cX11_isBlocked 8 = .ok (.invokevirtual 224, 3) := by decide +kernel
theorem dX11_isBlocked_11 : decode cX11_isBlocked 11 = .ok (.aload_n 0, 1) := by decide +kernel
theorem dX11_isBlocked_12 : decode cX11_isBlocked 12 = .ok (.getfield 40, 3) := by decide +kernel
theorem dX11_isBlocked_15 : decode cX11_isBlocked 15 = .ok (.getfield 143, 3) := by decide +kernel
theorem dX11_isBlocked_18 : decode cX11_isBlocked 18 = .ok (.iload_n 2, 1) := by decide +kernel
theorem dX11_isBlocked_19 : decode cX11_isBlocked 19 = .ok (.bipush 9, 2) := by decide +kernel
theorem dX11_isBlocked_21 : decode cX11_isBlocked 21 = .ok (.imul, 1) := by decide +kernel
theorem dX11_isBlocked_22 : decode cX11_isBlocked 22 = .ok (.iload_n 1, 1) := by decide +kernel
theorem dX11_isBlocked_23 : decode cX11_isBlocked 23 = .ok (.iadd, 1) := by decide +kernel
theorem dX11_isBlocked_24 : decode cX11_isBlocked 24 = .ok (.iload_n 3, 1) := by decide +kernel
theorem dX11_isBlocked_25 : decode cX11_isBlocked 25 = .ok (.invokevirtual 227, 3) := by decide +kernel
theorem dX11_isBlocked_28 : decode cX11_isBlocked 28 = .ok (.iconst (-1), 1) := by decide +kernel
theorem dX11_isBlocked_29 : decode cX11_isBlocked 29 = .ok (.if_icmp .ne 7, 3) := by decide +kernel
theorem dX11_isBlocked_32 : decode cX11_isBlocked 32 = .ok (.iconst 1, 1) := by decide +kernel
theorem dX11_isBlocked_33 : decode cX11_isBlocked 33 = .ok (.goto 4, 3) := by decide +kernel
theorem dX11_isBlocked_36 : decode cX11_isBlocked 36 = .ok (.iconst 0, 1) := by decide +kernel
theorem dX11_isBlocked_37 : decode cX11_isBlocked 37 = .ok (.ireturn, 1) := by decide +kernel
theorem dX11_isAdmissible_0 : decode cX11_isAdmissible 0 = .ok (.aload_n 0, 1) := by decide +kernel
theorem dX11_isAdmissible_1 : decode cX11_isAdmissible 1 = .ok (.iload_n 1, 1) := by decide +kernel
theorem dX11_isAdmissible_2 : decode cX11_isAdmissible 2 = .ok (.iload_n 2, 1) := by decide +kernel
theorem dX11_isAdmissible_3 : decode cX11_isAdmissible 3 = .ok (.invokevirtual 217, 3) := by decide +kernel
theorem dX11_isAdmissible_6 : decode cX11_isAdmissible 6 = .ok (.aload_n 0, 1) := by decide +kernel
theorem dX11_isAdmissible_7 : decode cX11_isAdmissible 7 = .ok (.getfield 19, 3) := by decide +kernel
theorem dX11_isAdmissible_10 : decode cX11_isAdmissible 10 = .ok (.aload_n 0, 1) := by decide +kernel
theorem dX11_isAdmissible_11 : decode cX11_isAdmissible 11 = .ok (.getfield 40, 3) := by decide +kernel
theorem dX11_isAdmissible_14 : decode cX11_isAdmissible 14 = .ok (.iload_n 1, 1) := by decide +kernel
theorem dX11_isAdmissible_15 : decode cX11_isAdmissible 15 = .ok (.iload_n 2, 1) := by decide +kernel
theorem dX11_isAdmissible_16 : decode cX11_isAdmissible 16 = .ok (.iload_n 3, 1) := by decide +kernel
theorem dX11_isAdmissible_17 : decode cX11_isAdmissible 17 = .ok (.ifCond .eq 7, 3) := by decide +kernel
theorem dX11_isAdmissible_20 : decode cX11_isAdmissible 20 = .ok (.iconst 1, 1) := by decide +kernel
theorem dX11_isAdmissible_21 : decode cX11_isAdmissible 21 = .ok (.goto 4, 3) := by decide +kernel
theorem dX11_isAdmissible_24 : decode cX11_isAdmissible 24 = .ok (.iconst 0, 1) := by decide +kernel
theorem dX11_isAdmissible_25 : decode cX11_isAdmissible 25 = .ok (.invokevirtual 230, 3) := by decide +kernel
theorem dX11_isAdmissible_28 : decode cX11_isAdmissible 28 = .ok (.ireturn, 1) := by decide +kernel
theorem dX11_canStep_0 : decode cX11_canStep 0 = .ok (.aload_n 0, 1) := by decide +kernel
theorem dX11_canStep_1 : decode cX11_canStep 1 = .ok (.iload_n 1, 1) := by decide +kernel
theorem dX11_canStep_2 : decode cX11_canStep 2 = .ok (.invokevirtual 169, 3) := by decide +kernel
theorem dX11_canStep_5 : decode cX11_canStep 5 = .ok (.aload_n 0, 1) := by decide +kernel
theorem dX11_canStep_6 : decode cX11_canStep 6 = .ok (.iload_n 2, 1) := by decide +kernel
theorem dX11_canStep_7 : decode cX11_canStep 7 = .ok (.invokevirtual 224, 3) := by decide +kernel
theorem dX11_canStep_10 : decode cX11_canStep 10 = .ok (.aload_n 0, 1) := by decide +kernel
theorem dX11_canStep_11 : decode cX11_canStep 11 = .ok (.getfield 40, 3) := by decide +kernel
theorem dX11_canStep_14 : decode cX11_canStep 14 = .ok (.iload_n 1, 1) := by decide +kernel
theorem dX11_canStep_15 : decode cX11_canStep 15 = .ok (.iload_n 2, 1) := by decide +kernel
theorem dX11_canStep_16 : decode cX11_canStep 16 = .ok (.invokevirtual 242, 3) := by decide +kernel
theorem dX11_canStep_19 : decode cX11_canStep 19 = .ok (.iconst (-1), 1) := by decide +kernel
theorem dX11_canStep_20 : decode cX11_canStep 20 = .ok (.if_icmp .eq 7, 3) := by decide +kernel
theorem dX11_canStep_23 : decode cX11_canStep 23 = .ok (.iconst 1, 1) := by decide +kernel
theorem dX11_canStep_24 : decode cX11_canStep 24 = .ok (.goto 4, 3) := by decide +kernel
theorem dX11_canStep_27 : decode cX11_canStep 27 = .ok (.iconst 0, 1) := by decide +kernel
theorem dX11_canStep_28 : decode cX11_canStep 28 = .ok (.ireturn, 1) := by decide +kernel
theorem dX11_distance_0 : decode cX11_distance 0 = .ok (.aload_n 0, 1) := by decide +kernel
theorem dX11_distance_1 : decode cX11_distance 1 = .ok (.iload_n 1, 1) := by decide +kernel
theorem dX11_distance_2 : decode cX11_distance 2 = .ok (.invokevirtual 169, 3) := by decide +kernel
theorem dX11_distance_5 : decode cX11_distance 5 = .ok (.aload_n 0, 1) := by decide +kernel
theorem dX11_distance_6 : decode cX11_distance 6 = .ok (.getfield 26, 3) := by decide +kernel
theorem dX11_distance_9 : decode cX11_distance 9 = .ok (.aload_n 0, 1) := by decide +kernel
theorem dX11_distance_10 : decode cX11_distance 10 = .ok (.getfield 40, 3) := by decide +kernel
theorem dX11_distance_13 : decode cX11_distance 13 = .ok (.getfield 143, 3) := by decide +kernel
theorem dX11_distance_16 : decode cX11_distance 16 = .ok (.aload_n 0, 1) := by decide +kernel
theorem dX11_distance_17 : decode cX11_distance 17 = .ok (.getfield 40, 3) := by decide +kernel
theorem dX11_distance_20 : decode cX11_distance 20 = .ok (.getfield 172, 3) := by decide +kernel
theorem dX11_distance_23 : decode cX11_distance 23 = .ok (.iload_n 1, 1) := by decide +kernel
theorem dX11_distance_24 : decode cX11_distance 24 = .ok (.aaload, 1) := by decide +kernel
theorem dX11_distance_25 : decode cX11_distance 25 = .ok (.invokevirtual 251, 3) := by decide +kernel
theorem dX11_distance_28 : decode cX11_distance 28 = .ok (.ireturn, 1) := by decide +kernel
theorem dX11_distanceFrom_0 : decode cX11_distanceFrom 0 = .ok (.aload_n 0, 1) := by decide +kernel
theorem dX11_distanceFrom_1 : decode cX11_distanceFrom 1 = .ok (.iload_n 1, 1) := by decide +kernel
theorem dX11_distanceFrom_2 : decode cX11_distanceFrom 2 = .ok (.invokevirtual 169, 3) := by decide +kernel
theorem dX11_distanceFrom_5 : decode cX11_distanceFrom 5 = .ok (.aload_n 0, 1) := by decide +kernel
theorem dX11_distanceFrom_6 : decode cX11_distanceFrom 6 = .ok (.iload_n 2, 1) := by decide +kernel
theorem dX11_distanceFrom_7 : decode cX11_distanceFrom 7 = .ok (.iload_n 3, 1) := by decide +kernel
theorem dX11_distanceFrom_8 : decode cX11_distanceFrom 8 = .ok (.invokevirtual 207, 3) := by decide +kernel
theorem dX11_distanceFrom_11 : decode cX11_distanceFrom 11 = .ok (.iload_n 3, 1) := by decide +kernel
theorem dX11_distanceFrom_12 : decode cX11_distanceFrom 12 = .ok (.bipush 9, 2) := by decide +kernel
theorem dX11_distanceFrom_14 : decode cX11_distanceFrom 14 = .ok (.imul, 1) := by decide +kernel
theorem dX11_distanceFrom_15 : decode cX11_distanceFrom 15 = .ok (.iload_n 2, 1) := by decide +kernel
theorem dX11_distanceFrom_16 : decode cX11_distanceFrom 16 = .ok (.iadd, 1) := by decide +kernel
theorem dX11_distanceFrom_17 : decode cX11_distanceFrom 17 = .ok (.istore 4, 2) := by decide +kernel
theorem dX11_distanceFrom_19 : decode cX11_distanceFrom 19 = .ok (.aload_n 0, 1) := by decide +kernel
theorem dX11_distanceFrom_20 : decode cX11_distanceFrom 20 = .ok (.getfield 26, 3) := by decide +kernel
theorem dX11_distanceFrom_23 : decode cX11_distanceFrom 23 = .ok (.aload_n 0, 1) := by decide +kernel
theorem dX11_distanceFrom_24 : decode cX11_distanceFrom 24 = .ok (.getfield 40, 3) := by decide +kernel
theorem dX11_distanceFrom_27 : decode cX11_distanceFrom 27 = .ok (.getfield 143, 3) := by decide +kernel
theorem dX11_distanceFrom_30 : decode cX11_distanceFrom 30 = .ok (.aload_n 0, 1) := by decide +kernel
theorem dX11_distanceFrom_31 : decode cX11_distanceFrom 31 = .ok (.getfield 40, 3) := by decide +kernel
theorem dX11_distanceFrom_34 : decode cX11_distanceFrom 34 = .ok (.getfield 172, 3) := by decide +kernel
theorem dX11_distanceFrom_37 : decode cX11_distanceFrom 37 = .ok (.iload_n 1, 1) := by decide +kernel
theorem dX11_distanceFrom_38 : decode cX11_distanceFrom 38 = .ok (.aaload, 1) := by decide +kernel
theorem dX11_distanceFrom_39 : decode cX11_distanceFrom 39 = .ok (.getfield 181, 3) := by decide +kernel
theorem dX11_distanceFrom_42 : decode cX11_distanceFrom 42 = .ok (.iconst (-1), 1) := by decide +kernel
theorem dX11_distanceFrom_43 : decode cX11_distanceFrom 43 = .ok (.iload 4, 2) := by decide +kernel
theorem dX11_distanceFrom_45 : decode cX11_distanceFrom 45 = .ok (.invokevirtual 255, 3) := by decide +kernel
theorem dX11_distanceFrom_48 : decode cX11_distanceFrom 48 = .ok (.ireturn, 1) := by decide +kernel
theorem dX11_ways_0 : decode cX11_ways 0 = .ok (.aload_n 0, 1) := by decide +kernel
theorem dX11_ways_1 : decode cX11_ways 1 = .ok (.iload_n 1, 1) := by decide +kernel
theorem dX11_ways_2 : decode cX11_ways 2 = .ok (.invokevirtual 169, 3) := by decide +kernel
theorem dX11_ways_5 : decode cX11_ways 5 = .ok (.aload_n 0, 1) := by decide +kernel
theorem dX11_ways_6 : decode cX11_ways 6 = .ok (.getfield 26, 3) := by decide +kernel
theorem dX11_ways_9 : decode cX11_ways 9 = .ok (.aload_n 0, 1) := by decide +kernel
theorem dX11_ways_10 : decode cX11_ways 10 = .ok (.getfield 40, 3) := by decide +kernel
theorem dX11_ways_13 : decode cX11_ways 13 = .ok (.getfield 143, 3) := by decide +kernel
theorem dX11_ways_16 : decode cX11_ways 16 = .ok (.aload_n 0, 1) := by decide +kernel
theorem dX11_ways_17 : decode cX11_ways 17 = .ok (.getfield 40, 3) := by decide +kernel
theorem dX11_ways_20 : decode cX11_ways 20 = .ok (.getfield 172, 3) := by decide +kernel
theorem dX11_ways_23 : decode cX11_ways 23 = .ok (.iload_n 1, 1) := by decide +kernel
theorem dX11_ways_24 : decode cX11_ways 24 = .ok (.aaload, 1) := by decide +kernel
theorem dX11_ways_25 : decode cX11_ways 25 = .ok (.invokevirtual 259, 3) := by decide +kernel
theorem dX11_ways_28 : decode cX11_ways 28 = .ok (.ireturn, 1) := by decide +kernel
theorem dX11_onWays_0 : decode cX11_onWays 0 = .ok (.aload_n 0, 1) := by decide +kernel
theorem dX11_onWays_1 : decode cX11_onWays 1 = .ok (.iload_n 1, 1) := by decide +kernel
theorem dX11_onWays_2 : decode cX11_onWays 2 = .ok (.invokevirtual 169, 3) := by decide +kernel
theorem dX11_onWays_5 : decode cX11_onWays 5 = .ok (.aload_n 0, 1) := by decide +kernel
theorem dX11_onWays_6 : decode cX11_onWays 6 = .ok (.getfield 26, 3) := by decide +kernel
theorem dX11_onWays_9 : decode cX11_onWays 9 = .ok (.aload_n 0, 1) := by decide +kernel
theorem dX11_onWays_10 : decode cX11_onWays 10 = .ok (.getfield 40, 3) := by decide +kernel
theorem dX11_onWays_13 : decode cX11_onWays 13 = .ok (.getfield 143, 3) := by decide +kernel
theorem dX11_onWays_16 : decode cX11_onWays 16 = .ok (.aload_n 0, 1) := by decide +kernel
theorem dX11_onWays_17 : decode cX11_onWays 17 = .ok (.getfield 40, 3) := by decide +kernel
theorem dX11_onWays_20 : decode cX11_onWays 20 = .ok (.getfield 172, 3) := by decide +kernel
theorem dX11_onWays_23 : decode cX11_onWays 23 = .ok (.iload_n 1, 1) := by decide +kernel
theorem dX11_onWays_24 : decode cX11_onWays 24 = .ok (.aaload, 1) := by decide +kernel
theorem dX11_onWays_25 : decode cX11_onWays 25 = .ok (.invokevirtual 262, 3) := by decide +kernel
theorem dX11_onWays_28 : decode cX11_onWays 28 = .ok (.ireturn, 1) := by decide +kernel
theorem dX11_gates_0 : decode cX11_gates 0 = .ok (.aload_n 0, 1) := by decide +kernel
theorem dX11_gates_1 : decode cX11_gates 1 = .ok (.iload_n 1, 1) := by decide +kernel
theorem dX11_gates_2 : decode cX11_gates 2 = .ok (.invokevirtual 169, 3) := by decide +kernel
theorem dX11_gates_5 : decode cX11_gates 5 = .ok (.aload_n 0, 1) := by decide +kernel
theorem dX11_gates_6 : decode cX11_gates 6 = .ok (.getfield 26, 3) := by decide +kernel
theorem dX11_gates_9 : decode cX11_gates 9 = .ok (.aload_n 0, 1) := by decide +kernel
theorem dX11_gates_10 : decode cX11_gates 10 = .ok (.getfield 40, 3) := by decide +kernel
theorem dX11_gates_13 : decode cX11_gates 13 = .ok (.getfield 143, 3) := by decide +kernel
theorem dX11_gates_16 : decode cX11_gates 16 = .ok (.aload_n 0, 1) := by decide +kernel
theorem dX11_gates_17 : decode cX11_gates 17 = .ok (.getfield 40, 3) := by decide +kernel
theorem dX11_gates_20 : decode cX11_gates 20 = .ok (.getfield 172, 3) := by decide +kernel
theorem dX11_gates_23 : decode cX11_gates 23 = .ok (.iload_n 1, 1) := by decide +kernel
theorem dX11_gates_24 : decode cX11_gates 24 = .ok (.aaload, 1) := by decide +kernel
theorem dX11_gates_25 : decode cX11_gates 25 = .ok (.invokevirtual 265, 3) := by decide +kernel
theorem dX11_gates_28 : decode cX11_gates 28 = .ok (.ireturn, 1) := by decide +kernel
theorem dX11_isGate_0 : decode cX11_isGate 0 = .ok (.aload_n 0, 1) := by decide +kernel
theorem dX11_isGate_1 : decode cX11_isGate 1 = .ok (.iload_n 1, 1) := by decide +kernel
theorem dX11_isGate_2 : decode cX11_isGate 2 = .ok (.invokevirtual 169, 3) := by decide +kernel
theorem dX11_isGate_5 : decode cX11_isGate 5 = .ok (.aload_n 0, 1) := by decide +kernel
theorem dX11_isGate_6 : decode cX11_isGate 6 = .ok (.iload_n 2, 1) := by decide +kernel
theorem dX11_isGate_7 : decode cX11_isGate 7 = .ok (.iload_n 3, 1) := by decide +kernel
theorem dX11_isGate_8 : decode cX11_isGate 8 = .ok (.invokevirtual 207, 3) := by decide +kernel
theorem dX11_isGate_11 : decode cX11_isGate 11 = .ok (.aload_n 0, 1) := by decide +kernel
theorem dX11_isGate_12 : decode cX11_isGate 12 = .ok (.getfield 26, 3) := by decide +kernel
theorem dX11_isGate_15 : decode cX11_isGate 15 = .ok (.aload_n 0, 1) := by decide +kernel
theorem dX11_isGate_16 : decode cX11_isGate 16 = .ok (.getfield 40, 3) := by decide +kernel
theorem dX11_isGate_19 : decode cX11_isGate 19 = .ok (.getfield 143, 3) := by decide +kernel
theorem dX11_isGate_22 : decode cX11_isGate 22 = .ok (.aload_n 0, 1) := by decide +kernel
theorem dX11_isGate_23 : decode cX11_isGate 23 = .ok (.getfield 40, 3) := by decide +kernel
theorem dX11_isGate_26 : decode cX11_isGate 26 = .ok (.getfield 172, 3) := by decide +kernel
theorem dX11_isGate_29 : decode cX11_isGate 29 = .ok (.iload_n 1, 1) := by decide +kernel
theorem dX11_isGate_30 : decode cX11_isGate 30 = .ok (.aaload, 1) := by decide +kernel
theorem dX11_isGate_31 : decode cX11_isGate 31 = .ok (.iload_n 3, 1) := by decide +kernel
theorem dX11_isGate_32 : decode cX11_isGate 32 = .ok (.bipush 9, 2) := by decide +kernel
theorem dX11_isGate_34 : decode cX11_isGate 34 = .ok (.imul, 1) := by decide +kernel
theorem dX11_isGate_35 : decode cX11_isGate 35 = .ok (.iload_n 2, 1) := by decide +kernel
theorem dX11_isGate_36 : decode cX11_isGate 36 = .ok (.iadd, 1) := by decide +kernel
theorem dX11_isGate_37 : decode cX11_isGate 37 = .ok (.invokevirtual 268, 3) := by decide +kernel
theorem dX11_isGate_40 : decode cX11_isGate 40 = .ok (.ireturn, 1) := by decide +kernel
theorem dX11_stepsWithBans_0 : decode cX11_stepsWithBans 0 = .ok (.aload_n 0, 1) := by decide +kernel
theorem dX11_stepsWithBans_1 : decode cX11_stepsWithBans 1 = .ok (.iload_n 1, 1) := by decide +kernel
theorem dX11_stepsWithBans_2 : decode cX11_stepsWithBans 2 = .ok (.invokevirtual 169, 3) := by decide +kernel
theorem dX11_stepsWithBans_5 : decode cX11_stepsWithBans 5 = .ok (.aload_n 0, 1) := by decide +kernel
theorem dX11_stepsWithBans_6 : decode cX11_stepsWithBans 6 = .ok (.getfield 33, 3) := by decide +kernel
theorem dX11_stepsWithBans_9 : decode cX11_stepsWithBans 9 = .ok (.aload_n 0, 1) := by decide +kernel
theorem dX11_stepsWithBans_10 : decode cX11_stepsWithBans 10 = .ok (.getfield 40, 3) := by decide +kernel
theorem dX11_stepsWithBans_13 : decode cX11_stepsWithBans 13 = .ok (.iload_n 1, 1) := by decide +kernel
theorem dX11_stepsWithBans_14 : decode cX11_stepsWithBans 14 = .ok (.invokevirtual 272, 3) := by decide +kernel
theorem dX11_stepsWithBans_17 : decode cX11_stepsWithBans 17 = .ok (.ireturn, 1) := by decide +kernel
theorem dX11_detour_0 : decode cX11_detour 0 = .ok (.aload_n 0, 1) := by decide +kernel
theorem dX11_detour_1 : decode cX11_detour 1 = .ok (.iload_n 1, 1) := by decide +kernel
theorem dX11_detour_2 : decode cX11_detour 2 = .ok (.invokevirtual 169, 3) := by decide +kernel
theorem dX11_detour_5 : decode cX11_detour 5 = .ok (.aload_n 0, 1) := by decide +kernel
theorem dX11_detour_6 : decode cX11_detour 6 = .ok (.getfield 33, 3) := by decide +kernel
theorem dX11_detour_9 : decode cX11_detour 9 = .ok (.aload_n 0, 1) := by decide +kernel
theorem dX11_detour_10 : decode cX11_detour 10 = .ok (.getfield 40, 3) := by decide +kernel
theorem dX11_detour_13 : decode cX11_detour 13 = .ok (.iload_n 1, 1) := by decide +kernel
theorem dX11_detour_14 : decode cX11_detour 14 = .ok (.invokevirtual 272, 3) := by decide +kernel
theorem dX11_detour_17 : decode cX11_detour 17 = .ok (.istore_n 2, 1) := by decide +kernel
theorem dX11_detour_18 : decode cX11_detour 18 = .ok (.iload_n 2, 1) := by decide +kernel
theorem dX11_detour_19 : decode cX11_detour 19 = .ok (.iconst (-1), 1) := by decide +kernel
theorem dX11_detour_20 : decode cX11_detour 20 = .ok (.if_icmp .ne 7, 3) := by decide +kernel
theorem dX11_detour_23 : decode cX11_detour 23 = .ok (.iconst (-1), 1) := by decide +kernel
theorem dX11_detour_24 : decode cX11_detour 24 = .ok (.goto 28, 3) := by decide +kernel
theorem dX11_detour_27 : decode cX11_detour 27 = .ok (.iload_n 2, 1) := by decide +kernel
theorem dX11_detour_28 : decode cX11_detour 28 = .ok (.aload_n 0, 1) := by decide +kernel
theorem dX11_detour_29 : decode cX11_detour 29 = .ok (.getfield 26, 3) := by decide +kernel
theorem dX11_detour_32 : decode cX11_detour 32 = .ok (.aload_n 0, 1) := by decide +kernel
theorem dX11_detour_33 : decode cX11_detour 33 = .ok (.getfield 40, 3) := by decide +kernel
theorem dX11_detour_36 : decode cX11_detour 36 = .ok (.getfield 143, 3) := by decide +kernel
theorem dX11_detour_39 : decode cX11_detour 39 = .ok (.aload_n 0, 1) := by decide +kernel
theorem dX11_detour_40 : decode cX11_detour 40 = .ok (.getfield 40, 3) := by decide +kernel
theorem dX11_detour_43 : decode cX11_detour 43 = .ok (.getfield 172, 3) := by decide +kernel
theorem dX11_detour_46 : decode cX11_detour 46 = .ok (.iload_n 1, 1) := by decide +kernel
theorem dX11_detour_47 : decode cX11_detour 47 = .ok (.aaload, 1) := by decide +kernel
theorem dX11_detour_48 : decode cX11_detour 48 = .ok (.invokevirtual 251, 3) := by decide +kernel
theorem dX11_detour_51 : decode cX11_detour 51 = .ok (.isub, 1) := by decide +kernel
theorem dX11_detour_52 : decode cX11_detour 52 = .ok (.ireturn, 1) := by decide +kernel
theorem dX11_gain_0 : decode cX11_gain 0 = .ok (.aload_n 0, 1) := by decide +kernel
theorem dX11_gain_1 : decode cX11_gain 1 = .ok (.iload_n 1, 1) := by decide +kernel
theorem dX11_gain_2 : decode cX11_gain 2 = .ok (.invokevirtual 169, 3) := by decide +kernel
theorem dX11_gain_5 : decode cX11_gain 5 = .ok (.aload_n 0, 1) := by decide +kernel
theorem dX11_gain_6 : decode cX11_gain 6 = .ok (.getfield 19, 3) := by decide +kernel
theorem dX11_gain_9 : decode cX11_gain 9 = .ok (.aload_n 0, 1) := by decide +kernel
theorem dX11_gain_10 : decode cX11_gain 10 = .ok (.getfield 40, 3) := by decide +kernel
theorem dX11_gain_13 : decode cX11_gain 13 = .ok (.iload_n 1, 1) := by decide +kernel
theorem dX11_gain_14 : decode cX11_gain 14 = .ok (.invokevirtual 287, 3) := by decide +kernel
theorem dX11_gain_17 : decode cX11_gain 17 = .ok (.ifCond .eq 13, 3) := by decide +kernel
theorem dX11_gain_20 : decode cX11_gain 20 = .ok (.aload_n 0, 1) := by decide +kernel
theorem dX11_gain_21 : decode cX11_gain 21 = .ok (.getfield 19, 3) := by decide +kernel
theorem dX11_gain_24 : decode cX11_gain 24 = .ok (.getfield 300, 3) := by decide +kernel
theorem dX11_gain_27 : decode cX11_gain 27 = .ok (.goto 4, 3) := by decide +kernel
theorem dX11_gain_30 : decode cX11_gain 30 = .ok (.iconst (-1), 1) := by decide +kernel
theorem dX11_gain_31 : decode cX11_gain 31 = .ok (.ireturn, 1) := by decide +kernel
theorem dX11_harm_0 : decode cX11_harm 0 = .ok (.aload_n 0, 1) := by decide +kernel
theorem dX11_harm_1 : decode cX11_harm 1 = .ok (.iload_n 1, 1) := by decide +kernel
theorem dX11_harm_2 : decode cX11_harm 2 = .ok (.invokevirtual 169, 3) := by decide +kernel
theorem dX11_harm_5 : decode cX11_harm 5 = .ok (.aload_n 0, 1) := by decide +kernel
theorem dX11_harm_6 : decode cX11_harm 6 = .ok (.iload_n 2, 1) := by decide +kernel
theorem dX11_harm_7 : decode cX11_harm 7 = .ok (.iload_n 3, 1) := by decide +kernel
theorem dX11_harm_8 : decode cX11_harm 8 = .ok (.invokevirtual 217, 3) := by decide +kernel
theorem dX11_harm_11 : decode cX11_harm 11 = .ok (.iload 4, 2) := by decide +kernel
theorem dX11_harm_13 : decode cX11_harm 13 = .ok (.ifCond .eq 7, 3) := by decide +kernel
theorem dX11_harm_16 : decode cX11_harm 16 = .ok (.iconst 1, 1) := by decide +kernel
theorem dX11_harm_17 : decode cX11_harm 17 = .ok (.goto 4, 3) := by decide +kernel
theorem dX11_harm_20 : decode cX11_harm 20 = .ok (.iconst 0, 1) := by decide +kernel
theorem dX11_harm_21 : decode cX11_harm 21 = .ok (.istore 5, 2) := by decide +kernel
theorem dX11_harm_23 : decode cX11_harm 23 = .ok (.aload_n 0, 1) := by decide +kernel
theorem dX11_harm_24 : decode cX11_harm 24 = .ok (.getfield 19, 3) := by decide +kernel
theorem dX11_harm_27 : decode cX11_harm 27 = .ok (.aload_n 0, 1) := by decide +kernel
theorem dX11_harm_28 : decode cX11_harm 28 = .ok (.getfield 40, 3) := by decide +kernel
theorem dX11_harm_31 : decode cX11_harm 31 = .ok (.iload_n 2, 1) := by decide +kernel
theorem dX11_harm_32 : decode cX11_harm 32 = .ok (.iload_n 3, 1) := by decide +kernel
theorem dX11_harm_33 : decode cX11_harm 33 = .ok (.iload 5, 2) := by decide +kernel
theorem dX11_harm_35 : decode cX11_harm 35 = .ok (.invokevirtual 230, 3) := by decide +kernel
theorem dX11_harm_38 : decode cX11_harm 38 = .ok (.ifCond .ne 14, 3) := by decide +kernel
theorem dX11_harm_41 : decode cX11_harm 41 = .ok (.new 93, 3) := by decide +kernel
theorem dX11_harm_44 : decode cX11_harm 44 = .ok (.dup, 1) := by decide +kernel
theorem dX11_harm_45 : decode cX11_harm 45 = .ok (.ldc_w 303, 3) := by decide +kernel
theorem dX11_harm_48 : decode cX11_harm 48 = .ok (.invokespecial 97, 3) := by decide +kernel
theorem dX11_harm_51 : decode cX11_harm 51 = .ok (.athrow, 1) := by decide +kernel
theorem dX11_harm_52 : decode cX11_harm 52 = .ok (.aload_n 0, 1) := by decide +kernel
theorem dX11_harm_53 : decode cX11_harm 53 = .ok (.getfield 19, 3) := by decide +kernel
theorem dX11_harm_56 : decode cX11_harm 56 = .ok (.aload_n 0, 1) := by decide +kernel
theorem dX11_harm_57 : decode cX11_harm 57 = .ok (.getfield 40, 3) := by decide +kernel
theorem dX11_harm_60 : decode cX11_harm 60 = .ok (.iload_n 1, 1) := by decide +kernel
theorem dX11_harm_61 : decode cX11_harm 61 = .ok (.iload_n 2, 1) := by decide +kernel
theorem dX11_harm_62 : decode cX11_harm 62 = .ok (.iload_n 3, 1) := by decide +kernel
theorem dX11_harm_63 : decode cX11_harm 63 = .ok (.iload 5, 2) := by decide +kernel
theorem dX11_harm_65 : decode cX11_harm 65 = .ok (.invokevirtual 305, 3) := by decide +kernel
theorem dX11_harm_68 : decode cX11_harm 68 = .ok (.ireturn, 1) := by decide +kernel
theorem dX11_foreseen_0 : decode cX11_foreseen 0 = .ok (.aload_n 0, 1) := by decide +kernel
theorem dX11_foreseen_1 : decode cX11_foreseen 1 = .ok (.iload_n 3, 1) := by decide +kernel
theorem dX11_foreseen_2 : decode cX11_foreseen 2 = .ok (.invokevirtual 169, 3) := by decide +kernel
theorem dX11_foreseen_5 : decode cX11_foreseen 5 = .ok (.aload_n 0, 1) := by decide +kernel
theorem dX11_foreseen_6 : decode cX11_foreseen 6 = .ok (.iload_n 1, 1) := by decide +kernel
theorem dX11_foreseen_7 : decode cX11_foreseen 7 = .ok (.iload_n 2, 1) := by decide +kernel
theorem dX11_foreseen_8 : decode cX11_foreseen 8 = .ok (.invokevirtual 309, 3) := by decide +kernel
theorem dX11_foreseen_11 : decode cX11_foreseen 11 = .ok (.aload_n 0, 1) := by decide +kernel
theorem dX11_foreseen_12 : decode cX11_foreseen 12 = .ok (.getfield 65, 3) := by decide +kernel
theorem dX11_foreseen_15 : decode cX11_foreseen 15 = .ok (.aload_n 0, 1) := by decide +kernel
theorem dX11_foreseen_16 : decode cX11_foreseen 16 = .ok (.getfield 40, 3) := by decide +kernel
theorem dX11_foreseen_19 : decode cX11_foreseen 19 = .ok (.invokevirtual 115, 3) := by decide +kernel
theorem dX11_foreseen_22 : decode cX11_foreseen 22 = .ok (.aload_n 0, 1) := by decide +kernel
theorem dX11_foreseen_23 : decode cX11_foreseen 23 = .ok (.getfield 19, 3) := by decide +kernel
theorem dX11_foreseen_26 : decode cX11_foreseen 26 = .ok (.aload_n 0, 1) := by decide +kernel
theorem dX11_foreseen_27 : decode cX11_foreseen 27 = .ok (.getfield 65, 3) := by decide +kernel
theorem dX11_foreseen_30 : decode cX11_foreseen 30 = .ok (.iload_n 1, 1) := by decide +kernel
theorem dX11_foreseen_31 : decode cX11_foreseen 31 = .ok (.iload_n 2, 1) := by decide +kernel
theorem dX11_foreseen_32 : decode cX11_foreseen 32 = .ok (.invokevirtual 312, 3) := by decide +kernel
theorem dX11_foreseen_35 : decode cX11_foreseen 35 = .ok (.pop, 1) := by decide +kernel
theorem dX11_foreseen_36 : decode cX11_foreseen 36 = .ok (.aload_n 0, 1) := by decide +kernel
theorem dX11_foreseen_37 : decode cX11_foreseen 37 = .ok (.getfield 65, 3) := by decide +kernel
theorem dX11_foreseen_40 : decode cX11_foreseen 40 = .ok (.getfield 172, 3) := by decide +kernel
theorem dX11_foreseen_43 : decode cX11_foreseen 43 = .ok (.iload_n 3, 1) := by decide +kernel
theorem dX11_foreseen_44 : decode cX11_foreseen 44 = .ok (.aaload, 1) := by decide +kernel
theorem dX11_foreseen_45 : decode cX11_foreseen 45 = .ok (.getfield 191, 3) := by decide +kernel
theorem dX11_foreseen_48 : decode cX11_foreseen 48 = .ok (.ireturn, 1) := by decide +kernel
theorem dX11_step_0 : decode cX11_step 0 = .ok (.aload_n 0, 1) := by decide +kernel
theorem dX11_step_1 : decode cX11_step 1 = .ok (.iload_n 1, 1) := by decide +kernel
theorem dX11_step_2 : decode cX11_step 2 = .ok (.invokevirtual 224, 3) := by decide +kernel
theorem dX11_step_5 : decode cX11_step 5 = .ok (.aload_n 0, 1) := by decide +kernel
theorem dX11_step_6 : decode cX11_step 6 = .ok (.getfield 40, 3) := by decide +kernel
theorem dX11_step_9 : decode cX11_step 9 = .ok (.iload_n 1, 1) := by decide +kernel
theorem dX11_step_10 : decode cX11_step 10 = .ok (.invokevirtual 315, 3) := by decide +kernel
theorem dX11_step_13 : decode cX11_step 13 = .ok (.ifCond .ne 14, 3) := by decide +kernel
theorem dX11_step_16 : decode cX11_step 16 = .ok (.new 93, 3) := by decide +kernel
theorem dX11_step_19 : decode cX11_step 19 = .ok (.dup, 1) := by decide +kernel
theorem dX11_step_20 : decode cX11_step 20 = .ok (.ldc_w 319, 3) := by decide +kernel
theorem dX11_step_23 : decode cX11_step 23 = .ok (.invokespecial 97, 3) := by decide +kernel
theorem dX11_step_26 : decode cX11_step 26 = .ok (.athrow, 1) := by decide +kernel
theorem dX11_step_27 : decode cX11_step 27 = .ok (.aload_n 0, 1) := by decide +kernel
theorem dX11_step_28 : decode cX11_step 28 = .ok (.getfield 78, 3) := by decide +kernel
theorem dX11_step_31 : decode cX11_step 31 = .ok (.aload_n 0, 1) := by decide +kernel
theorem dX11_step_32 : decode cX11_step 32 = .ok (.getfield 40, 3) := by decide +kernel
theorem dX11_step_35 : decode cX11_step 35 = .ok (.invokevirtual 130, 3) := by decide +kernel
theorem dX11_step_38 : decode cX11_step 38 = .ok (.aload_n 0, 1) := by decide +kernel
theorem dX11_step_39 : decode cX11_step 39 = .ok (.getfield 40, 3) := by decide +kernel
theorem dX11_step_42 : decode cX11_step 42 = .ok (.getfield 172, 3) := by decide +kernel
theorem dX11_step_45 : decode cX11_step 45 = .ok (.aload_n 0, 1) := by decide +kernel
theorem dX11_step_46 : decode cX11_step 46 = .ok (.getfield 40, 3) := by decide +kernel
theorem dX11_step_49 : decode cX11_step 49 = .ok (.getfield 321, 3) := by decide +kernel
theorem dX11_step_52 : decode cX11_step 52 = .ok (.aaload, 1) := by decide +kernel
theorem dX11_step_53 : decode cX11_step 53 = .ok (.astore_n 2, 1) := by decide +kernel
theorem dX11_step_54 : decode cX11_step 54 = .ok (.aload_n 0, 1) := by decide +kernel
theorem dX11_step_55 : decode cX11_step 55 = .ok (.getfield 40, 3) := by decide +kernel
theorem dX11_step_58 : decode cX11_step 58 = .ok (.iload_n 1, 1) := by decide +kernel
theorem dX11_step_59 : decode cX11_step 59 = .ok (.invokevirtual 324, 3) := by decide +kernel
theorem dX11_step_62 : decode cX11_step 62 = .ok (.aload_n 0, 1) := by decide +kernel
theorem dX11_step_63 : decode cX11_step 63 = .ok (.getfield 26, 3) := by decide +kernel
theorem dX11_step_66 : decode cX11_step 66 = .ok (.aload_n 0, 1) := by decide +kernel
theorem dX11_step_67 : decode cX11_step 67 = .ok (.getfield 40, 3) := by decide +kernel
theorem dX11_step_70 : decode cX11_step 70 = .ok (.getfield 143, 3) := by decide +kernel
theorem dX11_step_73 : decode cX11_step 73 = .ok (.aload_n 2, 1) := by decide +kernel
theorem dX11_step_74 : decode cX11_step 74 = .ok (.invokevirtual 251, 3) := by decide +kernel
theorem dX11_step_77 : decode cX11_step 77 = .ok (.ireturn, 1) := by decide +kernel
theorem dX11_build_0 : decode cX11_build 0 = .ok (.aload_n 0, 1) := by decide +kernel
theorem dX11_build_1 : decode cX11_build 1 = .ok (.iload_n 1, 1) := by decide +kernel
theorem dX11_build_2 : decode cX11_build 2 = .ok (.iload_n 2, 1) := by decide +kernel
theorem dX11_build_3 : decode cX11_build 3 = .ok (.invokevirtual 217, 3) := by decide +kernel
theorem dX11_build_6 : decode cX11_build 6 = .ok (.iload_n 3, 1) := by decide +kernel
theorem dX11_build_7 : decode cX11_build 7 = .ok (.ifCond .eq 7, 3) := by decide +kernel
theorem dX11_build_10 : decode cX11_build 10 = .ok (.iconst 1, 1) := by decide +kernel
theorem dX11_build_11 : decode cX11_build 11 = .ok (.goto 4, 3) := by decide +kernel
theorem dX11_build_14 : decode cX11_build 14 = .ok (.iconst 0, 1) := by decide +kernel
theorem dX11_build_15 : decode cX11_build 15 = .ok (.istore 4, 2) := by decide +kernel
theorem dX11_build_17 : decode cX11_build 17 = .ok (.aload_n 0, 1) := by decide +kernel
theorem dX11_build_18 : decode cX11_build 18 = .ok (.getfield 19, 3) := by decide +kernel
theorem dX11_build_21 : decode cX11_build 21 = .ok (.aload_n 0, 1) := by decide +kernel
theorem dX11_build_22 : decode cX11_build 22 = .ok (.getfield 40, 3) := by decide +kernel
theorem dX11_build_25 : decode cX11_build 25 = .ok (.iload_n 1, 1) := by decide +kernel
theorem dX11_build_26 : decode cX11_build 26 = .ok (.iload_n 2, 1) := by decide +kernel
theorem dX11_build_27 : decode cX11_build 27 = .ok (.iload 4, 2) := by decide +kernel
theorem dX11_build_29 : decode cX11_build 29 = .ok (.invokevirtual 327, 3) := by decide +kernel
theorem dX11_build_32 : decode cX11_build 32 = .ok (.ifCond .ne 14, 3) := by decide +kernel
theorem dX11_build_35 : decode cX11_build 35 = .ok (.new 93, 3) := by decide +kernel
theorem dX11_build_38 : decode cX11_build 38 = .ok (.dup, 1) := by decide +kernel
theorem dX11_build_39 : decode cX11_build 39 = .ok (.ldc_w 330, 3) := by decide +kernel
theorem dX11_build_42 : decode cX11_build 42 = .ok (.invokespecial 97, 3) := by decide +kernel
theorem dX11_build_45 : decode cX11_build 45 = .ok (.athrow, 1) := by decide +kernel
theorem dX11_build_46 : decode cX11_build 46 = .ok (.aload_n 0, 1) := by decide +kernel
theorem dX11_build_47 : decode cX11_build 47 = .ok (.getfield 78, 3) := by decide +kernel
theorem dX11_build_50 : decode cX11_build 50 = .ok (.aload_n 0, 1) := by decide +kernel
theorem dX11_build_51 : decode cX11_build 51 = .ok (.getfield 40, 3) := by decide +kernel
theorem dX11_build_54 : decode cX11_build 54 = .ok (.invokevirtual 130, 3) := by decide +kernel
theorem dX11_build_57 : decode cX11_build 57 = .ok (.aload_n 0, 1) := by decide +kernel
theorem dX11_build_58 : decode cX11_build 58 = .ok (.getfield 40, 3) := by decide +kernel
theorem dX11_build_61 : decode cX11_build 61 = .ok (.getfield 172, 3) := by decide +kernel
theorem dX11_build_64 : decode cX11_build 64 = .ok (.aload_n 0, 1) := by decide +kernel
theorem dX11_build_65 : decode cX11_build 65 = .ok (.getfield 40, 3) := by decide +kernel
theorem dX11_build_68 : decode cX11_build 68 = .ok (.getfield 321, 3) := by decide +kernel
theorem dX11_build_71 : decode cX11_build 71 = .ok (.aaload, 1) := by decide +kernel
theorem dX11_build_72 : decode cX11_build 72 = .ok (.astore 5, 2) := by decide +kernel
theorem dX11_build_74 : decode cX11_build 74 = .ok (.aload_n 0, 1) := by decide +kernel
theorem dX11_build_75 : decode cX11_build 75 = .ok (.getfield 40, 3) := by decide +kernel
theorem dX11_build_78 : decode cX11_build 78 = .ok (.iload_n 1, 1) := by decide +kernel
theorem dX11_build_79 : decode cX11_build 79 = .ok (.iload_n 2, 1) := by decide +kernel
theorem dX11_build_80 : decode cX11_build 80 = .ok (.iload 4, 2) := by decide +kernel
theorem dX11_build_82 : decode cX11_build 82 = .ok (.invokevirtual 332, 3) := by decide +kernel
theorem dX11_build_85 : decode cX11_build 85 = .ok (.aload 5, 2) := by decide +kernel
theorem dX11_build_87 : decode cX11_build 87 = .ok (.getfield 184, 3) := by decide +kernel
theorem dX11_build_90 : decode cX11_build 90 = .ok (.ireturn, 1) := by decide +kernel
theorem dX11_pass_0 : decode cX11_pass 0 = .ok (.aload_n 0, 1) := by decide +kernel
theorem dX11_pass_1 : decode cX11_pass 1 = .ok (.getfield 40, 3) := by decide +kernel
theorem dX11_pass_4 : decode cX11_pass 4 = .ok (.invokevirtual 336, 3) := by decide +kernel
theorem dX11_pass_7 : decode cX11_pass 7 = .ok (.ifCond .ne 14, 3) := by decide +kernel
theorem dX11_pass_10 : decode cX11_pass 10 = .ok (.new 93, 3) := by decide +kernel
theorem dX11_pass_13 : decode cX11_pass 13 = .ok (.dup, 1) := by decide +kernel
theorem dX11_pass_14 : decode cX11_pass 14 = .ok (.ldc_w 339, 3) := by decide +kernel
theorem dX11_pass_17 : decode cX11_pass 17 = .ok (.invokespecial 97, 3) := by decide +kernel
theorem dX11_pass_20 : decode cX11_pass 20 = .ok (.athrow, 1) := by decide +kernel
theorem dX11_pass_21 : decode cX11_pass 21 = .ok (.aload_n 0, 1) := by decide +kernel
theorem dX11_pass_22 : decode cX11_pass 22 = .ok (.getfield 78, 3) := by decide +kernel
theorem dX11_pass_25 : decode cX11_pass 25 = .ok (.aload_n 0, 1) := by decide +kernel
theorem dX11_pass_26 : decode cX11_pass 26 = .ok (.getfield 40, 3) := by decide +kernel
theorem dX11_pass_29 : decode cX11_pass 29 = .ok (.invokevirtual 130, 3) := by decide +kernel
theorem dX11_pass_32 : decode cX11_pass 32 = .ok (.aload_n 0, 1) := by decide +kernel
theorem dX11_pass_33 : decode cX11_pass 33 = .ok (.getfield 40, 3) := by decide +kernel
theorem dX11_pass_36 : decode cX11_pass 36 = .ok (.invokevirtual 341, 3) := by decide +kernel
theorem dX11_pass_39 : decode cX11_pass 39 = .ok (.aload_n 0, 1) := by decide +kernel
theorem dX11_pass_40 : decode cX11_pass 40 = .ok (.getfield 40, 3) := by decide +kernel
theorem dX11_pass_43 : decode cX11_pass 43 = .ok (.invokevirtual 200, 3) := by decide +kernel
theorem dX11_pass_46 : decode cX11_pass 46 = .ok (.ireturn, 1) := by decide +kernel
theorem dX11_play_0 : decode cX11_play 0 = .ok (.aload_n 0, 1) := by decide +kernel
theorem dX11_play_1 : decode cX11_play 1 = .ok (.iload_n 1, 1) := by decide +kernel
theorem dX11_play_2 : decode cX11_play 2 = .ok (.iload_n 2, 1) := by decide +kernel
theorem dX11_play_3 : decode cX11_play 3 = .ok (.invokevirtual 309, 3) := by decide +kernel
theorem dX11_play_6 : decode cX11_play 6 = .ok (.aload_n 0, 1) := by decide +kernel
theorem dX11_play_7 : decode cX11_play 7 = .ok (.getfield 78, 3) := by decide +kernel
theorem dX11_play_10 : decode cX11_play 10 = .ok (.aload_n 0, 1) := by decide +kernel
theorem dX11_play_11 : decode cX11_play 11 = .ok (.getfield 40, 3) := by decide +kernel
theorem dX11_play_14 : decode cX11_play 14 = .ok (.invokevirtual 130, 3) := by decide +kernel
theorem dX11_play_17 : decode cX11_play 17 = .ok (.aload_n 0, 1) := by decide +kernel
theorem dX11_play_18 : decode cX11_play 18 = .ok (.getfield 19, 3) := by decide +kernel
theorem dX11_play_21 : decode cX11_play 21 = .ok (.aload_n 0, 1) := by decide +kernel
theorem dX11_play_22 : decode cX11_play 22 = .ok (.getfield 40, 3) := by decide +kernel
theorem dX11_play_25 : decode cX11_play 25 = .ok (.iload_n 1, 1) := by decide +kernel
theorem dX11_play_26 : decode cX11_play 26 = .ok (.iload_n 2, 1) := by decide +kernel
theorem dX11_play_27 : decode cX11_play 27 = .ok (.invokevirtual 312, 3) := by decide +kernel
theorem dX11_play_30 : decode cX11_play 30 = .ok (.ireturn, 1) := by decide +kernel
theorem dX11_undo_0 : decode cX11_undo 0 = .ok (.aload_n 0, 1) := by decide +kernel
theorem dX11_undo_1 : decode cX11_undo 1 = .ok (.getfield 78, 3) := by decide +kernel
theorem dX11_undo_4 : decode cX11_undo 4 = .ok (.aload_n 0, 1) := by decide +kernel
theorem dX11_undo_5 : decode cX11_undo 5 = .ok (.getfield 40, 3) := by decide +kernel
theorem dX11_undo_8 : decode cX11_undo 8 = .ok (.invokevirtual 355, 3) := by decide +kernel
theorem dX11_undo_11 : decode cX11_undo 11 = .ok (.ifCond .eq 13, 3) := by decide +kernel
theorem dX11_undo_14 : decode cX11_undo 14 = .ok (.aload_n 0, 1) := by decide +kernel
theorem dX11_undo_15 : decode cX11_undo 15 = .ok (.getfield 78, 3) := by decide +kernel
theorem dX11_undo_18 : decode cX11_undo 18 = .ok (.getfield 359, 3) := by decide +kernel
theorem dX11_undo_21 : decode cX11_undo 21 = .ok (.goto 4, 3) := by decide +kernel
theorem dX11_undo_24 : decode cX11_undo 24 = .ok (.iconst (-1), 1) := by decide +kernel
theorem dX11_undo_25 : decode cX11_undo 25 = .ok (.ireturn, 1) := by decide +kernel
theorem dX11_checkPawn_0 : decode cX11_checkPawn 0 = .ok (.iload_n 1, 1) := by decide +kernel
theorem dX11_checkPawn_1 : decode cX11_checkPawn 1 = .ok (.ifCond .lt 14, 3) := by decide +kernel
theorem dX11_checkPawn_4 : decode cX11_checkPawn 4 = .ok (.iload_n 1, 1) := by decide +kernel
theorem dX11_checkPawn_5 : decode cX11_checkPawn 5 = .ok (.aload_n 0, 1) := by decide +kernel
theorem dX11_checkPawn_6 : decode cX11_checkPawn 6 = .ok (.getfield 40, 3) := by decide +kernel
theorem dX11_checkPawn_9 : decode cX11_checkPawn 9 = .ok (.getfield 122, 3) := by decide +kernel
theorem dX11_checkPawn_12 : decode cX11_checkPawn 12 = .ok (.if_icmp .lt 14, 3) := by decide +kernel
theorem dX11_checkPawn_15 : decode cX11_checkPawn 15 = .ok (.new 350, 3) := by decide +kernel
theorem dX11_checkPawn_18 : decode cX11_checkPawn 18 = .ok (.dup, 1) := by decide +kernel
theorem dX11_checkPawn_19 : decode cX11_checkPawn 19 = .ok (.ldc_w 362, 3) := by decide +kernel
theorem dX11_checkPawn_22 : decode cX11_checkPawn 22 = .ok (.invokespecial 354, 3) := by decide +kernel
theorem dX11_checkPawn_25 : decode cX11_checkPawn 25 = .ok (.athrow, 1) := by decide +kernel
theorem dX11_checkPawn_26 : decode cX11_checkPawn 26 = .ok (.return_, 1) := by decide +kernel
theorem dX11_checkCell_0 : decode cX11_checkCell 0 = .ok (.aload_n 0, 1) := by decide +kernel
theorem dX11_checkCell_1 : decode cX11_checkCell 1 = .ok (.getfield 40, 3) := by decide +kernel
theorem dX11_checkCell_4 : decode cX11_checkCell 4 = .ok (.getfield 143, 3) := by decide +kernel
theorem dX11_checkCell_7 : decode cX11_checkCell 7 = .ok (.iload_n 1, 1) := by decide +kernel
theorem dX11_checkCell_8 : decode cX11_checkCell 8 = .ok (.iload_n 2, 1) := by decide +kernel
theorem dX11_checkCell_9 : decode cX11_checkCell 9 = .ok (.invokevirtual 364, 3) := by decide +kernel
theorem dX11_checkCell_12 : decode cX11_checkCell 12 = .ok (.ifCond .ne 14, 3) := by decide +kernel
theorem dX11_checkCell_15 : decode cX11_checkCell 15 = .ok (.new 350, 3) := by decide +kernel
theorem dX11_checkCell_18 : decode cX11_checkCell 18 = .ok (.dup, 1) := by decide +kernel
theorem dX11_checkCell_19 : decode cX11_checkCell 19 = .ok (.ldc_w 368, 3) := by decide +kernel
theorem dX11_checkCell_22 : decode cX11_checkCell 22 = .ok (.invokespecial 354, 3) := by decide +kernel
theorem dX11_checkCell_25 : decode cX11_checkCell 25 = .ok (.athrow, 1) := by decide +kernel
theorem dX11_checkCell_26 : decode cX11_checkCell 26 = .ok (.return_, 1) := by decide +kernel
theorem dX11_checkPlace_0 : decode cX11_checkPlace 0 = .ok (.aload_n 0, 1) := by decide +kernel
theorem dX11_checkPlace_1 : decode cX11_checkPlace 1 = .ok (.getfield 40, 3) := by decide +kernel
theorem dX11_checkPlace_4 : decode cX11_checkPlace 4 = .ok (.getfield 143, 3) := by decide +kernel
theorem dX11_checkPlace_7 : decode cX11_checkPlace 7 = .ok (.iload_n 1, 1) := by decide +kernel
theorem dX11_checkPlace_8 : decode cX11_checkPlace 8 = .ok (.iload_n 2, 1) := by decide +kernel
theorem dX11_checkPlace_9 : decode cX11_checkPlace 9 = .ok (.invokevirtual 370, 3) := by decide +kernel
theorem dX11_checkPlace_12 : decode cX11_checkPlace 12 = .ok (.ifCond .ne 14, 3) := by decide +kernel
theorem dX11_checkPlace_15 : decode cX11_checkPlace 15 = .ok (.new 350, 3) := by decide +kernel
theorem dX11_checkPlace_18 : decode cX11_checkPlace 18 = .ok (.dup, 1) := by decide +kernel
theorem dX11_checkPlace_19 : decode cX11_checkPlace 19 = .ok (.ldc_w 373, 3) := by decide +kernel
theorem dX11_checkPlace_22 : decode cX11_checkPlace 22 = .ok (.invokespecial 354, 3) := by decide +kernel
theorem dX11_checkPlace_25 : decode cX11_checkPlace 25 = .ok (.athrow, 1) := by decide +kernel
theorem dX11_checkPlace_26 : decode cX11_checkPlace 26 = .ok (.return_, 1) := by decide +kernel
theorem dX11_checkDirection_0 : decode cX11_checkDirection 0 = .ok (.iload_n 1, 1) := by decide +kernel
theorem dX11_checkDirection_1 : decode cX11_checkDirection 1 = .ok (.ifCond .lt 8, 3) := by decide +kernel
theorem dX11_checkDirection_4 : decode cX11_checkDirection 4 = .ok (.iload_n 1, 1) := by decide +kernel
theorem dX11_checkDirection_5 : decode cX11_checkDirection 5 = .ok (.iconst 4, 1) := by decide +kernel
theorem dX11_checkDirection_6 : decode cX11_checkDirection 6 = .ok (.if_icmp .lt 14, 3) := by decide +kernel
theorem dX11_checkDirection_9 : decode cX11_checkDirection 9 = .ok (.new 104, 3) := by decide +kernel
theorem dX11_checkDirection_12 : decode cX11_checkDirection 12 = .ok (.dup, 1) := by decide +kernel
theorem dX11_checkDirection_13 : decode cX11_checkDirection 13 = .ok (.ldc_w 375, 3) := by decide +kernel
theorem dX11_checkDirection_16 : decode cX11_checkDirection 16 = .ok (.invokespecial 108, 3) := by decide +kernel
theorem dX11_checkDirection_19 : decode cX11_checkDirection 19 = .ok (.athrow, 1) := by decide +kernel
theorem dX11_checkDirection_20 : decode cX11_checkDirection 20 = .ok (.return_, 1) := by decide +kernel
theorem dX11_checkPlay_0 : decode cX11_checkPlay 0 = .ok (.iload_n 1, 1) := by decide +kernel
theorem dX11_checkPlay_1 : decode cX11_checkPlay 1 = .ok (.iload_n 2, 1) := by decide +kernel
theorem dX11_checkPlay_2 : decode cX11_checkPlay 2 = .ok (.invokestatic 377, 3) := by decide +kernel
theorem dX11_checkPlay_5 : decode cX11_checkPlay 5 = .ok (.ifCond .ne 14, 3) := by decide +kernel
theorem dX11_checkPlay_8 : decode cX11_checkPlay 8 = .ok (.new 104, 3) := by decide +kernel
theorem dX11_checkPlay_11 : decode cX11_checkPlay 11 = .ok (.dup, 1) := by decide +kernel
theorem dX11_checkPlay_12 : decode cX11_checkPlay 12 = .ok (.ldc_w 380, 3) := by decide +kernel
theorem dX11_checkPlay_15 : decode cX11_checkPlay 15 = .ok (.invokespecial 108, 3) := by decide +kernel
theorem dX11_checkPlay_18 : decode cX11_checkPlay 18 = .ok (.athrow, 1) := by decide +kernel
theorem dX11_checkPlay_19 : decode cX11_checkPlay 19 = .ok (.return_, 1) := by decide +kernel
theorem dX11_mayPlay_0 : decode cX11_mayPlay 0 = .ok (.iload_n 0, 1) := by decide +kernel
theorem dX11_mayPlay_1 : decode cX11_mayPlay 1 = .ok (.ifCond .lt 23, 3) := by decide +kernel
theorem dX11_mayPlay_4 : decode cX11_mayPlay 4 = .ok (.iload_n 0, 1) := by decide +kernel
theorem dX11_mayPlay_5 : decode cX11_mayPlay 5 = .ok (.iconst 2, 1) := by decide +kernel
theorem dX11_mayPlay_6 : decode cX11_mayPlay 6 = .ok (.if_icmp .ge 18, 3) := by decide +kernel
theorem dX11_mayPlay_9 : decode cX11_mayPlay 9 = .ok (.iload_n 1, 1) := by decide +kernel
theorem dX11_mayPlay_10 : decode cX11_mayPlay 10 = .ok (.iconst 1, 1) := by decide +kernel
theorem dX11_mayPlay_11 : decode cX11_mayPlay 11 = .ok (.if_icmp .lt 13, 3) := by decide +kernel
theorem dX11_mayPlay_14 : decode cX11_mayPlay 14 = .ok (.iload_n 1, 1) := by decide +kernel
theorem dX11_mayPlay_15 : decode cX11_mayPlay 15 = .ok (.bipush 99, 2) := by decide +kernel
theorem dX11_mayPlay_17 : decode cX11_mayPlay 17 = .ok (.if_icmp .gt 7, 3) := by decide +kernel
theorem dX11_mayPlay_20 : decode cX11_mayPlay 20 = .ok (.iconst 1, 1) := by decide +kernel
theorem dX11_mayPlay_21 : decode cX11_mayPlay 21 = .ok (.goto 4, 3) := by decide +kernel
theorem dX11_mayPlay_24 : decode cX11_mayPlay 24 = .ok (.iconst 0, 1) := by decide +kernel
theorem dX11_mayPlay_25 : decode cX11_mayPlay 25 = .ok (.ireturn, 1) := by decide +kernel
