theorem dX0_init_0 : decode cX0_init 0 = .ok (.aload_n 0, 1) := by decide +kernel
theorem dX0_init_1 : decode cX0_init 1 = .ok (.invokespecial 3, 3) := by decide +kernel
theorem dX0_init_4 : decode cX0_init 4 = .ok (.aload_n 0, 1) := by decide +kernel
theorem dX0_init_5 : decode cX0_init 5 = .ok (.iconst 2, 1) := by decide +kernel
theorem dX0_init_6 : decode cX0_init 6 = .ok (.putfield 9, 3) := by decide +kernel
theorem dX0_init_9 : decode cX0_init 9 = .ok (.return_, 1) := by decide +kernel
theorem dX0_copyFrom_0 : decode cX0_copyFrom 0 = .ok (.aload_n 0, 1) := by decide +kernel
theorem dX0_copyFrom_1 : decode cX0_copyFrom 1 = .ok (.aload_n 1, 1) := by decide +kernel
theorem dX0_copyFrom_2 : decode cX0_copyFrom 2 = .ok (.getfield 15, 3) := by decide +kernel
theorem dX0_copyFrom_5 : decode cX0_copyFrom 5 = .ok (.putfield 15, 3) := by decide +kernel
theorem dX0_copyFrom_8 : decode cX0_copyFrom 8 = .ok (.aload_n 0, 1) := by decide +kernel
theorem dX0_copyFrom_9 : decode cX0_copyFrom 9 = .ok (.aload_n 1, 1) := by decide +kernel
theorem dX0_copyFrom_10 : decode cX0_copyFrom 10 = .ok (.getfield 18, 3) := by decide +kernel
theorem dX0_copyFrom_13 : decode cX0_copyFrom 13 = .ok (.putfield 18, 3) := by decide +kernel
theorem dX0_copyFrom_16 : decode cX0_copyFrom 16 = .ok (.aload_n 0, 1) := by decide +kernel
theorem dX0_copyFrom_17 : decode cX0_copyFrom 17 = .ok (.aload_n 1, 1) := by decide +kernel
theorem dX0_copyFrom_18 : decode cX0_copyFrom 18 = .ok (.getfield 21, 3) := by decide +kernel
theorem dX0_copyFrom_21 : decode cX0_copyFrom 21 = .ok (.putfield 21, 3) := by decide +kernel
theorem dX0_copyFrom_24 : decode cX0_copyFrom 24 = .ok (.aload_n 0, 1) := by decide +kernel
theorem dX0_copyFrom_25 : decode cX0_copyFrom 25 = .ok (.aload_n 1, 1) := by decide +kernel
theorem dX0_copyFrom_26 : decode cX0_copyFrom 26 = .ok (.getfield 9, 3) := by decide +kernel
theorem dX0_copyFrom_29 : decode cX0_copyFrom 29 = .ok (.putfield 9, 3) := by decide +kernel
theorem dX0_copyFrom_32 : decode cX0_copyFrom 32 = .ok (.aload_n 0, 1) := by decide +kernel
theorem dX0_copyFrom_33 : decode cX0_copyFrom 33 = .ok (.aload_n 1, 1) := by decide +kernel
theorem dX0_copyFrom_34 : decode cX0_copyFrom 34 = .ok (.getfield 24, 3) := by decide +kernel
theorem dX0_copyFrom_37 : decode cX0_copyFrom 37 = .ok (.putfield 24, 3) := by decide +kernel
theorem dX0_copyFrom_40 : decode cX0_copyFrom 40 = .ok (.aload_n 0, 1) := by decide +kernel
theorem dX0_copyFrom_41 : decode cX0_copyFrom 41 = .ok (.aload_n 1, 1) := by decide +kernel
theorem dX0_copyFrom_42 : decode cX0_copyFrom 42 = .ok (.getfield 27, 3) := by decide +kernel
theorem dX0_copyFrom_45 : decode cX0_copyFrom 45 = .ok (.putfield 27, 3) := by decide +kernel
theorem dX0_copyFrom_48 : decode cX0_copyFrom 48 = .ok (.aload_n 0, 1) := by decide +kernel
theorem dX0_copyFrom_49 : decode cX0_copyFrom 49 = .ok (.aload_n 1, 1) := by decide +kernel
theorem dX0_copyFrom_50 : decode cX0_copyFrom 50 = .ok (.getfield 30, 3) := by decide +kernel
theorem dX0_copyFrom_53 : decode cX0_copyFrom 53 = .ok (.putfield 30, 3) := by decide +kernel
theorem dX0_copyFrom_56 : decode cX0_copyFrom 56 = .ok (.aload_n 0, 1) := by decide +kernel
theorem dX0_copyFrom_57 : decode cX0_copyFrom 57 = .ok (.aload_n 1, 1) := by decide +kernel
theorem dX0_copyFrom_58 : decode cX0_copyFrom 58 = .ok (.getfield 33, 3) := by decide +kernel
theorem dX0_copyFrom_61 : decode cX0_copyFrom 61 = .ok (.putfield 33, 3) := by decide +kernel
theorem dX0_copyFrom_64 : decode cX0_copyFrom 64 = .ok (.aload_n 0, 1) := by decide +kernel
theorem dX0_copyFrom_65 : decode cX0_copyFrom 65 = .ok (.aload_n 1, 1) := by decide +kernel
theorem dX0_copyFrom_66 : decode cX0_copyFrom 66 = .ok (.getfield 36, 3) := by decide +kernel
theorem dX0_copyFrom_69 : decode cX0_copyFrom 69 = .ok (.putfield 36, 3) := by decide +kernel
theorem dX0_copyFrom_72 : decode cX0_copyFrom 72 = .ok (.return_, 1) := by decide +kernel
theorem dX0_setEvery_0 : decode cX0_setEvery 0 = .ok (.aload_n 0, 1) := by decide +kernel
theorem dX0_setEvery_1 : decode cX0_setEvery 1 = .ok (.iconst 2, 1) := by decide +kernel
theorem dX0_setEvery_2 : decode cX0_setEvery 2 = .ok (.putfield 18, 3) := by decide +kernel
theorem dX0_setEvery_5 : decode cX0_setEvery 5 = .ok (.aload_n 0, 1) := by decide +kernel
theorem dX0_setEvery_6 : decode cX0_setEvery 6 = .ok (.iload_n 1, 1) := by decide +kernel
theorem dX0_setEvery_7 : decode cX0_setEvery 7 = .ok (.putfield 21, 3) := by decide +kernel
theorem dX0_setEvery_10 : decode cX0_setEvery 10 = .ok (.aload_n 0, 1) := by decide +kernel
theorem dX0_setEvery_11 : decode cX0_setEvery 11 = .ok (.iload_n 2, 1) := by decide +kernel
theorem dX0_setEvery_12 : decode cX0_setEvery 12 = .ok (.putfield 9, 3) := by decide +kernel
theorem dX0_setEvery_15 : decode cX0_setEvery 15 = .ok (.aload_n 0, 1) := by decide +kernel
theorem dX0_setEvery_16 : decode cX0_setEvery 16 = .ok (.iload_n 3, 1) := by decide +kernel
theorem dX0_setEvery_17 : decode cX0_setEvery 17 = .ok (.putfield 24, 3) := by decide +kernel
theorem dX0_setEvery_20 : decode cX0_setEvery 20 = .ok (.return_, 1) := by decide +kernel
theorem dX0_setWithin_0 : decode cX0_setWithin 0 = .ok (.aload_n 0, 1) := by decide +kernel
theorem dX0_setWithin_1 : decode cX0_setWithin 1 = .ok (.iconst 3, 1) := by decide +kernel
theorem dX0_setWithin_2 : decode cX0_setWithin 2 = .ok (.putfield 18, 3) := by decide +kernel
theorem dX0_setWithin_5 : decode cX0_setWithin 5 = .ok (.aload_n 0, 1) := by decide +kernel
theorem dX0_setWithin_6 : decode cX0_setWithin 6 = .ok (.iload_n 1, 1) := by decide +kernel
theorem dX0_setWithin_7 : decode cX0_setWithin 7 = .ok (.putfield 21, 3) := by decide +kernel
theorem dX0_setWithin_10 : decode cX0_setWithin 10 = .ok (.aload_n 0, 1) := by decide +kernel
theorem dX0_setWithin_11 : decode cX0_setWithin 11 = .ok (.iload_n 2, 1) := by decide +kernel
theorem dX0_setWithin_12 : decode cX0_setWithin 12 = .ok (.bipush 9, 2) := by decide +kernel
theorem dX0_setWithin_14 : decode cX0_setWithin 14 = .ok (.irem, 1) := by decide +kernel
theorem dX0_setWithin_15 : decode cX0_setWithin 15 = .ok (.iload_n 3, 1) := by decide +kernel
theorem dX0_setWithin_16 : decode cX0_setWithin 16 = .ok (.bipush 9, 2) := by decide +kernel
theorem dX0_setWithin_18 : decode cX0_setWithin 18 = .ok (.irem, 1) := by decide +kernel
theorem dX0_setWithin_19 : decode cX0_setWithin 19 = .ok (.invokestatic 39, 3) := by decide +kernel
theorem dX0_setWithin_22 : decode cX0_setWithin 22 = .ok (.putfield 27, 3) := by decide +kernel
theorem dX0_setWithin_25 : decode cX0_setWithin 25 = .ok (.aload_n 0, 1) := by decide +kernel
theorem dX0_setWithin_26 : decode cX0_setWithin 26 = .ok (.iload_n 2, 1) := by decide +kernel
theorem dX0_setWithin_27 : decode cX0_setWithin 27 = .ok (.bipush 9, 2) := by decide +kernel
theorem dX0_setWithin_29 : decode cX0_setWithin 29 = .ok (.irem, 1) := by decide +kernel
theorem dX0_setWithin_30 : decode cX0_setWithin 30 = .ok (.iload_n 3, 1) := by decide +kernel
theorem dX0_setWithin_31 : decode cX0_setWithin 31 = .ok (.bipush 9, 2) := by decide +kernel
theorem dX0_setWithin_33 : decode cX0_setWithin 33 = .ok (.irem, 1) := by decide +kernel
theorem dX0_setWithin_34 : decode cX0_setWithin 34 = .ok (.invokestatic 45, 3) := by decide +kernel
theorem dX0_setWithin_37 : decode cX0_setWithin 37 = .ok (.putfield 30, 3) := by decide +kernel
theorem dX0_setWithin_40 : decode cX0_setWithin 40 = .ok (.aload_n 0, 1) := by decide +kernel
theorem dX0_setWithin_41 : decode cX0_setWithin 41 = .ok (.iload_n 2, 1) := by decide +kernel
theorem dX0_setWithin_42 : decode cX0_setWithin 42 = .ok (.bipush 9, 2) := by decide +kernel
theorem dX0_setWithin_44 : decode cX0_setWithin 44 = .ok (.idiv, 1) := by decide +kernel
theorem dX0_setWithin_45 : decode cX0_setWithin 45 = .ok (.iload_n 3, 1) := by decide +kernel
theorem dX0_setWithin_46 : decode cX0_setWithin 46 = .ok (.bipush 9, 2) := by decide +kernel
theorem dX0_setWithin_48 : decode cX0_setWithin 48 = .ok (.idiv, 1) := by decide +kernel
theorem dX0_setWithin_49 : decode cX0_setWithin 49 = .ok (.invokestatic 39, 3) := by decide +kernel
theorem dX0_setWithin_52 : decode cX0_setWithin 52 = .ok (.putfield 33, 3) := by decide +kernel
theorem dX0_setWithin_55 : decode cX0_setWithin 55 = .ok (.aload_n 0, 1) := by decide +kernel
theorem dX0_setWithin_56 : decode cX0_setWithin 56 = .ok (.iload_n 2, 1) := by decide +kernel
theorem dX0_setWithin_57 : decode cX0_setWithin 57 = .ok (.bipush 9, 2) := by decide +kernel
theorem dX0_setWithin_59 : decode cX0_setWithin 59 = .ok (.idiv, 1) := by decide +kernel
theorem dX0_setWithin_60 : decode cX0_setWithin 60 = .ok (.iload_n 3, 1) := by decide +kernel
theorem dX0_setWithin_61 : decode cX0_setWithin 61 = .ok (.bipush 9, 2) := by decide +kernel
theorem dX0_setWithin_63 : decode cX0_setWithin 63 = .ok (.idiv, 1) := by decide +kernel
theorem dX0_setWithin_64 : decode cX0_setWithin 64 = .ok (.invokestatic 45, 3) := by decide +kernel
theorem dX0_setWithin_67 : decode cX0_setWithin 67 = .ok (.putfield 36, 3) := by decide +kernel
theorem dX0_setWithin_70 : decode cX0_setWithin 70 = .ok (.return_, 1) := by decide +kernel
theorem dX0_byLatest_0 : decode cX0_byLatest 0 = .ok (.iload_n 1, 1) := by decide +kernel
theorem dX0_byLatest_1 : decode cX0_byLatest 1 = .ok (.iconst (-1), 1) := by decide +kernel
theorem dX0_byLatest_2 : decode cX0_byLatest 2 = .ok (.if_icmp .ne 5, 3) := by decide +kernel
theorem dX0_byLatest_5 : decode cX0_byLatest 5 = .ok (.iconst 0, 1) := by decide +kernel
theorem dX0_byLatest_6 : decode cX0_byLatest 6 = .ok (.ireturn, 1) := by decide +kernel
theorem dX0_byLatest_7 : decode cX0_byLatest 7 = .ok (.aload_n 0, 1) := by decide +kernel
theorem dX0_byLatest_8 : decode cX0_byLatest 8 = .ok (.getfield 18, 3) := by decide +kernel
theorem dX0_byLatest_11 : decode cX0_byLatest 11 = .ok (.ifCond .ne 9, 3) := by decide +kernel
theorem dX0_byLatest_14 : decode cX0_byLatest 14 = .ok (.iconst 1, 1) := by decide +kernel
theorem dX0_byLatest_15 : decode cX0_byLatest 15 = .ok (.iload_n 1, 1) := by decide +kernel
theorem dX0_byLatest_16 : decode cX0_byLatest 16 = .ok (.iconst 2, 1) := by decide +kernel
theorem dX0_byLatest_17 : decode cX0_byLatest 17 = .ok (.ixor, 1) := by decide +kernel
theorem dX0_byLatest_18 : decode cX0_byLatest 18 = .ok (.ishl, 1) := by decide +kernel
theorem dX0_byLatest_19 : decode cX0_byLatest 19 = .ok (.ireturn, 1) := by decide +kernel
theorem dX0_byLatest_20 : decode cX0_byLatest 20 = .ok (.aload_n 0, 1) := by decide +kernel
theorem dX0_byLatest_21 : decode cX0_byLatest 21 = .ok (.getfield 18, 3) := by decide +kernel
theorem dX0_byLatest_24 : decode cX0_byLatest 24 = .ok (.iconst 1, 1) := by decide +kernel
theorem dX0_byLatest_25 : decode cX0_byLatest 25 = .ok (.if_icmp .ne 9, 3) := by decide +kernel
theorem dX0_byLatest_28 : decode cX0_byLatest 28 = .ok (.iconst 1, 1) := by decide +kernel
theorem dX0_byLatest_29 : decode cX0_byLatest 29 = .ok (.iload_n 1, 1) := by decide +kernel
theorem dX0_byLatest_30 : decode cX0_byLatest 30 = .ok (.ishl, 1) := by decide +kernel
theorem dX0_byLatest_31 : decode cX0_byLatest 31 = .ok (.goto 4, 3) := by decide +kernel
theorem dX0_byLatest_34 : decode cX0_byLatest 34 = .ok (.iconst 0, 1) := by decide +kernel
theorem dX0_byLatest_35 : decode cX0_byLatest 35 = .ok (.ireturn, 1) := by decide +kernel
theorem dX0_byNumber_0 : decode cX0_byNumber 0 = .ok (.aload_n 0, 1) := by decide +kernel
theorem dX0_byNumber_1 : decode cX0_byNumber 1 = .ok (.getfield 18, 3) := by decide +kernel
theorem dX0_byNumber_4 : decode cX0_byNumber 4 = .ok (.iconst 2, 1) := by decide +kernel
theorem dX0_byNumber_5 : decode cX0_byNumber 5 = .ok (.if_icmp .ne 27, 3) := by decide +kernel
theorem dX0_byNumber_8 : decode cX0_byNumber 8 = .ok (.aload_n 0, 1) := by decide +kernel
theorem dX0_byNumber_9 : decode cX0_byNumber 9 = .ok (.getfield 9, 3) := by decide +kernel
theorem dX0_byNumber_12 : decode cX0_byNumber 12 = .ok (.ifCond .le 20, 3) := by decide +kernel
theorem dX0_byNumber_15 : decode cX0_byNumber 15 = .ok (.iload_n 1, 1) := by decide +kernel
theorem dX0_byNumber_16 : decode cX0_byNumber 16 = .ok (.aload_n 0, 1) := by decide +kernel
theorem dX0_byNumber_17 : decode cX0_byNumber 17 = .ok (.getfield 9, 3) := by decide +kernel
theorem dX0_byNumber_20 : decode cX0_byNumber 20 = .ok (.irem, 1) := by decide +kernel
theorem dX0_byNumber_21 : decode cX0_byNumber 21 = .ok (.aload_n 0, 1) := by decide +kernel
theorem dX0_byNumber_22 : decode cX0_byNumber 22 = .ok (.getfield 24, 3) := by decide +kernel
theorem dX0_byNumber_25 : decode cX0_byNumber 25 = .ok (.if_icmp .ne 7, 3) := by decide +kernel
theorem dX0_byNumber_28 : decode cX0_byNumber 28 = .ok (.iconst 1, 1) := by decide +kernel
theorem dX0_byNumber_29 : decode cX0_byNumber 29 = .ok (.goto 4, 3) := by decide +kernel
theorem dX0_byNumber_32 : decode cX0_byNumber 32 = .ok (.iconst 0, 1) := by decide +kernel
theorem dX0_byNumber_33 : decode cX0_byNumber 33 = .ok (.istore_n 2, 1) := by decide +kernel
theorem dX0_byNumber_34 : decode cX0_byNumber 34 = .ok (.iload_n 2, 1) := by decide +kernel
theorem dX0_byNumber_35 : decode cX0_byNumber 35 = .ok (.ifCond .eq 12, 3) := by decide +kernel
theorem dX0_byNumber_38 : decode cX0_byNumber 38 = .ok (.iconst 1, 1) := by decide +kernel
theorem dX0_byNumber_39 : decode cX0_byNumber 39 = .ok (.aload_n 0, 1) := by decide +kernel
theorem dX0_byNumber_40 : decode cX0_byNumber 40 = .ok (.getfield 21, 3) := by decide +kernel
theorem dX0_byNumber_43 : decode cX0_byNumber 43 = .ok (.ishl, 1) := by decide +kernel
theorem dX0_byNumber_44 : decode cX0_byNumber 44 = .ok (.goto 4, 3) := by decide +kernel
theorem dX0_byNumber_47 : decode cX0_byNumber 47 = .ok (.iconst 0, 1) := by decide +kernel
theorem dX0_byNumber_48 : decode cX0_byNumber 48 = .ok (.ireturn, 1) := by decide +kernel
theorem dX0_byCell_0 : decode cX0_byCell 0 = .ok (.iload_n 1, 1) := by decide +kernel
theorem dX0_byCell_1 : decode cX0_byCell 1 = .ok (.bipush 9, 2) := by decide +kernel
theorem dX0_byCell_3 : decode cX0_byCell 3 = .ok (.irem, 1) := by decide +kernel
theorem dX0_byCell_4 : decode cX0_byCell 4 = .ok (.istore_n 2, 1) := by decide +kernel
theorem dX0_byCell_5 : decode cX0_byCell 5 = .ok (.iload_n 1, 1) := by decide +kernel
theorem dX0_byCell_6 : decode cX0_byCell 6 = .ok (.bipush 9, 2) := by decide +kernel
theorem dX0_byCell_8 : decode cX0_byCell 8 = .ok (.idiv, 1) := by decide +kernel
theorem dX0_byCell_9 : decode cX0_byCell 9 = .ok (.istore_n 3, 1) := by decide +kernel
theorem dX0_byCell_10 : decode cX0_byCell 10 = .ok (.aload_n 0, 1) := by decide +kernel
theorem dX0_byCell_11 : decode cX0_byCell 11 = .ok (.getfield 18, 3) := by decide +kernel
theorem dX0_byCell_14 : decode cX0_byCell 14 = .ok (.iconst 3, 1) := by decide +kernel
theorem dX0_byCell_15 : decode cX0_byCell 15 = .ok (.if_icmp .ne 39, 3) := by decide +kernel
theorem dX0_byCell_18 : decode cX0_byCell 18 = .ok (.iload_n 2, 1) := by decide +kernel
theorem dX0_byCell_19 : decode cX0_byCell 19 = .ok (.aload_n 0, 1) := by decide +kernel
theorem dX0_byCell_20 : decode cX0_byCell 20 = .ok (.getfield 27, 3) := by decide +kernel
theorem dX0_byCell_23 : decode cX0_byCell 23 = .ok (.if_icmp .lt 31, 3) := by decide +kernel
theorem dX0_byCell_26 : decode cX0_byCell 26 = .ok (.iload_n 2, 1) := by decide +kernel
theorem dX0_byCell_27 : decode cX0_byCell 27 = .ok (.aload_n 0, 1) := by decide +kernel
theorem dX0_byCell_28 : decode cX0_byCell 28 = .ok (.getfield 30, 3) := by decide +kernel
theorem dX0_byCell_31 : decode cX0_byCell 31 = .ok (.if_icmp .gt 23, 3) := by decide +kernel
theorem dX0_byCell_34 : decode cX0_byCell 34 = .ok (.iload_n 3, 1) := by decide +kernel
theorem dX0_byCell_35 : decode cX0_byCell 35 = .ok (.aload_n 0, 1) := by decide +kernel
theorem dX0_byCell_36 : decode cX0_byCell 36 = .ok (.getfield 33, 3) := by decide +kernel
theorem dX0_byCell_39 : decode cX0_byCell 39 = .ok (.if_icmp .lt 15, 3) := by decide +kernel
theorem dX0_byCell_42 : decode cX0_byCell 42 = .ok (.iload_n 3, 1) := by decide +kernel
theorem dX0_byCell_43 : decode cX0_byCell 43 = .ok (.aload_n 0, 1) := by decide +kernel
theorem dX0_byCell_44 : decode cX0_byCell 44 = .ok (.getfield 36, 3) := by decide +kernel
theorem dX0_byCell_47 : decode cX0_byCell 47 = .ok (.if_icmp .gt 7, 3) := by decide +kernel
theorem dX0_byCell_50 : decode cX0_byCell 50 = .ok (.iconst 1, 1) := by decide +kernel
theorem dX0_byCell_51 : decode cX0_byCell 51 = .ok (.goto 4, 3) := by decide +kernel
theorem dX0_byCell_54 : decode cX0_byCell 54 = .ok (.iconst 0, 1) := by decide +kernel
theorem dX0_byCell_55 : decode cX0_byCell 55 = .ok (.istore 4, 2) := by decide +kernel
theorem dX0_byCell_57 : decode cX0_byCell 57 = .ok (.iload 4, 2) := by decide +kernel
theorem dX0_byCell_59 : decode cX0_byCell 59 = .ok (.ifCond .eq 12, 3) := by decide +kernel
theorem dX0_byCell_62 : decode cX0_byCell 62 = .ok (.iconst 1, 1) := by decide +kernel
theorem dX0_byCell_63 : decode cX0_byCell 63 = .ok (.aload_n 0, 1) := by decide +kernel
theorem dX0_byCell_64 : decode cX0_byCell 64 = .ok (.getfield 21, 3) := by decide +kernel
theorem dX0_byCell_67 : decode cX0_byCell 67 = .ok (.ishl, 1) := by decide +kernel
theorem dX0_byCell_68 : decode cX0_byCell 68 = .ok (.goto 4, 3) := by decide +kernel
theorem dX0_byCell_71 : decode cX0_byCell 71 = .ok (.iconst 0, 1) := by decide +kernel
theorem dX0_byCell_72 : decode cX0_byCell 72 = .ok (.ireturn, 1) := by decide +kernel
theorem dX1_init_0 : decode cX1_init 0 = .ok (.aload_n 0, 1) := by decide +kernel
theorem dX1_init_1 : decode cX1_init 1 = .ok (.invokespecial 3, 3) := by decide +kernel
theorem dX1_init_4 : decode cX1_init 4 = .ok (.aload_n 0, 1) := by decide +kernel
theorem dX1_init_5 : decode cX1_init 5 = .ok (.sipush 405, 3) := by decide +kernel
theorem dX1_init_8 : decode cX1_init 8 = .ok (.newarray .int, 2) := by decide +kernel
theorem dX1_init_10 : decode cX1_init 10 = .ok (.putfield 11, 3) := by decide +kernel
theorem dX1_init_13 : decode cX1_init 13 = .ok (.aload_n 0, 1) := by decide +kernel
theorem dX1_init_14 : decode cX1_init 14 = .ok (.sipush 405, 3) := by decide +kernel
theorem dX1_init_17 : decode cX1_init 17 = .ok (.newarray .int, 2) := by decide +kernel
theorem dX1_init_19 : decode cX1_init 19 = .ok (.putfield 15, 3) := by decide +kernel
theorem dX1_init_22 : decode cX1_init 22 = .ok (.aload_n 0, 1) := by decide +kernel
theorem dX1_init_23 : decode cX1_init 23 = .ok (.bipush 81, 2) := by decide +kernel
theorem dX1_init_25 : decode cX1_init 25 = .ok (.newarray .int, 2) := by decide +kernel
theorem dX1_init_27 : decode cX1_init 27 = .ok (.putfield 18, 3) := by decide +kernel
theorem dX1_init_30 : decode cX1_init 30 = .ok (.aload_n 0, 1) := by decide +kernel
theorem dX1_init_31 : decode cX1_init 31 = .ok (.iconst 5, 1) := by decide +kernel
theorem dX1_init_32 : decode cX1_init 32 = .ok (.newarray .int, 2) := by decide +kernel
theorem dX1_init_34 : decode cX1_init 34 = .ok (.putfield 21, 3) := by decide +kernel
theorem dX1_init_37 : decode cX1_init 37 = .ok (.return_, 1) := by decide +kernel
theorem dX1_leastSteps_0 : decode cX1_leastSteps 0 = .ok (.aload_n 1, 1) := by decide +kernel
theorem dX1_leastSteps_1 : decode cX1_leastSteps 1 = .ok (.getfield 24, 3) := by decide +kernel
theorem dX1_leastSteps_4 : decode cX1_leastSteps 4 = .ok (.iload_n 2, 1) := by decide +kernel
theorem dX1_leastSteps_5 : decode cX1_leastSteps 5 = .ok (.aaload, 1) := by decide +kernel
theorem dX1_leastSteps_6 : decode cX1_leastSteps 6 = .ok (.getfield 30, 3) := by decide +kernel
theorem dX1_leastSteps_9 : decode cX1_leastSteps 9 = .ok (.ifCond .eq 5, 3) := by decide +kernel
theorem dX1_leastSteps_12 : decode cX1_leastSteps 12 = .ok (.iconst 0, 1) := by decide +kernel
theorem dX1_leastSteps_13 : decode cX1_leastSteps 13 = .ok (.ireturn, 1) := by decide +kernel
theorem dX1_leastSteps_14 : decode cX1_leastSteps 14 = .ok (.aload_n 0, 1) := by decide +kernel
theorem dX1_leastSteps_15 : decode cX1_leastSteps 15 = .ok (.aload_n 1, 1) := by decide +kernel
theorem dX1_leastSteps_16 : decode cX1_leastSteps 16 = .ok (.iload_n 2, 1) := by decide +kernel
theorem dX1_leastSteps_17 : decode cX1_leastSteps 17 = .ok (.invokevirtual 36, 3) := by decide +kernel
theorem dX1_leastSteps_20 : decode cX1_leastSteps 20 = .ok (.iconst 1, 1) := by decide +kernel
theorem dX1_leastSteps_21 : decode cX1_leastSteps 21 = .ok (.istore_n 3, 1) := by decide +kernel
theorem dX1_leastSteps_22 : decode cX1_leastSteps 22 = .ok (.iload_n 3, 1) := by decide +kernel
theorem dX1_leastSteps_23 : decode cX1_leastSteps 23 = .ok (.sipush 200, 3) := by decide +kernel
theorem dX1_leastSteps_26 : decode cX1_leastSteps 26 = .ok (.if_icmp .gt 23, 3) := by decide +kernel
theorem dX1_leastSteps_29 : decode cX1_leastSteps 29 = .ok (.aload_n 0, 1) := by decide +kernel
theorem dX1_leastSteps_30 : decode cX1_leastSteps 30 = .ok (.aload_n 1, 1) := by decide +kernel
theorem dX1_leastSteps_31 : decode cX1_leastSteps 31 = .ok (.iload_n 2, 1) := by decide +kernel
theorem dX1_leastSteps_32 : decode cX1_leastSteps 32 = .ok (.iload_n 3, 1) := by decide +kernel
theorem dX1_leastSteps_33 : decode cX1_leastSteps 33 = .ok (.iconst 1, 1) := by decide +kernel
theorem dX1_leastSteps_34 : decode cX1_leastSteps 34 = .ok (.isub, 1) := by decide +kernel
theorem dX1_leastSteps_35 : decode cX1_leastSteps 35 = .ok (.invokevirtual 40, 3) := by decide +kernel
theorem dX1_leastSteps_38 : decode cX1_leastSteps 38 = .ok (.ifCond .eq 5, 3) := by decide +kernel
theorem dX1_leastSteps_41 : decode cX1_leastSteps 41 = .ok (.iload_n 3, 1) := by decide +kernel
theorem dX1_leastSteps_42 : decode cX1_leastSteps 42 = .ok (.ireturn, 1) := by decide +kernel
theorem dX1_leastSteps_43 : decode cX1_leastSteps 43 = .ok (.iinc 3 1, 3) := by decide +kernel
theorem dX1_leastSteps_46 : decode cX1_leastSteps 46 = .ok (.goto (-24), 3) := by decide +kernel
theorem dX1_leastSteps_49 : decode cX1_leastSteps 49 = .ok (.iconst (-1), 1) := by decide +kernel
theorem dX1_leastSteps_50 : decode cX1_leastSteps 50 = .ok (.ireturn, 1) := by decide +kernel
theorem dX1_begin_0 : decode cX1_begin 0 = .ok (.aload_n 0, 1) := by decide +kernel
theorem dX1_begin_1 : decode cX1_begin 1 = .ok (.getfield 18, 3) := by decide +kernel
theorem dX1_begin_4 : decode cX1_begin 4 = .ok (.iconst 0, 1) := by decide +kernel
theorem dX1_begin_5 : decode cX1_begin 5 = .ok (.invokestatic 45, 3) := by decide +kernel
theorem dX1_begin_8 : decode cX1_begin 8 = .ok (.aload_n 0, 1) := by decide +kernel
theorem dX1_begin_9 : decode cX1_begin 9 = .ok (.getfield 21, 3) := by decide +kernel
theorem dX1_begin_12 : decode cX1_begin 12 = .ok (.iconst 0, 1) := by decide +kernel
theorem dX1_begin_13 : decode cX1_begin 13 = .ok (.invokestatic 45, 3) := by decide +kernel
theorem dX1_begin_16 : decode cX1_begin 16 = .ok (.iconst 0, 1) := by decide +kernel
theorem dX1_begin_17 : decode cX1_begin 17 = .ok (.istore_n 3, 1) := by decide +kernel
theorem dX1_begin_18 : decode cX1_begin 18 = .ok (.iload_n 3, 1) := by decide +kernel
theorem dX1_begin_19 : decode cX1_begin 19 = .ok (.aload_n 1, 1) := by decide +kernel
theorem dX1_begin_20 : decode cX1_begin 20 = .ok (.getfield 51, 3) := by decide +kernel
theorem dX1_begin_23 : decode cX1_begin 23 = .ok (.if_icmp .ge 32, 3) := by decide +kernel
theorem dX1_begin_26 : decode cX1_begin 26 = .ok (.aload_n 1, 1) := by decide +kernel
theorem dX1_begin_27 : decode cX1_begin 27 = .ok (.getfield 54, 3) := by decide +kernel
theorem dX1_begin_30 : decode cX1_begin 30 = .ok (.iload_n 3, 1) := by decide +kernel
theorem dX1_begin_31 : decode cX1_begin 31 = .ok (.aaload, 1) := by decide +kernel
theorem dX1_begin_32 : decode cX1_begin 32 = .ok (.getfield 58, 3) := by decide +kernel
theorem dX1_begin_35 : decode cX1_begin 35 = .ok (.iload_n 2, 1) := by decide +kernel
theorem dX1_begin_36 : decode cX1_begin 36 = .ok (.if_icmp .ne 13, 3) := by decide +kernel
theorem dX1_begin_39 : decode cX1_begin 39 = .ok (.aload_n 0, 1) := by decide +kernel
theorem dX1_begin_40 : decode cX1_begin 40 = .ok (.aload_n 1, 1) := by decide +kernel
theorem dX1_begin_41 : decode cX1_begin 41 = .ok (.getfield 54, 3) := by decide +kernel
theorem dX1_begin_44 : decode cX1_begin 44 = .ok (.iload_n 3, 1) := by decide +kernel
theorem dX1_begin_45 : decode cX1_begin 45 = .ok (.aaload, 1) := by decide +kernel
theorem dX1_begin_46 : decode cX1_begin 46 = .ok (.invokevirtual 63, 3) := by decide +kernel
theorem dX1_begin_49 : decode cX1_begin 49 = .ok (.iinc 3 1, 3) := by decide +kernel
theorem dX1_begin_52 : decode cX1_begin 52 = .ok (.goto (-34), 3) := by decide +kernel
theorem dX1_begin_55 : decode cX1_begin 55 = .ok (.aload_n 0, 1) := by decide +kernel
theorem dX1_begin_56 : decode cX1_begin 56 = .ok (.getfield 11, 3) := by decide +kernel
theorem dX1_begin_59 : decode cX1_begin 59 = .ok (.iconst 0, 1) := by decide +kernel
theorem dX1_begin_60 : decode cX1_begin 60 = .ok (.invokestatic 45, 3) := by decide +kernel
theorem dX1_begin_63 : decode cX1_begin 63 = .ok (.aload_n 1, 1) := by decide +kernel
theorem dX1_begin_64 : decode cX1_begin 64 = .ok (.getfield 24, 3) := by decide +kernel
theorem dX1_begin_67 : decode cX1_begin 67 = .ok (.iload_n 2, 1) := by decide +kernel
theorem dX1_begin_68 : decode cX1_begin 68 = .ok (.aaload, 1) := by decide +kernel
theorem dX1_begin_69 : decode cX1_begin 69 = .ok (.astore_n 3, 1) := by decide +kernel
theorem dX1_begin_70 : decode cX1_begin 70 = .ok (.aload_n 0, 1) := by decide +kernel
theorem dX1_begin_71 : decode cX1_begin 71 = .ok (.getfield 11, 3) := by decide +kernel
theorem dX1_begin_74 : decode cX1_begin 74 = .ok (.aload_n 3, 1) := by decide +kernel
theorem dX1_begin_75 : decode cX1_begin 75 = .ok (.getfield 67, 3) := by decide +kernel
theorem dX1_begin_78 : decode cX1_begin 78 = .ok (.iconst 5, 1) := by decide +kernel
theorem dX1_begin_79 : decode cX1_begin 79 = .ok (.imul, 1) := by decide +kernel
theorem dX1_begin_80 : decode cX1_begin 80 = .ok (.aload_n 3, 1) := by decide +kernel
theorem dX1_begin_81 : decode cX1_begin 81 = .ok (.getfield 70, 3) := by decide +kernel
theorem dX1_begin_84 : decode cX1_begin 84 = .ok (.iconst (-1), 1) := by decide +kernel
theorem dX1_begin_85 : decode cX1_begin 85 = .ok (.if_icmp .ne 7, 3) := by decide +kernel
theorem dX1_begin_88 : decode cX1_begin 88 = .ok (.iconst 4, 1) := by decide +kernel
theorem dX1_begin_89 : decode cX1_begin 89 = .ok (.goto 7, 3) := by decide +kernel
theorem dX1_begin_92 : decode cX1_begin 92 = .ok (.aload_n 3, 1) := by decide +kernel
theorem dX1_begin_93 : decode cX1_begin 93 = .ok (.getfield 70, 3) := by decide +kernel
theorem dX1_begin_96 : decode cX1_begin 96 = .ok (.iadd, 1) := by decide +kernel
theorem dX1_begin_97 : decode cX1_begin 97 = .ok (.iconst 1, 1) := by decide +kernel
theorem dX1_begin_98 : decode cX1_begin 98 = .ok (.iastore, 1) := by decide +kernel
theorem dX1_begin_99 : decode cX1_begin 99 = .ok (.return_, 1) := by decide +kernel
theorem dX1_addBan_0 : decode cX1_addBan 0 = .ok (.iconst 0, 1) := by decide +kernel
theorem dX1_addBan_1 : decode cX1_addBan 1 = .ok (.istore_n 2, 1) := by decide +kernel
theorem dX1_addBan_2 : decode cX1_addBan 2 = .ok (.iload_n 2, 1) := by decide +kernel
theorem dX1_addBan_3 : decode cX1_addBan 3 = .ok (.bipush 81, 2) := by decide +kernel
theorem dX1_addBan_5 : decode cX1_addBan 5 = .ok (.if_icmp .ge 23, 3) := by decide +kernel
theorem dX1_addBan_8 : decode cX1_addBan 8 = .ok (.aload_n 0, 1) := by decide +kernel
theorem dX1_addBan_9 : decode cX1_addBan 9 = .ok (.getfield 18, 3) := by decide +kernel
theorem dX1_addBan_12 : decode cX1_addBan 12 = .ok (.iload_n 2, 1) := by decide +kernel
theorem dX1_addBan_13 : decode cX1_addBan 13 = .ok (.dup2, 1) := by decide +kernel
theorem dX1_addBan_14 : decode cX1_addBan 14 = .ok (.iaload, 1) := by decide +kernel
theorem dX1_addBan_15 : decode cX1_addBan 15 = .ok (.aload_n 1, 1) := by decide +kernel
theorem dX1_addBan_16 : decode cX1_addBan 16 = .ok (.iload_n 2, 1) := by decide +kernel
theorem dX1_addBan_17 : decode cX1_addBan 17 = .ok (.invokevirtual 73, 3) := by decide +kernel
theorem dX1_addBan_20 : decode cX1_addBan 20 = .ok (.ior, 1) := by decide +kernel
theorem dX1_addBan_21 : decode cX1_addBan 21 = .ok (.iastore, 1) := by decide +kernel
theorem dX1_addBan_22 : decode cX1_addBan 22 = .ok (.iinc 2 1, 3) := by decide +kernel
theorem dX1_addBan_25 : decode cX1_addBan 25 = .ok (.goto (-23), 3) := by decide +kernel
theorem dX1_addBan_28 : decode cX1_addBan 28 = .ok (.iconst 0, 1) := by decide +kernel
theorem dX1_addBan_29 : decode cX1_addBan 29 = .ok (.istore_n 2, 1) := by decide +kernel
theorem dX1_addBan_30 : decode cX1_addBan 30 = .ok (.iload_n 2, 1) := by decide +kernel
theorem dX1_addBan_31 : decode cX1_addBan 31 = .ok (.iconst 4, 1) := by decide +kernel
theorem dX1_addBan_32 : decode cX1_addBan 32 = .ok (.if_icmp .ge 23, 3) := by decide +kernel
theorem dX1_addBan_35 : decode cX1_addBan 35 = .ok (.aload_n 0, 1) := by decide +kernel
theorem dX1_addBan_36 : decode cX1_addBan 36 = .ok (.getfield 21, 3) := by decide +kernel
theorem dX1_addBan_39 : decode cX1_addBan 39 = .ok (.iload_n 2, 1) := by decide +kernel
theorem dX1_addBan_40 : decode cX1_addBan 40 = .ok (.dup2, 1) := by decide +kernel
theorem dX1_addBan_41 : decode cX1_addBan 41 = .ok (.iaload, 1) := by decide +kernel
theorem dX1_addBan_42 : decode cX1_addBan 42 = .ok (.aload_n 1, 1) := by decide +kernel
theorem dX1_addBan_43 : decode cX1_addBan 43 = .ok (.iload_n 2, 1) := by decide +kernel
theorem dX1_addBan_44 : decode cX1_addBan 44 = .ok (.invokevirtual 77, 3) := by decide +kernel
theorem dX1_addBan_47 : decode cX1_addBan 47 = .ok (.ior, 1) := by decide +kernel
theorem dX1_addBan_48 : decode cX1_addBan 48 = .ok (.iastore, 1) := by decide +kernel
theorem dX1_addBan_49 : decode cX1_addBan 49 = .ok (.iinc 2 1, 3) := by decide +kernel
theorem dX1_addBan_52 : decode cX1_addBan 52 = .ok (.goto (-22), 3) := by decide +kernel
theorem dX1_addBan_55 : decode cX1_addBan 55 = .ok (.return_, 1) := by decide +kernel
theorem dX1_goOn_0 : decode cX1_goOn 0 = .ok (.aload_n 0, 1) := by decide +kernel
theorem dX1_goOn_1 : decode cX1_goOn 1 = .ok (.getfield 15, 3) := by decide +kernel
theorem dX1_goOn_4 : decode cX1_goOn 4 = .ok (.iconst 0, 1) := by decide +kernel
theorem dX1_goOn_5 : decode cX1_goOn 5 = .ok (.invokestatic 45, 3) := by decide +kernel
theorem dX1_goOn_8 : decode cX1_goOn 8 = .ok (.aload_n 1, 1) := by decide +kernel
theorem dX1_goOn_9 : decode cX1_goOn 9 = .ok (.getfield 24, 3) := by decide +kernel
theorem dX1_goOn_12 : decode cX1_goOn 12 = .ok (.iload_n 2, 1) := by decide +kernel
theorem dX1_goOn_13 : decode cX1_goOn 13 = .ok (.aaload, 1) := by decide +kernel
theorem dX1_goOn_14 : decode cX1_goOn 14 = .ok (.astore 4, 2) := by decide +kernel
theorem dX1_goOn_16 : decode cX1_goOn 16 = .ok (.aload_n 1, 1) := by decide +kernel
theorem dX1_goOn_17 : decode cX1_goOn 17 = .ok (.iload_n 2, 1) := by decide +kernel
theorem dX1_goOn_18 : decode cX1_goOn 18 = .ok (.aload 4, 2) := by decide +kernel
theorem dX1_goOn_20 : decode cX1_goOn 20 = .ok (.getfield 80, 3) := by decide +kernel
theorem dX1_goOn_23 : decode cX1_goOn 23 = .ok (.iload_n 3, 1) := by decide +kernel
theorem dX1_goOn_24 : decode cX1_goOn 24 = .ok (.iadd, 1) := by decide +kernel
theorem dX1_goOn_25 : decode cX1_goOn 25 = .ok (.invokevirtual 83, 3) := by decide +kernel
theorem dX1_goOn_28 : decode cX1_goOn 28 = .ok (.istore 5, 2) := by decide +kernel
theorem dX1_goOn_30 : decode cX1_goOn 30 = .ok (.iconst 0, 1) := by decide +kernel
theorem dX1_goOn_31 : decode cX1_goOn 31 = .ok (.istore 6, 2) := by decide +kernel
theorem dX1_goOn_33 : decode cX1_goOn 33 = .ok (.iconst 0, 1) := by decide +kernel
theorem dX1_goOn_34 : decode cX1_goOn 34 = .ok (.istore 7, 2) := by decide +kernel
theorem dX1_goOn_36 : decode cX1_goOn 36 = .ok (.iload 7, 2) := by decide +kernel
theorem dX1_goOn_38 : decode cX1_goOn 38 = .ok (.bipush 81, 2) := by decide +kernel
theorem dX1_goOn_40 : decode cX1_goOn 40 = .ok (.if_icmp .ge 147, 3) := by decide +kernel
theorem dX1_goOn_43 : decode cX1_goOn 43 = .ok (.aload_n 1, 1) := by decide +kernel
theorem dX1_goOn_44 : decode cX1_goOn 44 = .ok (.getfield 87, 3) := by decide +kernel
theorem dX1_goOn_47 : decode cX1_goOn 47 = .ok (.getfield 91, 3) := by decide +kernel
theorem dX1_goOn_50 : decode cX1_goOn 50 = .ok (.iload 7, 2) := by decide +kernel
theorem dX1_goOn_52 : decode cX1_goOn 52 = .ok (.iaload, 1) := by decide +kernel
theorem dX1_goOn_53 : decode cX1_goOn 53 = .ok (.iload 5, 2) := by decide +kernel
theorem dX1_goOn_55 : decode cX1_goOn 55 = .ok (.aload_n 0, 1) := by decide +kernel
theorem dX1_goOn_56 : decode cX1_goOn 56 = .ok (.getfield 18, 3) := by decide +kernel
theorem dX1_goOn_59 : decode cX1_goOn 59 = .ok (.iload 7, 2) := by decide +kernel
theorem dX1_goOn_61 : decode cX1_goOn 61 = .ok (.iaload, 1) := by decide +kernel
theorem dX1_goOn_62 : decode cX1_goOn 62 = .ok (.ior, 1) := by decide +kernel
theorem dX1_goOn_63 : decode cX1_goOn 63 = .ok (.iconst (-1), 1) := by decide +kernel
theorem dX1_goOn_64 : decode cX1_goOn 64 = .ok (.ixor, 1) := by decide +kernel
theorem dX1_goOn_65 : decode cX1_goOn 65 = .ok (.iand, 1) := by decide +kernel
theorem dX1_goOn_66 : decode cX1_goOn 66 = .ok (.istore 8, 2) := by decide +kernel
theorem dX1_goOn_68 : decode cX1_goOn 68 = .ok (.iconst 0, 1) := by decide +kernel
theorem dX1_goOn_69 : decode cX1_goOn 69 = .ok (.istore 9, 2) := by decide +kernel
theorem dX1_goOn_71 : decode cX1_goOn 71 = .ok (.iload 9, 2) := by decide +kernel
theorem dX1_goOn_73 : decode cX1_goOn 73 = .ok (.iconst 4, 1) := by decide +kernel
theorem dX1_goOn_74 : decode cX1_goOn 74 = .ok (.if_icmp .ge 107, 3) := by decide +kernel
theorem dX1_goOn_77 : decode cX1_goOn 77 = .ok (.iload 8, 2) := by decide +kernel
theorem dX1_goOn_79 : decode cX1_goOn 79 = .ok (.iload 9, 2) := by decide +kernel
theorem dX1_goOn_81 : decode cX1_goOn 81 = .ok (.ishr, 1) := by decide +kernel
theorem dX1_goOn_82 : decode cX1_goOn 82 = .ok (.iconst 1, 1) := by decide +kernel
theorem dX1_goOn_83 : decode cX1_goOn 83 = .ok (.iand, 1) := by decide +kernel
theorem dX1_goOn_84 : decode cX1_goOn 84 = .ok (.ifCond .ne 7, 3) := by decide +kernel
theorem dX1_goOn_87 : decode cX1_goOn 87 = .ok (.iconst 0, 1) := by decide +kernel
theorem dX1_goOn_88 : decode cX1_goOn 88 = .ok (.goto 11, 3) := by decide +kernel
theorem dX1_goOn_91 : decode cX1_goOn 91 = .ok (.aload_n 0, 1) := by decide +kernel
theorem dX1_goOn_92 : decode cX1_goOn 92 = .ok (.iload 7, 2) := by decide +kernel
theorem dX1_goOn_94 : decode cX1_goOn 94 = .ok (.iload 9, 2) := by decide +kernel
theorem dX1_goOn_96 : decode cX1_goOn 96 = .ok (.invokevirtual 96, 3) := by decide +kernel
theorem dX1_goOn_99 : decode cX1_goOn 99 = .ok (.istore 10, 2) := by decide +kernel
theorem dX1_goOn_101 : decode cX1_goOn 101 = .ok (.iload 7, 2) := by decide +kernel
theorem dX1_goOn_103 : decode cX1_goOn 103 = .ok (.getstatic 99, 3) := by decide +kernel
theorem dX1_goOn_106 : decode cX1_goOn 106 = .ok (.iload 9, 2) := by decide +kernel
theorem dX1_goOn_108 : decode cX1_goOn 108 = .ok (.iaload, 1) := by decide +kernel
theorem dX1_goOn_109 : decode cX1_goOn 109 = .ok (.iadd, 1) := by decide +kernel
theorem dX1_goOn_110 : decode cX1_goOn 110 = .ok (.istore 11, 2) := by decide +kernel
theorem dX1_goOn_112 : decode cX1_goOn 112 = .ok (.iload 10, 2) := by decide +kernel
theorem dX1_goOn_114 : decode cX1_goOn 114 = .ok (.ifCond .eq 61, 3) := by decide +kernel
theorem dX1_goOn_117 : decode cX1_goOn 117 = .ok (.iload 11, 2) := by decide +kernel
theorem dX1_goOn_119 : decode cX1_goOn 119 = .ok (.ifCond .lt 56, 3) := by decide +kernel
theorem dX1_goOn_122 : decode cX1_goOn 122 = .ok (.iload 11, 2) := by decide +kernel
theorem dX1_goOn_124 : decode cX1_goOn 124 = .ok (.bipush 81, 2) := by decide +kernel
theorem dX1_goOn_126 : decode cX1_goOn 126 = .ok (.if_icmp .lt 6, 3) := by decide +kernel
theorem dX1_goOn_129 : decode cX1_goOn 129 = .ok (.goto 46, 3) := by decide +kernel
theorem dX1_goOn_132 : decode cX1_goOn 132 = .ok (.aload_n 1, 1) := by decide +kernel
theorem dX1_goOn_133 : decode cX1_goOn 133 = .ok (.getfield 87, 3) := by decide +kernel
theorem dX1_goOn_136 : decode cX1_goOn 136 = .ok (.iload 11, 2) := by decide +kernel
theorem dX1_goOn_138 : decode cX1_goOn 138 = .ok (.aload 4, 2) := by decide +kernel
theorem dX1_goOn_140 : decode cX1_goOn 140 = .ok (.getfield 102, 3) := by decide +kernel
theorem dX1_goOn_143 : decode cX1_goOn 143 = .ok (.invokevirtual 105, 3) := by decide +kernel
theorem dX1_goOn_146 : decode cX1_goOn 146 = .ok (.ifCond .eq 15, 3) := by decide +kernel
theorem dX1_goOn_149 : decode cX1_goOn 149 = .ok (.iload 6, 2) := by decide +kernel
theorem dX1_goOn_151 : decode cX1_goOn 151 = .ok (.iload 10, 2) := by decide +kernel
theorem dX1_goOn_153 : decode cX1_goOn 153 = .ok (.invokestatic 109, 3) := by decide +kernel
theorem dX1_goOn_156 : decode cX1_goOn 156 = .ok (.istore 6, 2) := by decide +kernel
theorem dX1_goOn_158 : decode cX1_goOn 158 = .ok (.goto 17, 3) := by decide +kernel
theorem dX1_goOn_161 : decode cX1_goOn 161 = .ok (.aload_n 0, 1) := by decide +kernel
theorem dX1_goOn_162 : decode cX1_goOn 162 = .ok (.getfield 15, 3) := by decide +kernel
theorem dX1_goOn_165 : decode cX1_goOn 165 = .ok (.iload 11, 2) := by decide +kernel
theorem dX1_goOn_167 : decode cX1_goOn 167 = .ok (.iconst 5, 1) := by decide +kernel
theorem dX1_goOn_168 : decode cX1_goOn 168 = .ok (.imul, 1) := by decide +kernel
theorem dX1_goOn_169 : decode cX1_goOn 169 = .ok (.iload 9, 2) := by decide +kernel
theorem dX1_goOn_171 : decode cX1_goOn 171 = .ok (.iadd, 1) := by decide +kernel
theorem dX1_goOn_172 : decode cX1_goOn 172 = .ok (.iload 10, 2) := by decide +kernel
theorem dX1_goOn_174 : decode cX1_goOn 174 = .ok (.iastore, 1) := by decide +kernel
theorem dX1_goOn_175 : decode cX1_goOn 175 = .ok (.iinc 9 1, 3) := by decide +kernel
theorem dX1_goOn_178 : decode cX1_goOn 178 = .ok (.goto (-107), 3) := by decide +kernel
theorem dX1_goOn_181 : decode cX1_goOn 181 = .ok (.iinc 7 1, 3) := by decide +kernel
theorem dX1_goOn_184 : decode cX1_goOn 184 = .ok (.goto (-148), 3) := by decide +kernel
theorem dX1_goOn_187 : decode cX1_goOn 187 = .ok (.aload_n 0, 1) := by decide +kernel
theorem dX1_goOn_188 : decode cX1_goOn 188 = .ok (.getfield 11, 3) := by decide +kernel
theorem dX1_goOn_191 : decode cX1_goOn 191 = .ok (.astore 7, 2) := by decide +kernel
theorem dX1_goOn_193 : decode cX1_goOn 193 = .ok (.aload_n 0, 1) := by decide +kernel
theorem dX1_goOn_194 : decode cX1_goOn 194 = .ok (.aload_n 0, 1) := by decide +kernel
theorem dX1_goOn_195 : decode cX1_goOn 195 = .ok (.getfield 15, 3) := by decide +kernel
theorem dX1_goOn_198 : decode cX1_goOn 198 = .ok (.putfield 11, 3) := by decide +kernel
theorem dX1_goOn_201 : decode cX1_goOn 201 = .ok (.aload_n 0, 1) := by decide +kernel
theorem dX1_goOn_202 : decode cX1_goOn 202 = .ok (.aload 7, 2) := by decide +kernel
theorem dX1_goOn_204 : decode cX1_goOn 204 = .ok (.putfield 15, 3) := by decide +kernel
theorem dX1_goOn_207 : decode cX1_goOn 207 = .ok (.iload 6, 2) := by decide +kernel
theorem dX1_goOn_209 : decode cX1_goOn 209 = .ok (.ireturn, 1) := by decide +kernel
theorem dX1_waysThat_0 : decode cX1_waysThat 0 = .ok (.iconst 0, 1) := by decide +kernel
theorem dX1_waysThat_1 : decode cX1_waysThat 1 = .ok (.istore_n 3, 1) := by decide +kernel
theorem dX1_waysThat_2 : decode cX1_waysThat 2 = .ok (.iconst 0, 1) := by decide +kernel
theorem dX1_waysThat_3 : decode cX1_waysThat 3 = .ok (.istore 4, 2) := by decide +kernel
theorem dX1_waysThat_5 : decode cX1_waysThat 5 = .ok (.iload 4, 2) := by decide +kernel
theorem dX1_waysThat_7 : decode cX1_waysThat 7 = .ok (.iconst 5, 1) := by decide +kernel
theorem dX1_waysThat_8 : decode cX1_waysThat 8 = .ok (.if_icmp .ge 39, 3) := by decide +kernel
theorem dX1_waysThat_11 : decode cX1_waysThat 11 = .ok (.aload_n 0, 1) := by decide +kernel
theorem dX1_waysThat_12 : decode cX1_waysThat 12 = .ok (.getfield 21, 3) := by decide +kernel
theorem dX1_waysThat_15 : decode cX1_waysThat 15 = .ok (.iload 4, 2) := by decide +kernel
theorem dX1_waysThat_17 : decode cX1_waysThat 17 = .ok (.iaload, 1) := by decide +kernel
theorem dX1_waysThat_18 : decode cX1_waysThat 18 = .ok (.iload_n 2, 1) := by decide +kernel
theorem dX1_waysThat_19 : decode cX1_waysThat 19 = .ok (.ishr, 1) := by decide +kernel
theorem dX1_waysThat_20 : decode cX1_waysThat 20 = .ok (.iconst 1, 1) := by decide +kernel
theorem dX1_waysThat_21 : decode cX1_waysThat 21 = .ok (.iand, 1) := by decide +kernel
theorem dX1_waysThat_22 : decode cX1_waysThat 22 = .ok (.ifCond .ne 19, 3) := by decide +kernel
theorem dX1_waysThat_25 : decode cX1_waysThat 25 = .ok (.iload_n 3, 1) := by decide +kernel
theorem dX1_waysThat_26 : decode cX1_waysThat 26 = .ok (.aload_n 0, 1) := by decide +kernel
theorem dX1_waysThat_27 : decode cX1_waysThat 27 = .ok (.getfield 11, 3) := by decide +kernel
theorem dX1_waysThat_30 : decode cX1_waysThat 30 = .ok (.iload_n 1, 1) := by decide +kernel
theorem dX1_waysThat_31 : decode cX1_waysThat 31 = .ok (.iconst 5, 1) := by decide +kernel
theorem dX1_waysThat_32 : decode cX1_waysThat 32 = .ok (.imul, 1) := by decide +kernel
theorem dX1_waysThat_33 : decode cX1_waysThat 33 = .ok (.iload 4, 2) := by decide +kernel
theorem dX1_waysThat_35 : decode cX1_waysThat 35 = .ok (.iadd, 1) := by decide +kernel
theorem dX1_waysThat_36 : decode cX1_waysThat 36 = .ok (.iaload, 1) := by decide +kernel
theorem dX1_waysThat_37 : decode cX1_waysThat 37 = .ok (.invokestatic 109, 3) := by decide +kernel
theorem dX1_waysThat_40 : decode cX1_waysThat 40 = .ok (.istore_n 3, 1) := by decide +kernel
theorem dX1_waysThat_41 : decode cX1_waysThat 41 = .ok (.iinc 4 1, 3) := by decide +kernel
theorem dX1_waysThat_44 : decode cX1_waysThat 44 = .ok (.goto (-39), 3) := by decide +kernel
theorem dX1_waysThat_47 : decode cX1_waysThat 47 = .ok (.iload_n 3, 1) := by decide +kernel
theorem dX1_waysThat_48 : decode cX1_waysThat 48 = .ok (.ireturn, 1) := by decide +kernel
theorem dX1_sum_0 : decode cX1_sum 0 = .ok (.iload_n 0, 1) := by decide +kernel
theorem dX1_sum_1 : decode cX1_sum 1 = .ok (.iload_n 1, 1) := by decide +kernel
theorem dX1_sum_2 : decode cX1_sum 2 = .ok (.iadd, 1) := by decide +kernel
theorem dX1_sum_3 : decode cX1_sum 3 = .ok (.istore_n 2, 1) := by decide +kernel
theorem dX1_sum_4 : decode cX1_sum 4 = .ok (.iload_n 2, 1) := by decide +kernel
theorem dX1_sum_5 : decode cX1_sum 5 = .ok (.ldc 44, 2) := by decide +kernel
theorem dX1_sum_7 : decode cX1_sum 7 = .ok (.if_icmp .le 10, 3) := by decide +kernel
theorem dX1_sum_10 : decode cX1_sum 10 = .ok (.iload_n 2, 1) := by decide +kernel
theorem dX1_sum_11 : decode cX1_sum 11 = .ok (.ldc 44, 2) := by decide +kernel
theorem dX1_sum_13 : decode cX1_sum 13 = .ok (.isub, 1) := by decide +kernel
theorem dX1_sum_14 : decode cX1_sum 14 = .ok (.goto 4, 3) := by decide +kernel
theorem dX1_sum_17 : decode cX1_sum 17 = .ok (.iload_n 2, 1) := by decide +kernel
theorem dX1_sum_18 : decode cX1_sum 18 = .ok (.ireturn, 1) := by decide +kernel
theorem dX2_init_0 : decode cX2_init 0 = .ok (.aload_n 0, 1) := by decide +kernel
theorem dX2_init_1 : decode cX2_init 1 = .ok (.invokespecial 3, 3) := by decide +kernel
theorem dX2_init_4 : decode cX2_init 4 = .ok (.aload_n 0, 1) := by decide +kernel
theorem dX2_init_5 : decode cX2_init 5 = .ok (.bipush 64, 2) := by decide +kernel
theorem dX2_init_7 : decode cX2_init 7 = .ok (.newarray .int, 2) := by decide +kernel
theorem dX2_init_9 : decode cX2_init 9 = .ok (.putfield 9, 3) := by decide +kernel
theorem dX2_init_12 : decode cX2_init 12 = .ok (.aload_n 0, 1) := by decide +kernel
theorem dX2_init_13 : decode cX2_init 13 = .ok (.bipush 81, 2) := by decide +kernel
theorem dX2_init_15 : decode cX2_init 15 = .ok (.newarray .int, 2) := by decide +kernel
theorem dX2_init_17 : decode cX2_init 17 = .ok (.putfield 15, 3) := by decide +kernel
theorem dX2_init_20 : decode cX2_init 20 = .ok (.aload_n 0, 1) := by decide +kernel
theorem dX2_init_21 : decode cX2_init 21 = .ok (.iconst 5, 1) := by decide +kernel
theorem dX2_init_22 : decode cX2_init 22 = .ok (.iconst 5, 1) := by decide +kernel
theorem dX2_init_23 : decode cX2_init 23 = .ok (.invokevirtual 18, 3) := by decide +kernel
theorem dX2_init_26 : decode cX2_init 26 = .ok (.return_, 1) := by decide +kernel
theorem dX2_clear_0 : decode cX2_clear 0 = .ok (.aload_n 0, 1) := by decide +kernel
theorem dX2_clear_1 : decode cX2_clear 1 = .ok (.iload_n 1, 1) := by decide +kernel
theorem dX2_clear_2 : decode cX2_clear 2 = .ok (.putfield 22, 3) := by decide +kernel
theorem dX2_clear_5 : decode cX2_clear 5 = .ok (.aload_n 0, 1) := by decide +kernel
theorem dX2_clear_6 : decode cX2_clear 6 = .ok (.iload_n 2, 1) := by decide +kernel
theorem dX2_clear_7 : decode cX2_clear 7 = .ok (.putfield 26, 3) := by decide +kernel
theorem dX2_clear_10 : decode cX2_clear 10 = .ok (.aload_n 0, 1) := by decide +kernel
theorem dX2_clear_11 : decode cX2_clear 11 = .ok (.iconst 0, 1) := by decide +kernel
theorem dX2_clear_12 : decode cX2_clear 12 = .ok (.putfield 29, 3) := by decide +kernel
theorem dX2_clear_15 : decode cX2_clear 15 = .ok (.aload_n 0, 1) := by decide +kernel
theorem dX2_clear_16 : decode cX2_clear 16 = .ok (.getfield 9, 3) := by decide +kernel
theorem dX2_clear_19 : decode cX2_clear 19 = .ok (.iconst (-1), 1) := by decide +kernel
theorem dX2_clear_20 : decode cX2_clear 20 = .ok (.invokestatic 32, 3) := by decide +kernel
theorem dX2_clear_23 : decode cX2_clear 23 = .ok (.iconst 0, 1) := by decide +kernel
theorem dX2_clear_24 : decode cX2_clear 24 = .ok (.istore_n 3, 1) := by decide +kernel
theorem dX2_clear_25 : decode cX2_clear 25 = .ok (.iload_n 3, 1) := by decide +kernel
theorem dX2_clear_26 : decode cX2_clear 26 = .ok (.bipush 81, 2) := by decide +kernel
theorem dX2_clear_28 : decode cX2_clear 28 = .ok (.if_icmp .ge 27, 3) := by decide +kernel
theorem dX2_clear_31 : decode cX2_clear 31 = .ok (.aload_n 0, 1) := by decide +kernel
theorem dX2_clear_32 : decode cX2_clear 32 = .ok (.getfield 15, 3) := by decide +kernel
theorem dX2_clear_35 : decode cX2_clear 35 = .ok (.iload_n 3, 1) := by decide +kernel
theorem dX2_clear_36 : decode cX2_clear 36 = .ok (.aload_n 0, 1) := by decide +kernel
theorem dX2_clear_37 : decode cX2_clear 37 = .ok (.iload_n 3, 1) := by decide +kernel
theorem dX2_clear_38 : decode cX2_clear 38 = .ok (.bipush 9, 2) := by decide +kernel
theorem dX2_clear_40 : decode cX2_clear 40 = .ok (.irem, 1) := by decide +kernel
theorem dX2_clear_41 : decode cX2_clear 41 = .ok (.iload_n 3, 1) := by decide +kernel
theorem dX2_clear_42 : decode cX2_clear 42 = .ok (.bipush 9, 2) := by decide +kernel
theorem dX2_clear_44 : decode cX2_clear 44 = .ok (.idiv, 1) := by decide +kernel
theorem dX2_clear_45 : decode cX2_clear 45 = .ok (.invokevirtual 38, 3) := by decide +kernel
theorem dX2_clear_48 : decode cX2_clear 48 = .ok (.iastore, 1) := by decide +kernel
theorem dX2_clear_49 : decode cX2_clear 49 = .ok (.iinc 3 1, 3) := by decide +kernel
theorem dX2_clear_52 : decode cX2_clear 52 = .ok (.goto (-27), 3) := by decide +kernel
theorem dX2_clear_55 : decode cX2_clear 55 = .ok (.return_, 1) := by decide +kernel
theorem dX2_openWithoutWalls_0 : decode cX2_openWithoutWalls 0 = .ok (.aload_n 0, 1) := by decide +kernel
theorem dX2_openWithoutWalls_1 : decode cX2_openWithoutWalls 1 = .ok (.iload_n 1, 1) := by decide +kernel
theorem dX2_openWithoutWalls_2 : decode cX2_openWithoutWalls 2 = .ok (.iload_n 2, 1) := by decide +kernel
theorem dX2_openWithoutWalls_3 : decode cX2_openWithoutWalls 3 = .ok (.invokevirtual 42, 3) := by decide +kernel
theorem dX2_openWithoutWalls_6 : decode cX2_openWithoutWalls 6 = .ok (.ifCond .ne 5, 3) := by decide +kernel
theorem dX2_openWithoutWalls_9 : decode cX2_openWithoutWalls 9 = .ok (.iconst 0, 1) := by decide +kernel
theorem dX2_openWithoutWalls_10 : decode cX2_openWithoutWalls 10 = .ok (.ireturn, 1) := by decide +kernel
theorem dX2_openWithoutWalls_11 : decode cX2_openWithoutWalls 11 = .ok (.iload_n 2, 1) := by decide +kernel
theorem dX2_openWithoutWalls_12 : decode cX2_openWithoutWalls 12 = .ok (.aload_n 0, 1) := by decide +kernel
theorem dX2_openWithoutWalls_13 : decode cX2_openWithoutWalls 13 = .ok (.getfield 26, 3) := by decide +kernel
theorem dX2_openWithoutWalls_16 : decode cX2_openWithoutWalls 16 = .ok (.iconst 1, 1) := by decide +kernel
theorem dX2_openWithoutWalls_17 : decode cX2_openWithoutWalls 17 = .ok (.isub, 1) := by decide +kernel
theorem dX2_openWithoutWalls_18 : decode cX2_openWithoutWalls 18 = .ok (.if_icmp .ge 7, 3) := by decide +kernel
theorem dX2_openWithoutWalls_21 : decode cX2_openWithoutWalls 21 = .ok (.iconst 1, 1) := by decide +kernel
theorem dX2_openWithoutWalls_22 : decode cX2_openWithoutWalls 22 = .ok (.goto 4, 3) := by decide +kernel
theorem dX2_openWithoutWalls_25 : decode cX2_openWithoutWalls 25 = .ok (.iconst 0, 1) := by decide +kernel
theorem dX2_openWithoutWalls_26 : decode cX2_openWithoutWalls 26 = .ok (.iload_n 1, 1) := by decide +kernel
theorem dX2_openWithoutWalls_27 : decode cX2_openWithoutWalls 27 = .ok (.aload_n 0, 1) := by decide +kernel
theorem dX2_openWithoutWalls_28 : decode cX2_openWithoutWalls 28 = .ok (.getfield 22, 3) := by decide +kernel
theorem dX2_openWithoutWalls_31 : decode cX2_openWithoutWalls 31 = .ok (.iconst 1, 1) := by decide +kernel
theorem dX2_openWithoutWalls_32 : decode cX2_openWithoutWalls 32 = .ok (.isub, 1) := by decide +kernel
theorem dX2_openWithoutWalls_33 : decode cX2_openWithoutWalls 33 = .ok (.if_icmp .ge 7, 3) := by decide +kernel
theorem dX2_openWithoutWalls_36 : decode cX2_openWithoutWalls 36 = .ok (.iconst 2, 1) := by decide +kernel
theorem dX2_openWithoutWalls_37 : decode cX2_openWithoutWalls 37 = .ok (.goto 4, 3) := by decide +kernel
theorem dX2_openWithoutWalls_40 : decode cX2_openWithoutWalls 40 = .ok (.iconst 0, 1) := by decide +kernel
theorem dX2_openWithoutWalls_41 : decode cX2_openWithoutWalls 41 = .ok (.ior, 1) := by decide +kernel
theorem dX2_openWithoutWalls_42 : decode cX2_openWithoutWalls 42 = .ok (.iload_n 2, 1) := by decide +kernel
theorem dX2_openWithoutWalls_43 : decode cX2_openWithoutWalls 43 = .ok (.ifCond .le 7, 3) := by decide +kernel
theorem dX2_openWithoutWalls_46 : decode cX2_openWithoutWalls 46 = .ok (.iconst 4, 1) := by decide +kernel
theorem dX2_openWithoutWalls_47 : decode cX2_openWithoutWalls 47 = .ok (.goto 4, 3) := by decide +kernel
theorem dX2_openWithoutWalls_50 : decode cX2_openWithoutWalls 50 = .ok (.iconst 0, 1) := by decide +kernel
theorem dX2_openWithoutWalls_51 : decode cX2_openWithoutWalls 51 = .ok (.ior, 1) := by decide +kernel
theorem dX2_openWithoutWalls_52 : decode cX2_openWithoutWalls 52 = .ok (.iload_n 1, 1) := by decide +kernel
theorem dX2_openWithoutWalls_53 : decode cX2_openWithoutWalls 53 = .ok (.ifCond .le 8, 3) := by decide +kernel
theorem dX2_openWithoutWalls_56 : decode cX2_openWithoutWalls 56 = .ok (.bipush 8, 2) := by decide +kernel
theorem dX2_openWithoutWalls_58 : decode cX2_openWithoutWalls 58 = .ok (.goto 4, 3) := by decide +kernel
theorem dX2_openWithoutWalls_61 : decode cX2_openWithoutWalls 61 = .ok (.iconst 0, 1) := by decide +kernel
theorem dX2_openWithoutWalls_62 : decode cX2_openWithoutWalls 62 = .ok (.ior, 1) := by decide +kernel
theorem dX2_openWithoutWalls_63 : decode cX2_openWithoutWalls 63 = .ok (.ireturn, 1) := by decide +kernel
theorem dX2_copyFrom_0 : decode cX2_copyFrom 0 = .ok (.aload_n 0, 1) := by decide +kernel
theorem dX2_copyFrom_1 : decode cX2_copyFrom 1 = .ok (.aload_n 1, 1) := by decide +kernel
theorem dX2_copyFrom_2 : decode cX2_copyFrom 2 = .ok (.getfield 22, 3) := by decide +kernel
theorem dX2_copyFrom_5 : decode cX2_copyFrom 5 = .ok (.putfield 22, 3) := by decide +kernel
theorem dX2_copyFrom_8 : decode cX2_copyFrom 8 = .ok (.aload_n 0, 1) := by decide +kernel
theorem dX2_copyFrom_9 : decode cX2_copyFrom 9 = .ok (.aload_n 1, 1) := by decide +kernel
theorem dX2_copyFrom_10 : decode cX2_copyFrom 10 = .ok (.getfield 26, 3) := by decide +kernel
theorem dX2_copyFrom_13 : decode cX2_copyFrom 13 = .ok (.putfield 26, 3) := by decide +kernel
theorem dX2_copyFrom_16 : decode cX2_copyFrom 16 = .ok (.aload_n 0, 1) := by decide +kernel
theorem dX2_copyFrom_17 : decode cX2_copyFrom 17 = .ok (.aload_n 1, 1) := by decide +kernel
theorem dX2_copyFrom_18 : decode cX2_copyFrom 18 = .ok (.getfield 29, 3) := by decide +kernel
theorem dX2_copyFrom_21 : decode cX2_copyFrom 21 = .ok (.putfield 29, 3) := by decide +kernel
theorem dX2_copyFrom_24 : decode cX2_copyFrom 24 = .ok (.aload_n 1, 1) := by decide +kernel
theorem dX2_copyFrom_25 : decode cX2_copyFrom 25 = .ok (.getfield 9, 3) := by decide +kernel
theorem dX2_copyFrom_28 : decode cX2_copyFrom 28 = .ok (.iconst 0, 1) := by decide +kernel
theorem dX2_copyFrom_29 : decode cX2_copyFrom 29 = .ok (.aload_n 0, 1) := by decide +kernel
theorem dX2_copyFrom_30 : decode cX2_copyFrom 30 = .ok (.getfield 9, 3) := by decide +kernel
theorem dX2_copyFrom_33 : decode cX2_copyFrom 33 = .ok (.iconst 0, 1) := by decide +kernel
theorem dX2_copyFrom_34 : decode cX2_copyFrom 34 = .ok (.bipush 64, 2) := by decide +kernel
theorem dX2_copyFrom_36 : decode cX2_copyFrom 36 = .ok (.invokestatic 46, 3) := by decide +kernel
theorem dX2_copyFrom_39 : decode cX2_copyFrom 39 = .ok (.aload_n 1, 1) := by decide +kernel
theorem dX2_copyFrom_40 : decode cX2_copyFrom 40 = .ok (.getfield 15, 3) := by decide +kernel
theorem dX2_copyFrom_43 : decode cX2_copyFrom 43 = .ok (.iconst 0, 1) := by decide +kernel
theorem dX2_copyFrom_44 : decode cX2_copyFrom 44 = .ok (.aload_n 0, 1) := by decide +kernel
theorem dX2_copyFrom_45 : decode cX2_copyFrom 45 = .ok (.getfield 15, 3) := by decide +kernel
theorem dX2_copyFrom_48 : decode cX2_copyFrom 48 = .ok (.iconst 0, 1) := by decide +kernel
theorem dX2_copyFrom_49 : decode cX2_copyFrom 49 = .ok (.bipush 81, 2) := by decide +kernel
theorem dX2_copyFrom_51 : decode cX2_copyFrom 51 = .ok (.invokestatic 46, 3) := by decide +kernel
theorem dX2_copyFrom_54 : decode cX2_copyFrom 54 = .ok (.return_, 1) := by decide +kernel
theorem dX2_hasCell_0 : decode cX2_hasCell 0 = .ok (.iload_n 1, 1) := by decide +kernel
theorem dX2_hasCell_1 : decode cX2_hasCell 1 = .ok (.ifCond .lt 27, 3) := by decide +kernel
theorem dX2_hasCell_4 : decode cX2_hasCell 4 = .ok (.iload_n 1, 1) := by decide +kernel
theorem dX2_hasCell_5 : decode cX2_hasCell 5 = .ok (.aload_n 0, 1) := by decide +kernel
theorem dX2_hasCell_6 : decode cX2_hasCell 6 = .ok (.getfield 22, 3) := by decide +kernel
theorem dX2_hasCell_9 : decode cX2_hasCell 9 = .ok (.if_icmp .ge 19, 3) := by decide +kernel
theorem dX2_hasCell_12 : decode cX2_hasCell 12 = .ok (.iload_n 2, 1) := by decide +kernel
theorem dX2_hasCell_13 : decode cX2_hasCell 13 = .ok (.ifCond .lt 15, 3) := by decide +kernel
theorem dX2_hasCell_16 : decode cX2_hasCell 16 = .ok (.iload_n 2, 1) := by decide +kernel
theorem dX2_hasCell_17 : decode cX2_hasCell 17 = .ok (.aload_n 0, 1) := by decide +kernel
theorem dX2_hasCell_18 : decode cX2_hasCell 18 = .ok (.getfield 26, 3) := by decide +kernel
theorem dX2_hasCell_21 : decode cX2_hasCell 21 = .ok (.if_icmp .ge 7, 3) := by decide +kernel
theorem dX2_hasCell_24 : decode cX2_hasCell 24 = .ok (.iconst 1, 1) := by decide +kernel
theorem dX2_hasCell_25 : decode cX2_hasCell 25 = .ok (.goto 4, 3) := by decide +kernel
theorem dX2_hasCell_28 : decode cX2_hasCell 28 = .ok (.iconst 0, 1) := by decide +kernel
theorem dX2_hasCell_29 : decode cX2_hasCell 29 = .ok (.ireturn, 1) := by decide +kernel
theorem dX2_hasPlace_0 : decode cX2_hasPlace 0 = .ok (.iload_n 1, 1) := by decide +kernel
theorem dX2_hasPlace_1 : decode cX2_hasPlace 1 = .ok (.ifCond .lt 31, 3) := by decide +kernel
theorem dX2_hasPlace_4 : decode cX2_hasPlace 4 = .ok (.iload_n 1, 1) := by decide +kernel
theorem dX2_hasPlace_5 : decode cX2_hasPlace 5 = .ok (.aload_n 0, 1) := by decide +kernel
theorem dX2_hasPlace_6 : decode cX2_hasPlace 6 = .ok (.getfield 22, 3) := by decide +kernel
theorem dX2_hasPlace_9 : decode cX2_hasPlace 9 = .ok (.iconst 1, 1) := by decide +kernel
theorem dX2_hasPlace_10 : decode cX2_hasPlace 10 = .ok (.isub, 1) := by decide +kernel
theorem dX2_hasPlace_11 : decode cX2_hasPlace 11 = .ok (.if_icmp .ge 21, 3) := by decide +kernel
theorem dX2_hasPlace_14 : decode cX2_hasPlace 14 = .ok (.iload_n 2, 1) := by decide +kernel
theorem dX2_hasPlace_15 : decode cX2_hasPlace 15 = .ok (.ifCond .lt 17, 3) := by decide +kernel
theorem dX2_hasPlace_18 : decode cX2_hasPlace 18 = .ok (.iload_n 2, 1) := by decide +kernel
theorem dX2_hasPlace_19 : decode cX2_hasPlace 19 = .ok (.aload_n 0, 1) := by decide +kernel
theorem dX2_hasPlace_20 : decode cX2_hasPlace 20 = .ok (.getfield 26, 3) := by decide +kernel
theorem dX2_hasPlace_23 : decode cX2_hasPlace 23 = .ok (.iconst 1, 1) := by decide +kernel
theorem dX2_hasPlace_24 : decode cX2_hasPlace 24 = .ok (.isub, 1) := by decide +kernel
theorem dX2_hasPlace_25 : decode cX2_hasPlace 25 = .ok (.if_icmp .ge 7, 3) := by decide +kernel
theorem dX2_hasPlace_28 : decode cX2_hasPlace 28 = .ok (.iconst 1, 1) := by decide +kernel
theorem dX2_hasPlace_29 : decode cX2_hasPlace 29 = .ok (.goto 4, 3) := by decide +kernel
theorem dX2_hasPlace_32 : decode cX2_hasPlace 32 = .ok (.iconst 0, 1) := by decide +kernel
theorem dX2_hasPlace_33 : decode cX2_hasPlace 33 = .ok (.ireturn, 1) := by decide +kernel
theorem dX2_behind_0 : decode cX2_behind 0 = .ok (.iload_n 1, 1) := by decide +kernel
theorem dX2_behind_1 : decode cX2_behind 1 = .ok (.ifCond .lt 22, 3) := by decide +kernel
theorem dX2_behind_4 : decode cX2_behind 4 = .ok (.iload_n 1, 1) := by decide +kernel
theorem dX2_behind_5 : decode cX2_behind 5 = .ok (.bipush 81, 2) := by decide +kernel
theorem dX2_behind_7 : decode cX2_behind 7 = .ok (.if_icmp .ge 16, 3) := by decide +kernel
theorem dX2_behind_10 : decode cX2_behind 10 = .ok (.aload_n 0, 1) := by decide +kernel
theorem dX2_behind_11 : decode cX2_behind 11 = .ok (.getfield 15, 3) := by decide +kernel
theorem dX2_behind_14 : decode cX2_behind 14 = .ok (.iload_n 1, 1) := by decide +kernel
theorem dX2_behind_15 : decode cX2_behind 15 = .ok (.iaload, 1) := by decide +kernel
theorem dX2_behind_16 : decode cX2_behind 16 = .ok (.iload_n 2, 1) := by decide +kernel
theorem dX2_behind_17 : decode cX2_behind 17 = .ok (.ishr, 1) := by decide +kernel
theorem dX2_behind_18 : decode cX2_behind 18 = .ok (.iconst 1, 1) := by decide +kernel
theorem dX2_behind_19 : decode cX2_behind 19 = .ok (.iand, 1) := by decide +kernel
theorem dX2_behind_20 : decode cX2_behind 20 = .ok (.ifCond .ne 5, 3) := by decide +kernel
theorem dX2_behind_23 : decode cX2_behind 23 = .ok (.iconst (-1), 1) := by decide +kernel
theorem dX2_behind_24 : decode cX2_behind 24 = .ok (.ireturn, 1) := by decide +kernel
theorem dX2_behind_25 : decode cX2_behind 25 = .ok (.iload_n 1, 1) := by decide +kernel
theorem dX2_behind_26 : decode cX2_behind 26 = .ok (.getstatic 52, 3) := by decide +kernel
theorem dX2_behind_29 : decode cX2_behind 29 = .ok (.iload_n 2, 1) := by decide +kernel
theorem dX2_behind_30 : decode cX2_behind 30 = .ok (.iaload, 1) := by decide +kernel
theorem dX2_behind_31 : decode cX2_behind 31 = .ok (.iadd, 1) := by decide +kernel
theorem dX2_behind_32 : decode cX2_behind 32 = .ok (.ireturn, 1) := by decide +kernel
theorem dX2_liesAt_0 : decode cX2_liesAt 0 = .ok (.iload_n 2, 1) := by decide +kernel
theorem dX2_liesAt_1 : decode cX2_liesAt 1 = .ok (.tableswitch 78 0 2 #[27, 46, 65], 27) := by decide +kernel
theorem dX2_liesAt_28 : decode cX2_liesAt 28 = .ok (.iload_n 1, 1) := by decide +kernel
theorem dX2_liesAt_29 : decode cX2_liesAt 29 = .ok (.bipush 9, 2) := by decide +kernel
theorem dX2_liesAt_31 : decode cX2_liesAt 31 = .ok (.idiv, 1) := by decide +kernel
theorem dX2_liesAt_32 : decode cX2_liesAt 32 = .ok (.aload_n 0, 1) := by decide +kernel
theorem dX2_liesAt_33 : decode cX2_liesAt 33 = .ok (.getfield 26, 3) := by decide +kernel
theorem dX2_liesAt_36 : decode cX2_liesAt 36 = .ok (.iconst 1, 1) := by decide +kernel
theorem dX2_liesAt_37 : decode cX2_liesAt 37 = .ok (.isub, 1) := by decide +kernel
theorem dX2_liesAt_38 : decode cX2_liesAt 38 = .ok (.if_icmp .ne 7, 3) := by decide +kernel
theorem dX2_liesAt_41 : decode cX2_liesAt 41 = .ok (.iconst 1, 1) := by decide +kernel
theorem dX2_liesAt_42 : decode cX2_liesAt 42 = .ok (.goto 4, 3) := by decide +kernel
theorem dX2_liesAt_45 : decode cX2_liesAt 45 = .ok (.iconst 0, 1) := by decide +kernel
theorem dX2_liesAt_46 : decode cX2_liesAt 46 = .ok (.ireturn, 1) := by decide +kernel
theorem dX2_liesAt_47 : decode cX2_liesAt 47 = .ok (.iload_n 1, 1) := by decide +kernel
theorem dX2_liesAt_48 : decode cX2_liesAt 48 = .ok (.bipush 9, 2) := by decide +kernel
theorem dX2_liesAt_50 : decode cX2_liesAt 50 = .ok (.irem, 1) := by decide +kernel
theorem dX2_liesAt_51 : decode cX2_liesAt 51 = .ok (.aload_n 0, 1) := by decide +kernel
theorem dX2_liesAt_52 : decode cX2_liesAt 52 = .ok (.getfield 22, 3) := by decide +kernel
theorem dX2_liesAt_55 : decode cX2_liesAt 55 = .ok (.iconst 1, 1) := by decide +kernel
theorem dX2_liesAt_56 : decode cX2_liesAt 56 = .ok (.isub, 1) := by decide +kernel
theorem dX2_liesAt_57 : decode cX2_liesAt 57 = .ok (.if_icmp .ne 7, 3) := by decide +kernel
theorem dX2_liesAt_60 : decode cX2_liesAt 60 = .ok (.iconst 1, 1) := by decide +kernel
theorem dX2_liesAt_61 : decode cX2_liesAt 61 = .ok (.goto 4, 3) := by decide +kernel
theorem dX2_liesAt_64 : decode cX2_liesAt 64 = .ok (.iconst 0, 1) := by decide +kernel
theorem dX2_liesAt_65 : decode cX2_liesAt 65 = .ok (.ireturn, 1) := by decide +kernel
theorem dX2_liesAt_66 : decode cX2_liesAt 66 = .ok (.iload_n 1, 1) := by decide +kernel
theorem dX2_liesAt_67 : decode cX2_liesAt 67 = .ok (.bipush 9, 2) := by decide +kernel
theorem dX2_liesAt_69 : decode cX2_liesAt 69 = .ok (.idiv, 1) := by decide +kernel
theorem dX2_liesAt_70 : decode cX2_liesAt 70 = .ok (.ifCond .ne 7, 3) := by decide +kernel
theorem dX2_liesAt_73 : decode cX2_liesAt 73 = .ok (.iconst 1, 1) := by decide +kernel
theorem dX2_liesAt_74 : decode cX2_liesAt 74 = .ok (.goto 4, 3) := by decide +kernel
theorem dX2_liesAt_77 : decode cX2_liesAt 77 = .ok (.iconst 0, 1) := by decide +kernel
theorem dX2_liesAt_78 : decode cX2_liesAt 78 = .ok (.ireturn, 1) := by decide +kernel
theorem dX2_liesAt_79 : decode cX2_liesAt 79 = .ok (.iload_n 1, 1) := by decide +kernel
theorem dX2_liesAt_80 : decode cX2_liesAt 80 = .ok (.bipush 9, 2) := by decide +kernel
theorem dX2_liesAt_82 : decode cX2_liesAt 82 = .ok (.irem, 1) := by decide +kernel
theorem dX2_liesAt_83 : decode cX2_liesAt 83 = .ok (.ifCond .ne 7, 3) := by decide +kernel
theorem dX2_liesAt_86 : decode cX2_liesAt 86 = .ok (.iconst 1, 1) := by decide +kernel
theorem dX2_liesAt_87 : decode cX2_liesAt 87 = .ok (.goto 4, 3) := by decide +kernel
theorem dX2_liesAt_90 : decode cX2_liesAt 90 = .ok (.iconst 0, 1) := by decide +kernel
theorem dX2_liesAt_91 : decode cX2_liesAt 91 = .ok (.ireturn, 1) := by decide +kernel
theorem dX2_sideLength_0 : decode cX2_sideLength 0 = .ok (.iload_n 1, 1) := by decide +kernel
theorem dX2_sideLength_1 : decode cX2_sideLength 1 = .ok (.ifCond .eq 8, 3) := by decide +kernel
theorem dX2_sideLength_4 : decode cX2_sideLength 4 = .ok (.iload_n 1, 1) := by decide +kernel
theorem dX2_sideLength_5 : decode cX2_sideLength 5 = .ok (.iconst 2, 1) := by decide +kernel
theorem dX2_sideLength_6 : decode cX2_sideLength 6 = .ok (.if_icmp .ne 10, 3) := by decide +kernel
theorem dX2_sideLength_9 : decode cX2_sideLength 9 = .ok (.aload_n 0, 1) := by decide +kernel
theorem dX2_sideLength_10 : decode cX2_sideLength 10 = .ok (.getfield 22, 3) := by decide +kernel
theorem dX2_sideLength_13 : decode cX2_sideLength 13 = .ok (.goto 7, 3) := by decide +kernel
theorem dX2_sideLength_16 : decode cX2_sideLength 16 = .ok (.aload_n 0, 1) := by decide +kernel
theorem dX2_sideLength_17 : decode cX2_sideLength 17 = .ok (.getfield 26, 3) := by decide +kernel
theorem dX2_sideLength_20 : decode cX2_sideLength 20 = .ok (.ireturn, 1) := by decide +kernel
theorem dX2_sideCell_0 : decode cX2_sideCell 0 = .ok (.iload_n 1, 1) := by decide +kernel
theorem dX2_sideCell_1 : decode cX2_sideCell 1 = .ok (.tableswitch 53 0 2 #[27, 39, 51], 27) := by decide +kernel
theorem dX2_sideCell_28 : decode cX2_sideCell 28 = .ok (.aload_n 0, 1) := by decide +kernel
theorem dX2_sideCell_29 : decode cX2_sideCell 29 = .ok (.getfield 26, 3) := by decide +kernel
theorem dX2_sideCell_32 : decode cX2_sideCell 32 = .ok (.iconst 1, 1) := by decide +kernel
theorem dX2_sideCell_33 : decode cX2_sideCell 33 = .ok (.isub, 1) := by decide +kernel
theorem dX2_sideCell_34 : decode cX2_sideCell 34 = .ok (.bipush 9, 2) := by decide +kernel
theorem dX2_sideCell_36 : decode cX2_sideCell 36 = .ok (.imul, 1) := by decide +kernel
theorem dX2_sideCell_37 : decode cX2_sideCell 37 = .ok (.iload_n 2, 1) := by decide +kernel
theorem dX2_sideCell_38 : decode cX2_sideCell 38 = .ok (.iadd, 1) := by decide +kernel
theorem dX2_sideCell_39 : decode cX2_sideCell 39 = .ok (.ireturn, 1) := by decide +kernel
theorem dX2_sideCell_40 : decode cX2_sideCell 40 = .ok (.iload_n 2, 1) := by decide +kernel
theorem dX2_sideCell_41 : decode cX2_sideCell 41 = .ok (.bipush 9, 2) := by decide +kernel
theorem dX2_sideCell_43 : decode cX2_sideCell 43 = .ok (.imul, 1) := by decide +kernel
theorem dX2_sideCell_44 : decode cX2_sideCell 44 = .ok (.aload_n 0, 1) := by decide +kernel
theorem dX2_sideCell_45 : decode cX2_sideCell 45 = .ok (.getfield 22, 3) := by decide +kernel
theorem dX2_sideCell_48 : decode cX2_sideCell 48 = .ok (.iadd, 1) := by decide +kernel
theorem dX2_sideCell_49 : decode cX2_sideCell 49 = .ok (.iconst 1, 1) := by decide +kernel
theorem dX2_sideCell_50 : decode cX2_sideCell 50 = .ok (.isub, 1) := by decide +kernel
theorem dX2_sideCell_51 : decode cX2_sideCell 51 = .ok (.ireturn, 1) := by decide +kernel
theorem dX2_sideCell_52 : decode cX2_sideCell 52 = .ok (.iload_n 2, 1) := by decide +kernel
theorem dX2_sideCell_53 : decode cX2_sideCell 53 = .ok (.ireturn, 1) := by decide +kernel
theorem dX2_sideCell_54 : decode cX2_sideCell 54 = .ok (.iload_n 2, 1) := by decide +kernel
theorem dX2_sideCell_55 : decode cX2_sideCell 55 = .ok (.bipush 9, 2) := by decide +kernel
theorem dX2_sideCell_57 : decode cX2_sideCell 57 = .ok (.imul, 1) := by decide +kernel
theorem dX2_sideCell_58 : decode cX2_sideCell 58 = .ok (.ireturn, 1) := by decide +kernel
theorem dX2_wallOn_0 : decode cX2_wallOn 0 = .ok (.iload_n 1, 1) := by decide +kernel
theorem dX2_wallOn_1 : decode cX2_wallOn 1 = .ok (.ifCond .lt 31, 3) := by decide +kernel
theorem dX2_wallOn_4 : decode cX2_wallOn 4 = .ok (.iload_n 1, 1) := by decide +kernel
theorem dX2_wallOn_5 : decode cX2_wallOn 5 = .ok (.aload_n 0, 1) := by decide +kernel
theorem dX2_wallOn_6 : decode cX2_wallOn 6 = .ok (.getfield 22, 3) := by decide +kernel
theorem dX2_wallOn_9 : decode cX2_wallOn 9 = .ok (.iconst 1, 1) := by decide +kernel
theorem dX2_wallOn_10 : decode cX2_wallOn 10 = .ok (.isub, 1) := by decide +kernel
theorem dX2_wallOn_11 : decode cX2_wallOn 11 = .ok (.if_icmp .ge 21, 3) := by decide +kernel
theorem dX2_wallOn_14 : decode cX2_wallOn 14 = .ok (.iload_n 2, 1) := by decide +kernel
theorem dX2_wallOn_15 : decode cX2_wallOn 15 = .ok (.ifCond .lt 17, 3) := by decide +kernel
theorem dX2_wallOn_18 : decode cX2_wallOn 18 = .ok (.iload_n 2, 1) := by decide +kernel
theorem dX2_wallOn_19 : decode cX2_wallOn 19 = .ok (.aload_n 0, 1) := by decide +kernel
theorem dX2_wallOn_20 : decode cX2_wallOn 20 = .ok (.getfield 26, 3) := by decide +kernel
theorem dX2_wallOn_23 : decode cX2_wallOn 23 = .ok (.iconst 1, 1) := by decide +kernel
theorem dX2_wallOn_24 : decode cX2_wallOn 24 = .ok (.isub, 1) := by decide +kernel
theorem dX2_wallOn_25 : decode cX2_wallOn 25 = .ok (.if_icmp .ge 7, 3) := by decide +kernel
theorem dX2_wallOn_28 : decode cX2_wallOn 28 = .ok (.iconst 1, 1) := by decide +kernel
theorem dX2_wallOn_29 : decode cX2_wallOn 29 = .ok (.goto 4, 3) := by decide +kernel
theorem dX2_wallOn_32 : decode cX2_wallOn 32 = .ok (.iconst 0, 1) := by decide +kernel
theorem dX2_wallOn_33 : decode cX2_wallOn 33 = .ok (.istore_n 3, 1) := by decide +kernel
theorem dX2_wallOn_34 : decode cX2_wallOn 34 = .ok (.iload_n 3, 1) := by decide +kernel
theorem dX2_wallOn_35 : decode cX2_wallOn 35 = .ok (.ifCond .eq 17, 3) := by decide +kernel
theorem dX2_wallOn_38 : decode cX2_wallOn 38 = .ok (.aload_n 0, 1) := by decide +kernel
theorem dX2_wallOn_39 : decode cX2_wallOn 39 = .ok (.getfield 9, 3) := by decide +kernel
theorem dX2_wallOn_42 : decode cX2_wallOn 42 = .ok (.iload_n 2, 1) := by decide +kernel
theorem dX2_wallOn_43 : decode cX2_wallOn 43 = .ok (.bipush 8, 2) := by decide +kernel
theorem dX2_wallOn_45 : decode cX2_wallOn 45 = .ok (.imul, 1) := by decide +kernel
theorem dX2_wallOn_46 : decode cX2_wallOn 46 = .ok (.iload_n 1, 1) := by decide +kernel
theorem dX2_wallOn_47 : decode cX2_wallOn 47 = .ok (.iadd, 1) := by decide +kernel
theorem dX2_wallOn_48 : decode cX2_wallOn 48 = .ok (.iaload, 1) := by decide +kernel
theorem dX2_wallOn_49 : decode cX2_wallOn 49 = .ok (.goto 4, 3) := by decide +kernel
theorem dX2_wallOn_52 : decode cX2_wallOn 52 = .ok (.iconst (-1), 1) := by decide +kernel
theorem dX2_wallOn_53 : decode cX2_wallOn 53 = .ok (.ireturn, 1) := by decide +kernel
theorem dX2_hasRoom_0 : decode cX2_hasRoom 0 = .ok (.aload_n 0, 1) := by decide +kernel
theorem dX2_hasRoom_1 : decode cX2_hasRoom 1 = .ok (.iload_n 1, 1) := by decide +kernel
theorem dX2_hasRoom_2 : decode cX2_hasRoom 2 = .ok (.iload_n 2, 1) := by decide +kernel
theorem dX2_hasRoom_3 : decode cX2_hasRoom 3 = .ok (.invokevirtual 55, 3) := by decide +kernel
theorem dX2_hasRoom_6 : decode cX2_hasRoom 6 = .ok (.ifCond .eq 13, 3) := by decide +kernel
theorem dX2_hasRoom_9 : decode cX2_hasRoom 9 = .ok (.aload_n 0, 1) := by decide +kernel
theorem dX2_hasRoom_10 : decode cX2_hasRoom 10 = .ok (.iload_n 1, 1) := by decide +kernel
theorem dX2_hasRoom_11 : decode cX2_hasRoom 11 = .ok (.iload_n 2, 1) := by decide +kernel
theorem dX2_hasRoom_12 : decode cX2_hasRoom 12 = .ok (.invokevirtual 58, 3) := by decide +kernel
theorem dX2_hasRoom_15 : decode cX2_hasRoom 15 = .ok (.iconst (-1), 1) := by decide +kernel
theorem dX2_hasRoom_16 : decode cX2_hasRoom 16 = .ok (.if_icmp .eq 5, 3) := by decide +kernel
theorem dX2_hasRoom_19 : decode cX2_hasRoom 19 = .ok (.iconst 0, 1) := by decide +kernel
theorem dX2_hasRoom_20 : decode cX2_hasRoom 20 = .ok (.ireturn, 1) := by decide +kernel
theorem dX2_hasRoom_21 : decode cX2_hasRoom 21 = .ok (.iload_n 3, 1) := by decide +kernel
theorem dX2_hasRoom_22 : decode cX2_hasRoom 22 = .ok (.ifCond .ne 31, 3) := by decide +kernel
theorem dX2_hasRoom_25 : decode cX2_hasRoom 25 = .ok (.aload_n 0, 1) := by decide +kernel
theorem dX2_hasRoom_26 : decode cX2_hasRoom 26 = .ok (.iload_n 1, 1) := by decide +kernel
theorem dX2_hasRoom_27 : decode cX2_hasRoom 27 = .ok (.iconst 1, 1) := by decide +kernel
theorem dX2_hasRoom_28 : decode cX2_hasRoom 28 = .ok (.isub, 1) := by decide +kernel
theorem dX2_hasRoom_29 : decode cX2_hasRoom 29 = .ok (.iload_n 2, 1) := by decide +kernel
theorem dX2_hasRoom_30 : decode cX2_hasRoom 30 = .ok (.invokevirtual 58, 3) := by decide +kernel
theorem dX2_hasRoom_33 : decode cX2_hasRoom 33 = .ok (.ifCond .eq 18, 3) := by decide +kernel
theorem dX2_hasRoom_36 : decode cX2_hasRoom 36 = .ok (.aload_n 0, 1) := by decide +kernel
theorem dX2_hasRoom_37 : decode cX2_hasRoom 37 = .ok (.iload_n 1, 1) := by decide +kernel
theorem dX2_hasRoom_38 : decode cX2_hasRoom 38 = .ok (.iconst 1, 1) := by decide +kernel
theorem dX2_hasRoom_39 : decode cX2_hasRoom 39 = .ok (.iadd, 1) := by decide +kernel
theorem dX2_hasRoom_40 : decode cX2_hasRoom 40 = .ok (.iload_n 2, 1) := by decide +kernel
theorem dX2_hasRoom_41 : decode cX2_hasRoom 41 = .ok (.invokevirtual 58, 3) := by decide +kernel
theorem dX2_hasRoom_44 : decode cX2_hasRoom 44 = .ok (.ifCond .eq 7, 3) := by decide +kernel
theorem dX2_hasRoom_47 : decode cX2_hasRoom 47 = .ok (.iconst 1, 1) := by decide +kernel
theorem dX2_hasRoom_48 : decode cX2_hasRoom 48 = .ok (.goto 4, 3) := by decide +kernel
theorem dX2_hasRoom_51 : decode cX2_hasRoom 51 = .ok (.iconst 0, 1) := by decide +kernel
theorem dX2_hasRoom_52 : decode cX2_hasRoom 52 = .ok (.ireturn, 1) := by decide +kernel
theorem dX2_hasRoom_53 : decode cX2_hasRoom 53 = .ok (.aload_n 0, 1) := by decide +kernel
theorem dX2_hasRoom_54 : decode cX2_hasRoom 54 = .ok (.iload_n 1, 1) := by decide +kernel
theorem dX2_hasRoom_55 : decode cX2_hasRoom 55 = .ok (.iload_n 2, 1) := by decide +kernel
theorem dX2_hasRoom_56 : decode cX2_hasRoom 56 = .ok (.iconst 1, 1) := by decide +kernel
theorem dX2_hasRoom_57 : decode cX2_hasRoom 57 = .ok (.isub, 1) := by decide +kernel
theorem dX2_hasRoom_58 : decode cX2_hasRoom 58 = .ok (.invokevirtual 58, 3) := by decide +kernel
theorem dX2_hasRoom_61 : decode cX2_hasRoom 61 = .ok (.iconst 1, 1) := by decide +kernel
theorem dX2_hasRoom_62 : decode cX2_hasRoom 62 = .ok (.if_icmp .eq 19, 3) := by decide +kernel
theorem dX2_hasRoom_65 : decode cX2_hasRoom 65 = .ok (.aload_n 0, 1) := by decide +kernel
theorem dX2_hasRoom_66 : decode cX2_hasRoom 66 = .ok (.iload_n 1, 1) := by decide +kernel
theorem dX2_hasRoom_67 : decode cX2_hasRoom 67 = .ok (.iload_n 2, 1) := by decide +kernel
theorem dX2_hasRoom_68 : decode cX2_hasRoom 68 = .ok (.iconst 1, 1) := by decide +kernel
theorem dX2_hasRoom_69 : decode cX2_hasRoom 69 = .ok (.iadd, 1) := by decide +kernel
theorem dX2_hasRoom_70 : decode cX2_hasRoom 70 = .ok (.invokevirtual 58, 3) := by decide +kernel
theorem dX2_hasRoom_73 : decode cX2_hasRoom 73 = .ok (.iconst 1, 1) := by decide +kernel
theorem dX2_hasRoom_74 : decode cX2_hasRoom 74 = .ok (.if_icmp .eq 7, 3) := by decide +kernel
theorem dX2_hasRoom_77 : decode cX2_hasRoom 77 = .ok (.iconst 1, 1) := by decide +kernel
theorem dX2_hasRoom_78 : decode cX2_hasRoom 78 = .ok (.goto 4, 3) := by decide +kernel
theorem dX2_hasRoom_81 : decode cX2_hasRoom 81 = .ok (.iconst 0, 1) := by decide +kernel
theorem dX2_hasRoom_82 : decode cX2_hasRoom 82 = .ok (.ireturn, 1) := by decide +kernel
theorem dX2_raise_0 : decode cX2_raise 0 = .ok (.aload_n 0, 1) := by decide +kernel
theorem dX2_raise_1 : decode cX2_raise 1 = .ok (.iload_n 1, 1) := by decide +kernel
theorem dX2_raise_2 : decode cX2_raise 2 = .ok (.iload_n 2, 1) := by decide +kernel
theorem dX2_raise_3 : decode cX2_raise 3 = .ok (.invokevirtual 55, 3) := by decide +kernel
theorem dX2_raise_6 : decode cX2_raise 6 = .ok (.ifCond .eq 36, 3) := by decide +kernel
theorem dX2_raise_9 : decode cX2_raise 9 = .ok (.aload_n 0, 1) := by decide +kernel
theorem dX2_raise_10 : decode cX2_raise 10 = .ok (.getfield 9, 3) := by decide +kernel
theorem dX2_raise_13 : decode cX2_raise 13 = .ok (.iload_n 2, 1) := by decide +kernel
theorem dX2_raise_14 : decode cX2_raise 14 = .ok (.bipush 8, 2) := by decide +kernel
theorem dX2_raise_16 : decode cX2_raise 16 = .ok (.imul, 1) := by decide +kernel
theorem dX2_raise_17 : decode cX2_raise 17 = .ok (.iload_n 1, 1) := by decide +kernel
theorem dX2_raise_18 : decode cX2_raise 18 = .ok (.iadd, 1) := by decide +kernel
theorem dX2_raise_19 : decode cX2_raise 19 = .ok (.iload_n 3, 1) := by decide +kernel
theorem dX2_raise_20 : decode cX2_raise 20 = .ok (.iastore, 1) := by decide +kernel
theorem dX2_raise_21 : decode cX2_raise 21 = .ok (.aload_n 0, 1) := by decide +kernel
theorem dX2_raise_22 : decode cX2_raise 22 = .ok (.dup, 1) := by decide +kernel
theorem dX2_raise_23 : decode cX2_raise 23 = .ok (.getfield 29, 3) := by decide +kernel
theorem dX2_raise_26 : decode cX2_raise 26 = .ok (.iconst 1, 1) := by decide +kernel
theorem dX2_raise_27 : decode cX2_raise 27 = .ok (.iadd, 1) := by decide +kernel
theorem dX2_raise_28 : decode cX2_raise 28 = .ok (.putfield 29, 3) := by decide +kernel
theorem dX2_raise_31 : decode cX2_raise 31 = .ok (.aload_n 0, 1) := by decide +kernel
theorem dX2_raise_32 : decode cX2_raise 32 = .ok (.iload_n 2, 1) := by decide +kernel
theorem dX2_raise_33 : decode cX2_raise 33 = .ok (.bipush 9, 2) := by decide +kernel
theorem dX2_raise_35 : decode cX2_raise 35 = .ok (.imul, 1) := by decide +kernel
theorem dX2_raise_36 : decode cX2_raise 36 = .ok (.iload_n 1, 1) := by decide +kernel
theorem dX2_raise_37 : decode cX2_raise 37 = .ok (.iadd, 1) := by decide +kernel
theorem dX2_raise_38 : decode cX2_raise 38 = .ok (.iload_n 3, 1) := by decide +kernel
theorem dX2_raise_39 : decode cX2_raise 39 = .ok (.invokevirtual 61, 3) := by decide +kernel
theorem dX2_raise_42 : decode cX2_raise 42 = .ok (.return_, 1) := by decide +kernel
theorem dX2_raze_0 : decode cX2_raze 0 = .ok (.aload_n 0, 1) := by decide +kernel
theorem dX2_raze_1 : decode cX2_raze 1 = .ok (.iload_n 1, 1) := by decide +kernel
theorem dX2_raze_2 : decode cX2_raze 2 = .ok (.iload_n 2, 1) := by decide +kernel
theorem dX2_raze_3 : decode cX2_raze 3 = .ok (.invokevirtual 58, 3) := by decide +kernel
theorem dX2_raze_6 : decode cX2_raze 6 = .ok (.istore_n 3, 1) := by decide +kernel
theorem dX2_raze_7 : decode cX2_raze 7 = .ok (.iload_n 3, 1) := by decide +kernel
theorem dX2_raze_8 : decode cX2_raze 8 = .ok (.iconst (-1), 1) := by decide +kernel
theorem dX2_raze_9 : decode cX2_raze 9 = .ok (.if_icmp .eq 36, 3) := by decide +kernel
theorem dX2_raze_12 : decode cX2_raze 12 = .ok (.aload_n 0, 1) := by decide +kernel
theorem dX2_raze_13 : decode cX2_raze 13 = .ok (.getfield 9, 3) := by decide +kernel
theorem dX2_raze_16 : decode cX2_raze 16 = .ok (.iload_n 2, 1) := by decide +kernel
theorem dX2_raze_17 : decode cX2_raze 17 = .ok (.bipush 8, 2) := by decide +kernel
theorem dX2_raze_19 : decode cX2_raze 19 = .ok (.imul, 1) := by decide +kernel
theorem dX2_raze_20 : decode cX2_raze 20 = .ok (.iload_n 1, 1) := by decide +kernel
theorem dX2_raze_21 : decode cX2_raze 21 = .ok (.iadd, 1) := by decide +kernel
theorem dX2_raze_22 : decode cX2_raze 22 = .ok (.iconst (-1), 1) := by decide +kernel
theorem dX2_raze_23 : decode cX2_raze 23 = .ok (.iastore, 1) := by decide +kernel
theorem dX2_raze_24 : decode cX2_raze 24 = .ok (.aload_n 0, 1) := by decide +kernel
theorem dX2_raze_25 : decode cX2_raze 25 = .ok (.dup, 1) := by decide +kernel
theorem dX2_raze_26 : decode cX2_raze 26 = .ok (.getfield 29, 3) := by decide +kernel
theorem dX2_raze_29 : decode cX2_raze 29 = .ok (.iconst 1, 1) := by decide +kernel
theorem dX2_raze_30 : decode cX2_raze 30 = .ok (.isub, 1) := by decide +kernel
theorem dX2_raze_31 : decode cX2_raze 31 = .ok (.putfield 29, 3) := by decide +kernel
theorem dX2_raze_34 : decode cX2_raze 34 = .ok (.aload_n 0, 1) := by decide +kernel
theorem dX2_raze_35 : decode cX2_raze 35 = .ok (.iload_n 2, 1) := by decide +kernel
theorem dX2_raze_36 : decode cX2_raze 36 = .ok (.bipush 9, 2) := by decide +kernel
theorem dX2_raze_38 : decode cX2_raze 38 = .ok (.imul, 1) := by decide +kernel
theorem dX2_raze_39 : decode cX2_raze 39 = .ok (.iload_n 1, 1) := by decide +kernel
theorem dX2_raze_40 : decode cX2_raze 40 = .ok (.iadd, 1) := by decide +kernel
theorem dX2_raze_41 : decode cX2_raze 41 = .ok (.iload_n 3, 1) := by decide +kernel
theorem dX2_raze_42 : decode cX2_raze 42 = .ok (.invokevirtual 61, 3) := by decide +kernel
theorem dX2_raze_45 : decode cX2_raze 45 = .ok (.return_, 1) := by decide +kernel
theorem dX2_toggleSteps_0 : decode cX2_toggleSteps 0 = .ok (.iload_n 2, 1) := by decide +kernel
theorem dX2_toggleSteps_1 : decode cX2_toggleSteps 1 = .ok (.ifCond .ne 7, 3) := by decide +kernel
theorem dX2_toggleSteps_4 : decode cX2_toggleSteps 4 = .ok (.iconst 0, 1) := by decide +kernel
theorem dX2_toggleSteps_5 : decode cX2_toggleSteps 5 = .ok (.goto 4, 3) := by decide +kernel
theorem dX2_toggleSteps_8 : decode cX2_toggleSteps 8 = .ok (.iconst 1, 1) := by decide +kernel
theorem dX2_toggleSteps_9 : decode cX2_toggleSteps 9 = .ok (.istore_n 3, 1) := by decide +kernel
theorem dX2_toggleSteps_10 : decode cX2_toggleSteps 10 = .ok (.iload_n 2, 1) := by decide +kernel
theorem dX2_toggleSteps_11 : decode cX2_toggleSteps 11 = .ok (.ifCond .ne 7, 3) := by decide +kernel
theorem dX2_toggleSteps_14 : decode cX2_toggleSteps 14 = .ok (.iconst 1, 1) := by decide +kernel
theorem dX2_toggleSteps_15 : decode cX2_toggleSteps 15 = .ok (.goto 5, 3) := by decide +kernel
theorem dX2_toggleSteps_18 : decode cX2_toggleSteps 18 = .ok (.bipush 9, 2) := by decide +kernel
theorem dX2_toggleSteps_20 : decode cX2_toggleSteps 20 = .ok (.istore 4, 2) := by decide +kernel
theorem dX2_toggleSteps_22 : decode cX2_toggleSteps 22 = .ok (.iconst 0, 1) := by decide +kernel
theorem dX2_toggleSteps_23 : decode cX2_toggleSteps 23 = .ok (.istore 5, 2) := by decide +kernel
theorem dX2_toggleSteps_25 : decode cX2_toggleSteps 25 = .ok (.iload 5, 2) := by decide +kernel
theorem dX2_toggleSteps_27 : decode cX2_toggleSteps 27 = .ok (.iconst 2, 1) := by decide +kernel
theorem dX2_toggleSteps_28 : decode cX2_toggleSteps 28 = .ok (.if_icmp .ge 68, 3) := by decide +kernel
theorem dX2_toggleSteps_31 : decode cX2_toggleSteps 31 = .ok (.iload_n 1, 1) := by decide +kernel
theorem dX2_toggleSteps_32 : decode cX2_toggleSteps 32 = .ok (.iload 5, 2) := by decide +kernel
theorem dX2_toggleSteps_34 : decode cX2_toggleSteps 34 = .ok (.iload 4, 2) := by decide +kernel
theorem dX2_toggleSteps_36 : decode cX2_toggleSteps 36 = .ok (.imul, 1) := by decide +kernel
theorem dX2_toggleSteps_37 : decode cX2_toggleSteps 37 = .ok (.iadd, 1) := by decide +kernel
theorem dX2_toggleSteps_38 : decode cX2_toggleSteps 38 = .ok (.istore 6, 2) := by decide +kernel
theorem dX2_toggleSteps_40 : decode cX2_toggleSteps 40 = .ok (.iload 6, 2) := by decide +kernel
theorem dX2_toggleSteps_42 : decode cX2_toggleSteps 42 = .ok (.getstatic 52, 3) := by decide +kernel
theorem dX2_toggleSteps_45 : decode cX2_toggleSteps 45 = .ok (.iload_n 3, 1) := by decide +kernel
theorem dX2_toggleSteps_46 : decode cX2_toggleSteps 46 = .ok (.iaload, 1) := by decide +kernel
theorem dX2_toggleSteps_47 : decode cX2_toggleSteps 47 = .ok (.iadd, 1) := by decide +kernel
theorem dX2_toggleSteps_48 : decode cX2_toggleSteps 48 = .ok (.istore 7, 2) := by decide +kernel
theorem dX2_toggleSteps_50 : decode cX2_toggleSteps 50 = .ok (.iload 6, 2) := by decide +kernel
theorem dX2_toggleSteps_52 : decode cX2_toggleSteps 52 = .ok (.ifCond .lt 38, 3) := by decide +kernel
theorem dX2_toggleSteps_55 : decode cX2_toggleSteps 55 = .ok (.iload 7, 2) := by decide +kernel
theorem dX2_toggleSteps_57 : decode cX2_toggleSteps 57 = .ok (.bipush 81, 2) := by decide +kernel
theorem dX2_toggleSteps_59 : decode cX2_toggleSteps 59 = .ok (.if_icmp .ge 31, 3) := by decide +kernel
theorem dX2_toggleSteps_62 : decode cX2_toggleSteps 62 = .ok (.aload_n 0, 1) := by decide +kernel
theorem dX2_toggleSteps_63 : decode cX2_toggleSteps 63 = .ok (.getfield 15, 3) := by decide +kernel
theorem dX2_toggleSteps_66 : decode cX2_toggleSteps 66 = .ok (.iload 6, 2) := by decide +kernel
theorem dX2_toggleSteps_68 : decode cX2_toggleSteps 68 = .ok (.dup2, 1) := by decide +kernel
theorem dX2_toggleSteps_69 : decode cX2_toggleSteps 69 = .ok (.iaload, 1) := by decide +kernel
theorem dX2_toggleSteps_70 : decode cX2_toggleSteps 70 = .ok (.iconst 1, 1) := by decide +kernel
theorem dX2_toggleSteps_71 : decode cX2_toggleSteps 71 = .ok (.iload_n 3, 1) := by decide +kernel
theorem dX2_toggleSteps_72 : decode cX2_toggleSteps 72 = .ok (.ishl, 1) := by decide +kernel
theorem dX2_toggleSteps_73 : decode cX2_toggleSteps 73 = .ok (.ixor, 1) := by decide +kernel
theorem dX2_toggleSteps_74 : decode cX2_toggleSteps 74 = .ok (.iastore, 1) := by decide +kernel
theorem dX2_toggleSteps_75 : decode cX2_toggleSteps 75 = .ok (.aload_n 0, 1) := by decide +kernel
theorem dX2_toggleSteps_76 : decode cX2_toggleSteps 76 = .ok (.getfield 15, 3) := by decide +kernel
theorem dX2_toggleSteps_79 : decode cX2_toggleSteps 79 = .ok (.iload 7, 2) := by decide +kernel
theorem dX2_toggleSteps_81 : decode cX2_toggleSteps 81 = .ok (.dup2, 1) := by decide +kernel
theorem dX2_toggleSteps_82 : decode cX2_toggleSteps 82 = .ok (.iaload, 1) := by decide +kernel
theorem dX2_toggleSteps_83 : decode cX2_toggleSteps 83 = .ok (.iconst 1, 1) := by decide +kernel
theorem dX2_toggleSteps_84 : decode cX2_toggleSteps 84 = .ok (.iload_n 3, 1) := by decide +kernel
theorem dX2_toggleSteps_85 : decode cX2_toggleSteps 85 = .ok (.iconst 2, 1) := by decide +kernel
theorem dX2_toggleSteps_86 : decode cX2_toggleSteps 86 = .ok (.ixor, 1) := by decide +kernel
theorem dX2_toggleSteps_87 : decode cX2_toggleSteps 87 = .ok (.ishl, 1) := by decide +kernel
theorem dX2_toggleSteps_88 : decode cX2_toggleSteps 88 = .ok (.ixor, 1) := by decide +kernel
theorem dX2_toggleSteps_89 : decode cX2_toggleSteps 89 = .ok (.iastore, 1) := by decide +kernel
theorem dX2_toggleSteps_90 : decode cX2_toggleSteps 90 = .ok (.iinc 5 1, 3) := by decide +kernel
theorem dX2_toggleSteps_93 : decode cX2_toggleSteps 93 = .ok (.goto (-68), 3) := by decide +kernel
theorem dX2_toggleSteps_96 : decode cX2_toggleSteps 96 = .ok (.return_, 1) := by decide +kernel
theorem dX3_init_0 : decode cX3_init 0 = .ok (.aload_n 0, 1) := by decide +kernel
theorem dX3_init_1 : decode cX3_init 1 = .ok (.invokespecial 3, 3) := by decide +kernel
theorem dX3_init_4 : decode cX3_init 4 = .ok (.aload_n 0, 1) := by decide +kernel
theorem dX3_init_5 : decode cX3_init 5 = .ok (.bipush 6, 2) := by decide +kernel
theorem dX3_init_7 : decode cX3_init 7 = .ok (.anewarray 9, 3) := by decide +kernel
theorem dX3_init_10 : decode cX3_init 10 = .ok (.putfield 11, 3) := by decide +kernel
theorem dX3_init_13 : decode cX3_init 13 = .ok (.iconst 0, 1) := by decide +kernel
theorem dX3_init_14 : decode cX3_init 14 = .ok (.istore_n 1, 1) := by decide +kernel
theorem dX3_init_15 : decode cX3_init 15 = .ok (.iload_n 1, 1) := by decide +kernel
theorem dX3_init_16 : decode cX3_init 16 = .ok (.bipush 6, 2) := by decide +kernel
theorem dX3_init_18 : decode cX3_init 18 = .ok (.if_icmp .ge 22, 3) := by decide +kernel
theorem dX3_init_21 : decode cX3_init 21 = .ok (.aload_n 0, 1) := by decide +kernel
theorem dX3_init_22 : decode cX3_init 22 = .ok (.getfield 11, 3) := by decide +kernel
theorem dX3_init_25 : decode cX3_init 25 = .ok (.iload_n 1, 1) := by decide +kernel
theorem dX3_init_26 : decode cX3_init 26 = .ok (.new 9, 3) := by decide +kernel
theorem dX3_init_29 : decode cX3_init 29 = .ok (.dup, 1) := by decide +kernel
theorem dX3_init_30 : decode cX3_init 30 = .ok (.invokespecial 17, 3) := by decide +kernel
theorem dX3_init_33 : decode cX3_init 33 = .ok (.aastore, 1) := by decide +kernel
theorem dX3_init_34 : decode cX3_init 34 = .ok (.iinc 1 1, 3) := by decide +kernel
theorem dX3_init_37 : decode cX3_init 37 = .ok (.goto (-22), 3) := by decide +kernel
theorem dX3_init_40 : decode cX3_init 40 = .ok (.return_, 1) := by decide +kernel
theorem dX3_keep_0 : decode cX3_keep 0 = .ok (.aload_n 0, 1) := by decide +kernel
theorem dX3_keep_1 : decode cX3_keep 1 = .ok (.getfield 11, 3) := by decide +kernel
theorem dX3_keep_4 : decode cX3_keep 4 = .ok (.aload_n 0, 1) := by decide +kernel
theorem dX3_keep_5 : decode cX3_keep 5 = .ok (.getfield 18, 3) := by decide +kernel
theorem dX3_keep_8 : decode cX3_keep 8 = .ok (.aaload, 1) := by decide +kernel
theorem dX3_keep_9 : decode cX3_keep 9 = .ok (.aload_n 1, 1) := by decide +kernel
theorem dX3_keep_10 : decode cX3_keep 10 = .ok (.invokevirtual 22, 3) := by decide +kernel
theorem dX3_keep_13 : decode cX3_keep 13 = .ok (.aload_n 0, 1) := by decide +kernel
theorem dX3_keep_14 : decode cX3_keep 14 = .ok (.aload_n 0, 1) := by decide +kernel
theorem dX3_keep_15 : decode cX3_keep 15 = .ok (.getfield 18, 3) := by decide +kernel
theorem dX3_keep_18 : decode cX3_keep 18 = .ok (.iconst 1, 1) := by decide +kernel
theorem dX3_keep_19 : decode cX3_keep 19 = .ok (.iadd, 1) := by decide +kernel
theorem dX3_keep_20 : decode cX3_keep 20 = .ok (.bipush 6, 2) := by decide +kernel
theorem dX3_keep_22 : decode cX3_keep 22 = .ok (.if_icmp .ge 12, 3) := by decide +kernel
theorem dX3_keep_25 : decode cX3_keep 25 = .ok (.aload_n 0, 1) := by decide +kernel
theorem dX3_keep_26 : decode cX3_keep 26 = .ok (.getfield 18, 3) := by decide +kernel
theorem dX3_keep_29 : decode cX3_keep 29 = .ok (.iconst 1, 1) := by decide +kernel
theorem dX3_keep_30 : decode cX3_keep 30 = .ok (.iadd, 1) := by decide +kernel
theorem dX3_keep_31 : decode cX3_keep 31 = .ok (.goto 4, 3) := by decide +kernel
theorem dX3_keep_34 : decode cX3_keep 34 = .ok (.iconst 0, 1) := by decide +kernel
theorem dX3_keep_35 : decode cX3_keep 35 = .ok (.putfield 18, 3) := by decide +kernel
theorem dX3_keep_38 : decode cX3_keep 38 = .ok (.aload_n 0, 1) := by decide +kernel
theorem dX3_keep_39 : decode cX3_keep 39 = .ok (.aload_n 0, 1) := by decide +kernel
theorem dX3_keep_40 : decode cX3_keep 40 = .ok (.getfield 26, 3) := by decide +kernel
theorem dX3_keep_43 : decode cX3_keep 43 = .ok (.iconst 1, 1) := by decide +kernel
theorem dX3_keep_44 : decode cX3_keep 44 = .ok (.iadd, 1) := by decide +kernel
theorem dX3_keep_45 : decode cX3_keep 45 = .ok (.bipush 6, 2) := by decide +kernel
theorem dX3_keep_47 : decode cX3_keep 47 = .ok (.invokestatic 29, 3) := by decide +kernel
theorem dX3_keep_50 : decode cX3_keep 50 = .ok (.putfield 26, 3) := by decide +kernel
theorem dX3_keep_53 : decode cX3_keep 53 = .ok (.return_, 1) := by decide +kernel
theorem dX3_takeBack_0 : decode cX3_takeBack 0 = .ok (.aload_n 0, 1) := by decide +kernel
theorem dX3_takeBack_1 : decode cX3_takeBack 1 = .ok (.getfield 26, 3) := by decide +kernel
theorem dX3_takeBack_4 : decode cX3_takeBack 4 = .ok (.ifCond .ne 5, 3) := by decide +kernel
theorem dX3_takeBack_7 : decode cX3_takeBack 7 = .ok (.iconst 0, 1) := by decide +kernel
theorem dX3_takeBack_8 : decode cX3_takeBack 8 = .ok (.ireturn, 1) := by decide +kernel
theorem dX3_takeBack_9 : decode cX3_takeBack 9 = .ok (.aload_n 0, 1) := by decide +kernel
theorem dX3_takeBack_10 : decode cX3_takeBack 10 = .ok (.aload_n 0, 1) := by decide +kernel
theorem dX3_takeBack_11 : decode cX3_takeBack 11 = .ok (.getfield 18, 3) := by decide +kernel
theorem dX3_takeBack_14 : decode cX3_takeBack 14 = .ok (.ifCond .le 12, 3) := by decide +kernel
theorem dX3_takeBack_17 : decode cX3_takeBack 17 = .ok (.aload_n 0, 1) := by decide +kernel
theorem dX3_takeBack_18 : decode cX3_takeBack 18 = .ok (.getfield 18, 3) := by decide +kernel
theorem dX3_takeBack_21 : decode cX3_takeBack 21 = .ok (.iconst 1, 1) := by decide +kernel
theorem dX3_takeBack_22 : decode cX3_takeBack 22 = .ok (.isub, 1) := by decide +kernel
theorem dX3_takeBack_23 : decode cX3_takeBack 23 = .ok (.goto 4, 3) := by decide +kernel
theorem dX3_takeBack_26 : decode cX3_takeBack 26 = .ok (.iconst 5, 1) := by decide +kernel
theorem dX3_takeBack_27 : decode cX3_takeBack 27 = .ok (.putfield 18, 3) := by decide +kernel
theorem dX3_takeBack_30 : decode cX3_takeBack 30 = .ok (.aload_n 1, 1) := by decide +kernel
theorem dX3_takeBack_31 : decode cX3_takeBack 31 = .ok (.aload_n 0, 1) := by decide +kernel
theorem dX3_takeBack_32 : decode cX3_takeBack 32 = .ok (.getfield 11, 3) := by decide +kernel
theorem dX3_takeBack_35 : decode cX3_takeBack 35 = .ok (.aload_n 0, 1) := by decide +kernel
theorem dX3_takeBack_36 : decode cX3_takeBack 36 = .ok (.getfield 18, 3) := by decide +kernel
theorem dX3_takeBack_39 : decode cX3_takeBack 39 = .ok (.aaload, 1) := by decide +kernel
theorem dX3_takeBack_40 : decode cX3_takeBack 40 = .ok (.invokevirtual 22, 3) := by decide +kernel
theorem dX3_takeBack_43 : decode cX3_takeBack 43 = .ok (.aload_n 0, 1) := by decide +kernel
theorem dX3_takeBack_44 : decode cX3_takeBack 44 = .ok (.dup, 1) := by decide +kernel
theorem dX3_takeBack_45 : decode cX3_takeBack 45 = .ok (.getfield 26, 3) := by decide +kernel
theorem dX3_takeBack_48 : decode cX3_takeBack 48 = .ok (.iconst 1, 1) := by decide +kernel
theorem dX3_takeBack_49 : decode cX3_takeBack 49 = .ok (.isub, 1) := by decide +kernel
theorem dX3_takeBack_50 : decode cX3_takeBack 50 = .ok (.putfield 26, 3) := by decide +kernel
theorem dX3_takeBack_53 : decode cX3_takeBack 53 = .ok (.iconst 1, 1) := by decide +kernel
theorem dX3_takeBack_54 : decode cX3_takeBack 54 = .ok (.ireturn, 1) := by decide +kernel
theorem dX3_forget_0 : decode cX3_forget 0 = .ok (.aload_n 0, 1) := by decide +kernel
theorem dX3_forget_1 : decode cX3_forget 1 = .ok (.iconst 0, 1) := by decide +kernel
theorem dX3_forget_2 : decode cX3_forget 2 = .ok (.putfield 26, 3) := by decide +kernel
theorem dX3_forget_5 : decode cX3_forget 5 = .ok (.return_, 1) := by decide +kernel
theorem dX4_init_0 : decode cX4_init 0 = .ok (.aload_n 0, 1) := by decide +kernel
theorem dX4_init_1 : decode cX4_init 1 = .ok (.invokespecial 3, 3) := by decide +kernel
theorem dX4_init_4 : decode cX4_init 4 = .ok (.aload_n 0, 1) := by decide +kernel
theorem dX4_init_5 : decode cX4_init 5 = .ok (.iconst (-1), 1) := by decide +kernel
theorem dX4_init_6 : decode cX4_init 6 = .ok (.putfield 9, 3) := by decide +kernel
theorem dX4_init_9 : decode cX4_init 9 = .ok (.return_, 1) := by decide +kernel
theorem dX4_copyFrom_0 : decode cX4_copyFrom 0 = .ok (.aload_n 0, 1) := by decide +kernel
theorem dX4_copyFrom_1 : decode cX4_copyFrom 1 = .ok (.aload_n 1, 1) := by decide +kernel
theorem dX4_copyFrom_2 : decode cX4_copyFrom 2 = .ok (.getfield 15, 3) := by decide +kernel
theorem dX4_copyFrom_5 : decode cX4_copyFrom 5 = .ok (.putfield 15, 3) := by decide +kernel
theorem dX4_copyFrom_8 : decode cX4_copyFrom 8 = .ok (.aload_n 0, 1) := by decide +kernel
theorem dX4_copyFrom_9 : decode cX4_copyFrom 9 = .ok (.aload_n 1, 1) := by decide +kernel
theorem dX4_copyFrom_10 : decode cX4_copyFrom 10 = .ok (.getfield 18, 3) := by decide +kernel
theorem dX4_copyFrom_13 : decode cX4_copyFrom 13 = .ok (.putfield 18, 3) := by decide +kernel
theorem dX4_copyFrom_16 : decode cX4_copyFrom 16 = .ok (.aload_n 0, 1) := by decide +kernel
theorem dX4_copyFrom_17 : decode cX4_copyFrom 17 = .ok (.aload_n 1, 1) := by decide +kernel
theorem dX4_copyFrom_18 : decode cX4_copyFrom 18 = .ok (.getfield 21, 3) := by decide +kernel
theorem dX4_copyFrom_21 : decode cX4_copyFrom 21 = .ok (.putfield 21, 3) := by decide +kernel
theorem dX4_copyFrom_24 : decode cX4_copyFrom 24 = .ok (.aload_n 0, 1) := by decide +kernel
theorem dX4_copyFrom_25 : decode cX4_copyFrom 25 = .ok (.aload_n 1, 1) := by decide +kernel
theorem dX4_copyFrom_26 : decode cX4_copyFrom 26 = .ok (.getfield 24, 3) := by decide +kernel
theorem dX4_copyFrom_29 : decode cX4_copyFrom 29 = .ok (.putfield 24, 3) := by decide +kernel
theorem dX4_copyFrom_32 : decode cX4_copyFrom 32 = .ok (.aload_n 0, 1) := by decide +kernel
theorem dX4_copyFrom_33 : decode cX4_copyFrom 33 = .ok (.aload_n 1, 1) := by decide +kernel
theorem dX4_copyFrom_34 : decode cX4_copyFrom 34 = .ok (.getfield 9, 3) := by decide +kernel
theorem dX4_copyFrom_37 : decode cX4_copyFrom 37 = .ok (.putfield 9, 3) := by decide +kernel
theorem dX4_copyFrom_40 : decode cX4_copyFrom 40 = .ok (.aload_n 0, 1) := by decide +kernel
theorem dX4_copyFrom_41 : decode cX4_copyFrom 41 = .ok (.aload_n 1, 1) := by decide +kernel
theorem dX4_copyFrom_42 : decode cX4_copyFrom 42 = .ok (.getfield 27, 3) := by decide +kernel
theorem dX4_copyFrom_45 : decode cX4_copyFrom 45 = .ok (.putfield 27, 3) := by decide +kernel
theorem dX4_copyFrom_48 : decode cX4_copyFrom 48 = .ok (.return_, 1) := by decide +kernel
theorem dX5_init_0 : decode cX5_init 0 = .ok (.aload_n 0, 1) := by decide +kernel
theorem dX5_init_1 : decode cX5_init 1 = .ok (.invokespecial 3, 3) := by decide +kernel
theorem dX5_init_4 : decode cX5_init 4 = .ok (.aload_n 0, 1) := by decide +kernel
theorem dX5_init_5 : decode cX5_init 5 = .ok (.new 9, 3) := by decide +kernel
theorem dX5_init_8 : decode cX5_init 8 = .ok (.dup, 1) := by decide +kernel
theorem dX5_init_9 : decode cX5_init 9 = .ok (.invokespecial 11, 3) := by decide +kernel
theorem dX5_init_12 : decode cX5_init 12 = .ok (.putfield 12, 3) := by decide +kernel
theorem dX5_init_15 : decode cX5_init 15 = .ok (.aload_n 0, 1) := by decide +kernel
theorem dX5_init_16 : decode cX5_init 16 = .ok (.sipush 324, 3) := by decide +kernel
theorem dX5_init_19 : decode cX5_init 19 = .ok (.newarray .int, 2) := by decide +kernel
theorem dX5_init_21 : decode cX5_init 21 = .ok (.putfield 18, 3) := by decide +kernel
theorem dX5_init_24 : decode cX5_init 24 = .ok (.aload_n 0, 1) := by decide +kernel
theorem dX5_init_25 : decode cX5_init 25 = .ok (.iconst 4, 1) := by decide +kernel
theorem dX5_init_26 : decode cX5_init 26 = .ok (.newarray .int, 2) := by decide +kernel
theorem dX5_init_28 : decode cX5_init 28 = .ok (.putfield 22, 3) := by decide +kernel
theorem dX5_init_31 : decode cX5_init 31 = .ok (.return_, 1) := by decide +kernel
theorem dX5_hasWay_0 : decode cX5_hasWay 0 = .ok (.iload_n 2, 1) := by decide +kernel
theorem dX5_hasWay_1 : decode cX5_hasWay 1 = .ok (.ifCond .lt 36, 3) := by decide +kernel
theorem dX5_hasWay_4 : decode cX5_hasWay 4 = .ok (.iload_n 2, 1) := by decide +kernel
theorem dX5_hasWay_5 : decode cX5_hasWay 5 = .ok (.aload_n 1, 1) := by decide +kernel
theorem dX5_hasWay_6 : decode cX5_hasWay 6 = .ok (.getfield 25, 3) := by decide +kernel
theorem dX5_hasWay_9 : decode cX5_hasWay 9 = .ok (.if_icmp .ge 28, 3) := by decide +kernel
theorem dX5_hasWay_12 : decode cX5_hasWay 12 = .ok (.aload_n 0, 1) := by decide +kernel
theorem dX5_hasWay_13 : decode cX5_hasWay 13 = .ok (.getfield 12, 3) := by decide +kernel
theorem dX5_hasWay_16 : decode cX5_hasWay 16 = .ok (.aload_n 1, 1) := by decide +kernel
theorem dX5_hasWay_17 : decode cX5_hasWay 17 = .ok (.getfield 31, 3) := by decide +kernel
theorem dX5_hasWay_20 : decode cX5_hasWay 20 = .ok (.aload_n 1, 1) := by decide +kernel
theorem dX5_hasWay_21 : decode cX5_hasWay 21 = .ok (.getfield 35, 3) := by decide +kernel
theorem dX5_hasWay_24 : decode cX5_hasWay 24 = .ok (.iload_n 2, 1) := by decide +kernel
theorem dX5_hasWay_25 : decode cX5_hasWay 25 = .ok (.aaload, 1) := by decide +kernel
theorem dX5_hasWay_26 : decode cX5_hasWay 26 = .ok (.invokevirtual 39, 3) := by decide +kernel
theorem dX5_hasWay_29 : decode cX5_hasWay 29 = .ok (.iconst (-1), 1) := by decide +kernel
theorem dX5_hasWay_30 : decode cX5_hasWay 30 = .ok (.if_icmp .eq 7, 3) := by decide +kernel
theorem dX5_hasWay_33 : decode cX5_hasWay 33 = .ok (.iconst 1, 1) := by decide +kernel
theorem dX5_hasWay_34 : decode cX5_hasWay 34 = .ok (.goto 4, 3) := by decide +kernel
theorem dX5_hasWay_37 : decode cX5_hasWay 37 = .ok (.iconst 0, 1) := by decide +kernel
theorem dX5_hasWay_38 : decode cX5_hasWay 38 = .ok (.ireturn, 1) := by decide +kernel
theorem dX5_admitsNow_0 : decode cX5_admitsNow 0 = .ok (.aload_n 0, 1) := by decide +kernel
theorem dX5_admitsNow_1 : decode cX5_admitsNow 1 = .ok (.aload_n 1, 1) := by decide +kernel
theorem dX5_admitsNow_2 : decode cX5_admitsNow 2 = .ok (.invokevirtual 43, 3) := by decide +kernel
theorem dX5_admitsNow_5 : decode cX5_admitsNow 5 = .ok (.aload_n 0, 1) := by decide +kernel
theorem dX5_admitsNow_6 : decode cX5_admitsNow 6 = .ok (.aload_n 1, 1) := by decide +kernel
theorem dX5_admitsNow_7 : decode cX5_admitsNow 7 = .ok (.iload_n 2, 1) := by decide +kernel
theorem dX5_admitsNow_8 : decode cX5_admitsNow 8 = .ok (.iload_n 3, 1) := by decide +kernel
theorem dX5_admitsNow_9 : decode cX5_admitsNow 9 = .ok (.iload 4, 2) := by decide +kernel
theorem dX5_admitsNow_11 : decode cX5_admitsNow 11 = .ok (.invokevirtual 47, 3) := by decide +kernel
theorem dX5_admitsNow_14 : decode cX5_admitsNow 14 = .ok (.ireturn, 1) := by decide +kernel
theorem dX5_mayBuild_0 : decode cX5_mayBuild 0 = .ok (.aload_n 1, 1) := by decide +kernel
theorem dX5_mayBuild_1 : decode cX5_mayBuild 1 = .ok (.invokevirtual 51, 3) := by decide +kernel
theorem dX5_mayBuild_4 : decode cX5_mayBuild 4 = .ok (.ifCond .ne 34, 3) := by decide +kernel
theorem dX5_mayBuild_7 : decode cX5_mayBuild 7 = .ok (.aload_n 1, 1) := by decide +kernel
theorem dX5_mayBuild_8 : decode cX5_mayBuild 8 = .ok (.getfield 35, 3) := by decide +kernel
theorem dX5_mayBuild_11 : decode cX5_mayBuild 11 = .ok (.aload_n 1, 1) := by decide +kernel
theorem dX5_mayBuild_12 : decode cX5_mayBuild 12 = .ok (.getfield 55, 3) := by decide +kernel
theorem dX5_mayBuild_15 : decode cX5_mayBuild 15 = .ok (.aaload, 1) := by decide +kernel
theorem dX5_mayBuild_16 : decode cX5_mayBuild 16 = .ok (.getfield 58, 3) := by decide +kernel
theorem dX5_mayBuild_19 : decode cX5_mayBuild 19 = .ok (.ifCond .le 19, 3) := by decide +kernel
theorem dX5_mayBuild_22 : decode cX5_mayBuild 22 = .ok (.aload_n 0, 1) := by decide +kernel
theorem dX5_mayBuild_23 : decode cX5_mayBuild 23 = .ok (.aload_n 1, 1) := by decide +kernel
theorem dX5_mayBuild_24 : decode cX5_mayBuild 24 = .ok (.iload_n 2, 1) := by decide +kernel
theorem dX5_mayBuild_25 : decode cX5_mayBuild 25 = .ok (.iload_n 3, 1) := by decide +kernel
theorem dX5_mayBuild_26 : decode cX5_mayBuild 26 = .ok (.iload 4, 2) := by decide +kernel
theorem dX5_mayBuild_28 : decode cX5_mayBuild 28 = .ok (.invokevirtual 63, 3) := by decide +kernel
theorem dX5_mayBuild_31 : decode cX5_mayBuild 31 = .ok (.ifCond .eq 7, 3) := by decide +kernel
theorem dX5_mayBuild_34 : decode cX5_mayBuild 34 = .ok (.iconst 1, 1) := by decide +kernel
theorem dX5_mayBuild_35 : decode cX5_mayBuild 35 = .ok (.goto 4, 3) := by decide +kernel
theorem dX5_mayBuild_38 : decode cX5_mayBuild 38 = .ok (.iconst 0, 1) := by decide +kernel
theorem dX5_mayBuild_39 : decode cX5_mayBuild 39 = .ok (.ireturn, 1) := by decide +kernel
theorem dX5_markTrails_0 : decode cX5_markTrails 0 = .ok (.aload_n 0, 1) := by decide +kernel
theorem dX5_markTrails_1 : decode cX5_markTrails 1 = .ok (.getfield 18, 3) := by decide +kernel
theorem dX5_markTrails_4 : decode cX5_markTrails 4 = .ok (.iconst 0, 1) := by decide +kernel
theorem dX5_markTrails_5 : decode cX5_markTrails 5 = .ok (.invokestatic 74, 3) := by decide +kernel
theorem dX5_markTrails_8 : decode cX5_markTrails 8 = .ok (.iconst 0, 1) := by decide +kernel
theorem dX5_markTrails_9 : decode cX5_markTrails 9 = .ok (.istore_n 2, 1) := by decide +kernel
theorem dX5_markTrails_10 : decode cX5_markTrails 10 = .ok (.iload_n 2, 1) := by decide +kernel
theorem dX5_markTrails_11 : decode cX5_markTrails 11 = .ok (.aload_n 1, 1) := by decide +kernel
theorem dX5_markTrails_12 : decode cX5_markTrails 12 = .ok (.getfield 25, 3) := by decide +kernel
theorem dX5_markTrails_15 : decode cX5_markTrails 15 = .ok (.if_icmp .ge 51, 3) := by decide +kernel
theorem dX5_markTrails_18 : decode cX5_markTrails 18 = .ok (.aload_n 0, 1) := by decide +kernel
theorem dX5_markTrails_19 : decode cX5_markTrails 19 = .ok (.getfield 22, 3) := by decide +kernel
theorem dX5_markTrails_22 : decode cX5_markTrails 22 = .ok (.iload_n 2, 1) := by decide +kernel
theorem dX5_markTrails_23 : decode cX5_markTrails 23 = .ok (.aload_n 0, 1) := by decide +kernel
theorem dX5_markTrails_24 : decode cX5_markTrails 24 = .ok (.getfield 12, 3) := by decide +kernel
theorem dX5_markTrails_27 : decode cX5_markTrails 27 = .ok (.aload_n 1, 1) := by decide +kernel
theorem dX5_markTrails_28 : decode cX5_markTrails 28 = .ok (.getfield 31, 3) := by decide +kernel
theorem dX5_markTrails_31 : decode cX5_markTrails 31 = .ok (.aload_n 1, 1) := by decide +kernel
theorem dX5_markTrails_32 : decode cX5_markTrails 32 = .ok (.getfield 35, 3) := by decide +kernel
theorem dX5_markTrails_35 : decode cX5_markTrails 35 = .ok (.iload_n 2, 1) := by decide +kernel
theorem dX5_markTrails_36 : decode cX5_markTrails 36 = .ok (.aaload, 1) := by decide +kernel
theorem dX5_markTrails_37 : decode cX5_markTrails 37 = .ok (.getfield 80, 3) := by decide +kernel
theorem dX5_markTrails_40 : decode cX5_markTrails 40 = .ok (.iconst (-1), 1) := by decide +kernel
theorem dX5_markTrails_41 : decode cX5_markTrails 41 = .ok (.aload_n 1, 1) := by decide +kernel
theorem dX5_markTrails_42 : decode cX5_markTrails 42 = .ok (.getfield 35, 3) := by decide +kernel
theorem dX5_markTrails_45 : decode cX5_markTrails 45 = .ok (.iload_n 2, 1) := by decide +kernel
theorem dX5_markTrails_46 : decode cX5_markTrails 46 = .ok (.aaload, 1) := by decide +kernel
theorem dX5_markTrails_47 : decode cX5_markTrails 47 = .ok (.getfield 83, 3) := by decide +kernel
theorem dX5_markTrails_50 : decode cX5_markTrails 50 = .ok (.invokevirtual 86, 3) := by decide +kernel
theorem dX5_markTrails_53 : decode cX5_markTrails 53 = .ok (.iastore, 1) := by decide +kernel
theorem dX5_markTrails_54 : decode cX5_markTrails 54 = .ok (.aload_n 0, 1) := by decide +kernel
theorem dX5_markTrails_55 : decode cX5_markTrails 55 = .ok (.aload_n 1, 1) := by decide +kernel
theorem dX5_markTrails_56 : decode cX5_markTrails 56 = .ok (.iload_n 2, 1) := by decide +kernel
theorem dX5_markTrails_57 : decode cX5_markTrails 57 = .ok (.invokevirtual 90, 3) := by decide +kernel
theorem dX5_markTrails_60 : decode cX5_markTrails 60 = .ok (.iinc 2 1, 3) := by decide +kernel
theorem dX5_markTrails_63 : decode cX5_markTrails 63 = .ok (.goto (-53), 3) := by decide +kernel
theorem dX5_markTrails_66 : decode cX5_markTrails 66 = .ok (.return_, 1) := by decide +kernel
theorem dX5_markTrail_0 : decode cX5_markTrail 0 = .ok (.aload_n 1, 1) := by decide +kernel
theorem dX5_markTrail_1 : decode cX5_markTrail 1 = .ok (.getfield 35, 3) := by decide +kernel
theorem dX5_markTrail_4 : decode cX5_markTrail 4 = .ok (.iload_n 2, 1) := by decide +kernel
theorem dX5_markTrail_5 : decode cX5_markTrail 5 = .ok (.aaload, 1) := by decide +kernel
theorem dX5_markTrail_6 : decode cX5_markTrail 6 = .ok (.getfield 83, 3) := by decide +kernel
theorem dX5_markTrail_9 : decode cX5_markTrail 9 = .ok (.istore_n 3, 1) := by decide +kernel
theorem dX5_markTrail_10 : decode cX5_markTrail 10 = .ok (.aload_n 0, 1) := by decide +kernel
theorem dX5_markTrail_11 : decode cX5_markTrail 11 = .ok (.getfield 22, 3) := by decide +kernel
theorem dX5_markTrail_14 : decode cX5_markTrail 14 = .ok (.iload_n 2, 1) := by decide +kernel
theorem dX5_markTrail_15 : decode cX5_markTrail 15 = .ok (.iaload, 1) := by decide +kernel
theorem dX5_markTrail_16 : decode cX5_markTrail 16 = .ok (.istore 4, 2) := by decide +kernel
theorem dX5_markTrail_18 : decode cX5_markTrail 18 = .ok (.iload 4, 2) := by decide +kernel
theorem dX5_markTrail_20 : decode cX5_markTrail 20 = .ok (.ifCond .le 95, 3) := by decide +kernel
theorem dX5_markTrail_23 : decode cX5_markTrail 23 = .ok (.iconst 0, 1) := by decide +kernel
theorem dX5_markTrail_24 : decode cX5_markTrail 24 = .ok (.istore 5, 2) := by decide +kernel
theorem dX5_markTrail_26 : decode cX5_markTrail 26 = .ok (.iload 5, 2) := by decide +kernel
theorem dX5_markTrail_28 : decode cX5_markTrail 28 = .ok (.iconst 4, 1) := by decide +kernel
theorem dX5_markTrail_29 : decode cX5_markTrail 29 = .ok (.if_icmp .ge 26, 3) := by decide +kernel
theorem dX5_markTrail_32 : decode cX5_markTrail 32 = .ok (.aload_n 0, 1) := by decide +kernel
theorem dX5_markTrail_33 : decode cX5_markTrail 33 = .ok (.getfield 12, 3) := by decide +kernel
theorem dX5_markTrail_36 : decode cX5_markTrail 36 = .ok (.aload_n 1, 1) := by decide +kernel
theorem dX5_markTrail_37 : decode cX5_markTrail 37 = .ok (.getfield 31, 3) := by decide +kernel
theorem dX5_markTrail_40 : decode cX5_markTrail 40 = .ok (.iload_n 3, 1) := by decide +kernel
theorem dX5_markTrail_41 : decode cX5_markTrail 41 = .ok (.iload 5, 2) := by decide +kernel
theorem dX5_markTrail_43 : decode cX5_markTrail 43 = .ok (.invokevirtual 94, 3) := by decide +kernel
theorem dX5_markTrail_46 : decode cX5_markTrail 46 = .ok (.ifCond .ne 9, 3) := by decide +kernel
theorem dX5_markTrail_49 : decode cX5_markTrail 49 = .ok (.iinc 5 1, 3) := by decide +kernel
theorem dX5_markTrail_52 : decode cX5_markTrail 52 = .ok (.goto (-26), 3) := by decide +kernel
theorem dX5_markTrail_55 : decode cX5_markTrail 55 = .ok (.iload 5, 2) := by decide +kernel
theorem dX5_markTrail_57 : decode cX5_markTrail 57 = .ok (.iconst 4, 1) := by decide +kernel
theorem dX5_markTrail_58 : decode cX5_markTrail 58 = .ok (.if_icmp .ne 4, 3) := by decide +kernel
theorem dX5_markTrail_61 : decode cX5_markTrail 61 = .ok (.return_, 1) := by decide +kernel
theorem dX5_markTrail_62 : decode cX5_markTrail 62 = .ok (.aload_n 0, 1) := by decide +kernel
theorem dX5_markTrail_63 : decode cX5_markTrail 63 = .ok (.getfield 18, 3) := by decide +kernel
theorem dX5_markTrail_66 : decode cX5_markTrail 66 = .ok (.iload_n 2, 1) := by decide +kernel
theorem dX5_markTrail_67 : decode cX5_markTrail 67 = .ok (.bipush 81, 2) := by decide +kernel
theorem dX5_markTrail_69 : decode cX5_markTrail 69 = .ok (.imul, 1) := by decide +kernel
theorem dX5_markTrail_70 : decode cX5_markTrail 70 = .ok (.iload_n 3, 1) := by decide +kernel
theorem dX5_markTrail_71 : decode cX5_markTrail 71 = .ok (.iadd, 1) := by decide +kernel
theorem dX5_markTrail_72 : decode cX5_markTrail 72 = .ok (.dup2, 1) := by decide +kernel
theorem dX5_markTrail_73 : decode cX5_markTrail 73 = .ok (.iaload, 1) := by decide +kernel
theorem dX5_markTrail_74 : decode cX5_markTrail 74 = .ok (.iconst 1, 1) := by decide +kernel
theorem dX5_markTrail_75 : decode cX5_markTrail 75 = .ok (.iload 5, 2) := by decide +kernel
theorem dX5_markTrail_77 : decode cX5_markTrail 77 = .ok (.ishl, 1) := by decide +kernel
theorem dX5_markTrail_78 : decode cX5_markTrail 78 = .ok (.ior, 1) := by decide +kernel
theorem dX5_markTrail_79 : decode cX5_markTrail 79 = .ok (.iastore, 1) := by decide +kernel
theorem dX5_markTrail_80 : decode cX5_markTrail 80 = .ok (.iload_n 3, 1) := by decide +kernel
theorem dX5_markTrail_81 : decode cX5_markTrail 81 = .ok (.getstatic 98, 3) := by decide +kernel
theorem dX5_markTrail_84 : decode cX5_markTrail 84 = .ok (.iload 5, 2) := by decide +kernel
theorem dX5_markTrail_86 : decode cX5_markTrail 86 = .ok (.iaload, 1) := by decide +kernel
theorem dX5_markTrail_87 : decode cX5_markTrail 87 = .ok (.iadd, 1) := by decide +kernel
theorem dX5_markTrail_88 : decode cX5_markTrail 88 = .ok (.istore_n 3, 1) := by decide +kernel
theorem dX5_markTrail_89 : decode cX5_markTrail 89 = .ok (.aload_n 0, 1) := by decide +kernel
theorem dX5_markTrail_90 : decode cX5_markTrail 90 = .ok (.getfield 18, 3) := by decide +kernel
theorem dX5_markTrail_93 : decode cX5_markTrail 93 = .ok (.iload_n 2, 1) := by decide +kernel
theorem dX5_markTrail_94 : decode cX5_markTrail 94 = .ok (.bipush 81, 2) := by decide +kernel
theorem dX5_markTrail_96 : decode cX5_markTrail 96 = .ok (.imul, 1) := by decide +kernel
theorem dX5_markTrail_97 : decode cX5_markTrail 97 = .ok (.iload_n 3, 1) := by decide +kernel
theorem dX5_markTrail_98 : decode cX5_markTrail 98 = .ok (.iadd, 1) := by decide +kernel
theorem dX5_markTrail_99 : decode cX5_markTrail 99 = .ok (.dup2, 1) := by decide +kernel
theorem dX5_markTrail_100 : decode cX5_markTrail 100 = .ok (.iaload, 1) := by decide +kernel
theorem dX5_markTrail_101 : decode cX5_markTrail 101 = .ok (.iconst 1, 1) := by decide +kernel
theorem dX5_markTrail_102 : decode cX5_markTrail 102 = .ok (.iload 5, 2) := by decide +kernel
theorem dX5_markTrail_104 : decode cX5_markTrail 104 = .ok (.iconst 2, 1) := by decide +kernel
theorem dX5_markTrail_105 : decode cX5_markTrail 105 = .ok (.ixor, 1) := by decide +kernel
theorem dX5_markTrail_106 : decode cX5_markTrail 106 = .ok (.ishl, 1) := by decide +kernel
theorem dX5_markTrail_107 : decode cX5_markTrail 107 = .ok (.ior, 1) := by decide +kernel
theorem dX5_markTrail_108 : decode cX5_markTrail 108 = .ok (.iastore, 1) := by decide +kernel
theorem dX5_markTrail_109 : decode cX5_markTrail 109 = .ok (.iinc 4 (-1), 3) := by decide +kernel
theorem dX5_markTrail_112 : decode cX5_markTrail 112 = .ok (.goto (-94), 3) := by decide +kernel
theorem dX5_markTrail_115 : decode cX5_markTrail 115 = .ok (.return_, 1) := by decide +kernel
theorem dX5_cutsTrail_0 : decode cX5_cutsTrail 0 = .ok (.iload_n 1, 1) := by decide +kernel
theorem dX5_cutsTrail_1 : decode cX5_cutsTrail 1 = .ok (.bipush 81, 2) := by decide +kernel
theorem dX5_cutsTrail_3 : decode cX5_cutsTrail 3 = .ok (.imul, 1) := by decide +kernel
theorem dX5_cutsTrail_4 : decode cX5_cutsTrail 4 = .ok (.iload_n 3, 1) := by decide +kernel
theorem dX5_cutsTrail_5 : decode cX5_cutsTrail 5 = .ok (.bipush 9, 2) := by decide +kernel
theorem dX5_cutsTrail_7 : decode cX5_cutsTrail 7 = .ok (.imul, 1) := by decide +kernel
theorem dX5_cutsTrail_8 : decode cX5_cutsTrail 8 = .ok (.iadd, 1) := by decide +kernel
theorem dX5_cutsTrail_9 : decode cX5_cutsTrail 9 = .ok (.iload_n 2, 1) := by decide +kernel
theorem dX5_cutsTrail_10 : decode cX5_cutsTrail 10 = .ok (.iadd, 1) := by decide +kernel
theorem dX5_cutsTrail_11 : decode cX5_cutsTrail 11 = .ok (.istore 5, 2) := by decide +kernel
theorem dX5_cutsTrail_13 : decode cX5_cutsTrail 13 = .ok (.iload 4, 2) := by decide +kernel
theorem dX5_cutsTrail_15 : decode cX5_cutsTrail 15 = .ok (.ifCond .ne 15, 3) := by decide +kernel
theorem dX5_cutsTrail_18 : decode cX5_cutsTrail 18 = .ok (.aload_n 0, 1) := by decide +kernel
theorem dX5_cutsTrail_19 : decode cX5_cutsTrail 19 = .ok (.getfield 18, 3) := by decide +kernel
theorem dX5_cutsTrail_22 : decode cX5_cutsTrail 22 = .ok (.iload 5, 2) := by decide +kernel
theorem dX5_cutsTrail_24 : decode cX5_cutsTrail 24 = .ok (.iaload, 1) := by decide +kernel
theorem dX5_cutsTrail_25 : decode cX5_cutsTrail 25 = .ok (.iconst 0, 1) := by decide +kernel
theorem dX5_cutsTrail_26 : decode cX5_cutsTrail 26 = .ok (.ishr, 1) := by decide +kernel
theorem dX5_cutsTrail_27 : decode cX5_cutsTrail 27 = .ok (.goto 12, 3) := by decide +kernel
theorem dX5_cutsTrail_30 : decode cX5_cutsTrail 30 = .ok (.aload_n 0, 1) := by decide +kernel
theorem dX5_cutsTrail_31 : decode cX5_cutsTrail 31 = .ok (.getfield 18, 3) := by decide +kernel
theorem dX5_cutsTrail_34 : decode cX5_cutsTrail 34 = .ok (.iload 5, 2) := by decide +kernel
theorem dX5_cutsTrail_36 : decode cX5_cutsTrail 36 = .ok (.iaload, 1) := by decide +kernel
theorem dX5_cutsTrail_37 : decode cX5_cutsTrail 37 = .ok (.iconst 1, 1) := by decide +kernel
theorem dX5_cutsTrail_38 : decode cX5_cutsTrail 38 = .ok (.ishr, 1) := by decide +kernel
theorem dX5_cutsTrail_39 : decode cX5_cutsTrail 39 = .ok (.istore 6, 2) := by decide +kernel
theorem dX5_cutsTrail_41 : decode cX5_cutsTrail 41 = .ok (.iload 4, 2) := by decide +kernel
theorem dX5_cutsTrail_43 : decode cX5_cutsTrail 43 = .ok (.ifCond .ne 17, 3) := by decide +kernel
theorem dX5_cutsTrail_46 : decode cX5_cutsTrail 46 = .ok (.aload_n 0, 1) := by decide +kernel
theorem dX5_cutsTrail_47 : decode cX5_cutsTrail 47 = .ok (.getfield 18, 3) := by decide +kernel
theorem dX5_cutsTrail_50 : decode cX5_cutsTrail 50 = .ok (.iload 5, 2) := by decide +kernel
theorem dX5_cutsTrail_52 : decode cX5_cutsTrail 52 = .ok (.iconst 1, 1) := by decide +kernel
theorem dX5_cutsTrail_53 : decode cX5_cutsTrail 53 = .ok (.iadd, 1) := by decide +kernel
theorem dX5_cutsTrail_54 : decode cX5_cutsTrail 54 = .ok (.iaload, 1) := by decide +kernel
theorem dX5_cutsTrail_55 : decode cX5_cutsTrail 55 = .ok (.iconst 0, 1) := by decide +kernel
theorem dX5_cutsTrail_56 : decode cX5_cutsTrail 56 = .ok (.ishr, 1) := by decide +kernel
theorem dX5_cutsTrail_57 : decode cX5_cutsTrail 57 = .ok (.goto 15, 3) := by decide +kernel
theorem dX5_cutsTrail_60 : decode cX5_cutsTrail 60 = .ok (.aload_n 0, 1) := by decide +kernel
theorem dX5_cutsTrail_61 : decode cX5_cutsTrail 61 = .ok (.getfield 18, 3) := by decide +kernel
theorem dX5_cutsTrail_64 : decode cX5_cutsTrail 64 = .ok (.iload 5, 2) := by decide +kernel
theorem dX5_cutsTrail_66 : decode cX5_cutsTrail 66 = .ok (.bipush 9, 2) := by decide +kernel
theorem dX5_cutsTrail_68 : decode cX5_cutsTrail 68 = .ok (.iadd, 1) := by decide +kernel
theorem dX5_cutsTrail_69 : decode cX5_cutsTrail 69 = .ok (.iaload, 1) := by decide +kernel
theorem dX5_cutsTrail_70 : decode cX5_cutsTrail 70 = .ok (.iconst 1, 1) := by decide +kernel
theorem dX5_cutsTrail_71 : decode cX5_cutsTrail 71 = .ok (.ishr, 1) := by decide +kernel
theorem dX5_cutsTrail_72 : decode cX5_cutsTrail 72 = .ok (.istore 7, 2) := by decide +kernel
theorem dX5_cutsTrail_74 : decode cX5_cutsTrail 74 = .ok (.iload 6, 2) := by decide +kernel
theorem dX5_cutsTrail_76 : decode cX5_cutsTrail 76 = .ok (.iload 7, 2) := by decide +kernel
theorem dX5_cutsTrail_78 : decode cX5_cutsTrail 78 = .ok (.ior, 1) := by decide +kernel
theorem dX5_cutsTrail_79 : decode cX5_cutsTrail 79 = .ok (.iconst 1, 1) := by decide +kernel
theorem dX5_cutsTrail_80 : decode cX5_cutsTrail 80 = .ok (.iand, 1) := by decide +kernel
theorem dX5_cutsTrail_81 : decode cX5_cutsTrail 81 = .ok (.ifCond .eq 7, 3) := by decide +kernel
theorem dX5_cutsTrail_84 : decode cX5_cutsTrail 84 = .ok (.iconst 1, 1) := by decide +kernel
theorem dX5_cutsTrail_85 : decode cX5_cutsTrail 85 = .ok (.goto 4, 3) := by decide +kernel
theorem dX5_cutsTrail_88 : decode cX5_cutsTrail 88 = .ok (.iconst 0, 1) := by decide +kernel
theorem dX5_cutsTrail_89 : decode cX5_cutsTrail 89 = .ok (.ireturn, 1) := by decide +kernel
theorem dX5_admits_0 : decode cX5_admits 0 = .ok (.aload_n 1, 1) := by decide +kernel
theorem dX5_admits_1 : decode cX5_admits 1 = .ok (.getfield 31, 3) := by decide +kernel
theorem dX5_admits_4 : decode cX5_admits 4 = .ok (.iload_n 2, 1) := by decide +kernel
theorem dX5_admits_5 : decode cX5_admits 5 = .ok (.iload_n 3, 1) := by decide +kernel
theorem dX5_admits_6 : decode cX5_admits 6 = .ok (.iload 4, 2) := by decide +kernel
theorem dX5_admits_8 : decode cX5_admits 8 = .ok (.invokevirtual 101, 3) := by decide +kernel
theorem dX5_admits_11 : decode cX5_admits 11 = .ok (.ifCond .ne 5, 3) := by decide +kernel
theorem dX5_admits_14 : decode cX5_admits 14 = .ok (.iconst 0, 1) := by decide +kernel
theorem dX5_admits_15 : decode cX5_admits 15 = .ok (.ireturn, 1) := by decide +kernel
theorem dX5_admits_16 : decode cX5_admits 16 = .ok (.aload_n 1, 1) := by decide +kernel
theorem dX5_admits_17 : decode cX5_admits 17 = .ok (.getfield 31, 3) := by decide +kernel
theorem dX5_admits_20 : decode cX5_admits 20 = .ok (.iload_n 2, 1) := by decide +kernel
theorem dX5_admits_21 : decode cX5_admits 21 = .ok (.iload_n 3, 1) := by decide +kernel
theorem dX5_admits_22 : decode cX5_admits 22 = .ok (.iload 4, 2) := by decide +kernel
theorem dX5_admits_24 : decode cX5_admits 24 = .ok (.invokevirtual 105, 3) := by decide +kernel
theorem dX5_admits_27 : decode cX5_admits 27 = .ok (.iconst 1, 1) := by decide +kernel
theorem dX5_admits_28 : decode cX5_admits 28 = .ok (.istore 5, 2) := by decide +kernel
theorem dX5_admits_30 : decode cX5_admits 30 = .ok (.iconst 0, 1) := by decide +kernel
theorem dX5_admits_31 : decode cX5_admits 31 = .ok (.istore 6, 2) := by decide +kernel
theorem dX5_admits_33 : decode cX5_admits 33 = .ok (.iload 6, 2) := by decide +kernel
theorem dX5_admits_35 : decode cX5_admits 35 = .ok (.aload_n 1, 1) := by decide +kernel
theorem dX5_admits_36 : decode cX5_admits 36 = .ok (.getfield 25, 3) := by decide +kernel
theorem dX5_admits_39 : decode cX5_admits 39 = .ok (.if_icmp .ge 77, 3) := by decide +kernel
theorem dX5_admits_42 : decode cX5_admits 42 = .ok (.iload 5, 2) := by decide +kernel
theorem dX5_admits_44 : decode cX5_admits 44 = .ok (.ifCond .eq 72, 3) := by decide +kernel
theorem dX5_admits_47 : decode cX5_admits 47 = .ok (.aload_n 1, 1) := by decide +kernel
theorem dX5_admits_48 : decode cX5_admits 48 = .ok (.getfield 35, 3) := by decide +kernel
theorem dX5_admits_51 : decode cX5_admits 51 = .ok (.iload 6, 2) := by decide +kernel
theorem dX5_admits_53 : decode cX5_admits 53 = .ok (.aaload, 1) := by decide +kernel
theorem dX5_admits_54 : decode cX5_admits 54 = .ok (.astore 7, 2) := by decide +kernel
theorem dX5_admits_56 : decode cX5_admits 56 = .ok (.aload 7, 2) := by decide +kernel
theorem dX5_admits_58 : decode cX5_admits 58 = .ok (.getfield 109, 3) := by decide +kernel
theorem dX5_admits_61 : decode cX5_admits 61 = .ok (.ifCond .ne 49, 3) := by decide +kernel
theorem dX5_admits_64 : decode cX5_admits 64 = .ok (.aload_n 0, 1) := by decide +kernel
theorem dX5_admits_65 : decode cX5_admits 65 = .ok (.iload 6, 2) := by decide +kernel
theorem dX5_admits_67 : decode cX5_admits 67 = .ok (.iload_n 2, 1) := by decide +kernel
theorem dX5_admits_68 : decode cX5_admits 68 = .ok (.iload_n 3, 1) := by decide +kernel
theorem dX5_admits_69 : decode cX5_admits 69 = .ok (.iload 4, 2) := by decide +kernel
theorem dX5_admits_71 : decode cX5_admits 71 = .ok (.invokevirtual 112, 3) := by decide +kernel
theorem dX5_admits_74 : decode cX5_admits 74 = .ok (.ifCond .eq 36, 3) := by decide +kernel
theorem dX5_admits_77 : decode cX5_admits 77 = .ok (.aload_n 0, 1) := by decide +kernel
theorem dX5_admits_78 : decode cX5_admits 78 = .ok (.getfield 12, 3) := by decide +kernel
theorem dX5_admits_81 : decode cX5_admits 81 = .ok (.aload_n 1, 1) := by decide +kernel
theorem dX5_admits_82 : decode cX5_admits 82 = .ok (.getfield 31, 3) := by decide +kernel
theorem dX5_admits_85 : decode cX5_admits 85 = .ok (.aload 7, 2) := by decide +kernel
theorem dX5_admits_87 : decode cX5_admits 87 = .ok (.getfield 80, 3) := by decide +kernel
theorem dX5_admits_90 : decode cX5_admits 90 = .ok (.iconst (-1), 1) := by decide +kernel
theorem dX5_admits_91 : decode cX5_admits 91 = .ok (.aload 7, 2) := by decide +kernel
theorem dX5_admits_93 : decode cX5_admits 93 = .ok (.getfield 83, 3) := by decide +kernel
theorem dX5_admits_96 : decode cX5_admits 96 = .ok (.invokevirtual 86, 3) := by decide +kernel
theorem dX5_admits_99 : decode cX5_admits 99 = .ok (.iconst (-1), 1) := by decide +kernel
theorem dX5_admits_100 : decode cX5_admits 100 = .ok (.if_icmp .eq 7, 3) := by decide +kernel
theorem dX5_admits_103 : decode cX5_admits 103 = .ok (.iconst 1, 1) := by decide +kernel
theorem dX5_admits_104 : decode cX5_admits 104 = .ok (.goto 4, 3) := by decide +kernel
theorem dX5_admits_107 : decode cX5_admits 107 = .ok (.iconst 0, 1) := by decide +kernel
theorem dX5_admits_108 : decode cX5_admits 108 = .ok (.istore 5, 2) := by decide +kernel
theorem dX5_admits_110 : decode cX5_admits 110 = .ok (.iinc 6 1, 3) := by decide +kernel
theorem dX5_admits_113 : decode cX5_admits 113 = .ok (.goto (-80), 3) := by decide +kernel
theorem dX5_admits_116 : decode cX5_admits 116 = .ok (.aload_n 1, 1) := by decide +kernel
theorem dX5_admits_117 : decode cX5_admits 117 = .ok (.getfield 31, 3) := by decide +kernel
theorem dX5_admits_120 : decode cX5_admits 120 = .ok (.iload_n 2, 1) := by decide +kernel
theorem dX5_admits_121 : decode cX5_admits 121 = .ok (.iload_n 3, 1) := by decide +kernel
theorem dX5_admits_122 : decode cX5_admits 122 = .ok (.invokevirtual 116, 3) := by decide +kernel
theorem dX5_admits_125 : decode cX5_admits 125 = .ok (.iload 5, 2) := by decide +kernel
theorem dX5_admits_127 : decode cX5_admits 127 = .ok (.ireturn, 1) := by decide +kernel
theorem dX5_loss_0 : decode cX5_loss 0 = .ok (.aload_n 0, 1) := by decide +kernel
theorem dX5_loss_1 : decode cX5_loss 1 = .ok (.iload_n 2, 1) := by decide +kernel
theorem dX5_loss_2 : decode cX5_loss 2 = .ok (.iload_n 3, 1) := by decide +kernel
theorem dX5_loss_3 : decode cX5_loss 3 = .ok (.iload 4, 2) := by decide +kernel
theorem dX5_loss_5 : decode cX5_loss 5 = .ok (.iload 5, 2) := by decide +kernel
theorem dX5_loss_7 : decode cX5_loss 7 = .ok (.invokevirtual 112, 3) := by decide +kernel
theorem dX5_loss_10 : decode cX5_loss 10 = .ok (.ifCond .ne 5, 3) := by decide +kernel
theorem dX5_loss_13 : decode cX5_loss 13 = .ok (.iconst 0, 1) := by decide +kernel
theorem dX5_loss_14 : decode cX5_loss 14 = .ok (.ireturn, 1) := by decide +kernel
theorem dX5_loss_15 : decode cX5_loss 15 = .ok (.aload_n 1, 1) := by decide +kernel
theorem dX5_loss_16 : decode cX5_loss 16 = .ok (.getfield 31, 3) := by decide +kernel
theorem dX5_loss_19 : decode cX5_loss 19 = .ok (.iload_n 3, 1) := by decide +kernel
theorem dX5_loss_20 : decode cX5_loss 20 = .ok (.iload 4, 2) := by decide +kernel
theorem dX5_loss_22 : decode cX5_loss 22 = .ok (.iload 5, 2) := by decide +kernel
theorem dX5_loss_24 : decode cX5_loss 24 = .ok (.invokevirtual 105, 3) := by decide +kernel
theorem dX5_loss_27 : decode cX5_loss 27 = .ok (.aload_n 0, 1) := by decide +kernel
theorem dX5_loss_28 : decode cX5_loss 28 = .ok (.getfield 12, 3) := by decide +kernel
theorem dX5_loss_31 : decode cX5_loss 31 = .ok (.aload_n 1, 1) := by decide +kernel
theorem dX5_loss_32 : decode cX5_loss 32 = .ok (.getfield 31, 3) := by decide +kernel
theorem dX5_loss_35 : decode cX5_loss 35 = .ok (.aload_n 1, 1) := by decide +kernel
theorem dX5_loss_36 : decode cX5_loss 36 = .ok (.getfield 35, 3) := by decide +kernel
theorem dX5_loss_39 : decode cX5_loss 39 = .ok (.iload_n 2, 1) := by decide +kernel
theorem dX5_loss_40 : decode cX5_loss 40 = .ok (.aaload, 1) := by decide +kernel
theorem dX5_loss_41 : decode cX5_loss 41 = .ok (.getfield 80, 3) := by decide +kernel
theorem dX5_loss_44 : decode cX5_loss 44 = .ok (.iconst (-1), 1) := by decide +kernel
theorem dX5_loss_45 : decode cX5_loss 45 = .ok (.aload_n 1, 1) := by decide +kernel
theorem dX5_loss_46 : decode cX5_loss 46 = .ok (.getfield 35, 3) := by decide +kernel
theorem dX5_loss_49 : decode cX5_loss 49 = .ok (.iload_n 2, 1) := by decide +kernel
theorem dX5_loss_50 : decode cX5_loss 50 = .ok (.aaload, 1) := by decide +kernel
theorem dX5_loss_51 : decode cX5_loss 51 = .ok (.getfield 83, 3) := by decide +kernel
theorem dX5_loss_54 : decode cX5_loss 54 = .ok (.invokevirtual 86, 3) := by decide +kernel
theorem dX5_loss_57 : decode cX5_loss 57 = .ok (.istore 6, 2) := by decide +kernel
theorem dX5_loss_59 : decode cX5_loss 59 = .ok (.aload_n 1, 1) := by decide +kernel
theorem dX5_loss_60 : decode cX5_loss 60 = .ok (.getfield 31, 3) := by decide +kernel
theorem dX5_loss_63 : decode cX5_loss 63 = .ok (.iload_n 3, 1) := by decide +kernel
theorem dX5_loss_64 : decode cX5_loss 64 = .ok (.iload 4, 2) := by decide +kernel
theorem dX5_loss_66 : decode cX5_loss 66 = .ok (.invokevirtual 116, 3) := by decide +kernel
theorem dX5_loss_69 : decode cX5_loss 69 = .ok (.iload 6, 2) := by decide +kernel
theorem dX5_loss_71 : decode cX5_loss 71 = .ok (.aload_n 0, 1) := by decide +kernel
theorem dX5_loss_72 : decode cX5_loss 72 = .ok (.getfield 22, 3) := by decide +kernel
theorem dX5_loss_75 : decode cX5_loss 75 = .ok (.iload_n 2, 1) := by decide +kernel
theorem dX5_loss_76 : decode cX5_loss 76 = .ok (.iaload, 1) := by decide +kernel
theorem dX5_loss_77 : decode cX5_loss 77 = .ok (.isub, 1) := by decide +kernel
theorem dX5_loss_78 : decode cX5_loss 78 = .ok (.ireturn, 1) := by decide +kernel
theorem dX5_findBest_0 : decode cX5_findBest 0 = .ok (.aload_n 0, 1) := by decide +kernel
theorem dX5_findBest_1 : decode cX5_findBest 1 = .ok (.iconst (-1), 1) := by decide +kernel
theorem dX5_findBest_2 : decode cX5_findBest 2 = .ok (.putfield 120, 3) := by decide +kernel
theorem dX5_findBest_5 : decode cX5_findBest 5 = .ok (.aload_n 1, 1) := by decide +kernel
theorem dX5_findBest_6 : decode cX5_findBest 6 = .ok (.getfield 35, 3) := by decide +kernel
theorem dX5_findBest_9 : decode cX5_findBest 9 = .ok (.iload_n 2, 1) := by decide +kernel
theorem dX5_findBest_10 : decode cX5_findBest 10 = .ok (.aaload, 1) := by decide +kernel
theorem dX5_findBest_11 : decode cX5_findBest 11 = .ok (.getfield 109, 3) := by decide +kernel
theorem dX5_findBest_14 : decode cX5_findBest 14 = .ok (.ifCond .eq 5, 3) := by decide +kernel
theorem dX5_findBest_17 : decode cX5_findBest 17 = .ok (.iconst 0, 1) := by decide +kernel
theorem dX5_findBest_18 : decode cX5_findBest 18 = .ok (.ireturn, 1) := by decide +kernel
theorem dX5_findBest_19 : decode cX5_findBest 19 = .ok (.aload_n 0, 1) := by decide +kernel
theorem dX5_findBest_20 : decode cX5_findBest 20 = .ok (.aload_n 1, 1) := by decide +kernel
theorem dX5_findBest_21 : decode cX5_findBest 21 = .ok (.invokevirtual 43, 3) := by decide +kernel
theorem dX5_findBest_24 : decode cX5_findBest 24 = .ok (.iconst 0, 1) := by decide +kernel
theorem dX5_findBest_25 : decode cX5_findBest 25 = .ok (.istore_n 3, 1) := by decide +kernel
theorem dX5_findBest_26 : decode cX5_findBest 26 = .ok (.iload_n 3, 1) := by decide +kernel
theorem dX5_findBest_27 : decode cX5_findBest 27 = .ok (.aload_n 1, 1) := by decide +kernel
theorem dX5_findBest_28 : decode cX5_findBest 28 = .ok (.getfield 31, 3) := by decide +kernel
theorem dX5_findBest_31 : decode cX5_findBest 31 = .ok (.getfield 66, 3) := by decide +kernel
theorem dX5_findBest_34 : decode cX5_findBest 34 = .ok (.iconst 1, 1) := by decide +kernel
theorem dX5_findBest_35 : decode cX5_findBest 35 = .ok (.isub, 1) := by decide +kernel
theorem dX5_findBest_36 : decode cX5_findBest 36 = .ok (.if_icmp .ge 80, 3) := by decide +kernel
theorem dX5_findBest_39 : decode cX5_findBest 39 = .ok (.iconst 0, 1) := by decide +kernel
theorem dX5_findBest_40 : decode cX5_findBest 40 = .ok (.istore 4, 2) := by decide +kernel
theorem dX5_findBest_42 : decode cX5_findBest 42 = .ok (.iload 4, 2) := by decide +kernel
theorem dX5_findBest_44 : decode cX5_findBest 44 = .ok (.aload_n 1, 1) := by decide +kernel
theorem dX5_findBest_45 : decode cX5_findBest 45 = .ok (.getfield 31, 3) := by decide +kernel
theorem dX5_findBest_48 : decode cX5_findBest 48 = .ok (.getfield 71, 3) := by decide +kernel
theorem dX5_findBest_51 : decode cX5_findBest 51 = .ok (.iconst 1, 1) := by decide +kernel
theorem dX5_findBest_52 : decode cX5_findBest 52 = .ok (.isub, 1) := by decide +kernel
theorem dX5_findBest_53 : decode cX5_findBest 53 = .ok (.if_icmp .ge 57, 3) := by decide +kernel
theorem dX5_findBest_56 : decode cX5_findBest 56 = .ok (.iconst 0, 1) := by decide +kernel
theorem dX5_findBest_57 : decode cX5_findBest 57 = .ok (.istore 5, 2) := by decide +kernel
theorem dX5_findBest_59 : decode cX5_findBest 59 = .ok (.iload 5, 2) := by decide +kernel
theorem dX5_findBest_61 : decode cX5_findBest 61 = .ok (.iconst 1, 1) := by decide +kernel
theorem dX5_findBest_62 : decode cX5_findBest 62 = .ok (.if_icmp .gt 42, 3) := by decide +kernel
theorem dX5_findBest_65 : decode cX5_findBest 65 = .ok (.aload_n 0, 1) := by decide +kernel
theorem dX5_findBest_66 : decode cX5_findBest 66 = .ok (.aload_n 1, 1) := by decide +kernel
theorem dX5_findBest_67 : decode cX5_findBest 67 = .ok (.iload 4, 2) := by decide +kernel
theorem dX5_findBest_69 : decode cX5_findBest 69 = .ok (.iload_n 3, 1) := by decide +kernel
theorem dX5_findBest_70 : decode cX5_findBest 70 = .ok (.iload 5, 2) := by decide +kernel
theorem dX5_findBest_72 : decode cX5_findBest 72 = .ok (.invokevirtual 47, 3) := by decide +kernel
theorem dX5_findBest_75 : decode cX5_findBest 75 = .ok (.ifCond .eq 23, 3) := by decide +kernel
theorem dX5_findBest_78 : decode cX5_findBest 78 = .ok (.aload_n 0, 1) := by decide +kernel
theorem dX5_findBest_79 : decode cX5_findBest 79 = .ok (.aload_n 0, 1) := by decide +kernel
theorem dX5_findBest_80 : decode cX5_findBest 80 = .ok (.aload_n 1, 1) := by decide +kernel
theorem dX5_findBest_81 : decode cX5_findBest 81 = .ok (.iload_n 2, 1) := by decide +kernel
theorem dX5_findBest_82 : decode cX5_findBest 82 = .ok (.iload 4, 2) := by decide +kernel
theorem dX5_findBest_84 : decode cX5_findBest 84 = .ok (.iload_n 3, 1) := by decide +kernel
theorem dX5_findBest_85 : decode cX5_findBest 85 = .ok (.iload 5, 2) := by decide +kernel
theorem dX5_findBest_87 : decode cX5_findBest 87 = .ok (.invokevirtual 123, 3) := by decide +kernel
theorem dX5_findBest_90 : decode cX5_findBest 90 = .ok (.iload 4, 2) := by decide +kernel
theorem dX5_findBest_92 : decode cX5_findBest 92 = .ok (.iload_n 3, 1) := by decide +kernel
theorem dX5_findBest_93 : decode cX5_findBest 93 = .ok (.iload 5, 2) := by decide +kernel
theorem dX5_findBest_95 : decode cX5_findBest 95 = .ok (.invokevirtual 127, 3) := by decide +kernel
theorem dX5_findBest_98 : decode cX5_findBest 98 = .ok (.iinc 5 1, 3) := by decide +kernel
theorem dX5_findBest_101 : decode cX5_findBest 101 = .ok (.goto (-42), 3) := by decide +kernel
theorem dX5_findBest_104 : decode cX5_findBest 104 = .ok (.iinc 4 1, 3) := by decide +kernel
theorem dX5_findBest_107 : decode cX5_findBest 107 = .ok (.goto (-65), 3) := by decide +kernel
theorem dX5_findBest_110 : decode cX5_findBest 110 = .ok (.iinc 3 1, 3) := by decide +kernel
theorem dX5_findBest_113 : decode cX5_findBest 113 = .ok (.goto (-87), 3) := by decide +kernel
theorem dX5_findBest_116 : decode cX5_findBest 116 = .ok (.aload_n 0, 1) := by decide +kernel
theorem dX5_findBest_117 : decode cX5_findBest 117 = .ok (.getfield 120, 3) := by decide +kernel
theorem dX5_findBest_120 : decode cX5_findBest 120 = .ok (.iconst (-1), 1) := by decide +kernel
theorem dX5_findBest_121 : decode cX5_findBest 121 = .ok (.if_icmp .eq 7, 3) := by decide +kernel
theorem dX5_findBest_124 : decode cX5_findBest 124 = .ok (.iconst 1, 1) := by decide +kernel
theorem dX5_findBest_125 : decode cX5_findBest 125 = .ok (.goto 4, 3) := by decide +kernel
theorem dX5_findBest_128 : decode cX5_findBest 128 = .ok (.iconst 0, 1) := by decide +kernel
theorem dX5_findBest_129 : decode cX5_findBest 129 = .ok (.ireturn, 1) := by decide +kernel
theorem dX5_keepBetter_0 : decode cX5_keepBetter 0 = .ok (.iload_n 1, 1) := by decide +kernel
theorem dX5_keepBetter_1 : decode cX5_keepBetter 1 = .ok (.aload_n 0, 1) := by decide +kernel
theorem dX5_keepBetter_2 : decode cX5_keepBetter 2 = .ok (.getfield 120, 3) := by decide +kernel
theorem dX5_keepBetter_5 : decode cX5_keepBetter 5 = .ok (.if_icmp .le 24, 3) := by decide +kernel
theorem dX5_keepBetter_8 : decode cX5_keepBetter 8 = .ok (.aload_n 0, 1) := by decide +kernel
theorem dX5_keepBetter_9 : decode cX5_keepBetter 9 = .ok (.iload_n 1, 1) := by decide +kernel
theorem dX5_keepBetter_10 : decode cX5_keepBetter 10 = .ok (.putfield 120, 3) := by decide +kernel
theorem dX5_keepBetter_13 : decode cX5_keepBetter 13 = .ok (.aload_n 0, 1) := by decide +kernel
theorem dX5_keepBetter_14 : decode cX5_keepBetter 14 = .ok (.iload_n 2, 1) := by decide +kernel
theorem dX5_keepBetter_15 : decode cX5_keepBetter 15 = .ok (.putfield 131, 3) := by decide +kernel
theorem dX5_keepBetter_18 : decode cX5_keepBetter 18 = .ok (.aload_n 0, 1) := by decide +kernel
theorem dX5_keepBetter_19 : decode cX5_keepBetter 19 = .ok (.iload_n 3, 1) := by decide +kernel
theorem dX5_keepBetter_20 : decode cX5_keepBetter 20 = .ok (.putfield 134, 3) := by decide +kernel
theorem dX5_keepBetter_23 : decode cX5_keepBetter 23 = .ok (.aload_n 0, 1) := by decide +kernel
theorem dX5_keepBetter_24 : decode cX5_keepBetter 24 = .ok (.iload 4, 2) := by decide +kernel
theorem dX5_keepBetter_26 : decode cX5_keepBetter 26 = .ok (.putfield 137, 3) := by decide +kernel
theorem dX5_keepBetter_29 : decode cX5_keepBetter 29 = .ok (.return_, 1) := by decide +kernel
theorem dX5_nearest_0 : decode cX5_nearest 0 = .ok (.iconst (-1), 1) := by decide +kernel
theorem dX5_nearest_1 : decode cX5_nearest 1 = .ok (.istore_n 3, 1) := by decide +kernel
theorem dX5_nearest_2 : decode cX5_nearest 2 = .ok (.iconst 0, 1) := by decide +kernel
theorem dX5_nearest_3 : decode cX5_nearest 3 = .ok (.istore 4, 2) := by decide +kernel
theorem dX5_nearest_5 : decode cX5_nearest 5 = .ok (.iconst 0, 1) := by decide +kernel
theorem dX5_nearest_6 : decode cX5_nearest 6 = .ok (.istore 5, 2) := by decide +kernel
theorem dX5_nearest_8 : decode cX5_nearest 8 = .ok (.iload 5, 2) := by decide +kernel
theorem dX5_nearest_10 : decode cX5_nearest 10 = .ok (.aload_n 1, 1) := by decide +kernel
theorem dX5_nearest_11 : decode cX5_nearest 11 = .ok (.getfield 25, 3) := by decide +kernel
theorem dX5_nearest_14 : decode cX5_nearest 14 = .ok (.if_icmp .ge 84, 3) := by decide +kernel
theorem dX5_nearest_17 : decode cX5_nearest 17 = .ok (.aload_n 1, 1) := by decide +kernel
theorem dX5_nearest_18 : decode cX5_nearest 18 = .ok (.getfield 35, 3) := by decide +kernel
theorem dX5_nearest_21 : decode cX5_nearest 21 = .ok (.iload 5, 2) := by decide +kernel
theorem dX5_nearest_23 : decode cX5_nearest 23 = .ok (.aaload, 1) := by decide +kernel
theorem dX5_nearest_24 : decode cX5_nearest 24 = .ok (.getfield 109, 3) := by decide +kernel
theorem dX5_nearest_27 : decode cX5_nearest 27 = .ok (.ifCond .ne 65, 3) := by decide +kernel
theorem dX5_nearest_30 : decode cX5_nearest 30 = .ok (.iload 5, 2) := by decide +kernel
theorem dX5_nearest_32 : decode cX5_nearest 32 = .ok (.iload_n 2, 1) := by decide +kernel
theorem dX5_nearest_33 : decode cX5_nearest 33 = .ok (.if_icmp .ne 6, 3) := by decide +kernel
theorem dX5_nearest_36 : decode cX5_nearest 36 = .ok (.goto 56, 3) := by decide +kernel
theorem dX5_nearest_39 : decode cX5_nearest 39 = .ok (.aload_n 0, 1) := by decide +kernel
theorem dX5_nearest_40 : decode cX5_nearest 40 = .ok (.getfield 12, 3) := by decide +kernel
theorem dX5_nearest_43 : decode cX5_nearest 43 = .ok (.aload_n 1, 1) := by decide +kernel
theorem dX5_nearest_44 : decode cX5_nearest 44 = .ok (.getfield 31, 3) := by decide +kernel
theorem dX5_nearest_47 : decode cX5_nearest 47 = .ok (.aload_n 1, 1) := by decide +kernel
theorem dX5_nearest_48 : decode cX5_nearest 48 = .ok (.getfield 35, 3) := by decide +kernel
theorem dX5_nearest_51 : decode cX5_nearest 51 = .ok (.iload 5, 2) := by decide +kernel
theorem dX5_nearest_53 : decode cX5_nearest 53 = .ok (.aaload, 1) := by decide +kernel
theorem dX5_nearest_54 : decode cX5_nearest 54 = .ok (.getfield 80, 3) := by decide +kernel
theorem dX5_nearest_57 : decode cX5_nearest 57 = .ok (.iconst (-1), 1) := by decide +kernel
theorem dX5_nearest_58 : decode cX5_nearest 58 = .ok (.aload_n 1, 1) := by decide +kernel
theorem dX5_nearest_59 : decode cX5_nearest 59 = .ok (.getfield 35, 3) := by decide +kernel
theorem dX5_nearest_62 : decode cX5_nearest 62 = .ok (.iload 5, 2) := by decide +kernel
theorem dX5_nearest_64 : decode cX5_nearest 64 = .ok (.aaload, 1) := by decide +kernel
theorem dX5_nearest_65 : decode cX5_nearest 65 = .ok (.getfield 83, 3) := by decide +kernel
theorem dX5_nearest_68 : decode cX5_nearest 68 = .ok (.invokevirtual 86, 3) := by decide +kernel
theorem dX5_nearest_71 : decode cX5_nearest 71 = .ok (.istore 6, 2) := by decide +kernel
theorem dX5_nearest_73 : decode cX5_nearest 73 = .ok (.iload_n 3, 1) := by decide +kernel
theorem dX5_nearest_74 : decode cX5_nearest 74 = .ok (.iconst (-1), 1) := by decide +kernel
theorem dX5_nearest_75 : decode cX5_nearest 75 = .ok (.if_icmp .eq 10, 3) := by decide +kernel
theorem dX5_nearest_78 : decode cX5_nearest 78 = .ok (.iload 6, 2) := by decide +kernel
theorem dX5_nearest_80 : decode cX5_nearest 80 = .ok (.iload 4, 2) := by decide +kernel
theorem dX5_nearest_82 : decode cX5_nearest 82 = .ok (.if_icmp .ge 10, 3) := by decide +kernel
theorem dX5_nearest_85 : decode cX5_nearest 85 = .ok (.iload 5, 2) := by decide +kernel
theorem dX5_nearest_87 : decode cX5_nearest 87 = .ok (.istore_n 3, 1) := by decide +kernel
theorem dX5_nearest_88 : decode cX5_nearest 88 = .ok (.iload 6, 2) := by decide +kernel
theorem dX5_nearest_90 : decode cX5_nearest 90 = .ok (.istore 4, 2) := by decide +kernel
theorem dX5_nearest_92 : decode cX5_nearest 92 = .ok (.iinc 5 1, 3) := by decide +kernel
theorem dX5_nearest_95 : decode cX5_nearest 95 = .ok (.goto (-87), 3) := by decide +kernel
theorem dX5_nearest_98 : decode cX5_nearest 98 = .ok (.iload_n 3, 1) := by decide +kernel
theorem dX5_nearest_99 : decode cX5_nearest 99 = .ok (.ireturn, 1) := by decide +kernel
theorem dX5_advise_0 : decode cX5_advise 0 = .ok (.aload_n 0, 1) := by decide +kernel
theorem dX5_advise_1 : decode cX5_advise 1 = .ok (.getfield 12, 3) := by decide +kernel
theorem dX5_advise_4 : decode cX5_advise 4 = .ok (.aload_n 1, 1) := by decide +kernel
theorem dX5_advise_5 : decode cX5_advise 5 = .ok (.getfield 31, 3) := by decide +kernel
theorem dX5_advise_8 : decode cX5_advise 8 = .ok (.aload_n 1, 1) := by decide +kernel
theorem dX5_advise_9 : decode cX5_advise 9 = .ok (.getfield 35, 3) := by decide +kernel
theorem dX5_advise_12 : decode cX5_advise 12 = .ok (.iload_n 2, 1) := by decide +kernel
theorem dX5_advise_13 : decode cX5_advise 13 = .ok (.aaload, 1) := by decide +kernel
theorem dX5_advise_14 : decode cX5_advise 14 = .ok (.getfield 80, 3) := by decide +kernel
theorem dX5_advise_17 : decode cX5_advise 17 = .ok (.iconst (-1), 1) := by decide +kernel
theorem dX5_advise_18 : decode cX5_advise 18 = .ok (.iconst (-1), 1) := by decide +kernel
theorem dX5_advise_19 : decode cX5_advise 19 = .ok (.invokevirtual 86, 3) := by decide +kernel
theorem dX5_advise_22 : decode cX5_advise 22 = .ok (.pop, 1) := by decide +kernel
theorem dX5_advise_23 : decode cX5_advise 23 = .ok (.iconst (-1), 1) := by decide +kernel
theorem dX5_advise_24 : decode cX5_advise 24 = .ok (.istore_n 3, 1) := by decide +kernel
theorem dX5_advise_25 : decode cX5_advise 25 = .ok (.iconst 0, 1) := by decide +kernel
theorem dX5_advise_26 : decode cX5_advise 26 = .ok (.istore 4, 2) := by decide +kernel
theorem dX5_advise_28 : decode cX5_advise 28 = .ok (.iconst 0, 1) := by decide +kernel
theorem dX5_advise_29 : decode cX5_advise 29 = .ok (.istore 5, 2) := by decide +kernel
theorem dX5_advise_31 : decode cX5_advise 31 = .ok (.iload 5, 2) := by decide +kernel
theorem dX5_advise_33 : decode cX5_advise 33 = .ok (.iconst 4, 1) := by decide +kernel
theorem dX5_advise_34 : decode cX5_advise 34 = .ok (.if_icmp .ge 59, 3) := by decide +kernel
theorem dX5_advise_37 : decode cX5_advise 37 = .ok (.aload_n 1, 1) := by decide +kernel
theorem dX5_advise_38 : decode cX5_advise 38 = .ok (.iload_n 2, 1) := by decide +kernel
theorem dX5_advise_39 : decode cX5_advise 39 = .ok (.iload 5, 2) := by decide +kernel
theorem dX5_advise_41 : decode cX5_advise 41 = .ok (.invokevirtual 140, 3) := by decide +kernel
theorem dX5_advise_44 : decode cX5_advise 44 = .ok (.istore 6, 2) := by decide +kernel
theorem dX5_advise_46 : decode cX5_advise 46 = .ok (.iload 6, 2) := by decide +kernel
theorem dX5_advise_48 : decode cX5_advise 48 = .ok (.iconst (-1), 1) := by decide +kernel
theorem dX5_advise_49 : decode cX5_advise 49 = .ok (.if_icmp .eq 38, 3) := by decide +kernel
theorem dX5_advise_52 : decode cX5_advise 52 = .ok (.iload_n 3, 1) := by decide +kernel
theorem dX5_advise_53 : decode cX5_advise 53 = .ok (.iconst (-1), 1) := by decide +kernel
theorem dX5_advise_54 : decode cX5_advise 54 = .ok (.if_icmp .eq 18, 3) := by decide +kernel
theorem dX5_advise_57 : decode cX5_advise 57 = .ok (.aload_n 0, 1) := by decide +kernel
theorem dX5_advise_58 : decode cX5_advise 58 = .ok (.getfield 12, 3) := by decide +kernel
theorem dX5_advise_61 : decode cX5_advise 61 = .ok (.getfield 144, 3) := by decide +kernel
theorem dX5_advise_64 : decode cX5_advise 64 = .ok (.iload 6, 2) := by decide +kernel
theorem dX5_advise_66 : decode cX5_advise 66 = .ok (.iaload, 1) := by decide +kernel
theorem dX5_advise_67 : decode cX5_advise 67 = .ok (.iload 4, 2) := by decide +kernel
theorem dX5_advise_69 : decode cX5_advise 69 = .ok (.if_icmp .ge 18, 3) := by decide +kernel
theorem dX5_advise_72 : decode cX5_advise 72 = .ok (.iload 5, 2) := by decide +kernel
theorem dX5_advise_74 : decode cX5_advise 74 = .ok (.istore_n 3, 1) := by decide +kernel
theorem dX5_advise_75 : decode cX5_advise 75 = .ok (.aload_n 0, 1) := by decide +kernel
theorem dX5_advise_76 : decode cX5_advise 76 = .ok (.getfield 12, 3) := by decide +kernel
theorem dX5_advise_79 : decode cX5_advise 79 = .ok (.getfield 144, 3) := by decide +kernel
theorem dX5_advise_82 : decode cX5_advise 82 = .ok (.iload 6, 2) := by decide +kernel
theorem dX5_advise_84 : decode cX5_advise 84 = .ok (.iaload, 1) := by decide +kernel
theorem dX5_advise_85 : decode cX5_advise 85 = .ok (.istore 4, 2) := by decide +kernel
theorem dX5_advise_87 : decode cX5_advise 87 = .ok (.iinc 5 1, 3) := by decide +kernel
theorem dX5_advise_90 : decode cX5_advise 90 = .ok (.goto (-59), 3) := by decide +kernel
theorem dX5_advise_93 : decode cX5_advise 93 = .ok (.iload_n 3, 1) := by decide +kernel
theorem dX5_advise_94 : decode cX5_advise 94 = .ok (.ireturn, 1) := by decide +kernel
theorem dX5_playTurns_0 : decode cX5_playTurns 0 = .ok (.iconst 0, 1) := by decide +kernel
theorem dX5_playTurns_1 : decode cX5_playTurns 1 = .ok (.istore 4, 2) := by decide +kernel
theorem dX5_playTurns_3 : decode cX5_playTurns 3 = .ok (.iload 4, 2) := by decide +kernel
theorem dX5_playTurns_5 : decode cX5_playTurns 5 = .ok (.iload_n 3, 1) := by decide +kernel
theorem dX5_playTurns_6 : decode cX5_playTurns 6 = .ok (.if_icmp .ge 105, 3) := by decide +kernel
theorem dX5_playTurns_9 : decode cX5_playTurns 9 = .ok (.aload_n 1, 1) := by decide +kernel
theorem dX5_playTurns_10 : decode cX5_playTurns 10 = .ok (.invokevirtual 51, 3) := by decide +kernel
theorem dX5_playTurns_13 : decode cX5_playTurns 13 = .ok (.ifCond .ne 98, 3) := by decide +kernel
theorem dX5_playTurns_16 : decode cX5_playTurns 16 = .ok (.iload_n 2, 1) := by decide +kernel
theorem dX5_playTurns_17 : decode cX5_playTurns 17 = .ok (.iconst 1, 1) := by decide +kernel
theorem dX5_playTurns_18 : decode cX5_playTurns 18 = .ok (.if_icmp .ne 11, 3) := by decide +kernel
theorem dX5_playTurns_21 : decode cX5_playTurns 21 = .ok (.aload_n 0, 1) := by decide +kernel
theorem dX5_playTurns_22 : decode cX5_playTurns 22 = .ok (.aload_n 1, 1) := by decide +kernel
theorem dX5_playTurns_23 : decode cX5_playTurns 23 = .ok (.invokevirtual 145, 3) := by decide +kernel
theorem dX5_playTurns_26 : decode cX5_playTurns 26 = .ok (.goto 4, 3) := by decide +kernel
theorem dX5_playTurns_29 : decode cX5_playTurns 29 = .ok (.iconst (-1), 1) := by decide +kernel
theorem dX5_playTurns_30 : decode cX5_playTurns 30 = .ok (.istore 5, 2) := by decide +kernel
theorem dX5_playTurns_32 : decode cX5_playTurns 32 = .ok (.iload 5, 2) := by decide +kernel
theorem dX5_playTurns_34 : decode cX5_playTurns 34 = .ok (.iconst (-1), 1) := by decide +kernel
theorem dX5_playTurns_35 : decode cX5_playTurns 35 = .ok (.if_icmp .eq 40, 3) := by decide +kernel
theorem dX5_playTurns_38 : decode cX5_playTurns 38 = .ok (.aload_n 0, 1) := by decide +kernel
theorem dX5_playTurns_39 : decode cX5_playTurns 39 = .ok (.aload_n 1, 1) := by decide +kernel
theorem dX5_playTurns_40 : decode cX5_playTurns 40 = .ok (.iload 5, 2) := by decide +kernel
theorem dX5_playTurns_42 : decode cX5_playTurns 42 = .ok (.invokevirtual 149, 3) := by decide +kernel
theorem dX5_playTurns_45 : decode cX5_playTurns 45 = .ok (.ifCond .eq 30, 3) := by decide +kernel
theorem dX5_playTurns_48 : decode cX5_playTurns 48 = .ok (.aload_n 0, 1) := by decide +kernel
theorem dX5_playTurns_49 : decode cX5_playTurns 49 = .ok (.getfield 120, 3) := by decide +kernel
theorem dX5_playTurns_52 : decode cX5_playTurns 52 = .ok (.iconst 1, 1) := by decide +kernel
theorem dX5_playTurns_53 : decode cX5_playTurns 53 = .ok (.if_icmp .lt 22, 3) := by decide +kernel
theorem dX5_playTurns_56 : decode cX5_playTurns 56 = .ok (.aload_n 1, 1) := by decide +kernel
theorem dX5_playTurns_57 : decode cX5_playTurns 57 = .ok (.aload_n 0, 1) := by decide +kernel
theorem dX5_playTurns_58 : decode cX5_playTurns 58 = .ok (.getfield 131, 3) := by decide +kernel
theorem dX5_playTurns_61 : decode cX5_playTurns 61 = .ok (.aload_n 0, 1) := by decide +kernel
theorem dX5_playTurns_62 : decode cX5_playTurns 62 = .ok (.getfield 134, 3) := by decide +kernel
theorem dX5_playTurns_65 : decode cX5_playTurns 65 = .ok (.aload_n 0, 1) := by decide +kernel
theorem dX5_playTurns_66 : decode cX5_playTurns 66 = .ok (.getfield 137, 3) := by decide +kernel
theorem dX5_playTurns_69 : decode cX5_playTurns 69 = .ok (.invokevirtual 153, 3) := by decide +kernel
theorem dX5_playTurns_72 : decode cX5_playTurns 72 = .ok (.goto 33, 3) := by decide +kernel
theorem dX5_playTurns_75 : decode cX5_playTurns 75 = .ok (.aload_n 0, 1) := by decide +kernel
theorem dX5_playTurns_76 : decode cX5_playTurns 76 = .ok (.aload_n 1, 1) := by decide +kernel
theorem dX5_playTurns_77 : decode cX5_playTurns 77 = .ok (.aload_n 1, 1) := by decide +kernel
theorem dX5_playTurns_78 : decode cX5_playTurns 78 = .ok (.getfield 55, 3) := by decide +kernel
theorem dX5_playTurns_81 : decode cX5_playTurns 81 = .ok (.invokevirtual 156, 3) := by decide +kernel
theorem dX5_playTurns_84 : decode cX5_playTurns 84 = .ok (.istore 6, 2) := by decide +kernel
theorem dX5_playTurns_86 : decode cX5_playTurns 86 = .ok (.iload 6, 2) := by decide +kernel
theorem dX5_playTurns_88 : decode cX5_playTurns 88 = .ok (.iconst (-1), 1) := by decide +kernel
theorem dX5_playTurns_89 : decode cX5_playTurns 89 = .ok (.if_icmp .ne 10, 3) := by decide +kernel
theorem dX5_playTurns_92 : decode cX5_playTurns 92 = .ok (.aload_n 1, 1) := by decide +kernel
theorem dX5_playTurns_93 : decode cX5_playTurns 93 = .ok (.invokevirtual 160, 3) := by decide +kernel
theorem dX5_playTurns_96 : decode cX5_playTurns 96 = .ok (.goto 9, 3) := by decide +kernel
theorem dX5_playTurns_99 : decode cX5_playTurns 99 = .ok (.aload_n 1, 1) := by decide +kernel
theorem dX5_playTurns_100 : decode cX5_playTurns 100 = .ok (.iload 6, 2) := by decide +kernel
theorem dX5_playTurns_102 : decode cX5_playTurns 102 = .ok (.invokevirtual 163, 3) := by decide +kernel
theorem dX5_playTurns_105 : decode cX5_playTurns 105 = .ok (.iinc 4 1, 3) := by decide +kernel
theorem dX5_playTurns_108 : decode cX5_playTurns 108 = .ok (.goto (-105), 3) := by decide +kernel
theorem dX5_playTurns_111 : decode cX5_playTurns 111 = .ok (.iload 4, 2) := by decide +kernel
theorem dX5_playTurns_113 : decode cX5_playTurns 113 = .ok (.ireturn, 1) := by decide +kernel
theorem dX5_rivalAhead_0 : decode cX5_rivalAhead 0 = .ok (.aload_n 1, 1) := by decide +kernel
theorem dX5_rivalAhead_1 : decode cX5_rivalAhead 1 = .ok (.getfield 35, 3) := by decide +kernel
theorem dX5_rivalAhead_4 : decode cX5_rivalAhead 4 = .ok (.aload_n 1, 1) := by decide +kernel
theorem dX5_rivalAhead_5 : decode cX5_rivalAhead 5 = .ok (.getfield 55, 3) := by decide +kernel
theorem dX5_rivalAhead_8 : decode cX5_rivalAhead 8 = .ok (.aaload, 1) := by decide +kernel
theorem dX5_rivalAhead_9 : decode cX5_rivalAhead 9 = .ok (.astore_n 2, 1) := by decide +kernel
theorem dX5_rivalAhead_10 : decode cX5_rivalAhead 10 = .ok (.aload_n 2, 1) := by decide +kernel
theorem dX5_rivalAhead_11 : decode cX5_rivalAhead 11 = .ok (.getfield 58, 3) := by decide +kernel
theorem dX5_rivalAhead_14 : decode cX5_rivalAhead 14 = .ok (.ifCond .le 15, 3) := by decide +kernel
theorem dX5_rivalAhead_17 : decode cX5_rivalAhead 17 = .ok (.aload_n 0, 1) := by decide +kernel
theorem dX5_rivalAhead_18 : decode cX5_rivalAhead 18 = .ok (.aload_n 1, 1) := by decide +kernel
theorem dX5_rivalAhead_19 : decode cX5_rivalAhead 19 = .ok (.aload_n 1, 1) := by decide +kernel
theorem dX5_rivalAhead_20 : decode cX5_rivalAhead 20 = .ok (.getfield 55, 3) := by decide +kernel
theorem dX5_rivalAhead_23 : decode cX5_rivalAhead 23 = .ok (.invokevirtual 167, 3) := by decide +kernel
theorem dX5_rivalAhead_26 : decode cX5_rivalAhead 26 = .ok (.goto 4, 3) := by decide +kernel
theorem dX5_rivalAhead_29 : decode cX5_rivalAhead 29 = .ok (.iconst (-1), 1) := by decide +kernel
theorem dX5_rivalAhead_30 : decode cX5_rivalAhead 30 = .ok (.istore_n 3, 1) := by decide +kernel
theorem dX5_rivalAhead_31 : decode cX5_rivalAhead 31 = .ok (.iload_n 3, 1) := by decide +kernel
theorem dX5_rivalAhead_32 : decode cX5_rivalAhead 32 = .ok (.iconst (-1), 1) := by decide +kernel
theorem dX5_rivalAhead_33 : decode cX5_rivalAhead 33 = .ok (.if_icmp .ne 5, 3) := by decide +kernel
theorem dX5_rivalAhead_36 : decode cX5_rivalAhead 36 = .ok (.iconst (-1), 1) := by decide +kernel
theorem dX5_rivalAhead_37 : decode cX5_rivalAhead 37 = .ok (.ireturn, 1) := by decide +kernel
theorem dX5_rivalAhead_38 : decode cX5_rivalAhead 38 = .ok (.aload_n 0, 1) := by decide +kernel
theorem dX5_rivalAhead_39 : decode cX5_rivalAhead 39 = .ok (.getfield 12, 3) := by decide +kernel
theorem dX5_rivalAhead_42 : decode cX5_rivalAhead 42 = .ok (.aload_n 1, 1) := by decide +kernel
theorem dX5_rivalAhead_43 : decode cX5_rivalAhead 43 = .ok (.getfield 31, 3) := by decide +kernel
theorem dX5_rivalAhead_46 : decode cX5_rivalAhead 46 = .ok (.aload_n 2, 1) := by decide +kernel
theorem dX5_rivalAhead_47 : decode cX5_rivalAhead 47 = .ok (.invokevirtual 39, 3) := by decide +kernel
theorem dX5_rivalAhead_50 : decode cX5_rivalAhead 50 = .ok (.istore 4, 2) := by decide +kernel
theorem dX5_rivalAhead_52 : decode cX5_rivalAhead 52 = .ok (.aload_n 0, 1) := by decide +kernel
theorem dX5_rivalAhead_53 : decode cX5_rivalAhead 53 = .ok (.getfield 12, 3) := by decide +kernel
theorem dX5_rivalAhead_56 : decode cX5_rivalAhead 56 = .ok (.aload_n 1, 1) := by decide +kernel
theorem dX5_rivalAhead_57 : decode cX5_rivalAhead 57 = .ok (.getfield 31, 3) := by decide +kernel
theorem dX5_rivalAhead_60 : decode cX5_rivalAhead 60 = .ok (.aload_n 1, 1) := by decide +kernel
theorem dX5_rivalAhead_61 : decode cX5_rivalAhead 61 = .ok (.getfield 35, 3) := by decide +kernel
theorem dX5_rivalAhead_64 : decode cX5_rivalAhead 64 = .ok (.iload_n 3, 1) := by decide +kernel
theorem dX5_rivalAhead_65 : decode cX5_rivalAhead 65 = .ok (.aaload, 1) := by decide +kernel
theorem dX5_rivalAhead_66 : decode cX5_rivalAhead 66 = .ok (.invokevirtual 39, 3) := by decide +kernel
theorem dX5_rivalAhead_69 : decode cX5_rivalAhead 69 = .ok (.iload 4, 2) := by decide +kernel
theorem dX5_rivalAhead_71 : decode cX5_rivalAhead 71 = .ok (.if_icmp .ge 7, 3) := by decide +kernel
theorem dX5_rivalAhead_74 : decode cX5_rivalAhead 74 = .ok (.iload_n 3, 1) := by decide +kernel
theorem dX5_rivalAhead_75 : decode cX5_rivalAhead 75 = .ok (.goto 4, 3) := by decide +kernel
theorem dX5_rivalAhead_78 : decode cX5_rivalAhead 78 = .ok (.iconst (-1), 1) := by decide +kernel
theorem dX5_rivalAhead_79 : decode cX5_rivalAhead 79 = .ok (.ireturn, 1) := by decide +kernel
theorem dX6_init_0 : decode cX6_init 0 = .ok (.aload_n 0, 1) := by decide +kernel
theorem dX6_init_1 : decode cX6_init 1 = .ok (.invokespecial 3, 3) := by decide +kernel
theorem dX6_init_4 : decode cX6_init 4 = .ok (.aload_n 0, 1) := by decide +kernel
theorem dX6_init_5 : decode cX6_init 5 = .ok (.new 9, 3) := by decide +kernel
theorem dX6_init_8 : decode cX6_init 8 = .ok (.dup, 1) := by decide +kernel
theorem dX6_init_9 : decode cX6_init 9 = .ok (.invokespecial 11, 3) := by decide +kernel
theorem dX6_init_12 : decode cX6_init 12 = .ok (.putfield 12, 3) := by decide +kernel
theorem dX6_init_15 : decode cX6_init 15 = .ok (.aload_n 0, 1) := by decide +kernel
theorem dX6_init_16 : decode cX6_init 16 = .ok (.iconst 4, 1) := by decide +kernel
theorem dX6_init_17 : decode cX6_init 17 = .ok (.anewarray 18, 3) := by decide +kernel
theorem dX6_init_20 : decode cX6_init 20 = .ok (.putfield 20, 3) := by decide +kernel
theorem dX6_init_23 : decode cX6_init 23 = .ok (.iconst 0, 1) := by decide +kernel
theorem dX6_init_24 : decode cX6_init 24 = .ok (.istore_n 1, 1) := by decide +kernel
theorem dX6_init_25 : decode cX6_init 25 = .ok (.iload_n 1, 1) := by decide +kernel
theorem dX6_init_26 : decode cX6_init 26 = .ok (.iconst 4, 1) := by decide +kernel
theorem dX6_init_27 : decode cX6_init 27 = .ok (.if_icmp .ge 22, 3) := by decide +kernel
theorem dX6_init_30 : decode cX6_init 30 = .ok (.aload_n 0, 1) := by decide +kernel
theorem dX6_init_31 : decode cX6_init 31 = .ok (.getfield 20, 3) := by decide +kernel
theorem dX6_init_34 : decode cX6_init 34 = .ok (.iload_n 1, 1) := by decide +kernel
theorem dX6_init_35 : decode cX6_init 35 = .ok (.new 18, 3) := by decide +kernel
theorem dX6_init_38 : decode cX6_init 38 = .ok (.dup, 1) := by decide +kernel
theorem dX6_init_39 : decode cX6_init 39 = .ok (.invokespecial 24, 3) := by decide +kernel
theorem dX6_init_42 : decode cX6_init 42 = .ok (.aastore, 1) := by decide +kernel
theorem dX6_init_43 : decode cX6_init 43 = .ok (.iinc 1 1, 3) := by decide +kernel
theorem dX6_init_46 : decode cX6_init 46 = .ok (.goto (-21), 3) := by decide +kernel
theorem dX6_init_49 : decode cX6_init 49 = .ok (.aload_n 0, 1) := by decide +kernel
theorem dX6_init_50 : decode cX6_init 50 = .ok (.bipush 12, 2) := by decide +kernel
theorem dX6_init_52 : decode cX6_init 52 = .ok (.anewarray 25, 3) := by decide +kernel
theorem dX6_init_55 : decode cX6_init 55 = .ok (.putfield 27, 3) := by decide +kernel
theorem dX6_init_58 : decode cX6_init 58 = .ok (.iconst 0, 1) := by decide +kernel
theorem dX6_init_59 : decode cX6_init 59 = .ok (.istore_n 1, 1) := by decide +kernel
theorem dX6_init_60 : decode cX6_init 60 = .ok (.iload_n 1, 1) := by decide +kernel
theorem dX6_init_61 : decode cX6_init 61 = .ok (.bipush 12, 2) := by decide +kernel
theorem dX6_init_63 : decode cX6_init 63 = .ok (.if_icmp .ge 22, 3) := by decide +kernel
theorem dX6_init_66 : decode cX6_init 66 = .ok (.aload_n 0, 1) := by decide +kernel
theorem dX6_init_67 : decode cX6_init 67 = .ok (.getfield 27, 3) := by decide +kernel
theorem dX6_init_70 : decode cX6_init 70 = .ok (.iload_n 1, 1) := by decide +kernel
theorem dX6_init_71 : decode cX6_init 71 = .ok (.new 25, 3) := by decide +kernel
theorem dX6_init_74 : decode cX6_init 74 = .ok (.dup, 1) := by decide +kernel
theorem dX6_init_75 : decode cX6_init 75 = .ok (.invokespecial 31, 3) := by decide +kernel
theorem dX6_init_78 : decode cX6_init 78 = .ok (.aastore, 1) := by decide +kernel
theorem dX6_init_79 : decode cX6_init 79 = .ok (.iinc 1 1, 3) := by decide +kernel
theorem dX6_init_82 : decode cX6_init 82 = .ok (.goto (-22), 3) := by decide +kernel
theorem dX6_init_85 : decode cX6_init 85 = .ok (.return_, 1) := by decide +kernel
theorem dX6_clear_0 : decode cX6_clear 0 = .ok (.aload_n 0, 1) := by decide +kernel
theorem dX6_clear_1 : decode cX6_clear 1 = .ok (.getfield 12, 3) := by decide +kernel
theorem dX6_clear_4 : decode cX6_clear 4 = .ok (.iconst 5, 1) := by decide +kernel
theorem dX6_clear_5 : decode cX6_clear 5 = .ok (.iconst 5, 1) := by decide +kernel
theorem dX6_clear_6 : decode cX6_clear 6 = .ok (.invokevirtual 32, 3) := by decide +kernel
theorem dX6_clear_9 : decode cX6_clear 9 = .ok (.aload_n 0, 1) := by decide +kernel
theorem dX6_clear_10 : decode cX6_clear 10 = .ok (.iconst 0, 1) := by decide +kernel
theorem dX6_clear_11 : decode cX6_clear 11 = .ok (.putfield 36, 3) := by decide +kernel
theorem dX6_clear_14 : decode cX6_clear 14 = .ok (.aload_n 0, 1) := by decide +kernel
theorem dX6_clear_15 : decode cX6_clear 15 = .ok (.iconst 0, 1) := by decide +kernel
theorem dX6_clear_16 : decode cX6_clear 16 = .ok (.putfield 40, 3) := by decide +kernel
theorem dX6_clear_19 : decode cX6_clear 19 = .ok (.aload_n 0, 1) := by decide +kernel
theorem dX6_clear_20 : decode cX6_clear 20 = .ok (.iconst 0, 1) := by decide +kernel
theorem dX6_clear_21 : decode cX6_clear 21 = .ok (.putfield 43, 3) := by decide +kernel
theorem dX6_clear_24 : decode cX6_clear 24 = .ok (.aload_n 0, 1) := by decide +kernel
theorem dX6_clear_25 : decode cX6_clear 25 = .ok (.iconst 0, 1) := by decide +kernel
theorem dX6_clear_26 : decode cX6_clear 26 = .ok (.putfield 46, 3) := by decide +kernel
theorem dX6_clear_29 : decode cX6_clear 29 = .ok (.aload_n 0, 1) := by decide +kernel
theorem dX6_clear_30 : decode cX6_clear 30 = .ok (.iconst 0, 1) := by decide +kernel
theorem dX6_clear_31 : decode cX6_clear 31 = .ok (.putfield 49, 3) := by decide +kernel
theorem dX6_clear_34 : decode cX6_clear 34 = .ok (.return_, 1) := by decide +kernel
theorem dX6_copyFrom_0 : decode cX6_copyFrom 0 = .ok (.aload_n 0, 1) := by decide +kernel
theorem dX6_copyFrom_1 : decode cX6_copyFrom 1 = .ok (.getfield 12, 3) := by decide +kernel
theorem dX6_copyFrom_4 : decode cX6_copyFrom 4 = .ok (.aload_n 1, 1) := by decide +kernel
theorem dX6_copyFrom_5 : decode cX6_copyFrom 5 = .ok (.getfield 12, 3) := by decide +kernel
theorem dX6_copyFrom_8 : decode cX6_copyFrom 8 = .ok (.invokevirtual 52, 3) := by decide +kernel
theorem dX6_copyFrom_11 : decode cX6_copyFrom 11 = .ok (.iconst 0, 1) := by decide +kernel
theorem dX6_copyFrom_12 : decode cX6_copyFrom 12 = .ok (.istore_n 2, 1) := by decide +kernel
theorem dX6_copyFrom_13 : decode cX6_copyFrom 13 = .ok (.iload_n 2, 1) := by decide +kernel
theorem dX6_copyFrom_14 : decode cX6_copyFrom 14 = .ok (.iconst 4, 1) := by decide +kernel
theorem dX6_copyFrom_15 : decode cX6_copyFrom 15 = .ok (.if_icmp .ge 24, 3) := by decide +kernel
theorem dX6_copyFrom_18 : decode cX6_copyFrom 18 = .ok (.aload_n 0, 1) := by decide +kernel
theorem dX6_copyFrom_19 : decode cX6_copyFrom 19 = .ok (.getfield 20, 3) := by decide +kernel
theorem dX6_copyFrom_22 : decode cX6_copyFrom 22 = .ok (.iload_n 2, 1) := by decide +kernel
theorem dX6_copyFrom_23 : decode cX6_copyFrom 23 = .ok (.aaload, 1) := by decide +kernel
theorem dX6_copyFrom_24 : decode cX6_copyFrom 24 = .ok (.aload_n 1, 1) := by decide +kernel
theorem dX6_copyFrom_25 : decode cX6_copyFrom 25 = .ok (.getfield 20, 3) := by decide +kernel
theorem dX6_copyFrom_28 : decode cX6_copyFrom 28 = .ok (.iload_n 2, 1) := by decide +kernel
theorem dX6_copyFrom_29 : decode cX6_copyFrom 29 = .ok (.aaload, 1) := by decide +kernel
theorem dX6_copyFrom_30 : decode cX6_copyFrom 30 = .ok (.invokevirtual 56, 3) := by decide +kernel
theorem dX6_copyFrom_33 : decode cX6_copyFrom 33 = .ok (.iinc 2 1, 3) := by decide +kernel
theorem dX6_copyFrom_36 : decode cX6_copyFrom 36 = .ok (.goto (-23), 3) := by decide +kernel
theorem dX6_copyFrom_39 : decode cX6_copyFrom 39 = .ok (.iconst 0, 1) := by decide +kernel
theorem dX6_copyFrom_40 : decode cX6_copyFrom 40 = .ok (.istore_n 2, 1) := by decide +kernel
theorem dX6_copyFrom_41 : decode cX6_copyFrom 41 = .ok (.iload_n 2, 1) := by decide +kernel
theorem dX6_copyFrom_42 : decode cX6_copyFrom 42 = .ok (.bipush 12, 2) := by decide +kernel
theorem dX6_copyFrom_44 : decode cX6_copyFrom 44 = .ok (.if_icmp .ge 24, 3) := by decide +kernel
theorem dX6_copyFrom_47 : decode cX6_copyFrom 47 = .ok (.aload_n 0, 1) := by decide +kernel
theorem dX6_copyFrom_48 : decode cX6_copyFrom 48 = .ok (.getfield 27, 3) := by decide +kernel
theorem dX6_copyFrom_51 : decode cX6_copyFrom 51 = .ok (.iload_n 2, 1) := by decide +kernel
theorem dX6_copyFrom_52 : decode cX6_copyFrom 52 = .ok (.aaload, 1) := by decide +kernel
theorem dX6_copyFrom_53 : decode cX6_copyFrom 53 = .ok (.aload_n 1, 1) := by decide +kernel
theorem dX6_copyFrom_54 : decode cX6_copyFrom 54 = .ok (.getfield 27, 3) := by decide +kernel
theorem dX6_copyFrom_57 : decode cX6_copyFrom 57 = .ok (.iload_n 2, 1) := by decide +kernel
theorem dX6_copyFrom_58 : decode cX6_copyFrom 58 = .ok (.aaload, 1) := by decide +kernel
theorem dX6_copyFrom_59 : decode cX6_copyFrom 59 = .ok (.invokevirtual 59, 3) := by decide +kernel
theorem dX6_copyFrom_62 : decode cX6_copyFrom 62 = .ok (.iinc 2 1, 3) := by decide +kernel
theorem dX6_copyFrom_65 : decode cX6_copyFrom 65 = .ok (.goto (-24), 3) := by decide +kernel
theorem dX6_copyFrom_68 : decode cX6_copyFrom 68 = .ok (.aload_n 0, 1) := by decide +kernel
theorem dX6_copyFrom_69 : decode cX6_copyFrom 69 = .ok (.aload_n 1, 1) := by decide +kernel
theorem dX6_copyFrom_70 : decode cX6_copyFrom 70 = .ok (.getfield 36, 3) := by decide +kernel
theorem dX6_copyFrom_73 : decode cX6_copyFrom 73 = .ok (.putfield 36, 3) := by decide +kernel
theorem dX6_copyFrom_76 : decode cX6_copyFrom 76 = .ok (.aload_n 0, 1) := by decide +kernel
theorem dX6_copyFrom_77 : decode cX6_copyFrom 77 = .ok (.aload_n 1, 1) := by decide +kernel
theorem dX6_copyFrom_78 : decode cX6_copyFrom 78 = .ok (.getfield 40, 3) := by decide +kernel
theorem dX6_copyFrom_81 : decode cX6_copyFrom 81 = .ok (.putfield 40, 3) := by decide +kernel
theorem dX6_copyFrom_84 : decode cX6_copyFrom 84 = .ok (.aload_n 0, 1) := by decide +kernel
theorem dX6_copyFrom_85 : decode cX6_copyFrom 85 = .ok (.aload_n 1, 1) := by decide +kernel
theorem dX6_copyFrom_86 : decode cX6_copyFrom 86 = .ok (.getfield 43, 3) := by decide +kernel
theorem dX6_copyFrom_89 : decode cX6_copyFrom 89 = .ok (.putfield 43, 3) := by decide +kernel
theorem dX6_copyFrom_92 : decode cX6_copyFrom 92 = .ok (.aload_n 0, 1) := by decide +kernel
theorem dX6_copyFrom_93 : decode cX6_copyFrom 93 = .ok (.aload_n 1, 1) := by decide +kernel
theorem dX6_copyFrom_94 : decode cX6_copyFrom 94 = .ok (.getfield 46, 3) := by decide +kernel
theorem dX6_copyFrom_97 : decode cX6_copyFrom 97 = .ok (.putfield 46, 3) := by decide +kernel
theorem dX6_copyFrom_100 : decode cX6_copyFrom 100 = .ok (.aload_n 0, 1) := by decide +kernel
theorem dX6_copyFrom_101 : decode cX6_copyFrom 101 = .ok (.aload_n 1, 1) := by decide +kernel
theorem dX6_copyFrom_102 : decode cX6_copyFrom 102 = .ok (.getfield 49, 3) := by decide +kernel
theorem dX6_copyFrom_105 : decode cX6_copyFrom 105 = .ok (.putfield 49, 3) := by decide +kernel
theorem dX6_copyFrom_108 : decode cX6_copyFrom 108 = .ok (.return_, 1) := by decide +kernel
theorem dX6_addPawn_0 : decode cX6_addPawn 0 = .ok (.aload_n 0, 1) := by decide +kernel
theorem dX6_addPawn_1 : decode cX6_addPawn 1 = .ok (.getfield 36, 3) := by decide +kernel
theorem dX6_addPawn_4 : decode cX6_addPawn 4 = .ok (.iconst 4, 1) := by decide +kernel
theorem dX6_addPawn_5 : decode cX6_addPawn 5 = .ok (.if_icmp .ge 60, 3) := by decide +kernel
theorem dX6_addPawn_8 : decode cX6_addPawn 8 = .ok (.aload_n 0, 1) := by decide +kernel
theorem dX6_addPawn_9 : decode cX6_addPawn 9 = .ok (.getfield 20, 3) := by decide +kernel
theorem dX6_addPawn_12 : decode cX6_addPawn 12 = .ok (.aload_n 0, 1) := by decide +kernel
theorem dX6_addPawn_13 : decode cX6_addPawn 13 = .ok (.getfield 36, 3) := by decide +kernel
theorem dX6_addPawn_16 : decode cX6_addPawn 16 = .ok (.aaload, 1) := by decide +kernel
theorem dX6_addPawn_17 : decode cX6_addPawn 17 = .ok (.astore 4, 2) := by decide +kernel
theorem dX6_addPawn_19 : decode cX6_addPawn 19 = .ok (.aload 4, 2) := by decide +kernel
theorem dX6_addPawn_21 : decode cX6_addPawn 21 = .ok (.iload_n 1, 1) := by decide +kernel
theorem dX6_addPawn_22 : decode cX6_addPawn 22 = .ok (.putfield 62, 3) := by decide +kernel
theorem dX6_addPawn_25 : decode cX6_addPawn 25 = .ok (.aload 4, 2) := by decide +kernel
theorem dX6_addPawn_27 : decode cX6_addPawn 27 = .ok (.iload_n 2, 1) := by decide +kernel
theorem dX6_addPawn_28 : decode cX6_addPawn 28 = .ok (.putfield 65, 3) := by decide +kernel
theorem dX6_addPawn_31 : decode cX6_addPawn 31 = .ok (.aload 4, 2) := by decide +kernel
theorem dX6_addPawn_33 : decode cX6_addPawn 33 = .ok (.iload_n 3, 1) := by decide +kernel
theorem dX6_addPawn_34 : decode cX6_addPawn 34 = .ok (.putfield 68, 3) := by decide +kernel
theorem dX6_addPawn_37 : decode cX6_addPawn 37 = .ok (.aload 4, 2) := by decide +kernel
theorem dX6_addPawn_39 : decode cX6_addPawn 39 = .ok (.iconst 0, 1) := by decide +kernel
theorem dX6_addPawn_40 : decode cX6_addPawn 40 = .ok (.putfield 71, 3) := by decide +kernel
theorem dX6_addPawn_43 : decode cX6_addPawn 43 = .ok (.aload 4, 2) := by decide +kernel
theorem dX6_addPawn_45 : decode cX6_addPawn 45 = .ok (.iconst (-1), 1) := by decide +kernel
theorem dX6_addPawn_46 : decode cX6_addPawn 46 = .ok (.putfield 74, 3) := by decide +kernel
theorem dX6_addPawn_49 : decode cX6_addPawn 49 = .ok (.aload 4, 2) := by decide +kernel
theorem dX6_addPawn_51 : decode cX6_addPawn 51 = .ok (.iconst 0, 1) := by decide +kernel
theorem dX6_addPawn_52 : decode cX6_addPawn 52 = .ok (.putfield 77, 3) := by decide +kernel
theorem dX6_addPawn_55 : decode cX6_addPawn 55 = .ok (.aload_n 0, 1) := by decide +kernel
theorem dX6_addPawn_56 : decode cX6_addPawn 56 = .ok (.dup, 1) := by decide +kernel
theorem dX6_addPawn_57 : decode cX6_addPawn 57 = .ok (.getfield 36, 3) := by decide +kernel
theorem dX6_addPawn_60 : decode cX6_addPawn 60 = .ok (.iconst 1, 1) := by decide +kernel
theorem dX6_addPawn_61 : decode cX6_addPawn 61 = .ok (.iadd, 1) := by decide +kernel
theorem dX6_addPawn_62 : decode cX6_addPawn 62 = .ok (.putfield 36, 3) := by decide +kernel
theorem dX6_addPawn_65 : decode cX6_addPawn 65 = .ok (.return_, 1) := by decide +kernel
theorem dX6_hasEnded_0 : decode cX6_hasEnded 0 = .ok (.aload_n 0, 1) := by decide +kernel
theorem dX6_hasEnded_1 : decode cX6_hasEnded 1 = .ok (.getfield 36, 3) := by decide +kernel
theorem dX6_hasEnded_4 : decode cX6_hasEnded 4 = .ok (.aload_n 0, 1) := by decide +kernel
theorem dX6_hasEnded_5 : decode cX6_hasEnded 5 = .ok (.getfield 49, 3) := by decide +kernel
theorem dX6_hasEnded_8 : decode cX6_hasEnded 8 = .ok (.isub, 1) := by decide +kernel
theorem dX6_hasEnded_9 : decode cX6_hasEnded 9 = .ok (.iconst 2, 1) := by decide +kernel
theorem dX6_hasEnded_10 : decode cX6_hasEnded 10 = .ok (.if_icmp .lt 13, 3) := by decide +kernel
theorem dX6_hasEnded_13 : decode cX6_hasEnded 13 = .ok (.aload_n 0, 1) := by decide +kernel
theorem dX6_hasEnded_14 : decode cX6_hasEnded 14 = .ok (.getfield 43, 3) := by decide +kernel
theorem dX6_hasEnded_17 : decode cX6_hasEnded 17 = .ok (.sipush 200, 3) := by decide +kernel
theorem dX6_hasEnded_20 : decode cX6_hasEnded 20 = .ok (.if_icmp .lt 7, 3) := by decide +kernel
theorem dX6_hasEnded_23 : decode cX6_hasEnded 23 = .ok (.iconst 1, 1) := by decide +kernel
theorem dX6_hasEnded_24 : decode cX6_hasEnded 24 = .ok (.goto 4, 3) := by decide +kernel
theorem dX6_hasEnded_27 : decode cX6_hasEnded 27 = .ok (.iconst 0, 1) := by decide +kernel
theorem dX6_hasEnded_28 : decode cX6_hasEnded 28 = .ok (.ireturn, 1) := by decide +kernel
theorem dX6_mover_0 : decode cX6_mover 0 = .ok (.aload_n 0, 1) := by decide +kernel
theorem dX6_mover_1 : decode cX6_mover 1 = .ok (.invokevirtual 80, 3) := by decide +kernel
theorem dX6_mover_4 : decode cX6_mover 4 = .ok (.ifCond .eq 7, 3) := by decide +kernel
theorem dX6_mover_7 : decode cX6_mover 7 = .ok (.iconst (-1), 1) := by decide +kernel
theorem dX6_mover_8 : decode cX6_mover 8 = .ok (.goto 7, 3) := by decide +kernel
theorem dX6_mover_11 : decode cX6_mover 11 = .ok (.aload_n 0, 1) := by decide +kernel
theorem dX6_mover_12 : decode cX6_mover 12 = .ok (.getfield 46, 3) := by decide +kernel
theorem dX6_mover_15 : decode cX6_mover 15 = .ok (.ireturn, 1) := by decide +kernel
theorem dX6_pawnOn_0 : decode cX6_pawnOn 0 = .ok (.iconst 0, 1) := by decide +kernel
theorem dX6_pawnOn_1 : decode cX6_pawnOn 1 = .ok (.istore_n 2, 1) := by decide +kernel
theorem dX6_pawnOn_2 : decode cX6_pawnOn 2 = .ok (.iload_n 2, 1) := by decide +kernel
theorem dX6_pawnOn_3 : decode cX6_pawnOn 3 = .ok (.aload_n 0, 1) := by decide +kernel
theorem dX6_pawnOn_4 : decode cX6_pawnOn 4 = .ok (.getfield 36, 3) := by decide +kernel
theorem dX6_pawnOn_7 : decode cX6_pawnOn 7 = .ok (.if_icmp .ge 36, 3) := by decide +kernel
theorem dX6_pawnOn_10 : decode cX6_pawnOn 10 = .ok (.aload_n 0, 1) := by decide +kernel
theorem dX6_pawnOn_11 : decode cX6_pawnOn 11 = .ok (.getfield 20, 3) := by decide +kernel
theorem dX6_pawnOn_14 : decode cX6_pawnOn 14 = .ok (.iload_n 2, 1) := by decide +kernel
theorem dX6_pawnOn_15 : decode cX6_pawnOn 15 = .ok (.aaload, 1) := by decide +kernel
theorem dX6_pawnOn_16 : decode cX6_pawnOn 16 = .ok (.getfield 62, 3) := by decide +kernel
theorem dX6_pawnOn_19 : decode cX6_pawnOn 19 = .ok (.iload_n 1, 1) := by decide +kernel
theorem dX6_pawnOn_20 : decode cX6_pawnOn 20 = .ok (.if_icmp .ne 17, 3) := by decide +kernel
theorem dX6_pawnOn_23 : decode cX6_pawnOn 23 = .ok (.aload_n 0, 1) := by decide +kernel
theorem dX6_pawnOn_24 : decode cX6_pawnOn 24 = .ok (.getfield 20, 3) := by decide +kernel
theorem dX6_pawnOn_27 : decode cX6_pawnOn 27 = .ok (.iload_n 2, 1) := by decide +kernel
theorem dX6_pawnOn_28 : decode cX6_pawnOn 28 = .ok (.aaload, 1) := by decide +kernel
theorem dX6_pawnOn_29 : decode cX6_pawnOn 29 = .ok (.getfield 77, 3) := by decide +kernel
theorem dX6_pawnOn_32 : decode cX6_pawnOn 32 = .ok (.ifCond .ne 5, 3) := by decide +kernel
theorem dX6_pawnOn_35 : decode cX6_pawnOn 35 = .ok (.iload_n 2, 1) := by decide +kernel
theorem dX6_pawnOn_36 : decode cX6_pawnOn 36 = .ok (.ireturn, 1) := by decide +kernel
theorem dX6_pawnOn_37 : decode cX6_pawnOn 37 = .ok (.iinc 2 1, 3) := by decide +kernel
theorem dX6_pawnOn_40 : decode cX6_pawnOn 40 = .ok (.goto (-38), 3) := by decide +kernel
theorem dX6_pawnOn_43 : decode cX6_pawnOn 43 = .ok (.iconst (-1), 1) := by decide +kernel
theorem dX6_pawnOn_44 : decode cX6_pawnOn 44 = .ok (.ireturn, 1) := by decide +kernel
theorem dX6_pawnOfRank_0 : decode cX6_pawnOfRank 0 = .ok (.iconst 0, 1) := by decide +kernel
theorem dX6_pawnOfRank_1 : decode cX6_pawnOfRank 1 = .ok (.istore_n 2, 1) := by decide +kernel
theorem dX6_pawnOfRank_2 : decode cX6_pawnOfRank 2 = .ok (.iload_n 2, 1) := by decide +kernel
theorem dX6_pawnOfRank_3 : decode cX6_pawnOfRank 3 = .ok (.aload_n 0, 1) := by decide +kernel
theorem dX6_pawnOfRank_4 : decode cX6_pawnOfRank 4 = .ok (.getfield 36, 3) := by decide +kernel
theorem dX6_pawnOfRank_7 : decode cX6_pawnOfRank 7 = .ok (.if_icmp .ge 28, 3) := by decide +kernel
theorem dX6_pawnOfRank_10 : decode cX6_pawnOfRank 10 = .ok (.iload_n 1, 1) := by decide +kernel
theorem dX6_pawnOfRank_11 : decode cX6_pawnOfRank 11 = .ok (.ifCond .le 18, 3) := by decide +kernel
theorem dX6_pawnOfRank_14 : decode cX6_pawnOfRank 14 = .ok (.aload_n 0, 1) := by decide +kernel
theorem dX6_pawnOfRank_15 : decode cX6_pawnOfRank 15 = .ok (.getfield 20, 3) := by decide +kernel
theorem dX6_pawnOfRank_18 : decode cX6_pawnOfRank 18 = .ok (.iload_n 2, 1) := by decide +kernel
theorem dX6_pawnOfRank_19 : decode cX6_pawnOfRank 19 = .ok (.aaload, 1) := by decide +kernel
theorem dX6_pawnOfRank_20 : decode cX6_pawnOfRank 20 = .ok (.getfield 77, 3) := by decide +kernel
theorem dX6_pawnOfRank_23 : decode cX6_pawnOfRank 23 = .ok (.iload_n 1, 1) := by decide +kernel
theorem dX6_pawnOfRank_24 : decode cX6_pawnOfRank 24 = .ok (.if_icmp .ne 5, 3) := by decide +kernel
theorem dX6_pawnOfRank_27 : decode cX6_pawnOfRank 27 = .ok (.iload_n 2, 1) := by decide +kernel
theorem dX6_pawnOfRank_28 : decode cX6_pawnOfRank 28 = .ok (.ireturn, 1) := by decide +kernel
theorem dX6_pawnOfRank_29 : decode cX6_pawnOfRank 29 = .ok (.iinc 2 1, 3) := by decide +kernel
theorem dX6_pawnOfRank_32 : decode cX6_pawnOfRank 32 = .ok (.goto (-30), 3) := by decide +kernel
theorem dX6_pawnOfRank_35 : decode cX6_pawnOfRank 35 = .ok (.iconst (-1), 1) := by decide +kernel
theorem dX6_pawnOfRank_36 : decode cX6_pawnOfRank 36 = .ok (.ireturn, 1) := by decide +kernel
theorem dX6_bansOf_0 : decode cX6_bansOf 0 = .ok (.iconst 0, 1) := by decide +kernel
theorem dX6_bansOf_1 : decode cX6_bansOf 1 = .ok (.istore_n 2, 1) := by decide +kernel
theorem dX6_bansOf_2 : decode cX6_bansOf 2 = .ok (.iconst 0, 1) := by decide +kernel
theorem dX6_bansOf_3 : decode cX6_bansOf 3 = .ok (.istore_n 3, 1) := by decide +kernel
theorem dX6_bansOf_4 : decode cX6_bansOf 4 = .ok (.iload_n 3, 1) := by decide +kernel
theorem dX6_bansOf_5 : decode cX6_bansOf 5 = .ok (.aload_n 0, 1) := by decide +kernel
theorem dX6_bansOf_6 : decode cX6_bansOf 6 = .ok (.getfield 40, 3) := by decide +kernel
theorem dX6_bansOf_9 : decode cX6_bansOf 9 = .ok (.if_icmp .ge 25, 3) := by decide +kernel
theorem dX6_bansOf_12 : decode cX6_bansOf 12 = .ok (.aload_n 0, 1) := by decide +kernel
theorem dX6_bansOf_13 : decode cX6_bansOf 13 = .ok (.getfield 27, 3) := by decide +kernel
theorem dX6_bansOf_16 : decode cX6_bansOf 16 = .ok (.iload_n 3, 1) := by decide +kernel
theorem dX6_bansOf_17 : decode cX6_bansOf 17 = .ok (.aaload, 1) := by decide +kernel
theorem dX6_bansOf_18 : decode cX6_bansOf 18 = .ok (.getfield 84, 3) := by decide +kernel
theorem dX6_bansOf_21 : decode cX6_bansOf 21 = .ok (.iload_n 1, 1) := by decide +kernel
theorem dX6_bansOf_22 : decode cX6_bansOf 22 = .ok (.if_icmp .ne 6, 3) := by decide +kernel
theorem dX6_bansOf_25 : decode cX6_bansOf 25 = .ok (.iinc 2 1, 3) := by decide +kernel
theorem dX6_bansOf_28 : decode cX6_bansOf 28 = .ok (.iinc 3 1, 3) := by decide +kernel
theorem dX6_bansOf_31 : decode cX6_bansOf 31 = .ok (.goto (-27), 3) := by decide +kernel
theorem dX6_bansOf_34 : decode cX6_bansOf 34 = .ok (.iload_n 2, 1) := by decide +kernel
theorem dX6_bansOf_35 : decode cX6_bansOf 35 = .ok (.ireturn, 1) := by decide +kernel
theorem dX6_bannedByNumber_0 : decode cX6_bannedByNumber 0 = .ok (.iconst 0, 1) := by decide +kernel
theorem dX6_bannedByNumber_1 : decode cX6_bannedByNumber 1 = .ok (.istore_n 3, 1) := by decide +kernel
theorem dX6_bannedByNumber_2 : decode cX6_bannedByNumber 2 = .ok (.iconst 0, 1) := by decide +kernel
theorem dX6_bannedByNumber_3 : decode cX6_bannedByNumber 3 = .ok (.istore 4, 2) := by decide +kernel
theorem dX6_bannedByNumber_5 : decode cX6_bannedByNumber 5 = .ok (.iload 4, 2) := by decide +kernel
theorem dX6_bannedByNumber_7 : decode cX6_bannedByNumber 7 = .ok (.aload_n 0, 1) := by decide +kernel
theorem dX6_bannedByNumber_8 : decode cX6_bannedByNumber 8 = .ok (.getfield 40, 3) := by decide +kernel
theorem dX6_bannedByNumber_11 : decode cX6_bannedByNumber 11 = .ok (.if_icmp .ge 37, 3) := by decide +kernel
theorem dX6_bannedByNumber_14 : decode cX6_bannedByNumber 14 = .ok (.aload_n 0, 1) := by decide +kernel
theorem dX6_bannedByNumber_15 : decode cX6_bannedByNumber 15 = .ok (.getfield 27, 3) := by decide +kernel
theorem dX6_bannedByNumber_18 : decode cX6_bannedByNumber 18 = .ok (.iload 4, 2) := by decide +kernel
theorem dX6_bannedByNumber_20 : decode cX6_bannedByNumber 20 = .ok (.aaload, 1) := by decide +kernel
theorem dX6_bannedByNumber_21 : decode cX6_bannedByNumber 21 = .ok (.getfield 84, 3) := by decide +kernel
theorem dX6_bannedByNumber_24 : decode cX6_bannedByNumber 24 = .ok (.iload_n 1, 1) := by decide +kernel
theorem dX6_bannedByNumber_25 : decode cX6_bannedByNumber 25 = .ok (.if_icmp .ne 17, 3) := by decide +kernel
theorem dX6_bannedByNumber_28 : decode cX6_bannedByNumber 28 = .ok (.iload_n 3, 1) := by decide +kernel
theorem dX6_bannedByNumber_29 : decode cX6_bannedByNumber 29 = .ok (.aload_n 0, 1) := by decide +kernel
theorem dX6_bannedByNumber_30 : decode cX6_bannedByNumber 30 = .ok (.getfield 27, 3) := by decide +kernel
theorem dX6_bannedByNumber_33 : decode cX6_bannedByNumber 33 = .ok (.iload 4, 2) := by decide +kernel
theorem dX6_bannedByNumber_35 : decode cX6_bannedByNumber 35 = .ok (.aaload, 1) := by decide +kernel
theorem dX6_bannedByNumber_36 : decode cX6_bannedByNumber 36 = .ok (.iload_n 2, 1) := by decide +kernel
theorem dX6_bannedByNumber_37 : decode cX6_bannedByNumber 37 = .ok (.invokevirtual 87, 3) := by decide +kernel
theorem dX6_bannedByNumber_40 : decode cX6_bannedByNumber 40 = .ok (.ior, 1) := by decide +kernel
theorem dX6_bannedByNumber_41 : decode cX6_bannedByNumber 41 = .ok (.istore_n 3, 1) := by decide +kernel
theorem dX6_bannedByNumber_42 : decode cX6_bannedByNumber 42 = .ok (.iinc 4 1, 3) := by decide +kernel
theorem dX6_bannedByNumber_45 : decode cX6_bannedByNumber 45 = .ok (.goto (-40), 3) := by decide +kernel
theorem dX6_bannedByNumber_48 : decode cX6_bannedByNumber 48 = .ok (.iload_n 3, 1) := by decide +kernel
theorem dX6_bannedByNumber_49 : decode cX6_bannedByNumber 49 = .ok (.ireturn, 1) := by decide +kernel
theorem dX6_bannedNow_0 : decode cX6_bannedNow 0 = .ok (.aload_n 0, 1) := by decide +kernel
theorem dX6_bannedNow_1 : decode cX6_bannedNow 1 = .ok (.getfield 20, 3) := by decide +kernel
theorem dX6_bannedNow_4 : decode cX6_bannedNow 4 = .ok (.iload_n 1, 1) := by decide +kernel
theorem dX6_bannedNow_5 : decode cX6_bannedNow 5 = .ok (.aaload, 1) := by decide +kernel
theorem dX6_bannedNow_6 : decode cX6_bannedNow 6 = .ok (.astore_n 2, 1) := by decide +kernel
theorem dX6_bannedNow_7 : decode cX6_bannedNow 7 = .ok (.iconst 0, 1) := by decide +kernel
theorem dX6_bannedNow_8 : decode cX6_bannedNow 8 = .ok (.istore_n 3, 1) := by decide +kernel
theorem dX6_bannedNow_9 : decode cX6_bannedNow 9 = .ok (.iconst 0, 1) := by decide +kernel
theorem dX6_bannedNow_10 : decode cX6_bannedNow 10 = .ok (.istore 4, 2) := by decide +kernel
theorem dX6_bannedNow_12 : decode cX6_bannedNow 12 = .ok (.iload 4, 2) := by decide +kernel
theorem dX6_bannedNow_14 : decode cX6_bannedNow 14 = .ok (.aload_n 0, 1) := by decide +kernel
theorem dX6_bannedNow_15 : decode cX6_bannedNow 15 = .ok (.getfield 40, 3) := by decide +kernel
theorem dX6_bannedNow_18 : decode cX6_bannedNow 18 = .ok (.if_icmp .ge 59, 3) := by decide +kernel
theorem dX6_bannedNow_21 : decode cX6_bannedNow 21 = .ok (.aload_n 0, 1) := by decide +kernel
theorem dX6_bannedNow_22 : decode cX6_bannedNow 22 = .ok (.getfield 27, 3) := by decide +kernel
theorem dX6_bannedNow_25 : decode cX6_bannedNow 25 = .ok (.iload 4, 2) := by decide +kernel
theorem dX6_bannedNow_27 : decode cX6_bannedNow 27 = .ok (.aaload, 1) := by decide +kernel
theorem dX6_bannedNow_28 : decode cX6_bannedNow 28 = .ok (.astore 5, 2) := by decide +kernel
theorem dX6_bannedNow_30 : decode cX6_bannedNow 30 = .ok (.aload 5, 2) := by decide +kernel
theorem dX6_bannedNow_32 : decode cX6_bannedNow 32 = .ok (.getfield 84, 3) := by decide +kernel
theorem dX6_bannedNow_35 : decode cX6_bannedNow 35 = .ok (.iload_n 1, 1) := by decide +kernel
theorem dX6_bannedNow_36 : decode cX6_bannedNow 36 = .ok (.if_icmp .ne 35, 3) := by decide +kernel
theorem dX6_bannedNow_39 : decode cX6_bannedNow 39 = .ok (.iload_n 3, 1) := by decide +kernel
theorem dX6_bannedNow_40 : decode cX6_bannedNow 40 = .ok (.aload 5, 2) := by decide +kernel
theorem dX6_bannedNow_42 : decode cX6_bannedNow 42 = .ok (.aload_n 2, 1) := by decide +kernel
theorem dX6_bannedNow_43 : decode cX6_bannedNow 43 = .ok (.getfield 74, 3) := by decide +kernel
theorem dX6_bannedNow_46 : decode cX6_bannedNow 46 = .ok (.invokevirtual 91, 3) := by decide +kernel
theorem dX6_bannedNow_49 : decode cX6_bannedNow 49 = .ok (.aload 5, 2) := by decide +kernel
theorem dX6_bannedNow_51 : decode cX6_bannedNow 51 = .ok (.aload_n 2, 1) := by decide +kernel
theorem dX6_bannedNow_52 : decode cX6_bannedNow 52 = .ok (.getfield 71, 3) := by decide +kernel
theorem dX6_bannedNow_55 : decode cX6_bannedNow 55 = .ok (.invokevirtual 87, 3) := by decide +kernel
theorem dX6_bannedNow_58 : decode cX6_bannedNow 58 = .ok (.ior, 1) := by decide +kernel
theorem dX6_bannedNow_59 : decode cX6_bannedNow 59 = .ok (.aload 5, 2) := by decide +kernel
theorem dX6_bannedNow_61 : decode cX6_bannedNow 61 = .ok (.aload_n 2, 1) := by decide +kernel
theorem dX6_bannedNow_62 : decode cX6_bannedNow 62 = .ok (.getfield 62, 3) := by decide +kernel
theorem dX6_bannedNow_65 : decode cX6_bannedNow 65 = .ok (.invokevirtual 94, 3) := by decide +kernel
theorem dX6_bannedNow_68 : decode cX6_bannedNow 68 = .ok (.ior, 1) := by decide +kernel
theorem dX6_bannedNow_69 : decode cX6_bannedNow 69 = .ok (.ior, 1) := by decide +kernel
theorem dX6_bannedNow_70 : decode cX6_bannedNow 70 = .ok (.istore_n 3, 1) := by decide +kernel
theorem dX6_bannedNow_71 : decode cX6_bannedNow 71 = .ok (.iinc 4 1, 3) := by decide +kernel
theorem dX6_bannedNow_74 : decode cX6_bannedNow 74 = .ok (.goto (-62), 3) := by decide +kernel
theorem dX6_bannedNow_77 : decode cX6_bannedNow 77 = .ok (.iload_n 3, 1) := by decide +kernel
theorem dX6_bannedNow_78 : decode cX6_bannedNow 78 = .ok (.ireturn, 1) := by decide +kernel
theorem dX6_landing_0 : decode cX6_landing 0 = .ok (.aload_n 0, 1) := by decide +kernel
theorem dX6_landing_1 : decode cX6_landing 1 = .ok (.invokevirtual 80, 3) := by decide +kernel
theorem dX6_landing_4 : decode cX6_landing 4 = .ok (.ifCond .ne 27, 3) := by decide +kernel
theorem dX6_landing_7 : decode cX6_landing 7 = .ok (.aload_n 0, 1) := by decide +kernel
theorem dX6_landing_8 : decode cX6_landing 8 = .ok (.getfield 20, 3) := by decide +kernel
theorem dX6_landing_11 : decode cX6_landing 11 = .ok (.iload_n 1, 1) := by decide +kernel
theorem dX6_landing_12 : decode cX6_landing 12 = .ok (.aaload, 1) := by decide +kernel
theorem dX6_landing_13 : decode cX6_landing 13 = .ok (.getfield 77, 3) := by decide +kernel
theorem dX6_landing_16 : decode cX6_landing 16 = .ok (.ifCond .ne 15, 3) := by decide +kernel
theorem dX6_landing_19 : decode cX6_landing 19 = .ok (.aload_n 0, 1) := by decide +kernel
theorem dX6_landing_20 : decode cX6_landing 20 = .ok (.iload_n 1, 1) := by decide +kernel
theorem dX6_landing_21 : decode cX6_landing 21 = .ok (.invokevirtual 97, 3) := by decide +kernel
theorem dX6_landing_24 : decode cX6_landing 24 = .ok (.iload_n 2, 1) := by decide +kernel
theorem dX6_landing_25 : decode cX6_landing 25 = .ok (.ishr, 1) := by decide +kernel
theorem dX6_landing_26 : decode cX6_landing 26 = .ok (.iconst 1, 1) := by decide +kernel
theorem dX6_landing_27 : decode cX6_landing 27 = .ok (.iand, 1) := by decide +kernel
theorem dX6_landing_28 : decode cX6_landing 28 = .ok (.ifCond .eq 5, 3) := by decide +kernel
theorem dX6_landing_31 : decode cX6_landing 31 = .ok (.iconst (-1), 1) := by decide +kernel
theorem dX6_landing_32 : decode cX6_landing 32 = .ok (.ireturn, 1) := by decide +kernel
theorem dX6_landing_33 : decode cX6_landing 33 = .ok (.aload_n 0, 1) := by decide +kernel
theorem dX6_landing_34 : decode cX6_landing 34 = .ok (.getfield 12, 3) := by decide +kernel
theorem dX6_landing_37 : decode cX6_landing 37 = .ok (.aload_n 0, 1) := by decide +kernel
theorem dX6_landing_38 : decode cX6_landing 38 = .ok (.getfield 20, 3) := by decide +kernel
theorem dX6_landing_41 : decode cX6_landing 41 = .ok (.iload_n 1, 1) := by decide +kernel
theorem dX6_landing_42 : decode cX6_landing 42 = .ok (.aaload, 1) := by decide +kernel
theorem dX6_landing_43 : decode cX6_landing 43 = .ok (.getfield 62, 3) := by decide +kernel
theorem dX6_landing_46 : decode cX6_landing 46 = .ok (.iload_n 2, 1) := by decide +kernel
theorem dX6_landing_47 : decode cX6_landing 47 = .ok (.invokevirtual 100, 3) := by decide +kernel
theorem dX6_landing_50 : decode cX6_landing 50 = .ok (.istore_n 3, 1) := by decide +kernel
theorem dX6_landing_51 : decode cX6_landing 51 = .ok (.iload_n 3, 1) := by decide +kernel
theorem dX6_landing_52 : decode cX6_landing 52 = .ok (.iconst (-1), 1) := by decide +kernel
theorem dX6_landing_53 : decode cX6_landing 53 = .ok (.if_icmp .eq 12, 3) := by decide +kernel
theorem dX6_landing_56 : decode cX6_landing 56 = .ok (.aload_n 0, 1) := by decide +kernel
theorem dX6_landing_57 : decode cX6_landing 57 = .ok (.iload_n 3, 1) := by decide +kernel
theorem dX6_landing_58 : decode cX6_landing 58 = .ok (.invokevirtual 104, 3) := by decide +kernel
theorem dX6_landing_61 : decode cX6_landing 61 = .ok (.iconst (-1), 1) := by decide +kernel
theorem dX6_landing_62 : decode cX6_landing 62 = .ok (.if_icmp .ne 5, 3) := by decide +kernel
theorem dX6_landing_65 : decode cX6_landing 65 = .ok (.iload_n 3, 1) := by decide +kernel
theorem dX6_landing_66 : decode cX6_landing 66 = .ok (.ireturn, 1) := by decide +kernel
theorem dX6_landing_67 : decode cX6_landing 67 = .ok (.aload_n 0, 1) := by decide +kernel
theorem dX6_landing_68 : decode cX6_landing 68 = .ok (.getfield 12, 3) := by decide +kernel
theorem dX6_landing_71 : decode cX6_landing 71 = .ok (.iload_n 3, 1) := by decide +kernel
theorem dX6_landing_72 : decode cX6_landing 72 = .ok (.iload_n 2, 1) := by decide +kernel
theorem dX6_landing_73 : decode cX6_landing 73 = .ok (.invokevirtual 100, 3) := by decide +kernel
theorem dX6_landing_76 : decode cX6_landing 76 = .ok (.istore_n 3, 1) := by decide +kernel
theorem dX6_landing_77 : decode cX6_landing 77 = .ok (.iload_n 3, 1) := by decide +kernel
theorem dX6_landing_78 : decode cX6_landing 78 = .ok (.iconst (-1), 1) := by decide +kernel
theorem dX6_landing_79 : decode cX6_landing 79 = .ok (.if_icmp .eq 12, 3) := by decide +kernel
theorem dX6_landing_82 : decode cX6_landing 82 = .ok (.aload_n 0, 1) := by decide +kernel
theorem dX6_landing_83 : decode cX6_landing 83 = .ok (.iload_n 3, 1) := by decide +kernel
theorem dX6_landing_84 : decode cX6_landing 84 = .ok (.invokevirtual 104, 3) := by decide +kernel
theorem dX6_landing_87 : decode cX6_landing 87 = .ok (.iconst (-1), 1) := by decide +kernel
theorem dX6_landing_88 : decode cX6_landing 88 = .ok (.if_icmp .eq 7, 3) := by decide +kernel
theorem dX6_landing_91 : decode cX6_landing 91 = .ok (.iconst (-1), 1) := by decide +kernel
theorem dX6_landing_92 : decode cX6_landing 92 = .ok (.goto 4, 3) := by decide +kernel
theorem dX6_landing_95 : decode cX6_landing 95 = .ok (.iload_n 3, 1) := by decide +kernel
theorem dX6_landing_96 : decode cX6_landing 96 = .ok (.ireturn, 1) := by decide +kernel
theorem dX6_stepMask_0 : decode cX6_stepMask 0 = .ok (.iconst 0, 1) := by decide +kernel
theorem dX6_stepMask_1 : decode cX6_stepMask 1 = .ok (.istore_n 2, 1) := by decide +kernel
theorem dX6_stepMask_2 : decode cX6_stepMask 2 = .ok (.iconst 0, 1) := by decide +kernel
theorem dX6_stepMask_3 : decode cX6_stepMask 3 = .ok (.istore_n 3, 1) := by decide +kernel
theorem dX6_stepMask_4 : decode cX6_stepMask 4 = .ok (.iload_n 3, 1) := by decide +kernel
theorem dX6_stepMask_5 : decode cX6_stepMask 5 = .ok (.iconst 4, 1) := by decide +kernel
theorem dX6_stepMask_6 : decode cX6_stepMask 6 = .ok (.if_icmp .ge 29, 3) := by decide +kernel
theorem dX6_stepMask_9 : decode cX6_stepMask 9 = .ok (.iload_n 2, 1) := by decide +kernel
theorem dX6_stepMask_10 : decode cX6_stepMask 10 = .ok (.aload_n 0, 1) := by decide +kernel
theorem dX6_stepMask_11 : decode cX6_stepMask 11 = .ok (.iload_n 1, 1) := by decide +kernel
theorem dX6_stepMask_12 : decode cX6_stepMask 12 = .ok (.iload_n 3, 1) := by decide +kernel
theorem dX6_stepMask_13 : decode cX6_stepMask 13 = .ok (.invokevirtual 107, 3) := by decide +kernel
theorem dX6_stepMask_16 : decode cX6_stepMask 16 = .ok (.iconst (-1), 1) := by decide +kernel
theorem dX6_stepMask_17 : decode cX6_stepMask 17 = .ok (.if_icmp .ne 7, 3) := by decide +kernel
theorem dX6_stepMask_20 : decode cX6_stepMask 20 = .ok (.iconst 0, 1) := by decide +kernel
theorem dX6_stepMask_21 : decode cX6_stepMask 21 = .ok (.goto 6, 3) := by decide +kernel
theorem dX6_stepMask_24 : decode cX6_stepMask 24 = .ok (.iconst 1, 1) := by decide +kernel
theorem dX6_stepMask_25 : decode cX6_stepMask 25 = .ok (.iload_n 3, 1) := by decide +kernel
theorem dX6_stepMask_26 : decode cX6_stepMask 26 = .ok (.ishl, 1) := by decide +kernel
theorem dX6_stepMask_27 : decode cX6_stepMask 27 = .ok (.ior, 1) := by decide +kernel
theorem dX6_stepMask_28 : decode cX6_stepMask 28 = .ok (.istore_n 2, 1) := by decide +kernel
theorem dX6_stepMask_29 : decode cX6_stepMask 29 = .ok (.iinc 3 1, 3) := by decide +kernel
theorem dX6_stepMask_32 : decode cX6_stepMask 32 = .ok (.goto (-28), 3) := by decide +kernel
theorem dX6_stepMask_35 : decode cX6_stepMask 35 = .ok (.iload_n 2, 1) := by decide +kernel
theorem dX6_stepMask_36 : decode cX6_stepMask 36 = .ok (.ireturn, 1) := by decide +kernel
theorem dX6_mayMove_0 : decode cX6_mayMove 0 = .ok (.aload_n 0, 1) := by decide +kernel
theorem dX6_mayMove_1 : decode cX6_mayMove 1 = .ok (.invokevirtual 80, 3) := by decide +kernel
theorem dX6_mayMove_4 : decode cX6_mayMove 4 = .ok (.ifCond .ne 20, 3) := by decide +kernel
theorem dX6_mayMove_7 : decode cX6_mayMove 7 = .ok (.aload_n 0, 1) := by decide +kernel
theorem dX6_mayMove_8 : decode cX6_mayMove 8 = .ok (.aload_n 0, 1) := by decide +kernel
theorem dX6_mayMove_9 : decode cX6_mayMove 9 = .ok (.getfield 46, 3) := by decide +kernel
theorem dX6_mayMove_12 : decode cX6_mayMove 12 = .ok (.iload_n 1, 1) := by decide +kernel
theorem dX6_mayMove_13 : decode cX6_mayMove 13 = .ok (.invokevirtual 107, 3) := by decide +kernel
theorem dX6_mayMove_16 : decode cX6_mayMove 16 = .ok (.iconst (-1), 1) := by decide +kernel
theorem dX6_mayMove_17 : decode cX6_mayMove 17 = .ok (.if_icmp .eq 7, 3) := by decide +kernel
theorem dX6_mayMove_20 : decode cX6_mayMove 20 = .ok (.iconst 1, 1) := by decide +kernel
theorem dX6_mayMove_21 : decode cX6_mayMove 21 = .ok (.goto 4, 3) := by decide +kernel
theorem dX6_mayMove_24 : decode cX6_mayMove 24 = .ok (.iconst 0, 1) := by decide +kernel
theorem dX6_mayMove_25 : decode cX6_mayMove 25 = .ok (.ireturn, 1) := by decide +kernel
theorem dX6_mayPass_0 : decode cX6_mayPass 0 = .ok (.aload_n 0, 1) := by decide +kernel
theorem dX6_mayPass_1 : decode cX6_mayPass 1 = .ok (.invokevirtual 80, 3) := by decide +kernel
theorem dX6_mayPass_4 : decode cX6_mayPass 4 = .ok (.ifCond .ne 18, 3) := by decide +kernel
theorem dX6_mayPass_7 : decode cX6_mayPass 7 = .ok (.aload_n 0, 1) := by decide +kernel
theorem dX6_mayPass_8 : decode cX6_mayPass 8 = .ok (.aload_n 0, 1) := by decide +kernel
theorem dX6_mayPass_9 : decode cX6_mayPass 9 = .ok (.getfield 46, 3) := by decide +kernel
theorem dX6_mayPass_12 : decode cX6_mayPass 12 = .ok (.invokevirtual 110, 3) := by decide +kernel
theorem dX6_mayPass_15 : decode cX6_mayPass 15 = .ok (.ifCond .ne 7, 3) := by decide +kernel
theorem dX6_mayPass_18 : decode cX6_mayPass 18 = .ok (.iconst 1, 1) := by decide +kernel
theorem dX6_mayPass_19 : decode cX6_mayPass 19 = .ok (.goto 4, 3) := by decide +kernel
theorem dX6_mayPass_22 : decode cX6_mayPass 22 = .ok (.iconst 0, 1) := by decide +kernel
theorem dX6_mayPass_23 : decode cX6_mayPass 23 = .ok (.ireturn, 1) := by decide +kernel
theorem dX6_move_0 : decode cX6_move 0 = .ok (.aload_n 0, 1) := by decide +kernel
theorem dX6_move_1 : decode cX6_move 1 = .ok (.aload_n 0, 1) := by decide +kernel
theorem dX6_move_2 : decode cX6_move 2 = .ok (.getfield 46, 3) := by decide +kernel
theorem dX6_move_5 : decode cX6_move 5 = .ok (.iload_n 1, 1) := by decide +kernel
theorem dX6_move_6 : decode cX6_move 6 = .ok (.invokevirtual 107, 3) := by decide +kernel
theorem dX6_move_9 : decode cX6_move 9 = .ok (.istore_n 2, 1) := by decide +kernel
theorem dX6_move_10 : decode cX6_move 10 = .ok (.iload_n 2, 1) := by decide +kernel
theorem dX6_move_11 : decode cX6_move 11 = .ok (.iconst (-1), 1) := by decide +kernel
theorem dX6_move_12 : decode cX6_move 12 = .ok (.if_icmp .ne 4, 3) := by decide +kernel
theorem dX6_move_15 : decode cX6_move 15 = .ok (.return_, 1) := by decide +kernel
theorem dX6_move_16 : decode cX6_move 16 = .ok (.aload_n 0, 1) := by decide +kernel
theorem dX6_move_17 : decode cX6_move 17 = .ok (.getfield 20, 3) := by decide +kernel
theorem dX6_move_20 : decode cX6_move 20 = .ok (.aload_n 0, 1) := by decide +kernel
theorem dX6_move_21 : decode cX6_move 21 = .ok (.getfield 46, 3) := by decide +kernel
theorem dX6_move_24 : decode cX6_move 24 = .ok (.aaload, 1) := by decide +kernel
theorem dX6_move_25 : decode cX6_move 25 = .ok (.astore_n 3, 1) := by decide +kernel
theorem dX6_move_26 : decode cX6_move 26 = .ok (.aload_n 3, 1) := by decide +kernel
theorem dX6_move_27 : decode cX6_move 27 = .ok (.iload_n 2, 1) := by decide +kernel
theorem dX6_move_28 : decode cX6_move 28 = .ok (.putfield 62, 3) := by decide +kernel
theorem dX6_move_31 : decode cX6_move 31 = .ok (.aload_n 3, 1) := by decide +kernel
theorem dX6_move_32 : decode cX6_move 32 = .ok (.dup, 1) := by decide +kernel
theorem dX6_move_33 : decode cX6_move 33 = .ok (.getfield 71, 3) := by decide +kernel
theorem dX6_move_36 : decode cX6_move 36 = .ok (.iconst 1, 1) := by decide +kernel
theorem dX6_move_37 : decode cX6_move 37 = .ok (.iadd, 1) := by decide +kernel
theorem dX6_move_38 : decode cX6_move 38 = .ok (.putfield 71, 3) := by decide +kernel
theorem dX6_move_41 : decode cX6_move 41 = .ok (.aload_n 3, 1) := by decide +kernel
theorem dX6_move_42 : decode cX6_move 42 = .ok (.iload_n 1, 1) := by decide +kernel
theorem dX6_move_43 : decode cX6_move 43 = .ok (.putfield 74, 3) := by decide +kernel
theorem dX6_move_46 : decode cX6_move 46 = .ok (.aload_n 0, 1) := by decide +kernel
theorem dX6_move_47 : decode cX6_move 47 = .ok (.getfield 12, 3) := by decide +kernel
theorem dX6_move_50 : decode cX6_move 50 = .ok (.iload_n 2, 1) := by decide +kernel
theorem dX6_move_51 : decode cX6_move 51 = .ok (.aload_n 3, 1) := by decide +kernel
theorem dX6_move_52 : decode cX6_move 52 = .ok (.getfield 65, 3) := by decide +kernel
theorem dX6_move_55 : decode cX6_move 55 = .ok (.invokevirtual 113, 3) := by decide +kernel
theorem dX6_move_58 : decode cX6_move 58 = .ok (.ifCond .eq 21, 3) := by decide +kernel
theorem dX6_move_61 : decode cX6_move 61 = .ok (.aload_n 0, 1) := by decide +kernel
theorem dX6_move_62 : decode cX6_move 62 = .ok (.dup, 1) := by decide +kernel
theorem dX6_move_63 : decode cX6_move 63 = .ok (.getfield 49, 3) := by decide +kernel
theorem dX6_move_66 : decode cX6_move 66 = .ok (.iconst 1, 1) := by decide +kernel
theorem dX6_move_67 : decode cX6_move 67 = .ok (.iadd, 1) := by decide +kernel
theorem dX6_move_68 : decode cX6_move 68 = .ok (.putfield 49, 3) := by decide +kernel
theorem dX6_move_71 : decode cX6_move 71 = .ok (.aload_n 3, 1) := by decide +kernel
theorem dX6_move_72 : decode cX6_move 72 = .ok (.aload_n 0, 1) := by decide +kernel
theorem dX6_move_73 : decode cX6_move 73 = .ok (.getfield 49, 3) := by decide +kernel
theorem dX6_move_76 : decode cX6_move 76 = .ok (.putfield 77, 3) := by decide +kernel
theorem dX6_move_79 : decode cX6_move 79 = .ok (.aload_n 0, 1) := by decide +kernel
theorem dX6_move_80 : decode cX6_move 80 = .ok (.invokevirtual 117, 3) := by decide +kernel
theorem dX6_move_83 : decode cX6_move 83 = .ok (.return_, 1) := by decide +kernel
theorem dX6_buildWall_0 : decode cX6_buildWall 0 = .ok (.aload_n 0, 1) := by decide +kernel
theorem dX6_buildWall_1 : decode cX6_buildWall 1 = .ok (.getfield 12, 3) := by decide +kernel
theorem dX6_buildWall_4 : decode cX6_buildWall 4 = .ok (.iload_n 1, 1) := by decide +kernel
theorem dX6_buildWall_5 : decode cX6_buildWall 5 = .ok (.iload_n 2, 1) := by decide +kernel
theorem dX6_buildWall_6 : decode cX6_buildWall 6 = .ok (.iload_n 3, 1) := by decide +kernel
theorem dX6_buildWall_7 : decode cX6_buildWall 7 = .ok (.invokevirtual 120, 3) := by decide +kernel
theorem dX6_buildWall_10 : decode cX6_buildWall 10 = .ok (.aload_n 0, 1) := by decide +kernel
theorem dX6_buildWall_11 : decode cX6_buildWall 11 = .ok (.getfield 20, 3) := by decide +kernel
theorem dX6_buildWall_14 : decode cX6_buildWall 14 = .ok (.aload_n 0, 1) := by decide +kernel
theorem dX6_buildWall_15 : decode cX6_buildWall 15 = .ok (.getfield 46, 3) := by decide +kernel
theorem dX6_buildWall_18 : decode cX6_buildWall 18 = .ok (.aaload, 1) := by decide +kernel
theorem dX6_buildWall_19 : decode cX6_buildWall 19 = .ok (.dup, 1) := by decide +kernel
theorem dX6_buildWall_20 : decode cX6_buildWall 20 = .ok (.getfield 68, 3) := by decide +kernel
theorem dX6_buildWall_23 : decode cX6_buildWall 23 = .ok (.iconst 1, 1) := by decide +kernel
theorem dX6_buildWall_24 : decode cX6_buildWall 24 = .ok (.isub, 1) := by decide +kernel
theorem dX6_buildWall_25 : decode cX6_buildWall 25 = .ok (.putfield 68, 3) := by decide +kernel
theorem dX6_buildWall_28 : decode cX6_buildWall 28 = .ok (.aload_n 0, 1) := by decide +kernel
theorem dX6_buildWall_29 : decode cX6_buildWall 29 = .ok (.invokevirtual 117, 3) := by decide +kernel
theorem dX6_buildWall_32 : decode cX6_buildWall 32 = .ok (.return_, 1) := by decide +kernel
theorem dX6_endTurn_0 : decode cX6_endTurn 0 = .ok (.aload_n 0, 1) := by decide +kernel
theorem dX6_endTurn_1 : decode cX6_endTurn 1 = .ok (.dup, 1) := by decide +kernel
theorem dX6_endTurn_2 : decode cX6_endTurn 2 = .ok (.getfield 43, 3) := by decide +kernel
theorem dX6_endTurn_5 : decode cX6_endTurn 5 = .ok (.iconst 1, 1) := by decide +kernel
theorem dX6_endTurn_6 : decode cX6_endTurn 6 = .ok (.iadd, 1) := by decide +kernel
theorem dX6_endTurn_7 : decode cX6_endTurn 7 = .ok (.putfield 43, 3) := by decide +kernel
theorem dX6_endTurn_10 : decode cX6_endTurn 10 = .ok (.iconst 1, 1) := by decide +kernel
theorem dX6_endTurn_11 : decode cX6_endTurn 11 = .ok (.istore_n 1, 1) := by decide +kernel
theorem dX6_endTurn_12 : decode cX6_endTurn 12 = .ok (.iload_n 1, 1) := by decide +kernel
theorem dX6_endTurn_13 : decode cX6_endTurn 13 = .ok (.aload_n 0, 1) := by decide +kernel
theorem dX6_endTurn_14 : decode cX6_endTurn 14 = .ok (.getfield 36, 3) := by decide +kernel
theorem dX6_endTurn_17 : decode cX6_endTurn 17 = .ok (.if_icmp .gt 61, 3) := by decide +kernel
theorem dX6_endTurn_20 : decode cX6_endTurn 20 = .ok (.aload_n 0, 1) := by decide +kernel
theorem dX6_endTurn_21 : decode cX6_endTurn 21 = .ok (.getfield 46, 3) := by decide +kernel
theorem dX6_endTurn_24 : decode cX6_endTurn 24 = .ok (.iload_n 1, 1) := by decide +kernel
theorem dX6_endTurn_25 : decode cX6_endTurn 25 = .ok (.iadd, 1) := by decide +kernel
theorem dX6_endTurn_26 : decode cX6_endTurn 26 = .ok (.aload_n 0, 1) := by decide +kernel
theorem dX6_endTurn_27 : decode cX6_endTurn 27 = .ok (.getfield 36, 3) := by decide +kernel
theorem dX6_endTurn_30 : decode cX6_endTurn 30 = .ok (.if_icmp .ge 12, 3) := by decide +kernel
theorem dX6_endTurn_33 : decode cX6_endTurn 33 = .ok (.aload_n 0, 1) := by decide +kernel
theorem dX6_endTurn_34 : decode cX6_endTurn 34 = .ok (.getfield 46, 3) := by decide +kernel
theorem dX6_endTurn_37 : decode cX6_endTurn 37 = .ok (.iload_n 1, 1) := by decide +kernel
theorem dX6_endTurn_38 : decode cX6_endTurn 38 = .ok (.iadd, 1) := by decide +kernel
theorem dX6_endTurn_39 : decode cX6_endTurn 39 = .ok (.goto 14, 3) := by decide +kernel
theorem dX6_endTurn_42 : decode cX6_endTurn 42 = .ok (.aload_n 0, 1) := by decide +kernel
theorem dX6_endTurn_43 : decode cX6_endTurn 43 = .ok (.getfield 46, 3) := by decide +kernel
theorem dX6_endTurn_46 : decode cX6_endTurn 46 = .ok (.iload_n 1, 1) := by decide +kernel
theorem dX6_endTurn_47 : decode cX6_endTurn 47 = .ok (.iadd, 1) := by decide +kernel
theorem dX6_endTurn_48 : decode cX6_endTurn 48 = .ok (.aload_n 0, 1) := by decide +kernel
theorem dX6_endTurn_49 : decode cX6_endTurn 49 = .ok (.getfield 36, 3) := by decide +kernel
theorem dX6_endTurn_52 : decode cX6_endTurn 52 = .ok (.isub, 1) := by decide +kernel
theorem dX6_endTurn_53 : decode cX6_endTurn 53 = .ok (.istore_n 2, 1) := by decide +kernel
theorem dX6_endTurn_54 : decode cX6_endTurn 54 = .ok (.aload_n 0, 1) := by decide +kernel
theorem dX6_endTurn_55 : decode cX6_endTurn 55 = .ok (.getfield 20, 3) := by decide +kernel
theorem dX6_endTurn_58 : decode cX6_endTurn 58 = .ok (.iload_n 2, 1) := by decide +kernel
theorem dX6_endTurn_59 : decode cX6_endTurn 59 = .ok (.aaload, 1) := by decide +kernel
theorem dX6_endTurn_60 : decode cX6_endTurn 60 = .ok (.getfield 77, 3) := by decide +kernel
theorem dX6_endTurn_63 : decode cX6_endTurn 63 = .ok (.ifCond .ne 9, 3) := by decide +kernel
theorem dX6_endTurn_66 : decode cX6_endTurn 66 = .ok (.aload_n 0, 1) := by decide +kernel
theorem dX6_endTurn_67 : decode cX6_endTurn 67 = .ok (.iload_n 2, 1) := by decide +kernel
theorem dX6_endTurn_68 : decode cX6_endTurn 68 = .ok (.putfield 46, 3) := by decide +kernel
theorem dX6_endTurn_71 : decode cX6_endTurn 71 = .ok (.return_, 1) := by decide +kernel
theorem dX6_endTurn_72 : decode cX6_endTurn 72 = .ok (.iinc 1 1, 3) := by decide +kernel
theorem dX6_endTurn_75 : decode cX6_endTurn 75 = .ok (.goto (-63), 3) := by decide +kernel
theorem dX6_endTurn_78 : decode cX6_endTurn 78 = .ok (.return_, 1) := by decide +kernel
