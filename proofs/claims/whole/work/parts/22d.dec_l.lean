theorem dL_feed_0 : decode cL_feed 0 = .ok (.aload 6, 2) := by decide +kernel
theorem dL_feed_2 : decode cL_feed 2 = .ok (.iconst 0, 1) := by decide +kernel
theorem dL_feed_3 : decode cL_feed 3 = .ok (.aload_n 0, 1) := by decide +kernel
theorem dL_feed_4 : decode cL_feed 4 = .ok (.iload_n 1, 1) := by decide +kernel
theorem dL_feed_5 : decode cL_feed 5 = .ok (.iload_n 2, 1) := by decide +kernel
theorem dL_feed_6 : decode cL_feed 6 = .ok (.iload_n 3, 1) := by decide +kernel
theorem dL_feed_7 : decode cL_feed 7 = .ok (.iload 4, 2) := by decide +kernel
theorem dL_feed_9 : decode cL_feed 9 = .ok (.iload 5, 2) := by decide +kernel
theorem dL_feed_11 : decode cL_feed 11 = .ok (.invokevirtual 7, 3) := by decide +kernel
theorem dL_feed_14 : decode cL_feed 14 = .ok (.i2l, 1) := by decide +kernel
theorem dL_feed_15 : decode cL_feed 15 = .ok (.lastore, 1) := by decide +kernel
theorem dL_feed_16 : decode cL_feed 16 = .ok (.goto 7, 3) := by decide +kernel
theorem dL_feed_19 : decode cL_feed 19 = .ok (.astore 7, 2) := by decide +kernel
theorem dL_feed_21 : decode cL_feed 21 = .ok (.iconst 1, 1) := by decide +kernel
theorem dL_feed_22 : decode cL_feed 22 = .ok (.ireturn, 1) := by decide +kernel
theorem dL_feed_23 : decode cL_feed 23 = .ok (.iconst 0, 1) := by decide +kernel
theorem dL_feed_24 : decode cL_feed 24 = .ok (.ireturn, 1) := by decide +kernel
theorem dL_truncate_0 : decode cL_truncate 0 = .ok (.aload_n 2, 1) := by decide +kernel
theorem dL_truncate_1 : decode cL_truncate 1 = .ok (.iconst 0, 1) := by decide +kernel
theorem dL_truncate_2 : decode cL_truncate 2 = .ok (.aload_n 0, 1) := by decide +kernel
theorem dL_truncate_3 : decode cL_truncate 3 = .ok (.iload_n 1, 1) := by decide +kernel
theorem dL_truncate_4 : decode cL_truncate 4 = .ok (.invokevirtual 15, 3) := by decide +kernel
theorem dL_truncate_7 : decode cL_truncate 7 = .ok (.i2l, 1) := by decide +kernel
theorem dL_truncate_8 : decode cL_truncate 8 = .ok (.lastore, 1) := by decide +kernel
theorem dL_truncate_9 : decode cL_truncate 9 = .ok (.goto 6, 3) := by decide +kernel
theorem dL_truncate_12 : decode cL_truncate 12 = .ok (.astore_n 3, 1) := by decide +kernel
theorem dL_truncate_13 : decode cL_truncate 13 = .ok (.iconst 1, 1) := by decide +kernel
theorem dL_truncate_14 : decode cL_truncate 14 = .ok (.ireturn, 1) := by decide +kernel
theorem dL_truncate_15 : decode cL_truncate 15 = .ok (.iconst 0, 1) := by decide +kernel
theorem dL_truncate_16 : decode cL_truncate 16 = .ok (.ireturn, 1) := by decide +kernel
theorem dL_readText_0 : decode cL_readText 0 = .ok (.aload_n 1, 1) := by decide +kernel
theorem dL_readText_1 : decode cL_readText 1 = .ok (.iconst 0, 1) := by decide +kernel
theorem dL_readText_2 : decode cL_readText 2 = .ok (.aload_n 0, 1) := by decide +kernel
theorem dL_readText_3 : decode cL_readText 3 = .ok (.invokevirtual 21, 3) := by decide +kernel
theorem dL_readText_6 : decode cL_readText 6 = .ok (.i2l, 1) := by decide +kernel
theorem dL_readText_7 : decode cL_readText 7 = .ok (.lastore, 1) := by decide +kernel
theorem dL_readText_8 : decode cL_readText 8 = .ok (.goto 6, 3) := by decide +kernel
theorem dL_readText_11 : decode cL_readText 11 = .ok (.astore_n 2, 1) := by decide +kernel
theorem dL_readText_12 : decode cL_readText 12 = .ok (.iconst 1, 1) := by decide +kernel
theorem dL_readText_13 : decode cL_readText 13 = .ok (.ireturn, 1) := by decide +kernel
theorem dL_readText_14 : decode cL_readText 14 = .ok (.iconst 0, 1) := by decide +kernel
theorem dL_readText_15 : decode cL_readText 15 = .ok (.ireturn, 1) := by decide +kernel
theorem dL_runScript_0 : decode cL_runScript 0 = .ok (.aload_n 1, 1) := by decide +kernel
theorem dL_runScript_1 : decode cL_runScript 1 = .ok (.iconst 0, 1) := by decide +kernel
theorem dL_runScript_2 : decode cL_runScript 2 = .ok (.aload_n 0, 1) := by decide +kernel
theorem dL_runScript_3 : decode cL_runScript 3 = .ok (.invokevirtual 25, 3) := by decide +kernel
theorem dL_runScript_6 : decode cL_runScript 6 = .ok (.i2l, 1) := by decide +kernel
theorem dL_runScript_7 : decode cL_runScript 7 = .ok (.lastore, 1) := by decide +kernel
theorem dL_runScript_8 : decode cL_runScript 8 = .ok (.goto 6, 3) := by decide +kernel
theorem dL_runScript_11 : decode cL_runScript 11 = .ok (.astore_n 2, 1) := by decide +kernel
theorem dL_runScript_12 : decode cL_runScript 12 = .ok (.iconst 1, 1) := by decide +kernel
theorem dL_runScript_13 : decode cL_runScript 13 = .ok (.ireturn, 1) := by decide +kernel
theorem dL_runScript_14 : decode cL_runScript 14 = .ok (.iconst 0, 1) := by decide +kernel
theorem dL_runScript_15 : decode cL_runScript 15 = .ok (.ireturn, 1) := by decide +kernel
theorem dL_setting_0 : decode cL_setting 0 = .ok (.aload_n 2, 1) := by decide +kernel
theorem dL_setting_1 : decode cL_setting 1 = .ok (.iconst 0, 1) := by decide +kernel
theorem dL_setting_2 : decode cL_setting 2 = .ok (.aload_n 0, 1) := by decide +kernel
theorem dL_setting_3 : decode cL_setting 3 = .ok (.iload_n 1, 1) := by decide +kernel
theorem dL_setting_4 : decode cL_setting 4 = .ok (.invokevirtual 28, 3) := by decide +kernel
theorem dL_setting_7 : decode cL_setting 7 = .ok (.i2l, 1) := by decide +kernel
theorem dL_setting_8 : decode cL_setting 8 = .ok (.lastore, 1) := by decide +kernel
theorem dL_setting_9 : decode cL_setting 9 = .ok (.goto 6, 3) := by decide +kernel
theorem dL_setting_12 : decode cL_setting 12 = .ok (.astore_n 3, 1) := by decide +kernel
theorem dL_setting_13 : decode cL_setting 13 = .ok (.iconst 1, 1) := by decide +kernel
theorem dL_setting_14 : decode cL_setting 14 = .ok (.ireturn, 1) := by decide +kernel
theorem dL_setting_15 : decode cL_setting 15 = .ok (.iconst 0, 1) := by decide +kernel
theorem dL_setting_16 : decode cL_setting 16 = .ok (.ireturn, 1) := by decide +kernel
theorem dL_pawn_0 : decode cL_pawn 0 = .ok (.aload_n 3, 1) := by decide +kernel
theorem dL_pawn_1 : decode cL_pawn 1 = .ok (.iconst 0, 1) := by decide +kernel
theorem dL_pawn_2 : decode cL_pawn 2 = .ok (.aload_n 0, 1) := by decide +kernel
theorem dL_pawn_3 : decode cL_pawn 3 = .ok (.iload_n 1, 1) := by decide +kernel
theorem dL_pawn_4 : decode cL_pawn 4 = .ok (.iload_n 2, 1) := by decide +kernel
theorem dL_pawn_5 : decode cL_pawn 5 = .ok (.invokevirtual 31, 3) := by decide +kernel
theorem dL_pawn_8 : decode cL_pawn 8 = .ok (.i2l, 1) := by decide +kernel
theorem dL_pawn_9 : decode cL_pawn 9 = .ok (.lastore, 1) := by decide +kernel
theorem dL_pawn_10 : decode cL_pawn 10 = .ok (.goto 11, 3) := by decide +kernel
theorem dL_pawn_13 : decode cL_pawn 13 = .ok (.astore 4, 2) := by decide +kernel
theorem dL_pawn_15 : decode cL_pawn 15 = .ok (.iconst 1, 1) := by decide +kernel
theorem dL_pawn_16 : decode cL_pawn 16 = .ok (.ireturn, 1) := by decide +kernel
theorem dL_pawn_17 : decode cL_pawn 17 = .ok (.astore 4, 2) := by decide +kernel
theorem dL_pawn_19 : decode cL_pawn 19 = .ok (.iconst 2, 1) := by decide +kernel
theorem dL_pawn_20 : decode cL_pawn 20 = .ok (.ireturn, 1) := by decide +kernel
theorem dL_pawn_21 : decode cL_pawn 21 = .ok (.iconst 0, 1) := by decide +kernel
theorem dL_pawn_22 : decode cL_pawn 22 = .ok (.ireturn, 1) := by decide +kernel
theorem dL_pawnAt_0 : decode cL_pawnAt 0 = .ok (.aload_n 3, 1) := by decide +kernel
theorem dL_pawnAt_1 : decode cL_pawnAt 1 = .ok (.iconst 0, 1) := by decide +kernel
theorem dL_pawnAt_2 : decode cL_pawnAt 2 = .ok (.aload_n 0, 1) := by decide +kernel
theorem dL_pawnAt_3 : decode cL_pawnAt 3 = .ok (.iload_n 1, 1) := by decide +kernel
theorem dL_pawnAt_4 : decode cL_pawnAt 4 = .ok (.iload_n 2, 1) := by decide +kernel
theorem dL_pawnAt_5 : decode cL_pawnAt 5 = .ok (.invokevirtual 37, 3) := by decide +kernel
theorem dL_pawnAt_8 : decode cL_pawnAt 8 = .ok (.i2l, 1) := by decide +kernel
theorem dL_pawnAt_9 : decode cL_pawnAt 9 = .ok (.lastore, 1) := by decide +kernel
theorem dL_pawnAt_10 : decode cL_pawnAt 10 = .ok (.goto 7, 3) := by decide +kernel
theorem dL_pawnAt_13 : decode cL_pawnAt 13 = .ok (.astore 4, 2) := by decide +kernel
theorem dL_pawnAt_15 : decode cL_pawnAt 15 = .ok (.iconst 1, 1) := by decide +kernel
theorem dL_pawnAt_16 : decode cL_pawnAt 16 = .ok (.ireturn, 1) := by decide +kernel
theorem dL_pawnAt_17 : decode cL_pawnAt 17 = .ok (.iconst 0, 1) := by decide +kernel
theorem dL_pawnAt_18 : decode cL_pawnAt 18 = .ok (.ireturn, 1) := by decide +kernel
theorem dL_wallAt_0 : decode cL_wallAt 0 = .ok (.aload_n 3, 1) := by decide +kernel
theorem dL_wallAt_1 : decode cL_wallAt 1 = .ok (.iconst 0, 1) := by decide +kernel
theorem dL_wallAt_2 : decode cL_wallAt 2 = .ok (.aload_n 0, 1) := by decide +kernel
theorem dL_wallAt_3 : decode cL_wallAt 3 = .ok (.iload_n 1, 1) := by decide +kernel
theorem dL_wallAt_4 : decode cL_wallAt 4 = .ok (.iload_n 2, 1) := by decide +kernel
theorem dL_wallAt_5 : decode cL_wallAt 5 = .ok (.invokevirtual 40, 3) := by decide +kernel
theorem dL_wallAt_8 : decode cL_wallAt 8 = .ok (.i2l, 1) := by decide +kernel
theorem dL_wallAt_9 : decode cL_wallAt 9 = .ok (.lastore, 1) := by decide +kernel
theorem dL_wallAt_10 : decode cL_wallAt 10 = .ok (.goto 7, 3) := by decide +kernel
theorem dL_wallAt_13 : decode cL_wallAt 13 = .ok (.astore 4, 2) := by decide +kernel
theorem dL_wallAt_15 : decode cL_wallAt 15 = .ok (.iconst 1, 1) := by decide +kernel
theorem dL_wallAt_16 : decode cL_wallAt 16 = .ok (.ireturn, 1) := by decide +kernel
theorem dL_wallAt_17 : decode cL_wallAt 17 = .ok (.iconst 0, 1) := by decide +kernel
theorem dL_wallAt_18 : decode cL_wallAt 18 = .ok (.ireturn, 1) := by decide +kernel
theorem dL_isBlocked_0 : decode cL_isBlocked 0 = .ok (.aload 4, 2) := by decide +kernel
theorem dL_isBlocked_2 : decode cL_isBlocked 2 = .ok (.iconst 0, 1) := by decide +kernel
theorem dL_isBlocked_3 : decode cL_isBlocked 3 = .ok (.aload_n 0, 1) := by decide +kernel
theorem dL_isBlocked_4 : decode cL_isBlocked 4 = .ok (.iload_n 1, 1) := by decide +kernel
theorem dL_isBlocked_5 : decode cL_isBlocked 5 = .ok (.iload_n 2, 1) := by decide +kernel
theorem dL_isBlocked_6 : decode cL_isBlocked 6 = .ok (.iload_n 3, 1) := by decide +kernel
theorem dL_isBlocked_7 : decode cL_isBlocked 7 = .ok (.invokevirtual 43, 3) := by decide +kernel
theorem dL_isBlocked_10 : decode cL_isBlocked 10 = .ok (.ifCond .eq 7, 3) := by decide +kernel
theorem dL_isBlocked_13 : decode cL_isBlocked 13 = .ok (.lconst 1, 1) := by decide +kernel
theorem dL_isBlocked_14 : decode cL_isBlocked 14 = .ok (.goto 4, 3) := by decide +kernel
theorem dL_isBlocked_17 : decode cL_isBlocked 17 = .ok (.lconst 0, 1) := by decide +kernel
theorem dL_isBlocked_18 : decode cL_isBlocked 18 = .ok (.lastore, 1) := by decide +kernel
theorem dL_isBlocked_19 : decode cL_isBlocked 19 = .ok (.goto 11, 3) := by decide +kernel
theorem dL_isBlocked_22 : decode cL_isBlocked 22 = .ok (.astore 5, 2) := by decide +kernel
theorem dL_isBlocked_24 : decode cL_isBlocked 24 = .ok (.iconst 1, 1) := by decide +kernel
theorem dL_isBlocked_25 : decode cL_isBlocked 25 = .ok (.ireturn, 1) := by decide +kernel
theorem dL_isBlocked_26 : decode cL_isBlocked 26 = .ok (.astore 5, 2) := by decide +kernel
theorem dL_isBlocked_28 : decode cL_isBlocked 28 = .ok (.iconst 2, 1) := by decide +kernel
theorem dL_isBlocked_29 : decode cL_isBlocked 29 = .ok (.ireturn, 1) := by decide +kernel
theorem dL_isBlocked_30 : decode cL_isBlocked 30 = .ok (.iconst 0, 1) := by decide +kernel
theorem dL_isBlocked_31 : decode cL_isBlocked 31 = .ok (.ireturn, 1) := by decide +kernel
theorem dL_isAdmissible_0 : decode cL_isAdmissible 0 = .ok (.aload 4, 2) := by decide +kernel
theorem dL_isAdmissible_2 : decode cL_isAdmissible 2 = .ok (.iconst 0, 1) := by decide +kernel
theorem dL_isAdmissible_3 : decode cL_isAdmissible 3 = .ok (.aload_n 0, 1) := by decide +kernel
theorem dL_isAdmissible_4 : decode cL_isAdmissible 4 = .ok (.iload_n 1, 1) := by decide +kernel
theorem dL_isAdmissible_5 : decode cL_isAdmissible 5 = .ok (.iload_n 2, 1) := by decide +kernel
theorem dL_isAdmissible_6 : decode cL_isAdmissible 6 = .ok (.iload_n 3, 1) := by decide +kernel
theorem dL_isAdmissible_7 : decode cL_isAdmissible 7 = .ok (.invokevirtual 47, 3) := by decide +kernel
theorem dL_isAdmissible_10 : decode cL_isAdmissible 10 = .ok (.ifCond .eq 7, 3) := by decide +kernel
theorem dL_isAdmissible_13 : decode cL_isAdmissible 13 = .ok (.lconst 1, 1) := by decide +kernel
theorem dL_isAdmissible_14 : decode cL_isAdmissible 14 = .ok (.goto 4, 3) := by decide +kernel
theorem dL_isAdmissible_17 : decode cL_isAdmissible 17 = .ok (.lconst 0, 1) := by decide +kernel
theorem dL_isAdmissible_18 : decode cL_isAdmissible 18 = .ok (.lastore, 1) := by decide +kernel
theorem dL_isAdmissible_19 : decode cL_isAdmissible 19 = .ok (.goto 7, 3) := by decide +kernel
theorem dL_isAdmissible_22 : decode cL_isAdmissible 22 = .ok (.astore 5, 2) := by decide +kernel
theorem dL_isAdmissible_24 : decode cL_isAdmissible 24 = .ok (.iconst 1, 1) := by decide +kernel
theorem dL_isAdmissible_25 : decode cL_isAdmissible 25 = .ok (.ireturn, 1) := by decide +kernel
theorem dL_isAdmissible_26 : decode cL_isAdmissible 26 = .ok (.iconst 0, 1) := by decide +kernel
theorem dL_isAdmissible_27 : decode cL_isAdmissible 27 = .ok (.ireturn, 1) := by decide +kernel
theorem dL_canStep_0 : decode cL_canStep 0 = .ok (.aload_n 3, 1) := by decide +kernel
theorem dL_canStep_1 : decode cL_canStep 1 = .ok (.iconst 0, 1) := by decide +kernel
theorem dL_canStep_2 : decode cL_canStep 2 = .ok (.aload_n 0, 1) := by decide +kernel
theorem dL_canStep_3 : decode cL_canStep 3 = .ok (.iload_n 1, 1) := by decide +kernel
theorem dL_canStep_4 : decode cL_canStep 4 = .ok (.iload_n 2, 1) := by decide +kernel
theorem dL_canStep_5 : decode cL_canStep 5 = .ok (.invokevirtual 51, 3) := by decide +kernel
theorem dL_canStep_8 : decode cL_canStep 8 = .ok (.ifCond .eq 7, 3) := by decide +kernel
theorem dL_canStep_11 : decode cL_canStep 11 = .ok (.lconst 1, 1) := by decide +kernel
theorem dL_canStep_12 : decode cL_canStep 12 = .ok (.goto 4, 3) := by decide +kernel
theorem dL_canStep_15 : decode cL_canStep 15 = .ok (.lconst 0, 1) := by decide +kernel
theorem dL_canStep_16 : decode cL_canStep 16 = .ok (.lastore, 1) := by decide +kernel
theorem dL_canStep_17 : decode cL_canStep 17 = .ok (.goto 11, 3) := by decide +kernel
theorem dL_canStep_20 : decode cL_canStep 20 = .ok (.astore 4, 2) := by decide +kernel
theorem dL_canStep_22 : decode cL_canStep 22 = .ok (.iconst 1, 1) := by decide +kernel
theorem dL_canStep_23 : decode cL_canStep 23 = .ok (.ireturn, 1) := by decide +kernel
theorem dL_canStep_24 : decode cL_canStep 24 = .ok (.astore 4, 2) := by decide +kernel
theorem dL_canStep_26 : decode cL_canStep 26 = .ok (.iconst 2, 1) := by decide +kernel
theorem dL_canStep_27 : decode cL_canStep 27 = .ok (.ireturn, 1) := by decide +kernel
theorem dL_canStep_28 : decode cL_canStep 28 = .ok (.iconst 0, 1) := by decide +kernel
theorem dL_canStep_29 : decode cL_canStep 29 = .ok (.ireturn, 1) := by decide +kernel
theorem dL_isBanned_0 : decode cL_isBanned 0 = .ok (.aload_n 3, 1) := by decide +kernel
theorem dL_isBanned_1 : decode cL_isBanned 1 = .ok (.iconst 0, 1) := by decide +kernel
theorem dL_isBanned_2 : decode cL_isBanned 2 = .ok (.aload_n 0, 1) := by decide +kernel
theorem dL_isBanned_3 : decode cL_isBanned 3 = .ok (.iload_n 1, 1) := by decide +kernel
theorem dL_isBanned_4 : decode cL_isBanned 4 = .ok (.iload_n 2, 1) := by decide +kernel
theorem dL_isBanned_5 : decode cL_isBanned 5 = .ok (.invokevirtual 55, 3) := by decide +kernel
theorem dL_isBanned_8 : decode cL_isBanned 8 = .ok (.ifCond .eq 7, 3) := by decide +kernel
theorem dL_isBanned_11 : decode cL_isBanned 11 = .ok (.lconst 1, 1) := by decide +kernel
theorem dL_isBanned_12 : decode cL_isBanned 12 = .ok (.goto 4, 3) := by decide +kernel
theorem dL_isBanned_15 : decode cL_isBanned 15 = .ok (.lconst 0, 1) := by decide +kernel
theorem dL_isBanned_16 : decode cL_isBanned 16 = .ok (.lastore, 1) := by decide +kernel
theorem dL_isBanned_17 : decode cL_isBanned 17 = .ok (.goto 11, 3) := by decide +kernel
theorem dL_isBanned_20 : decode cL_isBanned 20 = .ok (.astore 4, 2) := by decide +kernel
theorem dL_isBanned_22 : decode cL_isBanned 22 = .ok (.iconst 1, 1) := by decide +kernel
theorem dL_isBanned_23 : decode cL_isBanned 23 = .ok (.ireturn, 1) := by decide +kernel
theorem dL_isBanned_24 : decode cL_isBanned 24 = .ok (.astore 4, 2) := by decide +kernel
theorem dL_isBanned_26 : decode cL_isBanned 26 = .ok (.iconst 2, 1) := by decide +kernel
theorem dL_isBanned_27 : decode cL_isBanned 27 = .ok (.ireturn, 1) := by decide +kernel
theorem dL_isBanned_28 : decode cL_isBanned 28 = .ok (.iconst 0, 1) := by decide +kernel
theorem dL_isBanned_29 : decode cL_isBanned 29 = .ok (.ireturn, 1) := by decide +kernel
theorem dL_steps_0 : decode cL_steps 0 = .ok (.aload_n 2, 1) := by decide +kernel
theorem dL_steps_1 : decode cL_steps 1 = .ok (.iconst 0, 1) := by decide +kernel
theorem dL_steps_2 : decode cL_steps 2 = .ok (.aload_n 0, 1) := by decide +kernel
theorem dL_steps_3 : decode cL_steps 3 = .ok (.iload_n 1, 1) := by decide +kernel
theorem dL_steps_4 : decode cL_steps 4 = .ok (.invokevirtual 58, 3) := by decide +kernel
theorem dL_steps_7 : decode cL_steps 7 = .ok (.i2l, 1) := by decide +kernel
theorem dL_steps_8 : decode cL_steps 8 = .ok (.lastore, 1) := by decide +kernel
theorem dL_steps_9 : decode cL_steps 9 = .ok (.goto 6, 3) := by decide +kernel
theorem dL_steps_12 : decode cL_steps 12 = .ok (.astore_n 3, 1) := by decide +kernel
theorem dL_steps_13 : decode cL_steps 13 = .ok (.iconst 1, 1) := by decide +kernel
theorem dL_steps_14 : decode cL_steps 14 = .ok (.ireturn, 1) := by decide +kernel
theorem dL_steps_15 : decode cL_steps 15 = .ok (.iconst 0, 1) := by decide +kernel
theorem dL_steps_16 : decode cL_steps 16 = .ok (.ireturn, 1) := by decide +kernel
theorem dL_distance_0 : decode cL_distance 0 = .ok (.aload_n 2, 1) := by decide +kernel
theorem dL_distance_1 : decode cL_distance 1 = .ok (.iconst 0, 1) := by decide +kernel
theorem dL_distance_2 : decode cL_distance 2 = .ok (.aload_n 0, 1) := by decide +kernel
theorem dL_distance_3 : decode cL_distance 3 = .ok (.iload_n 1, 1) := by decide +kernel
theorem dL_distance_4 : decode cL_distance 4 = .ok (.invokevirtual 61, 3) := by decide +kernel
theorem dL_distance_7 : decode cL_distance 7 = .ok (.i2l, 1) := by decide +kernel
theorem dL_distance_8 : decode cL_distance 8 = .ok (.lastore, 1) := by decide +kernel
theorem dL_distance_9 : decode cL_distance 9 = .ok (.goto 6, 3) := by decide +kernel
theorem dL_distance_12 : decode cL_distance 12 = .ok (.astore_n 3, 1) := by decide +kernel
theorem dL_distance_13 : decode cL_distance 13 = .ok (.iconst 1, 1) := by decide +kernel
theorem dL_distance_14 : decode cL_distance 14 = .ok (.ireturn, 1) := by decide +kernel
theorem dL_distance_15 : decode cL_distance 15 = .ok (.iconst 0, 1) := by decide +kernel
theorem dL_distance_16 : decode cL_distance 16 = .ok (.ireturn, 1) := by decide +kernel
theorem dL_distanceFrom_0 : decode cL_distanceFrom 0 = .ok (.aload 4, 2) := by decide +kernel
theorem dL_distanceFrom_2 : decode cL_distanceFrom 2 = .ok (.iconst 0, 1) := by decide +kernel
theorem dL_distanceFrom_3 : decode cL_distanceFrom 3 = .ok (.aload_n 0, 1) := by decide +kernel
theorem dL_distanceFrom_4 : decode cL_distanceFrom 4 = .ok (.iload_n 1, 1) := by decide +kernel
theorem dL_distanceFrom_5 : decode cL_distanceFrom 5 = .ok (.iload_n 2, 1) := by decide +kernel
theorem dL_distanceFrom_6 : decode cL_distanceFrom 6 = .ok (.iload_n 3, 1) := by decide +kernel
theorem dL_distanceFrom_7 : decode cL_distanceFrom 7 = .ok (.invokevirtual 64, 3) := by decide +kernel
theorem dL_distanceFrom_10 : decode cL_distanceFrom 10 = .ok (.i2l, 1) := by decide +kernel
theorem dL_distanceFrom_11 : decode cL_distanceFrom 11 = .ok (.lastore, 1) := by decide +kernel
theorem dL_distanceFrom_12 : decode cL_distanceFrom 12 = .ok (.goto 7, 3) := by decide +kernel
theorem dL_distanceFrom_15 : decode cL_distanceFrom 15 = .ok (.astore 5, 2) := by decide +kernel
theorem dL_distanceFrom_17 : decode cL_distanceFrom 17 = .ok (.iconst 1, 1) := by decide +kernel
theorem dL_distanceFrom_18 : decode cL_distanceFrom 18 = .ok (.ireturn, 1) := by decide +kernel
theorem dL_distanceFrom_19 : decode cL_distanceFrom 19 = .ok (.iconst 0, 1) := by decide +kernel
theorem dL_distanceFrom_20 : decode cL_distanceFrom 20 = .ok (.ireturn, 1) := by decide +kernel
theorem dL_ways_0 : decode cL_ways 0 = .ok (.aload_n 2, 1) := by decide +kernel
theorem dL_ways_1 : decode cL_ways 1 = .ok (.iconst 0, 1) := by decide +kernel
theorem dL_ways_2 : decode cL_ways 2 = .ok (.aload_n 0, 1) := by decide +kernel
theorem dL_ways_3 : decode cL_ways 3 = .ok (.iload_n 1, 1) := by decide +kernel
theorem dL_ways_4 : decode cL_ways 4 = .ok (.invokevirtual 68, 3) := by decide +kernel
theorem dL_ways_7 : decode cL_ways 7 = .ok (.i2l, 1) := by decide +kernel
theorem dL_ways_8 : decode cL_ways 8 = .ok (.lastore, 1) := by decide +kernel
theorem dL_ways_9 : decode cL_ways 9 = .ok (.goto 6, 3) := by decide +kernel
theorem dL_ways_12 : decode cL_ways 12 = .ok (.astore_n 3, 1) := by decide +kernel
theorem dL_ways_13 : decode cL_ways 13 = .ok (.iconst 1, 1) := by decide +kernel
theorem dL_ways_14 : decode cL_ways 14 = .ok (.ireturn, 1) := by decide +kernel
theorem dL_ways_15 : decode cL_ways 15 = .ok (.iconst 0, 1) := by decide +kernel
theorem dL_ways_16 : decode cL_ways 16 = .ok (.ireturn, 1) := by decide +kernel
theorem dL_onWays_0 : decode cL_onWays 0 = .ok (.aload_n 2, 1) := by decide +kernel
theorem dL_onWays_1 : decode cL_onWays 1 = .ok (.iconst 0, 1) := by decide +kernel
theorem dL_onWays_2 : decode cL_onWays 2 = .ok (.aload_n 0, 1) := by decide +kernel
theorem dL_onWays_3 : decode cL_onWays 3 = .ok (.iload_n 1, 1) := by decide +kernel
theorem dL_onWays_4 : decode cL_onWays 4 = .ok (.invokevirtual 71, 3) := by decide +kernel
theorem dL_onWays_7 : decode cL_onWays 7 = .ok (.i2l, 1) := by decide +kernel
theorem dL_onWays_8 : decode cL_onWays 8 = .ok (.lastore, 1) := by decide +kernel
theorem dL_onWays_9 : decode cL_onWays 9 = .ok (.goto 6, 3) := by decide +kernel
theorem dL_onWays_12 : decode cL_onWays 12 = .ok (.astore_n 3, 1) := by decide +kernel
theorem dL_onWays_13 : decode cL_onWays 13 = .ok (.iconst 1, 1) := by decide +kernel
theorem dL_onWays_14 : decode cL_onWays 14 = .ok (.ireturn, 1) := by decide +kernel
theorem dL_onWays_15 : decode cL_onWays 15 = .ok (.iconst 0, 1) := by decide +kernel
theorem dL_onWays_16 : decode cL_onWays 16 = .ok (.ireturn, 1) := by decide +kernel
theorem dL_gates_0 : decode cL_gates 0 = .ok (.aload_n 2, 1) := by decide +kernel
theorem dL_gates_1 : decode cL_gates 1 = .ok (.iconst 0, 1) := by decide +kernel
theorem dL_gates_2 : decode cL_gates 2 = .ok (.aload_n 0, 1) := by decide +kernel
theorem dL_gates_3 : decode cL_gates 3 = .ok (.iload_n 1, 1) := by decide +kernel
theorem dL_gates_4 : decode cL_gates 4 = .ok (.invokevirtual 74, 3) := by decide +kernel
theorem dL_gates_7 : decode cL_gates 7 = .ok (.i2l, 1) := by decide +kernel
theorem dL_gates_8 : decode cL_gates 8 = .ok (.lastore, 1) := by decide +kernel
theorem dL_gates_9 : decode cL_gates 9 = .ok (.goto 6, 3) := by decide +kernel
theorem dL_gates_12 : decode cL_gates 12 = .ok (.astore_n 3, 1) := by decide +kernel
theorem dL_gates_13 : decode cL_gates 13 = .ok (.iconst 1, 1) := by decide +kernel
theorem dL_gates_14 : decode cL_gates 14 = .ok (.ireturn, 1) := by decide +kernel
theorem dL_gates_15 : decode cL_gates 15 = .ok (.iconst 0, 1) := by decide +kernel
theorem dL_gates_16 : decode cL_gates 16 = .ok (.ireturn, 1) := by decide +kernel
theorem dL_isGate_0 : decode cL_isGate 0 = .ok (.aload 4, 2) := by decide +kernel
theorem dL_isGate_2 : decode cL_isGate 2 = .ok (.iconst 0, 1) := by decide +kernel
theorem dL_isGate_3 : decode cL_isGate 3 = .ok (.aload_n 0, 1) := by decide +kernel
theorem dL_isGate_4 : decode cL_isGate 4 = .ok (.iload_n 1, 1) := by decide +kernel
theorem dL_isGate_5 : decode cL_isGate 5 = .ok (.iload_n 2, 1) := by decide +kernel
theorem dL_isGate_6 : decode cL_isGate 6 = .ok (.iload_n 3, 1) := by decide +kernel
theorem dL_isGate_7 : decode cL_isGate 7 = .ok (.invokevirtual 77, 3) := by decide +kernel
theorem dL_isGate_10 : decode cL_isGate 10 = .ok (.ifCond .eq 7, 3) := by decide +kernel
theorem dL_isGate_13 : decode cL_isGate 13 = .ok (.lconst 1, 1) := by decide +kernel
theorem dL_isGate_14 : decode cL_isGate 14 = .ok (.goto 4, 3) := by decide +kernel
theorem dL_isGate_17 : decode cL_isGate 17 = .ok (.lconst 0, 1) := by decide +kernel
theorem dL_isGate_18 : decode cL_isGate 18 = .ok (.lastore, 1) := by decide +kernel
theorem dL_isGate_19 : decode cL_isGate 19 = .ok (.goto 7, 3) := by decide +kernel
theorem dL_isGate_22 : decode cL_isGate 22 = .ok (.astore 5, 2) := by decide +kernel
theorem dL_isGate_24 : decode cL_isGate 24 = .ok (.iconst 1, 1) := by decide +kernel
theorem dL_isGate_25 : decode cL_isGate 25 = .ok (.ireturn, 1) := by decide +kernel
theorem dL_isGate_26 : decode cL_isGate 26 = .ok (.iconst 0, 1) := by decide +kernel
theorem dL_isGate_27 : decode cL_isGate 27 = .ok (.ireturn, 1) := by decide +kernel
theorem dL_stepsWithBans_0 : decode cL_stepsWithBans 0 = .ok (.aload_n 2, 1) := by decide +kernel
theorem dL_stepsWithBans_1 : decode cL_stepsWithBans 1 = .ok (.iconst 0, 1) := by decide +kernel
theorem dL_stepsWithBans_2 : decode cL_stepsWithBans 2 = .ok (.aload_n 0, 1) := by decide +kernel
theorem dL_stepsWithBans_3 : decode cL_stepsWithBans 3 = .ok (.iload_n 1, 1) := by decide +kernel
theorem dL_stepsWithBans_4 : decode cL_stepsWithBans 4 = .ok (.invokevirtual 80, 3) := by decide +kernel
theorem dL_stepsWithBans_7 : decode cL_stepsWithBans 7 = .ok (.i2l, 1) := by decide +kernel
theorem dL_stepsWithBans_8 : decode cL_stepsWithBans 8 = .ok (.lastore, 1) := by decide +kernel
theorem dL_stepsWithBans_9 : decode cL_stepsWithBans 9 = .ok (.goto 6, 3) := by decide +kernel
theorem dL_stepsWithBans_12 : decode cL_stepsWithBans 12 = .ok (.astore_n 3, 1) := by decide +kernel
theorem dL_stepsWithBans_13 : decode cL_stepsWithBans 13 = .ok (.iconst 1, 1) := by decide +kernel
theorem dL_stepsWithBans_14 : decode cL_stepsWithBans 14 = .ok (.ireturn, 1) := by decide +kernel
theorem dL_stepsWithBans_15 : decode cL_stepsWithBans 15 = .ok (.iconst 0, 1) := by decide +kernel
theorem dL_stepsWithBans_16 : decode cL_stepsWithBans 16 = .ok (.ireturn, 1) := by decide +kernel
theorem dL_waysWithBans_0 : decode cL_waysWithBans 0 = .ok (.aload_n 3, 1) := by decide +kernel
theorem dL_waysWithBans_1 : decode cL_waysWithBans 1 = .ok (.iconst 0, 1) := by decide +kernel
theorem dL_waysWithBans_2 : decode cL_waysWithBans 2 = .ok (.aload_n 0, 1) := by decide +kernel
theorem dL_waysWithBans_3 : decode cL_waysWithBans 3 = .ok (.iload_n 1, 1) := by decide +kernel
theorem dL_waysWithBans_4 : decode cL_waysWithBans 4 = .ok (.iload_n 2, 1) := by decide +kernel
theorem dL_waysWithBans_5 : decode cL_waysWithBans 5 = .ok (.invokevirtual 83, 3) := by decide +kernel
theorem dL_waysWithBans_8 : decode cL_waysWithBans 8 = .ok (.i2l, 1) := by decide +kernel
theorem dL_waysWithBans_9 : decode cL_waysWithBans 9 = .ok (.lastore, 1) := by decide +kernel
theorem dL_waysWithBans_10 : decode cL_waysWithBans 10 = .ok (.goto 11, 3) := by decide +kernel
theorem dL_waysWithBans_13 : decode cL_waysWithBans 13 = .ok (.astore 4, 2) := by decide +kernel
theorem dL_waysWithBans_15 : decode cL_waysWithBans 15 = .ok (.iconst 1, 1) := by decide +kernel
theorem dL_waysWithBans_16 : decode cL_waysWithBans 16 = .ok (.ireturn, 1) := by decide +kernel
theorem dL_waysWithBans_17 : decode cL_waysWithBans 17 = .ok (.astore 4, 2) := by decide +kernel
theorem dL_waysWithBans_19 : decode cL_waysWithBans 19 = .ok (.iconst 2, 1) := by decide +kernel
theorem dL_waysWithBans_20 : decode cL_waysWithBans 20 = .ok (.ireturn, 1) := by decide +kernel
theorem dL_waysWithBans_21 : decode cL_waysWithBans 21 = .ok (.iconst 0, 1) := by decide +kernel
theorem dL_waysWithBans_22 : decode cL_waysWithBans 22 = .ok (.ireturn, 1) := by decide +kernel
theorem dL_detour_0 : decode cL_detour 0 = .ok (.aload_n 2, 1) := by decide +kernel
theorem dL_detour_1 : decode cL_detour 1 = .ok (.iconst 0, 1) := by decide +kernel
theorem dL_detour_2 : decode cL_detour 2 = .ok (.aload_n 0, 1) := by decide +kernel
theorem dL_detour_3 : decode cL_detour 3 = .ok (.iload_n 1, 1) := by decide +kernel
theorem dL_detour_4 : decode cL_detour 4 = .ok (.invokevirtual 86, 3) := by decide +kernel
theorem dL_detour_7 : decode cL_detour 7 = .ok (.i2l, 1) := by decide +kernel
theorem dL_detour_8 : decode cL_detour 8 = .ok (.lastore, 1) := by decide +kernel
theorem dL_detour_9 : decode cL_detour 9 = .ok (.goto 6, 3) := by decide +kernel
theorem dL_detour_12 : decode cL_detour 12 = .ok (.astore_n 3, 1) := by decide +kernel
theorem dL_detour_13 : decode cL_detour 13 = .ok (.iconst 1, 1) := by decide +kernel
theorem dL_detour_14 : decode cL_detour 14 = .ok (.ireturn, 1) := by decide +kernel
theorem dL_detour_15 : decode cL_detour 15 = .ok (.iconst 0, 1) := by decide +kernel
theorem dL_detour_16 : decode cL_detour 16 = .ok (.ireturn, 1) := by decide +kernel
theorem dL_advised_0 : decode cL_advised 0 = .ok (.aload_n 2, 1) := by decide +kernel
theorem dL_advised_1 : decode cL_advised 1 = .ok (.iconst 0, 1) := by decide +kernel
theorem dL_advised_2 : decode cL_advised 2 = .ok (.aload_n 0, 1) := by decide +kernel
theorem dL_advised_3 : decode cL_advised 3 = .ok (.iload_n 1, 1) := by decide +kernel
theorem dL_advised_4 : decode cL_advised 4 = .ok (.invokevirtual 89, 3) := by decide +kernel
theorem dL_advised_7 : decode cL_advised 7 = .ok (.i2l, 1) := by decide +kernel
theorem dL_advised_8 : decode cL_advised 8 = .ok (.lastore, 1) := by decide +kernel
theorem dL_advised_9 : decode cL_advised 9 = .ok (.goto 6, 3) := by decide +kernel
theorem dL_advised_12 : decode cL_advised 12 = .ok (.astore_n 3, 1) := by decide +kernel
theorem dL_advised_13 : decode cL_advised 13 = .ok (.iconst 1, 1) := by decide +kernel
theorem dL_advised_14 : decode cL_advised 14 = .ok (.ireturn, 1) := by decide +kernel
theorem dL_advised_15 : decode cL_advised 15 = .ok (.iconst 0, 1) := by decide +kernel
theorem dL_advised_16 : decode cL_advised 16 = .ok (.ireturn, 1) := by decide +kernel
theorem dL_bestWall_0 : decode cL_bestWall 0 = .ok (.aload_n 2, 1) := by decide +kernel
theorem dL_bestWall_1 : decode cL_bestWall 1 = .ok (.iconst 0, 1) := by decide +kernel
theorem dL_bestWall_2 : decode cL_bestWall 2 = .ok (.aload_n 0, 1) := by decide +kernel
theorem dL_bestWall_3 : decode cL_bestWall 3 = .ok (.iload_n 1, 1) := by decide +kernel
theorem dL_bestWall_4 : decode cL_bestWall 4 = .ok (.invokevirtual 92, 3) := by decide +kernel
theorem dL_bestWall_7 : decode cL_bestWall 7 = .ok (.i2l, 1) := by decide +kernel
theorem dL_bestWall_8 : decode cL_bestWall 8 = .ok (.lastore, 1) := by decide +kernel
theorem dL_bestWall_9 : decode cL_bestWall 9 = .ok (.goto 6, 3) := by decide +kernel
theorem dL_bestWall_12 : decode cL_bestWall 12 = .ok (.astore_n 3, 1) := by decide +kernel
theorem dL_bestWall_13 : decode cL_bestWall 13 = .ok (.iconst 1, 1) := by decide +kernel
theorem dL_bestWall_14 : decode cL_bestWall 14 = .ok (.ireturn, 1) := by decide +kernel
theorem dL_bestWall_15 : decode cL_bestWall 15 = .ok (.iconst 0, 1) := by decide +kernel
theorem dL_bestWall_16 : decode cL_bestWall 16 = .ok (.ireturn, 1) := by decide +kernel
theorem dL_gain_0 : decode cL_gain 0 = .ok (.aload_n 2, 1) := by decide +kernel
theorem dL_gain_1 : decode cL_gain 1 = .ok (.iconst 0, 1) := by decide +kernel
theorem dL_gain_2 : decode cL_gain 2 = .ok (.aload_n 0, 1) := by decide +kernel
theorem dL_gain_3 : decode cL_gain 3 = .ok (.iload_n 1, 1) := by decide +kernel
theorem dL_gain_4 : decode cL_gain 4 = .ok (.invokevirtual 95, 3) := by decide +kernel
theorem dL_gain_7 : decode cL_gain 7 = .ok (.i2l, 1) := by decide +kernel
theorem dL_gain_8 : decode cL_gain 8 = .ok (.lastore, 1) := by decide +kernel
theorem dL_gain_9 : decode cL_gain 9 = .ok (.goto 6, 3) := by decide +kernel
theorem dL_gain_12 : decode cL_gain 12 = .ok (.astore_n 3, 1) := by decide +kernel
theorem dL_gain_13 : decode cL_gain 13 = .ok (.iconst 1, 1) := by decide +kernel
theorem dL_gain_14 : decode cL_gain 14 = .ok (.ireturn, 1) := by decide +kernel
theorem dL_gain_15 : decode cL_gain 15 = .ok (.iconst 0, 1) := by decide +kernel
theorem dL_gain_16 : decode cL_gain 16 = .ok (.ireturn, 1) := by decide +kernel
theorem dL_harm_0 : decode cL_harm 0 = .ok (.aload 5, 2) := by decide +kernel
theorem dL_harm_2 : decode cL_harm 2 = .ok (.iconst 0, 1) := by decide +kernel
theorem dL_harm_3 : decode cL_harm 3 = .ok (.aload_n 0, 1) := by decide +kernel
theorem dL_harm_4 : decode cL_harm 4 = .ok (.iload_n 1, 1) := by decide +kernel
theorem dL_harm_5 : decode cL_harm 5 = .ok (.iload_n 2, 1) := by decide +kernel
theorem dL_harm_6 : decode cL_harm 6 = .ok (.iload_n 3, 1) := by decide +kernel
theorem dL_harm_7 : decode cL_harm 7 = .ok (.iload 4, 2) := by decide +kernel
theorem dL_harm_9 : decode cL_harm 9 = .ok (.invokevirtual 98, 3) := by decide +kernel
theorem dL_harm_12 : decode cL_harm 12 = .ok (.i2l, 1) := by decide +kernel
theorem dL_harm_13 : decode cL_harm 13 = .ok (.lastore, 1) := by decide +kernel
theorem dL_harm_14 : decode cL_harm 14 = .ok (.goto 11, 3) := by decide +kernel
theorem dL_harm_17 : decode cL_harm 17 = .ok (.astore 6, 2) := by decide +kernel
theorem dL_harm_19 : decode cL_harm 19 = .ok (.iconst 1, 1) := by decide +kernel
theorem dL_harm_20 : decode cL_harm 20 = .ok (.ireturn, 1) := by decide +kernel
theorem dL_harm_21 : decode cL_harm 21 = .ok (.astore 6, 2) := by decide +kernel
theorem dL_harm_23 : decode cL_harm 23 = .ok (.iconst 2, 1) := by decide +kernel
theorem dL_harm_24 : decode cL_harm 24 = .ok (.ireturn, 1) := by decide +kernel
theorem dL_harm_25 : decode cL_harm 25 = .ok (.iconst 0, 1) := by decide +kernel
theorem dL_harm_26 : decode cL_harm 26 = .ok (.ireturn, 1) := by decide +kernel
theorem dL_foreseen_0 : decode cL_foreseen 0 = .ok (.aload 4, 2) := by decide +kernel
theorem dL_foreseen_2 : decode cL_foreseen 2 = .ok (.iconst 0, 1) := by decide +kernel
theorem dL_foreseen_3 : decode cL_foreseen 3 = .ok (.aload_n 0, 1) := by decide +kernel
theorem dL_foreseen_4 : decode cL_foreseen 4 = .ok (.iload_n 1, 1) := by decide +kernel
theorem dL_foreseen_5 : decode cL_foreseen 5 = .ok (.iload_n 2, 1) := by decide +kernel
theorem dL_foreseen_6 : decode cL_foreseen 6 = .ok (.iload_n 3, 1) := by decide +kernel
theorem dL_foreseen_7 : decode cL_foreseen 7 = .ok (.invokevirtual 102, 3) := by decide +kernel
theorem dL_foreseen_10 : decode cL_foreseen 10 = .ok (.i2l, 1) := by decide +kernel
theorem dL_foreseen_11 : decode cL_foreseen 11 = .ok (.lastore, 1) := by decide +kernel
theorem dL_foreseen_12 : decode cL_foreseen 12 = .ok (.goto 11, 3) := by decide +kernel
theorem dL_foreseen_15 : decode cL_foreseen 15 = .ok (.astore 5, 2) := by decide +kernel
theorem dL_foreseen_17 : decode cL_foreseen 17 = .ok (.iconst 1, 1) := by decide +kernel
theorem dL_foreseen_18 : decode cL_foreseen 18 = .ok (.ireturn, 1) := by decide +kernel
theorem dL_foreseen_19 : decode cL_foreseen 19 = .ok (.astore 5, 2) := by decide +kernel
theorem dL_foreseen_21 : decode cL_foreseen 21 = .ok (.iconst 2, 1) := by decide +kernel
theorem dL_foreseen_22 : decode cL_foreseen 22 = .ok (.ireturn, 1) := by decide +kernel
theorem dL_foreseen_23 : decode cL_foreseen 23 = .ok (.iconst 0, 1) := by decide +kernel
theorem dL_foreseen_24 : decode cL_foreseen 24 = .ok (.ireturn, 1) := by decide +kernel
theorem dL_step_0 : decode cL_step 0 = .ok (.aload_n 2, 1) := by decide +kernel
theorem dL_step_1 : decode cL_step 1 = .ok (.iconst 0, 1) := by decide +kernel
theorem dL_step_2 : decode cL_step 2 = .ok (.aload_n 0, 1) := by decide +kernel
theorem dL_step_3 : decode cL_step 3 = .ok (.iload_n 1, 1) := by decide +kernel
theorem dL_step_4 : decode cL_step 4 = .ok (.invokevirtual 105, 3) := by decide +kernel
theorem dL_step_7 : decode cL_step 7 = .ok (.i2l, 1) := by decide +kernel
theorem dL_step_8 : decode cL_step 8 = .ok (.lastore, 1) := by decide +kernel
theorem dL_step_9 : decode cL_step 9 = .ok (.goto 9, 3) := by decide +kernel
theorem dL_step_12 : decode cL_step 12 = .ok (.astore_n 3, 1) := by decide +kernel
theorem dL_step_13 : decode cL_step 13 = .ok (.iconst 1, 1) := by decide +kernel
theorem dL_step_14 : decode cL_step 14 = .ok (.ireturn, 1) := by decide +kernel
theorem dL_step_15 : decode cL_step 15 = .ok (.astore_n 3, 1) := by decide +kernel
theorem dL_step_16 : decode cL_step 16 = .ok (.iconst 2, 1) := by decide +kernel
theorem dL_step_17 : decode cL_step 17 = .ok (.ireturn, 1) := by decide +kernel
theorem dL_step_18 : decode cL_step 18 = .ok (.iconst 0, 1) := by decide +kernel
theorem dL_step_19 : decode cL_step 19 = .ok (.ireturn, 1) := by decide +kernel
theorem dL_build_0 : decode cL_build 0 = .ok (.aload 4, 2) := by decide +kernel
theorem dL_build_2 : decode cL_build 2 = .ok (.iconst 0, 1) := by decide +kernel
theorem dL_build_3 : decode cL_build 3 = .ok (.aload_n 0, 1) := by decide +kernel
theorem dL_build_4 : decode cL_build 4 = .ok (.iload_n 1, 1) := by decide +kernel
theorem dL_build_5 : decode cL_build 5 = .ok (.iload_n 2, 1) := by decide +kernel
theorem dL_build_6 : decode cL_build 6 = .ok (.iload_n 3, 1) := by decide +kernel
theorem dL_build_7 : decode cL_build 7 = .ok (.invokevirtual 108, 3) := by decide +kernel
theorem dL_build_10 : decode cL_build 10 = .ok (.i2l, 1) := by decide +kernel
theorem dL_build_11 : decode cL_build 11 = .ok (.lastore, 1) := by decide +kernel
theorem dL_build_12 : decode cL_build 12 = .ok (.goto 11, 3) := by decide +kernel
theorem dL_build_15 : decode cL_build 15 = .ok (.astore 5, 2) := by decide +kernel
theorem dL_build_17 : decode cL_build 17 = .ok (.iconst 1, 1) := by decide +kernel
theorem dL_build_18 : decode cL_build 18 = .ok (.ireturn, 1) := by decide +kernel
theorem dL_build_19 : decode cL_build 19 = .ok (.astore 5, 2) := by decide +kernel
theorem dL_build_21 : decode cL_build 21 = .ok (.iconst 2, 1) := by decide +kernel
theorem dL_build_22 : decode cL_build 22 = .ok (.ireturn, 1) := by decide +kernel
theorem dL_build_23 : decode cL_build 23 = .ok (.iconst 0, 1) := by decide +kernel
theorem dL_build_24 : decode cL_build 24 = .ok (.ireturn, 1) := by decide +kernel
theorem dL_pass_0 : decode cL_pass 0 = .ok (.aload_n 1, 1) := by decide +kernel
theorem dL_pass_1 : decode cL_pass 1 = .ok (.iconst 0, 1) := by decide +kernel
theorem dL_pass_2 : decode cL_pass 2 = .ok (.aload_n 0, 1) := by decide +kernel
theorem dL_pass_3 : decode cL_pass 3 = .ok (.invokevirtual 112, 3) := by decide +kernel
theorem dL_pass_6 : decode cL_pass 6 = .ok (.i2l, 1) := by decide +kernel
theorem dL_pass_7 : decode cL_pass 7 = .ok (.lastore, 1) := by decide +kernel
theorem dL_pass_8 : decode cL_pass 8 = .ok (.goto 6, 3) := by decide +kernel
theorem dL_pass_11 : decode cL_pass 11 = .ok (.astore_n 2, 1) := by decide +kernel
theorem dL_pass_12 : decode cL_pass 12 = .ok (.iconst 1, 1) := by decide +kernel
theorem dL_pass_13 : decode cL_pass 13 = .ok (.ireturn, 1) := by decide +kernel
theorem dL_pass_14 : decode cL_pass 14 = .ok (.iconst 0, 1) := by decide +kernel
theorem dL_pass_15 : decode cL_pass 15 = .ok (.ireturn, 1) := by decide +kernel
theorem dL_play_0 : decode cL_play 0 = .ok (.aload_n 3, 1) := by decide +kernel
theorem dL_play_1 : decode cL_play 1 = .ok (.iconst 0, 1) := by decide +kernel
theorem dL_play_2 : decode cL_play 2 = .ok (.aload_n 0, 1) := by decide +kernel
theorem dL_play_3 : decode cL_play 3 = .ok (.iload_n 1, 1) := by decide +kernel
theorem dL_play_4 : decode cL_play 4 = .ok (.iload_n 2, 1) := by decide +kernel
theorem dL_play_5 : decode cL_play 5 = .ok (.invokevirtual 115, 3) := by decide +kernel
theorem dL_play_8 : decode cL_play 8 = .ok (.i2l, 1) := by decide +kernel
theorem dL_play_9 : decode cL_play 9 = .ok (.lastore, 1) := by decide +kernel
theorem dL_play_10 : decode cL_play 10 = .ok (.goto 7, 3) := by decide +kernel
theorem dL_play_13 : decode cL_play 13 = .ok (.astore 4, 2) := by decide +kernel
theorem dL_play_15 : decode cL_play 15 = .ok (.iconst 1, 1) := by decide +kernel
theorem dL_play_16 : decode cL_play 16 = .ok (.ireturn, 1) := by decide +kernel
theorem dL_play_17 : decode cL_play 17 = .ok (.iconst 0, 1) := by decide +kernel
theorem dL_play_18 : decode cL_play 18 = .ok (.ireturn, 1) := by decide +kernel
theorem dL_reportByte_0 : decode cL_reportByte 0 = .ok (.aload_n 2, 1) := by decide +kernel
theorem dL_reportByte_1 : decode cL_reportByte 1 = .ok (.iconst 0, 1) := by decide +kernel
theorem dL_reportByte_2 : decode cL_reportByte 2 = .ok (.aload_n 0, 1) := by decide +kernel
theorem dL_reportByte_3 : decode cL_reportByte 3 = .ok (.iload_n 1, 1) := by decide +kernel
theorem dL_reportByte_4 : decode cL_reportByte 4 = .ok (.invokevirtual 118, 3) := by decide +kernel
theorem dL_reportByte_7 : decode cL_reportByte 7 = .ok (.i2l, 1) := by decide +kernel
theorem dL_reportByte_8 : decode cL_reportByte 8 = .ok (.lastore, 1) := by decide +kernel
theorem dL_reportByte_9 : decode cL_reportByte 9 = .ok (.goto 6, 3) := by decide +kernel
theorem dL_reportByte_12 : decode cL_reportByte 12 = .ok (.astore_n 3, 1) := by decide +kernel
theorem dL_reportByte_13 : decode cL_reportByte 13 = .ok (.iconst 1, 1) := by decide +kernel
theorem dL_reportByte_14 : decode cL_reportByte 14 = .ok (.ireturn, 1) := by decide +kernel
theorem dL_reportByte_15 : decode cL_reportByte 15 = .ok (.iconst 0, 1) := by decide +kernel
theorem dL_reportByte_16 : decode cL_reportByte 16 = .ok (.ireturn, 1) := by decide +kernel
theorem dL_restore_0 : decode cL_restore 0 = .ok (.aload_n 1, 1) := by decide +kernel
theorem dL_restore_1 : decode cL_restore 1 = .ok (.iconst 0, 1) := by decide +kernel
theorem dL_restore_2 : decode cL_restore 2 = .ok (.aload_n 0, 1) := by decide +kernel
theorem dL_restore_3 : decode cL_restore 3 = .ok (.invokevirtual 121, 3) := by decide +kernel
theorem dL_restore_6 : decode cL_restore 6 = .ok (.i2l, 1) := by decide +kernel
theorem dL_restore_7 : decode cL_restore 7 = .ok (.lastore, 1) := by decide +kernel
theorem dL_restore_8 : decode cL_restore 8 = .ok (.goto 6, 3) := by decide +kernel
theorem dL_restore_11 : decode cL_restore 11 = .ok (.astore_n 2, 1) := by decide +kernel
theorem dL_restore_12 : decode cL_restore 12 = .ok (.iconst 1, 1) := by decide +kernel
theorem dL_restore_13 : decode cL_restore 13 = .ok (.ireturn, 1) := by decide +kernel
theorem dL_restore_14 : decode cL_restore 14 = .ok (.iconst 0, 1) := by decide +kernel
theorem dL_restore_15 : decode cL_restore 15 = .ok (.ireturn, 1) := by decide +kernel
