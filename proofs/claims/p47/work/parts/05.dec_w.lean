theorem dX12_init_0 : decode cX12_init 0 = .ok (.aload_n 0, 1) := by decide +kernel
theorem dX12_init_1 : decode cX12_init 1 = .ok (.invokespecial 1, 3) := by decide +kernel
theorem dX12_init_4 : decode cX12_init 4 = .ok (.aload_n 0, 1) := by decide +kernel
theorem dX12_init_5 : decode cX12_init 5 = .ok (.iconst 5, 1) := by decide +kernel
theorem dX12_init_6 : decode cX12_init 6 = .ok (.putfield 7, 3) := by decide +kernel
theorem dX12_init_9 : decode cX12_init 9 = .ok (.aload_n 0, 1) := by decide +kernel
theorem dX12_init_10 : decode cX12_init 10 = .ok (.iconst 5, 1) := by decide +kernel
theorem dX12_init_11 : decode cX12_init 11 = .ok (.putfield 13, 3) := by decide +kernel
theorem dX12_init_14 : decode cX12_init 14 = .ok (.aload_n 0, 1) := by decide +kernel
theorem dX12_init_15 : decode cX12_init 15 = .ok (.new 16, 3) := by decide +kernel
theorem dX12_init_18 : decode cX12_init 18 = .ok (.dup, 1) := by decide +kernel
theorem dX12_init_19 : decode cX12_init 19 = .ok (.invokespecial 18, 3) := by decide +kernel
theorem dX12_init_22 : decode cX12_init 22 = .ok (.putfield 19, 3) := by decide +kernel
theorem dX12_init_25 : decode cX12_init 25 = .ok (.aload_n 0, 1) := by decide +kernel
theorem dX12_init_26 : decode cX12_init 26 = .ok (.new 16, 3) := by decide +kernel
theorem dX12_init_29 : decode cX12_init 29 = .ok (.dup, 1) := by decide +kernel
theorem dX12_init_30 : decode cX12_init 30 = .ok (.invokespecial 18, 3) := by decide +kernel
theorem dX12_init_33 : decode cX12_init 33 = .ok (.putfield 23, 3) := by decide +kernel
theorem dX12_init_36 : decode cX12_init 36 = .ok (.aload_n 0, 1) := by decide +kernel
theorem dX12_init_37 : decode cX12_init 37 = .ok (.bipush 8, 2) := by decide +kernel
theorem dX12_init_39 : decode cX12_init 39 = .ok (.bipush 8, 2) := by decide +kernel
theorem dX12_init_41 : decode cX12_init 41 = .ok (.multianewarray 26 2, 4) := by decide +kernel
theorem dX12_init_45 : decode cX12_init 45 = .ok (.putfield 28, 3) := by decide +kernel
theorem dX12_init_48 : decode cX12_init 48 = .ok (.aload_n 0, 1) := by decide +kernel
theorem dX12_init_49 : decode cX12_init 49 = .ok (.ldc 31, 2) := by decide +kernel
theorem dX12_init_51 : decode cX12_init 51 = .ok (.putfield 33, 3) := by decide +kernel
theorem dX12_init_54 : decode cX12_init 54 = .ok (.aload_n 0, 1) := by decide +kernel
theorem dX12_init_55 : decode cX12_init 55 = .ok (.iconst 0, 1) := by decide +kernel
theorem dX12_init_56 : decode cX12_init 56 = .ok (.newarray .int, 2) := by decide +kernel
theorem dX12_init_58 : decode cX12_init 58 = .ok (.putfield 37, 3) := by decide +kernel
theorem dX12_init_61 : decode cX12_init 61 = .ok (.return_, 1) := by decide +kernel
theorem dX12_next_0 : decode cX12_next 0 = .ok (.aload_n 0, 1) := by decide +kernel
theorem dX12_next_1 : decode cX12_next 1 = .ok (.dup, 1) := by decide +kernel
theorem dX12_next_2 : decode cX12_next 2 = .ok (.getfield 41, 3) := by decide +kernel
theorem dX12_next_5 : decode cX12_next 5 = .ok (.iconst 1, 1) := by decide +kernel
theorem dX12_next_6 : decode cX12_next 6 = .ok (.iadd, 1) := by decide +kernel
theorem dX12_next_7 : decode cX12_next 7 = .ok (.putfield 41, 3) := by decide +kernel
theorem dX12_next_10 : decode cX12_next 10 = .ok (.aload_n 0, 1) := by decide +kernel
theorem dX12_next_11 : decode cX12_next 11 = .ok (.getfield 37, 3) := by decide +kernel
theorem dX12_next_14 : decode cX12_next 14 = .ok (.aload_n 0, 1) := by decide +kernel
theorem dX12_next_15 : decode cX12_next 15 = .ok (.getfield 41, 3) := by decide +kernel
theorem dX12_next_18 : decode cX12_next 18 = .ok (.iload_n 1, 1) := by decide +kernel
theorem dX12_next_19 : decode cX12_next 19 = .ok (.invokestatic 44, 3) := by decide +kernel
theorem dX12_next_22 : decode cX12_next 22 = .ok (.ireturn, 1) := by decide +kernel
theorem dX12_grown_0 : decode cX12_grown 0 = .ok (.new 8, 3) := by decide +kernel
theorem dX12_grown_3 : decode cX12_grown 3 = .ok (.dup, 1) := by decide +kernel
theorem dX12_grown_4 : decode cX12_grown 4 = .ok (.invokespecial 50, 3) := by decide +kernel
theorem dX12_grown_7 : decode cX12_grown 7 = .ok (.astore_n 1, 1) := by decide +kernel
theorem dX12_grown_8 : decode cX12_grown 8 = .ok (.aload_n 1, 1) := by decide +kernel
theorem dX12_grown_9 : decode cX12_grown 9 = .ok (.aload_n 0, 1) := by decide +kernel
theorem dX12_grown_10 : decode cX12_grown 10 = .ok (.putfield 37, 3) := by decide +kernel
theorem dX12_grown_13 : decode cX12_grown 13 = .ok (.new 51, 3) := by decide +kernel
theorem dX12_grown_16 : decode cX12_grown 16 = .ok (.dup, 1) := by decide +kernel
theorem dX12_grown_17 : decode cX12_grown 17 = .ok (.invokespecial 53, 3) := by decide +kernel
theorem dX12_grown_20 : decode cX12_grown 20 = .ok (.astore_n 2, 1) := by decide +kernel
theorem dX12_grown_21 : decode cX12_grown 21 = .ok (.aload_n 1, 1) := by decide +kernel
theorem dX12_grown_22 : decode cX12_grown 22 = .ok (.iconst 3, 1) := by decide +kernel
theorem dX12_grown_23 : decode cX12_grown 23 = .ok (.invokevirtual 54, 3) := by decide +kernel
theorem dX12_grown_26 : decode cX12_grown 26 = .ok (.ifCond .le 50, 3) := by decide +kernel
theorem dX12_grown_29 : decode cX12_grown 29 = .ok (.aload_n 2, 1) := by decide +kernel
theorem dX12_grown_30 : decode cX12_grown 30 = .ok (.ldc 58, 2) := by decide +kernel
theorem dX12_grown_32 : decode cX12_grown 32 = .ok (.invokevirtual 60, 3) := by decide +kernel
theorem dX12_grown_35 : decode cX12_grown 35 = .ok (.aload_n 1, 1) := by decide +kernel
theorem dX12_grown_36 : decode cX12_grown 36 = .ok (.iconst 3, 1) := by decide +kernel
theorem dX12_grown_37 : decode cX12_grown 37 = .ok (.aload_n 1, 1) := by decide +kernel
theorem dX12_grown_38 : decode cX12_grown 38 = .ok (.iconst 4, 1) := by decide +kernel
theorem dX12_grown_39 : decode cX12_grown 39 = .ok (.invokevirtual 54, 3) := by decide +kernel
theorem dX12_grown_42 : decode cX12_grown 42 = .ok (.iadd, 1) := by decide +kernel
theorem dX12_grown_43 : decode cX12_grown 43 = .ok (.dup_x1, 1) := by decide +kernel
theorem dX12_grown_44 : decode cX12_grown 44 = .ok (.putfield 7, 3) := by decide +kernel
theorem dX12_grown_47 : decode cX12_grown 47 = .ok (.invokevirtual 64, 3) := by decide +kernel
theorem dX12_grown_50 : decode cX12_grown 50 = .ok (.ldc 67, 2) := by decide +kernel
theorem dX12_grown_52 : decode cX12_grown 52 = .ok (.invokevirtual 60, 3) := by decide +kernel
theorem dX12_grown_55 : decode cX12_grown 55 = .ok (.aload_n 1, 1) := by decide +kernel
theorem dX12_grown_56 : decode cX12_grown 56 = .ok (.iconst 3, 1) := by decide +kernel
theorem dX12_grown_57 : decode cX12_grown 57 = .ok (.aload_n 1, 1) := by decide +kernel
theorem dX12_grown_58 : decode cX12_grown 58 = .ok (.iconst 4, 1) := by decide +kernel
theorem dX12_grown_59 : decode cX12_grown 59 = .ok (.invokevirtual 54, 3) := by decide +kernel
theorem dX12_grown_62 : decode cX12_grown 62 = .ok (.iadd, 1) := by decide +kernel
theorem dX12_grown_63 : decode cX12_grown 63 = .ok (.dup_x1, 1) := by decide +kernel
theorem dX12_grown_64 : decode cX12_grown 64 = .ok (.putfield 13, 3) := by decide +kernel
theorem dX12_grown_67 : decode cX12_grown 67 = .ok (.invokevirtual 64, 3) := by decide +kernel
theorem dX12_grown_70 : decode cX12_grown 70 = .ok (.ldc 69, 2) := by decide +kernel
theorem dX12_grown_72 : decode cX12_grown 72 = .ok (.invokevirtual 60, 3) := by decide +kernel
theorem dX12_grown_75 : decode cX12_grown 75 = .ok (.pop, 1) := by decide +kernel
theorem dX12_grown_76 : decode cX12_grown 76 = .ok (.iconst 5, 1) := by decide +kernel
theorem dX12_grown_77 : decode cX12_grown 77 = .ok (.istore_n 3, 1) := by decide +kernel
theorem dX12_grown_78 : decode cX12_grown 78 = .ok (.aload_n 1, 1) := by decide +kernel
theorem dX12_grown_79 : decode cX12_grown 79 = .ok (.iconst 2, 1) := by decide +kernel
theorem dX12_grown_80 : decode cX12_grown 80 = .ok (.invokevirtual 54, 3) := by decide +kernel
theorem dX12_grown_83 : decode cX12_grown 83 = .ok (.ifCond .ne 39, 3) := by decide +kernel
theorem dX12_grown_86 : decode cX12_grown 86 = .ok (.aload_n 2, 1) := by decide +kernel
theorem dX12_grown_87 : decode cX12_grown 87 = .ok (.ldc 71, 2) := by decide +kernel
theorem dX12_grown_89 : decode cX12_grown 89 = .ok (.invokevirtual 60, 3) := by decide +kernel
theorem dX12_grown_92 : decode cX12_grown 92 = .ok (.aload_n 1, 1) := by decide +kernel
theorem dX12_grown_93 : decode cX12_grown 93 = .ok (.bipush 8, 2) := by decide +kernel
theorem dX12_grown_95 : decode cX12_grown 95 = .ok (.invokevirtual 54, 3) := by decide +kernel
theorem dX12_grown_98 : decode cX12_grown 98 = .ok (.dup, 1) := by decide +kernel
theorem dX12_grown_99 : decode cX12_grown 99 = .ok (.istore_n 3, 1) := by decide +kernel
theorem dX12_grown_100 : decode cX12_grown 100 = .ok (.invokevirtual 64, 3) := by decide +kernel
theorem dX12_grown_103 : decode cX12_grown 103 = .ok (.aload_n 1, 1) := by decide +kernel
theorem dX12_grown_104 : decode cX12_grown 104 = .ok (.iconst 2, 1) := by decide +kernel
theorem dX12_grown_105 : decode cX12_grown 105 = .ok (.invokevirtual 54, 3) := by decide +kernel
theorem dX12_grown_108 : decode cX12_grown 108 = .ok (.ifCond .ne 8, 3) := by decide +kernel
theorem dX12_grown_111 : decode cX12_grown 111 = .ok (.ldc 73, 2) := by decide +kernel
theorem dX12_grown_113 : decode cX12_grown 113 = .ok (.goto 5, 3) := by decide +kernel
theorem dX12_grown_116 : decode cX12_grown 116 = .ok (.ldc 69, 2) := by decide +kernel
theorem dX12_grown_118 : decode cX12_grown 118 = .ok (.invokevirtual 60, 3) := by decide +kernel
theorem dX12_grown_121 : decode cX12_grown 121 = .ok (.pop, 1) := by decide +kernel
theorem dX12_grown_122 : decode cX12_grown 122 = .ok (.iconst 1, 1) := by decide +kernel
theorem dX12_grown_123 : decode cX12_grown 123 = .ok (.aload_n 1, 1) := by decide +kernel
theorem dX12_grown_124 : decode cX12_grown 124 = .ok (.iconst 4, 1) := by decide +kernel
theorem dX12_grown_125 : decode cX12_grown 125 = .ok (.invokevirtual 54, 3) := by decide +kernel
theorem dX12_grown_128 : decode cX12_grown 128 = .ok (.iadd, 1) := by decide +kernel
theorem dX12_grown_129 : decode cX12_grown 129 = .ok (.istore 4, 2) := by decide +kernel
theorem dX12_grown_131 : decode cX12_grown 131 = .ok (.iload 4, 2) := by decide +kernel
theorem dX12_grown_133 : decode cX12_grown 133 = .ok (.ifCond .le 15, 3) := by decide +kernel
theorem dX12_grown_136 : decode cX12_grown 136 = .ok (.aload_n 1, 1) := by decide +kernel
theorem dX12_grown_137 : decode cX12_grown 137 = .ok (.aload_n 2, 1) := by decide +kernel
theorem dX12_grown_138 : decode cX12_grown 138 = .ok (.iload_n 3, 1) := by decide +kernel
theorem dX12_grown_139 : decode cX12_grown 139 = .ok (.invokevirtual 75, 3) := by decide +kernel
theorem dX12_grown_142 : decode cX12_grown 142 = .ok (.iinc 4 (-1), 3) := by decide +kernel
theorem dX12_grown_145 : decode cX12_grown 145 = .ok (.goto (-14), 3) := by decide +kernel
theorem dX12_grown_148 : decode cX12_grown 148 = .ok (.aload_n 1, 1) := by decide +kernel
theorem dX12_grown_149 : decode cX12_grown 149 = .ok (.iconst 4, 1) := by decide +kernel
theorem dX12_grown_150 : decode cX12_grown 150 = .ok (.invokevirtual 54, 3) := by decide +kernel
theorem dX12_grown_153 : decode cX12_grown 153 = .ok (.istore 4, 2) := by decide +kernel
theorem dX12_grown_155 : decode cX12_grown 155 = .ok (.iload 4, 2) := by decide +kernel
theorem dX12_grown_157 : decode cX12_grown 157 = .ok (.ifCond .le 26, 3) := by decide +kernel
theorem dX12_grown_160 : decode cX12_grown 160 = .ok (.aload_n 1, 1) := by decide +kernel
theorem dX12_grown_161 : decode cX12_grown 161 = .ok (.getfield 19, 3) := by decide +kernel
theorem dX12_grown_164 : decode cX12_grown 164 = .ok (.invokeinterface 79 1, 5) := by decide +kernel
theorem dX12_grown_169 : decode cX12_grown 169 = .ok (.ifCond .ne 14, 3) := by decide +kernel
theorem dX12_grown_172 : decode cX12_grown 172 = .ok (.aload_n 1, 1) := by decide +kernel
theorem dX12_grown_173 : decode cX12_grown 173 = .ok (.aload_n 2, 1) := by decide +kernel
theorem dX12_grown_174 : decode cX12_grown 174 = .ok (.invokevirtual 85, 3) := by decide +kernel
theorem dX12_grown_177 : decode cX12_grown 177 = .ok (.iinc 4 (-1), 3) := by decide +kernel
theorem dX12_grown_180 : decode cX12_grown 180 = .ok (.goto (-25), 3) := by decide +kernel
theorem dX12_grown_183 : decode cX12_grown 183 = .ok (.aload_n 1, 1) := by decide +kernel
theorem dX12_grown_184 : decode cX12_grown 184 = .ok (.iconst 5, 1) := by decide +kernel
theorem dX12_grown_185 : decode cX12_grown 185 = .ok (.invokevirtual 54, 3) := by decide +kernel
theorem dX12_grown_188 : decode cX12_grown 188 = .ok (.istore 4, 2) := by decide +kernel
theorem dX12_grown_190 : decode cX12_grown 190 = .ok (.iload 4, 2) := by decide +kernel
theorem dX12_grown_192 : decode cX12_grown 192 = .ok (.ifCond .le 14, 3) := by decide +kernel
theorem dX12_grown_195 : decode cX12_grown 195 = .ok (.aload_n 1, 1) := by decide +kernel
theorem dX12_grown_196 : decode cX12_grown 196 = .ok (.aload_n 2, 1) := by decide +kernel
theorem dX12_grown_197 : decode cX12_grown 197 = .ok (.invokevirtual 89, 3) := by decide +kernel
theorem dX12_grown_200 : decode cX12_grown 200 = .ok (.iinc 4 (-1), 3) := by decide +kernel
theorem dX12_grown_203 : decode cX12_grown 203 = .ok (.goto (-13), 3) := by decide +kernel
theorem dX12_grown_206 : decode cX12_grown 206 = .ok (.aload_n 1, 1) := by decide +kernel
theorem dX12_grown_207 : decode cX12_grown 207 = .ok (.aload_n 2, 1) := by decide +kernel
theorem dX12_grown_208 : decode cX12_grown 208 = .ok (.invokevirtual 92, 3) := by decide +kernel
theorem dX12_grown_211 : decode cX12_grown 211 = .ok (.putfield 33, 3) := by decide +kernel
theorem dX12_grown_214 : decode cX12_grown 214 = .ok (.aload_n 1, 1) := by decide +kernel
theorem dX12_grown_215 : decode cX12_grown 215 = .ok (.areturn, 1) := by decide +kernel
theorem dX12_pawn_0 : decode cX12_pawn 0 = .ok (.aload_n 0, 1) := by decide +kernel
theorem dX12_pawn_1 : decode cX12_pawn 1 = .ok (.aload_n 0, 1) := by decide +kernel
theorem dX12_pawn_2 : decode cX12_pawn 2 = .ok (.getfield 7, 3) := by decide +kernel
theorem dX12_pawn_5 : decode cX12_pawn 5 = .ok (.invokevirtual 54, 3) := by decide +kernel
theorem dX12_pawn_8 : decode cX12_pawn 8 = .ok (.istore_n 3, 1) := by decide +kernel
theorem dX12_pawn_9 : decode cX12_pawn 9 = .ok (.aload_n 0, 1) := by decide +kernel
theorem dX12_pawn_10 : decode cX12_pawn 10 = .ok (.aload_n 0, 1) := by decide +kernel
theorem dX12_pawn_11 : decode cX12_pawn 11 = .ok (.getfield 13, 3) := by decide +kernel
theorem dX12_pawn_14 : decode cX12_pawn 14 = .ok (.invokevirtual 54, 3) := by decide +kernel
theorem dX12_pawn_17 : decode cX12_pawn 17 = .ok (.istore 4, 2) := by decide +kernel
theorem dX12_pawn_19 : decode cX12_pawn 19 = .ok (.aload_n 0, 1) := by decide +kernel
theorem dX12_pawn_20 : decode cX12_pawn 20 = .ok (.iconst 4, 1) := by decide +kernel
theorem dX12_pawn_21 : decode cX12_pawn 21 = .ok (.invokevirtual 54, 3) := by decide +kernel
theorem dX12_pawn_24 : decode cX12_pawn 24 = .ok (.istore 5, 2) := by decide +kernel
theorem dX12_pawn_26 : decode cX12_pawn 26 = .ok (.aload_n 0, 1) := by decide +kernel
theorem dX12_pawn_27 : decode cX12_pawn 27 = .ok (.iconst 2, 1) := by decide +kernel
theorem dX12_pawn_28 : decode cX12_pawn 28 = .ok (.invokevirtual 54, 3) := by decide +kernel
theorem dX12_pawn_31 : decode cX12_pawn 31 = .ok (.ifCond .ne 7, 3) := by decide +kernel
theorem dX12_pawn_34 : decode cX12_pawn 34 = .ok (.iload_n 2, 1) := by decide +kernel
theorem dX12_pawn_35 : decode cX12_pawn 35 = .ok (.goto 9, 3) := by decide +kernel
theorem dX12_pawn_38 : decode cX12_pawn 38 = .ok (.aload_n 0, 1) := by decide +kernel
theorem dX12_pawn_39 : decode cX12_pawn 39 = .ok (.bipush 6, 2) := by decide +kernel
theorem dX12_pawn_41 : decode cX12_pawn 41 = .ok (.invokevirtual 54, 3) := by decide +kernel
theorem dX12_pawn_44 : decode cX12_pawn 44 = .ok (.istore 6, 2) := by decide +kernel
theorem dX12_pawn_46 : decode cX12_pawn 46 = .ok (.aload_n 0, 1) := by decide +kernel
theorem dX12_pawn_47 : decode cX12_pawn 47 = .ok (.iload_n 3, 1) := by decide +kernel
theorem dX12_pawn_48 : decode cX12_pawn 48 = .ok (.iload 4, 2) := by decide +kernel
theorem dX12_pawn_50 : decode cX12_pawn 50 = .ok (.invokevirtual 96, 3) := by decide +kernel
theorem dX12_pawn_53 : decode cX12_pawn 53 = .ok (.ifCond .ge 15, 3) := by decide +kernel
theorem dX12_pawn_56 : decode cX12_pawn 56 = .ok (.aload_n 0, 1) := by decide +kernel
theorem dX12_pawn_57 : decode cX12_pawn 57 = .ok (.iload_n 3, 1) := by decide +kernel
theorem dX12_pawn_58 : decode cX12_pawn 58 = .ok (.iload 4, 2) := by decide +kernel
theorem dX12_pawn_60 : decode cX12_pawn 60 = .ok (.iload 5, 2) := by decide +kernel
theorem dX12_pawn_62 : decode cX12_pawn 62 = .ok (.invokevirtual 100, 3) := by decide +kernel
theorem dX12_pawn_65 : decode cX12_pawn 65 = .ok (.ifCond .eq 4, 3) := by decide +kernel
theorem dX12_pawn_68 : decode cX12_pawn 68 = .ok (.return_, 1) := by decide +kernel
theorem dX12_pawn_69 : decode cX12_pawn 69 = .ok (.aload_n 1, 1) := by decide +kernel
theorem dX12_pawn_70 : decode cX12_pawn 70 = .ok (.ldc 104, 2) := by decide +kernel
theorem dX12_pawn_72 : decode cX12_pawn 72 = .ok (.invokevirtual 60, 3) := by decide +kernel
theorem dX12_pawn_75 : decode cX12_pawn 75 = .ok (.bipush 97, 2) := by decide +kernel
theorem dX12_pawn_77 : decode cX12_pawn 77 = .ok (.aload_n 0, 1) := by decide +kernel
theorem dX12_pawn_78 : decode cX12_pawn 78 = .ok (.getfield 19, 3) := by decide +kernel
theorem dX12_pawn_81 : decode cX12_pawn 81 = .ok (.invokeinterface 106 1, 5) := by decide +kernel
theorem dX12_pawn_86 : decode cX12_pawn 86 = .ok (.iadd, 1) := by decide +kernel
theorem dX12_pawn_87 : decode cX12_pawn 87 = .ok (.i2c, 1) := by decide +kernel
theorem dX12_pawn_88 : decode cX12_pawn 88 = .ok (.invokevirtual 110, 3) := by decide +kernel
theorem dX12_pawn_91 : decode cX12_pawn 91 = .ok (.aload_n 0, 1) := by decide +kernel
theorem dX12_pawn_92 : decode cX12_pawn 92 = .ok (.getfield 19, 3) := by decide +kernel
theorem dX12_pawn_95 : decode cX12_pawn 95 = .ok (.invokeinterface 106 1, 5) := by decide +kernel
theorem dX12_pawn_100 : decode cX12_pawn 100 = .ok (.iconst 2, 1) := by decide +kernel
theorem dX12_pawn_101 : decode cX12_pawn 101 = .ok (.irem, 1) := by decide +kernel
theorem dX12_pawn_102 : decode cX12_pawn 102 = .ok (.iconst 1, 1) := by decide +kernel
theorem dX12_pawn_103 : decode cX12_pawn 103 = .ok (.if_icmp .ne 8, 3) := by decide +kernel
theorem dX12_pawn_106 : decode cX12_pawn 106 = .ok (.ldc 113, 2) := by decide +kernel
theorem dX12_pawn_108 : decode cX12_pawn 108 = .ok (.goto 5, 3) := by decide +kernel
theorem dX12_pawn_111 : decode cX12_pawn 111 = .ok (.ldc 67, 2) := by decide +kernel
theorem dX12_pawn_113 : decode cX12_pawn 113 = .ok (.invokevirtual 60, 3) := by decide +kernel
theorem dX12_pawn_116 : decode cX12_pawn 116 = .ok (.iload_n 3, 1) := by decide +kernel
theorem dX12_pawn_117 : decode cX12_pawn 117 = .ok (.invokevirtual 64, 3) := by decide +kernel
theorem dX12_pawn_120 : decode cX12_pawn 120 = .ok (.ldc 67, 2) := by decide +kernel
theorem dX12_pawn_122 : decode cX12_pawn 122 = .ok (.invokevirtual 60, 3) := by decide +kernel
theorem dX12_pawn_125 : decode cX12_pawn 125 = .ok (.iload 4, 2) := by decide +kernel
theorem dX12_pawn_127 : decode cX12_pawn 127 = .ok (.invokevirtual 64, 3) := by decide +kernel
theorem dX12_pawn_130 : decode cX12_pawn 130 = .ok (.ldc 67, 2) := by decide +kernel
theorem dX12_pawn_132 : decode cX12_pawn 132 = .ok (.invokevirtual 60, 3) := by decide +kernel
theorem dX12_pawn_135 : decode cX12_pawn 135 = .ok (.getstatic 115, 3) := by decide +kernel
theorem dX12_pawn_138 : decode cX12_pawn 138 = .ok (.iload 5, 2) := by decide +kernel
theorem dX12_pawn_140 : decode cX12_pawn 140 = .ok (.aaload, 1) := by decide +kernel
theorem dX12_pawn_141 : decode cX12_pawn 141 = .ok (.invokevirtual 60, 3) := by decide +kernel
theorem dX12_pawn_144 : decode cX12_pawn 144 = .ok (.pop, 1) := by decide +kernel
theorem dX12_pawn_145 : decode cX12_pawn 145 = .ok (.aload_n 1, 1) := by decide +kernel
theorem dX12_pawn_146 : decode cX12_pawn 146 = .ok (.iload 6, 2) := by decide +kernel
theorem dX12_pawn_148 : decode cX12_pawn 148 = .ok (.iload_n 2, 1) := by decide +kernel
theorem dX12_pawn_149 : decode cX12_pawn 149 = .ok (.if_icmp .ne 8, 3) := by decide +kernel
theorem dX12_pawn_152 : decode cX12_pawn 152 = .ok (.ldc 31, 2) := by decide +kernel
theorem dX12_pawn_154 : decode cX12_pawn 154 = .ok (.goto 23, 3) := by decide +kernel
theorem dX12_pawn_157 : decode cX12_pawn 157 = .ok (.new 51, 3) := by decide +kernel
theorem dX12_pawn_160 : decode cX12_pawn 160 = .ok (.dup, 1) := by decide +kernel
theorem dX12_pawn_161 : decode cX12_pawn 161 = .ok (.invokespecial 53, 3) := by decide +kernel
theorem dX12_pawn_164 : decode cX12_pawn 164 = .ok (.ldc 119, 2) := by decide +kernel
theorem dX12_pawn_166 : decode cX12_pawn 166 = .ok (.invokevirtual 60, 3) := by decide +kernel
theorem dX12_pawn_169 : decode cX12_pawn 169 = .ok (.iload 6, 2) := by decide +kernel
theorem dX12_pawn_171 : decode cX12_pawn 171 = .ok (.invokevirtual 64, 3) := by decide +kernel
theorem dX12_pawn_174 : decode cX12_pawn 174 = .ok (.invokevirtual 92, 3) := by decide +kernel
theorem dX12_pawn_177 : decode cX12_pawn 177 = .ok (.invokevirtual 60, 3) := by decide +kernel
theorem dX12_pawn_180 : decode cX12_pawn 180 = .ok (.ldc 69, 2) := by decide +kernel
theorem dX12_pawn_182 : decode cX12_pawn 182 = .ok (.invokevirtual 60, 3) := by decide +kernel
theorem dX12_pawn_185 : decode cX12_pawn 185 = .ok (.pop, 1) := by decide +kernel
theorem dX12_pawn_186 : decode cX12_pawn 186 = .ok (.aload_n 0, 1) := by decide +kernel
theorem dX12_pawn_187 : decode cX12_pawn 187 = .ok (.getfield 19, 3) := by decide +kernel
theorem dX12_pawn_190 : decode cX12_pawn 190 = .ok (.bipush 7, 2) := by decide +kernel
theorem dX12_pawn_192 : decode cX12_pawn 192 = .ok (.newarray .int, 2) := by decide +kernel
theorem dX12_pawn_194 : decode cX12_pawn 194 = .ok (.dup, 1) := by decide +kernel
theorem dX12_pawn_195 : decode cX12_pawn 195 = .ok (.iconst 0, 1) := by decide +kernel
theorem dX12_pawn_196 : decode cX12_pawn 196 = .ok (.iload_n 3, 1) := by decide +kernel
theorem dX12_pawn_197 : decode cX12_pawn 197 = .ok (.iastore, 1) := by decide +kernel
theorem dX12_pawn_198 : decode cX12_pawn 198 = .ok (.dup, 1) := by decide +kernel
theorem dX12_pawn_199 : decode cX12_pawn 199 = .ok (.iconst 1, 1) := by decide +kernel
theorem dX12_pawn_200 : decode cX12_pawn 200 = .ok (.iload 4, 2) := by decide +kernel
theorem dX12_pawn_202 : decode cX12_pawn 202 = .ok (.iastore, 1) := by decide +kernel
theorem dX12_pawn_203 : decode cX12_pawn 203 = .ok (.dup, 1) := by decide +kernel
theorem dX12_pawn_204 : decode cX12_pawn 204 = .ok (.iconst 2, 1) := by decide +kernel
theorem dX12_pawn_205 : decode cX12_pawn 205 = .ok (.iload 5, 2) := by decide +kernel
theorem dX12_pawn_207 : decode cX12_pawn 207 = .ok (.iastore, 1) := by decide +kernel
theorem dX12_pawn_208 : decode cX12_pawn 208 = .ok (.dup, 1) := by decide +kernel
theorem dX12_pawn_209 : decode cX12_pawn 209 = .ok (.iconst 3, 1) := by decide +kernel
theorem dX12_pawn_210 : decode cX12_pawn 210 = .ok (.iload 6, 2) := by decide +kernel
theorem dX12_pawn_212 : decode cX12_pawn 212 = .ok (.iastore, 1) := by decide +kernel
theorem dX12_pawn_213 : decode cX12_pawn 213 = .ok (.dup, 1) := by decide +kernel
theorem dX12_pawn_214 : decode cX12_pawn 214 = .ok (.iconst 4, 1) := by decide +kernel
theorem dX12_pawn_215 : decode cX12_pawn 215 = .ok (.iconst 0, 1) := by decide +kernel
theorem dX12_pawn_216 : decode cX12_pawn 216 = .ok (.iastore, 1) := by decide +kernel
theorem dX12_pawn_217 : decode cX12_pawn 217 = .ok (.dup, 1) := by decide +kernel
theorem dX12_pawn_218 : decode cX12_pawn 218 = .ok (.iconst 5, 1) := by decide +kernel
theorem dX12_pawn_219 : decode cX12_pawn 219 = .ok (.iconst (-1), 1) := by decide +kernel
theorem dX12_pawn_220 : decode cX12_pawn 220 = .ok (.iastore, 1) := by decide +kernel
theorem dX12_pawn_221 : decode cX12_pawn 221 = .ok (.dup, 1) := by decide +kernel
theorem dX12_pawn_222 : decode cX12_pawn 222 = .ok (.bipush 6, 2) := by decide +kernel
theorem dX12_pawn_224 : decode cX12_pawn 224 = .ok (.iconst 0, 1) := by decide +kernel
theorem dX12_pawn_225 : decode cX12_pawn 225 = .ok (.iastore, 1) := by decide +kernel
theorem dX12_pawn_226 : decode cX12_pawn 226 = .ok (.invokeinterface 121 2, 5) := by decide +kernel
theorem dX12_pawn_231 : decode cX12_pawn 231 = .ok (.pop, 1) := by decide +kernel
theorem dX12_pawn_232 : decode cX12_pawn 232 = .ok (.return_, 1) := by decide +kernel
theorem dX12_ban_0 : decode cX12_ban 0 = .ok (.aload_n 0, 1) := by decide +kernel
theorem dX12_ban_1 : decode cX12_ban 1 = .ok (.aload_n 0, 1) := by decide +kernel
theorem dX12_ban_2 : decode cX12_ban 2 = .ok (.getfield 19, 3) := by decide +kernel
theorem dX12_ban_5 : decode cX12_ban 5 = .ok (.invokeinterface 106 1, 5) := by decide +kernel
theorem dX12_ban_10 : decode cX12_ban 10 = .ok (.invokevirtual 54, 3) := by decide +kernel
theorem dX12_ban_13 : decode cX12_ban 13 = .ok (.istore_n 2, 1) := by decide +kernel
theorem dX12_ban_14 : decode cX12_ban 14 = .ok (.aload_n 0, 1) := by decide +kernel
theorem dX12_ban_15 : decode cX12_ban 15 = .ok (.iconst 4, 1) := by decide +kernel
theorem dX12_ban_16 : decode cX12_ban 16 = .ok (.invokevirtual 54, 3) := by decide +kernel
theorem dX12_ban_19 : decode cX12_ban 19 = .ok (.istore_n 3, 1) := by decide +kernel
theorem dX12_ban_20 : decode cX12_ban 20 = .ok (.aload_n 0, 1) := by decide +kernel
theorem dX12_ban_21 : decode cX12_ban 21 = .ok (.iconst 4, 1) := by decide +kernel
theorem dX12_ban_22 : decode cX12_ban 22 = .ok (.invokevirtual 54, 3) := by decide +kernel
theorem dX12_ban_25 : decode cX12_ban 25 = .ok (.istore 4, 2) := by decide +kernel
theorem dX12_ban_27 : decode cX12_ban 27 = .ok (.bipush 7, 2) := by decide +kernel
theorem dX12_ban_29 : decode cX12_ban 29 = .ok (.newarray .int, 2) := by decide +kernel
theorem dX12_ban_31 : decode cX12_ban 31 = .ok (.dup, 1) := by decide +kernel
theorem dX12_ban_32 : decode cX12_ban 32 = .ok (.iconst 0, 1) := by decide +kernel
theorem dX12_ban_33 : decode cX12_ban 33 = .ok (.iload_n 2, 1) := by decide +kernel
theorem dX12_ban_34 : decode cX12_ban 34 = .ok (.iastore, 1) := by decide +kernel
theorem dX12_ban_35 : decode cX12_ban 35 = .ok (.dup, 1) := by decide +kernel
theorem dX12_ban_36 : decode cX12_ban 36 = .ok (.iconst 1, 1) := by decide +kernel
theorem dX12_ban_37 : decode cX12_ban 37 = .ok (.iload_n 3, 1) := by decide +kernel
theorem dX12_ban_38 : decode cX12_ban 38 = .ok (.iastore, 1) := by decide +kernel
theorem dX12_ban_39 : decode cX12_ban 39 = .ok (.dup, 1) := by decide +kernel
theorem dX12_ban_40 : decode cX12_ban 40 = .ok (.iconst 2, 1) := by decide +kernel
theorem dX12_ban_41 : decode cX12_ban 41 = .ok (.iload 4, 2) := by decide +kernel
theorem dX12_ban_43 : decode cX12_ban 43 = .ok (.iastore, 1) := by decide +kernel
theorem dX12_ban_44 : decode cX12_ban 44 = .ok (.dup, 1) := by decide +kernel
theorem dX12_ban_45 : decode cX12_ban 45 = .ok (.iconst 3, 1) := by decide +kernel
theorem dX12_ban_46 : decode cX12_ban 46 = .ok (.iconst 0, 1) := by decide +kernel
theorem dX12_ban_47 : decode cX12_ban 47 = .ok (.iastore, 1) := by decide +kernel
theorem dX12_ban_48 : decode cX12_ban 48 = .ok (.dup, 1) := by decide +kernel
theorem dX12_ban_49 : decode cX12_ban 49 = .ok (.iconst 4, 1) := by decide +kernel
theorem dX12_ban_50 : decode cX12_ban 50 = .ok (.iconst 0, 1) := by decide +kernel
theorem dX12_ban_51 : decode cX12_ban 51 = .ok (.iastore, 1) := by decide +kernel
theorem dX12_ban_52 : decode cX12_ban 52 = .ok (.dup, 1) := by decide +kernel
theorem dX12_ban_53 : decode cX12_ban 53 = .ok (.iconst 5, 1) := by decide +kernel
theorem dX12_ban_54 : decode cX12_ban 54 = .ok (.iconst 0, 1) := by decide +kernel
theorem dX12_ban_55 : decode cX12_ban 55 = .ok (.iastore, 1) := by decide +kernel
theorem dX12_ban_56 : decode cX12_ban 56 = .ok (.dup, 1) := by decide +kernel
theorem dX12_ban_57 : decode cX12_ban 57 = .ok (.bipush 6, 2) := by decide +kernel
theorem dX12_ban_59 : decode cX12_ban 59 = .ok (.iconst 0, 1) := by decide +kernel
theorem dX12_ban_60 : decode cX12_ban 60 = .ok (.iastore, 1) := by decide +kernel
theorem dX12_ban_61 : decode cX12_ban 61 = .ok (.astore 5, 2) := by decide +kernel
theorem dX12_ban_63 : decode cX12_ban 63 = .ok (.aload_n 1, 1) := by decide +kernel
theorem dX12_ban_64 : decode cX12_ban 64 = .ok (.ldc 125, 2) := by decide +kernel
theorem dX12_ban_66 : decode cX12_ban 66 = .ok (.invokevirtual 60, 3) := by decide +kernel
theorem dX12_ban_69 : decode cX12_ban 69 = .ok (.bipush 97, 2) := by decide +kernel
theorem dX12_ban_71 : decode cX12_ban 71 = .ok (.iload_n 2, 1) := by decide +kernel
theorem dX12_ban_72 : decode cX12_ban 72 = .ok (.iadd, 1) := by decide +kernel
theorem dX12_ban_73 : decode cX12_ban 73 = .ok (.i2c, 1) := by decide +kernel
theorem dX12_ban_74 : decode cX12_ban 74 = .ok (.invokevirtual 110, 3) := by decide +kernel
theorem dX12_ban_77 : decode cX12_ban 77 = .ok (.iload_n 2, 1) := by decide +kernel
theorem dX12_ban_78 : decode cX12_ban 78 = .ok (.iconst 2, 1) := by decide +kernel
theorem dX12_ban_79 : decode cX12_ban 79 = .ok (.irem, 1) := by decide +kernel
theorem dX12_ban_80 : decode cX12_ban 80 = .ok (.iconst 1, 1) := by decide +kernel
theorem dX12_ban_81 : decode cX12_ban 81 = .ok (.if_icmp .ne 8, 3) := by decide +kernel
theorem dX12_ban_84 : decode cX12_ban 84 = .ok (.ldc 113, 2) := by decide +kernel
theorem dX12_ban_86 : decode cX12_ban 86 = .ok (.goto 5, 3) := by decide +kernel
theorem dX12_ban_89 : decode cX12_ban 89 = .ok (.ldc 67, 2) := by decide +kernel
theorem dX12_ban_91 : decode cX12_ban 91 = .ok (.invokevirtual 60, 3) := by decide +kernel
theorem dX12_ban_94 : decode cX12_ban 94 = .ok (.pop, 1) := by decide +kernel
theorem dX12_ban_95 : decode cX12_ban 95 = .ok (.iload_n 3, 1) := by decide +kernel
theorem dX12_ban_96 : decode cX12_ban 96 = .ok (.ifCond .ne 10, 3) := by decide +kernel
theorem dX12_ban_99 : decode cX12_ban 99 = .ok (.aload_n 1, 1) := by decide +kernel
theorem dX12_ban_100 : decode cX12_ban 100 = .ok (.ldc 127, 2) := by decide +kernel
theorem dX12_ban_102 : decode cX12_ban 102 = .ok (.invokevirtual 60, 3) := by decide +kernel
theorem dX12_ban_105 : decode cX12_ban 105 = .ok (.pop, 1) := by decide +kernel
theorem dX12_ban_106 : decode cX12_ban 106 = .ok (.iload_n 3, 1) := by decide +kernel
theorem dX12_ban_107 : decode cX12_ban 107 = .ok (.iconst 1, 1) := by decide +kernel
theorem dX12_ban_108 : decode cX12_ban 108 = .ok (.if_icmp .ne 10, 3) := by decide +kernel
theorem dX12_ban_111 : decode cX12_ban 111 = .ok (.aload_n 1, 1) := by decide +kernel
theorem dX12_ban_112 : decode cX12_ban 112 = .ok (.ldc 129, 2) := by decide +kernel
theorem dX12_ban_114 : decode cX12_ban 114 = .ok (.invokevirtual 60, 3) := by decide +kernel
theorem dX12_ban_117 : decode cX12_ban 117 = .ok (.pop, 1) := by decide +kernel
theorem dX12_ban_118 : decode cX12_ban 118 = .ok (.iload_n 3, 1) := by decide +kernel
theorem dX12_ban_119 : decode cX12_ban 119 = .ok (.iconst 2, 1) := by decide +kernel
theorem dX12_ban_120 : decode cX12_ban 120 = .ok (.if_icmp .ne 66, 3) := by decide +kernel
theorem dX12_ban_123 : decode cX12_ban 123 = .ok (.aload 5, 2) := by decide +kernel
theorem dX12_ban_125 : decode cX12_ban 125 = .ok (.iconst 3, 1) := by decide +kernel
theorem dX12_ban_126 : decode cX12_ban 126 = .ok (.iconst 2, 1) := by decide +kernel
theorem dX12_ban_127 : decode cX12_ban 127 = .ok (.aload_n 0, 1) := by decide +kernel
theorem dX12_ban_128 : decode cX12_ban 128 = .ok (.iconst 4, 1) := by decide +kernel
theorem dX12_ban_129 : decode cX12_ban 129 = .ok (.invokevirtual 54, 3) := by decide +kernel
theorem dX12_ban_132 : decode cX12_ban 132 = .ok (.iadd, 1) := by decide +kernel
theorem dX12_ban_133 : decode cX12_ban 133 = .ok (.iastore, 1) := by decide +kernel
theorem dX12_ban_134 : decode cX12_ban 134 = .ok (.aload 5, 2) := by decide +kernel
theorem dX12_ban_136 : decode cX12_ban 136 = .ok (.iconst 4, 1) := by decide +kernel
theorem dX12_ban_137 : decode cX12_ban 137 = .ok (.aload_n 0, 1) := by decide +kernel
theorem dX12_ban_138 : decode cX12_ban 138 = .ok (.aload 5, 2) := by decide +kernel
theorem dX12_ban_140 : decode cX12_ban 140 = .ok (.iconst 3, 1) := by decide +kernel
theorem dX12_ban_141 : decode cX12_ban 141 = .ok (.iaload, 1) := by decide +kernel
theorem dX12_ban_142 : decode cX12_ban 142 = .ok (.invokevirtual 54, 3) := by decide +kernel
theorem dX12_ban_145 : decode cX12_ban 145 = .ok (.iastore, 1) := by decide +kernel
theorem dX12_ban_146 : decode cX12_ban 146 = .ok (.aload_n 1, 1) := by decide +kernel
theorem dX12_ban_147 : decode cX12_ban 147 = .ok (.getstatic 115, 3) := by decide +kernel
theorem dX12_ban_150 : decode cX12_ban 150 = .ok (.iload 4, 2) := by decide +kernel
theorem dX12_ban_152 : decode cX12_ban 152 = .ok (.aaload, 1) := by decide +kernel
theorem dX12_ban_153 : decode cX12_ban 153 = .ok (.invokevirtual 60, 3) := by decide +kernel
theorem dX12_ban_156 : decode cX12_ban 156 = .ok (.ldc 131, 2) := by decide +kernel
theorem dX12_ban_158 : decode cX12_ban 158 = .ok (.invokevirtual 60, 3) := by decide +kernel
theorem dX12_ban_161 : decode cX12_ban 161 = .ok (.aload 5, 2) := by decide +kernel
theorem dX12_ban_163 : decode cX12_ban 163 = .ok (.iconst 3, 1) := by decide +kernel
theorem dX12_ban_164 : decode cX12_ban 164 = .ok (.iaload, 1) := by decide +kernel
theorem dX12_ban_165 : decode cX12_ban 165 = .ok (.invokevirtual 64, 3) := by decide +kernel
theorem dX12_ban_168 : decode cX12_ban 168 = .ok (.ldc 133, 2) := by decide +kernel
theorem dX12_ban_170 : decode cX12_ban 170 = .ok (.invokevirtual 60, 3) := by decide +kernel
theorem dX12_ban_173 : decode cX12_ban 173 = .ok (.aload 5, 2) := by decide +kernel
theorem dX12_ban_175 : decode cX12_ban 175 = .ok (.iconst 4, 1) := by decide +kernel
theorem dX12_ban_176 : decode cX12_ban 176 = .ok (.iaload, 1) := by decide +kernel
theorem dX12_ban_177 : decode cX12_ban 177 = .ok (.invokevirtual 64, 3) := by decide +kernel
theorem dX12_ban_180 : decode cX12_ban 180 = .ok (.ldc 69, 2) := by decide +kernel
theorem dX12_ban_182 : decode cX12_ban 182 = .ok (.invokevirtual 60, 3) := by decide +kernel
theorem dX12_ban_185 : decode cX12_ban 185 = .ok (.pop, 1) := by decide +kernel
theorem dX12_ban_186 : decode cX12_ban 186 = .ok (.iload_n 3, 1) := by decide +kernel
theorem dX12_ban_187 : decode cX12_ban 187 = .ok (.iconst 3, 1) := by decide +kernel
theorem dX12_ban_188 : decode cX12_ban 188 = .ok (.if_icmp .ne 112, 3) := by decide +kernel
theorem dX12_ban_191 : decode cX12_ban 191 = .ok (.iconst 3, 1) := by decide +kernel
theorem dX12_ban_192 : decode cX12_ban 192 = .ok (.istore 6, 2) := by decide +kernel
theorem dX12_ban_194 : decode cX12_ban 194 = .ok (.iload 6, 2) := by decide +kernel
theorem dX12_ban_196 : decode cX12_ban 196 = .ok (.bipush 7, 2) := by decide +kernel
theorem dX12_ban_198 : decode cX12_ban 198 = .ok (.if_icmp .ge 37, 3) := by decide +kernel
theorem dX12_ban_201 : decode cX12_ban 201 = .ok (.aload 5, 2) := by decide +kernel
theorem dX12_ban_203 : decode cX12_ban 203 = .ok (.iload 6, 2) := by decide +kernel
theorem dX12_ban_205 : decode cX12_ban 205 = .ok (.aload_n 0, 1) := by decide +kernel
theorem dX12_ban_206 : decode cX12_ban 206 = .ok (.iload 6, 2) := by decide +kernel
theorem dX12_ban_208 : decode cX12_ban 208 = .ok (.iconst 2, 1) := by decide +kernel
theorem dX12_ban_209 : decode cX12_ban 209 = .ok (.irem, 1) := by decide +kernel
theorem dX12_ban_210 : decode cX12_ban 210 = .ok (.iconst 1, 1) := by decide +kernel
theorem dX12_ban_211 : decode cX12_ban 211 = .ok (.if_icmp .ne 10, 3) := by decide +kernel
theorem dX12_ban_214 : decode cX12_ban 214 = .ok (.aload_n 0, 1) := by decide +kernel
theorem dX12_ban_215 : decode cX12_ban 215 = .ok (.getfield 7, 3) := by decide +kernel
theorem dX12_ban_218 : decode cX12_ban 218 = .ok (.goto 7, 3) := by decide +kernel
theorem dX12_ban_221 : decode cX12_ban 221 = .ok (.aload_n 0, 1) := by decide +kernel
theorem dX12_ban_222 : decode cX12_ban 222 = .ok (.getfield 13, 3) := by decide +kernel
theorem dX12_ban_225 : decode cX12_ban 225 = .ok (.invokevirtual 54, 3) := by decide +kernel
theorem dX12_ban_228 : decode cX12_ban 228 = .ok (.iastore, 1) := by decide +kernel
theorem dX12_ban_229 : decode cX12_ban 229 = .ok (.iinc 6 1, 3) := by decide +kernel
theorem dX12_ban_232 : decode cX12_ban 232 = .ok (.goto (-38), 3) := by decide +kernel
theorem dX12_ban_235 : decode cX12_ban 235 = .ok (.aload_n 1, 1) := by decide +kernel
theorem dX12_ban_236 : decode cX12_ban 236 = .ok (.getstatic 115, 3) := by decide +kernel
theorem dX12_ban_239 : decode cX12_ban 239 = .ok (.iload 4, 2) := by decide +kernel
theorem dX12_ban_241 : decode cX12_ban 241 = .ok (.aaload, 1) := by decide +kernel
theorem dX12_ban_242 : decode cX12_ban 242 = .ok (.invokevirtual 60, 3) := by decide +kernel
theorem dX12_ban_245 : decode cX12_ban 245 = .ok (.ldc 135, 2) := by decide +kernel
theorem dX12_ban_247 : decode cX12_ban 247 = .ok (.invokevirtual 60, 3) := by decide +kernel
theorem dX12_ban_250 : decode cX12_ban 250 = .ok (.aload 5, 2) := by decide +kernel
theorem dX12_ban_252 : decode cX12_ban 252 = .ok (.iconst 3, 1) := by decide +kernel
theorem dX12_ban_253 : decode cX12_ban 253 = .ok (.iaload, 1) := by decide +kernel
theorem dX12_ban_254 : decode cX12_ban 254 = .ok (.invokevirtual 64, 3) := by decide +kernel
theorem dX12_ban_257 : decode cX12_ban 257 = .ok (.ldc 67, 2) := by decide +kernel
theorem dX12_ban_259 : decode cX12_ban 259 = .ok (.invokevirtual 60, 3) := by decide +kernel
theorem dX12_ban_262 : decode cX12_ban 262 = .ok (.aload 5, 2) := by decide +kernel
theorem dX12_ban_264 : decode cX12_ban 264 = .ok (.iconst 4, 1) := by decide +kernel
theorem dX12_ban_265 : decode cX12_ban 265 = .ok (.iaload, 1) := by decide +kernel
theorem dX12_ban_266 : decode cX12_ban 266 = .ok (.invokevirtual 64, 3) := by decide +kernel
theorem dX12_ban_269 : decode cX12_ban 269 = .ok (.ldc 137, 2) := by decide +kernel
theorem dX12_ban_271 : decode cX12_ban 271 = .ok (.invokevirtual 60, 3) := by decide +kernel
theorem dX12_ban_274 : decode cX12_ban 274 = .ok (.aload 5, 2) := by decide +kernel
theorem dX12_ban_276 : decode cX12_ban 276 = .ok (.iconst 5, 1) := by decide +kernel
theorem dX12_ban_277 : decode cX12_ban 277 = .ok (.iaload, 1) := by decide +kernel
theorem dX12_ban_278 : decode cX12_ban 278 = .ok (.invokevirtual 64, 3) := by decide +kernel
theorem dX12_ban_281 : decode cX12_ban 281 = .ok (.ldc 67, 2) := by decide +kernel
theorem dX12_ban_283 : decode cX12_ban 283 = .ok (.invokevirtual 60, 3) := by decide +kernel
theorem dX12_ban_286 : decode cX12_ban 286 = .ok (.aload 5, 2) := by decide +kernel
theorem dX12_ban_288 : decode cX12_ban 288 = .ok (.bipush 6, 2) := by decide +kernel
theorem dX12_ban_290 : decode cX12_ban 290 = .ok (.iaload, 1) := by decide +kernel
theorem dX12_ban_291 : decode cX12_ban 291 = .ok (.invokevirtual 64, 3) := by decide +kernel
theorem dX12_ban_294 : decode cX12_ban 294 = .ok (.ldc 69, 2) := by decide +kernel
theorem dX12_ban_296 : decode cX12_ban 296 = .ok (.invokevirtual 60, 3) := by decide +kernel
theorem dX12_ban_299 : decode cX12_ban 299 = .ok (.pop, 1) := by decide +kernel
theorem dX12_ban_300 : decode cX12_ban 300 = .ok (.aload_n 0, 1) := by decide +kernel
theorem dX12_ban_301 : decode cX12_ban 301 = .ok (.getfield 23, 3) := by decide +kernel
theorem dX12_ban_304 : decode cX12_ban 304 = .ok (.aload 5, 2) := by decide +kernel
theorem dX12_ban_306 : decode cX12_ban 306 = .ok (.invokeinterface 121 2, 5) := by decide +kernel
theorem dX12_ban_311 : decode cX12_ban 311 = .ok (.pop, 1) := by decide +kernel
theorem dX12_ban_312 : decode cX12_ban 312 = .ok (.return_, 1) := by decide +kernel
theorem dX12_block_0 : decode cX12_block 0 = .ok (.aload_n 0, 1) := by decide +kernel
theorem dX12_block_1 : decode cX12_block 1 = .ok (.aload_n 0, 1) := by decide +kernel
theorem dX12_block_2 : decode cX12_block 2 = .ok (.getfield 7, 3) := by decide +kernel
theorem dX12_block_5 : decode cX12_block 5 = .ok (.iconst 1, 1) := by decide +kernel
theorem dX12_block_6 : decode cX12_block 6 = .ok (.isub, 1) := by decide +kernel
theorem dX12_block_7 : decode cX12_block 7 = .ok (.invokevirtual 54, 3) := by decide +kernel
theorem dX12_block_10 : decode cX12_block 10 = .ok (.istore_n 2, 1) := by decide +kernel
theorem dX12_block_11 : decode cX12_block 11 = .ok (.aload_n 0, 1) := by decide +kernel
theorem dX12_block_12 : decode cX12_block 12 = .ok (.aload_n 0, 1) := by decide +kernel
theorem dX12_block_13 : decode cX12_block 13 = .ok (.getfield 13, 3) := by decide +kernel
theorem dX12_block_16 : decode cX12_block 16 = .ok (.iconst 1, 1) := by decide +kernel
theorem dX12_block_17 : decode cX12_block 17 = .ok (.isub, 1) := by decide +kernel
theorem dX12_block_18 : decode cX12_block 18 = .ok (.invokevirtual 54, 3) := by decide +kernel
theorem dX12_block_21 : decode cX12_block 21 = .ok (.istore_n 3, 1) := by decide +kernel
theorem dX12_block_22 : decode cX12_block 22 = .ok (.iconst 1, 1) := by decide +kernel
theorem dX12_block_23 : decode cX12_block 23 = .ok (.aload_n 0, 1) := by decide +kernel
theorem dX12_block_24 : decode cX12_block 24 = .ok (.iconst 2, 1) := by decide +kernel
theorem dX12_block_25 : decode cX12_block 25 = .ok (.invokevirtual 54, 3) := by decide +kernel
theorem dX12_block_28 : decode cX12_block 28 = .ok (.iadd, 1) := by decide +kernel
theorem dX12_block_29 : decode cX12_block 29 = .ok (.istore 4, 2) := by decide +kernel
theorem dX12_block_31 : decode cX12_block 31 = .ok (.aload_n 0, 1) := by decide +kernel
theorem dX12_block_32 : decode cX12_block 32 = .ok (.iload_n 2, 1) := by decide +kernel
theorem dX12_block_33 : decode cX12_block 33 = .ok (.iload_n 3, 1) := by decide +kernel
theorem dX12_block_34 : decode cX12_block 34 = .ok (.iload 4, 2) := by decide +kernel
theorem dX12_block_36 : decode cX12_block 36 = .ok (.invokevirtual 139, 3) := by decide +kernel
theorem dX12_block_39 : decode cX12_block 39 = .ok (.ifCond .ne 4, 3) := by decide +kernel
theorem dX12_block_42 : decode cX12_block 42 = .ok (.return_, 1) := by decide +kernel
theorem dX12_block_43 : decode cX12_block 43 = .ok (.aload_n 0, 1) := by decide +kernel
theorem dX12_block_44 : decode cX12_block 44 = .ok (.getfield 28, 3) := by decide +kernel
theorem dX12_block_47 : decode cX12_block 47 = .ok (.iload_n 3, 1) := by decide +kernel
theorem dX12_block_48 : decode cX12_block 48 = .ok (.aaload, 1) := by decide +kernel
theorem dX12_block_49 : decode cX12_block 49 = .ok (.iload_n 2, 1) := by decide +kernel
theorem dX12_block_50 : decode cX12_block 50 = .ok (.iload 4, 2) := by decide +kernel
theorem dX12_block_52 : decode cX12_block 52 = .ok (.iastore, 1) := by decide +kernel
theorem dX12_block_53 : decode cX12_block 53 = .ok (.aload_n 1, 1) := by decide +kernel
theorem dX12_block_54 : decode cX12_block 54 = .ok (.ldc 142, 2) := by decide +kernel
theorem dX12_block_56 : decode cX12_block 56 = .ok (.invokevirtual 60, 3) := by decide +kernel
theorem dX12_block_59 : decode cX12_block 59 = .ok (.iload_n 2, 1) := by decide +kernel
theorem dX12_block_60 : decode cX12_block 60 = .ok (.invokevirtual 64, 3) := by decide +kernel
theorem dX12_block_63 : decode cX12_block 63 = .ok (.ldc 67, 2) := by decide +kernel
theorem dX12_block_65 : decode cX12_block 65 = .ok (.invokevirtual 60, 3) := by decide +kernel
theorem dX12_block_68 : decode cX12_block 68 = .ok (.iload_n 3, 1) := by decide +kernel
theorem dX12_block_69 : decode cX12_block 69 = .ok (.invokevirtual 64, 3) := by decide +kernel
theorem dX12_block_72 : decode cX12_block 72 = .ok (.iload 4, 2) := by decide +kernel
theorem dX12_block_74 : decode cX12_block 74 = .ok (.iconst 1, 1) := by decide +kernel
theorem dX12_block_75 : decode cX12_block 75 = .ok (.if_icmp .ne 8, 3) := by decide +kernel
theorem dX12_block_78 : decode cX12_block 78 = .ok (.ldc 144, 2) := by decide +kernel
theorem dX12_block_80 : decode cX12_block 80 = .ok (.goto 5, 3) := by decide +kernel
theorem dX12_block_83 : decode cX12_block 83 = .ok (.ldc 146, 2) := by decide +kernel
theorem dX12_block_85 : decode cX12_block 85 = .ok (.invokevirtual 60, 3) := by decide +kernel
theorem dX12_block_88 : decode cX12_block 88 = .ok (.pop, 1) := by decide +kernel
theorem dX12_block_89 : decode cX12_block 89 = .ok (.return_, 1) := by decide +kernel
theorem dX12_isAtSide_0 : decode cX12_isAtSide 0 = .ok (.iload_n 3, 1) := by decide +kernel
theorem dX12_isAtSide_1 : decode cX12_isAtSide 1 = .ok (.ifCond .ne 13, 3) := by decide +kernel
theorem dX12_isAtSide_4 : decode cX12_isAtSide 4 = .ok (.iload_n 2, 1) := by decide +kernel
theorem dX12_isAtSide_5 : decode cX12_isAtSide 5 = .ok (.aload_n 0, 1) := by decide +kernel
theorem dX12_isAtSide_6 : decode cX12_isAtSide 6 = .ok (.getfield 13, 3) := by decide +kernel
theorem dX12_isAtSide_9 : decode cX12_isAtSide 9 = .ok (.iconst 1, 1) := by decide +kernel
theorem dX12_isAtSide_10 : decode cX12_isAtSide 10 = .ok (.isub, 1) := by decide +kernel
theorem dX12_isAtSide_11 : decode cX12_isAtSide 11 = .ok (.if_icmp .eq 36, 3) := by decide +kernel
theorem dX12_isAtSide_14 : decode cX12_isAtSide 14 = .ok (.iload_n 3, 1) := by decide +kernel
theorem dX12_isAtSide_15 : decode cX12_isAtSide 15 = .ok (.iconst 1, 1) := by decide +kernel
theorem dX12_isAtSide_16 : decode cX12_isAtSide 16 = .ok (.if_icmp .ne 13, 3) := by decide +kernel
theorem dX12_isAtSide_19 : decode cX12_isAtSide 19 = .ok (.iload_n 1, 1) := by decide +kernel
theorem dX12_isAtSide_20 : decode cX12_isAtSide 20 = .ok (.aload_n 0, 1) := by decide +kernel
theorem dX12_isAtSide_21 : decode cX12_isAtSide 21 = .ok (.getfield 7, 3) := by decide +kernel
theorem dX12_isAtSide_24 : decode cX12_isAtSide 24 = .ok (.iconst 1, 1) := by decide +kernel
theorem dX12_isAtSide_25 : decode cX12_isAtSide 25 = .ok (.isub, 1) := by decide +kernel
theorem dX12_isAtSide_26 : decode cX12_isAtSide 26 = .ok (.if_icmp .eq 21, 3) := by decide +kernel
theorem dX12_isAtSide_29 : decode cX12_isAtSide 29 = .ok (.iload_n 3, 1) := by decide +kernel
theorem dX12_isAtSide_30 : decode cX12_isAtSide 30 = .ok (.iconst 2, 1) := by decide +kernel
theorem dX12_isAtSide_31 : decode cX12_isAtSide 31 = .ok (.if_icmp .ne 7, 3) := by decide +kernel
theorem dX12_isAtSide_34 : decode cX12_isAtSide 34 = .ok (.iload_n 2, 1) := by decide +kernel
theorem dX12_isAtSide_35 : decode cX12_isAtSide 35 = .ok (.ifCond .eq 12, 3) := by decide +kernel
theorem dX12_isAtSide_38 : decode cX12_isAtSide 38 = .ok (.iload_n 3, 1) := by decide +kernel
theorem dX12_isAtSide_39 : decode cX12_isAtSide 39 = .ok (.iconst 3, 1) := by decide +kernel
theorem dX12_isAtSide_40 : decode cX12_isAtSide 40 = .ok (.if_icmp .ne 11, 3) := by decide +kernel
theorem dX12_isAtSide_43 : decode cX12_isAtSide 43 = .ok (.iload_n 1, 1) := by decide +kernel
theorem dX12_isAtSide_44 : decode cX12_isAtSide 44 = .ok (.ifCond .ne 7, 3) := by decide +kernel
theorem dX12_isAtSide_47 : decode cX12_isAtSide 47 = .ok (.iconst 1, 1) := by decide +kernel
theorem dX12_isAtSide_48 : decode cX12_isAtSide 48 = .ok (.goto 4, 3) := by decide +kernel
theorem dX12_isAtSide_51 : decode cX12_isAtSide 51 = .ok (.iconst 0, 1) := by decide +kernel
theorem dX12_isAtSide_52 : decode cX12_isAtSide 52 = .ok (.ireturn, 1) := by decide +kernel
theorem dX12_isCell_0 : decode cX12_isCell 0 = .ok (.iload_n 1, 1) := by decide +kernel
theorem dX12_isCell_1 : decode cX12_isCell 1 = .ok (.ifCond .lt 27, 3) := by decide +kernel
theorem dX12_isCell_4 : decode cX12_isCell 4 = .ok (.iload_n 2, 1) := by decide +kernel
theorem dX12_isCell_5 : decode cX12_isCell 5 = .ok (.ifCond .lt 23, 3) := by decide +kernel
theorem dX12_isCell_8 : decode cX12_isCell 8 = .ok (.iload_n 1, 1) := by decide +kernel
theorem dX12_isCell_9 : decode cX12_isCell 9 = .ok (.aload_n 0, 1) := by decide +kernel
theorem dX12_isCell_10 : decode cX12_isCell 10 = .ok (.getfield 7, 3) := by decide +kernel
theorem dX12_isCell_13 : decode cX12_isCell 13 = .ok (.if_icmp .ge 15, 3) := by decide +kernel
theorem dX12_isCell_16 : decode cX12_isCell 16 = .ok (.iload_n 2, 1) := by decide +kernel
theorem dX12_isCell_17 : decode cX12_isCell 17 = .ok (.aload_n 0, 1) := by decide +kernel
theorem dX12_isCell_18 : decode cX12_isCell 18 = .ok (.getfield 13, 3) := by decide +kernel
theorem dX12_isCell_21 : decode cX12_isCell 21 = .ok (.if_icmp .ge 7, 3) := by decide +kernel
theorem dX12_isCell_24 : decode cX12_isCell 24 = .ok (.iconst 1, 1) := by decide +kernel
theorem dX12_isCell_25 : decode cX12_isCell 25 = .ok (.goto 4, 3) := by decide +kernel
theorem dX12_isCell_28 : decode cX12_isCell 28 = .ok (.iconst 0, 1) := by decide +kernel
theorem dX12_isCell_29 : decode cX12_isCell 29 = .ok (.ireturn, 1) := by decide +kernel
theorem dX12_wall_0 : decode cX12_wall 0 = .ok (.iload_n 1, 1) := by decide +kernel
theorem dX12_wall_1 : decode cX12_wall 1 = .ok (.ifCond .lt 38, 3) := by decide +kernel
theorem dX12_wall_4 : decode cX12_wall 4 = .ok (.iload_n 2, 1) := by decide +kernel
theorem dX12_wall_5 : decode cX12_wall 5 = .ok (.ifCond .lt 34, 3) := by decide +kernel
theorem dX12_wall_8 : decode cX12_wall 8 = .ok (.iload_n 1, 1) := by decide +kernel
theorem dX12_wall_9 : decode cX12_wall 9 = .ok (.aload_n 0, 1) := by decide +kernel
theorem dX12_wall_10 : decode cX12_wall 10 = .ok (.getfield 7, 3) := by decide +kernel
theorem dX12_wall_13 : decode cX12_wall 13 = .ok (.iconst 1, 1) := by decide +kernel
theorem dX12_wall_14 : decode cX12_wall 14 = .ok (.isub, 1) := by decide +kernel
theorem dX12_wall_15 : decode cX12_wall 15 = .ok (.if_icmp .ge 24, 3) := by decide +kernel
theorem dX12_wall_18 : decode cX12_wall 18 = .ok (.iload_n 2, 1) := by decide +kernel
theorem dX12_wall_19 : decode cX12_wall 19 = .ok (.aload_n 0, 1) := by decide +kernel
theorem dX12_wall_20 : decode cX12_wall 20 = .ok (.getfield 13, 3) := by decide +kernel
theorem dX12_wall_23 : decode cX12_wall 23 = .ok (.iconst 1, 1) := by decide +kernel
theorem dX12_wall_24 : decode cX12_wall 24 = .ok (.isub, 1) := by decide +kernel
theorem dX12_wall_25 : decode cX12_wall 25 = .ok (.if_icmp .ge 14, 3) := by decide +kernel
theorem dX12_wall_28 : decode cX12_wall 28 = .ok (.aload_n 0, 1) := by decide +kernel
theorem dX12_wall_29 : decode cX12_wall 29 = .ok (.getfield 28, 3) := by decide +kernel
theorem dX12_wall_32 : decode cX12_wall 32 = .ok (.iload_n 2, 1) := by decide +kernel
theorem dX12_wall_33 : decode cX12_wall 33 = .ok (.aaload, 1) := by decide +kernel
theorem dX12_wall_34 : decode cX12_wall 34 = .ok (.iload_n 1, 1) := by decide +kernel
theorem dX12_wall_35 : decode cX12_wall 35 = .ok (.iaload, 1) := by decide +kernel
theorem dX12_wall_36 : decode cX12_wall 36 = .ok (.goto 4, 3) := by decide +kernel
theorem dX12_wall_39 : decode cX12_wall 39 = .ok (.iconst 0, 1) := by decide +kernel
theorem dX12_wall_40 : decode cX12_wall 40 = .ok (.ireturn, 1) := by decide +kernel
theorem dX12_isOpen_0 : decode cX12_isOpen 0 = .ok (.aload_n 0, 1) := by decide +kernel
theorem dX12_isOpen_1 : decode cX12_isOpen 1 = .ok (.iload_n 1, 1) := by decide +kernel
theorem dX12_isOpen_2 : decode cX12_isOpen 2 = .ok (.getstatic 177, 3) := by decide +kernel
theorem dX12_isOpen_5 : decode cX12_isOpen 5 = .ok (.iload_n 3, 1) := by decide +kernel
theorem dX12_isOpen_6 : decode cX12_isOpen 6 = .ok (.iaload, 1) := by decide +kernel
theorem dX12_isOpen_7 : decode cX12_isOpen 7 = .ok (.iadd, 1) := by decide +kernel
theorem dX12_isOpen_8 : decode cX12_isOpen 8 = .ok (.iload_n 2, 1) := by decide +kernel
theorem dX12_isOpen_9 : decode cX12_isOpen 9 = .ok (.getstatic 180, 3) := by decide +kernel
theorem dX12_isOpen_12 : decode cX12_isOpen 12 = .ok (.iload_n 3, 1) := by decide +kernel
theorem dX12_isOpen_13 : decode cX12_isOpen 13 = .ok (.iaload, 1) := by decide +kernel
theorem dX12_isOpen_14 : decode cX12_isOpen 14 = .ok (.iadd, 1) := by decide +kernel
theorem dX12_isOpen_15 : decode cX12_isOpen 15 = .ok (.invokevirtual 183, 3) := by decide +kernel
theorem dX12_isOpen_18 : decode cX12_isOpen 18 = .ok (.ifCond .ne 5, 3) := by decide +kernel
theorem dX12_isOpen_21 : decode cX12_isOpen 21 = .ok (.iconst 0, 1) := by decide +kernel
theorem dX12_isOpen_22 : decode cX12_isOpen 22 = .ok (.ireturn, 1) := by decide +kernel
theorem dX12_isOpen_23 : decode cX12_isOpen 23 = .ok (.iload_n 3, 1) := by decide +kernel
theorem dX12_isOpen_24 : decode cX12_isOpen 24 = .ok (.ifCond .ne 31, 3) := by decide +kernel
theorem dX12_isOpen_27 : decode cX12_isOpen 27 = .ok (.aload_n 0, 1) := by decide +kernel
theorem dX12_isOpen_28 : decode cX12_isOpen 28 = .ok (.iload_n 1, 1) := by decide +kernel
theorem dX12_isOpen_29 : decode cX12_isOpen 29 = .ok (.iload_n 2, 1) := by decide +kernel
theorem dX12_isOpen_30 : decode cX12_isOpen 30 = .ok (.invokevirtual 187, 3) := by decide +kernel
theorem dX12_isOpen_33 : decode cX12_isOpen 33 = .ok (.iconst 1, 1) := by decide +kernel
theorem dX12_isOpen_34 : decode cX12_isOpen 34 = .ok (.if_icmp .eq 19, 3) := by decide +kernel
theorem dX12_isOpen_37 : decode cX12_isOpen 37 = .ok (.aload_n 0, 1) := by decide +kernel
theorem dX12_isOpen_38 : decode cX12_isOpen 38 = .ok (.iload_n 1, 1) := by decide +kernel
theorem dX12_isOpen_39 : decode cX12_isOpen 39 = .ok (.iconst 1, 1) := by decide +kernel
theorem dX12_isOpen_40 : decode cX12_isOpen 40 = .ok (.isub, 1) := by decide +kernel
theorem dX12_isOpen_41 : decode cX12_isOpen 41 = .ok (.iload_n 2, 1) := by decide +kernel
theorem dX12_isOpen_42 : decode cX12_isOpen 42 = .ok (.invokevirtual 187, 3) := by decide +kernel
theorem dX12_isOpen_45 : decode cX12_isOpen 45 = .ok (.iconst 1, 1) := by decide +kernel
theorem dX12_isOpen_46 : decode cX12_isOpen 46 = .ok (.if_icmp .eq 7, 3) := by decide +kernel
theorem dX12_isOpen_49 : decode cX12_isOpen 49 = .ok (.iconst 1, 1) := by decide +kernel
theorem dX12_isOpen_50 : decode cX12_isOpen 50 = .ok (.goto 4, 3) := by decide +kernel
theorem dX12_isOpen_53 : decode cX12_isOpen 53 = .ok (.iconst 0, 1) := by decide +kernel
theorem dX12_isOpen_54 : decode cX12_isOpen 54 = .ok (.ireturn, 1) := by decide +kernel
theorem dX12_isOpen_55 : decode cX12_isOpen 55 = .ok (.iload_n 3, 1) := by decide +kernel
theorem dX12_isOpen_56 : decode cX12_isOpen 56 = .ok (.iconst 1, 1) := by decide +kernel
theorem dX12_isOpen_57 : decode cX12_isOpen 57 = .ok (.if_icmp .ne 31, 3) := by decide +kernel
theorem dX12_isOpen_60 : decode cX12_isOpen 60 = .ok (.aload_n 0, 1) := by decide +kernel
theorem dX12_isOpen_61 : decode cX12_isOpen 61 = .ok (.iload_n 1, 1) := by decide +kernel
theorem dX12_isOpen_62 : decode cX12_isOpen 62 = .ok (.iload_n 2, 1) := by decide +kernel
theorem dX12_isOpen_63 : decode cX12_isOpen 63 = .ok (.invokevirtual 187, 3) := by decide +kernel
theorem dX12_isOpen_66 : decode cX12_isOpen 66 = .ok (.iconst 2, 1) := by decide +kernel
theorem dX12_isOpen_67 : decode cX12_isOpen 67 = .ok (.if_icmp .eq 19, 3) := by decide +kernel
theorem dX12_isOpen_70 : decode cX12_isOpen 70 = .ok (.aload_n 0, 1) := by decide +kernel
theorem dX12_isOpen_71 : decode cX12_isOpen 71 = .ok (.iload_n 1, 1) := by decide +kernel
theorem dX12_isOpen_72 : decode cX12_isOpen 72 = .ok (.iload_n 2, 1) := by decide +kernel
theorem dX12_isOpen_73 : decode cX12_isOpen 73 = .ok (.iconst 1, 1) := by decide +kernel
theorem dX12_isOpen_74 : decode cX12_isOpen 74 = .ok (.isub, 1) := by decide +kernel
theorem dX12_isOpen_75 : decode cX12_isOpen 75 = .ok (.invokevirtual 187, 3) := by decide +kernel
theorem dX12_isOpen_78 : decode cX12_isOpen 78 = .ok (.iconst 2, 1) := by decide +kernel
theorem dX12_isOpen_79 : decode cX12_isOpen 79 = .ok (.if_icmp .eq 7, 3) := by decide +kernel
theorem dX12_isOpen_82 : decode cX12_isOpen 82 = .ok (.iconst 1, 1) := by decide +kernel
theorem dX12_isOpen_83 : decode cX12_isOpen 83 = .ok (.goto 4, 3) := by decide +kernel
theorem dX12_isOpen_86 : decode cX12_isOpen 86 = .ok (.iconst 0, 1) := by decide +kernel
theorem dX12_isOpen_87 : decode cX12_isOpen 87 = .ok (.ireturn, 1) := by decide +kernel
theorem dX12_isOpen_88 : decode cX12_isOpen 88 = .ok (.aload_n 0, 1) := by decide +kernel
theorem dX12_isOpen_89 : decode cX12_isOpen 89 = .ok (.iload_n 1, 1) := by decide +kernel
theorem dX12_isOpen_90 : decode cX12_isOpen 90 = .ok (.getstatic 177, 3) := by decide +kernel
theorem dX12_isOpen_93 : decode cX12_isOpen 93 = .ok (.iload_n 3, 1) := by decide +kernel
theorem dX12_isOpen_94 : decode cX12_isOpen 94 = .ok (.iaload, 1) := by decide +kernel
theorem dX12_isOpen_95 : decode cX12_isOpen 95 = .ok (.iadd, 1) := by decide +kernel
theorem dX12_isOpen_96 : decode cX12_isOpen 96 = .ok (.iload_n 2, 1) := by decide +kernel
theorem dX12_isOpen_97 : decode cX12_isOpen 97 = .ok (.getstatic 180, 3) := by decide +kernel
theorem dX12_isOpen_100 : decode cX12_isOpen 100 = .ok (.iload_n 3, 1) := by decide +kernel
theorem dX12_isOpen_101 : decode cX12_isOpen 101 = .ok (.iaload, 1) := by decide +kernel
theorem dX12_isOpen_102 : decode cX12_isOpen 102 = .ok (.iadd, 1) := by decide +kernel
theorem dX12_isOpen_103 : decode cX12_isOpen 103 = .ok (.iload_n 3, 1) := by decide +kernel
theorem dX12_isOpen_104 : decode cX12_isOpen 104 = .ok (.iconst 2, 1) := by decide +kernel
theorem dX12_isOpen_105 : decode cX12_isOpen 105 = .ok (.isub, 1) := by decide +kernel
theorem dX12_isOpen_106 : decode cX12_isOpen 106 = .ok (.invokevirtual 190, 3) := by decide +kernel
theorem dX12_isOpen_109 : decode cX12_isOpen 109 = .ok (.ireturn, 1) := by decide +kernel
theorem dX12_pawnAt_0 : decode cX12_pawnAt 0 = .ok (.iconst 0, 1) := by decide +kernel
theorem dX12_pawnAt_1 : decode cX12_pawnAt 1 = .ok (.istore_n 3, 1) := by decide +kernel
theorem dX12_pawnAt_2 : decode cX12_pawnAt 2 = .ok (.iload_n 3, 1) := by decide +kernel
theorem dX12_pawnAt_3 : decode cX12_pawnAt 3 = .ok (.aload_n 0, 1) := by decide +kernel
theorem dX12_pawnAt_4 : decode cX12_pawnAt 4 = .ok (.getfield 19, 3) := by decide +kernel
theorem dX12_pawnAt_7 : decode cX12_pawnAt 7 = .ok (.invokeinterface 106 1, 5) := by decide +kernel
theorem dX12_pawnAt_12 : decode cX12_pawnAt 12 = .ok (.if_icmp .ge 68, 3) := by decide +kernel
theorem dX12_pawnAt_15 : decode cX12_pawnAt 15 = .ok (.aload_n 0, 1) := by decide +kernel
theorem dX12_pawnAt_16 : decode cX12_pawnAt 16 = .ok (.getfield 19, 3) := by decide +kernel
theorem dX12_pawnAt_19 : decode cX12_pawnAt 19 = .ok (.iload_n 3, 1) := by decide +kernel
theorem dX12_pawnAt_20 : decode cX12_pawnAt 20 = .ok (.invokeinterface 193 2, 5) := by decide +kernel
theorem dX12_pawnAt_25 : decode cX12_pawnAt 25 = .ok (.checkcast 169, 3) := by decide +kernel
theorem dX12_pawnAt_28 : decode cX12_pawnAt 28 = .ok (.bipush 6, 2) := by decide +kernel
theorem dX12_pawnAt_30 : decode cX12_pawnAt 30 = .ok (.iaload, 1) := by decide +kernel
theorem dX12_pawnAt_31 : decode cX12_pawnAt 31 = .ok (.ifCond .ne 43, 3) := by decide +kernel
theorem dX12_pawnAt_34 : decode cX12_pawnAt 34 = .ok (.aload_n 0, 1) := by decide +kernel
theorem dX12_pawnAt_35 : decode cX12_pawnAt 35 = .ok (.getfield 19, 3) := by decide +kernel
theorem dX12_pawnAt_38 : decode cX12_pawnAt 38 = .ok (.iload_n 3, 1) := by decide +kernel
theorem dX12_pawnAt_39 : decode cX12_pawnAt 39 = .ok (.invokeinterface 193 2, 5) := by decide +kernel
theorem dX12_pawnAt_44 : decode cX12_pawnAt 44 = .ok (.checkcast 169, 3) := by decide +kernel
theorem dX12_pawnAt_47 : decode cX12_pawnAt 47 = .ok (.iconst 0, 1) := by decide +kernel
theorem dX12_pawnAt_48 : decode cX12_pawnAt 48 = .ok (.iaload, 1) := by decide +kernel
theorem dX12_pawnAt_49 : decode cX12_pawnAt 49 = .ok (.iload_n 1, 1) := by decide +kernel
theorem dX12_pawnAt_50 : decode cX12_pawnAt 50 = .ok (.if_icmp .ne 24, 3) := by decide +kernel
theorem dX12_pawnAt_53 : decode cX12_pawnAt 53 = .ok (.aload_n 0, 1) := by decide +kernel
theorem dX12_pawnAt_54 : decode cX12_pawnAt 54 = .ok (.getfield 19, 3) := by decide +kernel
theorem dX12_pawnAt_57 : decode cX12_pawnAt 57 = .ok (.iload_n 3, 1) := by decide +kernel
theorem dX12_pawnAt_58 : decode cX12_pawnAt 58 = .ok (.invokeinterface 193 2, 5) := by decide +kernel
theorem dX12_pawnAt_63 : decode cX12_pawnAt 63 = .ok (.checkcast 169, 3) := by decide +kernel
theorem dX12_pawnAt_66 : decode cX12_pawnAt 66 = .ok (.iconst 1, 1) := by decide +kernel
theorem dX12_pawnAt_67 : decode cX12_pawnAt 67 = .ok (.iaload, 1) := by decide +kernel
theorem dX12_pawnAt_68 : decode cX12_pawnAt 68 = .ok (.iload_n 2, 1) := by decide +kernel
theorem dX12_pawnAt_69 : decode cX12_pawnAt 69 = .ok (.if_icmp .ne 5, 3) := by decide +kernel
theorem dX12_pawnAt_72 : decode cX12_pawnAt 72 = .ok (.iload_n 3, 1) := by decide +kernel
theorem dX12_pawnAt_73 : decode cX12_pawnAt 73 = .ok (.ireturn, 1) := by decide +kernel
theorem dX12_pawnAt_74 : decode cX12_pawnAt 74 = .ok (.iinc 3 1, 3) := by decide +kernel
theorem dX12_pawnAt_77 : decode cX12_pawnAt 77 = .ok (.goto (-75), 3) := by decide +kernel
theorem dX12_pawnAt_80 : decode cX12_pawnAt 80 = .ok (.iconst (-1), 1) := by decide +kernel
theorem dX12_pawnAt_81 : decode cX12_pawnAt 81 = .ok (.ireturn, 1) := by decide +kernel
theorem dX12_distances_0 : decode cX12_distances 0 = .ok (.aload_n 0, 1) := by decide +kernel
theorem dX12_distances_1 : decode cX12_distances 1 = .ok (.getfield 7, 3) := by decide +kernel
theorem dX12_distances_4 : decode cX12_distances 4 = .ok (.aload_n 0, 1) := by decide +kernel
theorem dX12_distances_5 : decode cX12_distances 5 = .ok (.getfield 13, 3) := by decide +kernel
theorem dX12_distances_8 : decode cX12_distances 8 = .ok (.multianewarray 26 2, 4) := by decide +kernel
theorem dX12_distances_12 : decode cX12_distances 12 = .ok (.astore_n 2, 1) := by decide +kernel
theorem dX12_distances_13 : decode cX12_distances 13 = .ok (.iconst 0, 1) := by decide +kernel
theorem dX12_distances_14 : decode cX12_distances 14 = .ok (.istore_n 3, 1) := by decide +kernel
theorem dX12_distances_15 : decode cX12_distances 15 = .ok (.iload_n 3, 1) := by decide +kernel
theorem dX12_distances_16 : decode cX12_distances 16 = .ok (.aload_n 0, 1) := by decide +kernel
theorem dX12_distances_17 : decode cX12_distances 17 = .ok (.getfield 7, 3) := by decide +kernel
theorem dX12_distances_20 : decode cX12_distances 20 = .ok (.if_icmp .ge 51, 3) := by decide +kernel
theorem dX12_distances_23 : decode cX12_distances 23 = .ok (.iconst 0, 1) := by decide +kernel
theorem dX12_distances_24 : decode cX12_distances 24 = .ok (.istore 4, 2) := by decide +kernel
theorem dX12_distances_26 : decode cX12_distances 26 = .ok (.iload 4, 2) := by decide +kernel
theorem dX12_distances_28 : decode cX12_distances 28 = .ok (.aload_n 0, 1) := by decide +kernel
theorem dX12_distances_29 : decode cX12_distances 29 = .ok (.getfield 13, 3) := by decide +kernel
theorem dX12_distances_32 : decode cX12_distances 32 = .ok (.if_icmp .ge 33, 3) := by decide +kernel
theorem dX12_distances_35 : decode cX12_distances 35 = .ok (.aload_n 2, 1) := by decide +kernel
theorem dX12_distances_36 : decode cX12_distances 36 = .ok (.iload_n 3, 1) := by decide +kernel
theorem dX12_distances_37 : decode cX12_distances 37 = .ok (.aaload, 1) := by decide +kernel
theorem dX12_distances_38 : decode cX12_distances 38 = .ok (.iload 4, 2) := by decide +kernel
theorem dX12_distances_40 : decode cX12_distances 40 = .ok (.aload_n 0, 1) := by decide +kernel
theorem dX12_distances_41 : decode cX12_distances 41 = .ok (.iload_n 3, 1) := by decide +kernel
theorem dX12_distances_42 : decode cX12_distances 42 = .ok (.iload 4, 2) := by decide +kernel
theorem dX12_distances_44 : decode cX12_distances 44 = .ok (.iload_n 1, 1) := by decide +kernel
theorem dX12_distances_45 : decode cX12_distances 45 = .ok (.invokevirtual 100, 3) := by decide +kernel
theorem dX12_distances_48 : decode cX12_distances 48 = .ok (.ifCond .eq 7, 3) := by decide +kernel
theorem dX12_distances_51 : decode cX12_distances 51 = .ok (.iconst 0, 1) := by decide +kernel
theorem dX12_distances_52 : decode cX12_distances 52 = .ok (.goto 6, 3) := by decide +kernel
theorem dX12_distances_55 : decode cX12_distances 55 = .ok (.sipush 1000, 3) := by decide +kernel
theorem dX12_distances_58 : decode cX12_distances 58 = .ok (.iastore, 1) := by decide +kernel
theorem dX12_distances_59 : decode cX12_distances 59 = .ok (.iinc 4 1, 3) := by decide +kernel
theorem dX12_distances_62 : decode cX12_distances 62 = .ok (.goto (-36), 3) := by decide +kernel
theorem dX12_distances_65 : decode cX12_distances 65 = .ok (.iinc 3 1, 3) := by decide +kernel
theorem dX12_distances_68 : decode cX12_distances 68 = .ok (.goto (-53), 3) := by decide +kernel
theorem dX12_distances_71 : decode cX12_distances 71 = .ok (.iconst 1, 1) := by decide +kernel
theorem dX12_distances_72 : decode cX12_distances 72 = .ok (.istore_n 3, 1) := by decide +kernel
theorem dX12_distances_73 : decode cX12_distances 73 = .ok (.iload_n 3, 1) := by decide +kernel
theorem dX12_distances_74 : decode cX12_distances 74 = .ok (.ifCond .eq 140, 3) := by decide +kernel
theorem dX12_distances_77 : decode cX12_distances 77 = .ok (.iconst 0, 1) := by decide +kernel
theorem dX12_distances_78 : decode cX12_distances 78 = .ok (.istore_n 3, 1) := by decide +kernel
theorem dX12_distances_79 : decode cX12_distances 79 = .ok (.iconst 0, 1) := by decide +kernel
theorem dX12_distances_80 : decode cX12_distances 80 = .ok (.istore 4, 2) := by decide +kernel
theorem dX12_distances_82 : decode cX12_distances 82 = .ok (.iload 4, 2) := by decide +kernel
theorem dX12_distances_84 : decode cX12_distances 84 = .ok (.aload_n 0, 1) := by decide +kernel
theorem dX12_distances_85 : decode cX12_distances 85 = .ok (.getfield 7, 3) := by decide +kernel
theorem dX12_distances_88 : decode cX12_distances 88 = .ok (.if_icmp .ge 123, 3) := by decide +kernel
theorem dX12_distances_91 : decode cX12_distances 91 = .ok (.iconst 0, 1) := by decide +kernel
theorem dX12_distances_92 : decode cX12_distances 92 = .ok (.istore 5, 2) := by decide +kernel
theorem dX12_distances_94 : decode cX12_distances 94 = .ok (.iload 5, 2) := by decide +kernel
theorem dX12_distances_96 : decode cX12_distances 96 = .ok (.aload_n 0, 1) := by decide +kernel
theorem dX12_distances_97 : decode cX12_distances 97 = .ok (.getfield 13, 3) := by decide +kernel
theorem dX12_distances_100 : decode cX12_distances 100 = .ok (.if_icmp .ge 105, 3) := by decide +kernel
theorem dX12_distances_103 : decode cX12_distances 103 = .ok (.iconst 0, 1) := by decide +kernel
theorem dX12_distances_104 : decode cX12_distances 104 = .ok (.istore 6, 2) := by decide +kernel
theorem dX12_distances_106 : decode cX12_distances 106 = .ok (.iload 6, 2) := by decide +kernel
theorem dX12_distances_108 : decode cX12_distances 108 = .ok (.iconst 4, 1) := by decide +kernel
theorem dX12_distances_109 : decode cX12_distances 109 = .ok (.if_icmp .ge 90, 3) := by decide +kernel
theorem dX12_distances_112 : decode cX12_distances 112 = .ok (.aload_n 0, 1) := by decide +kernel
theorem dX12_distances_113 : decode cX12_distances 113 = .ok (.iload 4, 2) := by decide +kernel
theorem dX12_distances_115 : decode cX12_distances 115 = .ok (.iload 5, 2) := by decide +kernel
theorem dX12_distances_117 : decode cX12_distances 117 = .ok (.iload 6, 2) := by decide +kernel
theorem dX12_distances_119 : decode cX12_distances 119 = .ok (.invokevirtual 190, 3) := by decide +kernel
theorem dX12_distances_122 : decode cX12_distances 122 = .ok (.ifCond .eq 71, 3) := by decide +kernel
theorem dX12_distances_125 : decode cX12_distances 125 = .ok (.aload_n 2, 1) := by decide +kernel
theorem dX12_distances_126 : decode cX12_distances 126 = .ok (.iload 4, 2) := by decide +kernel
theorem dX12_distances_128 : decode cX12_distances 128 = .ok (.getstatic 177, 3) := by decide +kernel
theorem dX12_distances_131 : decode cX12_distances 131 = .ok (.iload 6, 2) := by decide +kernel
theorem dX12_distances_133 : decode cX12_distances 133 = .ok (.iaload, 1) := by decide +kernel
theorem dX12_distances_134 : decode cX12_distances 134 = .ok (.iadd, 1) := by decide +kernel
theorem dX12_distances_135 : decode cX12_distances 135 = .ok (.aaload, 1) := by decide +kernel
theorem dX12_distances_136 : decode cX12_distances 136 = .ok (.iload 5, 2) := by decide +kernel
theorem dX12_distances_138 : decode cX12_distances 138 = .ok (.getstatic 180, 3) := by decide +kernel
theorem dX12_distances_141 : decode cX12_distances 141 = .ok (.iload 6, 2) := by decide +kernel
theorem dX12_distances_143 : decode cX12_distances 143 = .ok (.iaload, 1) := by decide +kernel
theorem dX12_distances_144 : decode cX12_distances 144 = .ok (.iadd, 1) := by decide +kernel
theorem dX12_distances_145 : decode cX12_distances 145 = .ok (.iaload, 1) := by decide +kernel
theorem dX12_distances_146 : decode cX12_distances 146 = .ok (.iconst 1, 1) := by decide +kernel
theorem dX12_distances_147 : decode cX12_distances 147 = .ok (.iadd, 1) := by decide +kernel
theorem dX12_distances_148 : decode cX12_distances 148 = .ok (.aload_n 2, 1) := by decide +kernel
theorem dX12_distances_149 : decode cX12_distances 149 = .ok (.iload 4, 2) := by decide +kernel
theorem dX12_distances_151 : decode cX12_distances 151 = .ok (.aaload, 1) := by decide +kernel
theorem dX12_distances_152 : decode cX12_distances 152 = .ok (.iload 5, 2) := by decide +kernel
theorem dX12_distances_154 : decode cX12_distances 154 = .ok (.iaload, 1) := by decide +kernel
theorem dX12_distances_155 : decode cX12_distances 155 = .ok (.if_icmp .lt 6, 3) := by decide +kernel
theorem dX12_distances_158 : decode cX12_distances 158 = .ok (.goto 35, 3) := by decide +kernel
theorem dX12_distances_161 : decode cX12_distances 161 = .ok (.aload_n 2, 1) := by decide +kernel
theorem dX12_distances_162 : decode cX12_distances 162 = .ok (.iload 4, 2) := by decide +kernel
theorem dX12_distances_164 : decode cX12_distances 164 = .ok (.aaload, 1) := by decide +kernel
theorem dX12_distances_165 : decode cX12_distances 165 = .ok (.iload 5, 2) := by decide +kernel
theorem dX12_distances_167 : decode cX12_distances 167 = .ok (.aload_n 2, 1) := by decide +kernel
theorem dX12_distances_168 : decode cX12_distances 168 = .ok (.iload 4, 2) := by decide +kernel
theorem dX12_distances_170 : decode cX12_distances 170 = .ok (.getstatic 177, 3) := by decide +kernel
theorem dX12_distances_173 : decode cX12_distances 173 = .ok (.iload 6, 2) := by decide +kernel
theorem dX12_distances_175 : decode cX12_distances 175 = .ok (.iaload, 1) := by decide +kernel
theorem dX12_distances_176 : decode cX12_distances 176 = .ok (.iadd, 1) := by decide +kernel
theorem dX12_distances_177 : decode cX12_distances 177 = .ok (.aaload, 1) := by decide +kernel
theorem dX12_distances_178 : decode cX12_distances 178 = .ok (.iload 5, 2) := by decide +kernel
theorem dX12_distances_180 : decode cX12_distances 180 = .ok (.getstatic 180, 3) := by decide +kernel
theorem dX12_distances_183 : decode cX12_distances 183 = .ok (.iload 6, 2) := by decide +kernel
theorem dX12_distances_185 : decode cX12_distances 185 = .ok (.iaload, 1) := by decide +kernel
theorem dX12_distances_186 : decode cX12_distances 186 = .ok (.iadd, 1) := by decide +kernel
theorem dX12_distances_187 : decode cX12_distances 187 = .ok (.iaload, 1) := by decide +kernel
theorem dX12_distances_188 : decode cX12_distances 188 = .ok (.iconst 1, 1) := by decide +kernel
theorem dX12_distances_189 : decode cX12_distances 189 = .ok (.iadd, 1) := by decide +kernel
theorem dX12_distances_190 : decode cX12_distances 190 = .ok (.iastore, 1) := by decide +kernel
theorem dX12_distances_191 : decode cX12_distances 191 = .ok (.iconst 1, 1) := by decide +kernel
theorem dX12_distances_192 : decode cX12_distances 192 = .ok (.istore_n 3, 1) := by decide +kernel
theorem dX12_distances_193 : decode cX12_distances 193 = .ok (.iinc 6 1, 3) := by decide +kernel
theorem dX12_distances_196 : decode cX12_distances 196 = .ok (.goto (-90), 3) := by decide +kernel
theorem dX12_distances_199 : decode cX12_distances 199 = .ok (.iinc 5 1, 3) := by decide +kernel
theorem dX12_distances_202 : decode cX12_distances 202 = .ok (.goto (-108), 3) := by decide +kernel
theorem dX12_distances_205 : decode cX12_distances 205 = .ok (.iinc 4 1, 3) := by decide +kernel
theorem dX12_distances_208 : decode cX12_distances 208 = .ok (.goto (-126), 3) := by decide +kernel
theorem dX12_distances_211 : decode cX12_distances 211 = .ok (.goto (-138), 3) := by decide +kernel
theorem dX12_distances_214 : decode cX12_distances 214 = .ok (.aload_n 2, 1) := by decide +kernel
theorem dX12_distances_215 : decode cX12_distances 215 = .ok (.areturn, 1) := by decide +kernel
theorem dX12_distance_0 : decode cX12_distance 0 = .ok (.aload_n 0, 1) := by decide +kernel
theorem dX12_distance_1 : decode cX12_distance 1 = .ok (.getfield 19, 3) := by decide +kernel
theorem dX12_distance_4 : decode cX12_distance 4 = .ok (.iload_n 1, 1) := by decide +kernel
theorem dX12_distance_5 : decode cX12_distance 5 = .ok (.invokeinterface 193 2, 5) := by decide +kernel
theorem dX12_distance_10 : decode cX12_distance 10 = .ok (.checkcast 169, 3) := by decide +kernel
theorem dX12_distance_13 : decode cX12_distance 13 = .ok (.astore_n 2, 1) := by decide +kernel
theorem dX12_distance_14 : decode cX12_distance 14 = .ok (.aload_n 2, 1) := by decide +kernel
theorem dX12_distance_15 : decode cX12_distance 15 = .ok (.bipush 6, 2) := by decide +kernel
theorem dX12_distance_17 : decode cX12_distance 17 = .ok (.iaload, 1) := by decide +kernel
theorem dX12_distance_18 : decode cX12_distance 18 = .ok (.ifCond .le 7, 3) := by decide +kernel
theorem dX12_distance_21 : decode cX12_distance 21 = .ok (.iconst 0, 1) := by decide +kernel
theorem dX12_distance_22 : decode cX12_distance 22 = .ok (.goto 18, 3) := by decide +kernel
theorem dX12_distance_25 : decode cX12_distance 25 = .ok (.aload_n 0, 1) := by decide +kernel
theorem dX12_distance_26 : decode cX12_distance 26 = .ok (.aload_n 2, 1) := by decide +kernel
theorem dX12_distance_27 : decode cX12_distance 27 = .ok (.iconst 2, 1) := by decide +kernel
theorem dX12_distance_28 : decode cX12_distance 28 = .ok (.iaload, 1) := by decide +kernel
theorem dX12_distance_29 : decode cX12_distance 29 = .ok (.invokevirtual 197, 3) := by decide +kernel
theorem dX12_distance_32 : decode cX12_distance 32 = .ok (.aload_n 2, 1) := by decide +kernel
theorem dX12_distance_33 : decode cX12_distance 33 = .ok (.iconst 0, 1) := by decide +kernel
theorem dX12_distance_34 : decode cX12_distance 34 = .ok (.iaload, 1) := by decide +kernel
theorem dX12_distance_35 : decode cX12_distance 35 = .ok (.aaload, 1) := by decide +kernel
theorem dX12_distance_36 : decode cX12_distance 36 = .ok (.aload_n 2, 1) := by decide +kernel
theorem dX12_distance_37 : decode cX12_distance 37 = .ok (.iconst 1, 1) := by decide +kernel
theorem dX12_distance_38 : decode cX12_distance 38 = .ok (.iaload, 1) := by decide +kernel
theorem dX12_distance_39 : decode cX12_distance 39 = .ok (.iaload, 1) := by decide +kernel
theorem dX12_distance_40 : decode cX12_distance 40 = .ok (.ireturn, 1) := by decide +kernel
theorem dX12_isAdmissible_0 : decode cX12_isAdmissible 0 = .ok (.aload_n 0, 1) := by decide +kernel
theorem dX12_isAdmissible_1 : decode cX12_isAdmissible 1 = .ok (.iload_n 1, 1) := by decide +kernel
theorem dX12_isAdmissible_2 : decode cX12_isAdmissible 2 = .ok (.iload_n 2, 1) := by decide +kernel
theorem dX12_isAdmissible_3 : decode cX12_isAdmissible 3 = .ok (.invokevirtual 187, 3) := by decide +kernel
theorem dX12_isAdmissible_6 : decode cX12_isAdmissible 6 = .ok (.ifCond .ne 61, 3) := by decide +kernel
theorem dX12_isAdmissible_9 : decode cX12_isAdmissible 9 = .ok (.iload_n 3, 1) := by decide +kernel
theorem dX12_isAdmissible_10 : decode cX12_isAdmissible 10 = .ok (.iconst 1, 1) := by decide +kernel
theorem dX12_isAdmissible_11 : decode cX12_isAdmissible 11 = .ok (.if_icmp .ne 27, 3) := by decide +kernel
theorem dX12_isAdmissible_14 : decode cX12_isAdmissible 14 = .ok (.aload_n 0, 1) := by decide +kernel
theorem dX12_isAdmissible_15 : decode cX12_isAdmissible 15 = .ok (.iload_n 1, 1) := by decide +kernel
theorem dX12_isAdmissible_16 : decode cX12_isAdmissible 16 = .ok (.iconst 1, 1) := by decide +kernel
theorem dX12_isAdmissible_17 : decode cX12_isAdmissible 17 = .ok (.isub, 1) := by decide +kernel
theorem dX12_isAdmissible_18 : decode cX12_isAdmissible 18 = .ok (.iload_n 2, 1) := by decide +kernel
theorem dX12_isAdmissible_19 : decode cX12_isAdmissible 19 = .ok (.invokevirtual 187, 3) := by decide +kernel
theorem dX12_isAdmissible_22 : decode cX12_isAdmissible 22 = .ok (.iconst 1, 1) := by decide +kernel
theorem dX12_isAdmissible_23 : decode cX12_isAdmissible 23 = .ok (.if_icmp .eq 44, 3) := by decide +kernel
theorem dX12_isAdmissible_26 : decode cX12_isAdmissible 26 = .ok (.aload_n 0, 1) := by decide +kernel
theorem dX12_isAdmissible_27 : decode cX12_isAdmissible 27 = .ok (.iload_n 1, 1) := by decide +kernel
theorem dX12_isAdmissible_28 : decode cX12_isAdmissible 28 = .ok (.iconst 1, 1) := by decide +kernel
theorem dX12_isAdmissible_29 : decode cX12_isAdmissible 29 = .ok (.iadd, 1) := by decide +kernel
theorem dX12_isAdmissible_30 : decode cX12_isAdmissible 30 = .ok (.iload_n 2, 1) := by decide +kernel
theorem dX12_isAdmissible_31 : decode cX12_isAdmissible 31 = .ok (.invokevirtual 187, 3) := by decide +kernel
theorem dX12_isAdmissible_34 : decode cX12_isAdmissible 34 = .ok (.iconst 1, 1) := by decide +kernel
theorem dX12_isAdmissible_35 : decode cX12_isAdmissible 35 = .ok (.if_icmp .eq 32, 3) := by decide +kernel
theorem dX12_isAdmissible_38 : decode cX12_isAdmissible 38 = .ok (.iload_n 3, 1) := by decide +kernel
theorem dX12_isAdmissible_39 : decode cX12_isAdmissible 39 = .ok (.iconst 2, 1) := by decide +kernel
theorem dX12_isAdmissible_40 : decode cX12_isAdmissible 40 = .ok (.if_icmp .ne 29, 3) := by decide +kernel
theorem dX12_isAdmissible_43 : decode cX12_isAdmissible 43 = .ok (.aload_n 0, 1) := by decide +kernel
theorem dX12_isAdmissible_44 : decode cX12_isAdmissible 44 = .ok (.iload_n 1, 1) := by decide +kernel
theorem dX12_isAdmissible_45 : decode cX12_isAdmissible 45 = .ok (.iload_n 2, 1) := by decide +kernel
theorem dX12_isAdmissible_46 : decode cX12_isAdmissible 46 = .ok (.iconst 1, 1) := by decide +kernel
theorem dX12_isAdmissible_47 : decode cX12_isAdmissible 47 = .ok (.isub, 1) := by decide +kernel
theorem dX12_isAdmissible_48 : decode cX12_isAdmissible 48 = .ok (.invokevirtual 187, 3) := by decide +kernel
theorem dX12_isAdmissible_51 : decode cX12_isAdmissible 51 = .ok (.iconst 2, 1) := by decide +kernel
theorem dX12_isAdmissible_52 : decode cX12_isAdmissible 52 = .ok (.if_icmp .eq 15, 3) := by decide +kernel
theorem dX12_isAdmissible_55 : decode cX12_isAdmissible 55 = .ok (.aload_n 0, 1) := by decide +kernel
theorem dX12_isAdmissible_56 : decode cX12_isAdmissible 56 = .ok (.iload_n 1, 1) := by decide +kernel
theorem dX12_isAdmissible_57 : decode cX12_isAdmissible 57 = .ok (.iload_n 2, 1) := by decide +kernel
theorem dX12_isAdmissible_58 : decode cX12_isAdmissible 58 = .ok (.iconst 1, 1) := by decide +kernel
theorem dX12_isAdmissible_59 : decode cX12_isAdmissible 59 = .ok (.iadd, 1) := by decide +kernel
theorem dX12_isAdmissible_60 : decode cX12_isAdmissible 60 = .ok (.invokevirtual 187, 3) := by decide +kernel
theorem dX12_isAdmissible_63 : decode cX12_isAdmissible 63 = .ok (.iconst 2, 1) := by decide +kernel
theorem dX12_isAdmissible_64 : decode cX12_isAdmissible 64 = .ok (.if_icmp .ne 5, 3) := by decide +kernel
theorem dX12_isAdmissible_67 : decode cX12_isAdmissible 67 = .ok (.iconst 0, 1) := by decide +kernel
theorem dX12_isAdmissible_68 : decode cX12_isAdmissible 68 = .ok (.ireturn, 1) := by decide +kernel
theorem dX12_isAdmissible_69 : decode cX12_isAdmissible 69 = .ok (.aload_n 0, 1) := by decide +kernel
theorem dX12_isAdmissible_70 : decode cX12_isAdmissible 70 = .ok (.getfield 28, 3) := by decide +kernel
theorem dX12_isAdmissible_73 : decode cX12_isAdmissible 73 = .ok (.iload_n 2, 1) := by decide +kernel
theorem dX12_isAdmissible_74 : decode cX12_isAdmissible 74 = .ok (.aaload, 1) := by decide +kernel
theorem dX12_isAdmissible_75 : decode cX12_isAdmissible 75 = .ok (.iload_n 1, 1) := by decide +kernel
theorem dX12_isAdmissible_76 : decode cX12_isAdmissible 76 = .ok (.iload_n 3, 1) := by decide +kernel
theorem dX12_isAdmissible_77 : decode cX12_isAdmissible 77 = .ok (.iastore, 1) := by decide +kernel
theorem dX12_isAdmissible_78 : decode cX12_isAdmissible 78 = .ok (.iconst 1, 1) := by decide +kernel
theorem dX12_isAdmissible_79 : decode cX12_isAdmissible 79 = .ok (.istore 4, 2) := by decide +kernel
theorem dX12_isAdmissible_81 : decode cX12_isAdmissible 81 = .ok (.iconst 0, 1) := by decide +kernel
theorem dX12_isAdmissible_82 : decode cX12_isAdmissible 82 = .ok (.istore 5, 2) := by decide +kernel
theorem dX12_isAdmissible_84 : decode cX12_isAdmissible 84 = .ok (.iload 5, 2) := by decide +kernel
theorem dX12_isAdmissible_86 : decode cX12_isAdmissible 86 = .ok (.aload_n 0, 1) := by decide +kernel
theorem dX12_isAdmissible_87 : decode cX12_isAdmissible 87 = .ok (.getfield 19, 3) := by decide +kernel
theorem dX12_isAdmissible_90 : decode cX12_isAdmissible 90 = .ok (.invokeinterface 106 1, 5) := by decide +kernel
theorem dX12_isAdmissible_95 : decode cX12_isAdmissible 95 = .ok (.if_icmp .ge 33, 3) := by decide +kernel
theorem dX12_isAdmissible_98 : decode cX12_isAdmissible 98 = .ok (.iload 4, 2) := by decide +kernel
theorem dX12_isAdmissible_100 : decode cX12_isAdmissible 100 = .ok (.ifCond .eq 19, 3) := by decide +kernel
theorem dX12_isAdmissible_103 : decode cX12_isAdmissible 103 = .ok (.aload_n 0, 1) := by decide +kernel
theorem dX12_isAdmissible_104 : decode cX12_isAdmissible 104 = .ok (.iload 5, 2) := by decide +kernel
theorem dX12_isAdmissible_106 : decode cX12_isAdmissible 106 = .ok (.invokevirtual 201, 3) := by decide +kernel
theorem dX12_isAdmissible_109 : decode cX12_isAdmissible 109 = .ok (.sipush 1000, 3) := by decide +kernel
theorem dX12_isAdmissible_112 : decode cX12_isAdmissible 112 = .ok (.if_icmp .ge 7, 3) := by decide +kernel
theorem dX12_isAdmissible_115 : decode cX12_isAdmissible 115 = .ok (.iconst 1, 1) := by decide +kernel
theorem dX12_isAdmissible_116 : decode cX12_isAdmissible 116 = .ok (.goto 4, 3) := by decide +kernel
theorem dX12_isAdmissible_119 : decode cX12_isAdmissible 119 = .ok (.iconst 0, 1) := by decide +kernel
theorem dX12_isAdmissible_120 : decode cX12_isAdmissible 120 = .ok (.istore 4, 2) := by decide +kernel
theorem dX12_isAdmissible_122 : decode cX12_isAdmissible 122 = .ok (.iinc 5 1, 3) := by decide +kernel
theorem dX12_isAdmissible_125 : decode cX12_isAdmissible 125 = .ok (.goto (-41), 3) := by decide +kernel
theorem dX12_isAdmissible_128 : decode cX12_isAdmissible 128 = .ok (.aload_n 0, 1) := by decide +kernel
theorem dX12_isAdmissible_129 : decode cX12_isAdmissible 129 = .ok (.getfield 28, 3) := by decide +kernel
theorem dX12_isAdmissible_132 : decode cX12_isAdmissible 132 = .ok (.iload_n 2, 1) := by decide +kernel
theorem dX12_isAdmissible_133 : decode cX12_isAdmissible 133 = .ok (.aaload, 1) := by decide +kernel
theorem dX12_isAdmissible_134 : decode cX12_isAdmissible 134 = .ok (.iload_n 1, 1) := by decide +kernel
theorem dX12_isAdmissible_135 : decode cX12_isAdmissible 135 = .ok (.iconst 0, 1) := by decide +kernel
theorem dX12_isAdmissible_136 : decode cX12_isAdmissible 136 = .ok (.iastore, 1) := by decide +kernel
theorem dX12_isAdmissible_137 : decode cX12_isAdmissible 137 = .ok (.iload 4, 2) := by decide +kernel
theorem dX12_isAdmissible_139 : decode cX12_isAdmissible 139 = .ok (.ireturn, 1) := by decide +kernel
theorem dX12_isBanned_0 : decode cX12_isBanned 0 = .ok (.aload_n 0, 1) := by decide +kernel
theorem dX12_isBanned_1 : decode cX12_isBanned 1 = .ok (.getfield 23, 3) := by decide +kernel
theorem dX12_isBanned_4 : decode cX12_isBanned 4 = .ok (.invokeinterface 157 1, 5) := by decide +kernel
theorem dX12_isBanned_9 : decode cX12_isBanned 9 = .ok (.astore 7, 2) := by decide +kernel
theorem dX12_isBanned_11 : decode cX12_isBanned 11 = .ok (.aload 7, 2) := by decide +kernel
theorem dX12_isBanned_13 : decode cX12_isBanned 13 = .ok (.invokeinterface 161 1, 5) := by decide +kernel
theorem dX12_isBanned_18 : decode cX12_isBanned 18 = .ok (.ifCond .eq 152, 3) := by decide +kernel
theorem dX12_isBanned_21 : decode cX12_isBanned 21 = .ok (.aload 7, 2) := by decide +kernel
theorem dX12_isBanned_23 : decode cX12_isBanned 23 = .ok (.invokeinterface 166 1, 5) := by decide +kernel
theorem dX12_isBanned_28 : decode cX12_isBanned 28 = .ok (.checkcast 169, 3) := by decide +kernel
theorem dX12_isBanned_31 : decode cX12_isBanned 31 = .ok (.astore 8, 2) := by decide +kernel
theorem dX12_isBanned_33 : decode cX12_isBanned 33 = .ok (.aload 8, 2) := by decide +kernel
theorem dX12_isBanned_35 : decode cX12_isBanned 35 = .ok (.iconst 0, 1) := by decide +kernel
theorem dX12_isBanned_36 : decode cX12_isBanned 36 = .ok (.iaload, 1) := by decide +kernel
theorem dX12_isBanned_37 : decode cX12_isBanned 37 = .ok (.iload_n 1, 1) := by decide +kernel
theorem dX12_isBanned_38 : decode cX12_isBanned 38 = .ok (.if_icmp .eq 6, 3) := by decide +kernel
theorem dX12_isBanned_41 : decode cX12_isBanned 41 = .ok (.goto (-30), 3) := by decide +kernel
theorem dX12_isBanned_44 : decode cX12_isBanned 44 = .ok (.aload 8, 2) := by decide +kernel
theorem dX12_isBanned_46 : decode cX12_isBanned 46 = .ok (.iconst 1, 1) := by decide +kernel
theorem dX12_isBanned_47 : decode cX12_isBanned 47 = .ok (.iaload, 1) := by decide +kernel
theorem dX12_isBanned_48 : decode cX12_isBanned 48 = .ok (.ifCond .ne 17, 3) := by decide +kernel
theorem dX12_isBanned_51 : decode cX12_isBanned 51 = .ok (.iload 4, 2) := by decide +kernel
theorem dX12_isBanned_53 : decode cX12_isBanned 53 = .ok (.ifCond .lt 12, 3) := by decide +kernel
theorem dX12_isBanned_56 : decode cX12_isBanned 56 = .ok (.iload 6, 2) := by decide +kernel
theorem dX12_isBanned_58 : decode cX12_isBanned 58 = .ok (.iload 4, 2) := by decide +kernel
theorem dX12_isBanned_60 : decode cX12_isBanned 60 = .ok (.iconst 2, 1) := by decide +kernel
theorem dX12_isBanned_61 : decode cX12_isBanned 61 = .ok (.ixor, 1) := by decide +kernel
theorem dX12_isBanned_62 : decode cX12_isBanned 62 = .ok (.if_icmp .eq 18, 3) := by decide +kernel
theorem dX12_isBanned_65 : decode cX12_isBanned 65 = .ok (.aload 8, 2) := by decide +kernel
theorem dX12_isBanned_67 : decode cX12_isBanned 67 = .ok (.iconst 1, 1) := by decide +kernel
theorem dX12_isBanned_68 : decode cX12_isBanned 68 = .ok (.iaload, 1) := by decide +kernel
theorem dX12_isBanned_69 : decode cX12_isBanned 69 = .ok (.iconst 1, 1) := by decide +kernel
theorem dX12_isBanned_70 : decode cX12_isBanned 70 = .ok (.if_icmp .ne 12, 3) := by decide +kernel
theorem dX12_isBanned_73 : decode cX12_isBanned 73 = .ok (.iload 6, 2) := by decide +kernel
theorem dX12_isBanned_75 : decode cX12_isBanned 75 = .ok (.iload 4, 2) := by decide +kernel
theorem dX12_isBanned_77 : decode cX12_isBanned 77 = .ok (.if_icmp .ne 5, 3) := by decide +kernel
theorem dX12_isBanned_80 : decode cX12_isBanned 80 = .ok (.iconst 1, 1) := by decide +kernel
theorem dX12_isBanned_81 : decode cX12_isBanned 81 = .ok (.ireturn, 1) := by decide +kernel
theorem dX12_isBanned_82 : decode cX12_isBanned 82 = .ok (.aload 8, 2) := by decide +kernel
theorem dX12_isBanned_84 : decode cX12_isBanned 84 = .ok (.iconst 1, 1) := by decide +kernel
theorem dX12_isBanned_85 : decode cX12_isBanned 85 = .ok (.iaload, 1) := by decide +kernel
theorem dX12_isBanned_86 : decode cX12_isBanned 86 = .ok (.iconst 2, 1) := by decide +kernel
theorem dX12_isBanned_87 : decode cX12_isBanned 87 = .ok (.if_icmp .ne 28, 3) := by decide +kernel
theorem dX12_isBanned_90 : decode cX12_isBanned 90 = .ok (.iload 6, 2) := by decide +kernel
theorem dX12_isBanned_92 : decode cX12_isBanned 92 = .ok (.aload 8, 2) := by decide +kernel
theorem dX12_isBanned_94 : decode cX12_isBanned 94 = .ok (.iconst 2, 1) := by decide +kernel
theorem dX12_isBanned_95 : decode cX12_isBanned 95 = .ok (.iaload, 1) := by decide +kernel
theorem dX12_isBanned_96 : decode cX12_isBanned 96 = .ok (.if_icmp .ne 19, 3) := by decide +kernel
theorem dX12_isBanned_99 : decode cX12_isBanned 99 = .ok (.iload 5, 2) := by decide +kernel
theorem dX12_isBanned_101 : decode cX12_isBanned 101 = .ok (.aload 8, 2) := by decide +kernel
theorem dX12_isBanned_103 : decode cX12_isBanned 103 = .ok (.iconst 3, 1) := by decide +kernel
theorem dX12_isBanned_104 : decode cX12_isBanned 104 = .ok (.iaload, 1) := by decide +kernel
theorem dX12_isBanned_105 : decode cX12_isBanned 105 = .ok (.irem, 1) := by decide +kernel
theorem dX12_isBanned_106 : decode cX12_isBanned 106 = .ok (.aload 8, 2) := by decide +kernel
theorem dX12_isBanned_108 : decode cX12_isBanned 108 = .ok (.iconst 4, 1) := by decide +kernel
theorem dX12_isBanned_109 : decode cX12_isBanned 109 = .ok (.iaload, 1) := by decide +kernel
theorem dX12_isBanned_110 : decode cX12_isBanned 110 = .ok (.if_icmp .ne 5, 3) := by decide +kernel
theorem dX12_isBanned_113 : decode cX12_isBanned 113 = .ok (.iconst 1, 1) := by decide +kernel
theorem dX12_isBanned_114 : decode cX12_isBanned 114 = .ok (.ireturn, 1) := by decide +kernel
theorem dX12_isBanned_115 : decode cX12_isBanned 115 = .ok (.aload 8, 2) := by decide +kernel
theorem dX12_isBanned_117 : decode cX12_isBanned 117 = .ok (.iconst 1, 1) := by decide +kernel
theorem dX12_isBanned_118 : decode cX12_isBanned 118 = .ok (.iaload, 1) := by decide +kernel
theorem dX12_isBanned_119 : decode cX12_isBanned 119 = .ok (.iconst 3, 1) := by decide +kernel
theorem dX12_isBanned_120 : decode cX12_isBanned 120 = .ok (.if_icmp .ne 47, 3) := by decide +kernel
theorem dX12_isBanned_123 : decode cX12_isBanned 123 = .ok (.iload 6, 2) := by decide +kernel
theorem dX12_isBanned_125 : decode cX12_isBanned 125 = .ok (.aload 8, 2) := by decide +kernel
theorem dX12_isBanned_127 : decode cX12_isBanned 127 = .ok (.iconst 2, 1) := by decide +kernel
theorem dX12_isBanned_128 : decode cX12_isBanned 128 = .ok (.iaload, 1) := by decide +kernel
theorem dX12_isBanned_129 : decode cX12_isBanned 129 = .ok (.if_icmp .ne 38, 3) := by decide +kernel
theorem dX12_isBanned_132 : decode cX12_isBanned 132 = .ok (.iload_n 2, 1) := by decide +kernel
theorem dX12_isBanned_133 : decode cX12_isBanned 133 = .ok (.aload 8, 2) := by decide +kernel
theorem dX12_isBanned_135 : decode cX12_isBanned 135 = .ok (.iconst 3, 1) := by decide +kernel
theorem dX12_isBanned_136 : decode cX12_isBanned 136 = .ok (.iaload, 1) := by decide +kernel
theorem dX12_isBanned_137 : decode cX12_isBanned 137 = .ok (.isub, 1) := by decide +kernel
theorem dX12_isBanned_138 : decode cX12_isBanned 138 = .ok (.iload_n 2, 1) := by decide +kernel
theorem dX12_isBanned_139 : decode cX12_isBanned 139 = .ok (.aload 8, 2) := by decide +kernel
theorem dX12_isBanned_141 : decode cX12_isBanned 141 = .ok (.iconst 5, 1) := by decide +kernel
theorem dX12_isBanned_142 : decode cX12_isBanned 142 = .ok (.iaload, 1) := by decide +kernel
theorem dX12_isBanned_143 : decode cX12_isBanned 143 = .ok (.isub, 1) := by decide +kernel
theorem dX12_isBanned_144 : decode cX12_isBanned 144 = .ok (.imul, 1) := by decide +kernel
theorem dX12_isBanned_145 : decode cX12_isBanned 145 = .ok (.ifCond .gt 22, 3) := by decide +kernel
theorem dX12_isBanned_148 : decode cX12_isBanned 148 = .ok (.iload_n 3, 1) := by decide +kernel
theorem dX12_isBanned_149 : decode cX12_isBanned 149 = .ok (.aload 8, 2) := by decide +kernel
theorem dX12_isBanned_151 : decode cX12_isBanned 151 = .ok (.iconst 4, 1) := by decide +kernel
theorem dX12_isBanned_152 : decode cX12_isBanned 152 = .ok (.iaload, 1) := by decide +kernel
theorem dX12_isBanned_153 : decode cX12_isBanned 153 = .ok (.isub, 1) := by decide +kernel
theorem dX12_isBanned_154 : decode cX12_isBanned 154 = .ok (.iload_n 3, 1) := by decide +kernel
theorem dX12_isBanned_155 : decode cX12_isBanned 155 = .ok (.aload 8, 2) := by decide +kernel
theorem dX12_isBanned_157 : decode cX12_isBanned 157 = .ok (.bipush 6, 2) := by decide +kernel
theorem dX12_isBanned_159 : decode cX12_isBanned 159 = .ok (.iaload, 1) := by decide +kernel
theorem dX12_isBanned_160 : decode cX12_isBanned 160 = .ok (.isub, 1) := by decide +kernel
theorem dX12_isBanned_161 : decode cX12_isBanned 161 = .ok (.imul, 1) := by decide +kernel
theorem dX12_isBanned_162 : decode cX12_isBanned 162 = .ok (.ifCond .gt 5, 3) := by decide +kernel
theorem dX12_isBanned_165 : decode cX12_isBanned 165 = .ok (.iconst 1, 1) := by decide +kernel
theorem dX12_isBanned_166 : decode cX12_isBanned 166 = .ok (.ireturn, 1) := by decide +kernel
theorem dX12_isBanned_167 : decode cX12_isBanned 167 = .ok (.goto (-156), 3) := by decide +kernel
theorem dX12_isBanned_170 : decode cX12_isBanned 170 = .ok (.iconst 0, 1) := by decide +kernel
theorem dX12_isBanned_171 : decode cX12_isBanned 171 = .ok (.ireturn, 1) := by decide +kernel
theorem dX12_isOver_0 : decode cX12_isOver 0 = .ok (.aload_n 0, 1) := by decide +kernel
theorem dX12_isOver_1 : decode cX12_isOver 1 = .ok (.getfield 19, 3) := by decide +kernel
theorem dX12_isOver_4 : decode cX12_isOver 4 = .ok (.invokeinterface 106 1, 5) := by decide +kernel
theorem dX12_isOver_9 : decode cX12_isOver 9 = .ok (.aload_n 0, 1) := by decide +kernel
theorem dX12_isOver_10 : decode cX12_isOver 10 = .ok (.getfield 151, 3) := by decide +kernel
theorem dX12_isOver_13 : decode cX12_isOver 13 = .ok (.isub, 1) := by decide +kernel
theorem dX12_isOver_14 : decode cX12_isOver 14 = .ok (.iconst 2, 1) := by decide +kernel
theorem dX12_isOver_15 : decode cX12_isOver 15 = .ok (.if_icmp .lt 13, 3) := by decide +kernel
theorem dX12_isOver_18 : decode cX12_isOver 18 = .ok (.aload_n 0, 1) := by decide +kernel
theorem dX12_isOver_19 : decode cX12_isOver 19 = .ok (.getfield 148, 3) := by decide +kernel
theorem dX12_isOver_22 : decode cX12_isOver 22 = .ok (.sipush 200, 3) := by decide +kernel
theorem dX12_isOver_25 : decode cX12_isOver 25 = .ok (.if_icmp .lt 7, 3) := by decide +kernel
theorem dX12_isOver_28 : decode cX12_isOver 28 = .ok (.iconst 1, 1) := by decide +kernel
theorem dX12_isOver_29 : decode cX12_isOver 29 = .ok (.goto 4, 3) := by decide +kernel
theorem dX12_isOver_32 : decode cX12_isOver 32 = .ok (.iconst 0, 1) := by decide +kernel
theorem dX12_isOver_33 : decode cX12_isOver 33 = .ok (.ireturn, 1) := by decide +kernel
theorem dX12_landing_0 : decode cX12_landing 0 = .ok (.aload_n 0, 1) := by decide +kernel
theorem dX12_landing_1 : decode cX12_landing 1 = .ok (.getfield 19, 3) := by decide +kernel
theorem dX12_landing_4 : decode cX12_landing 4 = .ok (.iload_n 1, 1) := by decide +kernel
theorem dX12_landing_5 : decode cX12_landing 5 = .ok (.invokeinterface 193 2, 5) := by decide +kernel
theorem dX12_landing_10 : decode cX12_landing 10 = .ok (.checkcast 169, 3) := by decide +kernel
theorem dX12_landing_13 : decode cX12_landing 13 = .ok (.astore_n 3, 1) := by decide +kernel
theorem dX12_landing_14 : decode cX12_landing 14 = .ok (.aload_n 3, 1) := by decide +kernel
theorem dX12_landing_15 : decode cX12_landing 15 = .ok (.bipush 6, 2) := by decide +kernel
theorem dX12_landing_17 : decode cX12_landing 17 = .ok (.iaload, 1) := by decide +kernel
theorem dX12_landing_18 : decode cX12_landing 18 = .ok (.ifCond .gt 45, 3) := by decide +kernel
theorem dX12_landing_21 : decode cX12_landing 21 = .ok (.aload_n 0, 1) := by decide +kernel
theorem dX12_landing_22 : decode cX12_landing 22 = .ok (.invokevirtual 204, 3) := by decide +kernel
theorem dX12_landing_25 : decode cX12_landing 25 = .ok (.ifCond .ne 38, 3) := by decide +kernel
theorem dX12_landing_28 : decode cX12_landing 28 = .ok (.aload_n 0, 1) := by decide +kernel
theorem dX12_landing_29 : decode cX12_landing 29 = .ok (.iload_n 1, 1) := by decide +kernel
theorem dX12_landing_30 : decode cX12_landing 30 = .ok (.aload_n 3, 1) := by decide +kernel
theorem dX12_landing_31 : decode cX12_landing 31 = .ok (.iconst 0, 1) := by decide +kernel
theorem dX12_landing_32 : decode cX12_landing 32 = .ok (.iaload, 1) := by decide +kernel
theorem dX12_landing_33 : decode cX12_landing 33 = .ok (.aload_n 3, 1) := by decide +kernel
theorem dX12_landing_34 : decode cX12_landing 34 = .ok (.iconst 1, 1) := by decide +kernel
theorem dX12_landing_35 : decode cX12_landing 35 = .ok (.iaload, 1) := by decide +kernel
theorem dX12_landing_36 : decode cX12_landing 36 = .ok (.aload_n 3, 1) := by decide +kernel
theorem dX12_landing_37 : decode cX12_landing 37 = .ok (.iconst 5, 1) := by decide +kernel
theorem dX12_landing_38 : decode cX12_landing 38 = .ok (.iaload, 1) := by decide +kernel
theorem dX12_landing_39 : decode cX12_landing 39 = .ok (.aload_n 3, 1) := by decide +kernel
theorem dX12_landing_40 : decode cX12_landing 40 = .ok (.iconst 4, 1) := by decide +kernel
theorem dX12_landing_41 : decode cX12_landing 41 = .ok (.iaload, 1) := by decide +kernel
theorem dX12_landing_42 : decode cX12_landing 42 = .ok (.iload_n 2, 1) := by decide +kernel
theorem dX12_landing_43 : decode cX12_landing 43 = .ok (.invokevirtual 207, 3) := by decide +kernel
theorem dX12_landing_46 : decode cX12_landing 46 = .ok (.ifCond .ne 17, 3) := by decide +kernel
theorem dX12_landing_49 : decode cX12_landing 49 = .ok (.aload_n 0, 1) := by decide +kernel
theorem dX12_landing_50 : decode cX12_landing 50 = .ok (.aload_n 3, 1) := by decide +kernel
theorem dX12_landing_51 : decode cX12_landing 51 = .ok (.iconst 0, 1) := by decide +kernel
theorem dX12_landing_52 : decode cX12_landing 52 = .ok (.iaload, 1) := by decide +kernel
theorem dX12_landing_53 : decode cX12_landing 53 = .ok (.aload_n 3, 1) := by decide +kernel
theorem dX12_landing_54 : decode cX12_landing 54 = .ok (.iconst 1, 1) := by decide +kernel
theorem dX12_landing_55 : decode cX12_landing 55 = .ok (.iaload, 1) := by decide +kernel
theorem dX12_landing_56 : decode cX12_landing 56 = .ok (.iload_n 2, 1) := by decide +kernel
theorem dX12_landing_57 : decode cX12_landing 57 = .ok (.invokevirtual 190, 3) := by decide +kernel
theorem dX12_landing_60 : decode cX12_landing 60 = .ok (.ifCond .ne 5, 3) := by decide +kernel
theorem dX12_landing_63 : decode cX12_landing 63 = .ok (.iconst (-1), 1) := by decide +kernel
theorem dX12_landing_64 : decode cX12_landing 64 = .ok (.ireturn, 1) := by decide +kernel
theorem dX12_landing_65 : decode cX12_landing 65 = .ok (.aload_n 3, 1) := by decide +kernel
theorem dX12_landing_66 : decode cX12_landing 66 = .ok (.iconst 0, 1) := by decide +kernel
theorem dX12_landing_67 : decode cX12_landing 67 = .ok (.iaload, 1) := by decide +kernel
theorem dX12_landing_68 : decode cX12_landing 68 = .ok (.getstatic 177, 3) := by decide +kernel
theorem dX12_landing_71 : decode cX12_landing 71 = .ok (.iload_n 2, 1) := by decide +kernel
theorem dX12_landing_72 : decode cX12_landing 72 = .ok (.iaload, 1) := by decide +kernel
theorem dX12_landing_73 : decode cX12_landing 73 = .ok (.iadd, 1) := by decide +kernel
theorem dX12_landing_74 : decode cX12_landing 74 = .ok (.istore 4, 2) := by decide +kernel
theorem dX12_landing_76 : decode cX12_landing 76 = .ok (.aload_n 3, 1) := by decide +kernel
theorem dX12_landing_77 : decode cX12_landing 77 = .ok (.iconst 1, 1) := by decide +kernel
theorem dX12_landing_78 : decode cX12_landing 78 = .ok (.iaload, 1) := by decide +kernel
theorem dX12_landing_79 : decode cX12_landing 79 = .ok (.getstatic 180, 3) := by decide +kernel
theorem dX12_landing_82 : decode cX12_landing 82 = .ok (.iload_n 2, 1) := by decide +kernel
theorem dX12_landing_83 : decode cX12_landing 83 = .ok (.iaload, 1) := by decide +kernel
theorem dX12_landing_84 : decode cX12_landing 84 = .ok (.iadd, 1) := by decide +kernel
theorem dX12_landing_85 : decode cX12_landing 85 = .ok (.istore 5, 2) := by decide +kernel
theorem dX12_landing_87 : decode cX12_landing 87 = .ok (.aload_n 0, 1) := by decide +kernel
theorem dX12_landing_88 : decode cX12_landing 88 = .ok (.iload 4, 2) := by decide +kernel
theorem dX12_landing_90 : decode cX12_landing 90 = .ok (.iload 5, 2) := by decide +kernel
theorem dX12_landing_92 : decode cX12_landing 92 = .ok (.invokevirtual 96, 3) := by decide +kernel
theorem dX12_landing_95 : decode cX12_landing 95 = .ok (.ifCond .ge 12, 3) := by decide +kernel
theorem dX12_landing_98 : decode cX12_landing 98 = .ok (.bipush 10, 2) := by decide +kernel
theorem dX12_landing_100 : decode cX12_landing 100 = .ok (.iload 5, 2) := by decide +kernel
theorem dX12_landing_102 : decode cX12_landing 102 = .ok (.imul, 1) := by decide +kernel
theorem dX12_landing_103 : decode cX12_landing 103 = .ok (.iload 4, 2) := by decide +kernel
theorem dX12_landing_105 : decode cX12_landing 105 = .ok (.iadd, 1) := by decide +kernel
theorem dX12_landing_106 : decode cX12_landing 106 = .ok (.ireturn, 1) := by decide +kernel
theorem dX12_landing_107 : decode cX12_landing 107 = .ok (.aload_n 0, 1) := by decide +kernel
theorem dX12_landing_108 : decode cX12_landing 108 = .ok (.iload 4, 2) := by decide +kernel
theorem dX12_landing_110 : decode cX12_landing 110 = .ok (.iload 5, 2) := by decide +kernel
theorem dX12_landing_112 : decode cX12_landing 112 = .ok (.iload_n 2, 1) := by decide +kernel
theorem dX12_landing_113 : decode cX12_landing 113 = .ok (.invokevirtual 190, 3) := by decide +kernel
theorem dX12_landing_116 : decode cX12_landing 116 = .ok (.ifCond .eq 26, 3) := by decide +kernel
theorem dX12_landing_119 : decode cX12_landing 119 = .ok (.aload_n 0, 1) := by decide +kernel
theorem dX12_landing_120 : decode cX12_landing 120 = .ok (.iload 4, 2) := by decide +kernel
theorem dX12_landing_122 : decode cX12_landing 122 = .ok (.getstatic 177, 3) := by decide +kernel
theorem dX12_landing_125 : decode cX12_landing 125 = .ok (.iload_n 2, 1) := by decide +kernel
theorem dX12_landing_126 : decode cX12_landing 126 = .ok (.iaload, 1) := by decide +kernel
theorem dX12_landing_127 : decode cX12_landing 127 = .ok (.iadd, 1) := by decide +kernel
theorem dX12_landing_128 : decode cX12_landing 128 = .ok (.iload 5, 2) := by decide +kernel
theorem dX12_landing_130 : decode cX12_landing 130 = .ok (.getstatic 180, 3) := by decide +kernel
theorem dX12_landing_133 : decode cX12_landing 133 = .ok (.iload_n 2, 1) := by decide +kernel
theorem dX12_landing_134 : decode cX12_landing 134 = .ok (.iaload, 1) := by decide +kernel
theorem dX12_landing_135 : decode cX12_landing 135 = .ok (.iadd, 1) := by decide +kernel
theorem dX12_landing_136 : decode cX12_landing 136 = .ok (.invokevirtual 96, 3) := by decide +kernel
theorem dX12_landing_139 : decode cX12_landing 139 = .ok (.ifCond .lt 5, 3) := by decide +kernel
theorem dX12_landing_142 : decode cX12_landing 142 = .ok (.iconst (-1), 1) := by decide +kernel
theorem dX12_landing_143 : decode cX12_landing 143 = .ok (.ireturn, 1) := by decide +kernel
theorem dX12_landing_144 : decode cX12_landing 144 = .ok (.bipush 10, 2) := by decide +kernel
theorem dX12_landing_146 : decode cX12_landing 146 = .ok (.iload 5, 2) := by decide +kernel
theorem dX12_landing_148 : decode cX12_landing 148 = .ok (.getstatic 180, 3) := by decide +kernel
theorem dX12_landing_151 : decode cX12_landing 151 = .ok (.iload_n 2, 1) := by decide +kernel
theorem dX12_landing_152 : decode cX12_landing 152 = .ok (.iaload, 1) := by decide +kernel
theorem dX12_landing_153 : decode cX12_landing 153 = .ok (.iadd, 1) := by decide +kernel
theorem dX12_landing_154 : decode cX12_landing 154 = .ok (.imul, 1) := by decide +kernel
theorem dX12_landing_155 : decode cX12_landing 155 = .ok (.iload 4, 2) := by decide +kernel
theorem dX12_landing_157 : decode cX12_landing 157 = .ok (.iadd, 1) := by decide +kernel
theorem dX12_landing_158 : decode cX12_landing 158 = .ok (.getstatic 177, 3) := by decide +kernel
theorem dX12_landing_161 : decode cX12_landing 161 = .ok (.iload_n 2, 1) := by decide +kernel
theorem dX12_landing_162 : decode cX12_landing 162 = .ok (.iaload, 1) := by decide +kernel
theorem dX12_landing_163 : decode cX12_landing 163 = .ok (.iadd, 1) := by decide +kernel
theorem dX12_landing_164 : decode cX12_landing 164 = .ok (.ireturn, 1) := by decide +kernel
theorem dX12_endTurn_0 : decode cX12_endTurn 0 = .ok (.aload_n 0, 1) := by decide +kernel
theorem dX12_endTurn_1 : decode cX12_endTurn 1 = .ok (.dup, 1) := by decide +kernel
theorem dX12_endTurn_2 : decode cX12_endTurn 2 = .ok (.getfield 148, 3) := by decide +kernel
theorem dX12_endTurn_5 : decode cX12_endTurn 5 = .ok (.iconst 1, 1) := by decide +kernel
theorem dX12_endTurn_6 : decode cX12_endTurn 6 = .ok (.iadd, 1) := by decide +kernel
theorem dX12_endTurn_7 : decode cX12_endTurn 7 = .ok (.putfield 148, 3) := by decide +kernel
theorem dX12_endTurn_10 : decode cX12_endTurn 10 = .ok (.iconst 1, 1) := by decide +kernel
theorem dX12_endTurn_11 : decode cX12_endTurn 11 = .ok (.istore_n 1, 1) := by decide +kernel
theorem dX12_endTurn_12 : decode cX12_endTurn 12 = .ok (.iload_n 1, 1) := by decide +kernel
theorem dX12_endTurn_13 : decode cX12_endTurn 13 = .ok (.aload_n 0, 1) := by decide +kernel
theorem dX12_endTurn_14 : decode cX12_endTurn 14 = .ok (.getfield 19, 3) := by decide +kernel
theorem dX12_endTurn_17 : decode cX12_endTurn 17 = .ok (.invokeinterface 106 1, 5) := by decide +kernel
theorem dX12_endTurn_22 : decode cX12_endTurn 22 = .ok (.if_icmp .gt 54, 3) := by decide +kernel
theorem dX12_endTurn_25 : decode cX12_endTurn 25 = .ok (.aload_n 0, 1) := by decide +kernel
theorem dX12_endTurn_26 : decode cX12_endTurn 26 = .ok (.getfield 154, 3) := by decide +kernel
theorem dX12_endTurn_29 : decode cX12_endTurn 29 = .ok (.iload_n 1, 1) := by decide +kernel
theorem dX12_endTurn_30 : decode cX12_endTurn 30 = .ok (.iadd, 1) := by decide +kernel
theorem dX12_endTurn_31 : decode cX12_endTurn 31 = .ok (.aload_n 0, 1) := by decide +kernel
theorem dX12_endTurn_32 : decode cX12_endTurn 32 = .ok (.getfield 19, 3) := by decide +kernel
theorem dX12_endTurn_35 : decode cX12_endTurn 35 = .ok (.invokeinterface 106 1, 5) := by decide +kernel
theorem dX12_endTurn_40 : decode cX12_endTurn 40 = .ok (.irem, 1) := by decide +kernel
theorem dX12_endTurn_41 : decode cX12_endTurn 41 = .ok (.istore_n 2, 1) := by decide +kernel
theorem dX12_endTurn_42 : decode cX12_endTurn 42 = .ok (.aload_n 0, 1) := by decide +kernel
theorem dX12_endTurn_43 : decode cX12_endTurn 43 = .ok (.getfield 19, 3) := by decide +kernel
theorem dX12_endTurn_46 : decode cX12_endTurn 46 = .ok (.iload_n 2, 1) := by decide +kernel
theorem dX12_endTurn_47 : decode cX12_endTurn 47 = .ok (.invokeinterface 193 2, 5) := by decide +kernel
theorem dX12_endTurn_52 : decode cX12_endTurn 52 = .ok (.checkcast 169, 3) := by decide +kernel
theorem dX12_endTurn_55 : decode cX12_endTurn 55 = .ok (.bipush 6, 2) := by decide +kernel
theorem dX12_endTurn_57 : decode cX12_endTurn 57 = .ok (.iaload, 1) := by decide +kernel
theorem dX12_endTurn_58 : decode cX12_endTurn 58 = .ok (.ifCond .le 6, 3) := by decide +kernel
theorem dX12_endTurn_61 : decode cX12_endTurn 61 = .ok (.goto 9, 3) := by decide +kernel
theorem dX12_endTurn_64 : decode cX12_endTurn 64 = .ok (.aload_n 0, 1) := by decide +kernel
theorem dX12_endTurn_65 : decode cX12_endTurn 65 = .ok (.iload_n 2, 1) := by decide +kernel
theorem dX12_endTurn_66 : decode cX12_endTurn 66 = .ok (.putfield 154, 3) := by decide +kernel
theorem dX12_endTurn_69 : decode cX12_endTurn 69 = .ok (.return_, 1) := by decide +kernel
theorem dX12_endTurn_70 : decode cX12_endTurn 70 = .ok (.iinc 1 1, 3) := by decide +kernel
theorem dX12_endTurn_73 : decode cX12_endTurn 73 = .ok (.goto (-61), 3) := by decide +kernel
theorem dX12_endTurn_76 : decode cX12_endTurn 76 = .ok (.return_, 1) := by decide +kernel
theorem dX12_step_0 : decode cX12_step 0 = .ok (.aload_n 0, 1) := by decide +kernel
theorem dX12_step_1 : decode cX12_step 1 = .ok (.getfield 154, 3) := by decide +kernel
theorem dX12_step_4 : decode cX12_step 4 = .ok (.istore_n 2, 1) := by decide +kernel
theorem dX12_step_5 : decode cX12_step 5 = .ok (.aload_n 0, 1) := by decide +kernel
theorem dX12_step_6 : decode cX12_step 6 = .ok (.getfield 19, 3) := by decide +kernel
theorem dX12_step_9 : decode cX12_step 9 = .ok (.iload_n 2, 1) := by decide +kernel
theorem dX12_step_10 : decode cX12_step 10 = .ok (.invokeinterface 193 2, 5) := by decide +kernel
theorem dX12_step_15 : decode cX12_step 15 = .ok (.checkcast 169, 3) := by decide +kernel
theorem dX12_step_18 : decode cX12_step 18 = .ok (.astore_n 3, 1) := by decide +kernel
theorem dX12_step_19 : decode cX12_step 19 = .ok (.aload_n 0, 1) := by decide +kernel
theorem dX12_step_20 : decode cX12_step 20 = .ok (.iload_n 2, 1) := by decide +kernel
theorem dX12_step_21 : decode cX12_step 21 = .ok (.iload_n 1, 1) := by decide +kernel
theorem dX12_step_22 : decode cX12_step 22 = .ok (.invokevirtual 211, 3) := by decide +kernel
theorem dX12_step_25 : decode cX12_step 25 = .ok (.istore 4, 2) := by decide +kernel
theorem dX12_step_27 : decode cX12_step 27 = .ok (.aload_n 3, 1) := by decide +kernel
theorem dX12_step_28 : decode cX12_step 28 = .ok (.iconst 0, 1) := by decide +kernel
theorem dX12_step_29 : decode cX12_step 29 = .ok (.iload 4, 2) := by decide +kernel
theorem dX12_step_31 : decode cX12_step 31 = .ok (.bipush 10, 2) := by decide +kernel
theorem dX12_step_33 : decode cX12_step 33 = .ok (.irem, 1) := by decide +kernel
theorem dX12_step_34 : decode cX12_step 34 = .ok (.iastore, 1) := by decide +kernel
theorem dX12_step_35 : decode cX12_step 35 = .ok (.aload_n 3, 1) := by decide +kernel
theorem dX12_step_36 : decode cX12_step 36 = .ok (.iconst 1, 1) := by decide +kernel
theorem dX12_step_37 : decode cX12_step 37 = .ok (.iload 4, 2) := by decide +kernel
theorem dX12_step_39 : decode cX12_step 39 = .ok (.bipush 10, 2) := by decide +kernel
theorem dX12_step_41 : decode cX12_step 41 = .ok (.idiv, 1) := by decide +kernel
theorem dX12_step_42 : decode cX12_step 42 = .ok (.iastore, 1) := by decide +kernel
theorem dX12_step_43 : decode cX12_step 43 = .ok (.aload_n 3, 1) := by decide +kernel
theorem dX12_step_44 : decode cX12_step 44 = .ok (.iconst 4, 1) := by decide +kernel
theorem dX12_step_45 : decode cX12_step 45 = .ok (.dup2, 1) := by decide +kernel
theorem dX12_step_46 : decode cX12_step 46 = .ok (.iaload, 1) := by decide +kernel
theorem dX12_step_47 : decode cX12_step 47 = .ok (.iconst 1, 1) := by decide +kernel
theorem dX12_step_48 : decode cX12_step 48 = .ok (.iadd, 1) := by decide +kernel
theorem dX12_step_49 : decode cX12_step 49 = .ok (.iastore, 1) := by decide +kernel
theorem dX12_step_50 : decode cX12_step 50 = .ok (.aload_n 3, 1) := by decide +kernel
theorem dX12_step_51 : decode cX12_step 51 = .ok (.iconst 5, 1) := by decide +kernel
theorem dX12_step_52 : decode cX12_step 52 = .ok (.iload_n 1, 1) := by decide +kernel
theorem dX12_step_53 : decode cX12_step 53 = .ok (.iastore, 1) := by decide +kernel
theorem dX12_step_54 : decode cX12_step 54 = .ok (.aload_n 0, 1) := by decide +kernel
theorem dX12_step_55 : decode cX12_step 55 = .ok (.aload_n 3, 1) := by decide +kernel
theorem dX12_step_56 : decode cX12_step 56 = .ok (.iconst 0, 1) := by decide +kernel
theorem dX12_step_57 : decode cX12_step 57 = .ok (.iaload, 1) := by decide +kernel
theorem dX12_step_58 : decode cX12_step 58 = .ok (.aload_n 3, 1) := by decide +kernel
theorem dX12_step_59 : decode cX12_step 59 = .ok (.iconst 1, 1) := by decide +kernel
theorem dX12_step_60 : decode cX12_step 60 = .ok (.iaload, 1) := by decide +kernel
theorem dX12_step_61 : decode cX12_step 61 = .ok (.aload_n 3, 1) := by decide +kernel
theorem dX12_step_62 : decode cX12_step 62 = .ok (.iconst 2, 1) := by decide +kernel
theorem dX12_step_63 : decode cX12_step 63 = .ok (.iaload, 1) := by decide +kernel
theorem dX12_step_64 : decode cX12_step 64 = .ok (.invokevirtual 100, 3) := by decide +kernel
theorem dX12_step_67 : decode cX12_step 67 = .ok (.ifCond .eq 18, 3) := by decide +kernel
theorem dX12_step_70 : decode cX12_step 70 = .ok (.aload_n 3, 1) := by decide +kernel
theorem dX12_step_71 : decode cX12_step 71 = .ok (.bipush 6, 2) := by decide +kernel
theorem dX12_step_73 : decode cX12_step 73 = .ok (.aload_n 0, 1) := by decide +kernel
theorem dX12_step_74 : decode cX12_step 74 = .ok (.dup, 1) := by decide +kernel
theorem dX12_step_75 : decode cX12_step 75 = .ok (.getfield 151, 3) := by decide +kernel
theorem dX12_step_78 : decode cX12_step 78 = .ok (.iconst 1, 1) := by decide +kernel
theorem dX12_step_79 : decode cX12_step 79 = .ok (.iadd, 1) := by decide +kernel
theorem dX12_step_80 : decode cX12_step 80 = .ok (.dup_x1, 1) := by decide +kernel
theorem dX12_step_81 : decode cX12_step 81 = .ok (.putfield 151, 3) := by decide +kernel
theorem dX12_step_84 : decode cX12_step 84 = .ok (.iastore, 1) := by decide +kernel
theorem dX12_step_85 : decode cX12_step 85 = .ok (.aload_n 0, 1) := by decide +kernel
theorem dX12_step_86 : decode cX12_step 86 = .ok (.invokevirtual 214, 3) := by decide +kernel
theorem dX12_step_89 : decode cX12_step 89 = .ok (.aload_n 0, 1) := by decide +kernel
theorem dX12_step_90 : decode cX12_step 90 = .ok (.iload_n 2, 1) := by decide +kernel
theorem dX12_step_91 : decode cX12_step 91 = .ok (.invokevirtual 201, 3) := by decide +kernel
theorem dX12_step_94 : decode cX12_step 94 = .ok (.ireturn, 1) := by decide +kernel
theorem dX12_build_0 : decode cX12_build 0 = .ok (.aload_n 0, 1) := by decide +kernel
theorem dX12_build_1 : decode cX12_build 1 = .ok (.getfield 19, 3) := by decide +kernel
theorem dX12_build_4 : decode cX12_build 4 = .ok (.aload_n 0, 1) := by decide +kernel
theorem dX12_build_5 : decode cX12_build 5 = .ok (.getfield 154, 3) := by decide +kernel
theorem dX12_build_8 : decode cX12_build 8 = .ok (.invokeinterface 193 2, 5) := by decide +kernel
theorem dX12_build_13 : decode cX12_build 13 = .ok (.checkcast 169, 3) := by decide +kernel
theorem dX12_build_16 : decode cX12_build 16 = .ok (.astore 4, 2) := by decide +kernel
theorem dX12_build_18 : decode cX12_build 18 = .ok (.aload_n 0, 1) := by decide +kernel
theorem dX12_build_19 : decode cX12_build 19 = .ok (.getfield 28, 3) := by decide +kernel
theorem dX12_build_22 : decode cX12_build 22 = .ok (.iload_n 2, 1) := by decide +kernel
theorem dX12_build_23 : decode cX12_build 23 = .ok (.aaload, 1) := by decide +kernel
theorem dX12_build_24 : decode cX12_build 24 = .ok (.iload_n 1, 1) := by decide +kernel
theorem dX12_build_25 : decode cX12_build 25 = .ok (.iload_n 3, 1) := by decide +kernel
theorem dX12_build_26 : decode cX12_build 26 = .ok (.iastore, 1) := by decide +kernel
theorem dX12_build_27 : decode cX12_build 27 = .ok (.aload 4, 2) := by decide +kernel
theorem dX12_build_29 : decode cX12_build 29 = .ok (.iconst 3, 1) := by decide +kernel
theorem dX12_build_30 : decode cX12_build 30 = .ok (.dup2, 1) := by decide +kernel
theorem dX12_build_31 : decode cX12_build 31 = .ok (.iaload, 1) := by decide +kernel
theorem dX12_build_32 : decode cX12_build 32 = .ok (.iconst 1, 1) := by decide +kernel
theorem dX12_build_33 : decode cX12_build 33 = .ok (.isub, 1) := by decide +kernel
theorem dX12_build_34 : decode cX12_build 34 = .ok (.iastore, 1) := by decide +kernel
theorem dX12_build_35 : decode cX12_build 35 = .ok (.aload_n 0, 1) := by decide +kernel
theorem dX12_build_36 : decode cX12_build 36 = .ok (.invokevirtual 214, 3) := by decide +kernel
theorem dX12_build_39 : decode cX12_build 39 = .ok (.aload 4, 2) := by decide +kernel
theorem dX12_build_41 : decode cX12_build 41 = .ok (.iconst 3, 1) := by decide +kernel
theorem dX12_build_42 : decode cX12_build 42 = .ok (.iaload, 1) := by decide +kernel
theorem dX12_build_43 : decode cX12_build 43 = .ok (.ireturn, 1) := by decide +kernel
theorem dX12_advised_0 : decode cX12_advised 0 = .ok (.iconst (-1), 1) := by decide +kernel
theorem dX12_advised_1 : decode cX12_advised 1 = .ok (.istore_n 2, 1) := by decide +kernel
theorem dX12_advised_2 : decode cX12_advised 2 = .ok (.iconst 0, 1) := by decide +kernel
theorem dX12_advised_3 : decode cX12_advised 3 = .ok (.istore_n 3, 1) := by decide +kernel
theorem dX12_advised_4 : decode cX12_advised 4 = .ok (.aload_n 0, 1) := by decide +kernel
theorem dX12_advised_5 : decode cX12_advised 5 = .ok (.aload_n 0, 1) := by decide +kernel
theorem dX12_advised_6 : decode cX12_advised 6 = .ok (.getfield 19, 3) := by decide +kernel
theorem dX12_advised_9 : decode cX12_advised 9 = .ok (.iload_n 1, 1) := by decide +kernel
theorem dX12_advised_10 : decode cX12_advised 10 = .ok (.invokeinterface 193 2, 5) := by decide +kernel
theorem dX12_advised_15 : decode cX12_advised 15 = .ok (.checkcast 169, 3) := by decide +kernel
theorem dX12_advised_18 : decode cX12_advised 18 = .ok (.iconst 2, 1) := by decide +kernel
theorem dX12_advised_19 : decode cX12_advised 19 = .ok (.iaload, 1) := by decide +kernel
theorem dX12_advised_20 : decode cX12_advised 20 = .ok (.invokevirtual 197, 3) := by decide +kernel
theorem dX12_advised_23 : decode cX12_advised 23 = .ok (.astore 4, 2) := by decide +kernel
theorem dX12_advised_25 : decode cX12_advised 25 = .ok (.iconst 0, 1) := by decide +kernel
theorem dX12_advised_26 : decode cX12_advised 26 = .ok (.istore 5, 2) := by decide +kernel
theorem dX12_advised_28 : decode cX12_advised 28 = .ok (.iload 5, 2) := by decide +kernel
theorem dX12_advised_30 : decode cX12_advised 30 = .ok (.iconst 4, 1) := by decide +kernel
theorem dX12_advised_31 : decode cX12_advised 31 = .ok (.if_icmp .ge 66, 3) := by decide +kernel
theorem dX12_advised_34 : decode cX12_advised 34 = .ok (.aload_n 0, 1) := by decide +kernel
theorem dX12_advised_35 : decode cX12_advised 35 = .ok (.iload_n 1, 1) := by decide +kernel
theorem dX12_advised_36 : decode cX12_advised 36 = .ok (.iload 5, 2) := by decide +kernel
theorem dX12_advised_38 : decode cX12_advised 38 = .ok (.invokevirtual 211, 3) := by decide +kernel
theorem dX12_advised_41 : decode cX12_advised 41 = .ok (.istore 6, 2) := by decide +kernel
theorem dX12_advised_43 : decode cX12_advised 43 = .ok (.iload 6, 2) := by decide +kernel
theorem dX12_advised_45 : decode cX12_advised 45 = .ok (.ifCond .lt 46, 3) := by decide +kernel
theorem dX12_advised_48 : decode cX12_advised 48 = .ok (.iload_n 2, 1) := by decide +kernel
theorem dX12_advised_49 : decode cX12_advised 49 = .ok (.ifCond .lt 24, 3) := by decide +kernel
theorem dX12_advised_52 : decode cX12_advised 52 = .ok (.aload 4, 2) := by decide +kernel
theorem dX12_advised_54 : decode cX12_advised 54 = .ok (.iload 6, 2) := by decide +kernel
theorem dX12_advised_56 : decode cX12_advised 56 = .ok (.bipush 10, 2) := by decide +kernel
theorem dX12_advised_58 : decode cX12_advised 58 = .ok (.irem, 1) := by decide +kernel
theorem dX12_advised_59 : decode cX12_advised 59 = .ok (.aaload, 1) := by decide +kernel
theorem dX12_advised_60 : decode cX12_advised 60 = .ok (.iload 6, 2) := by decide +kernel
theorem dX12_advised_62 : decode cX12_advised 62 = .ok (.bipush 10, 2) := by decide +kernel
theorem dX12_advised_64 : decode cX12_advised 64 = .ok (.idiv, 1) := by decide +kernel
theorem dX12_advised_65 : decode cX12_advised 65 = .ok (.iaload, 1) := by decide +kernel
theorem dX12_advised_66 : decode cX12_advised 66 = .ok (.iload_n 3, 1) := by decide +kernel
theorem dX12_advised_67 : decode cX12_advised 67 = .ok (.if_icmp .lt 6, 3) := by decide +kernel
theorem dX12_advised_70 : decode cX12_advised 70 = .ok (.goto 21, 3) := by decide +kernel
theorem dX12_advised_73 : decode cX12_advised 73 = .ok (.iload 5, 2) := by decide +kernel
theorem dX12_advised_75 : decode cX12_advised 75 = .ok (.istore_n 2, 1) := by decide +kernel
theorem dX12_advised_76 : decode cX12_advised 76 = .ok (.aload 4, 2) := by decide +kernel
theorem dX12_advised_78 : decode cX12_advised 78 = .ok (.iload 6, 2) := by decide +kernel
theorem dX12_advised_80 : decode cX12_advised 80 = .ok (.bipush 10, 2) := by decide +kernel
theorem dX12_advised_82 : decode cX12_advised 82 = .ok (.irem, 1) := by decide +kernel
theorem dX12_advised_83 : decode cX12_advised 83 = .ok (.aaload, 1) := by decide +kernel
theorem dX12_advised_84 : decode cX12_advised 84 = .ok (.iload 6, 2) := by decide +kernel
theorem dX12_advised_86 : decode cX12_advised 86 = .ok (.bipush 10, 2) := by decide +kernel
theorem dX12_advised_88 : decode cX12_advised 88 = .ok (.idiv, 1) := by decide +kernel
theorem dX12_advised_89 : decode cX12_advised 89 = .ok (.iaload, 1) := by decide +kernel
theorem dX12_advised_90 : decode cX12_advised 90 = .ok (.istore_n 3, 1) := by decide +kernel
theorem dX12_advised_91 : decode cX12_advised 91 = .ok (.iinc 5 1, 3) := by decide +kernel
theorem dX12_advised_94 : decode cX12_advised 94 = .ok (.goto (-66), 3) := by decide +kernel
theorem dX12_advised_97 : decode cX12_advised 97 = .ok (.iload_n 2, 1) := by decide +kernel
theorem dX12_advised_98 : decode cX12_advised 98 = .ok (.ireturn, 1) := by decide +kernel
theorem dX12_bestWall_0 : decode cX12_bestWall 0 = .ok (.aconst_null, 1) := by decide +kernel
theorem dX12_bestWall_1 : decode cX12_bestWall 1 = .ok (.astore_n 2, 1) := by decide +kernel
theorem dX12_bestWall_2 : decode cX12_bestWall 2 = .ok (.iconst 0, 1) := by decide +kernel
theorem dX12_bestWall_3 : decode cX12_bestWall 3 = .ok (.istore_n 3, 1) := by decide +kernel
theorem dX12_bestWall_4 : decode cX12_bestWall 4 = .ok (.iload_n 3, 1) := by decide +kernel
theorem dX12_bestWall_5 : decode cX12_bestWall 5 = .ok (.sipush 128, 3) := by decide +kernel
theorem dX12_bestWall_8 : decode cX12_bestWall 8 = .ok (.if_icmp .ge 153, 3) := by decide +kernel
theorem dX12_bestWall_11 : decode cX12_bestWall 11 = .ok (.aload_n 0, 1) := by decide +kernel
theorem dX12_bestWall_12 : decode cX12_bestWall 12 = .ok (.getfield 19, 3) := by decide +kernel
theorem dX12_bestWall_15 : decode cX12_bestWall 15 = .ok (.iload_n 1, 1) := by decide +kernel
theorem dX12_bestWall_16 : decode cX12_bestWall 16 = .ok (.invokeinterface 193 2, 5) := by decide +kernel
theorem dX12_bestWall_21 : decode cX12_bestWall 21 = .ok (.checkcast 169, 3) := by decide +kernel
theorem dX12_bestWall_24 : decode cX12_bestWall 24 = .ok (.bipush 6, 2) := by decide +kernel
theorem dX12_bestWall_26 : decode cX12_bestWall 26 = .ok (.iaload, 1) := by decide +kernel
theorem dX12_bestWall_27 : decode cX12_bestWall 27 = .ok (.ifCond .ne 134, 3) := by decide +kernel
theorem dX12_bestWall_30 : decode cX12_bestWall 30 = .ok (.iload_n 3, 1) := by decide +kernel
theorem dX12_bestWall_31 : decode cX12_bestWall 31 = .ok (.iconst 2, 1) := by decide +kernel
theorem dX12_bestWall_32 : decode cX12_bestWall 32 = .ok (.idiv, 1) := by decide +kernel
theorem dX12_bestWall_33 : decode cX12_bestWall 33 = .ok (.bipush 8, 2) := by decide +kernel
theorem dX12_bestWall_35 : decode cX12_bestWall 35 = .ok (.irem, 1) := by decide +kernel
theorem dX12_bestWall_36 : decode cX12_bestWall 36 = .ok (.istore 4, 2) := by decide +kernel
theorem dX12_bestWall_38 : decode cX12_bestWall 38 = .ok (.iload_n 3, 1) := by decide +kernel
theorem dX12_bestWall_39 : decode cX12_bestWall 39 = .ok (.bipush 16, 2) := by decide +kernel
theorem dX12_bestWall_41 : decode cX12_bestWall 41 = .ok (.idiv, 1) := by decide +kernel
theorem dX12_bestWall_42 : decode cX12_bestWall 42 = .ok (.istore 5, 2) := by decide +kernel
theorem dX12_bestWall_44 : decode cX12_bestWall 44 = .ok (.iconst 1, 1) := by decide +kernel
theorem dX12_bestWall_45 : decode cX12_bestWall 45 = .ok (.iload_n 3, 1) := by decide +kernel
theorem dX12_bestWall_46 : decode cX12_bestWall 46 = .ok (.iconst 2, 1) := by decide +kernel
theorem dX12_bestWall_47 : decode cX12_bestWall 47 = .ok (.irem, 1) := by decide +kernel
theorem dX12_bestWall_48 : decode cX12_bestWall 48 = .ok (.iadd, 1) := by decide +kernel
theorem dX12_bestWall_49 : decode cX12_bestWall 49 = .ok (.istore 6, 2) := by decide +kernel
theorem dX12_bestWall_51 : decode cX12_bestWall 51 = .ok (.iload 4, 2) := by decide +kernel
theorem dX12_bestWall_53 : decode cX12_bestWall 53 = .ok (.aload_n 0, 1) := by decide +kernel
theorem dX12_bestWall_54 : decode cX12_bestWall 54 = .ok (.getfield 7, 3) := by decide +kernel
theorem dX12_bestWall_57 : decode cX12_bestWall 57 = .ok (.iconst 1, 1) := by decide +kernel
theorem dX12_bestWall_58 : decode cX12_bestWall 58 = .ok (.isub, 1) := by decide +kernel
theorem dX12_bestWall_59 : decode cX12_bestWall 59 = .ok (.if_icmp .ge 96, 3) := by decide +kernel
theorem dX12_bestWall_62 : decode cX12_bestWall 62 = .ok (.iload 5, 2) := by decide +kernel
theorem dX12_bestWall_64 : decode cX12_bestWall 64 = .ok (.aload_n 0, 1) := by decide +kernel
theorem dX12_bestWall_65 : decode cX12_bestWall 65 = .ok (.getfield 13, 3) := by decide +kernel
theorem dX12_bestWall_68 : decode cX12_bestWall 68 = .ok (.iconst 1, 1) := by decide +kernel
theorem dX12_bestWall_69 : decode cX12_bestWall 69 = .ok (.isub, 1) := by decide +kernel
theorem dX12_bestWall_70 : decode cX12_bestWall 70 = .ok (.if_icmp .ge 85, 3) := by decide +kernel
theorem dX12_bestWall_73 : decode cX12_bestWall 73 = .ok (.aload_n 0, 1) := by decide +kernel
theorem dX12_bestWall_74 : decode cX12_bestWall 74 = .ok (.iload 4, 2) := by decide +kernel
theorem dX12_bestWall_76 : decode cX12_bestWall 76 = .ok (.iload 5, 2) := by decide +kernel
theorem dX12_bestWall_78 : decode cX12_bestWall 78 = .ok (.iload 6, 2) := by decide +kernel
theorem dX12_bestWall_80 : decode cX12_bestWall 80 = .ok (.invokevirtual 139, 3) := by decide +kernel
theorem dX12_bestWall_83 : decode cX12_bestWall 83 = .ok (.ifCond .ne 6, 3) := by decide +kernel
theorem dX12_bestWall_86 : decode cX12_bestWall 86 = .ok (.goto 69, 3) := by decide +kernel
theorem dX12_bestWall_89 : decode cX12_bestWall 89 = .ok (.aload_n 0, 1) := by decide +kernel
theorem dX12_bestWall_90 : decode cX12_bestWall 90 = .ok (.getfield 28, 3) := by decide +kernel
theorem dX12_bestWall_93 : decode cX12_bestWall 93 = .ok (.iload 5, 2) := by decide +kernel
theorem dX12_bestWall_95 : decode cX12_bestWall 95 = .ok (.aaload, 1) := by decide +kernel
theorem dX12_bestWall_96 : decode cX12_bestWall 96 = .ok (.iload 4, 2) := by decide +kernel
theorem dX12_bestWall_98 : decode cX12_bestWall 98 = .ok (.iload 6, 2) := by decide +kernel
theorem dX12_bestWall_100 : decode cX12_bestWall 100 = .ok (.iastore, 1) := by decide +kernel
theorem dX12_bestWall_101 : decode cX12_bestWall 101 = .ok (.aload_n 0, 1) := by decide +kernel
theorem dX12_bestWall_102 : decode cX12_bestWall 102 = .ok (.iload_n 1, 1) := by decide +kernel
theorem dX12_bestWall_103 : decode cX12_bestWall 103 = .ok (.invokevirtual 201, 3) := by decide +kernel
theorem dX12_bestWall_106 : decode cX12_bestWall 106 = .ok (.istore 7, 2) := by decide +kernel
theorem dX12_bestWall_108 : decode cX12_bestWall 108 = .ok (.aload_n 0, 1) := by decide +kernel
theorem dX12_bestWall_109 : decode cX12_bestWall 109 = .ok (.getfield 28, 3) := by decide +kernel
theorem dX12_bestWall_112 : decode cX12_bestWall 112 = .ok (.iload 5, 2) := by decide +kernel
theorem dX12_bestWall_114 : decode cX12_bestWall 114 = .ok (.aaload, 1) := by decide +kernel
theorem dX12_bestWall_115 : decode cX12_bestWall 115 = .ok (.iload 4, 2) := by decide +kernel
theorem dX12_bestWall_117 : decode cX12_bestWall 117 = .ok (.iconst 0, 1) := by decide +kernel
theorem dX12_bestWall_118 : decode cX12_bestWall 118 = .ok (.iastore, 1) := by decide +kernel
theorem dX12_bestWall_119 : decode cX12_bestWall 119 = .ok (.aload_n 2, 1) := by decide +kernel
theorem dX12_bestWall_120 : decode cX12_bestWall 120 = .ok (.ifnull 11, 3) := by decide +kernel
theorem dX12_bestWall_123 : decode cX12_bestWall 123 = .ok (.iload 7, 2) := by decide +kernel
theorem dX12_bestWall_125 : decode cX12_bestWall 125 = .ok (.aload_n 2, 1) := by decide +kernel
theorem dX12_bestWall_126 : decode cX12_bestWall 126 = .ok (.iconst 3, 1) := by decide +kernel
theorem dX12_bestWall_127 : decode cX12_bestWall 127 = .ok (.iaload, 1) := by decide +kernel
theorem dX12_bestWall_128 : decode cX12_bestWall 128 = .ok (.if_icmp .le 27, 3) := by decide +kernel
theorem dX12_bestWall_131 : decode cX12_bestWall 131 = .ok (.iconst 4, 1) := by decide +kernel
theorem dX12_bestWall_132 : decode cX12_bestWall 132 = .ok (.newarray .int, 2) := by decide +kernel
theorem dX12_bestWall_134 : decode cX12_bestWall 134 = .ok (.dup, 1) := by decide +kernel
theorem dX12_bestWall_135 : decode cX12_bestWall 135 = .ok (.iconst 0, 1) := by decide +kernel
theorem dX12_bestWall_136 : decode cX12_bestWall 136 = .ok (.iload 4, 2) := by decide +kernel
theorem dX12_bestWall_138 : decode cX12_bestWall 138 = .ok (.iastore, 1) := by decide +kernel
theorem dX12_bestWall_139 : decode cX12_bestWall 139 = .ok (.dup, 1) := by decide +kernel
theorem dX12_bestWall_140 : decode cX12_bestWall 140 = .ok (.iconst 1, 1) := by decide +kernel
theorem dX12_bestWall_141 : decode cX12_bestWall 141 = .ok (.iload 5, 2) := by decide +kernel
theorem dX12_bestWall_143 : decode cX12_bestWall 143 = .ok (.iastore, 1) := by decide +kernel
theorem dX12_bestWall_144 : decode cX12_bestWall 144 = .ok (.dup, 1) := by decide +kernel
theorem dX12_bestWall_145 : decode cX12_bestWall 145 = .ok (.iconst 2, 1) := by decide +kernel
theorem dX12_bestWall_146 : decode cX12_bestWall 146 = .ok (.iload 6, 2) := by decide +kernel
theorem dX12_bestWall_148 : decode cX12_bestWall 148 = .ok (.iastore, 1) := by decide +kernel
theorem dX12_bestWall_149 : decode cX12_bestWall 149 = .ok (.dup, 1) := by decide +kernel
theorem dX12_bestWall_150 : decode cX12_bestWall 150 = .ok (.iconst 3, 1) := by decide +kernel
theorem dX12_bestWall_151 : decode cX12_bestWall 151 = .ok (.iload 7, 2) := by decide +kernel
theorem dX12_bestWall_153 : decode cX12_bestWall 153 = .ok (.iastore, 1) := by decide +kernel
theorem dX12_bestWall_154 : decode cX12_bestWall 154 = .ok (.astore_n 2, 1) := by decide +kernel
theorem dX12_bestWall_155 : decode cX12_bestWall 155 = .ok (.iinc 3 1, 3) := by decide +kernel
theorem dX12_bestWall_158 : decode cX12_bestWall 158 = .ok (.goto (-154), 3) := by decide +kernel
theorem dX12_bestWall_161 : decode cX12_bestWall 161 = .ok (.aload_n 2, 1) := by decide +kernel
theorem dX12_bestWall_162 : decode cX12_bestWall 162 = .ok (.areturn, 1) := by decide +kernel
theorem dX12_play_0 : decode cX12_play 0 = .ok (.iconst (-1), 1) := by decide +kernel
theorem dX12_play_1 : decode cX12_play 1 = .ok (.istore_n 2, 1) := by decide +kernel
theorem dX12_play_2 : decode cX12_play 2 = .ok (.iconst 0, 1) := by decide +kernel
theorem dX12_play_3 : decode cX12_play 3 = .ok (.istore_n 3, 1) := by decide +kernel
theorem dX12_play_4 : decode cX12_play 4 = .ok (.iload_n 3, 1) := by decide +kernel
theorem dX12_play_5 : decode cX12_play 5 = .ok (.aload_n 0, 1) := by decide +kernel
theorem dX12_play_6 : decode cX12_play 6 = .ok (.getfield 19, 3) := by decide +kernel
theorem dX12_play_9 : decode cX12_play 9 = .ok (.invokeinterface 106 1, 5) := by decide +kernel
theorem dX12_play_14 : decode cX12_play 14 = .ok (.if_icmp .ge 81, 3) := by decide +kernel
theorem dX12_play_17 : decode cX12_play 17 = .ok (.iload_n 1, 1) := by decide +kernel
theorem dX12_play_18 : decode cX12_play 18 = .ok (.iconst 1, 1) := by decide +kernel
theorem dX12_play_19 : decode cX12_play 19 = .ok (.if_icmp .ne 76, 3) := by decide +kernel
theorem dX12_play_22 : decode cX12_play 22 = .ok (.aload_n 0, 1) := by decide +kernel
theorem dX12_play_23 : decode cX12_play 23 = .ok (.getfield 19, 3) := by decide +kernel
theorem dX12_play_26 : decode cX12_play 26 = .ok (.aload_n 0, 1) := by decide +kernel
theorem dX12_play_27 : decode cX12_play 27 = .ok (.getfield 154, 3) := by decide +kernel
theorem dX12_play_30 : decode cX12_play 30 = .ok (.invokeinterface 193 2, 5) := by decide +kernel
theorem dX12_play_35 : decode cX12_play 35 = .ok (.checkcast 169, 3) := by decide +kernel
theorem dX12_play_38 : decode cX12_play 38 = .ok (.iconst 3, 1) := by decide +kernel
theorem dX12_play_39 : decode cX12_play 39 = .ok (.iaload, 1) := by decide +kernel
theorem dX12_play_40 : decode cX12_play 40 = .ok (.ifCond .le 55, 3) := by decide +kernel
theorem dX12_play_43 : decode cX12_play 43 = .ok (.iload_n 3, 1) := by decide +kernel
theorem dX12_play_44 : decode cX12_play 44 = .ok (.aload_n 0, 1) := by decide +kernel
theorem dX12_play_45 : decode cX12_play 45 = .ok (.getfield 154, 3) := by decide +kernel
theorem dX12_play_48 : decode cX12_play 48 = .ok (.if_icmp .eq 41, 3) := by decide +kernel
theorem dX12_play_51 : decode cX12_play 51 = .ok (.aload_n 0, 1) := by decide +kernel
theorem dX12_play_52 : decode cX12_play 52 = .ok (.getfield 19, 3) := by decide +kernel
theorem dX12_play_55 : decode cX12_play 55 = .ok (.iload_n 3, 1) := by decide +kernel
theorem dX12_play_56 : decode cX12_play 56 = .ok (.invokeinterface 193 2, 5) := by decide +kernel
theorem dX12_play_61 : decode cX12_play 61 = .ok (.checkcast 169, 3) := by decide +kernel
theorem dX12_play_64 : decode cX12_play 64 = .ok (.bipush 6, 2) := by decide +kernel
theorem dX12_play_66 : decode cX12_play 66 = .ok (.iaload, 1) := by decide +kernel
theorem dX12_play_67 : decode cX12_play 67 = .ok (.ifCond .ne 22, 3) := by decide +kernel
theorem dX12_play_70 : decode cX12_play 70 = .ok (.iload_n 2, 1) := by decide +kernel
theorem dX12_play_71 : decode cX12_play 71 = .ok (.ifCond .lt 16, 3) := by decide +kernel
theorem dX12_play_74 : decode cX12_play 74 = .ok (.aload_n 0, 1) := by decide +kernel
theorem dX12_play_75 : decode cX12_play 75 = .ok (.iload_n 3, 1) := by decide +kernel
theorem dX12_play_76 : decode cX12_play 76 = .ok (.invokevirtual 201, 3) := by decide +kernel
theorem dX12_play_79 : decode cX12_play 79 = .ok (.aload_n 0, 1) := by decide +kernel
theorem dX12_play_80 : decode cX12_play 80 = .ok (.iload_n 2, 1) := by decide +kernel
theorem dX12_play_81 : decode cX12_play 81 = .ok (.invokevirtual 201, 3) := by decide +kernel
theorem dX12_play_84 : decode cX12_play 84 = .ok (.if_icmp .ge 5, 3) := by decide +kernel
theorem dX12_play_87 : decode cX12_play 87 = .ok (.iload_n 3, 1) := by decide +kernel
theorem dX12_play_88 : decode cX12_play 88 = .ok (.istore_n 2, 1) := by decide +kernel
theorem dX12_play_89 : decode cX12_play 89 = .ok (.iinc 3 1, 3) := by decide +kernel
theorem dX12_play_92 : decode cX12_play 92 = .ok (.goto (-88), 3) := by decide +kernel
theorem dX12_play_95 : decode cX12_play 95 = .ok (.iload_n 2, 1) := by decide +kernel
theorem dX12_play_96 : decode cX12_play 96 = .ok (.ifCond .lt 56, 3) := by decide +kernel
theorem dX12_play_99 : decode cX12_play 99 = .ok (.aload_n 0, 1) := by decide +kernel
theorem dX12_play_100 : decode cX12_play 100 = .ok (.iload_n 2, 1) := by decide +kernel
theorem dX12_play_101 : decode cX12_play 101 = .ok (.invokevirtual 201, 3) := by decide +kernel
theorem dX12_play_104 : decode cX12_play 104 = .ok (.aload_n 0, 1) := by decide +kernel
theorem dX12_play_105 : decode cX12_play 105 = .ok (.aload_n 0, 1) := by decide +kernel
theorem dX12_play_106 : decode cX12_play 106 = .ok (.getfield 154, 3) := by decide +kernel
theorem dX12_play_109 : decode cX12_play 109 = .ok (.invokevirtual 201, 3) := by decide +kernel
theorem dX12_play_112 : decode cX12_play 112 = .ok (.if_icmp .ge 40, 3) := by decide +kernel
theorem dX12_play_115 : decode cX12_play 115 = .ok (.aload_n 0, 1) := by decide +kernel
theorem dX12_play_116 : decode cX12_play 116 = .ok (.iload_n 2, 1) := by decide +kernel
theorem dX12_play_117 : decode cX12_play 117 = .ok (.invokevirtual 217, 3) := by decide +kernel
theorem dX12_play_120 : decode cX12_play 120 = .ok (.astore_n 3, 1) := by decide +kernel
theorem dX12_play_121 : decode cX12_play 121 = .ok (.aload_n 3, 1) := by decide +kernel
theorem dX12_play_122 : decode cX12_play 122 = .ok (.ifnull 30, 3) := by decide +kernel
theorem dX12_play_125 : decode cX12_play 125 = .ok (.aload_n 3, 1) := by decide +kernel
theorem dX12_play_126 : decode cX12_play 126 = .ok (.iconst 3, 1) := by decide +kernel
theorem dX12_play_127 : decode cX12_play 127 = .ok (.iaload, 1) := by decide +kernel
theorem dX12_play_128 : decode cX12_play 128 = .ok (.aload_n 0, 1) := by decide +kernel
theorem dX12_play_129 : decode cX12_play 129 = .ok (.iload_n 2, 1) := by decide +kernel
theorem dX12_play_130 : decode cX12_play 130 = .ok (.invokevirtual 201, 3) := by decide +kernel
theorem dX12_play_133 : decode cX12_play 133 = .ok (.if_icmp .le 19, 3) := by decide +kernel
theorem dX12_play_136 : decode cX12_play 136 = .ok (.aload_n 0, 1) := by decide +kernel
theorem dX12_play_137 : decode cX12_play 137 = .ok (.aload_n 3, 1) := by decide +kernel
theorem dX12_play_138 : decode cX12_play 138 = .ok (.iconst 0, 1) := by decide +kernel
theorem dX12_play_139 : decode cX12_play 139 = .ok (.iaload, 1) := by decide +kernel
theorem dX12_play_140 : decode cX12_play 140 = .ok (.aload_n 3, 1) := by decide +kernel
theorem dX12_play_141 : decode cX12_play 141 = .ok (.iconst 1, 1) := by decide +kernel
theorem dX12_play_142 : decode cX12_play 142 = .ok (.iaload, 1) := by decide +kernel
theorem dX12_play_143 : decode cX12_play 143 = .ok (.aload_n 3, 1) := by decide +kernel
theorem dX12_play_144 : decode cX12_play 144 = .ok (.iconst 2, 1) := by decide +kernel
theorem dX12_play_145 : decode cX12_play 145 = .ok (.iaload, 1) := by decide +kernel
theorem dX12_play_146 : decode cX12_play 146 = .ok (.invokevirtual 221, 3) := by decide +kernel
theorem dX12_play_149 : decode cX12_play 149 = .ok (.istore 4, 2) := by decide +kernel
theorem dX12_play_151 : decode cX12_play 151 = .ok (.return_, 1) := by decide +kernel
theorem dX12_play_152 : decode cX12_play 152 = .ok (.aload_n 0, 1) := by decide +kernel
theorem dX12_play_153 : decode cX12_play 153 = .ok (.aload_n 0, 1) := by decide +kernel
theorem dX12_play_154 : decode cX12_play 154 = .ok (.getfield 154, 3) := by decide +kernel
theorem dX12_play_157 : decode cX12_play 157 = .ok (.invokevirtual 225, 3) := by decide +kernel
theorem dX12_play_160 : decode cX12_play 160 = .ok (.istore_n 3, 1) := by decide +kernel
theorem dX12_play_161 : decode cX12_play 161 = .ok (.iload_n 3, 1) := by decide +kernel
theorem dX12_play_162 : decode cX12_play 162 = .ok (.ifCond .ge 10, 3) := by decide +kernel
theorem dX12_play_165 : decode cX12_play 165 = .ok (.aload_n 0, 1) := by decide +kernel
theorem dX12_play_166 : decode cX12_play 166 = .ok (.invokevirtual 214, 3) := by decide +kernel
theorem dX12_play_169 : decode cX12_play 169 = .ok (.goto 10, 3) := by decide +kernel
theorem dX12_play_172 : decode cX12_play 172 = .ok (.aload_n 0, 1) := by decide +kernel
theorem dX12_play_173 : decode cX12_play 173 = .ok (.iload_n 3, 1) := by decide +kernel
theorem dX12_play_174 : decode cX12_play 174 = .ok (.invokevirtual 228, 3) := by decide +kernel
theorem dX12_play_177 : decode cX12_play 177 = .ok (.istore 4, 2) := by decide +kernel
theorem dX12_play_179 : decode cX12_play 179 = .ok (.return_, 1) := by decide +kernel
