theorem dX12_init_0 : decode cX12_init 0 = .ok (.aload_n 0, 1) := by decide +kernel
theorem dX12_init_1 : decode cX12_init 1 = .ok (.invokespecial 1, 3) := by decide +kernel
theorem dX12_init_4 : decode cX12_init 4 = .ok (.aload_n 0, 1) := by decide +kernel
theorem dX12_init_5 : decode cX12_init 5 = .ok (.sipush 700, 3) := by decide +kernel
theorem dX12_init_8 : decode cX12_init 8 = .ok (.newarray .int, 2) := by decide +kernel
theorem dX12_init_10 : decode cX12_init 10 = .ok (.putfield 7, 3) := by decide +kernel
theorem dX12_init_13 : decode cX12_init 13 = .ok (.aload_n 0, 1) := by decide +kernel
theorem dX12_init_14 : decode cX12_init 14 = .ok (.iconst (-1), 1) := by decide +kernel
theorem dX12_init_15 : decode cX12_init 15 = .ok (.putfield 13, 3) := by decide +kernel
theorem dX12_init_18 : decode cX12_init 18 = .ok (.aload_n 0, 1) := by decide +kernel
theorem dX12_init_19 : decode cX12_init 19 = .ok (.iconst (-1), 1) := by decide +kernel
theorem dX12_init_20 : decode cX12_init 20 = .ok (.putfield 17, 3) := by decide +kernel
theorem dX12_init_23 : decode cX12_init 23 = .ok (.aload_n 0, 1) := by decide +kernel
theorem dX12_init_24 : decode cX12_init 24 = .ok (.sipush 184, 3) := by decide +kernel
theorem dX12_init_27 : decode cX12_init 27 = .ok (.newarray .int, 2) := by decide +kernel
theorem dX12_init_29 : decode cX12_init 29 = .ok (.putfield 20, 3) := by decide +kernel
theorem dX12_init_32 : decode cX12_init 32 = .ok (.aload_n 0, 1) := by decide +kernel
theorem dX12_init_33 : decode cX12_init 33 = .ok (.sipush 184, 3) := by decide +kernel
theorem dX12_init_36 : decode cX12_init 36 = .ok (.newarray .int, 2) := by decide +kernel
theorem dX12_init_38 : decode cX12_init 38 = .ok (.putfield 23, 3) := by decide +kernel
theorem dX12_init_41 : decode cX12_init 41 = .ok (.aload_n 0, 1) := by decide +kernel
theorem dX12_init_42 : decode cX12_init 42 = .ok (.sipush 1104, 3) := by decide +kernel
theorem dX12_init_45 : decode cX12_init 45 = .ok (.newarray .int, 2) := by decide +kernel
theorem dX12_init_47 : decode cX12_init 47 = .ok (.putfield 26, 3) := by decide +kernel
theorem dX12_init_50 : decode cX12_init 50 = .ok (.aload_n 0, 1) := by decide +kernel
theorem dX12_init_51 : decode cX12_init 51 = .ok (.sipush 184, 3) := by decide +kernel
theorem dX12_init_54 : decode cX12_init 54 = .ok (.newarray .int, 2) := by decide +kernel
theorem dX12_init_56 : decode cX12_init 56 = .ok (.putfield 29, 3) := by decide +kernel
theorem dX12_init_59 : decode cX12_init 59 = .ok (.aload_n 0, 1) := by decide +kernel
theorem dX12_init_60 : decode cX12_init 60 = .ok (.sipush 184, 3) := by decide +kernel
theorem dX12_init_63 : decode cX12_init 63 = .ok (.newarray .int, 2) := by decide +kernel
theorem dX12_init_65 : decode cX12_init 65 = .ok (.putfield 32, 3) := by decide +kernel
theorem dX12_init_68 : decode cX12_init 68 = .ok (.aload_n 0, 1) := by decide +kernel
theorem dX12_init_69 : decode cX12_init 69 = .ok (.bipush 81, 2) := by decide +kernel
theorem dX12_init_71 : decode cX12_init 71 = .ok (.newarray .int, 2) := by decide +kernel
theorem dX12_init_73 : decode cX12_init 73 = .ok (.putfield 35, 3) := by decide +kernel
theorem dX12_init_76 : decode cX12_init 76 = .ok (.aload_n 0, 1) := by decide +kernel
theorem dX12_init_77 : decode cX12_init 77 = .ok (.bipush 81, 2) := by decide +kernel
theorem dX12_init_79 : decode cX12_init 79 = .ok (.newarray .int, 2) := by decide +kernel
theorem dX12_init_81 : decode cX12_init 81 = .ok (.putfield 38, 3) := by decide +kernel
theorem dX12_init_84 : decode cX12_init 84 = .ok (.aload_n 0, 1) := by decide +kernel
theorem dX12_init_85 : decode cX12_init 85 = .ok (.iconst 4, 1) := by decide +kernel
theorem dX12_init_86 : decode cX12_init 86 = .ok (.newarray .long, 2) := by decide +kernel
theorem dX12_init_88 : decode cX12_init 88 = .ok (.putfield 41, 3) := by decide +kernel
theorem dX12_init_91 : decode cX12_init 91 = .ok (.aload_n 0, 1) := by decide +kernel
theorem dX12_init_92 : decode cX12_init 92 = .ok (.bipush 81, 2) := by decide +kernel
theorem dX12_init_94 : decode cX12_init 94 = .ok (.newarray .int, 2) := by decide +kernel
theorem dX12_init_96 : decode cX12_init 96 = .ok (.putfield 45, 3) := by decide +kernel
theorem dX12_init_99 : decode cX12_init 99 = .ok (.aload_n 0, 1) := by decide +kernel
theorem dX12_init_100 : decode cX12_init 100 = .ok (.bipush 81, 2) := by decide +kernel
theorem dX12_init_102 : decode cX12_init 102 = .ok (.newarray .boolean, 2) := by decide +kernel
theorem dX12_init_104 : decode cX12_init 104 = .ok (.putfield 48, 3) := by decide +kernel
theorem dX12_init_107 : decode cX12_init 107 = .ok (.aload_n 0, 1) := by decide +kernel
theorem dX12_init_108 : decode cX12_init 108 = .ok (.sipush 405, 3) := by decide +kernel
theorem dX12_init_111 : decode cX12_init 111 = .ok (.newarray .int, 2) := by decide +kernel
theorem dX12_init_113 : decode cX12_init 113 = .ok (.putfield 52, 3) := by decide +kernel
theorem dX12_init_116 : decode cX12_init 116 = .ok (.aload_n 0, 1) := by decide +kernel
theorem dX12_init_117 : decode cX12_init 117 = .ok (.sipush 405, 3) := by decide +kernel
theorem dX12_init_120 : decode cX12_init 120 = .ok (.newarray .int, 2) := by decide +kernel
theorem dX12_init_122 : decode cX12_init 122 = .ok (.putfield 55, 3) := by decide +kernel
theorem dX12_init_125 : decode cX12_init 125 = .ok (.aload_n 0, 1) := by decide +kernel
theorem dX12_init_126 : decode cX12_init 126 = .ok (.sipush 405, 3) := by decide +kernel
theorem dX12_init_129 : decode cX12_init 129 = .ok (.newarray .boolean, 2) := by decide +kernel
theorem dX12_init_131 : decode cX12_init 131 = .ok (.putfield 58, 3) := by decide +kernel
theorem dX12_init_134 : decode cX12_init 134 = .ok (.aload_n 0, 1) := by decide +kernel
theorem dX12_init_135 : decode cX12_init 135 = .ok (.sipush 405, 3) := by decide +kernel
theorem dX12_init_138 : decode cX12_init 138 = .ok (.newarray .boolean, 2) := by decide +kernel
theorem dX12_init_140 : decode cX12_init 140 = .ok (.putfield 61, 3) := by decide +kernel
theorem dX12_init_143 : decode cX12_init 143 = .ok (.aload_n 0, 1) := by decide +kernel
theorem dX12_init_144 : decode cX12_init 144 = .ok (.bipush 60, 2) := by decide +kernel
theorem dX12_init_146 : decode cX12_init 146 = .ok (.newarray .int, 2) := by decide +kernel
theorem dX12_init_148 : decode cX12_init 148 = .ok (.putfield 64, 3) := by decide +kernel
theorem dX12_init_151 : decode cX12_init 151 = .ok (.aload_n 0, 1) := by decide +kernel
theorem dX12_init_152 : decode cX12_init 152 = .ok (.bipush 60, 2) := by decide +kernel
theorem dX12_init_154 : decode cX12_init 154 = .ok (.newarray .int, 2) := by decide +kernel
theorem dX12_init_156 : decode cX12_init 156 = .ok (.putfield 67, 3) := by decide +kernel
theorem dX12_init_159 : decode cX12_init 159 = .ok (.aload_n 0, 1) := by decide +kernel
theorem dX12_init_160 : decode cX12_init 160 = .ok (.bipush 60, 2) := by decide +kernel
theorem dX12_init_162 : decode cX12_init 162 = .ok (.newarray .int, 2) := by decide +kernel
theorem dX12_init_164 : decode cX12_init 164 = .ok (.putfield 70, 3) := by decide +kernel
theorem dX12_init_167 : decode cX12_init 167 = .ok (.aload_n 0, 1) := by decide +kernel
theorem dX12_init_168 : decode cX12_init 168 = .ok (.bipush 60, 2) := by decide +kernel
theorem dX12_init_170 : decode cX12_init 170 = .ok (.newarray .int, 2) := by decide +kernel
theorem dX12_init_172 : decode cX12_init 172 = .ok (.putfield 73, 3) := by decide +kernel
theorem dX12_init_175 : decode cX12_init 175 = .ok (.aload_n 0, 1) := by decide +kernel
theorem dX12_init_176 : decode cX12_init 176 = .ok (.iconst 2, 1) := by decide +kernel
theorem dX12_init_177 : decode cX12_init 177 = .ok (.newarray .int, 2) := by decide +kernel
theorem dX12_init_179 : decode cX12_init 179 = .ok (.putfield 76, 3) := by decide +kernel
theorem dX12_init_182 : decode cX12_init 182 = .ok (.aload_n 0, 1) := by decide +kernel
theorem dX12_init_183 : decode cX12_init 183 = .ok (.iconst 2, 1) := by decide +kernel
theorem dX12_init_184 : decode cX12_init 184 = .ok (.newarray .int, 2) := by decide +kernel
theorem dX12_init_186 : decode cX12_init 186 = .ok (.putfield 79, 3) := by decide +kernel
theorem dX12_init_189 : decode cX12_init 189 = .ok (.aload_n 0, 1) := by decide +kernel
theorem dX12_init_190 : decode cX12_init 190 = .ok (.sipush 400, 3) := by decide +kernel
theorem dX12_init_193 : decode cX12_init 193 = .ok (.newarray .int, 2) := by decide +kernel
theorem dX12_init_195 : decode cX12_init 195 = .ok (.putfield 82, 3) := by decide +kernel
theorem dX12_init_198 : decode cX12_init 198 = .ok (.aload_n 0, 1) := by decide +kernel
theorem dX12_init_199 : decode cX12_init 199 = .ok (.invokevirtual 85, 3) := by decide +kernel
theorem dX12_init_202 : decode cX12_init 202 = .ok (.return_, 1) := by decide +kernel
theorem dX12_thrown_0 : decode cX12_thrown 0 = .ok (.aload_n 0, 1) := by decide +kernel
theorem dX12_thrown_1 : decode cX12_thrown 1 = .ok (.getfield 88, 3) := by decide +kernel
theorem dX12_thrown_4 : decode cX12_thrown 4 = .ok (.ireturn, 1) := by decide +kernel
theorem dX12_isIn_0 : decode cX12_isIn 0 = .ok (.lload_n 0, 1) := by decide +kernel
theorem dX12_isIn_1 : decode cX12_isIn 1 = .ok (.lload_n 2, 1) := by decide +kernel
theorem dX12_isIn_2 : decode cX12_isIn 2 = .ok (.lcmp, 1) := by decide +kernel
theorem dX12_isIn_3 : decode cX12_isIn 3 = .ok (.ifCond .lt 14, 3) := by decide +kernel
theorem dX12_isIn_6 : decode cX12_isIn 6 = .ok (.lload_n 0, 1) := by decide +kernel
theorem dX12_isIn_7 : decode cX12_isIn 7 = .ok (.lload 4, 2) := by decide +kernel
theorem dX12_isIn_9 : decode cX12_isIn 9 = .ok (.lcmp, 1) := by decide +kernel
theorem dX12_isIn_10 : decode cX12_isIn 10 = .ok (.ifCond .gt 7, 3) := by decide +kernel
theorem dX12_isIn_13 : decode cX12_isIn 13 = .ok (.iconst 1, 1) := by decide +kernel
theorem dX12_isIn_14 : decode cX12_isIn 14 = .ok (.goto 4, 3) := by decide +kernel
theorem dX12_isIn_17 : decode cX12_isIn 17 = .ok (.iconst 0, 1) := by decide +kernel
theorem dX12_isIn_18 : decode cX12_isIn 18 = .ok (.ireturn, 1) := by decide +kernel
theorem dX12_truth_0 : decode cX12_truth 0 = .ok (.iload_n 0, 1) := by decide +kernel
theorem dX12_truth_1 : decode cX12_truth 1 = .ok (.ifCond .eq 7, 3) := by decide +kernel
theorem dX12_truth_4 : decode cX12_truth 4 = .ok (.iconst 1, 1) := by decide +kernel
theorem dX12_truth_5 : decode cX12_truth 5 = .ok (.goto 4, 3) := by decide +kernel
theorem dX12_truth_8 : decode cX12_truth 8 = .ok (.iconst 0, 1) := by decide +kernel
theorem dX12_truth_9 : decode cX12_truth 9 = .ok (.ireturn, 1) := by decide +kernel
theorem dX12_less_0 : decode cX12_less 0 = .ok (.iload_n 0, 1) := by decide +kernel
theorem dX12_less_1 : decode cX12_less 1 = .ok (.iload_n 1, 1) := by decide +kernel
theorem dX12_less_2 : decode cX12_less 2 = .ok (.if_icmp .ge 7, 3) := by decide +kernel
theorem dX12_less_5 : decode cX12_less 5 = .ok (.iload_n 0, 1) := by decide +kernel
theorem dX12_less_6 : decode cX12_less 6 = .ok (.goto 4, 3) := by decide +kernel
theorem dX12_less_9 : decode cX12_less 9 = .ok (.iload_n 1, 1) := by decide +kernel
theorem dX12_less_10 : decode cX12_less 10 = .ok (.ireturn, 1) := by decide +kernel
theorem dX12_more_0 : decode cX12_more 0 = .ok (.iload_n 0, 1) := by decide +kernel
theorem dX12_more_1 : decode cX12_more 1 = .ok (.iload_n 1, 1) := by decide +kernel
theorem dX12_more_2 : decode cX12_more 2 = .ok (.if_icmp .le 7, 3) := by decide +kernel
theorem dX12_more_5 : decode cX12_more 5 = .ok (.iload_n 0, 1) := by decide +kernel
theorem dX12_more_6 : decode cX12_more 6 = .ok (.goto 4, 3) := by decide +kernel
theorem dX12_more_9 : decode cX12_more 9 = .ok (.iload_n 1, 1) := by decide +kernel
theorem dX12_more_10 : decode cX12_more 10 = .ok (.ireturn, 1) := by decide +kernel
theorem dX12_goes_0 : decode cX12_goes 0 = .ok (.aload_n 0, 1) := by decide +kernel
theorem dX12_goes_1 : decode cX12_goes 1 = .ok (.iload_n 1, 1) := by decide +kernel
theorem dX12_goes_2 : decode cX12_goes 2 = .ok (.ifCond .ne 7, 3) := by decide +kernel
theorem dX12_goes_5 : decode cX12_goes 5 = .ok (.iconst 1, 1) := by decide +kernel
theorem dX12_goes_6 : decode cX12_goes 6 = .ok (.goto 4, 3) := by decide +kernel
theorem dX12_goes_9 : decode cX12_goes 9 = .ok (.iconst 0, 1) := by decide +kernel
theorem dX12_goes_10 : decode cX12_goes 10 = .ok (.invokestatic 91, 3) := by decide +kernel
theorem dX12_goes_13 : decode cX12_goes 13 = .ok (.putfield 88, 3) := by decide +kernel
theorem dX12_goes_16 : decode cX12_goes 16 = .ok (.iload_n 1, 1) := by decide +kernel
theorem dX12_goes_17 : decode cX12_goes 17 = .ok (.ireturn, 1) := by decide +kernel
theorem dX12_goesBoth_0 : decode cX12_goesBoth 0 = .ok (.aload_n 0, 1) := by decide +kernel
theorem dX12_goesBoth_1 : decode cX12_goesBoth 1 = .ok (.iload_n 1, 1) := by decide +kernel
theorem dX12_goesBoth_2 : decode cX12_goesBoth 2 = .ok (.ifCond .ne 7, 3) := by decide +kernel
theorem dX12_goesBoth_5 : decode cX12_goesBoth 5 = .ok (.iconst 1, 1) := by decide +kernel
theorem dX12_goesBoth_6 : decode cX12_goesBoth 6 = .ok (.goto 12, 3) := by decide +kernel
theorem dX12_goesBoth_9 : decode cX12_goesBoth 9 = .ok (.iload_n 2, 1) := by decide +kernel
theorem dX12_goesBoth_10 : decode cX12_goesBoth 10 = .ok (.ifCond .ne 7, 3) := by decide +kernel
theorem dX12_goesBoth_13 : decode cX12_goesBoth 13 = .ok (.iconst 2, 1) := by decide +kernel
theorem dX12_goesBoth_14 : decode cX12_goesBoth 14 = .ok (.goto 4, 3) := by decide +kernel
theorem dX12_goesBoth_17 : decode cX12_goesBoth 17 = .ok (.iconst 0, 1) := by decide +kernel
theorem dX12_goesBoth_18 : decode cX12_goesBoth 18 = .ok (.putfield 88, 3) := by decide +kernel
theorem dX12_goesBoth_21 : decode cX12_goesBoth 21 = .ok (.aload_n 0, 1) := by decide +kernel
theorem dX12_goesBoth_22 : decode cX12_goesBoth 22 = .ok (.getfield 88, 3) := by decide +kernel
theorem dX12_goesBoth_25 : decode cX12_goesBoth 25 = .ok (.ifCond .ne 7, 3) := by decide +kernel
theorem dX12_goesBoth_28 : decode cX12_goesBoth 28 = .ok (.iconst 1, 1) := by decide +kernel
theorem dX12_goesBoth_29 : decode cX12_goesBoth 29 = .ok (.goto 4, 3) := by decide +kernel
theorem dX12_goesBoth_32 : decode cX12_goesBoth 32 = .ok (.iconst 0, 1) := by decide +kernel
theorem dX12_goesBoth_33 : decode cX12_goesBoth 33 = .ok (.ireturn, 1) := by decide +kernel
theorem dX12_feed_0 : decode cX12_feed 0 = .ok (.aload_n 0, 1) := by decide +kernel
theorem dX12_feed_1 : decode cX12_feed 1 = .ok (.aload_n 0, 1) := by decide +kernel
theorem dX12_feed_2 : decode cX12_feed 2 = .ok (.getfield 95, 3) := by decide +kernel
theorem dX12_feed_5 : decode cX12_feed 5 = .ok (.bipush 20, 2) := by decide +kernel
theorem dX12_feed_7 : decode cX12_feed 7 = .ok (.iadd, 1) := by decide +kernel
theorem dX12_feed_8 : decode cX12_feed 8 = .ok (.sipush 700, 3) := by decide +kernel
theorem dX12_feed_11 : decode cX12_feed 11 = .ok (.if_icmp .gt 7, 3) := by decide +kernel
theorem dX12_feed_14 : decode cX12_feed 14 = .ok (.iconst 1, 1) := by decide +kernel
theorem dX12_feed_15 : decode cX12_feed 15 = .ok (.goto 4, 3) := by decide +kernel
theorem dX12_feed_18 : decode cX12_feed 18 = .ok (.iconst 0, 1) := by decide +kernel
theorem dX12_feed_19 : decode cX12_feed 19 = .ok (.invokevirtual 98, 3) := by decide +kernel
theorem dX12_feed_22 : decode cX12_feed 22 = .ok (.ifCond .ne 5, 3) := by decide +kernel
theorem dX12_feed_25 : decode cX12_feed 25 = .ok (.iconst 0, 1) := by decide +kernel
theorem dX12_feed_26 : decode cX12_feed 26 = .ok (.ireturn, 1) := by decide +kernel
theorem dX12_feed_27 : decode cX12_feed 27 = .ok (.aload_n 0, 1) := by decide +kernel
theorem dX12_feed_28 : decode cX12_feed 28 = .ok (.iload_n 1, 1) := by decide +kernel
theorem dX12_feed_29 : decode cX12_feed 29 = .ok (.invokevirtual 102, 3) := by decide +kernel
theorem dX12_feed_32 : decode cX12_feed 32 = .ok (.aload_n 0, 1) := by decide +kernel
theorem dX12_feed_33 : decode cX12_feed 33 = .ok (.iload_n 2, 1) := by decide +kernel
theorem dX12_feed_34 : decode cX12_feed 34 = .ok (.invokevirtual 102, 3) := by decide +kernel
theorem dX12_feed_37 : decode cX12_feed 37 = .ok (.aload_n 0, 1) := by decide +kernel
theorem dX12_feed_38 : decode cX12_feed 38 = .ok (.iload_n 3, 1) := by decide +kernel
theorem dX12_feed_39 : decode cX12_feed 39 = .ok (.invokevirtual 102, 3) := by decide +kernel
theorem dX12_feed_42 : decode cX12_feed 42 = .ok (.aload_n 0, 1) := by decide +kernel
theorem dX12_feed_43 : decode cX12_feed 43 = .ok (.iload 4, 2) := by decide +kernel
theorem dX12_feed_45 : decode cX12_feed 45 = .ok (.invokevirtual 102, 3) := by decide +kernel
theorem dX12_feed_48 : decode cX12_feed 48 = .ok (.aload_n 0, 1) := by decide +kernel
theorem dX12_feed_49 : decode cX12_feed 49 = .ok (.iload 5, 2) := by decide +kernel
theorem dX12_feed_51 : decode cX12_feed 51 = .ok (.invokevirtual 102, 3) := by decide +kernel
theorem dX12_feed_54 : decode cX12_feed 54 = .ok (.aload_n 0, 1) := by decide +kernel
theorem dX12_feed_55 : decode cX12_feed 55 = .ok (.getfield 95, 3) := by decide +kernel
theorem dX12_feed_58 : decode cX12_feed 58 = .ok (.ireturn, 1) := by decide +kernel
theorem dX12_four_0 : decode cX12_four 0 = .ok (.bipush 24, 2) := by decide +kernel
theorem dX12_four_2 : decode cX12_four 2 = .ok (.istore_n 2, 1) := by decide +kernel
theorem dX12_four_3 : decode cX12_four 3 = .ok (.iload_n 2, 1) := by decide +kernel
theorem dX12_four_4 : decode cX12_four 4 = .ok (.ifCond .lt 35, 3) := by decide +kernel
theorem dX12_four_7 : decode cX12_four 7 = .ok (.aload_n 0, 1) := by decide +kernel
theorem dX12_four_8 : decode cX12_four 8 = .ok (.getfield 7, 3) := by decide +kernel
theorem dX12_four_11 : decode cX12_four 11 = .ok (.aload_n 0, 1) := by decide +kernel
theorem dX12_four_12 : decode cX12_four 12 = .ok (.getfield 95, 3) := by decide +kernel
theorem dX12_four_15 : decode cX12_four 15 = .ok (.iload_n 1, 1) := by decide +kernel
theorem dX12_four_16 : decode cX12_four 16 = .ok (.iload_n 2, 1) := by decide +kernel
theorem dX12_four_17 : decode cX12_four 17 = .ok (.ishr, 1) := by decide +kernel
theorem dX12_four_18 : decode cX12_four 18 = .ok (.sipush 255, 3) := by decide +kernel
theorem dX12_four_21 : decode cX12_four 21 = .ok (.iand, 1) := by decide +kernel
theorem dX12_four_22 : decode cX12_four 22 = .ok (.iastore, 1) := by decide +kernel
theorem dX12_four_23 : decode cX12_four 23 = .ok (.aload_n 0, 1) := by decide +kernel
theorem dX12_four_24 : decode cX12_four 24 = .ok (.dup, 1) := by decide +kernel
theorem dX12_four_25 : decode cX12_four 25 = .ok (.getfield 95, 3) := by decide +kernel
theorem dX12_four_28 : decode cX12_four 28 = .ok (.iconst 1, 1) := by decide +kernel
theorem dX12_four_29 : decode cX12_four 29 = .ok (.iadd, 1) := by decide +kernel
theorem dX12_four_30 : decode cX12_four 30 = .ok (.putfield 95, 3) := by decide +kernel
theorem dX12_four_33 : decode cX12_four 33 = .ok (.iinc 2 (-8), 3) := by decide +kernel
theorem dX12_four_36 : decode cX12_four 36 = .ok (.goto (-33), 3) := by decide +kernel
theorem dX12_four_39 : decode cX12_four 39 = .ok (.return_, 1) := by decide +kernel
theorem dX12_truncate_0 : decode cX12_truncate 0 = .ok (.aload_n 0, 1) := by decide +kernel
theorem dX12_truncate_1 : decode cX12_truncate 1 = .ok (.iload_n 1, 1) := by decide +kernel
theorem dX12_truncate_2 : decode cX12_truncate 2 = .ok (.i2l, 1) := by decide +kernel
theorem dX12_truncate_3 : decode cX12_truncate 3 = .ok (.lconst 0, 1) := by decide +kernel
theorem dX12_truncate_4 : decode cX12_truncate 4 = .ok (.aload_n 0, 1) := by decide +kernel
theorem dX12_truncate_5 : decode cX12_truncate 5 = .ok (.getfield 95, 3) := by decide +kernel
theorem dX12_truncate_8 : decode cX12_truncate 8 = .ok (.i2l, 1) := by decide +kernel
theorem dX12_truncate_9 : decode cX12_truncate 9 = .ok (.invokestatic 106, 3) := by decide +kernel
theorem dX12_truncate_12 : decode cX12_truncate 12 = .ok (.invokevirtual 98, 3) := by decide +kernel
theorem dX12_truncate_15 : decode cX12_truncate 15 = .ok (.ifCond .ne 5, 3) := by decide +kernel
theorem dX12_truncate_18 : decode cX12_truncate 18 = .ok (.iconst 0, 1) := by decide +kernel
theorem dX12_truncate_19 : decode cX12_truncate 19 = .ok (.ireturn, 1) := by decide +kernel
theorem dX12_truncate_20 : decode cX12_truncate 20 = .ok (.aload_n 0, 1) := by decide +kernel
theorem dX12_truncate_21 : decode cX12_truncate 21 = .ok (.iload_n 1, 1) := by decide +kernel
theorem dX12_truncate_22 : decode cX12_truncate 22 = .ok (.putfield 95, 3) := by decide +kernel
theorem dX12_truncate_25 : decode cX12_truncate 25 = .ok (.iload_n 1, 1) := by decide +kernel
theorem dX12_truncate_26 : decode cX12_truncate 26 = .ok (.ireturn, 1) := by decide +kernel
theorem dX12_here_0 : decode cX12_here 0 = .ok (.aload_n 0, 1) := by decide +kernel
theorem dX12_here_1 : decode cX12_here 1 = .ok (.getfield 110, 3) := by decide +kernel
theorem dX12_here_4 : decode cX12_here 4 = .ok (.iload_n 1, 1) := by decide +kernel
theorem dX12_here_5 : decode cX12_here 5 = .ok (.iadd, 1) := by decide +kernel
theorem dX12_here_6 : decode cX12_here 6 = .ok (.aload_n 0, 1) := by decide +kernel
theorem dX12_here_7 : decode cX12_here 7 = .ok (.getfield 113, 3) := by decide +kernel
theorem dX12_here_10 : decode cX12_here 10 = .ok (.if_icmp .ge 17, 3) := by decide +kernel
theorem dX12_here_13 : decode cX12_here 13 = .ok (.aload_n 0, 1) := by decide +kernel
theorem dX12_here_14 : decode cX12_here 14 = .ok (.getfield 7, 3) := by decide +kernel
theorem dX12_here_17 : decode cX12_here 17 = .ok (.aload_n 0, 1) := by decide +kernel
theorem dX12_here_18 : decode cX12_here 18 = .ok (.getfield 110, 3) := by decide +kernel
theorem dX12_here_21 : decode cX12_here 21 = .ok (.iload_n 1, 1) := by decide +kernel
theorem dX12_here_22 : decode cX12_here 22 = .ok (.iadd, 1) := by decide +kernel
theorem dX12_here_23 : decode cX12_here 23 = .ok (.iaload, 1) := by decide +kernel
theorem dX12_here_24 : decode cX12_here 24 = .ok (.goto 4, 3) := by decide +kernel
theorem dX12_here_27 : decode cX12_here 27 = .ok (.iconst (-1), 1) := by decide +kernel
theorem dX12_here_28 : decode cX12_here 28 = .ok (.ireturn, 1) := by decide +kernel
theorem dX12_isLetter_0 : decode cX12_isLetter 0 = .ok (.iload_n 0, 1) := by decide +kernel
theorem dX12_isLetter_1 : decode cX12_isLetter 1 = .ok (.bipush 97, 2) := by decide +kernel
theorem dX12_isLetter_3 : decode cX12_isLetter 3 = .ok (.if_icmp .lt 13, 3) := by decide +kernel
theorem dX12_isLetter_6 : decode cX12_isLetter 6 = .ok (.iload_n 0, 1) := by decide +kernel
theorem dX12_isLetter_7 : decode cX12_isLetter 7 = .ok (.bipush 122, 2) := by decide +kernel
theorem dX12_isLetter_9 : decode cX12_isLetter 9 = .ok (.if_icmp .gt 7, 3) := by decide +kernel
theorem dX12_isLetter_12 : decode cX12_isLetter 12 = .ok (.iconst 1, 1) := by decide +kernel
theorem dX12_isLetter_13 : decode cX12_isLetter 13 = .ok (.goto 4, 3) := by decide +kernel
theorem dX12_isLetter_16 : decode cX12_isLetter 16 = .ok (.iconst 0, 1) := by decide +kernel
theorem dX12_isLetter_17 : decode cX12_isLetter 17 = .ok (.ireturn, 1) := by decide +kernel
theorem dX12_isDigit_0 : decode cX12_isDigit 0 = .ok (.iload_n 0, 1) := by decide +kernel
theorem dX12_isDigit_1 : decode cX12_isDigit 1 = .ok (.bipush 48, 2) := by decide +kernel
theorem dX12_isDigit_3 : decode cX12_isDigit 3 = .ok (.if_icmp .lt 13, 3) := by decide +kernel
theorem dX12_isDigit_6 : decode cX12_isDigit 6 = .ok (.iload_n 0, 1) := by decide +kernel
theorem dX12_isDigit_7 : decode cX12_isDigit 7 = .ok (.bipush 57, 2) := by decide +kernel
theorem dX12_isDigit_9 : decode cX12_isDigit 9 = .ok (.if_icmp .gt 7, 3) := by decide +kernel
theorem dX12_isDigit_12 : decode cX12_isDigit 12 = .ok (.iconst 1, 1) := by decide +kernel
theorem dX12_isDigit_13 : decode cX12_isDigit 13 = .ok (.goto 4, 3) := by decide +kernel
theorem dX12_isDigit_16 : decode cX12_isDigit 16 = .ok (.iconst 0, 1) := by decide +kernel
theorem dX12_isDigit_17 : decode cX12_isDigit 17 = .ok (.ireturn, 1) := by decide +kernel
theorem dX12_goOn_0 : decode cX12_goOn 0 = .ok (.aload_n 0, 1) := by decide +kernel
theorem dX12_goOn_1 : decode cX12_goOn 1 = .ok (.iconst 0, 1) := by decide +kernel
theorem dX12_goOn_2 : decode cX12_goOn 2 = .ok (.invokevirtual 116, 3) := by decide +kernel
theorem dX12_goOn_5 : decode cX12_goOn 5 = .ok (.bipush 32, 2) := by decide +kernel
theorem dX12_goOn_7 : decode cX12_goOn 7 = .ok (.if_icmp .eq 13, 3) := by decide +kernel
theorem dX12_goOn_10 : decode cX12_goOn 10 = .ok (.aload_n 0, 1) := by decide +kernel
theorem dX12_goOn_11 : decode cX12_goOn 11 = .ok (.iconst 0, 1) := by decide +kernel
theorem dX12_goOn_12 : decode cX12_goOn 12 = .ok (.invokevirtual 116, 3) := by decide +kernel
theorem dX12_goOn_15 : decode cX12_goOn 15 = .ok (.bipush 10, 2) := by decide +kernel
theorem dX12_goOn_17 : decode cX12_goOn 17 = .ok (.if_icmp .ne 16, 3) := by decide +kernel
theorem dX12_goOn_20 : decode cX12_goOn 20 = .ok (.aload_n 0, 1) := by decide +kernel
theorem dX12_goOn_21 : decode cX12_goOn 21 = .ok (.dup, 1) := by decide +kernel
theorem dX12_goOn_22 : decode cX12_goOn 22 = .ok (.getfield 110, 3) := by decide +kernel
theorem dX12_goOn_25 : decode cX12_goOn 25 = .ok (.iconst 1, 1) := by decide +kernel
theorem dX12_goOn_26 : decode cX12_goOn 26 = .ok (.iadd, 1) := by decide +kernel
theorem dX12_goOn_27 : decode cX12_goOn 27 = .ok (.putfield 110, 3) := by decide +kernel
theorem dX12_goOn_30 : decode cX12_goOn 30 = .ok (.goto (-30), 3) := by decide +kernel
theorem dX12_goOn_33 : decode cX12_goOn 33 = .ok (.aload_n 0, 1) := by decide +kernel
theorem dX12_goOn_34 : decode cX12_goOn 34 = .ok (.aload_n 0, 1) := by decide +kernel
theorem dX12_goOn_35 : decode cX12_goOn 35 = .ok (.getfield 110, 3) := by decide +kernel
theorem dX12_goOn_38 : decode cX12_goOn 38 = .ok (.putfield 120, 3) := by decide +kernel
theorem dX12_goOn_41 : decode cX12_goOn 41 = .ok (.aload_n 0, 1) := by decide +kernel
theorem dX12_goOn_42 : decode cX12_goOn 42 = .ok (.lconst 0, 1) := by decide +kernel
theorem dX12_goOn_43 : decode cX12_goOn 43 = .ok (.putfield 123, 3) := by decide +kernel
theorem dX12_goOn_46 : decode cX12_goOn 46 = .ok (.aload_n 0, 1) := by decide +kernel
theorem dX12_goOn_47 : decode cX12_goOn 47 = .ok (.iconst 0, 1) := by decide +kernel
theorem dX12_goOn_48 : decode cX12_goOn 48 = .ok (.putfield 127, 3) := by decide +kernel
theorem dX12_goOn_51 : decode cX12_goOn 51 = .ok (.aload_n 0, 1) := by decide +kernel
theorem dX12_goOn_52 : decode cX12_goOn 52 = .ok (.iconst 0, 1) := by decide +kernel
theorem dX12_goOn_53 : decode cX12_goOn 53 = .ok (.invokevirtual 116, 3) := by decide +kernel
theorem dX12_goOn_56 : decode cX12_goOn 56 = .ok (.istore_n 1, 1) := by decide +kernel
theorem dX12_goOn_57 : decode cX12_goOn 57 = .ok (.iconst 0, 1) := by decide +kernel
theorem dX12_goOn_58 : decode cX12_goOn 58 = .ok (.istore_n 2, 1) := by decide +kernel
theorem dX12_goOn_59 : decode cX12_goOn 59 = .ok (.iload_n 1, 1) := by decide +kernel
theorem dX12_goOn_60 : decode cX12_goOn 60 = .ok (.ifCond .ge 9, 3) := by decide +kernel
theorem dX12_goOn_63 : decode cX12_goOn 63 = .ok (.aload_n 0, 1) := by decide +kernel
theorem dX12_goOn_64 : decode cX12_goOn 64 = .ok (.iconst 0, 1) := by decide +kernel
theorem dX12_goOn_65 : decode cX12_goOn 65 = .ok (.putfield 130, 3) := by decide +kernel
theorem dX12_goOn_68 : decode cX12_goOn 68 = .ok (.return_, 1) := by decide +kernel
theorem dX12_goOn_69 : decode cX12_goOn 69 = .ok (.iload_n 1, 1) := by decide +kernel
theorem dX12_goOn_70 : decode cX12_goOn 70 = .ok (.invokestatic 133, 3) := by decide +kernel
theorem dX12_goOn_73 : decode cX12_goOn 73 = .ok (.ifCond .eq 66, 3) := by decide +kernel
theorem dX12_goOn_76 : decode cX12_goOn 76 = .ok (.aload_n 0, 1) := by decide +kernel
theorem dX12_goOn_77 : decode cX12_goOn 77 = .ok (.iload_n 2, 1) := by decide +kernel
theorem dX12_goOn_78 : decode cX12_goOn 78 = .ok (.invokevirtual 116, 3) := by decide +kernel
theorem dX12_goOn_81 : decode cX12_goOn 81 = .ok (.invokestatic 133, 3) := by decide +kernel
theorem dX12_goOn_84 : decode cX12_goOn 84 = .ok (.ifCond .eq 37, 3) := by decide +kernel
theorem dX12_goOn_87 : decode cX12_goOn 87 = .ok (.iload_n 2, 1) := by decide +kernel
theorem dX12_goOn_88 : decode cX12_goOn 88 = .ok (.bipush 8, 2) := by decide +kernel
theorem dX12_goOn_90 : decode cX12_goOn 90 = .ok (.if_icmp .ge 25, 3) := by decide +kernel
theorem dX12_goOn_93 : decode cX12_goOn 93 = .ok (.aload_n 0, 1) := by decide +kernel
theorem dX12_goOn_94 : decode cX12_goOn 94 = .ok (.aload_n 0, 1) := by decide +kernel
theorem dX12_goOn_95 : decode cX12_goOn 95 = .ok (.getfield 123, 3) := by decide +kernel
theorem dX12_goOn_98 : decode cX12_goOn 98 = .ok (.iconst 5, 1) := by decide +kernel
theorem dX12_goOn_99 : decode cX12_goOn 99 = .ok (.lshl, 1) := by decide +kernel
theorem dX12_goOn_100 : decode cX12_goOn 100 = .ok (.aload_n 0, 1) := by decide +kernel
theorem dX12_goOn_101 : decode cX12_goOn 101 = .ok (.iload_n 2, 1) := by decide +kernel
theorem dX12_goOn_102 : decode cX12_goOn 102 = .ok (.invokevirtual 116, 3) := by decide +kernel
theorem dX12_goOn_105 : decode cX12_goOn 105 = .ok (.bipush 97, 2) := by decide +kernel
theorem dX12_goOn_107 : decode cX12_goOn 107 = .ok (.isub, 1) := by decide +kernel
theorem dX12_goOn_108 : decode cX12_goOn 108 = .ok (.iconst 1, 1) := by decide +kernel
theorem dX12_goOn_109 : decode cX12_goOn 109 = .ok (.iadd, 1) := by decide +kernel
theorem dX12_goOn_110 : decode cX12_goOn 110 = .ok (.i2l, 1) := by decide +kernel
theorem dX12_goOn_111 : decode cX12_goOn 111 = .ok (.lor, 1) := by decide +kernel
theorem dX12_goOn_112 : decode cX12_goOn 112 = .ok (.putfield 123, 3) := by decide +kernel
theorem dX12_goOn_115 : decode cX12_goOn 115 = .ok (.iinc 2 1, 3) := by decide +kernel
theorem dX12_goOn_118 : decode cX12_goOn 118 = .ok (.goto (-42), 3) := by decide +kernel
theorem dX12_goOn_121 : decode cX12_goOn 121 = .ok (.aload_n 0, 1) := by decide +kernel
theorem dX12_goOn_122 : decode cX12_goOn 122 = .ok (.iload_n 2, 1) := by decide +kernel
theorem dX12_goOn_123 : decode cX12_goOn 123 = .ok (.bipush 8, 2) := by decide +kernel
theorem dX12_goOn_125 : decode cX12_goOn 125 = .ok (.if_icmp .le 7, 3) := by decide +kernel
theorem dX12_goOn_128 : decode cX12_goOn 128 = .ok (.iconst 4, 1) := by decide +kernel
theorem dX12_goOn_129 : decode cX12_goOn 129 = .ok (.goto 4, 3) := by decide +kernel
theorem dX12_goOn_132 : decode cX12_goOn 132 = .ok (.iconst 1, 1) := by decide +kernel
theorem dX12_goOn_133 : decode cX12_goOn 133 = .ok (.putfield 130, 3) := by decide +kernel
theorem dX12_goOn_136 : decode cX12_goOn 136 = .ok (.goto 103, 3) := by decide +kernel
theorem dX12_goOn_139 : decode cX12_goOn 139 = .ok (.iload_n 1, 1) := by decide +kernel
theorem dX12_goOn_140 : decode cX12_goOn 140 = .ok (.invokestatic 137, 3) := by decide +kernel
theorem dX12_goOn_143 : decode cX12_goOn 143 = .ok (.ifCond .eq 62, 3) := by decide +kernel
theorem dX12_goOn_146 : decode cX12_goOn 146 = .ok (.aload_n 0, 1) := by decide +kernel
theorem dX12_goOn_147 : decode cX12_goOn 147 = .ok (.iload_n 2, 1) := by decide +kernel
theorem dX12_goOn_148 : decode cX12_goOn 148 = .ok (.invokevirtual 116, 3) := by decide +kernel
theorem dX12_goOn_151 : decode cX12_goOn 151 = .ok (.invokestatic 137, 3) := by decide +kernel
theorem dX12_goOn_154 : decode cX12_goOn 154 = .ok (.ifCond .eq 34, 3) := by decide +kernel
theorem dX12_goOn_157 : decode cX12_goOn 157 = .ok (.iload_n 2, 1) := by decide +kernel
theorem dX12_goOn_158 : decode cX12_goOn 158 = .ok (.iconst 3, 1) := by decide +kernel
theorem dX12_goOn_159 : decode cX12_goOn 159 = .ok (.if_icmp .ge 23, 3) := by decide +kernel
theorem dX12_goOn_162 : decode cX12_goOn 162 = .ok (.aload_n 0, 1) := by decide +kernel
theorem dX12_goOn_163 : decode cX12_goOn 163 = .ok (.bipush 10, 2) := by decide +kernel
theorem dX12_goOn_165 : decode cX12_goOn 165 = .ok (.aload_n 0, 1) := by decide +kernel
theorem dX12_goOn_166 : decode cX12_goOn 166 = .ok (.getfield 127, 3) := by decide +kernel
theorem dX12_goOn_169 : decode cX12_goOn 169 = .ok (.imul, 1) := by decide +kernel
theorem dX12_goOn_170 : decode cX12_goOn 170 = .ok (.aload_n 0, 1) := by decide +kernel
theorem dX12_goOn_171 : decode cX12_goOn 171 = .ok (.iload_n 2, 1) := by decide +kernel
theorem dX12_goOn_172 : decode cX12_goOn 172 = .ok (.invokevirtual 116, 3) := by decide +kernel
theorem dX12_goOn_175 : decode cX12_goOn 175 = .ok (.iadd, 1) := by decide +kernel
theorem dX12_goOn_176 : decode cX12_goOn 176 = .ok (.bipush 48, 2) := by decide +kernel
theorem dX12_goOn_178 : decode cX12_goOn 178 = .ok (.isub, 1) := by decide +kernel
theorem dX12_goOn_179 : decode cX12_goOn 179 = .ok (.putfield 127, 3) := by decide +kernel
theorem dX12_goOn_182 : decode cX12_goOn 182 = .ok (.iinc 2 1, 3) := by decide +kernel
theorem dX12_goOn_185 : decode cX12_goOn 185 = .ok (.goto (-39), 3) := by decide +kernel
theorem dX12_goOn_188 : decode cX12_goOn 188 = .ok (.aload_n 0, 1) := by decide +kernel
theorem dX12_goOn_189 : decode cX12_goOn 189 = .ok (.iload_n 2, 1) := by decide +kernel
theorem dX12_goOn_190 : decode cX12_goOn 190 = .ok (.iconst 3, 1) := by decide +kernel
theorem dX12_goOn_191 : decode cX12_goOn 191 = .ok (.if_icmp .le 7, 3) := by decide +kernel
theorem dX12_goOn_194 : decode cX12_goOn 194 = .ok (.iconst 4, 1) := by decide +kernel
theorem dX12_goOn_195 : decode cX12_goOn 195 = .ok (.goto 4, 3) := by decide +kernel
theorem dX12_goOn_198 : decode cX12_goOn 198 = .ok (.iconst 2, 1) := by decide +kernel
theorem dX12_goOn_199 : decode cX12_goOn 199 = .ok (.putfield 130, 3) := by decide +kernel
theorem dX12_goOn_202 : decode cX12_goOn 202 = .ok (.goto 37, 3) := by decide +kernel
theorem dX12_goOn_205 : decode cX12_goOn 205 = .ok (.aload_n 0, 1) := by decide +kernel
theorem dX12_goOn_206 : decode cX12_goOn 206 = .ok (.iload_n 1, 1) := by decide +kernel
theorem dX12_goOn_207 : decode cX12_goOn 207 = .ok (.bipush 59, 2) := by decide +kernel
theorem dX12_goOn_209 : decode cX12_goOn 209 = .ok (.if_icmp .eq 15, 3) := by decide +kernel
theorem dX12_goOn_212 : decode cX12_goOn 212 = .ok (.iload_n 1, 1) := by decide +kernel
theorem dX12_goOn_213 : decode cX12_goOn 213 = .ok (.bipush 40, 2) := by decide +kernel
theorem dX12_goOn_215 : decode cX12_goOn 215 = .ok (.if_icmp .eq 9, 3) := by decide +kernel
theorem dX12_goOn_218 : decode cX12_goOn 218 = .ok (.iload_n 1, 1) := by decide +kernel
theorem dX12_goOn_219 : decode cX12_goOn 219 = .ok (.bipush 41, 2) := by decide +kernel
theorem dX12_goOn_221 : decode cX12_goOn 221 = .ok (.if_icmp .ne 7, 3) := by decide +kernel
theorem dX12_goOn_224 : decode cX12_goOn 224 = .ok (.iconst 3, 1) := by decide +kernel
theorem dX12_goOn_225 : decode cX12_goOn 225 = .ok (.goto 4, 3) := by decide +kernel
theorem dX12_goOn_228 : decode cX12_goOn 228 = .ok (.iconst 4, 1) := by decide +kernel
theorem dX12_goOn_229 : decode cX12_goOn 229 = .ok (.putfield 130, 3) := by decide +kernel
theorem dX12_goOn_232 : decode cX12_goOn 232 = .ok (.aload_n 0, 1) := by decide +kernel
theorem dX12_goOn_233 : decode cX12_goOn 233 = .ok (.iload_n 1, 1) := by decide +kernel
theorem dX12_goOn_234 : decode cX12_goOn 234 = .ok (.putfield 127, 3) := by decide +kernel
theorem dX12_goOn_237 : decode cX12_goOn 237 = .ok (.iconst 1, 1) := by decide +kernel
theorem dX12_goOn_238 : decode cX12_goOn 238 = .ok (.istore_n 2, 1) := by decide +kernel
theorem dX12_goOn_239 : decode cX12_goOn 239 = .ok (.aload_n 0, 1) := by decide +kernel
theorem dX12_goOn_240 : decode cX12_goOn 240 = .ok (.dup, 1) := by decide +kernel
theorem dX12_goOn_241 : decode cX12_goOn 241 = .ok (.getfield 110, 3) := by decide +kernel
theorem dX12_goOn_244 : decode cX12_goOn 244 = .ok (.iload_n 2, 1) := by decide +kernel
theorem dX12_goOn_245 : decode cX12_goOn 245 = .ok (.iadd, 1) := by decide +kernel
theorem dX12_goOn_246 : decode cX12_goOn 246 = .ok (.putfield 110, 3) := by decide +kernel
theorem dX12_goOn_249 : decode cX12_goOn 249 = .ok (.return_, 1) := by decide +kernel
theorem dX12_wrong_0 : decode cX12_wrong 0 = .ok (.aload_n 0, 1) := by decide +kernel
theorem dX12_wrong_1 : decode cX12_wrong 1 = .ok (.getfield 140, 3) := by decide +kernel
theorem dX12_wrong_4 : decode cX12_wrong 4 = .ok (.ifCond .le 4, 3) := by decide +kernel
theorem dX12_wrong_7 : decode cX12_wrong 7 = .ok (.return_, 1) := by decide +kernel
theorem dX12_wrong_8 : decode cX12_wrong 8 = .ok (.aload_n 0, 1) := by decide +kernel
theorem dX12_wrong_9 : decode cX12_wrong 9 = .ok (.aload_n 0, 1) := by decide +kernel
theorem dX12_wrong_10 : decode cX12_wrong 10 = .ok (.getfield 130, 3) := by decide +kernel
theorem dX12_wrong_13 : decode cX12_wrong 13 = .ok (.iconst 4, 1) := by decide +kernel
theorem dX12_wrong_14 : decode cX12_wrong 14 = .ok (.if_icmp .ne 7, 3) := by decide +kernel
theorem dX12_wrong_17 : decode cX12_wrong 17 = .ok (.iconst 1, 1) := by decide +kernel
theorem dX12_wrong_18 : decode cX12_wrong 18 = .ok (.goto 4, 3) := by decide +kernel
theorem dX12_wrong_21 : decode cX12_wrong 21 = .ok (.iload_n 1, 1) := by decide +kernel
theorem dX12_wrong_22 : decode cX12_wrong 22 = .ok (.putfield 140, 3) := by decide +kernel
theorem dX12_wrong_25 : decode cX12_wrong 25 = .ok (.aload_n 0, 1) := by decide +kernel
theorem dX12_wrong_26 : decode cX12_wrong 26 = .ok (.aload_n 0, 1) := by decide +kernel
theorem dX12_wrong_27 : decode cX12_wrong 27 = .ok (.getfield 120, 3) := by decide +kernel
theorem dX12_wrong_30 : decode cX12_wrong 30 = .ok (.putfield 13, 3) := by decide +kernel
theorem dX12_wrong_33 : decode cX12_wrong 33 = .ok (.return_, 1) := by decide +kernel
theorem dX12_isGood_0 : decode cX12_isGood 0 = .ok (.aload_n 0, 1) := by decide +kernel
theorem dX12_isGood_1 : decode cX12_isGood 1 = .ok (.getfield 140, 3) := by decide +kernel
theorem dX12_isGood_4 : decode cX12_isGood 4 = .ok (.ifCond .ne 7, 3) := by decide +kernel
theorem dX12_isGood_7 : decode cX12_isGood 7 = .ok (.iconst 1, 1) := by decide +kernel
theorem dX12_isGood_8 : decode cX12_isGood 8 = .ok (.goto 4, 3) := by decide +kernel
theorem dX12_isGood_11 : decode cX12_isGood 11 = .ok (.iconst 0, 1) := by decide +kernel
theorem dX12_isGood_12 : decode cX12_isGood 12 = .ok (.ireturn, 1) := by decide +kernel
theorem dX12_isWord_0 : decode cX12_isWord 0 = .ok (.aload_n 0, 1) := by decide +kernel
theorem dX12_isWord_1 : decode cX12_isWord 1 = .ok (.getfield 140, 3) := by decide +kernel
theorem dX12_isWord_4 : decode cX12_isWord 4 = .ok (.ifCond .ne 24, 3) := by decide +kernel
theorem dX12_isWord_7 : decode cX12_isWord 7 = .ok (.aload_n 0, 1) := by decide +kernel
theorem dX12_isWord_8 : decode cX12_isWord 8 = .ok (.getfield 130, 3) := by decide +kernel
theorem dX12_isWord_11 : decode cX12_isWord 11 = .ok (.iconst 1, 1) := by decide +kernel
theorem dX12_isWord_12 : decode cX12_isWord 12 = .ok (.if_icmp .ne 16, 3) := by decide +kernel
theorem dX12_isWord_15 : decode cX12_isWord 15 = .ok (.aload_n 0, 1) := by decide +kernel
theorem dX12_isWord_16 : decode cX12_isWord 16 = .ok (.getfield 123, 3) := by decide +kernel
theorem dX12_isWord_19 : decode cX12_isWord 19 = .ok (.lload_n 1, 1) := by decide +kernel
theorem dX12_isWord_20 : decode cX12_isWord 20 = .ok (.lcmp, 1) := by decide +kernel
theorem dX12_isWord_21 : decode cX12_isWord 21 = .ok (.ifCond .ne 7, 3) := by decide +kernel
theorem dX12_isWord_24 : decode cX12_isWord 24 = .ok (.iconst 1, 1) := by decide +kernel
theorem dX12_isWord_25 : decode cX12_isWord 25 = .ok (.goto 4, 3) := by decide +kernel
theorem dX12_isWord_28 : decode cX12_isWord 28 = .ok (.iconst 0, 1) := by decide +kernel
theorem dX12_isWord_29 : decode cX12_isWord 29 = .ok (.ireturn, 1) := by decide +kernel
theorem dX12_isSign_0 : decode cX12_isSign 0 = .ok (.aload_n 0, 1) := by decide +kernel
theorem dX12_isSign_1 : decode cX12_isSign 1 = .ok (.getfield 140, 3) := by decide +kernel
theorem dX12_isSign_4 : decode cX12_isSign 4 = .ok (.ifCond .ne 23, 3) := by decide +kernel
theorem dX12_isSign_7 : decode cX12_isSign 7 = .ok (.aload_n 0, 1) := by decide +kernel
theorem dX12_isSign_8 : decode cX12_isSign 8 = .ok (.getfield 130, 3) := by decide +kernel
theorem dX12_isSign_11 : decode cX12_isSign 11 = .ok (.iconst 3, 1) := by decide +kernel
theorem dX12_isSign_12 : decode cX12_isSign 12 = .ok (.if_icmp .ne 15, 3) := by decide +kernel
theorem dX12_isSign_15 : decode cX12_isSign 15 = .ok (.aload_n 0, 1) := by decide +kernel
theorem dX12_isSign_16 : decode cX12_isSign 16 = .ok (.getfield 127, 3) := by decide +kernel
theorem dX12_isSign_19 : decode cX12_isSign 19 = .ok (.iload_n 1, 1) := by decide +kernel
theorem dX12_isSign_20 : decode cX12_isSign 20 = .ok (.if_icmp .ne 7, 3) := by decide +kernel
theorem dX12_isSign_23 : decode cX12_isSign 23 = .ok (.iconst 1, 1) := by decide +kernel
theorem dX12_isSign_24 : decode cX12_isSign 24 = .ok (.goto 4, 3) := by decide +kernel
theorem dX12_isSign_27 : decode cX12_isSign 27 = .ok (.iconst 0, 1) := by decide +kernel
theorem dX12_isSign_28 : decode cX12_isSign 28 = .ok (.ireturn, 1) := by decide +kernel
theorem dX12_mustSign_0 : decode cX12_mustSign 0 = .ok (.aload_n 0, 1) := by decide +kernel
theorem dX12_mustSign_1 : decode cX12_mustSign 1 = .ok (.invokevirtual 143, 3) := by decide +kernel
theorem dX12_mustSign_4 : decode cX12_mustSign 4 = .ok (.ifCond .eq 16, 3) := by decide +kernel
theorem dX12_mustSign_7 : decode cX12_mustSign 7 = .ok (.aload_n 0, 1) := by decide +kernel
theorem dX12_mustSign_8 : decode cX12_mustSign 8 = .ok (.iload_n 1, 1) := by decide +kernel
theorem dX12_mustSign_9 : decode cX12_mustSign 9 = .ok (.invokevirtual 147, 3) := by decide +kernel
theorem dX12_mustSign_12 : decode cX12_mustSign 12 = .ok (.ifCond .ne 8, 3) := by decide +kernel
theorem dX12_mustSign_15 : decode cX12_mustSign 15 = .ok (.aload_n 0, 1) := by decide +kernel
theorem dX12_mustSign_16 : decode cX12_mustSign 16 = .ok (.iconst 1, 1) := by decide +kernel
theorem dX12_mustSign_17 : decode cX12_mustSign 17 = .ok (.invokevirtual 150, 3) := by decide +kernel
theorem dX12_mustSign_20 : decode cX12_mustSign 20 = .ok (.aload_n 0, 1) := by decide +kernel
theorem dX12_mustSign_21 : decode cX12_mustSign 21 = .ok (.invokevirtual 143, 3) := by decide +kernel
theorem dX12_mustSign_24 : decode cX12_mustSign 24 = .ok (.ifCond .eq 7, 3) := by decide +kernel
theorem dX12_mustSign_27 : decode cX12_mustSign 27 = .ok (.aload_n 0, 1) := by decide +kernel
theorem dX12_mustSign_28 : decode cX12_mustSign 28 = .ok (.invokevirtual 153, 3) := by decide +kernel
theorem dX12_mustSign_31 : decode cX12_mustSign 31 = .ok (.return_, 1) := by decide +kernel
theorem dX12_mustWord_0 : decode cX12_mustWord 0 = .ok (.aload_n 0, 1) := by decide +kernel
theorem dX12_mustWord_1 : decode cX12_mustWord 1 = .ok (.invokevirtual 143, 3) := by decide +kernel
theorem dX12_mustWord_4 : decode cX12_mustWord 4 = .ok (.ifCond .eq 16, 3) := by decide +kernel
theorem dX12_mustWord_7 : decode cX12_mustWord 7 = .ok (.aload_n 0, 1) := by decide +kernel
theorem dX12_mustWord_8 : decode cX12_mustWord 8 = .ok (.lload_n 1, 1) := by decide +kernel
theorem dX12_mustWord_9 : decode cX12_mustWord 9 = .ok (.invokevirtual 156, 3) := by decide +kernel
theorem dX12_mustWord_12 : decode cX12_mustWord 12 = .ok (.ifCond .ne 8, 3) := by decide +kernel
theorem dX12_mustWord_15 : decode cX12_mustWord 15 = .ok (.aload_n 0, 1) := by decide +kernel
theorem dX12_mustWord_16 : decode cX12_mustWord 16 = .ok (.iconst 1, 1) := by decide +kernel
theorem dX12_mustWord_17 : decode cX12_mustWord 17 = .ok (.invokevirtual 150, 3) := by decide +kernel
theorem dX12_mustWord_20 : decode cX12_mustWord 20 = .ok (.aload_n 0, 1) := by decide +kernel
theorem dX12_mustWord_21 : decode cX12_mustWord 21 = .ok (.invokevirtual 143, 3) := by decide +kernel
theorem dX12_mustWord_24 : decode cX12_mustWord 24 = .ok (.ifCond .eq 7, 3) := by decide +kernel
theorem dX12_mustWord_27 : decode cX12_mustWord 27 = .ok (.aload_n 0, 1) := by decide +kernel
theorem dX12_mustWord_28 : decode cX12_mustWord 28 = .ok (.invokevirtual 153, 3) := by decide +kernel
theorem dX12_mustWord_31 : decode cX12_mustWord 31 = .ok (.return_, 1) := by decide +kernel
theorem dX12_seen_0 : decode cX12_seen 0 = .ok (.aload_n 0, 1) := by decide +kernel
theorem dX12_seen_1 : decode cX12_seen 1 = .ok (.invokevirtual 143, 3) := by decide +kernel
theorem dX12_seen_4 : decode cX12_seen 4 = .ok (.ifCond .eq 16, 3) := by decide +kernel
theorem dX12_seen_7 : decode cX12_seen 7 = .ok (.aload_n 0, 1) := by decide +kernel
theorem dX12_seen_8 : decode cX12_seen 8 = .ok (.getfield 130, 3) := by decide +kernel
theorem dX12_seen_11 : decode cX12_seen 11 = .ok (.iconst 2, 1) := by decide +kernel
theorem dX12_seen_12 : decode cX12_seen 12 = .ok (.if_icmp .eq 8, 3) := by decide +kernel
theorem dX12_seen_15 : decode cX12_seen 15 = .ok (.aload_n 0, 1) := by decide +kernel
theorem dX12_seen_16 : decode cX12_seen 16 = .ok (.iconst 1, 1) := by decide +kernel
theorem dX12_seen_17 : decode cX12_seen 17 = .ok (.invokevirtual 150, 3) := by decide +kernel
theorem dX12_seen_20 : decode cX12_seen 20 = .ok (.aload_n 0, 1) := by decide +kernel
theorem dX12_seen_21 : decode cX12_seen 21 = .ok (.invokevirtual 143, 3) := by decide +kernel
theorem dX12_seen_24 : decode cX12_seen 24 = .ok (.ifCond .eq 23, 3) := by decide +kernel
theorem dX12_seen_27 : decode cX12_seen 27 = .ok (.aload_n 0, 1) := by decide +kernel
theorem dX12_seen_28 : decode cX12_seen 28 = .ok (.getfield 127, 3) := by decide +kernel
theorem dX12_seen_31 : decode cX12_seen 31 = .ok (.i2l, 1) := by decide +kernel
theorem dX12_seen_32 : decode cX12_seen 32 = .ok (.iload_n 1, 1) := by decide +kernel
theorem dX12_seen_33 : decode cX12_seen 33 = .ok (.i2l, 1) := by decide +kernel
theorem dX12_seen_34 : decode cX12_seen 34 = .ok (.iload_n 2, 1) := by decide +kernel
theorem dX12_seen_35 : decode cX12_seen 35 = .ok (.i2l, 1) := by decide +kernel
theorem dX12_seen_36 : decode cX12_seen 36 = .ok (.invokestatic 106, 3) := by decide +kernel
theorem dX12_seen_39 : decode cX12_seen 39 = .ok (.ifCond .ne 8, 3) := by decide +kernel
theorem dX12_seen_42 : decode cX12_seen 42 = .ok (.aload_n 0, 1) := by decide +kernel
theorem dX12_seen_43 : decode cX12_seen 43 = .ok (.iconst 2, 1) := by decide +kernel
theorem dX12_seen_44 : decode cX12_seen 44 = .ok (.invokevirtual 150, 3) := by decide +kernel
theorem dX12_seen_47 : decode cX12_seen 47 = .ok (.aload_n 0, 1) := by decide +kernel
theorem dX12_seen_48 : decode cX12_seen 48 = .ok (.getfield 127, 3) := by decide +kernel
theorem dX12_seen_51 : decode cX12_seen 51 = .ok (.ireturn, 1) := by decide +kernel
theorem dX12_number_0 : decode cX12_number 0 = .ok (.aload_n 0, 1) := by decide +kernel
theorem dX12_number_1 : decode cX12_number 1 = .ok (.iload_n 1, 1) := by decide +kernel
theorem dX12_number_2 : decode cX12_number 2 = .ok (.iload_n 2, 1) := by decide +kernel
theorem dX12_number_3 : decode cX12_number 3 = .ok (.invokevirtual 160, 3) := by decide +kernel
theorem dX12_number_6 : decode cX12_number 6 = .ok (.istore_n 3, 1) := by decide +kernel
theorem dX12_number_7 : decode cX12_number 7 = .ok (.aload_n 0, 1) := by decide +kernel
theorem dX12_number_8 : decode cX12_number 8 = .ok (.invokevirtual 143, 3) := by decide +kernel
theorem dX12_number_11 : decode cX12_number 11 = .ok (.ifCond .eq 7, 3) := by decide +kernel
theorem dX12_number_14 : decode cX12_number 14 = .ok (.aload_n 0, 1) := by decide +kernel
theorem dX12_number_15 : decode cX12_number 15 = .ok (.invokevirtual 153, 3) := by decide +kernel
theorem dX12_number_18 : decode cX12_number 18 = .ok (.iload_n 3, 1) := by decide +kernel
theorem dX12_number_19 : decode cX12_number 19 = .ok (.ireturn, 1) := by decide +kernel
theorem dX12_beginsText_0 : decode cX12_beginsText 0 = .ok (.aload_n 0, 1) := by decide +kernel
theorem dX12_beginsText_1 : decode cX12_beginsText 1 = .ok (.aload_n 0, 1) := by decide +kernel
theorem dX12_beginsText_2 : decode cX12_beginsText 2 = .ok (.getfield 95, 3) := by decide +kernel
theorem dX12_beginsText_5 : decode cX12_beginsText 5 = .ok (.putfield 113, 3) := by decide +kernel
theorem dX12_beginsText_8 : decode cX12_beginsText 8 = .ok (.aload_n 0, 1) := by decide +kernel
theorem dX12_beginsText_9 : decode cX12_beginsText 9 = .ok (.iconst 0, 1) := by decide +kernel
theorem dX12_beginsText_10 : decode cX12_beginsText 10 = .ok (.putfield 95, 3) := by decide +kernel
theorem dX12_beginsText_13 : decode cX12_beginsText 13 = .ok (.aload_n 0, 1) := by decide +kernel
theorem dX12_beginsText_14 : decode cX12_beginsText 14 = .ok (.iconst 0, 1) := by decide +kernel
theorem dX12_beginsText_15 : decode cX12_beginsText 15 = .ok (.putfield 110, 3) := by decide +kernel
theorem dX12_beginsText_18 : decode cX12_beginsText 18 = .ok (.aload_n 0, 1) := by decide +kernel
theorem dX12_beginsText_19 : decode cX12_beginsText 19 = .ok (.iconst 0, 1) := by decide +kernel
theorem dX12_beginsText_20 : decode cX12_beginsText 20 = .ok (.putfield 140, 3) := by decide +kernel
theorem dX12_beginsText_23 : decode cX12_beginsText 23 = .ok (.aload_n 0, 1) := by decide +kernel
theorem dX12_beginsText_24 : decode cX12_beginsText 24 = .ok (.iconst (-1), 1) := by decide +kernel
theorem dX12_beginsText_25 : decode cX12_beginsText 25 = .ok (.putfield 13, 3) := by decide +kernel
theorem dX12_beginsText_28 : decode cX12_beginsText 28 = .ok (.aload_n 0, 1) := by decide +kernel
theorem dX12_beginsText_29 : decode cX12_beginsText 29 = .ok (.invokevirtual 153, 3) := by decide +kernel
theorem dX12_beginsText_32 : decode cX12_beginsText 32 = .ok (.return_, 1) := by decide +kernel
theorem dX12_endsText_0 : decode cX12_endsText 0 = .ok (.aload_n 0, 1) := by decide +kernel
theorem dX12_endsText_1 : decode cX12_endsText 1 = .ok (.aload_n 0, 1) := by decide +kernel
theorem dX12_endsText_2 : decode cX12_endsText 2 = .ok (.getfield 140, 3) := by decide +kernel
theorem dX12_endsText_5 : decode cX12_endsText 5 = .ok (.putfield 164, 3) := by decide +kernel
theorem dX12_endsText_8 : decode cX12_endsText 8 = .ok (.aload_n 0, 1) := by decide +kernel
theorem dX12_endsText_9 : decode cX12_endsText 9 = .ok (.aload_n 0, 1) := by decide +kernel
theorem dX12_endsText_10 : decode cX12_endsText 10 = .ok (.getfield 13, 3) := by decide +kernel
theorem dX12_endsText_13 : decode cX12_endsText 13 = .ok (.putfield 17, 3) := by decide +kernel
theorem dX12_endsText_16 : decode cX12_endsText 16 = .ok (.aload_n 0, 1) := by decide +kernel
theorem dX12_endsText_17 : decode cX12_endsText 17 = .ok (.aload_n 0, 1) := by decide +kernel
theorem dX12_endsText_18 : decode cX12_endsText 18 = .ok (.getfield 140, 3) := by decide +kernel
theorem dX12_endsText_21 : decode cX12_endsText 21 = .ok (.ifCond .ne 7, 3) := by decide +kernel
theorem dX12_endsText_24 : decode cX12_endsText 24 = .ok (.iconst 1, 1) := by decide +kernel
theorem dX12_endsText_25 : decode cX12_endsText 25 = .ok (.goto 4, 3) := by decide +kernel
theorem dX12_endsText_28 : decode cX12_endsText 28 = .ok (.iconst 0, 1) := by decide +kernel
theorem dX12_endsText_29 : decode cX12_endsText 29 = .ok (.invokevirtual 98, 3) := by decide +kernel
theorem dX12_endsText_32 : decode cX12_endsText 32 = .ok (.ireturn, 1) := by decide +kernel
theorem dX12_errorCode_0 : decode cX12_errorCode 0 = .ok (.aload_n 0, 1) := by decide +kernel
theorem dX12_errorCode_1 : decode cX12_errorCode 1 = .ok (.iconst 0, 1) := by decide +kernel
theorem dX12_errorCode_2 : decode cX12_errorCode 2 = .ok (.putfield 88, 3) := by decide +kernel
theorem dX12_errorCode_5 : decode cX12_errorCode 5 = .ok (.aload_n 0, 1) := by decide +kernel
theorem dX12_errorCode_6 : decode cX12_errorCode 6 = .ok (.getfield 164, 3) := by decide +kernel
theorem dX12_errorCode_9 : decode cX12_errorCode 9 = .ok (.ireturn, 1) := by decide +kernel
theorem dX12_errorPosition_0 : decode cX12_errorPosition 0 = .ok (.aload_n 0, 1) := by decide +kernel
theorem dX12_errorPosition_1 : decode cX12_errorPosition 1 = .ok (.iconst 0, 1) := by decide +kernel
theorem dX12_errorPosition_2 : decode cX12_errorPosition 2 = .ok (.putfield 88, 3) := by decide +kernel
theorem dX12_errorPosition_5 : decode cX12_errorPosition 5 = .ok (.aload_n 0, 1) := by decide +kernel
theorem dX12_errorPosition_6 : decode cX12_errorPosition 6 = .ok (.getfield 17, 3) := by decide +kernel
theorem dX12_errorPosition_9 : decode cX12_errorPosition 9 = .ok (.ireturn, 1) := by decide +kernel
theorem dX12_clears_0 : decode cX12_clears 0 = .ok (.iconst 0, 1) := by decide +kernel
theorem dX12_clears_1 : decode cX12_clears 1 = .ok (.istore_n 1, 1) := by decide +kernel
theorem dX12_clears_2 : decode cX12_clears 2 = .ok (.iload_n 1, 1) := by decide +kernel
theorem dX12_clears_3 : decode cX12_clears 3 = .ok (.sipush 184, 3) := by decide +kernel
theorem dX12_clears_6 : decode cX12_clears 6 = .ok (.if_icmp .ge 16, 3) := by decide +kernel
theorem dX12_clears_9 : decode cX12_clears 9 = .ok (.aload_n 0, 1) := by decide +kernel
theorem dX12_clears_10 : decode cX12_clears 10 = .ok (.getfield 20, 3) := by decide +kernel
theorem dX12_clears_13 : decode cX12_clears 13 = .ok (.iload_n 1, 1) := by decide +kernel
theorem dX12_clears_14 : decode cX12_clears 14 = .ok (.iconst 0, 1) := by decide +kernel
theorem dX12_clears_15 : decode cX12_clears 15 = .ok (.iastore, 1) := by decide +kernel
theorem dX12_clears_16 : decode cX12_clears 16 = .ok (.iinc 1 1, 3) := by decide +kernel
theorem dX12_clears_19 : decode cX12_clears 19 = .ok (.goto (-17), 3) := by decide +kernel
theorem dX12_clears_22 : decode cX12_clears 22 = .ok (.aload_n 0, 1) := by decide +kernel
theorem dX12_clears_23 : decode cX12_clears 23 = .ok (.getfield 20, 3) := by decide +kernel
theorem dX12_clears_26 : decode cX12_clears 26 = .ok (.iconst 0, 1) := by decide +kernel
theorem dX12_clears_27 : decode cX12_clears 27 = .ok (.iconst 5, 1) := by decide +kernel
theorem dX12_clears_28 : decode cX12_clears 28 = .ok (.iastore, 1) := by decide +kernel
theorem dX12_clears_29 : decode cX12_clears 29 = .ok (.aload_n 0, 1) := by decide +kernel
theorem dX12_clears_30 : decode cX12_clears 30 = .ok (.getfield 20, 3) := by decide +kernel
theorem dX12_clears_33 : decode cX12_clears 33 = .ok (.iconst 1, 1) := by decide +kernel
theorem dX12_clears_34 : decode cX12_clears 34 = .ok (.iconst 5, 1) := by decide +kernel
theorem dX12_clears_35 : decode cX12_clears 35 = .ok (.iastore, 1) := by decide +kernel
theorem dX12_clears_36 : decode cX12_clears 36 = .ok (.return_, 1) := by decide +kernel
theorem dX12_laysAside_0 : decode cX12_laysAside 0 = .ok (.iconst 0, 1) := by decide +kernel
theorem dX12_laysAside_1 : decode cX12_laysAside 1 = .ok (.istore_n 1, 1) := by decide +kernel
theorem dX12_laysAside_2 : decode cX12_laysAside 2 = .ok (.iload_n 1, 1) := by decide +kernel
theorem dX12_laysAside_3 : decode cX12_laysAside 3 = .ok (.sipush 184, 3) := by decide +kernel
theorem dX12_laysAside_6 : decode cX12_laysAside 6 = .ok (.if_icmp .ge 21, 3) := by decide +kernel
theorem dX12_laysAside_9 : decode cX12_laysAside 9 = .ok (.aload_n 0, 1) := by decide +kernel
theorem dX12_laysAside_10 : decode cX12_laysAside 10 = .ok (.getfield 29, 3) := by decide +kernel
theorem dX12_laysAside_13 : decode cX12_laysAside 13 = .ok (.iload_n 1, 1) := by decide +kernel
theorem dX12_laysAside_14 : decode cX12_laysAside 14 = .ok (.aload_n 0, 1) := by decide +kernel
theorem dX12_laysAside_15 : decode cX12_laysAside 15 = .ok (.getfield 20, 3) := by decide +kernel
theorem dX12_laysAside_18 : decode cX12_laysAside 18 = .ok (.iload_n 1, 1) := by decide +kernel
theorem dX12_laysAside_19 : decode cX12_laysAside 19 = .ok (.iaload, 1) := by decide +kernel
theorem dX12_laysAside_20 : decode cX12_laysAside 20 = .ok (.iastore, 1) := by decide +kernel
theorem dX12_laysAside_21 : decode cX12_laysAside 21 = .ok (.iinc 1 1, 3) := by decide +kernel
theorem dX12_laysAside_24 : decode cX12_laysAside 24 = .ok (.goto (-22), 3) := by decide +kernel
theorem dX12_laysAside_27 : decode cX12_laysAside 27 = .ok (.return_, 1) := by decide +kernel
theorem dX12_comesBack_0 : decode cX12_comesBack 0 = .ok (.iconst 0, 1) := by decide +kernel
theorem dX12_comesBack_1 : decode cX12_comesBack 1 = .ok (.istore_n 1, 1) := by decide +kernel
theorem dX12_comesBack_2 : decode cX12_comesBack 2 = .ok (.iload_n 1, 1) := by decide +kernel
theorem dX12_comesBack_3 : decode cX12_comesBack 3 = .ok (.sipush 184, 3) := by decide +kernel
theorem dX12_comesBack_6 : decode cX12_comesBack 6 = .ok (.if_icmp .ge 21, 3) := by decide +kernel
theorem dX12_comesBack_9 : decode cX12_comesBack 9 = .ok (.aload_n 0, 1) := by decide +kernel
theorem dX12_comesBack_10 : decode cX12_comesBack 10 = .ok (.getfield 20, 3) := by decide +kernel
theorem dX12_comesBack_13 : decode cX12_comesBack 13 = .ok (.iload_n 1, 1) := by decide +kernel
theorem dX12_comesBack_14 : decode cX12_comesBack 14 = .ok (.aload_n 0, 1) := by decide +kernel
theorem dX12_comesBack_15 : decode cX12_comesBack 15 = .ok (.getfield 29, 3) := by decide +kernel
theorem dX12_comesBack_18 : decode cX12_comesBack 18 = .ok (.iload_n 1, 1) := by decide +kernel
theorem dX12_comesBack_19 : decode cX12_comesBack 19 = .ok (.iaload, 1) := by decide +kernel
theorem dX12_comesBack_20 : decode cX12_comesBack 20 = .ok (.iastore, 1) := by decide +kernel
theorem dX12_comesBack_21 : decode cX12_comesBack 21 = .ok (.iinc 1 1, 3) := by decide +kernel
theorem dX12_comesBack_24 : decode cX12_comesBack 24 = .ok (.goto (-22), 3) := by decide +kernel
theorem dX12_comesBack_27 : decode cX12_comesBack 27 = .ok (.return_, 1) := by decide +kernel
theorem dX12_thinks_0 : decode cX12_thinks 0 = .ok (.iconst 0, 1) := by decide +kernel
theorem dX12_thinks_1 : decode cX12_thinks 1 = .ok (.istore_n 1, 1) := by decide +kernel
theorem dX12_thinks_2 : decode cX12_thinks 2 = .ok (.iload_n 1, 1) := by decide +kernel
theorem dX12_thinks_3 : decode cX12_thinks 3 = .ok (.sipush 184, 3) := by decide +kernel
theorem dX12_thinks_6 : decode cX12_thinks 6 = .ok (.if_icmp .ge 21, 3) := by decide +kernel
theorem dX12_thinks_9 : decode cX12_thinks 9 = .ok (.aload_n 0, 1) := by decide +kernel
theorem dX12_thinks_10 : decode cX12_thinks 10 = .ok (.getfield 32, 3) := by decide +kernel
theorem dX12_thinks_13 : decode cX12_thinks 13 = .ok (.iload_n 1, 1) := by decide +kernel
theorem dX12_thinks_14 : decode cX12_thinks 14 = .ok (.aload_n 0, 1) := by decide +kernel
theorem dX12_thinks_15 : decode cX12_thinks 15 = .ok (.getfield 20, 3) := by decide +kernel
theorem dX12_thinks_18 : decode cX12_thinks 18 = .ok (.iload_n 1, 1) := by decide +kernel
theorem dX12_thinks_19 : decode cX12_thinks 19 = .ok (.iaload, 1) := by decide +kernel
theorem dX12_thinks_20 : decode cX12_thinks 20 = .ok (.iastore, 1) := by decide +kernel
theorem dX12_thinks_21 : decode cX12_thinks 21 = .ok (.iinc 1 1, 3) := by decide +kernel
theorem dX12_thinks_24 : decode cX12_thinks 24 = .ok (.goto (-22), 3) := by decide +kernel
theorem dX12_thinks_27 : decode cX12_thinks 27 = .ok (.return_, 1) := by decide +kernel
theorem dX12_thinksNoMore_0 : decode cX12_thinksNoMore 0 = .ok (.iconst 0, 1) := by decide +kernel
theorem dX12_thinksNoMore_1 : decode cX12_thinksNoMore 1 = .ok (.istore_n 1, 1) := by decide +kernel
theorem dX12_thinksNoMore_2 : decode cX12_thinksNoMore 2 = .ok (.iload_n 1, 1) := by decide +kernel
theorem dX12_thinksNoMore_3 : decode cX12_thinksNoMore 3 = .ok (.sipush 184, 3) := by decide +kernel
theorem dX12_thinksNoMore_6 : decode cX12_thinksNoMore 6 = .ok (.if_icmp .ge 21, 3) := by decide +kernel
theorem dX12_thinksNoMore_9 : decode cX12_thinksNoMore 9 = .ok (.aload_n 0, 1) := by decide +kernel
theorem dX12_thinksNoMore_10 : decode cX12_thinksNoMore 10 = .ok (.getfield 20, 3) := by decide +kernel
theorem dX12_thinksNoMore_13 : decode cX12_thinksNoMore 13 = .ok (.iload_n 1, 1) := by decide +kernel
theorem dX12_thinksNoMore_14 : decode cX12_thinksNoMore 14 = .ok (.aload_n 0, 1) := by decide +kernel
theorem dX12_thinksNoMore_15 : decode cX12_thinksNoMore 15 = .ok (.getfield 32, 3) := by decide +kernel
theorem dX12_thinksNoMore_18 : decode cX12_thinksNoMore 18 = .ok (.iload_n 1, 1) := by decide +kernel
theorem dX12_thinksNoMore_19 : decode cX12_thinksNoMore 19 = .ok (.iaload, 1) := by decide +kernel
theorem dX12_thinksNoMore_20 : decode cX12_thinksNoMore 20 = .ok (.iastore, 1) := by decide +kernel
theorem dX12_thinksNoMore_21 : decode cX12_thinksNoMore 21 = .ok (.iinc 1 1, 3) := by decide +kernel
theorem dX12_thinksNoMore_24 : decode cX12_thinksNoMore 24 = .ok (.goto (-22), 3) := by decide +kernel
theorem dX12_thinksNoMore_27 : decode cX12_thinksNoMore 27 = .ok (.return_, 1) := by decide +kernel
theorem dX12_keeps_0 : decode cX12_keeps 0 = .ok (.aload_n 0, 1) := by decide +kernel
theorem dX12_keeps_1 : decode cX12_keeps 1 = .ok (.getfield 167, 3) := by decide +kernel
theorem dX12_keeps_4 : decode cX12_keeps 4 = .ok (.bipush 6, 2) := by decide +kernel
theorem dX12_keeps_6 : decode cX12_keeps 6 = .ok (.if_icmp .ne 49, 3) := by decide +kernel
theorem dX12_keeps_9 : decode cX12_keeps 9 = .ok (.aload_n 0, 1) := by decide +kernel
theorem dX12_keeps_10 : decode cX12_keeps 10 = .ok (.dup, 1) := by decide +kernel
theorem dX12_keeps_11 : decode cX12_keeps 11 = .ok (.getfield 167, 3) := by decide +kernel
theorem dX12_keeps_14 : decode cX12_keeps 14 = .ok (.iconst 1, 1) := by decide +kernel
theorem dX12_keeps_15 : decode cX12_keeps 15 = .ok (.isub, 1) := by decide +kernel
theorem dX12_keeps_16 : decode cX12_keeps 16 = .ok (.putfield 167, 3) := by decide +kernel
theorem dX12_keeps_19 : decode cX12_keeps 19 = .ok (.iconst 0, 1) := by decide +kernel
theorem dX12_keeps_20 : decode cX12_keeps 20 = .ok (.istore_n 1, 1) := by decide +kernel
theorem dX12_keeps_21 : decode cX12_keeps 21 = .ok (.iload_n 1, 1) := by decide +kernel
theorem dX12_keeps_22 : decode cX12_keeps 22 = .ok (.sipush 184, 3) := by decide +kernel
theorem dX12_keeps_25 : decode cX12_keeps 25 = .ok (.aload_n 0, 1) := by decide +kernel
theorem dX12_keeps_26 : decode cX12_keeps 26 = .ok (.getfield 167, 3) := by decide +kernel
theorem dX12_keeps_29 : decode cX12_keeps 29 = .ok (.imul, 1) := by decide +kernel
theorem dX12_keeps_30 : decode cX12_keeps 30 = .ok (.if_icmp .ge 25, 3) := by decide +kernel
theorem dX12_keeps_33 : decode cX12_keeps 33 = .ok (.aload_n 0, 1) := by decide +kernel
theorem dX12_keeps_34 : decode cX12_keeps 34 = .ok (.getfield 26, 3) := by decide +kernel
theorem dX12_keeps_37 : decode cX12_keeps 37 = .ok (.iload_n 1, 1) := by decide +kernel
theorem dX12_keeps_38 : decode cX12_keeps 38 = .ok (.aload_n 0, 1) := by decide +kernel
theorem dX12_keeps_39 : decode cX12_keeps 39 = .ok (.getfield 26, 3) := by decide +kernel
theorem dX12_keeps_42 : decode cX12_keeps 42 = .ok (.iload_n 1, 1) := by decide +kernel
theorem dX12_keeps_43 : decode cX12_keeps 43 = .ok (.sipush 184, 3) := by decide +kernel
theorem dX12_keeps_46 : decode cX12_keeps 46 = .ok (.iadd, 1) := by decide +kernel
theorem dX12_keeps_47 : decode cX12_keeps 47 = .ok (.iaload, 1) := by decide +kernel
theorem dX12_keeps_48 : decode cX12_keeps 48 = .ok (.iastore, 1) := by decide +kernel
theorem dX12_keeps_49 : decode cX12_keeps 49 = .ok (.iinc 1 1, 3) := by decide +kernel
theorem dX12_keeps_52 : decode cX12_keeps 52 = .ok (.goto (-31), 3) := by decide +kernel
theorem dX12_keeps_55 : decode cX12_keeps 55 = .ok (.iconst 0, 1) := by decide +kernel
theorem dX12_keeps_56 : decode cX12_keeps 56 = .ok (.istore_n 1, 1) := by decide +kernel
theorem dX12_keeps_57 : decode cX12_keeps 57 = .ok (.iload_n 1, 1) := by decide +kernel
theorem dX12_keeps_58 : decode cX12_keeps 58 = .ok (.sipush 184, 3) := by decide +kernel
theorem dX12_keeps_61 : decode cX12_keeps 61 = .ok (.if_icmp .ge 30, 3) := by decide +kernel
theorem dX12_keeps_64 : decode cX12_keeps 64 = .ok (.aload_n 0, 1) := by decide +kernel
theorem dX12_keeps_65 : decode cX12_keeps 65 = .ok (.getfield 26, 3) := by decide +kernel
theorem dX12_keeps_68 : decode cX12_keeps 68 = .ok (.sipush 184, 3) := by decide +kernel
theorem dX12_keeps_71 : decode cX12_keeps 71 = .ok (.aload_n 0, 1) := by decide +kernel
theorem dX12_keeps_72 : decode cX12_keeps 72 = .ok (.getfield 167, 3) := by decide +kernel
theorem dX12_keeps_75 : decode cX12_keeps 75 = .ok (.imul, 1) := by decide +kernel
theorem dX12_keeps_76 : decode cX12_keeps 76 = .ok (.iload_n 1, 1) := by decide +kernel
theorem dX12_keeps_77 : decode cX12_keeps 77 = .ok (.iadd, 1) := by decide +kernel
theorem dX12_keeps_78 : decode cX12_keeps 78 = .ok (.aload_n 0, 1) := by decide +kernel
theorem dX12_keeps_79 : decode cX12_keeps 79 = .ok (.getfield 29, 3) := by decide +kernel
theorem dX12_keeps_82 : decode cX12_keeps 82 = .ok (.iload_n 1, 1) := by decide +kernel
theorem dX12_keeps_83 : decode cX12_keeps 83 = .ok (.iaload, 1) := by decide +kernel
theorem dX12_keeps_84 : decode cX12_keeps 84 = .ok (.iastore, 1) := by decide +kernel
theorem dX12_keeps_85 : decode cX12_keeps 85 = .ok (.iinc 1 1, 3) := by decide +kernel
theorem dX12_keeps_88 : decode cX12_keeps 88 = .ok (.goto (-31), 3) := by decide +kernel
theorem dX12_keeps_91 : decode cX12_keeps 91 = .ok (.aload_n 0, 1) := by decide +kernel
theorem dX12_keeps_92 : decode cX12_keeps 92 = .ok (.dup, 1) := by decide +kernel
theorem dX12_keeps_93 : decode cX12_keeps 93 = .ok (.getfield 167, 3) := by decide +kernel
theorem dX12_keeps_96 : decode cX12_keeps 96 = .ok (.iconst 1, 1) := by decide +kernel
theorem dX12_keeps_97 : decode cX12_keeps 97 = .ok (.iadd, 1) := by decide +kernel
theorem dX12_keeps_98 : decode cX12_keeps 98 = .ok (.putfield 167, 3) := by decide +kernel
theorem dX12_keeps_101 : decode cX12_keeps 101 = .ok (.return_, 1) := by decide +kernel
theorem dX12_undo_0 : decode cX12_undo 0 = .ok (.aload_n 0, 1) := by decide +kernel
theorem dX12_undo_1 : decode cX12_undo 1 = .ok (.iconst 0, 1) := by decide +kernel
theorem dX12_undo_2 : decode cX12_undo 2 = .ok (.putfield 88, 3) := by decide +kernel
theorem dX12_undo_5 : decode cX12_undo 5 = .ok (.aload_n 0, 1) := by decide +kernel
theorem dX12_undo_6 : decode cX12_undo 6 = .ok (.getfield 167, 3) := by decide +kernel
theorem dX12_undo_9 : decode cX12_undo 9 = .ok (.ifCond .ne 5, 3) := by decide +kernel
theorem dX12_undo_12 : decode cX12_undo 12 = .ok (.iconst (-1), 1) := by decide +kernel
theorem dX12_undo_13 : decode cX12_undo 13 = .ok (.ireturn, 1) := by decide +kernel
theorem dX12_undo_14 : decode cX12_undo 14 = .ok (.aload_n 0, 1) := by decide +kernel
theorem dX12_undo_15 : decode cX12_undo 15 = .ok (.dup, 1) := by decide +kernel
theorem dX12_undo_16 : decode cX12_undo 16 = .ok (.getfield 167, 3) := by decide +kernel
theorem dX12_undo_19 : decode cX12_undo 19 = .ok (.iconst 1, 1) := by decide +kernel
theorem dX12_undo_20 : decode cX12_undo 20 = .ok (.isub, 1) := by decide +kernel
theorem dX12_undo_21 : decode cX12_undo 21 = .ok (.putfield 167, 3) := by decide +kernel
theorem dX12_undo_24 : decode cX12_undo 24 = .ok (.iconst 0, 1) := by decide +kernel
theorem dX12_undo_25 : decode cX12_undo 25 = .ok (.istore_n 1, 1) := by decide +kernel
theorem dX12_undo_26 : decode cX12_undo 26 = .ok (.iload_n 1, 1) := by decide +kernel
theorem dX12_undo_27 : decode cX12_undo 27 = .ok (.sipush 184, 3) := by decide +kernel
theorem dX12_undo_30 : decode cX12_undo 30 = .ok (.if_icmp .ge 30, 3) := by decide +kernel
theorem dX12_undo_33 : decode cX12_undo 33 = .ok (.aload_n 0, 1) := by decide +kernel
theorem dX12_undo_34 : decode cX12_undo 34 = .ok (.getfield 20, 3) := by decide +kernel
theorem dX12_undo_37 : decode cX12_undo 37 = .ok (.iload_n 1, 1) := by decide +kernel
theorem dX12_undo_38 : decode cX12_undo 38 = .ok (.aload_n 0, 1) := by decide +kernel
theorem dX12_undo_39 : decode cX12_undo 39 = .ok (.getfield 26, 3) := by decide +kernel
theorem dX12_undo_42 : decode cX12_undo 42 = .ok (.sipush 184, 3) := by decide +kernel
theorem dX12_undo_45 : decode cX12_undo 45 = .ok (.aload_n 0, 1) := by decide +kernel
theorem dX12_undo_46 : decode cX12_undo 46 = .ok (.getfield 167, 3) := by decide +kernel
theorem dX12_undo_49 : decode cX12_undo 49 = .ok (.imul, 1) := by decide +kernel
theorem dX12_undo_50 : decode cX12_undo 50 = .ok (.iload_n 1, 1) := by decide +kernel
theorem dX12_undo_51 : decode cX12_undo 51 = .ok (.iadd, 1) := by decide +kernel
theorem dX12_undo_52 : decode cX12_undo 52 = .ok (.iaload, 1) := by decide +kernel
theorem dX12_undo_53 : decode cX12_undo 53 = .ok (.iastore, 1) := by decide +kernel
theorem dX12_undo_54 : decode cX12_undo 54 = .ok (.iinc 1 1, 3) := by decide +kernel
theorem dX12_undo_57 : decode cX12_undo 57 = .ok (.goto (-31), 3) := by decide +kernel
theorem dX12_undo_60 : decode cX12_undo 60 = .ok (.aload_n 0, 1) := by decide +kernel
theorem dX12_undo_61 : decode cX12_undo 61 = .ok (.getfield 167, 3) := by decide +kernel
theorem dX12_undo_64 : decode cX12_undo 64 = .ok (.ireturn, 1) := by decide +kernel
theorem dX12_save_0 : decode cX12_save 0 = .ok (.aload_n 0, 1) := by decide +kernel
theorem dX12_save_1 : decode cX12_save 1 = .ok (.iconst 0, 1) := by decide +kernel
theorem dX12_save_2 : decode cX12_save 2 = .ok (.putfield 88, 3) := by decide +kernel
theorem dX12_save_5 : decode cX12_save 5 = .ok (.iconst 0, 1) := by decide +kernel
theorem dX12_save_6 : decode cX12_save 6 = .ok (.istore_n 1, 1) := by decide +kernel
theorem dX12_save_7 : decode cX12_save 7 = .ok (.iload_n 1, 1) := by decide +kernel
theorem dX12_save_8 : decode cX12_save 8 = .ok (.sipush 184, 3) := by decide +kernel
theorem dX12_save_11 : decode cX12_save 11 = .ok (.if_icmp .ge 21, 3) := by decide +kernel
theorem dX12_save_14 : decode cX12_save 14 = .ok (.aload_n 0, 1) := by decide +kernel
theorem dX12_save_15 : decode cX12_save 15 = .ok (.getfield 23, 3) := by decide +kernel
theorem dX12_save_18 : decode cX12_save 18 = .ok (.iload_n 1, 1) := by decide +kernel
theorem dX12_save_19 : decode cX12_save 19 = .ok (.aload_n 0, 1) := by decide +kernel
theorem dX12_save_20 : decode cX12_save 20 = .ok (.getfield 20, 3) := by decide +kernel
theorem dX12_save_23 : decode cX12_save 23 = .ok (.iload_n 1, 1) := by decide +kernel
theorem dX12_save_24 : decode cX12_save 24 = .ok (.iaload, 1) := by decide +kernel
theorem dX12_save_25 : decode cX12_save 25 = .ok (.iastore, 1) := by decide +kernel
theorem dX12_save_26 : decode cX12_save 26 = .ok (.iinc 1 1, 3) := by decide +kernel
theorem dX12_save_29 : decode cX12_save 29 = .ok (.goto (-22), 3) := by decide +kernel
theorem dX12_save_32 : decode cX12_save 32 = .ok (.aload_n 0, 1) := by decide +kernel
theorem dX12_save_33 : decode cX12_save 33 = .ok (.iconst 1, 1) := by decide +kernel
theorem dX12_save_34 : decode cX12_save 34 = .ok (.putfield 170, 3) := by decide +kernel
theorem dX12_save_37 : decode cX12_save 37 = .ok (.aload_n 0, 1) := by decide +kernel
theorem dX12_save_38 : decode cX12_save 38 = .ok (.getfield 20, 3) := by decide +kernel
theorem dX12_save_41 : decode cX12_save 41 = .ok (.iconst 4, 1) := by decide +kernel
theorem dX12_save_42 : decode cX12_save 42 = .ok (.iaload, 1) := by decide +kernel
theorem dX12_save_43 : decode cX12_save 43 = .ok (.ireturn, 1) := by decide +kernel
theorem dX12_restore_0 : decode cX12_restore 0 = .ok (.aload_n 0, 1) := by decide +kernel
theorem dX12_restore_1 : decode cX12_restore 1 = .ok (.aload_n 0, 1) := by decide +kernel
theorem dX12_restore_2 : decode cX12_restore 2 = .ok (.getfield 170, 3) := by decide +kernel
theorem dX12_restore_5 : decode cX12_restore 5 = .ok (.invokevirtual 98, 3) := by decide +kernel
theorem dX12_restore_8 : decode cX12_restore 8 = .ok (.ifCond .ne 5, 3) := by decide +kernel
theorem dX12_restore_11 : decode cX12_restore 11 = .ok (.iconst 0, 1) := by decide +kernel
theorem dX12_restore_12 : decode cX12_restore 12 = .ok (.ireturn, 1) := by decide +kernel
theorem dX12_restore_13 : decode cX12_restore 13 = .ok (.iconst 0, 1) := by decide +kernel
theorem dX12_restore_14 : decode cX12_restore 14 = .ok (.istore_n 1, 1) := by decide +kernel
theorem dX12_restore_15 : decode cX12_restore 15 = .ok (.iload_n 1, 1) := by decide +kernel
theorem dX12_restore_16 : decode cX12_restore 16 = .ok (.sipush 184, 3) := by decide +kernel
theorem dX12_restore_19 : decode cX12_restore 19 = .ok (.if_icmp .ge 21, 3) := by decide +kernel
theorem dX12_restore_22 : decode cX12_restore 22 = .ok (.aload_n 0, 1) := by decide +kernel
theorem dX12_restore_23 : decode cX12_restore 23 = .ok (.getfield 20, 3) := by decide +kernel
theorem dX12_restore_26 : decode cX12_restore 26 = .ok (.iload_n 1, 1) := by decide +kernel
theorem dX12_restore_27 : decode cX12_restore 27 = .ok (.aload_n 0, 1) := by decide +kernel
theorem dX12_restore_28 : decode cX12_restore 28 = .ok (.getfield 23, 3) := by decide +kernel
theorem dX12_restore_31 : decode cX12_restore 31 = .ok (.iload_n 1, 1) := by decide +kernel
theorem dX12_restore_32 : decode cX12_restore 32 = .ok (.iaload, 1) := by decide +kernel
theorem dX12_restore_33 : decode cX12_restore 33 = .ok (.iastore, 1) := by decide +kernel
theorem dX12_restore_34 : decode cX12_restore 34 = .ok (.iinc 1 1, 3) := by decide +kernel
theorem dX12_restore_37 : decode cX12_restore 37 = .ok (.goto (-22), 3) := by decide +kernel
theorem dX12_restore_40 : decode cX12_restore 40 = .ok (.aload_n 0, 1) := by decide +kernel
theorem dX12_restore_41 : decode cX12_restore 41 = .ok (.iconst 0, 1) := by decide +kernel
theorem dX12_restore_42 : decode cX12_restore 42 = .ok (.putfield 167, 3) := by decide +kernel
theorem dX12_restore_45 : decode cX12_restore 45 = .ok (.aload_n 0, 1) := by decide +kernel
theorem dX12_restore_46 : decode cX12_restore 46 = .ok (.getfield 20, 3) := by decide +kernel
theorem dX12_restore_49 : decode cX12_restore 49 = .ok (.iconst 4, 1) := by decide +kernel
theorem dX12_restore_50 : decode cX12_restore 50 = .ok (.iaload, 1) := by decide +kernel
theorem dX12_restore_51 : decode cX12_restore 51 = .ok (.ireturn, 1) := by decide +kernel
theorem dX12_of_0 : decode cX12_of 0 = .ok (.aload_n 0, 1) := by decide +kernel
theorem dX12_of_1 : decode cX12_of 1 = .ok (.getfield 20, 3) := by decide +kernel
theorem dX12_of_4 : decode cX12_of 4 = .ok (.bipush 8, 2) := by decide +kernel
theorem dX12_of_6 : decode cX12_of 6 = .ok (.bipush 7, 2) := by decide +kernel
theorem dX12_of_8 : decode cX12_of 8 = .ok (.iload_n 1, 1) := by decide +kernel
theorem dX12_of_9 : decode cX12_of 9 = .ok (.imul, 1) := by decide +kernel
theorem dX12_of_10 : decode cX12_of 10 = .ok (.iadd, 1) := by decide +kernel
theorem dX12_of_11 : decode cX12_of 11 = .ok (.iload_n 2, 1) := by decide +kernel
theorem dX12_of_12 : decode cX12_of 12 = .ok (.iadd, 1) := by decide +kernel
theorem dX12_of_13 : decode cX12_of 13 = .ok (.iaload, 1) := by decide +kernel
theorem dX12_of_14 : decode cX12_of 14 = .ok (.ireturn, 1) := by decide +kernel
theorem dX12_isPawn_0 : decode cX12_isPawn 0 = .ok (.iload_n 1, 1) := by decide +kernel
theorem dX12_isPawn_1 : decode cX12_isPawn 1 = .ok (.i2l, 1) := by decide +kernel
theorem dX12_isPawn_2 : decode cX12_isPawn 2 = .ok (.lconst 0, 1) := by decide +kernel
theorem dX12_isPawn_3 : decode cX12_isPawn 3 = .ok (.aload_n 0, 1) := by decide +kernel
theorem dX12_isPawn_4 : decode cX12_isPawn 4 = .ok (.getfield 20, 3) := by decide +kernel
theorem dX12_isPawn_7 : decode cX12_isPawn 7 = .ok (.iconst 2, 1) := by decide +kernel
theorem dX12_isPawn_8 : decode cX12_isPawn 8 = .ok (.iaload, 1) := by decide +kernel
theorem dX12_isPawn_9 : decode cX12_isPawn 9 = .ok (.iconst 1, 1) := by decide +kernel
theorem dX12_isPawn_10 : decode cX12_isPawn 10 = .ok (.isub, 1) := by decide +kernel
theorem dX12_isPawn_11 : decode cX12_isPawn 11 = .ok (.i2l, 1) := by decide +kernel
theorem dX12_isPawn_12 : decode cX12_isPawn 12 = .ok (.invokestatic 106, 3) := by decide +kernel
theorem dX12_isPawn_15 : decode cX12_isPawn 15 = .ok (.ireturn, 1) := by decide +kernel
theorem dX12_hasFinished_0 : decode cX12_hasFinished 0 = .ok (.aload_n 0, 1) := by decide +kernel
theorem dX12_hasFinished_1 : decode cX12_hasFinished 1 = .ok (.iload_n 1, 1) := by decide +kernel
theorem dX12_hasFinished_2 : decode cX12_hasFinished 2 = .ok (.bipush 6, 2) := by decide +kernel
theorem dX12_hasFinished_4 : decode cX12_hasFinished 4 = .ok (.invokevirtual 174, 3) := by decide +kernel
theorem dX12_hasFinished_7 : decode cX12_hasFinished 7 = .ok (.ifCond .le 7, 3) := by decide +kernel
theorem dX12_hasFinished_10 : decode cX12_hasFinished 10 = .ok (.iconst 1, 1) := by decide +kernel
theorem dX12_hasFinished_11 : decode cX12_hasFinished 11 = .ok (.goto 4, 3) := by decide +kernel
theorem dX12_hasFinished_14 : decode cX12_hasFinished 14 = .ok (.iconst 0, 1) := by decide +kernel
theorem dX12_hasFinished_15 : decode cX12_hasFinished 15 = .ok (.ireturn, 1) := by decide +kernel
theorem dX12_isCell_0 : decode cX12_isCell 0 = .ok (.iload_n 1, 1) := by decide +kernel
theorem dX12_isCell_1 : decode cX12_isCell 1 = .ok (.i2l, 1) := by decide +kernel
theorem dX12_isCell_2 : decode cX12_isCell 2 = .ok (.lconst 0, 1) := by decide +kernel
theorem dX12_isCell_3 : decode cX12_isCell 3 = .ok (.aload_n 0, 1) := by decide +kernel
theorem dX12_isCell_4 : decode cX12_isCell 4 = .ok (.getfield 20, 3) := by decide +kernel
theorem dX12_isCell_7 : decode cX12_isCell 7 = .ok (.iconst 0, 1) := by decide +kernel
theorem dX12_isCell_8 : decode cX12_isCell 8 = .ok (.iaload, 1) := by decide +kernel
theorem dX12_isCell_9 : decode cX12_isCell 9 = .ok (.iconst 1, 1) := by decide +kernel
theorem dX12_isCell_10 : decode cX12_isCell 10 = .ok (.isub, 1) := by decide +kernel
theorem dX12_isCell_11 : decode cX12_isCell 11 = .ok (.i2l, 1) := by decide +kernel
theorem dX12_isCell_12 : decode cX12_isCell 12 = .ok (.invokestatic 106, 3) := by decide +kernel
theorem dX12_isCell_15 : decode cX12_isCell 15 = .ok (.ifCond .eq 25, 3) := by decide +kernel
theorem dX12_isCell_18 : decode cX12_isCell 18 = .ok (.iload_n 2, 1) := by decide +kernel
theorem dX12_isCell_19 : decode cX12_isCell 19 = .ok (.i2l, 1) := by decide +kernel
theorem dX12_isCell_20 : decode cX12_isCell 20 = .ok (.lconst 0, 1) := by decide +kernel
theorem dX12_isCell_21 : decode cX12_isCell 21 = .ok (.aload_n 0, 1) := by decide +kernel
theorem dX12_isCell_22 : decode cX12_isCell 22 = .ok (.getfield 20, 3) := by decide +kernel
theorem dX12_isCell_25 : decode cX12_isCell 25 = .ok (.iconst 1, 1) := by decide +kernel
theorem dX12_isCell_26 : decode cX12_isCell 26 = .ok (.iaload, 1) := by decide +kernel
theorem dX12_isCell_27 : decode cX12_isCell 27 = .ok (.iconst 1, 1) := by decide +kernel
theorem dX12_isCell_28 : decode cX12_isCell 28 = .ok (.isub, 1) := by decide +kernel
theorem dX12_isCell_29 : decode cX12_isCell 29 = .ok (.i2l, 1) := by decide +kernel
theorem dX12_isCell_30 : decode cX12_isCell 30 = .ok (.invokestatic 106, 3) := by decide +kernel
theorem dX12_isCell_33 : decode cX12_isCell 33 = .ok (.ifCond .eq 7, 3) := by decide +kernel
theorem dX12_isCell_36 : decode cX12_isCell 36 = .ok (.iconst 1, 1) := by decide +kernel
theorem dX12_isCell_37 : decode cX12_isCell 37 = .ok (.goto 4, 3) := by decide +kernel
theorem dX12_isCell_40 : decode cX12_isCell 40 = .ok (.iconst 0, 1) := by decide +kernel
theorem dX12_isCell_41 : decode cX12_isCell 41 = .ok (.ireturn, 1) := by decide +kernel
theorem dX12_isPlace_0 : decode cX12_isPlace 0 = .ok (.iload_n 1, 1) := by decide +kernel
theorem dX12_isPlace_1 : decode cX12_isPlace 1 = .ok (.i2l, 1) := by decide +kernel
theorem dX12_isPlace_2 : decode cX12_isPlace 2 = .ok (.lconst 0, 1) := by decide +kernel
theorem dX12_isPlace_3 : decode cX12_isPlace 3 = .ok (.aload_n 0, 1) := by decide +kernel
theorem dX12_isPlace_4 : decode cX12_isPlace 4 = .ok (.getfield 20, 3) := by decide +kernel
theorem dX12_isPlace_7 : decode cX12_isPlace 7 = .ok (.iconst 0, 1) := by decide +kernel
theorem dX12_isPlace_8 : decode cX12_isPlace 8 = .ok (.iaload, 1) := by decide +kernel
theorem dX12_isPlace_9 : decode cX12_isPlace 9 = .ok (.iconst 2, 1) := by decide +kernel
theorem dX12_isPlace_10 : decode cX12_isPlace 10 = .ok (.isub, 1) := by decide +kernel
theorem dX12_isPlace_11 : decode cX12_isPlace 11 = .ok (.i2l, 1) := by decide +kernel
theorem dX12_isPlace_12 : decode cX12_isPlace 12 = .ok (.invokestatic 106, 3) := by decide +kernel
theorem dX12_isPlace_15 : decode cX12_isPlace 15 = .ok (.ifCond .eq 25, 3) := by decide +kernel
theorem dX12_isPlace_18 : decode cX12_isPlace 18 = .ok (.iload_n 2, 1) := by decide +kernel
theorem dX12_isPlace_19 : decode cX12_isPlace 19 = .ok (.i2l, 1) := by decide +kernel
theorem dX12_isPlace_20 : decode cX12_isPlace 20 = .ok (.lconst 0, 1) := by decide +kernel
theorem dX12_isPlace_21 : decode cX12_isPlace 21 = .ok (.aload_n 0, 1) := by decide +kernel
theorem dX12_isPlace_22 : decode cX12_isPlace 22 = .ok (.getfield 20, 3) := by decide +kernel
theorem dX12_isPlace_25 : decode cX12_isPlace 25 = .ok (.iconst 1, 1) := by decide +kernel
theorem dX12_isPlace_26 : decode cX12_isPlace 26 = .ok (.iaload, 1) := by decide +kernel
theorem dX12_isPlace_27 : decode cX12_isPlace 27 = .ok (.iconst 2, 1) := by decide +kernel
theorem dX12_isPlace_28 : decode cX12_isPlace 28 = .ok (.isub, 1) := by decide +kernel
theorem dX12_isPlace_29 : decode cX12_isPlace 29 = .ok (.i2l, 1) := by decide +kernel
theorem dX12_isPlace_30 : decode cX12_isPlace 30 = .ok (.invokestatic 106, 3) := by decide +kernel
theorem dX12_isPlace_33 : decode cX12_isPlace 33 = .ok (.ifCond .eq 7, 3) := by decide +kernel
theorem dX12_isPlace_36 : decode cX12_isPlace 36 = .ok (.iconst 1, 1) := by decide +kernel
theorem dX12_isPlace_37 : decode cX12_isPlace 37 = .ok (.goto 4, 3) := by decide +kernel
theorem dX12_isPlace_40 : decode cX12_isPlace 40 = .ok (.iconst 0, 1) := by decide +kernel
theorem dX12_isPlace_41 : decode cX12_isPlace 41 = .ok (.ireturn, 1) := by decide +kernel
theorem dX12_wall_0 : decode cX12_wall 0 = .ok (.aload_n 0, 1) := by decide +kernel
theorem dX12_wall_1 : decode cX12_wall 1 = .ok (.iload_n 1, 1) := by decide +kernel
theorem dX12_wall_2 : decode cX12_wall 2 = .ok (.iload_n 2, 1) := by decide +kernel
theorem dX12_wall_3 : decode cX12_wall 3 = .ok (.invokevirtual 177, 3) := by decide +kernel
theorem dX12_wall_6 : decode cX12_wall 6 = .ok (.ifCond .eq 20, 3) := by decide +kernel
theorem dX12_wall_9 : decode cX12_wall 9 = .ok (.aload_n 0, 1) := by decide +kernel
theorem dX12_wall_10 : decode cX12_wall 10 = .ok (.getfield 20, 3) := by decide +kernel
theorem dX12_wall_13 : decode cX12_wall 13 = .ok (.bipush 120, 2) := by decide +kernel
theorem dX12_wall_15 : decode cX12_wall 15 = .ok (.bipush 8, 2) := by decide +kernel
theorem dX12_wall_17 : decode cX12_wall 17 = .ok (.iload_n 2, 1) := by decide +kernel
theorem dX12_wall_18 : decode cX12_wall 18 = .ok (.imul, 1) := by decide +kernel
theorem dX12_wall_19 : decode cX12_wall 19 = .ok (.iadd, 1) := by decide +kernel
theorem dX12_wall_20 : decode cX12_wall 20 = .ok (.iload_n 1, 1) := by decide +kernel
theorem dX12_wall_21 : decode cX12_wall 21 = .ok (.iadd, 1) := by decide +kernel
theorem dX12_wall_22 : decode cX12_wall 22 = .ok (.iaload, 1) := by decide +kernel
theorem dX12_wall_23 : decode cX12_wall 23 = .ok (.goto 4, 3) := by decide +kernel
theorem dX12_wall_26 : decode cX12_wall 26 = .ok (.iconst 0, 1) := by decide +kernel
theorem dX12_wall_27 : decode cX12_wall 27 = .ok (.ireturn, 1) := by decide +kernel
theorem dX12_across_0 : decode cX12_across 0 = .ok (.iload_n 0, 1) := by decide +kernel
theorem dX12_across_1 : decode cX12_across 1 = .ok (.iconst 1, 1) := by decide +kernel
theorem dX12_across_2 : decode cX12_across 2 = .ok (.if_icmp .ne 7, 3) := by decide +kernel
theorem dX12_across_5 : decode cX12_across 5 = .ok (.iconst 1, 1) := by decide +kernel
theorem dX12_across_6 : decode cX12_across 6 = .ok (.goto 13, 3) := by decide +kernel
theorem dX12_across_9 : decode cX12_across 9 = .ok (.iload_n 0, 1) := by decide +kernel
theorem dX12_across_10 : decode cX12_across 10 = .ok (.iconst 3, 1) := by decide +kernel
theorem dX12_across_11 : decode cX12_across 11 = .ok (.if_icmp .ne 7, 3) := by decide +kernel
theorem dX12_across_14 : decode cX12_across 14 = .ok (.iconst (-1), 1) := by decide +kernel
theorem dX12_across_15 : decode cX12_across 15 = .ok (.goto 4, 3) := by decide +kernel
theorem dX12_across_18 : decode cX12_across 18 = .ok (.iconst 0, 1) := by decide +kernel
theorem dX12_across_19 : decode cX12_across 19 = .ok (.ireturn, 1) := by decide +kernel
theorem dX12_up_0 : decode cX12_up 0 = .ok (.iload_n 0, 1) := by decide +kernel
theorem dX12_up_1 : decode cX12_up 1 = .ok (.ifCond .ne 7, 3) := by decide +kernel
theorem dX12_up_4 : decode cX12_up 4 = .ok (.iconst 1, 1) := by decide +kernel
theorem dX12_up_5 : decode cX12_up 5 = .ok (.goto 13, 3) := by decide +kernel
theorem dX12_up_8 : decode cX12_up 8 = .ok (.iload_n 0, 1) := by decide +kernel
theorem dX12_up_9 : decode cX12_up 9 = .ok (.iconst 2, 1) := by decide +kernel
theorem dX12_up_10 : decode cX12_up 10 = .ok (.if_icmp .ne 7, 3) := by decide +kernel
theorem dX12_up_13 : decode cX12_up 13 = .ok (.iconst (-1), 1) := by decide +kernel
theorem dX12_up_14 : decode cX12_up 14 = .ok (.goto 4, 3) := by decide +kernel
theorem dX12_up_17 : decode cX12_up 17 = .ok (.iconst 0, 1) := by decide +kernel
theorem dX12_up_18 : decode cX12_up 18 = .ok (.ireturn, 1) := by decide +kernel
theorem dX12_blocks_0 : decode cX12_blocks 0 = .ok (.iload_n 1, 1) := by decide +kernel
theorem dX12_blocks_1 : decode cX12_blocks 1 = .ok (.iload_n 3, 1) := by decide +kernel
theorem dX12_blocks_2 : decode cX12_blocks 2 = .ok (.invokestatic 181, 3) := by decide +kernel
theorem dX12_blocks_5 : decode cX12_blocks 5 = .ok (.iadd, 1) := by decide +kernel
theorem dX12_blocks_6 : decode cX12_blocks 6 = .ok (.istore 4, 2) := by decide +kernel
theorem dX12_blocks_8 : decode cX12_blocks 8 = .ok (.iload_n 2, 1) := by decide +kernel
theorem dX12_blocks_9 : decode cX12_blocks 9 = .ok (.iload_n 3, 1) := by decide +kernel
theorem dX12_blocks_10 : decode cX12_blocks 10 = .ok (.invokestatic 184, 3) := by decide +kernel
theorem dX12_blocks_13 : decode cX12_blocks 13 = .ok (.iadd, 1) := by decide +kernel
theorem dX12_blocks_14 : decode cX12_blocks 14 = .ok (.istore 5, 2) := by decide +kernel
theorem dX12_blocks_16 : decode cX12_blocks 16 = .ok (.aload_n 0, 1) := by decide +kernel
theorem dX12_blocks_17 : decode cX12_blocks 17 = .ok (.iload 4, 2) := by decide +kernel
theorem dX12_blocks_19 : decode cX12_blocks 19 = .ok (.iload 5, 2) := by decide +kernel
theorem dX12_blocks_21 : decode cX12_blocks 21 = .ok (.invokevirtual 187, 3) := by decide +kernel
theorem dX12_blocks_24 : decode cX12_blocks 24 = .ok (.ifCond .ne 5, 3) := by decide +kernel
theorem dX12_blocks_27 : decode cX12_blocks 27 = .ok (.iconst 1, 1) := by decide +kernel
theorem dX12_blocks_28 : decode cX12_blocks 28 = .ok (.ireturn, 1) := by decide +kernel
theorem dX12_blocks_29 : decode cX12_blocks 29 = .ok (.iload_n 1, 1) := by decide +kernel
theorem dX12_blocks_30 : decode cX12_blocks 30 = .ok (.iload 4, 2) := by decide +kernel
theorem dX12_blocks_32 : decode cX12_blocks 32 = .ok (.invokestatic 190, 3) := by decide +kernel
theorem dX12_blocks_35 : decode cX12_blocks 35 = .ok (.istore 6, 2) := by decide +kernel
theorem dX12_blocks_37 : decode cX12_blocks 37 = .ok (.iload_n 2, 1) := by decide +kernel
theorem dX12_blocks_38 : decode cX12_blocks 38 = .ok (.iload 5, 2) := by decide +kernel
theorem dX12_blocks_40 : decode cX12_blocks 40 = .ok (.invokestatic 190, 3) := by decide +kernel
theorem dX12_blocks_43 : decode cX12_blocks 43 = .ok (.istore 7, 2) := by decide +kernel
theorem dX12_blocks_45 : decode cX12_blocks 45 = .ok (.iload 4, 2) := by decide +kernel
theorem dX12_blocks_47 : decode cX12_blocks 47 = .ok (.iload_n 1, 1) := by decide +kernel
theorem dX12_blocks_48 : decode cX12_blocks 48 = .ok (.if_icmp .ne 33, 3) := by decide +kernel
theorem dX12_blocks_51 : decode cX12_blocks 51 = .ok (.aload_n 0, 1) := by decide +kernel
theorem dX12_blocks_52 : decode cX12_blocks 52 = .ok (.iload_n 1, 1) := by decide +kernel
theorem dX12_blocks_53 : decode cX12_blocks 53 = .ok (.iload 7, 2) := by decide +kernel
theorem dX12_blocks_55 : decode cX12_blocks 55 = .ok (.invokevirtual 193, 3) := by decide +kernel
theorem dX12_blocks_58 : decode cX12_blocks 58 = .ok (.iconst 1, 1) := by decide +kernel
theorem dX12_blocks_59 : decode cX12_blocks 59 = .ok (.if_icmp .eq 16, 3) := by decide +kernel
theorem dX12_blocks_62 : decode cX12_blocks 62 = .ok (.aload_n 0, 1) := by decide +kernel
theorem dX12_blocks_63 : decode cX12_blocks 63 = .ok (.iload_n 1, 1) := by decide +kernel
theorem dX12_blocks_64 : decode cX12_blocks 64 = .ok (.iconst 1, 1) := by decide +kernel
theorem dX12_blocks_65 : decode cX12_blocks 65 = .ok (.isub, 1) := by decide +kernel
theorem dX12_blocks_66 : decode cX12_blocks 66 = .ok (.iload 7, 2) := by decide +kernel
theorem dX12_blocks_68 : decode cX12_blocks 68 = .ok (.invokevirtual 193, 3) := by decide +kernel
theorem dX12_blocks_71 : decode cX12_blocks 71 = .ok (.iconst 1, 1) := by decide +kernel
theorem dX12_blocks_72 : decode cX12_blocks 72 = .ok (.if_icmp .ne 7, 3) := by decide +kernel
theorem dX12_blocks_75 : decode cX12_blocks 75 = .ok (.iconst 1, 1) := by decide +kernel
theorem dX12_blocks_76 : decode cX12_blocks 76 = .ok (.goto 4, 3) := by decide +kernel
theorem dX12_blocks_79 : decode cX12_blocks 79 = .ok (.iconst 0, 1) := by decide +kernel
theorem dX12_blocks_80 : decode cX12_blocks 80 = .ok (.ireturn, 1) := by decide +kernel
theorem dX12_blocks_81 : decode cX12_blocks 81 = .ok (.aload_n 0, 1) := by decide +kernel
theorem dX12_blocks_82 : decode cX12_blocks 82 = .ok (.iload 6, 2) := by decide +kernel
theorem dX12_blocks_84 : decode cX12_blocks 84 = .ok (.iload_n 2, 1) := by decide +kernel
theorem dX12_blocks_85 : decode cX12_blocks 85 = .ok (.invokevirtual 193, 3) := by decide +kernel
theorem dX12_blocks_88 : decode cX12_blocks 88 = .ok (.iconst 2, 1) := by decide +kernel
theorem dX12_blocks_89 : decode cX12_blocks 89 = .ok (.if_icmp .eq 16, 3) := by decide +kernel
theorem dX12_blocks_92 : decode cX12_blocks 92 = .ok (.aload_n 0, 1) := by decide +kernel
theorem dX12_blocks_93 : decode cX12_blocks 93 = .ok (.iload 6, 2) := by decide +kernel
theorem dX12_blocks_95 : decode cX12_blocks 95 = .ok (.iload_n 2, 1) := by decide +kernel
theorem dX12_blocks_96 : decode cX12_blocks 96 = .ok (.iconst 1, 1) := by decide +kernel
theorem dX12_blocks_97 : decode cX12_blocks 97 = .ok (.isub, 1) := by decide +kernel
theorem dX12_blocks_98 : decode cX12_blocks 98 = .ok (.invokevirtual 193, 3) := by decide +kernel
theorem dX12_blocks_101 : decode cX12_blocks 101 = .ok (.iconst 2, 1) := by decide +kernel
theorem dX12_blocks_102 : decode cX12_blocks 102 = .ok (.if_icmp .ne 7, 3) := by decide +kernel
theorem dX12_blocks_105 : decode cX12_blocks 105 = .ok (.iconst 1, 1) := by decide +kernel
theorem dX12_blocks_106 : decode cX12_blocks 106 = .ok (.goto 4, 3) := by decide +kernel
theorem dX12_blocks_109 : decode cX12_blocks 109 = .ok (.iconst 0, 1) := by decide +kernel
theorem dX12_blocks_110 : decode cX12_blocks 110 = .ok (.ireturn, 1) := by decide +kernel
theorem dX12_isAtSide_0 : decode cX12_isAtSide 0 = .ok (.iload_n 3, 1) := by decide +kernel
theorem dX12_isAtSide_1 : decode cX12_isAtSide 1 = .ok (.ifCond .ne 23, 3) := by decide +kernel
theorem dX12_isAtSide_4 : decode cX12_isAtSide 4 = .ok (.iload_n 2, 1) := by decide +kernel
theorem dX12_isAtSide_5 : decode cX12_isAtSide 5 = .ok (.aload_n 0, 1) := by decide +kernel
theorem dX12_isAtSide_6 : decode cX12_isAtSide 6 = .ok (.getfield 20, 3) := by decide +kernel
theorem dX12_isAtSide_9 : decode cX12_isAtSide 9 = .ok (.iconst 1, 1) := by decide +kernel
theorem dX12_isAtSide_10 : decode cX12_isAtSide 10 = .ok (.iaload, 1) := by decide +kernel
theorem dX12_isAtSide_11 : decode cX12_isAtSide 11 = .ok (.iconst 1, 1) := by decide +kernel
theorem dX12_isAtSide_12 : decode cX12_isAtSide 12 = .ok (.isub, 1) := by decide +kernel
theorem dX12_isAtSide_13 : decode cX12_isAtSide 13 = .ok (.if_icmp .ne 7, 3) := by decide +kernel
theorem dX12_isAtSide_16 : decode cX12_isAtSide 16 = .ok (.iconst 1, 1) := by decide +kernel
theorem dX12_isAtSide_17 : decode cX12_isAtSide 17 = .ok (.goto 58, 3) := by decide +kernel
theorem dX12_isAtSide_20 : decode cX12_isAtSide 20 = .ok (.iconst 0, 1) := by decide +kernel
theorem dX12_isAtSide_21 : decode cX12_isAtSide 21 = .ok (.goto 54, 3) := by decide +kernel
theorem dX12_isAtSide_24 : decode cX12_isAtSide 24 = .ok (.iload_n 3, 1) := by decide +kernel
theorem dX12_isAtSide_25 : decode cX12_isAtSide 25 = .ok (.iconst 1, 1) := by decide +kernel
theorem dX12_isAtSide_26 : decode cX12_isAtSide 26 = .ok (.if_icmp .ne 23, 3) := by decide +kernel
theorem dX12_isAtSide_29 : decode cX12_isAtSide 29 = .ok (.iload_n 1, 1) := by decide +kernel
theorem dX12_isAtSide_30 : decode cX12_isAtSide 30 = .ok (.aload_n 0, 1) := by decide +kernel
theorem dX12_isAtSide_31 : decode cX12_isAtSide 31 = .ok (.getfield 20, 3) := by decide +kernel
theorem dX12_isAtSide_34 : decode cX12_isAtSide 34 = .ok (.iconst 0, 1) := by decide +kernel
theorem dX12_isAtSide_35 : decode cX12_isAtSide 35 = .ok (.iaload, 1) := by decide +kernel
theorem dX12_isAtSide_36 : decode cX12_isAtSide 36 = .ok (.iconst 1, 1) := by decide +kernel
theorem dX12_isAtSide_37 : decode cX12_isAtSide 37 = .ok (.isub, 1) := by decide +kernel
theorem dX12_isAtSide_38 : decode cX12_isAtSide 38 = .ok (.if_icmp .ne 7, 3) := by decide +kernel
theorem dX12_isAtSide_41 : decode cX12_isAtSide 41 = .ok (.iconst 1, 1) := by decide +kernel
theorem dX12_isAtSide_42 : decode cX12_isAtSide 42 = .ok (.goto 33, 3) := by decide +kernel
theorem dX12_isAtSide_45 : decode cX12_isAtSide 45 = .ok (.iconst 0, 1) := by decide +kernel
theorem dX12_isAtSide_46 : decode cX12_isAtSide 46 = .ok (.goto 29, 3) := by decide +kernel
theorem dX12_isAtSide_49 : decode cX12_isAtSide 49 = .ok (.iload_n 3, 1) := by decide +kernel
theorem dX12_isAtSide_50 : decode cX12_isAtSide 50 = .ok (.iconst 2, 1) := by decide +kernel
theorem dX12_isAtSide_51 : decode cX12_isAtSide 51 = .ok (.if_icmp .ne 15, 3) := by decide +kernel
theorem dX12_isAtSide_54 : decode cX12_isAtSide 54 = .ok (.iload_n 2, 1) := by decide +kernel
theorem dX12_isAtSide_55 : decode cX12_isAtSide 55 = .ok (.ifCond .ne 7, 3) := by decide +kernel
theorem dX12_isAtSide_58 : decode cX12_isAtSide 58 = .ok (.iconst 1, 1) := by decide +kernel
theorem dX12_isAtSide_59 : decode cX12_isAtSide 59 = .ok (.goto 16, 3) := by decide +kernel
theorem dX12_isAtSide_62 : decode cX12_isAtSide 62 = .ok (.iconst 0, 1) := by decide +kernel
theorem dX12_isAtSide_63 : decode cX12_isAtSide 63 = .ok (.goto 12, 3) := by decide +kernel
theorem dX12_isAtSide_66 : decode cX12_isAtSide 66 = .ok (.iload_n 1, 1) := by decide +kernel
theorem dX12_isAtSide_67 : decode cX12_isAtSide 67 = .ok (.ifCond .ne 7, 3) := by decide +kernel
theorem dX12_isAtSide_70 : decode cX12_isAtSide 70 = .ok (.iconst 1, 1) := by decide +kernel
theorem dX12_isAtSide_71 : decode cX12_isAtSide 71 = .ok (.goto 4, 3) := by decide +kernel
theorem dX12_isAtSide_74 : decode cX12_isAtSide 74 = .ok (.iconst 0, 1) := by decide +kernel
theorem dX12_isAtSide_75 : decode cX12_isAtSide 75 = .ok (.ireturn, 1) := by decide +kernel
theorem dX12_comesInto_0 : decode cX12_comesInto 0 = .ok (.aload_n 0, 1) := by decide +kernel
theorem dX12_comesInto_1 : decode cX12_comesInto 1 = .ok (.getfield 35, 3) := by decide +kernel
theorem dX12_comesInto_4 : decode cX12_comesInto 4 = .ok (.bipush 9, 2) := by decide +kernel
theorem dX12_comesInto_6 : decode cX12_comesInto 6 = .ok (.iload_n 2, 1) := by decide +kernel
theorem dX12_comesInto_7 : decode cX12_comesInto 7 = .ok (.imul, 1) := by decide +kernel
theorem dX12_comesInto_8 : decode cX12_comesInto 8 = .ok (.iload_n 1, 1) := by decide +kernel
theorem dX12_comesInto_9 : decode cX12_comesInto 9 = .ok (.iadd, 1) := by decide +kernel
theorem dX12_comesInto_10 : decode cX12_comesInto 10 = .ok (.iaload, 1) := by decide +kernel
theorem dX12_comesInto_11 : decode cX12_comesInto 11 = .ok (.iconst (-1), 1) := by decide +kernel
theorem dX12_comesInto_12 : decode cX12_comesInto 12 = .ok (.if_icmp .eq 4, 3) := by decide +kernel
theorem dX12_comesInto_15 : decode cX12_comesInto 15 = .ok (.return_, 1) := by decide +kernel
theorem dX12_comesInto_16 : decode cX12_comesInto 16 = .ok (.aload_n 0, 1) := by decide +kernel
theorem dX12_comesInto_17 : decode cX12_comesInto 17 = .ok (.getfield 35, 3) := by decide +kernel
theorem dX12_comesInto_20 : decode cX12_comesInto 20 = .ok (.bipush 9, 2) := by decide +kernel
theorem dX12_comesInto_22 : decode cX12_comesInto 22 = .ok (.iload_n 2, 1) := by decide +kernel
theorem dX12_comesInto_23 : decode cX12_comesInto 23 = .ok (.imul, 1) := by decide +kernel
theorem dX12_comesInto_24 : decode cX12_comesInto 24 = .ok (.iload_n 1, 1) := by decide +kernel
theorem dX12_comesInto_25 : decode cX12_comesInto 25 = .ok (.iadd, 1) := by decide +kernel
theorem dX12_comesInto_26 : decode cX12_comesInto 26 = .ok (.iload_n 3, 1) := by decide +kernel
theorem dX12_comesInto_27 : decode cX12_comesInto 27 = .ok (.iastore, 1) := by decide +kernel
theorem dX12_comesInto_28 : decode cX12_comesInto 28 = .ok (.aload_n 0, 1) := by decide +kernel
theorem dX12_comesInto_29 : decode cX12_comesInto 29 = .ok (.getfield 38, 3) := by decide +kernel
theorem dX12_comesInto_32 : decode cX12_comesInto 32 = .ok (.aload_n 0, 1) := by decide +kernel
theorem dX12_comesInto_33 : decode cX12_comesInto 33 = .ok (.getfield 196, 3) := by decide +kernel
theorem dX12_comesInto_36 : decode cX12_comesInto 36 = .ok (.bipush 9, 2) := by decide +kernel
theorem dX12_comesInto_38 : decode cX12_comesInto 38 = .ok (.iload_n 2, 1) := by decide +kernel
theorem dX12_comesInto_39 : decode cX12_comesInto 39 = .ok (.imul, 1) := by decide +kernel
theorem dX12_comesInto_40 : decode cX12_comesInto 40 = .ok (.iload_n 1, 1) := by decide +kernel
theorem dX12_comesInto_41 : decode cX12_comesInto 41 = .ok (.iadd, 1) := by decide +kernel
theorem dX12_comesInto_42 : decode cX12_comesInto 42 = .ok (.iastore, 1) := by decide +kernel
theorem dX12_comesInto_43 : decode cX12_comesInto 43 = .ok (.aload_n 0, 1) := by decide +kernel
theorem dX12_comesInto_44 : decode cX12_comesInto 44 = .ok (.dup, 1) := by decide +kernel
theorem dX12_comesInto_45 : decode cX12_comesInto 45 = .ok (.getfield 196, 3) := by decide +kernel
theorem dX12_comesInto_48 : decode cX12_comesInto 48 = .ok (.iconst 1, 1) := by decide +kernel
theorem dX12_comesInto_49 : decode cX12_comesInto 49 = .ok (.iadd, 1) := by decide +kernel
theorem dX12_comesInto_50 : decode cX12_comesInto 50 = .ok (.putfield 196, 3) := by decide +kernel
theorem dX12_comesInto_53 : decode cX12_comesInto 53 = .ok (.return_, 1) := by decide +kernel
theorem dX12_lays_0 : decode cX12_lays 0 = .ok (.aload_n 0, 1) := by decide +kernel
theorem dX12_lays_1 : decode cX12_lays 1 = .ok (.iconst 0, 1) := by decide +kernel
theorem dX12_lays_2 : decode cX12_lays 2 = .ok (.putfield 196, 3) := by decide +kernel
theorem dX12_lays_5 : decode cX12_lays 5 = .ok (.iconst 0, 1) := by decide +kernel
theorem dX12_lays_6 : decode cX12_lays 6 = .ok (.istore_n 2, 1) := by decide +kernel
theorem dX12_lays_7 : decode cX12_lays 7 = .ok (.iload_n 2, 1) := by decide +kernel
theorem dX12_lays_8 : decode cX12_lays 8 = .ok (.bipush 81, 2) := by decide +kernel
theorem dX12_lays_10 : decode cX12_lays 10 = .ok (.if_icmp .ge 16, 3) := by decide +kernel
theorem dX12_lays_13 : decode cX12_lays 13 = .ok (.aload_n 0, 1) := by decide +kernel
theorem dX12_lays_14 : decode cX12_lays 14 = .ok (.getfield 35, 3) := by decide +kernel
theorem dX12_lays_17 : decode cX12_lays 17 = .ok (.iload_n 2, 1) := by decide +kernel
theorem dX12_lays_18 : decode cX12_lays 18 = .ok (.iconst (-1), 1) := by decide +kernel
theorem dX12_lays_19 : decode cX12_lays 19 = .ok (.iastore, 1) := by decide +kernel
theorem dX12_lays_20 : decode cX12_lays 20 = .ok (.iinc 2 1, 3) := by decide +kernel
theorem dX12_lays_23 : decode cX12_lays 23 = .ok (.goto (-16), 3) := by decide +kernel
theorem dX12_lays_26 : decode cX12_lays 26 = .ok (.iconst 0, 1) := by decide +kernel
theorem dX12_lays_27 : decode cX12_lays 27 = .ok (.istore_n 2, 1) := by decide +kernel
theorem dX12_lays_28 : decode cX12_lays 28 = .ok (.iload_n 2, 1) := by decide +kernel
theorem dX12_lays_29 : decode cX12_lays 29 = .ok (.aload_n 0, 1) := by decide +kernel
theorem dX12_lays_30 : decode cX12_lays 30 = .ok (.getfield 20, 3) := by decide +kernel
theorem dX12_lays_33 : decode cX12_lays 33 = .ok (.iconst 1, 1) := by decide +kernel
theorem dX12_lays_34 : decode cX12_lays 34 = .ok (.iaload, 1) := by decide +kernel
theorem dX12_lays_35 : decode cX12_lays 35 = .ok (.if_icmp .ge 44, 3) := by decide +kernel
theorem dX12_lays_38 : decode cX12_lays 38 = .ok (.iconst 0, 1) := by decide +kernel
theorem dX12_lays_39 : decode cX12_lays 39 = .ok (.istore_n 3, 1) := by decide +kernel
theorem dX12_lays_40 : decode cX12_lays 40 = .ok (.iload_n 3, 1) := by decide +kernel
theorem dX12_lays_41 : decode cX12_lays 41 = .ok (.aload_n 0, 1) := by decide +kernel
theorem dX12_lays_42 : decode cX12_lays 42 = .ok (.getfield 20, 3) := by decide +kernel
theorem dX12_lays_45 : decode cX12_lays 45 = .ok (.iconst 0, 1) := by decide +kernel
theorem dX12_lays_46 : decode cX12_lays 46 = .ok (.iaload, 1) := by decide +kernel
theorem dX12_lays_47 : decode cX12_lays 47 = .ok (.if_icmp .ge 26, 3) := by decide +kernel
theorem dX12_lays_50 : decode cX12_lays 50 = .ok (.aload_n 0, 1) := by decide +kernel
theorem dX12_lays_51 : decode cX12_lays 51 = .ok (.iload_n 3, 1) := by decide +kernel
theorem dX12_lays_52 : decode cX12_lays 52 = .ok (.iload_n 2, 1) := by decide +kernel
theorem dX12_lays_53 : decode cX12_lays 53 = .ok (.iload_n 1, 1) := by decide +kernel
theorem dX12_lays_54 : decode cX12_lays 54 = .ok (.invokevirtual 199, 3) := by decide +kernel
theorem dX12_lays_57 : decode cX12_lays 57 = .ok (.ifCond .eq 10, 3) := by decide +kernel
theorem dX12_lays_60 : decode cX12_lays 60 = .ok (.aload_n 0, 1) := by decide +kernel
theorem dX12_lays_61 : decode cX12_lays 61 = .ok (.iload_n 3, 1) := by decide +kernel
theorem dX12_lays_62 : decode cX12_lays 62 = .ok (.iload_n 2, 1) := by decide +kernel
theorem dX12_lays_63 : decode cX12_lays 63 = .ok (.iconst 0, 1) := by decide +kernel
theorem dX12_lays_64 : decode cX12_lays 64 = .ok (.invokevirtual 203, 3) := by decide +kernel
theorem dX12_lays_67 : decode cX12_lays 67 = .ok (.iinc 3 1, 3) := by decide +kernel
theorem dX12_lays_70 : decode cX12_lays 70 = .ok (.goto (-30), 3) := by decide +kernel
theorem dX12_lays_73 : decode cX12_lays 73 = .ok (.iinc 2 1, 3) := by decide +kernel
theorem dX12_lays_76 : decode cX12_lays 76 = .ok (.goto (-48), 3) := by decide +kernel
theorem dX12_lays_79 : decode cX12_lays 79 = .ok (.iconst 0, 1) := by decide +kernel
theorem dX12_lays_80 : decode cX12_lays 80 = .ok (.istore_n 2, 1) := by decide +kernel
theorem dX12_lays_81 : decode cX12_lays 81 = .ok (.iload_n 2, 1) := by decide +kernel
theorem dX12_lays_82 : decode cX12_lays 82 = .ok (.aload_n 0, 1) := by decide +kernel
theorem dX12_lays_83 : decode cX12_lays 83 = .ok (.getfield 196, 3) := by decide +kernel
theorem dX12_lays_86 : decode cX12_lays 86 = .ok (.if_icmp .ge 19, 3) := by decide +kernel
theorem dX12_lays_89 : decode cX12_lays 89 = .ok (.aload_n 0, 1) := by decide +kernel
theorem dX12_lays_90 : decode cX12_lays 90 = .ok (.aload_n 0, 1) := by decide +kernel
theorem dX12_lays_91 : decode cX12_lays 91 = .ok (.getfield 38, 3) := by decide +kernel
theorem dX12_lays_94 : decode cX12_lays 94 = .ok (.iload_n 2, 1) := by decide +kernel
theorem dX12_lays_95 : decode cX12_lays 95 = .ok (.iaload, 1) := by decide +kernel
theorem dX12_lays_96 : decode cX12_lays 96 = .ok (.invokevirtual 207, 3) := by decide +kernel
theorem dX12_lays_99 : decode cX12_lays 99 = .ok (.iinc 2 1, 3) := by decide +kernel
theorem dX12_lays_102 : decode cX12_lays 102 = .ok (.goto (-21), 3) := by decide +kernel
theorem dX12_lays_105 : decode cX12_lays 105 = .ok (.return_, 1) := by decide +kernel
theorem dX12_goesAround_0 : decode cX12_goesAround 0 = .ok (.iload_n 1, 1) := by decide +kernel
theorem dX12_goesAround_1 : decode cX12_goesAround 1 = .ok (.bipush 9, 2) := by decide +kernel
theorem dX12_goesAround_3 : decode cX12_goesAround 3 = .ok (.irem, 1) := by decide +kernel
theorem dX12_goesAround_4 : decode cX12_goesAround 4 = .ok (.istore_n 2, 1) := by decide +kernel
theorem dX12_goesAround_5 : decode cX12_goesAround 5 = .ok (.iload_n 1, 1) := by decide +kernel
theorem dX12_goesAround_6 : decode cX12_goesAround 6 = .ok (.bipush 9, 2) := by decide +kernel
theorem dX12_goesAround_8 : decode cX12_goesAround 8 = .ok (.idiv, 1) := by decide +kernel
theorem dX12_goesAround_9 : decode cX12_goesAround 9 = .ok (.istore_n 3, 1) := by decide +kernel
theorem dX12_goesAround_10 : decode cX12_goesAround 10 = .ok (.iconst 0, 1) := by decide +kernel
theorem dX12_goesAround_11 : decode cX12_goesAround 11 = .ok (.istore 4, 2) := by decide +kernel
theorem dX12_goesAround_13 : decode cX12_goesAround 13 = .ok (.iload 4, 2) := by decide +kernel
theorem dX12_goesAround_15 : decode cX12_goesAround 15 = .ok (.iconst 4, 1) := by decide +kernel
theorem dX12_goesAround_16 : decode cX12_goesAround 16 = .ok (.if_icmp .ge 46, 3) := by decide +kernel
theorem dX12_goesAround_19 : decode cX12_goesAround 19 = .ok (.aload_n 0, 1) := by decide +kernel
theorem dX12_goesAround_20 : decode cX12_goesAround 20 = .ok (.iload_n 2, 1) := by decide +kernel
theorem dX12_goesAround_21 : decode cX12_goesAround 21 = .ok (.iload_n 3, 1) := by decide +kernel
theorem dX12_goesAround_22 : decode cX12_goesAround 22 = .ok (.iload 4, 2) := by decide +kernel
theorem dX12_goesAround_24 : decode cX12_goesAround 24 = .ok (.invokevirtual 210, 3) := by decide +kernel
theorem dX12_goesAround_27 : decode cX12_goesAround 27 = .ok (.ifCond .ne 29, 3) := by decide +kernel
theorem dX12_goesAround_30 : decode cX12_goesAround 30 = .ok (.aload_n 0, 1) := by decide +kernel
theorem dX12_goesAround_31 : decode cX12_goesAround 31 = .ok (.iload_n 2, 1) := by decide +kernel
theorem dX12_goesAround_32 : decode cX12_goesAround 32 = .ok (.iload 4, 2) := by decide +kernel
theorem dX12_goesAround_34 : decode cX12_goesAround 34 = .ok (.invokestatic 181, 3) := by decide +kernel
theorem dX12_goesAround_37 : decode cX12_goesAround 37 = .ok (.iadd, 1) := by decide +kernel
theorem dX12_goesAround_38 : decode cX12_goesAround 38 = .ok (.iload_n 3, 1) := by decide +kernel
theorem dX12_goesAround_39 : decode cX12_goesAround 39 = .ok (.iload 4, 2) := by decide +kernel
theorem dX12_goesAround_41 : decode cX12_goesAround 41 = .ok (.invokestatic 184, 3) := by decide +kernel
theorem dX12_goesAround_44 : decode cX12_goesAround 44 = .ok (.iadd, 1) := by decide +kernel
theorem dX12_goesAround_45 : decode cX12_goesAround 45 = .ok (.aload_n 0, 1) := by decide +kernel
theorem dX12_goesAround_46 : decode cX12_goesAround 46 = .ok (.getfield 35, 3) := by decide +kernel
theorem dX12_goesAround_49 : decode cX12_goesAround 49 = .ok (.iload_n 1, 1) := by decide +kernel
theorem dX12_goesAround_50 : decode cX12_goesAround 50 = .ok (.iaload, 1) := by decide +kernel
theorem dX12_goesAround_51 : decode cX12_goesAround 51 = .ok (.iconst 1, 1) := by decide +kernel
theorem dX12_goesAround_52 : decode cX12_goesAround 52 = .ok (.iadd, 1) := by decide +kernel
theorem dX12_goesAround_53 : decode cX12_goesAround 53 = .ok (.invokevirtual 203, 3) := by decide +kernel
theorem dX12_goesAround_56 : decode cX12_goesAround 56 = .ok (.iinc 4 1, 3) := by decide +kernel
theorem dX12_goesAround_59 : decode cX12_goesAround 59 = .ok (.goto (-46), 3) := by decide +kernel
theorem dX12_goesAround_62 : decode cX12_goesAround 62 = .ok (.return_, 1) := by decide +kernel
theorem dX12_cellOf_0 : decode cX12_cellOf 0 = .ok (.bipush 9, 2) := by decide +kernel
theorem dX12_cellOf_2 : decode cX12_cellOf 2 = .ok (.aload_n 0, 1) := by decide +kernel
theorem dX12_cellOf_3 : decode cX12_cellOf 3 = .ok (.iload_n 1, 1) := by decide +kernel
theorem dX12_cellOf_4 : decode cX12_cellOf 4 = .ok (.iconst 1, 1) := by decide +kernel
theorem dX12_cellOf_5 : decode cX12_cellOf 5 = .ok (.invokevirtual 174, 3) := by decide +kernel
theorem dX12_cellOf_8 : decode cX12_cellOf 8 = .ok (.imul, 1) := by decide +kernel
theorem dX12_cellOf_9 : decode cX12_cellOf 9 = .ok (.aload_n 0, 1) := by decide +kernel
theorem dX12_cellOf_10 : decode cX12_cellOf 10 = .ok (.iload_n 1, 1) := by decide +kernel
theorem dX12_cellOf_11 : decode cX12_cellOf 11 = .ok (.iconst 0, 1) := by decide +kernel
theorem dX12_cellOf_12 : decode cX12_cellOf 12 = .ok (.invokevirtual 174, 3) := by decide +kernel
theorem dX12_cellOf_15 : decode cX12_cellOf 15 = .ok (.iadd, 1) := by decide +kernel
theorem dX12_cellOf_16 : decode cX12_cellOf 16 = .ok (.ireturn, 1) := by decide +kernel
theorem dX12_distanceOf_0 : decode cX12_distanceOf 0 = .ok (.aload_n 0, 1) := by decide +kernel
theorem dX12_distanceOf_1 : decode cX12_distanceOf 1 = .ok (.iload_n 1, 1) := by decide +kernel
theorem dX12_distanceOf_2 : decode cX12_distanceOf 2 = .ok (.invokevirtual 213, 3) := by decide +kernel
theorem dX12_distanceOf_5 : decode cX12_distanceOf 5 = .ok (.ifCond .eq 5, 3) := by decide +kernel
theorem dX12_distanceOf_8 : decode cX12_distanceOf 8 = .ok (.iconst 0, 1) := by decide +kernel
theorem dX12_distanceOf_9 : decode cX12_distanceOf 9 = .ok (.ireturn, 1) := by decide +kernel
theorem dX12_distanceOf_10 : decode cX12_distanceOf 10 = .ok (.aload_n 0, 1) := by decide +kernel
theorem dX12_distanceOf_11 : decode cX12_distanceOf 11 = .ok (.aload_n 0, 1) := by decide +kernel
theorem dX12_distanceOf_12 : decode cX12_distanceOf 12 = .ok (.iload_n 1, 1) := by decide +kernel
theorem dX12_distanceOf_13 : decode cX12_distanceOf 13 = .ok (.iconst 2, 1) := by decide +kernel
theorem dX12_distanceOf_14 : decode cX12_distanceOf 14 = .ok (.invokevirtual 174, 3) := by decide +kernel
theorem dX12_distanceOf_17 : decode cX12_distanceOf 17 = .ok (.invokevirtual 216, 3) := by decide +kernel
theorem dX12_distanceOf_20 : decode cX12_distanceOf 20 = .ok (.aload_n 0, 1) := by decide +kernel
theorem dX12_distanceOf_21 : decode cX12_distanceOf 21 = .ok (.getfield 35, 3) := by decide +kernel
theorem dX12_distanceOf_24 : decode cX12_distanceOf 24 = .ok (.aload_n 0, 1) := by decide +kernel
theorem dX12_distanceOf_25 : decode cX12_distanceOf 25 = .ok (.iload_n 1, 1) := by decide +kernel
theorem dX12_distanceOf_26 : decode cX12_distanceOf 26 = .ok (.invokevirtual 219, 3) := by decide +kernel
theorem dX12_distanceOf_29 : decode cX12_distanceOf 29 = .ok (.iaload, 1) := by decide +kernel
theorem dX12_distanceOf_30 : decode cX12_distanceOf 30 = .ok (.ireturn, 1) := by decide +kernel
theorem dX12_haveWays_0 : decode cX12_haveWays 0 = .ok (.iconst 1, 1) := by decide +kernel
theorem dX12_haveWays_1 : decode cX12_haveWays 1 = .ok (.istore_n 1, 1) := by decide +kernel
theorem dX12_haveWays_2 : decode cX12_haveWays 2 = .ok (.iconst 0, 1) := by decide +kernel
theorem dX12_haveWays_3 : decode cX12_haveWays 3 = .ok (.istore_n 2, 1) := by decide +kernel
theorem dX12_haveWays_4 : decode cX12_haveWays 4 = .ok (.iload_n 2, 1) := by decide +kernel
theorem dX12_haveWays_5 : decode cX12_haveWays 5 = .ok (.aload_n 0, 1) := by decide +kernel
theorem dX12_haveWays_6 : decode cX12_haveWays 6 = .ok (.getfield 20, 3) := by decide +kernel
theorem dX12_haveWays_9 : decode cX12_haveWays 9 = .ok (.iconst 2, 1) := by decide +kernel
theorem dX12_haveWays_10 : decode cX12_haveWays 10 = .ok (.iaload, 1) := by decide +kernel
theorem dX12_haveWays_11 : decode cX12_haveWays 11 = .ok (.if_icmp .ge 28, 3) := by decide +kernel
theorem dX12_haveWays_14 : decode cX12_haveWays 14 = .ok (.iload_n 1, 1) := by decide +kernel
theorem dX12_haveWays_15 : decode cX12_haveWays 15 = .ok (.ifCond .eq 24, 3) := by decide +kernel
theorem dX12_haveWays_18 : decode cX12_haveWays 18 = .ok (.aload_n 0, 1) := by decide +kernel
theorem dX12_haveWays_19 : decode cX12_haveWays 19 = .ok (.iload_n 2, 1) := by decide +kernel
theorem dX12_haveWays_20 : decode cX12_haveWays 20 = .ok (.invokevirtual 222, 3) := by decide +kernel
theorem dX12_haveWays_23 : decode cX12_haveWays 23 = .ok (.iconst (-1), 1) := by decide +kernel
theorem dX12_haveWays_24 : decode cX12_haveWays 24 = .ok (.if_icmp .eq 7, 3) := by decide +kernel
theorem dX12_haveWays_27 : decode cX12_haveWays 27 = .ok (.iconst 1, 1) := by decide +kernel
theorem dX12_haveWays_28 : decode cX12_haveWays 28 = .ok (.goto 4, 3) := by decide +kernel
theorem dX12_haveWays_31 : decode cX12_haveWays 31 = .ok (.iconst 0, 1) := by decide +kernel
theorem dX12_haveWays_32 : decode cX12_haveWays 32 = .ok (.istore_n 1, 1) := by decide +kernel
theorem dX12_haveWays_33 : decode cX12_haveWays 33 = .ok (.iinc 2 1, 3) := by decide +kernel
theorem dX12_haveWays_36 : decode cX12_haveWays 36 = .ok (.goto (-32), 3) := by decide +kernel
theorem dX12_haveWays_39 : decode cX12_haveWays 39 = .ok (.iload_n 1, 1) := by decide +kernel
theorem dX12_haveWays_40 : decode cX12_haveWays 40 = .ok (.ireturn, 1) := by decide +kernel
theorem dX12_hasRoom_0 : decode cX12_hasRoom 0 = .ok (.aload_n 0, 1) := by decide +kernel
theorem dX12_hasRoom_1 : decode cX12_hasRoom 1 = .ok (.iload_n 1, 1) := by decide +kernel
theorem dX12_hasRoom_2 : decode cX12_hasRoom 2 = .ok (.iload_n 2, 1) := by decide +kernel
theorem dX12_hasRoom_3 : decode cX12_hasRoom 3 = .ok (.invokevirtual 193, 3) := by decide +kernel
theorem dX12_hasRoom_6 : decode cX12_hasRoom 6 = .ok (.ifCond .eq 5, 3) := by decide +kernel
theorem dX12_hasRoom_9 : decode cX12_hasRoom 9 = .ok (.iconst 0, 1) := by decide +kernel
theorem dX12_hasRoom_10 : decode cX12_hasRoom 10 = .ok (.ireturn, 1) := by decide +kernel
theorem dX12_hasRoom_11 : decode cX12_hasRoom 11 = .ok (.iload_n 3, 1) := by decide +kernel
theorem dX12_hasRoom_12 : decode cX12_hasRoom 12 = .ok (.iconst 1, 1) := by decide +kernel
theorem dX12_hasRoom_13 : decode cX12_hasRoom 13 = .ok (.if_icmp .ne 35, 3) := by decide +kernel
theorem dX12_hasRoom_16 : decode cX12_hasRoom 16 = .ok (.aload_n 0, 1) := by decide +kernel
theorem dX12_hasRoom_17 : decode cX12_hasRoom 17 = .ok (.iload_n 1, 1) := by decide +kernel
theorem dX12_hasRoom_18 : decode cX12_hasRoom 18 = .ok (.iconst 1, 1) := by decide +kernel
theorem dX12_hasRoom_19 : decode cX12_hasRoom 19 = .ok (.isub, 1) := by decide +kernel
theorem dX12_hasRoom_20 : decode cX12_hasRoom 20 = .ok (.iload_n 2, 1) := by decide +kernel
theorem dX12_hasRoom_21 : decode cX12_hasRoom 21 = .ok (.invokevirtual 193, 3) := by decide +kernel
theorem dX12_hasRoom_24 : decode cX12_hasRoom 24 = .ok (.iconst 1, 1) := by decide +kernel
theorem dX12_hasRoom_25 : decode cX12_hasRoom 25 = .ok (.if_icmp .eq 19, 3) := by decide +kernel
theorem dX12_hasRoom_28 : decode cX12_hasRoom 28 = .ok (.aload_n 0, 1) := by decide +kernel
theorem dX12_hasRoom_29 : decode cX12_hasRoom 29 = .ok (.iload_n 1, 1) := by decide +kernel
theorem dX12_hasRoom_30 : decode cX12_hasRoom 30 = .ok (.iconst 1, 1) := by decide +kernel
theorem dX12_hasRoom_31 : decode cX12_hasRoom 31 = .ok (.iadd, 1) := by decide +kernel
theorem dX12_hasRoom_32 : decode cX12_hasRoom 32 = .ok (.iload_n 2, 1) := by decide +kernel
theorem dX12_hasRoom_33 : decode cX12_hasRoom 33 = .ok (.invokevirtual 193, 3) := by decide +kernel
theorem dX12_hasRoom_36 : decode cX12_hasRoom 36 = .ok (.iconst 1, 1) := by decide +kernel
theorem dX12_hasRoom_37 : decode cX12_hasRoom 37 = .ok (.if_icmp .eq 7, 3) := by decide +kernel
theorem dX12_hasRoom_40 : decode cX12_hasRoom 40 = .ok (.iconst 1, 1) := by decide +kernel
theorem dX12_hasRoom_41 : decode cX12_hasRoom 41 = .ok (.goto 36, 3) := by decide +kernel
theorem dX12_hasRoom_44 : decode cX12_hasRoom 44 = .ok (.iconst 0, 1) := by decide +kernel
theorem dX12_hasRoom_45 : decode cX12_hasRoom 45 = .ok (.goto 32, 3) := by decide +kernel
theorem dX12_hasRoom_48 : decode cX12_hasRoom 48 = .ok (.aload_n 0, 1) := by decide +kernel
theorem dX12_hasRoom_49 : decode cX12_hasRoom 49 = .ok (.iload_n 1, 1) := by decide +kernel
theorem dX12_hasRoom_50 : decode cX12_hasRoom 50 = .ok (.iload_n 2, 1) := by decide +kernel
theorem dX12_hasRoom_51 : decode cX12_hasRoom 51 = .ok (.iconst 1, 1) := by decide +kernel
theorem dX12_hasRoom_52 : decode cX12_hasRoom 52 = .ok (.isub, 1) := by decide +kernel
theorem dX12_hasRoom_53 : decode cX12_hasRoom 53 = .ok (.invokevirtual 193, 3) := by decide +kernel
theorem dX12_hasRoom_56 : decode cX12_hasRoom 56 = .ok (.iconst 2, 1) := by decide +kernel
theorem dX12_hasRoom_57 : decode cX12_hasRoom 57 = .ok (.if_icmp .eq 19, 3) := by decide +kernel
theorem dX12_hasRoom_60 : decode cX12_hasRoom 60 = .ok (.aload_n 0, 1) := by decide +kernel
theorem dX12_hasRoom_61 : decode cX12_hasRoom 61 = .ok (.iload_n 1, 1) := by decide +kernel
theorem dX12_hasRoom_62 : decode cX12_hasRoom 62 = .ok (.iload_n 2, 1) := by decide +kernel
theorem dX12_hasRoom_63 : decode cX12_hasRoom 63 = .ok (.iconst 1, 1) := by decide +kernel
theorem dX12_hasRoom_64 : decode cX12_hasRoom 64 = .ok (.iadd, 1) := by decide +kernel
theorem dX12_hasRoom_65 : decode cX12_hasRoom 65 = .ok (.invokevirtual 193, 3) := by decide +kernel
theorem dX12_hasRoom_68 : decode cX12_hasRoom 68 = .ok (.iconst 2, 1) := by decide +kernel
theorem dX12_hasRoom_69 : decode cX12_hasRoom 69 = .ok (.if_icmp .eq 7, 3) := by decide +kernel
theorem dX12_hasRoom_72 : decode cX12_hasRoom 72 = .ok (.iconst 1, 1) := by decide +kernel
theorem dX12_hasRoom_73 : decode cX12_hasRoom 73 = .ok (.goto 4, 3) := by decide +kernel
theorem dX12_hasRoom_76 : decode cX12_hasRoom 76 = .ok (.iconst 0, 1) := by decide +kernel
theorem dX12_hasRoom_77 : decode cX12_hasRoom 77 = .ok (.ireturn, 1) := by decide +kernel
theorem dX12_admits_0 : decode cX12_admits 0 = .ok (.aload_n 0, 1) := by decide +kernel
theorem dX12_admits_1 : decode cX12_admits 1 = .ok (.iload_n 1, 1) := by decide +kernel
theorem dX12_admits_2 : decode cX12_admits 2 = .ok (.iload_n 2, 1) := by decide +kernel
theorem dX12_admits_3 : decode cX12_admits 3 = .ok (.iload_n 3, 1) := by decide +kernel
theorem dX12_admits_4 : decode cX12_admits 4 = .ok (.invokevirtual 225, 3) := by decide +kernel
theorem dX12_admits_7 : decode cX12_admits 7 = .ok (.ifCond .ne 5, 3) := by decide +kernel
theorem dX12_admits_10 : decode cX12_admits 10 = .ok (.iconst 0, 1) := by decide +kernel
theorem dX12_admits_11 : decode cX12_admits 11 = .ok (.ireturn, 1) := by decide +kernel
theorem dX12_admits_12 : decode cX12_admits 12 = .ok (.aload_n 0, 1) := by decide +kernel
theorem dX12_admits_13 : decode cX12_admits 13 = .ok (.getfield 20, 3) := by decide +kernel
theorem dX12_admits_16 : decode cX12_admits 16 = .ok (.bipush 120, 2) := by decide +kernel
theorem dX12_admits_18 : decode cX12_admits 18 = .ok (.bipush 8, 2) := by decide +kernel
theorem dX12_admits_20 : decode cX12_admits 20 = .ok (.iload_n 2, 1) := by decide +kernel
theorem dX12_admits_21 : decode cX12_admits 21 = .ok (.imul, 1) := by decide +kernel
theorem dX12_admits_22 : decode cX12_admits 22 = .ok (.iadd, 1) := by decide +kernel
theorem dX12_admits_23 : decode cX12_admits 23 = .ok (.iload_n 1, 1) := by decide +kernel
theorem dX12_admits_24 : decode cX12_admits 24 = .ok (.iadd, 1) := by decide +kernel
theorem dX12_admits_25 : decode cX12_admits 25 = .ok (.iload_n 3, 1) := by decide +kernel
theorem dX12_admits_26 : decode cX12_admits 26 = .ok (.iastore, 1) := by decide +kernel
theorem dX12_admits_27 : decode cX12_admits 27 = .ok (.aload_n 0, 1) := by decide +kernel
theorem dX12_admits_28 : decode cX12_admits 28 = .ok (.invokevirtual 228, 3) := by decide +kernel
theorem dX12_admits_31 : decode cX12_admits 31 = .ok (.istore 4, 2) := by decide +kernel
theorem dX12_admits_33 : decode cX12_admits 33 = .ok (.aload_n 0, 1) := by decide +kernel
theorem dX12_admits_34 : decode cX12_admits 34 = .ok (.getfield 20, 3) := by decide +kernel
theorem dX12_admits_37 : decode cX12_admits 37 = .ok (.bipush 120, 2) := by decide +kernel
theorem dX12_admits_39 : decode cX12_admits 39 = .ok (.bipush 8, 2) := by decide +kernel
theorem dX12_admits_41 : decode cX12_admits 41 = .ok (.iload_n 2, 1) := by decide +kernel
theorem dX12_admits_42 : decode cX12_admits 42 = .ok (.imul, 1) := by decide +kernel
theorem dX12_admits_43 : decode cX12_admits 43 = .ok (.iadd, 1) := by decide +kernel
theorem dX12_admits_44 : decode cX12_admits 44 = .ok (.iload_n 1, 1) := by decide +kernel
theorem dX12_admits_45 : decode cX12_admits 45 = .ok (.iadd, 1) := by decide +kernel
theorem dX12_admits_46 : decode cX12_admits 46 = .ok (.iconst 0, 1) := by decide +kernel
theorem dX12_admits_47 : decode cX12_admits 47 = .ok (.iastore, 1) := by decide +kernel
theorem dX12_admits_48 : decode cX12_admits 48 = .ok (.iload 4, 2) := by decide +kernel
theorem dX12_admits_50 : decode cX12_admits 50 = .ok (.ireturn, 1) := by decide +kernel
theorem dX12_wayOf_0 : decode cX12_wayOf 0 = .ok (.iload_n 0, 1) := by decide +kernel
theorem dX12_wayOf_1 : decode cX12_wayOf 1 = .ok (.ifCond .eq 7, 3) := by decide +kernel
theorem dX12_wayOf_4 : decode cX12_wayOf 4 = .ok (.iconst 2, 1) := by decide +kernel
theorem dX12_wayOf_5 : decode cX12_wayOf 5 = .ok (.goto 4, 3) := by decide +kernel
theorem dX12_wayOf_8 : decode cX12_wayOf 8 = .ok (.iconst 1, 1) := by decide +kernel
theorem dX12_wayOf_9 : decode cX12_wayOf 9 = .ok (.ireturn, 1) := by decide +kernel
theorem dX12_named_0 : decode cX12_named 0 = .ok (.iconst (-1), 1) := by decide +kernel
theorem dX12_named_1 : decode cX12_named 1 = .ok (.istore_n 1, 1) := by decide +kernel
theorem dX12_named_2 : decode cX12_named 2 = .ok (.iconst 0, 1) := by decide +kernel
theorem dX12_named_3 : decode cX12_named 3 = .ok (.istore_n 2, 1) := by decide +kernel
theorem dX12_named_4 : decode cX12_named 4 = .ok (.iload_n 2, 1) := by decide +kernel
theorem dX12_named_5 : decode cX12_named 5 = .ok (.aload_n 0, 1) := by decide +kernel
theorem dX12_named_6 : decode cX12_named 6 = .ok (.getfield 20, 3) := by decide +kernel
theorem dX12_named_9 : decode cX12_named 9 = .ok (.iconst 2, 1) := by decide +kernel
theorem dX12_named_10 : decode cX12_named 10 = .ok (.iaload, 1) := by decide +kernel
theorem dX12_named_11 : decode cX12_named 11 = .ok (.if_icmp .ge 29, 3) := by decide +kernel
theorem dX12_named_14 : decode cX12_named 14 = .ok (.aload_n 0, 1) := by decide +kernel
theorem dX12_named_15 : decode cX12_named 15 = .ok (.getfield 41, 3) := by decide +kernel
theorem dX12_named_18 : decode cX12_named 18 = .ok (.iload_n 2, 1) := by decide +kernel
theorem dX12_named_19 : decode cX12_named 19 = .ok (.laload, 1) := by decide +kernel
theorem dX12_named_20 : decode cX12_named 20 = .ok (.aload_n 0, 1) := by decide +kernel
theorem dX12_named_21 : decode cX12_named 21 = .ok (.getfield 123, 3) := by decide +kernel
theorem dX12_named_24 : decode cX12_named 24 = .ok (.lcmp, 1) := by decide +kernel
theorem dX12_named_25 : decode cX12_named 25 = .ok (.ifCond .ne 7, 3) := by decide +kernel
theorem dX12_named_28 : decode cX12_named 28 = .ok (.iload_n 2, 1) := by decide +kernel
theorem dX12_named_29 : decode cX12_named 29 = .ok (.goto 4, 3) := by decide +kernel
theorem dX12_named_32 : decode cX12_named 32 = .ok (.iload_n 1, 1) := by decide +kernel
theorem dX12_named_33 : decode cX12_named 33 = .ok (.istore_n 1, 1) := by decide +kernel
theorem dX12_named_34 : decode cX12_named 34 = .ok (.iinc 2 1, 3) := by decide +kernel
theorem dX12_named_37 : decode cX12_named 37 = .ok (.goto (-33), 3) := by decide +kernel
theorem dX12_named_40 : decode cX12_named 40 = .ok (.iload_n 1, 1) := by decide +kernel
theorem dX12_named_41 : decode cX12_named 41 = .ok (.ireturn, 1) := by decide +kernel
theorem dX12_sideHere_0 : decode cX12_sideHere 0 = .ok (.aload_n 0, 1) := by decide +kernel
theorem dX12_sideHere_1 : decode cX12_sideHere 1 = .ok (.ldc2_w 231, 3) := by decide +kernel
theorem dX12_sideHere_4 : decode cX12_sideHere 4 = .ok (.invokevirtual 156, 3) := by decide +kernel
theorem dX12_sideHere_7 : decode cX12_sideHere 7 = .ok (.ifCond .eq 7, 3) := by decide +kernel
theorem dX12_sideHere_10 : decode cX12_sideHere 10 = .ok (.iconst 0, 1) := by decide +kernel
theorem dX12_sideHere_11 : decode cX12_sideHere 11 = .ok (.goto 46, 3) := by decide +kernel
theorem dX12_sideHere_14 : decode cX12_sideHere 14 = .ok (.aload_n 0, 1) := by decide +kernel
theorem dX12_sideHere_15 : decode cX12_sideHere 15 = .ok (.ldc2_w 233, 3) := by decide +kernel
theorem dX12_sideHere_18 : decode cX12_sideHere 18 = .ok (.invokevirtual 156, 3) := by decide +kernel
theorem dX12_sideHere_21 : decode cX12_sideHere 21 = .ok (.ifCond .eq 7, 3) := by decide +kernel
theorem dX12_sideHere_24 : decode cX12_sideHere 24 = .ok (.iconst 1, 1) := by decide +kernel
theorem dX12_sideHere_25 : decode cX12_sideHere 25 = .ok (.goto 32, 3) := by decide +kernel
theorem dX12_sideHere_28 : decode cX12_sideHere 28 = .ok (.aload_n 0, 1) := by decide +kernel
theorem dX12_sideHere_29 : decode cX12_sideHere 29 = .ok (.ldc2_w 235, 3) := by decide +kernel
theorem dX12_sideHere_32 : decode cX12_sideHere 32 = .ok (.invokevirtual 156, 3) := by decide +kernel
theorem dX12_sideHere_35 : decode cX12_sideHere 35 = .ok (.ifCond .eq 7, 3) := by decide +kernel
theorem dX12_sideHere_38 : decode cX12_sideHere 38 = .ok (.iconst 2, 1) := by decide +kernel
theorem dX12_sideHere_39 : decode cX12_sideHere 39 = .ok (.goto 18, 3) := by decide +kernel
theorem dX12_sideHere_42 : decode cX12_sideHere 42 = .ok (.aload_n 0, 1) := by decide +kernel
theorem dX12_sideHere_43 : decode cX12_sideHere 43 = .ok (.ldc2_w 237, 3) := by decide +kernel
theorem dX12_sideHere_46 : decode cX12_sideHere 46 = .ok (.invokevirtual 156, 3) := by decide +kernel
theorem dX12_sideHere_49 : decode cX12_sideHere 49 = .ok (.ifCond .eq 7, 3) := by decide +kernel
theorem dX12_sideHere_52 : decode cX12_sideHere 52 = .ok (.iconst 3, 1) := by decide +kernel
theorem dX12_sideHere_53 : decode cX12_sideHere 53 = .ok (.goto 4, 3) := by decide +kernel
theorem dX12_sideHere_56 : decode cX12_sideHere 56 = .ok (.iconst (-1), 1) := by decide +kernel
theorem dX12_sideHere_57 : decode cX12_sideHere 57 = .ok (.ireturn, 1) := by decide +kernel
theorem dX12_wayHere_0 : decode cX12_wayHere 0 = .ok (.aload_n 0, 1) := by decide +kernel
theorem dX12_wayHere_1 : decode cX12_wayHere 1 = .ok (.ldc2_w 239, 3) := by decide +kernel
theorem dX12_wayHere_4 : decode cX12_wayHere 4 = .ok (.invokevirtual 156, 3) := by decide +kernel
theorem dX12_wayHere_7 : decode cX12_wayHere 7 = .ok (.ifCond .eq 7, 3) := by decide +kernel
theorem dX12_wayHere_10 : decode cX12_wayHere 10 = .ok (.iconst 1, 1) := by decide +kernel
theorem dX12_wayHere_11 : decode cX12_wayHere 11 = .ok (.goto 18, 3) := by decide +kernel
theorem dX12_wayHere_14 : decode cX12_wayHere 14 = .ok (.aload_n 0, 1) := by decide +kernel
theorem dX12_wayHere_15 : decode cX12_wayHere 15 = .ok (.ldc2_w 241, 3) := by decide +kernel
theorem dX12_wayHere_18 : decode cX12_wayHere 18 = .ok (.invokevirtual 156, 3) := by decide +kernel
theorem dX12_wayHere_21 : decode cX12_wayHere 21 = .ok (.ifCond .eq 7, 3) := by decide +kernel
theorem dX12_wayHere_24 : decode cX12_wayHere 24 = .ok (.iconst 2, 1) := by decide +kernel
theorem dX12_wayHere_25 : decode cX12_wayHere 25 = .ok (.goto 4, 3) := by decide +kernel
theorem dX12_wayHere_28 : decode cX12_wayHere 28 = .ok (.iconst 0, 1) := by decide +kernel
theorem dX12_wayHere_29 : decode cX12_wayHere 29 = .ok (.istore_n 1, 1) := by decide +kernel
theorem dX12_wayHere_30 : decode cX12_wayHere 30 = .ok (.aload_n 0, 1) := by decide +kernel
theorem dX12_wayHere_31 : decode cX12_wayHere 31 = .ok (.invokevirtual 143, 3) := by decide +kernel
theorem dX12_wayHere_34 : decode cX12_wayHere 34 = .ok (.ifCond .eq 12, 3) := by decide +kernel
theorem dX12_wayHere_37 : decode cX12_wayHere 37 = .ok (.iload_n 1, 1) := by decide +kernel
theorem dX12_wayHere_38 : decode cX12_wayHere 38 = .ok (.ifCond .ne 8, 3) := by decide +kernel
theorem dX12_wayHere_41 : decode cX12_wayHere 41 = .ok (.aload_n 0, 1) := by decide +kernel
theorem dX12_wayHere_42 : decode cX12_wayHere 42 = .ok (.iconst 1, 1) := by decide +kernel
theorem dX12_wayHere_43 : decode cX12_wayHere 43 = .ok (.invokevirtual 150, 3) := by decide +kernel
theorem dX12_wayHere_46 : decode cX12_wayHere 46 = .ok (.aload_n 0, 1) := by decide +kernel
theorem dX12_wayHere_47 : decode cX12_wayHere 47 = .ok (.invokevirtual 143, 3) := by decide +kernel
theorem dX12_wayHere_50 : decode cX12_wayHere 50 = .ok (.ifCond .eq 7, 3) := by decide +kernel
theorem dX12_wayHere_53 : decode cX12_wayHere 53 = .ok (.aload_n 0, 1) := by decide +kernel
theorem dX12_wayHere_54 : decode cX12_wayHere 54 = .ok (.invokevirtual 153, 3) := by decide +kernel
theorem dX12_wayHere_57 : decode cX12_wayHere 57 = .ok (.iload_n 1, 1) := by decide +kernel
theorem dX12_wayHere_58 : decode cX12_wayHere 58 = .ok (.ireturn, 1) := by decide +kernel
theorem dX12_readsBoard_0 : decode cX12_readsBoard 0 = .ok (.aload_n 0, 1) := by decide +kernel
theorem dX12_readsBoard_1 : decode cX12_readsBoard 1 = .ok (.getfield 243, 3) := by decide +kernel
theorem dX12_readsBoard_4 : decode cX12_readsBoard 4 = .ok (.ifCond .ne 21, 3) := by decide +kernel
theorem dX12_readsBoard_7 : decode cX12_readsBoard 7 = .ok (.aload_n 0, 1) := by decide +kernel
theorem dX12_readsBoard_8 : decode cX12_readsBoard 8 = .ok (.getfield 20, 3) := by decide +kernel
theorem dX12_readsBoard_11 : decode cX12_readsBoard 11 = .ok (.iconst 2, 1) := by decide +kernel
theorem dX12_readsBoard_12 : decode cX12_readsBoard 12 = .ok (.iaload, 1) := by decide +kernel
theorem dX12_readsBoard_13 : decode cX12_readsBoard 13 = .ok (.ifCond .gt 12, 3) := by decide +kernel
theorem dX12_readsBoard_16 : decode cX12_readsBoard 16 = .ok (.aload_n 0, 1) := by decide +kernel
theorem dX12_readsBoard_17 : decode cX12_readsBoard 17 = .ok (.getfield 20, 3) := by decide +kernel
theorem dX12_readsBoard_20 : decode cX12_readsBoard 20 = .ok (.iconst 3, 1) := by decide +kernel
theorem dX12_readsBoard_21 : decode cX12_readsBoard 21 = .ok (.iaload, 1) := by decide +kernel
theorem dX12_readsBoard_22 : decode cX12_readsBoard 22 = .ok (.ifCond .le 8, 3) := by decide +kernel
theorem dX12_readsBoard_25 : decode cX12_readsBoard 25 = .ok (.aload_n 0, 1) := by decide +kernel
theorem dX12_readsBoard_26 : decode cX12_readsBoard 26 = .ok (.iconst 3, 1) := by decide +kernel
theorem dX12_readsBoard_27 : decode cX12_readsBoard 27 = .ok (.invokevirtual 150, 3) := by decide +kernel
theorem dX12_readsBoard_30 : decode cX12_readsBoard 30 = .ok (.aload_n 0, 1) := by decide +kernel
theorem dX12_readsBoard_31 : decode cX12_readsBoard 31 = .ok (.iconst 1, 1) := by decide +kernel
theorem dX12_readsBoard_32 : decode cX12_readsBoard 32 = .ok (.putfield 243, 3) := by decide +kernel
theorem dX12_readsBoard_35 : decode cX12_readsBoard 35 = .ok (.aload_n 0, 1) := by decide +kernel
theorem dX12_readsBoard_36 : decode cX12_readsBoard 36 = .ok (.invokevirtual 143, 3) := by decide +kernel
theorem dX12_readsBoard_39 : decode cX12_readsBoard 39 = .ok (.ifCond .eq 7, 3) := by decide +kernel
theorem dX12_readsBoard_42 : decode cX12_readsBoard 42 = .ok (.aload_n 0, 1) := by decide +kernel
theorem dX12_readsBoard_43 : decode cX12_readsBoard 43 = .ok (.invokevirtual 153, 3) := by decide +kernel
theorem dX12_readsBoard_46 : decode cX12_readsBoard 46 = .ok (.aload_n 0, 1) := by decide +kernel
theorem dX12_readsBoard_47 : decode cX12_readsBoard 47 = .ok (.iconst 3, 1) := by decide +kernel
theorem dX12_readsBoard_48 : decode cX12_readsBoard 48 = .ok (.bipush 9, 2) := by decide +kernel
theorem dX12_readsBoard_50 : decode cX12_readsBoard 50 = .ok (.invokevirtual 246, 3) := by decide +kernel
theorem dX12_readsBoard_53 : decode cX12_readsBoard 53 = .ok (.istore_n 1, 1) := by decide +kernel
theorem dX12_readsBoard_54 : decode cX12_readsBoard 54 = .ok (.aload_n 0, 1) := by decide +kernel
theorem dX12_readsBoard_55 : decode cX12_readsBoard 55 = .ok (.iconst 3, 1) := by decide +kernel
theorem dX12_readsBoard_56 : decode cX12_readsBoard 56 = .ok (.bipush 9, 2) := by decide +kernel
theorem dX12_readsBoard_58 : decode cX12_readsBoard 58 = .ok (.invokevirtual 246, 3) := by decide +kernel
theorem dX12_readsBoard_61 : decode cX12_readsBoard 61 = .ok (.istore_n 2, 1) := by decide +kernel
theorem dX12_readsBoard_62 : decode cX12_readsBoard 62 = .ok (.aload_n 0, 1) := by decide +kernel
theorem dX12_readsBoard_63 : decode cX12_readsBoard 63 = .ok (.invokevirtual 143, 3) := by decide +kernel
theorem dX12_readsBoard_66 : decode cX12_readsBoard 66 = .ok (.ifCond .ne 4, 3) := by decide +kernel
theorem dX12_readsBoard_69 : decode cX12_readsBoard 69 = .ok (.return_, 1) := by decide +kernel
theorem dX12_readsBoard_70 : decode cX12_readsBoard 70 = .ok (.aload_n 0, 1) := by decide +kernel
theorem dX12_readsBoard_71 : decode cX12_readsBoard 71 = .ok (.getfield 20, 3) := by decide +kernel
theorem dX12_readsBoard_74 : decode cX12_readsBoard 74 = .ok (.iconst 0, 1) := by decide +kernel
theorem dX12_readsBoard_75 : decode cX12_readsBoard 75 = .ok (.iload_n 1, 1) := by decide +kernel
theorem dX12_readsBoard_76 : decode cX12_readsBoard 76 = .ok (.iastore, 1) := by decide +kernel
theorem dX12_readsBoard_77 : decode cX12_readsBoard 77 = .ok (.aload_n 0, 1) := by decide +kernel
theorem dX12_readsBoard_78 : decode cX12_readsBoard 78 = .ok (.getfield 20, 3) := by decide +kernel
theorem dX12_readsBoard_81 : decode cX12_readsBoard 81 = .ok (.iconst 1, 1) := by decide +kernel
theorem dX12_readsBoard_82 : decode cX12_readsBoard 82 = .ok (.iload_n 2, 1) := by decide +kernel
theorem dX12_readsBoard_83 : decode cX12_readsBoard 83 = .ok (.iastore, 1) := by decide +kernel
theorem dX12_readsBoard_84 : decode cX12_readsBoard 84 = .ok (.return_, 1) := by decide +kernel
theorem dX12_readsWalls_0 : decode cX12_readsWalls 0 = .ok (.aload_n 0, 1) := by decide +kernel
theorem dX12_readsWalls_1 : decode cX12_readsWalls 1 = .ok (.getfield 249, 3) := by decide +kernel
theorem dX12_readsWalls_4 : decode cX12_readsWalls 4 = .ok (.ifCond .eq 8, 3) := by decide +kernel
theorem dX12_readsWalls_7 : decode cX12_readsWalls 7 = .ok (.aload_n 0, 1) := by decide +kernel
theorem dX12_readsWalls_8 : decode cX12_readsWalls 8 = .ok (.iconst 3, 1) := by decide +kernel
theorem dX12_readsWalls_9 : decode cX12_readsWalls 9 = .ok (.invokevirtual 150, 3) := by decide +kernel
theorem dX12_readsWalls_12 : decode cX12_readsWalls 12 = .ok (.aload_n 0, 1) := by decide +kernel
theorem dX12_readsWalls_13 : decode cX12_readsWalls 13 = .ok (.iconst 1, 1) := by decide +kernel
theorem dX12_readsWalls_14 : decode cX12_readsWalls 14 = .ok (.putfield 249, 3) := by decide +kernel
theorem dX12_readsWalls_17 : decode cX12_readsWalls 17 = .ok (.aload_n 0, 1) := by decide +kernel
theorem dX12_readsWalls_18 : decode cX12_readsWalls 18 = .ok (.invokevirtual 143, 3) := by decide +kernel
theorem dX12_readsWalls_21 : decode cX12_readsWalls 21 = .ok (.ifCond .eq 7, 3) := by decide +kernel
theorem dX12_readsWalls_24 : decode cX12_readsWalls 24 = .ok (.aload_n 0, 1) := by decide +kernel
theorem dX12_readsWalls_25 : decode cX12_readsWalls 25 = .ok (.invokevirtual 153, 3) := by decide +kernel
theorem dX12_readsWalls_28 : decode cX12_readsWalls 28 = .ok (.aload_n 0, 1) := by decide +kernel
theorem dX12_readsWalls_29 : decode cX12_readsWalls 29 = .ok (.aload_n 0, 1) := by decide +kernel
theorem dX12_readsWalls_30 : decode cX12_readsWalls 30 = .ok (.iconst 0, 1) := by decide +kernel
theorem dX12_readsWalls_31 : decode cX12_readsWalls 31 = .ok (.bipush 20, 2) := by decide +kernel
theorem dX12_readsWalls_33 : decode cX12_readsWalls 33 = .ok (.invokevirtual 246, 3) := by decide +kernel
theorem dX12_readsWalls_36 : decode cX12_readsWalls 36 = .ok (.putfield 252, 3) := by decide +kernel
theorem dX12_readsWalls_39 : decode cX12_readsWalls 39 = .ok (.return_, 1) := by decide +kernel
theorem dX12_pawnIn_0 : decode cX12_pawnIn 0 = .ok (.iconst (-1), 1) := by decide +kernel
theorem dX12_pawnIn_1 : decode cX12_pawnIn 1 = .ok (.istore_n 3, 1) := by decide +kernel
theorem dX12_pawnIn_2 : decode cX12_pawnIn 2 = .ok (.iconst 0, 1) := by decide +kernel
theorem dX12_pawnIn_3 : decode cX12_pawnIn 3 = .ok (.istore 4, 2) := by decide +kernel
theorem dX12_pawnIn_5 : decode cX12_pawnIn 5 = .ok (.iload 4, 2) := by decide +kernel
theorem dX12_pawnIn_7 : decode cX12_pawnIn 7 = .ok (.aload_n 0, 1) := by decide +kernel
theorem dX12_pawnIn_8 : decode cX12_pawnIn 8 = .ok (.getfield 20, 3) := by decide +kernel
theorem dX12_pawnIn_11 : decode cX12_pawnIn 11 = .ok (.iconst 2, 1) := by decide +kernel
theorem dX12_pawnIn_12 : decode cX12_pawnIn 12 = .ok (.iaload, 1) := by decide +kernel
theorem dX12_pawnIn_13 : decode cX12_pawnIn 13 = .ok (.if_icmp .ge 47, 3) := by decide +kernel
theorem dX12_pawnIn_16 : decode cX12_pawnIn 16 = .ok (.aload_n 0, 1) := by decide +kernel
theorem dX12_pawnIn_17 : decode cX12_pawnIn 17 = .ok (.iload 4, 2) := by decide +kernel
theorem dX12_pawnIn_19 : decode cX12_pawnIn 19 = .ok (.invokevirtual 213, 3) := by decide +kernel
theorem dX12_pawnIn_22 : decode cX12_pawnIn 22 = .ok (.ifCond .ne 30, 3) := by decide +kernel
theorem dX12_pawnIn_25 : decode cX12_pawnIn 25 = .ok (.aload_n 0, 1) := by decide +kernel
theorem dX12_pawnIn_26 : decode cX12_pawnIn 26 = .ok (.iload 4, 2) := by decide +kernel
theorem dX12_pawnIn_28 : decode cX12_pawnIn 28 = .ok (.iconst 0, 1) := by decide +kernel
theorem dX12_pawnIn_29 : decode cX12_pawnIn 29 = .ok (.invokevirtual 174, 3) := by decide +kernel
theorem dX12_pawnIn_32 : decode cX12_pawnIn 32 = .ok (.iload_n 1, 1) := by decide +kernel
theorem dX12_pawnIn_33 : decode cX12_pawnIn 33 = .ok (.if_icmp .ne 19, 3) := by decide +kernel
theorem dX12_pawnIn_36 : decode cX12_pawnIn 36 = .ok (.aload_n 0, 1) := by decide +kernel
theorem dX12_pawnIn_37 : decode cX12_pawnIn 37 = .ok (.iload 4, 2) := by decide +kernel
theorem dX12_pawnIn_39 : decode cX12_pawnIn 39 = .ok (.iconst 1, 1) := by decide +kernel
theorem dX12_pawnIn_40 : decode cX12_pawnIn 40 = .ok (.invokevirtual 174, 3) := by decide +kernel
theorem dX12_pawnIn_43 : decode cX12_pawnIn 43 = .ok (.iload_n 2, 1) := by decide +kernel
theorem dX12_pawnIn_44 : decode cX12_pawnIn 44 = .ok (.if_icmp .ne 8, 3) := by decide +kernel
theorem dX12_pawnIn_47 : decode cX12_pawnIn 47 = .ok (.iload 4, 2) := by decide +kernel
theorem dX12_pawnIn_49 : decode cX12_pawnIn 49 = .ok (.goto 4, 3) := by decide +kernel
theorem dX12_pawnIn_52 : decode cX12_pawnIn 52 = .ok (.iload_n 3, 1) := by decide +kernel
theorem dX12_pawnIn_53 : decode cX12_pawnIn 53 = .ok (.istore_n 3, 1) := by decide +kernel
theorem dX12_pawnIn_54 : decode cX12_pawnIn 54 = .ok (.iinc 4 1, 3) := by decide +kernel
theorem dX12_pawnIn_57 : decode cX12_pawnIn 57 = .ok (.goto (-52), 3) := by decide +kernel
theorem dX12_pawnIn_60 : decode cX12_pawnIn 60 = .ok (.iload_n 3, 1) := by decide +kernel
theorem dX12_pawnIn_61 : decode cX12_pawnIn 61 = .ok (.ireturn, 1) := by decide +kernel
theorem dX12_readsPawn_0 : decode cX12_readsPawn 0 = .ok (.aload_n 0, 1) := by decide +kernel
theorem dX12_readsPawn_1 : decode cX12_readsPawn 1 = .ok (.getfield 20, 3) := by decide +kernel
theorem dX12_readsPawn_4 : decode cX12_readsPawn 4 = .ok (.iconst 2, 1) := by decide +kernel
theorem dX12_readsPawn_5 : decode cX12_readsPawn 5 = .ok (.iaload, 1) := by decide +kernel
theorem dX12_readsPawn_6 : decode cX12_readsPawn 6 = .ok (.iconst 4, 1) := by decide +kernel
theorem dX12_readsPawn_7 : decode cX12_readsPawn 7 = .ok (.if_icmp .ne 9, 3) := by decide +kernel
theorem dX12_readsPawn_10 : decode cX12_readsPawn 10 = .ok (.aload_n 0, 1) := by decide +kernel
theorem dX12_readsPawn_11 : decode cX12_readsPawn 11 = .ok (.bipush 6, 2) := by decide +kernel
theorem dX12_readsPawn_13 : decode cX12_readsPawn 13 = .ok (.invokevirtual 150, 3) := by decide +kernel
theorem dX12_readsPawn_16 : decode cX12_readsPawn 16 = .ok (.aload_n 0, 1) := by decide +kernel
theorem dX12_readsPawn_17 : decode cX12_readsPawn 17 = .ok (.invokevirtual 143, 3) := by decide +kernel
theorem dX12_readsPawn_20 : decode cX12_readsPawn 20 = .ok (.ifCond .eq 7, 3) := by decide +kernel
theorem dX12_readsPawn_23 : decode cX12_readsPawn 23 = .ok (.aload_n 0, 1) := by decide +kernel
theorem dX12_readsPawn_24 : decode cX12_readsPawn 24 = .ok (.invokevirtual 153, 3) := by decide +kernel
theorem dX12_readsPawn_27 : decode cX12_readsPawn 27 = .ok (.aload_n 0, 1) := by decide +kernel
theorem dX12_readsPawn_28 : decode cX12_readsPawn 28 = .ok (.invokevirtual 143, 3) := by decide +kernel
theorem dX12_readsPawn_31 : decode cX12_readsPawn 31 = .ok (.ifCond .eq 16, 3) := by decide +kernel
theorem dX12_readsPawn_34 : decode cX12_readsPawn 34 = .ok (.aload_n 0, 1) := by decide +kernel
theorem dX12_readsPawn_35 : decode cX12_readsPawn 35 = .ok (.getfield 130, 3) := by decide +kernel
theorem dX12_readsPawn_38 : decode cX12_readsPawn 38 = .ok (.iconst 1, 1) := by decide +kernel
theorem dX12_readsPawn_39 : decode cX12_readsPawn 39 = .ok (.if_icmp .eq 8, 3) := by decide +kernel
theorem dX12_readsPawn_42 : decode cX12_readsPawn 42 = .ok (.aload_n 0, 1) := by decide +kernel
theorem dX12_readsPawn_43 : decode cX12_readsPawn 43 = .ok (.iconst 1, 1) := by decide +kernel
theorem dX12_readsPawn_44 : decode cX12_readsPawn 44 = .ok (.invokevirtual 150, 3) := by decide +kernel
theorem dX12_readsPawn_47 : decode cX12_readsPawn 47 = .ok (.aload_n 0, 1) := by decide +kernel
theorem dX12_readsPawn_48 : decode cX12_readsPawn 48 = .ok (.invokevirtual 143, 3) := by decide +kernel
theorem dX12_readsPawn_51 : decode cX12_readsPawn 51 = .ok (.ifCond .eq 16, 3) := by decide +kernel
theorem dX12_readsPawn_54 : decode cX12_readsPawn 54 = .ok (.aload_n 0, 1) := by decide +kernel
theorem dX12_readsPawn_55 : decode cX12_readsPawn 55 = .ok (.invokevirtual 255, 3) := by decide +kernel
theorem dX12_readsPawn_58 : decode cX12_readsPawn 58 = .ok (.iconst (-1), 1) := by decide +kernel
theorem dX12_readsPawn_59 : decode cX12_readsPawn 59 = .ok (.if_icmp .eq 8, 3) := by decide +kernel
theorem dX12_readsPawn_62 : decode cX12_readsPawn 62 = .ok (.aload_n 0, 1) := by decide +kernel
theorem dX12_readsPawn_63 : decode cX12_readsPawn 63 = .ok (.iconst 4, 1) := by decide +kernel
theorem dX12_readsPawn_64 : decode cX12_readsPawn 64 = .ok (.invokevirtual 150, 3) := by decide +kernel
theorem dX12_readsPawn_67 : decode cX12_readsPawn 67 = .ok (.aload_n 0, 1) := by decide +kernel
theorem dX12_readsPawn_68 : decode cX12_readsPawn 68 = .ok (.getfield 123, 3) := by decide +kernel
theorem dX12_readsPawn_71 : decode cX12_readsPawn 71 = .ok (.lstore_n 1, 1) := by decide +kernel
theorem dX12_readsPawn_72 : decode cX12_readsPawn 72 = .ok (.aload_n 0, 1) := by decide +kernel
theorem dX12_readsPawn_73 : decode cX12_readsPawn 73 = .ok (.invokevirtual 143, 3) := by decide +kernel
theorem dX12_readsPawn_76 : decode cX12_readsPawn 76 = .ok (.ifCond .eq 7, 3) := by decide +kernel
theorem dX12_readsPawn_79 : decode cX12_readsPawn 79 = .ok (.aload_n 0, 1) := by decide +kernel
theorem dX12_readsPawn_80 : decode cX12_readsPawn 80 = .ok (.invokevirtual 153, 3) := by decide +kernel
theorem dX12_readsPawn_83 : decode cX12_readsPawn 83 = .ok (.aload_n 0, 1) := by decide +kernel
theorem dX12_readsPawn_84 : decode cX12_readsPawn 84 = .ok (.iconst 0, 1) := by decide +kernel
theorem dX12_readsPawn_85 : decode cX12_readsPawn 85 = .ok (.aload_n 0, 1) := by decide +kernel
theorem dX12_readsPawn_86 : decode cX12_readsPawn 86 = .ok (.getfield 20, 3) := by decide +kernel
theorem dX12_readsPawn_89 : decode cX12_readsPawn 89 = .ok (.iconst 0, 1) := by decide +kernel
theorem dX12_readsPawn_90 : decode cX12_readsPawn 90 = .ok (.iaload, 1) := by decide +kernel
theorem dX12_readsPawn_91 : decode cX12_readsPawn 91 = .ok (.iconst 1, 1) := by decide +kernel
theorem dX12_readsPawn_92 : decode cX12_readsPawn 92 = .ok (.isub, 1) := by decide +kernel
theorem dX12_readsPawn_93 : decode cX12_readsPawn 93 = .ok (.invokevirtual 246, 3) := by decide +kernel
theorem dX12_readsPawn_96 : decode cX12_readsPawn 96 = .ok (.istore_n 3, 1) := by decide +kernel
theorem dX12_readsPawn_97 : decode cX12_readsPawn 97 = .ok (.aload_n 0, 1) := by decide +kernel
theorem dX12_readsPawn_98 : decode cX12_readsPawn 98 = .ok (.iconst 0, 1) := by decide +kernel
theorem dX12_readsPawn_99 : decode cX12_readsPawn 99 = .ok (.aload_n 0, 1) := by decide +kernel
theorem dX12_readsPawn_100 : decode cX12_readsPawn 100 = .ok (.getfield 20, 3) := by decide +kernel
theorem dX12_readsPawn_103 : decode cX12_readsPawn 103 = .ok (.iconst 1, 1) := by decide +kernel
theorem dX12_readsPawn_104 : decode cX12_readsPawn 104 = .ok (.iaload, 1) := by decide +kernel
theorem dX12_readsPawn_105 : decode cX12_readsPawn 105 = .ok (.iconst 1, 1) := by decide +kernel
theorem dX12_readsPawn_106 : decode cX12_readsPawn 106 = .ok (.isub, 1) := by decide +kernel
theorem dX12_readsPawn_107 : decode cX12_readsPawn 107 = .ok (.invokevirtual 160, 3) := by decide +kernel
theorem dX12_readsPawn_110 : decode cX12_readsPawn 110 = .ok (.istore 4, 2) := by decide +kernel
theorem dX12_readsPawn_112 : decode cX12_readsPawn 112 = .ok (.aload_n 0, 1) := by decide +kernel
theorem dX12_readsPawn_113 : decode cX12_readsPawn 113 = .ok (.invokevirtual 143, 3) := by decide +kernel
theorem dX12_readsPawn_116 : decode cX12_readsPawn 116 = .ok (.ifCond .eq 19, 3) := by decide +kernel
theorem dX12_readsPawn_119 : decode cX12_readsPawn 119 = .ok (.aload_n 0, 1) := by decide +kernel
theorem dX12_readsPawn_120 : decode cX12_readsPawn 120 = .ok (.iload_n 3, 1) := by decide +kernel
theorem dX12_readsPawn_121 : decode cX12_readsPawn 121 = .ok (.iload 4, 2) := by decide +kernel
theorem dX12_readsPawn_123 : decode cX12_readsPawn 123 = .ok (.invokevirtual 259, 3) := by decide +kernel
theorem dX12_readsPawn_126 : decode cX12_readsPawn 126 = .ok (.iconst (-1), 1) := by decide +kernel
theorem dX12_readsPawn_127 : decode cX12_readsPawn 127 = .ok (.if_icmp .eq 8, 3) := by decide +kernel
theorem dX12_readsPawn_130 : decode cX12_readsPawn 130 = .ok (.aload_n 0, 1) := by decide +kernel
theorem dX12_readsPawn_131 : decode cX12_readsPawn 131 = .ok (.iconst 4, 1) := by decide +kernel
theorem dX12_readsPawn_132 : decode cX12_readsPawn 132 = .ok (.invokevirtual 150, 3) := by decide +kernel
theorem dX12_readsPawn_135 : decode cX12_readsPawn 135 = .ok (.aload_n 0, 1) := by decide +kernel
theorem dX12_readsPawn_136 : decode cX12_readsPawn 136 = .ok (.invokevirtual 143, 3) := by decide +kernel
theorem dX12_readsPawn_139 : decode cX12_readsPawn 139 = .ok (.ifCond .eq 7, 3) := by decide +kernel
theorem dX12_readsPawn_142 : decode cX12_readsPawn 142 = .ok (.aload_n 0, 1) := by decide +kernel
theorem dX12_readsPawn_143 : decode cX12_readsPawn 143 = .ok (.invokevirtual 153, 3) := by decide +kernel
theorem dX12_readsPawn_146 : decode cX12_readsPawn 146 = .ok (.aload_n 0, 1) := by decide +kernel
theorem dX12_readsPawn_147 : decode cX12_readsPawn 147 = .ok (.invokevirtual 262, 3) := by decide +kernel
theorem dX12_readsPawn_150 : decode cX12_readsPawn 150 = .ok (.istore 5, 2) := by decide +kernel
theorem dX12_readsPawn_152 : decode cX12_readsPawn 152 = .ok (.aload_n 0, 1) := by decide +kernel
theorem dX12_readsPawn_153 : decode cX12_readsPawn 153 = .ok (.invokevirtual 143, 3) := by decide +kernel
theorem dX12_readsPawn_156 : decode cX12_readsPawn 156 = .ok (.ifCond .eq 14, 3) := by decide +kernel
theorem dX12_readsPawn_159 : decode cX12_readsPawn 159 = .ok (.iload 5, 2) := by decide +kernel
theorem dX12_readsPawn_161 : decode cX12_readsPawn 161 = .ok (.iconst (-1), 1) := by decide +kernel
theorem dX12_readsPawn_162 : decode cX12_readsPawn 162 = .ok (.if_icmp .ne 8, 3) := by decide +kernel
theorem dX12_readsPawn_165 : decode cX12_readsPawn 165 = .ok (.aload_n 0, 1) := by decide +kernel
theorem dX12_readsPawn_166 : decode cX12_readsPawn 166 = .ok (.iconst 1, 1) := by decide +kernel
theorem dX12_readsPawn_167 : decode cX12_readsPawn 167 = .ok (.invokevirtual 150, 3) := by decide +kernel
theorem dX12_readsPawn_170 : decode cX12_readsPawn 170 = .ok (.aload_n 0, 1) := by decide +kernel
theorem dX12_readsPawn_171 : decode cX12_readsPawn 171 = .ok (.invokevirtual 143, 3) := by decide +kernel
theorem dX12_readsPawn_174 : decode cX12_readsPawn 174 = .ok (.ifCond .eq 20, 3) := by decide +kernel
theorem dX12_readsPawn_177 : decode cX12_readsPawn 177 = .ok (.aload_n 0, 1) := by decide +kernel
theorem dX12_readsPawn_178 : decode cX12_readsPawn 178 = .ok (.iload_n 3, 1) := by decide +kernel
theorem dX12_readsPawn_179 : decode cX12_readsPawn 179 = .ok (.iload 4, 2) := by decide +kernel
theorem dX12_readsPawn_181 : decode cX12_readsPawn 181 = .ok (.iload 5, 2) := by decide +kernel
theorem dX12_readsPawn_183 : decode cX12_readsPawn 183 = .ok (.invokevirtual 199, 3) := by decide +kernel
theorem dX12_readsPawn_186 : decode cX12_readsPawn 186 = .ok (.ifCond .eq 8, 3) := by decide +kernel
theorem dX12_readsPawn_189 : decode cX12_readsPawn 189 = .ok (.aload_n 0, 1) := by decide +kernel
theorem dX12_readsPawn_190 : decode cX12_readsPawn 190 = .ok (.iconst 4, 1) := by decide +kernel
theorem dX12_readsPawn_191 : decode cX12_readsPawn 191 = .ok (.invokevirtual 150, 3) := by decide +kernel
theorem dX12_readsPawn_194 : decode cX12_readsPawn 194 = .ok (.aload_n 0, 1) := by decide +kernel
theorem dX12_readsPawn_195 : decode cX12_readsPawn 195 = .ok (.invokevirtual 143, 3) := by decide +kernel
theorem dX12_readsPawn_198 : decode cX12_readsPawn 198 = .ok (.ifCond .eq 7, 3) := by decide +kernel
theorem dX12_readsPawn_201 : decode cX12_readsPawn 201 = .ok (.aload_n 0, 1) := by decide +kernel
theorem dX12_readsPawn_202 : decode cX12_readsPawn 202 = .ok (.invokevirtual 153, 3) := by decide +kernel
theorem dX12_readsPawn_205 : decode cX12_readsPawn 205 = .ok (.aload_n 0, 1) := by decide +kernel
theorem dX12_readsPawn_206 : decode cX12_readsPawn 206 = .ok (.ldc2_w 265, 3) := by decide +kernel
theorem dX12_readsPawn_209 : decode cX12_readsPawn 209 = .ok (.invokevirtual 156, 3) := by decide +kernel
theorem dX12_readsPawn_212 : decode cX12_readsPawn 212 = .ok (.istore 6, 2) := by decide +kernel
theorem dX12_readsPawn_214 : decode cX12_readsPawn 214 = .ok (.iload 6, 2) := by decide +kernel
theorem dX12_readsPawn_216 : decode cX12_readsPawn 216 = .ok (.ifCond .eq 7, 3) := by decide +kernel
theorem dX12_readsPawn_219 : decode cX12_readsPawn 219 = .ok (.aload_n 0, 1) := by decide +kernel
theorem dX12_readsPawn_220 : decode cX12_readsPawn 220 = .ok (.invokevirtual 153, 3) := by decide +kernel
theorem dX12_readsPawn_223 : decode cX12_readsPawn 223 = .ok (.iload 6, 2) := by decide +kernel
theorem dX12_readsPawn_225 : decode cX12_readsPawn 225 = .ok (.ifCond .eq 13, 3) := by decide +kernel
theorem dX12_readsPawn_228 : decode cX12_readsPawn 228 = .ok (.aload_n 0, 1) := by decide +kernel
theorem dX12_readsPawn_229 : decode cX12_readsPawn 229 = .ok (.iconst 0, 1) := by decide +kernel
theorem dX12_readsPawn_230 : decode cX12_readsPawn 230 = .ok (.bipush 20, 2) := by decide +kernel
theorem dX12_readsPawn_232 : decode cX12_readsPawn 232 = .ok (.invokevirtual 246, 3) := by decide +kernel
theorem dX12_readsPawn_235 : decode cX12_readsPawn 235 = .ok (.goto 7, 3) := by decide +kernel
theorem dX12_readsPawn_238 : decode cX12_readsPawn 238 = .ok (.aload_n 0, 1) := by decide +kernel
theorem dX12_readsPawn_239 : decode cX12_readsPawn 239 = .ok (.getfield 252, 3) := by decide +kernel
theorem dX12_readsPawn_242 : decode cX12_readsPawn 242 = .ok (.istore 7, 2) := by decide +kernel
theorem dX12_readsPawn_244 : decode cX12_readsPawn 244 = .ok (.aload_n 0, 1) := by decide +kernel
theorem dX12_readsPawn_245 : decode cX12_readsPawn 245 = .ok (.invokevirtual 143, 3) := by decide +kernel
theorem dX12_readsPawn_248 : decode cX12_readsPawn 248 = .ok (.ifCond .eq 17, 3) := by decide +kernel
theorem dX12_readsPawn_251 : decode cX12_readsPawn 251 = .ok (.aload_n 0, 1) := by decide +kernel
theorem dX12_readsPawn_252 : decode cX12_readsPawn 252 = .ok (.bipush 59, 2) := by decide +kernel
theorem dX12_readsPawn_254 : decode cX12_readsPawn 254 = .ok (.invokevirtual 147, 3) := by decide +kernel
theorem dX12_readsPawn_257 : decode cX12_readsPawn 257 = .ok (.ifCond .ne 8, 3) := by decide +kernel
theorem dX12_readsPawn_260 : decode cX12_readsPawn 260 = .ok (.aload_n 0, 1) := by decide +kernel
theorem dX12_readsPawn_261 : decode cX12_readsPawn 261 = .ok (.iconst 1, 1) := by decide +kernel
theorem dX12_readsPawn_262 : decode cX12_readsPawn 262 = .ok (.invokevirtual 150, 3) := by decide +kernel
theorem dX12_readsPawn_265 : decode cX12_readsPawn 265 = .ok (.aload_n 0, 1) := by decide +kernel
theorem dX12_readsPawn_266 : decode cX12_readsPawn 266 = .ok (.invokevirtual 143, 3) := by decide +kernel
theorem dX12_readsPawn_269 : decode cX12_readsPawn 269 = .ok (.ifCond .ne 4, 3) := by decide +kernel
theorem dX12_readsPawn_272 : decode cX12_readsPawn 272 = .ok (.return_, 1) := by decide +kernel
theorem dX12_readsPawn_273 : decode cX12_readsPawn 273 = .ok (.aload_n 0, 1) := by decide +kernel
theorem dX12_readsPawn_274 : decode cX12_readsPawn 274 = .ok (.lload_n 1, 1) := by decide +kernel
theorem dX12_readsPawn_275 : decode cX12_readsPawn 275 = .ok (.iload_n 3, 1) := by decide +kernel
theorem dX12_readsPawn_276 : decode cX12_readsPawn 276 = .ok (.iload 4, 2) := by decide +kernel
theorem dX12_readsPawn_278 : decode cX12_readsPawn 278 = .ok (.iload 5, 2) := by decide +kernel
theorem dX12_readsPawn_280 : decode cX12_readsPawn 280 = .ok (.iload 7, 2) := by decide +kernel
theorem dX12_readsPawn_282 : decode cX12_readsPawn 282 = .ok (.invokevirtual 267, 3) := by decide +kernel
theorem dX12_readsPawn_285 : decode cX12_readsPawn 285 = .ok (.aload_n 0, 1) := by decide +kernel
theorem dX12_readsPawn_286 : decode cX12_readsPawn 286 = .ok (.aload_n 0, 1) := by decide +kernel
theorem dX12_readsPawn_287 : decode cX12_readsPawn 287 = .ok (.getfield 20, 3) := by decide +kernel
theorem dX12_readsPawn_290 : decode cX12_readsPawn 290 = .ok (.iconst 2, 1) := by decide +kernel
theorem dX12_readsPawn_291 : decode cX12_readsPawn 291 = .ok (.iaload, 1) := by decide +kernel
theorem dX12_readsPawn_292 : decode cX12_readsPawn 292 = .ok (.iconst 1, 1) := by decide +kernel
theorem dX12_readsPawn_293 : decode cX12_readsPawn 293 = .ok (.isub, 1) := by decide +kernel
theorem dX12_readsPawn_294 : decode cX12_readsPawn 294 = .ok (.invokevirtual 222, 3) := by decide +kernel
theorem dX12_readsPawn_297 : decode cX12_readsPawn 297 = .ok (.iconst (-1), 1) := by decide +kernel
theorem dX12_readsPawn_298 : decode cX12_readsPawn 298 = .ok (.if_icmp .ne 8, 3) := by decide +kernel
theorem dX12_readsPawn_301 : decode cX12_readsPawn 301 = .ok (.aload_n 0, 1) := by decide +kernel
theorem dX12_readsPawn_302 : decode cX12_readsPawn 302 = .ok (.iconst 5, 1) := by decide +kernel
theorem dX12_readsPawn_303 : decode cX12_readsPawn 303 = .ok (.invokevirtual 150, 3) := by decide +kernel
theorem dX12_readsPawn_306 : decode cX12_readsPawn 306 = .ok (.return_, 1) := by decide +kernel
theorem dX12_comesPawn_0 : decode cX12_comesPawn 0 = .ok (.bipush 8, 2) := by decide +kernel
theorem dX12_comesPawn_2 : decode cX12_comesPawn 2 = .ok (.bipush 7, 2) := by decide +kernel
theorem dX12_comesPawn_4 : decode cX12_comesPawn 4 = .ok (.aload_n 0, 1) := by decide +kernel
theorem dX12_comesPawn_5 : decode cX12_comesPawn 5 = .ok (.getfield 20, 3) := by decide +kernel
theorem dX12_comesPawn_8 : decode cX12_comesPawn 8 = .ok (.iconst 2, 1) := by decide +kernel
theorem dX12_comesPawn_9 : decode cX12_comesPawn 9 = .ok (.iaload, 1) := by decide +kernel
theorem dX12_comesPawn_10 : decode cX12_comesPawn 10 = .ok (.imul, 1) := by decide +kernel
theorem dX12_comesPawn_11 : decode cX12_comesPawn 11 = .ok (.iadd, 1) := by decide +kernel
theorem dX12_comesPawn_12 : decode cX12_comesPawn 12 = .ok (.istore 7, 2) := by decide +kernel
theorem dX12_comesPawn_14 : decode cX12_comesPawn 14 = .ok (.aload_n 0, 1) := by decide +kernel
theorem dX12_comesPawn_15 : decode cX12_comesPawn 15 = .ok (.getfield 41, 3) := by decide +kernel
theorem dX12_comesPawn_18 : decode cX12_comesPawn 18 = .ok (.aload_n 0, 1) := by decide +kernel
theorem dX12_comesPawn_19 : decode cX12_comesPawn 19 = .ok (.getfield 20, 3) := by decide +kernel
theorem dX12_comesPawn_22 : decode cX12_comesPawn 22 = .ok (.iconst 2, 1) := by decide +kernel
theorem dX12_comesPawn_23 : decode cX12_comesPawn 23 = .ok (.iaload, 1) := by decide +kernel
theorem dX12_comesPawn_24 : decode cX12_comesPawn 24 = .ok (.lload_n 1, 1) := by decide +kernel
theorem dX12_comesPawn_25 : decode cX12_comesPawn 25 = .ok (.lastore, 1) := by decide +kernel
theorem dX12_comesPawn_26 : decode cX12_comesPawn 26 = .ok (.aload_n 0, 1) := by decide +kernel
theorem dX12_comesPawn_27 : decode cX12_comesPawn 27 = .ok (.getfield 20, 3) := by decide +kernel
theorem dX12_comesPawn_30 : decode cX12_comesPawn 30 = .ok (.iload 7, 2) := by decide +kernel
theorem dX12_comesPawn_32 : decode cX12_comesPawn 32 = .ok (.iload_n 3, 1) := by decide +kernel
theorem dX12_comesPawn_33 : decode cX12_comesPawn 33 = .ok (.iastore, 1) := by decide +kernel
theorem dX12_comesPawn_34 : decode cX12_comesPawn 34 = .ok (.aload_n 0, 1) := by decide +kernel
theorem dX12_comesPawn_35 : decode cX12_comesPawn 35 = .ok (.getfield 20, 3) := by decide +kernel
theorem dX12_comesPawn_38 : decode cX12_comesPawn 38 = .ok (.iload 7, 2) := by decide +kernel
theorem dX12_comesPawn_40 : decode cX12_comesPawn 40 = .ok (.iconst 1, 1) := by decide +kernel
theorem dX12_comesPawn_41 : decode cX12_comesPawn 41 = .ok (.iadd, 1) := by decide +kernel
theorem dX12_comesPawn_42 : decode cX12_comesPawn 42 = .ok (.iload 4, 2) := by decide +kernel
theorem dX12_comesPawn_44 : decode cX12_comesPawn 44 = .ok (.iastore, 1) := by decide +kernel
theorem dX12_comesPawn_45 : decode cX12_comesPawn 45 = .ok (.aload_n 0, 1) := by decide +kernel
theorem dX12_comesPawn_46 : decode cX12_comesPawn 46 = .ok (.getfield 20, 3) := by decide +kernel
theorem dX12_comesPawn_49 : decode cX12_comesPawn 49 = .ok (.iload 7, 2) := by decide +kernel
theorem dX12_comesPawn_51 : decode cX12_comesPawn 51 = .ok (.iconst 2, 1) := by decide +kernel
theorem dX12_comesPawn_52 : decode cX12_comesPawn 52 = .ok (.iadd, 1) := by decide +kernel
theorem dX12_comesPawn_53 : decode cX12_comesPawn 53 = .ok (.iload 5, 2) := by decide +kernel
theorem dX12_comesPawn_55 : decode cX12_comesPawn 55 = .ok (.iastore, 1) := by decide +kernel
theorem dX12_comesPawn_56 : decode cX12_comesPawn 56 = .ok (.aload_n 0, 1) := by decide +kernel
theorem dX12_comesPawn_57 : decode cX12_comesPawn 57 = .ok (.getfield 20, 3) := by decide +kernel
theorem dX12_comesPawn_60 : decode cX12_comesPawn 60 = .ok (.iload 7, 2) := by decide +kernel
theorem dX12_comesPawn_62 : decode cX12_comesPawn 62 = .ok (.iconst 3, 1) := by decide +kernel
theorem dX12_comesPawn_63 : decode cX12_comesPawn 63 = .ok (.iadd, 1) := by decide +kernel
theorem dX12_comesPawn_64 : decode cX12_comesPawn 64 = .ok (.iload 6, 2) := by decide +kernel
theorem dX12_comesPawn_66 : decode cX12_comesPawn 66 = .ok (.iastore, 1) := by decide +kernel
theorem dX12_comesPawn_67 : decode cX12_comesPawn 67 = .ok (.aload_n 0, 1) := by decide +kernel
theorem dX12_comesPawn_68 : decode cX12_comesPawn 68 = .ok (.getfield 20, 3) := by decide +kernel
theorem dX12_comesPawn_71 : decode cX12_comesPawn 71 = .ok (.iload 7, 2) := by decide +kernel
theorem dX12_comesPawn_73 : decode cX12_comesPawn 73 = .ok (.iconst 4, 1) := by decide +kernel
theorem dX12_comesPawn_74 : decode cX12_comesPawn 74 = .ok (.iadd, 1) := by decide +kernel
theorem dX12_comesPawn_75 : decode cX12_comesPawn 75 = .ok (.iconst 0, 1) := by decide +kernel
theorem dX12_comesPawn_76 : decode cX12_comesPawn 76 = .ok (.iastore, 1) := by decide +kernel
theorem dX12_comesPawn_77 : decode cX12_comesPawn 77 = .ok (.aload_n 0, 1) := by decide +kernel
theorem dX12_comesPawn_78 : decode cX12_comesPawn 78 = .ok (.getfield 20, 3) := by decide +kernel
theorem dX12_comesPawn_81 : decode cX12_comesPawn 81 = .ok (.iload 7, 2) := by decide +kernel
theorem dX12_comesPawn_83 : decode cX12_comesPawn 83 = .ok (.iconst 5, 1) := by decide +kernel
theorem dX12_comesPawn_84 : decode cX12_comesPawn 84 = .ok (.iadd, 1) := by decide +kernel
theorem dX12_comesPawn_85 : decode cX12_comesPawn 85 = .ok (.iconst (-1), 1) := by decide +kernel
theorem dX12_comesPawn_86 : decode cX12_comesPawn 86 = .ok (.iastore, 1) := by decide +kernel
theorem dX12_comesPawn_87 : decode cX12_comesPawn 87 = .ok (.aload_n 0, 1) := by decide +kernel
theorem dX12_comesPawn_88 : decode cX12_comesPawn 88 = .ok (.getfield 20, 3) := by decide +kernel
theorem dX12_comesPawn_91 : decode cX12_comesPawn 91 = .ok (.iload 7, 2) := by decide +kernel
theorem dX12_comesPawn_93 : decode cX12_comesPawn 93 = .ok (.bipush 6, 2) := by decide +kernel
theorem dX12_comesPawn_95 : decode cX12_comesPawn 95 = .ok (.iadd, 1) := by decide +kernel
theorem dX12_comesPawn_96 : decode cX12_comesPawn 96 = .ok (.iconst 0, 1) := by decide +kernel
theorem dX12_comesPawn_97 : decode cX12_comesPawn 97 = .ok (.iastore, 1) := by decide +kernel
theorem dX12_comesPawn_98 : decode cX12_comesPawn 98 = .ok (.aload_n 0, 1) := by decide +kernel
theorem dX12_comesPawn_99 : decode cX12_comesPawn 99 = .ok (.getfield 20, 3) := by decide +kernel
theorem dX12_comesPawn_102 : decode cX12_comesPawn 102 = .ok (.iconst 2, 1) := by decide +kernel
theorem dX12_comesPawn_103 : decode cX12_comesPawn 103 = .ok (.dup2, 1) := by decide +kernel
theorem dX12_comesPawn_104 : decode cX12_comesPawn 104 = .ok (.iaload, 1) := by decide +kernel
theorem dX12_comesPawn_105 : decode cX12_comesPawn 105 = .ok (.iconst 1, 1) := by decide +kernel
theorem dX12_comesPawn_106 : decode cX12_comesPawn 106 = .ok (.iadd, 1) := by decide +kernel
theorem dX12_comesPawn_107 : decode cX12_comesPawn 107 = .ok (.iastore, 1) := by decide +kernel
theorem dX12_comesPawn_108 : decode cX12_comesPawn 108 = .ok (.return_, 1) := by decide +kernel
theorem dX12_readsBan_0 : decode cX12_readsBan 0 = .ok (.aload_n 0, 1) := by decide +kernel
theorem dX12_readsBan_1 : decode cX12_readsBan 1 = .ok (.getfield 20, 3) := by decide +kernel
theorem dX12_readsBan_4 : decode cX12_readsBan 4 = .ok (.bipush 6, 2) := by decide +kernel
theorem dX12_readsBan_6 : decode cX12_readsBan 6 = .ok (.iaload, 1) := by decide +kernel
theorem dX12_readsBan_7 : decode cX12_readsBan 7 = .ok (.bipush 12, 2) := by decide +kernel
theorem dX12_readsBan_9 : decode cX12_readsBan 9 = .ok (.if_icmp .ne 9, 3) := by decide +kernel
theorem dX12_readsBan_12 : decode cX12_readsBan 12 = .ok (.aload_n 0, 1) := by decide +kernel
theorem dX12_readsBan_13 : decode cX12_readsBan 13 = .ok (.bipush 6, 2) := by decide +kernel
theorem dX12_readsBan_15 : decode cX12_readsBan 15 = .ok (.invokevirtual 150, 3) := by decide +kernel
theorem dX12_readsBan_18 : decode cX12_readsBan 18 = .ok (.aload_n 0, 1) := by decide +kernel
theorem dX12_readsBan_19 : decode cX12_readsBan 19 = .ok (.invokevirtual 143, 3) := by decide +kernel
theorem dX12_readsBan_22 : decode cX12_readsBan 22 = .ok (.ifCond .eq 7, 3) := by decide +kernel
theorem dX12_readsBan_25 : decode cX12_readsBan 25 = .ok (.aload_n 0, 1) := by decide +kernel
theorem dX12_readsBan_26 : decode cX12_readsBan 26 = .ok (.invokevirtual 153, 3) := by decide +kernel
theorem dX12_readsBan_29 : decode cX12_readsBan 29 = .ok (.aload_n 0, 1) := by decide +kernel
theorem dX12_readsBan_30 : decode cX12_readsBan 30 = .ok (.invokevirtual 143, 3) := by decide +kernel
theorem dX12_readsBan_33 : decode cX12_readsBan 33 = .ok (.ifCond .eq 16, 3) := by decide +kernel
theorem dX12_readsBan_36 : decode cX12_readsBan 36 = .ok (.aload_n 0, 1) := by decide +kernel
theorem dX12_readsBan_37 : decode cX12_readsBan 37 = .ok (.getfield 130, 3) := by decide +kernel
theorem dX12_readsBan_40 : decode cX12_readsBan 40 = .ok (.iconst 1, 1) := by decide +kernel
theorem dX12_readsBan_41 : decode cX12_readsBan 41 = .ok (.if_icmp .eq 8, 3) := by decide +kernel
theorem dX12_readsBan_44 : decode cX12_readsBan 44 = .ok (.aload_n 0, 1) := by decide +kernel
theorem dX12_readsBan_45 : decode cX12_readsBan 45 = .ok (.iconst 1, 1) := by decide +kernel
theorem dX12_readsBan_46 : decode cX12_readsBan 46 = .ok (.invokevirtual 150, 3) := by decide +kernel
theorem dX12_readsBan_49 : decode cX12_readsBan 49 = .ok (.aload_n 0, 1) := by decide +kernel
theorem dX12_readsBan_50 : decode cX12_readsBan 50 = .ok (.invokevirtual 143, 3) := by decide +kernel
theorem dX12_readsBan_53 : decode cX12_readsBan 53 = .ok (.ifCond .eq 16, 3) := by decide +kernel
theorem dX12_readsBan_56 : decode cX12_readsBan 56 = .ok (.aload_n 0, 1) := by decide +kernel
theorem dX12_readsBan_57 : decode cX12_readsBan 57 = .ok (.invokevirtual 255, 3) := by decide +kernel
theorem dX12_readsBan_60 : decode cX12_readsBan 60 = .ok (.iconst (-1), 1) := by decide +kernel
theorem dX12_readsBan_61 : decode cX12_readsBan 61 = .ok (.if_icmp .ne 8, 3) := by decide +kernel
theorem dX12_readsBan_64 : decode cX12_readsBan 64 = .ok (.aload_n 0, 1) := by decide +kernel
theorem dX12_readsBan_65 : decode cX12_readsBan 65 = .ok (.iconst 4, 1) := by decide +kernel
theorem dX12_readsBan_66 : decode cX12_readsBan 66 = .ok (.invokevirtual 150, 3) := by decide +kernel
theorem dX12_readsBan_69 : decode cX12_readsBan 69 = .ok (.bipush 36, 2) := by decide +kernel
theorem dX12_readsBan_71 : decode cX12_readsBan 71 = .ok (.bipush 7, 2) := by decide +kernel
theorem dX12_readsBan_73 : decode cX12_readsBan 73 = .ok (.aload_n 0, 1) := by decide +kernel
theorem dX12_readsBan_74 : decode cX12_readsBan 74 = .ok (.getfield 20, 3) := by decide +kernel
theorem dX12_readsBan_77 : decode cX12_readsBan 77 = .ok (.bipush 6, 2) := by decide +kernel
theorem dX12_readsBan_79 : decode cX12_readsBan 79 = .ok (.iaload, 1) := by decide +kernel
theorem dX12_readsBan_80 : decode cX12_readsBan 80 = .ok (.bipush 11, 2) := by decide +kernel
theorem dX12_readsBan_82 : decode cX12_readsBan 82 = .ok (.invokestatic 190, 3) := by decide +kernel
theorem dX12_readsBan_85 : decode cX12_readsBan 85 = .ok (.imul, 1) := by decide +kernel
theorem dX12_readsBan_86 : decode cX12_readsBan 86 = .ok (.iadd, 1) := by decide +kernel
theorem dX12_readsBan_87 : decode cX12_readsBan 87 = .ok (.istore_n 1, 1) := by decide +kernel
theorem dX12_readsBan_88 : decode cX12_readsBan 88 = .ok (.aload_n 0, 1) := by decide +kernel
theorem dX12_readsBan_89 : decode cX12_readsBan 89 = .ok (.invokevirtual 143, 3) := by decide +kernel
theorem dX12_readsBan_92 : decode cX12_readsBan 92 = .ok (.ifCond .ne 4, 3) := by decide +kernel
theorem dX12_readsBan_95 : decode cX12_readsBan 95 = .ok (.return_, 1) := by decide +kernel
theorem dX12_readsBan_96 : decode cX12_readsBan 96 = .ok (.aload_n 0, 1) := by decide +kernel
theorem dX12_readsBan_97 : decode cX12_readsBan 97 = .ok (.getfield 20, 3) := by decide +kernel
theorem dX12_readsBan_100 : decode cX12_readsBan 100 = .ok (.iload_n 1, 1) := by decide +kernel
theorem dX12_readsBan_101 : decode cX12_readsBan 101 = .ok (.aload_n 0, 1) := by decide +kernel
theorem dX12_readsBan_102 : decode cX12_readsBan 102 = .ok (.invokevirtual 255, 3) := by decide +kernel
theorem dX12_readsBan_105 : decode cX12_readsBan 105 = .ok (.iastore, 1) := by decide +kernel
theorem dX12_readsBan_106 : decode cX12_readsBan 106 = .ok (.aload_n 0, 1) := by decide +kernel
theorem dX12_readsBan_107 : decode cX12_readsBan 107 = .ok (.invokevirtual 153, 3) := by decide +kernel
theorem dX12_readsBan_110 : decode cX12_readsBan 110 = .ok (.aload_n 0, 1) := by decide +kernel
theorem dX12_readsBan_111 : decode cX12_readsBan 111 = .ok (.iload_n 1, 1) := by decide +kernel
theorem dX12_readsBan_112 : decode cX12_readsBan 112 = .ok (.invokevirtual 271, 3) := by decide +kernel
theorem dX12_readsBan_115 : decode cX12_readsBan 115 = .ok (.aload_n 0, 1) := by decide +kernel
theorem dX12_readsBan_116 : decode cX12_readsBan 116 = .ok (.invokevirtual 143, 3) := by decide +kernel
theorem dX12_readsBan_119 : decode cX12_readsBan 119 = .ok (.ifCond .eq 14, 3) := by decide +kernel
theorem dX12_readsBan_122 : decode cX12_readsBan 122 = .ok (.aload_n 0, 1) := by decide +kernel
theorem dX12_readsBan_123 : decode cX12_readsBan 123 = .ok (.getfield 20, 3) := by decide +kernel
theorem dX12_readsBan_126 : decode cX12_readsBan 126 = .ok (.bipush 6, 2) := by decide +kernel
theorem dX12_readsBan_128 : decode cX12_readsBan 128 = .ok (.dup2, 1) := by decide +kernel
theorem dX12_readsBan_129 : decode cX12_readsBan 129 = .ok (.iaload, 1) := by decide +kernel
theorem dX12_readsBan_130 : decode cX12_readsBan 130 = .ok (.iconst 1, 1) := by decide +kernel
theorem dX12_readsBan_131 : decode cX12_readsBan 131 = .ok (.iadd, 1) := by decide +kernel
theorem dX12_readsBan_132 : decode cX12_readsBan 132 = .ok (.iastore, 1) := by decide +kernel
theorem dX12_readsBan_133 : decode cX12_readsBan 133 = .ok (.return_, 1) := by decide +kernel
theorem dX12_readsRule_0 : decode cX12_readsRule 0 = .ok (.aload_n 0, 1) := by decide +kernel
theorem dX12_readsRule_1 : decode cX12_readsRule 1 = .ok (.getfield 20, 3) := by decide +kernel
theorem dX12_readsRule_4 : decode cX12_readsRule 4 = .ok (.iload_n 1, 1) := by decide +kernel
theorem dX12_readsRule_5 : decode cX12_readsRule 5 = .ok (.iconst 1, 1) := by decide +kernel
theorem dX12_readsRule_6 : decode cX12_readsRule 6 = .ok (.iadd, 1) := by decide +kernel
theorem dX12_readsRule_7 : decode cX12_readsRule 7 = .ok (.aload_n 0, 1) := by decide +kernel
theorem dX12_readsRule_8 : decode cX12_readsRule 8 = .ok (.ldc2_w 274, 3) := by decide +kernel
theorem dX12_readsRule_11 : decode cX12_readsRule 11 = .ok (.invokevirtual 156, 3) := by decide +kernel
theorem dX12_readsRule_14 : decode cX12_readsRule 14 = .ok (.ifCond .eq 7, 3) := by decide +kernel
theorem dX12_readsRule_17 : decode cX12_readsRule 17 = .ok (.iconst 0, 1) := by decide +kernel
theorem dX12_readsRule_18 : decode cX12_readsRule 18 = .ok (.goto 18, 3) := by decide +kernel
theorem dX12_readsRule_21 : decode cX12_readsRule 21 = .ok (.aload_n 0, 1) := by decide +kernel
theorem dX12_readsRule_22 : decode cX12_readsRule 22 = .ok (.ldc2_w 276, 3) := by decide +kernel
theorem dX12_readsRule_25 : decode cX12_readsRule 25 = .ok (.invokevirtual 156, 3) := by decide +kernel
theorem dX12_readsRule_28 : decode cX12_readsRule 28 = .ok (.ifCond .eq 7, 3) := by decide +kernel
theorem dX12_readsRule_31 : decode cX12_readsRule 31 = .ok (.iconst 1, 1) := by decide +kernel
theorem dX12_readsRule_32 : decode cX12_readsRule 32 = .ok (.goto 4, 3) := by decide +kernel
theorem dX12_readsRule_35 : decode cX12_readsRule 35 = .ok (.iconst 2, 1) := by decide +kernel
theorem dX12_readsRule_36 : decode cX12_readsRule 36 = .ok (.iastore, 1) := by decide +kernel
theorem dX12_readsRule_37 : decode cX12_readsRule 37 = .ok (.aload_n 0, 1) := by decide +kernel
theorem dX12_readsRule_38 : decode cX12_readsRule 38 = .ok (.getfield 20, 3) := by decide +kernel
theorem dX12_readsRule_41 : decode cX12_readsRule 41 = .ok (.iload_n 1, 1) := by decide +kernel
theorem dX12_readsRule_42 : decode cX12_readsRule 42 = .ok (.iconst 2, 1) := by decide +kernel
theorem dX12_readsRule_43 : decode cX12_readsRule 43 = .ok (.iadd, 1) := by decide +kernel
theorem dX12_readsRule_44 : decode cX12_readsRule 44 = .ok (.aload_n 0, 1) := by decide +kernel
theorem dX12_readsRule_45 : decode cX12_readsRule 45 = .ok (.invokevirtual 262, 3) := by decide +kernel
theorem dX12_readsRule_48 : decode cX12_readsRule 48 = .ok (.iastore, 1) := by decide +kernel
theorem dX12_readsRule_49 : decode cX12_readsRule 49 = .ok (.aload_n 0, 1) := by decide +kernel
theorem dX12_readsRule_50 : decode cX12_readsRule 50 = .ok (.invokevirtual 143, 3) := by decide +kernel
theorem dX12_readsRule_53 : decode cX12_readsRule 53 = .ok (.ifCond .eq 32, 3) := by decide +kernel
theorem dX12_readsRule_56 : decode cX12_readsRule 56 = .ok (.aload_n 0, 1) := by decide +kernel
theorem dX12_readsRule_57 : decode cX12_readsRule 57 = .ok (.getfield 20, 3) := by decide +kernel
theorem dX12_readsRule_60 : decode cX12_readsRule 60 = .ok (.iload_n 1, 1) := by decide +kernel
theorem dX12_readsRule_61 : decode cX12_readsRule 61 = .ok (.iconst 1, 1) := by decide +kernel
theorem dX12_readsRule_62 : decode cX12_readsRule 62 = .ok (.iadd, 1) := by decide +kernel
theorem dX12_readsRule_63 : decode cX12_readsRule 63 = .ok (.iaload, 1) := by decide +kernel
theorem dX12_readsRule_64 : decode cX12_readsRule 64 = .ok (.iconst 2, 1) := by decide +kernel
theorem dX12_readsRule_65 : decode cX12_readsRule 65 = .ok (.if_icmp .ne 20, 3) := by decide +kernel
theorem dX12_readsRule_68 : decode cX12_readsRule 68 = .ok (.aload_n 0, 1) := by decide +kernel
theorem dX12_readsRule_69 : decode cX12_readsRule 69 = .ok (.getfield 20, 3) := by decide +kernel
theorem dX12_readsRule_72 : decode cX12_readsRule 72 = .ok (.iload_n 1, 1) := by decide +kernel
theorem dX12_readsRule_73 : decode cX12_readsRule 73 = .ok (.iconst 2, 1) := by decide +kernel
theorem dX12_readsRule_74 : decode cX12_readsRule 74 = .ok (.iadd, 1) := by decide +kernel
theorem dX12_readsRule_75 : decode cX12_readsRule 75 = .ok (.iaload, 1) := by decide +kernel
theorem dX12_readsRule_76 : decode cX12_readsRule 76 = .ok (.iconst (-1), 1) := by decide +kernel
theorem dX12_readsRule_77 : decode cX12_readsRule 77 = .ok (.if_icmp .ne 8, 3) := by decide +kernel
theorem dX12_readsRule_80 : decode cX12_readsRule 80 = .ok (.aload_n 0, 1) := by decide +kernel
theorem dX12_readsRule_81 : decode cX12_readsRule 81 = .ok (.iconst 1, 1) := by decide +kernel
theorem dX12_readsRule_82 : decode cX12_readsRule 82 = .ok (.invokevirtual 150, 3) := by decide +kernel
theorem dX12_readsRule_85 : decode cX12_readsRule 85 = .ok (.aload_n 0, 1) := by decide +kernel
theorem dX12_readsRule_86 : decode cX12_readsRule 86 = .ok (.invokevirtual 143, 3) := by decide +kernel
theorem dX12_readsRule_89 : decode cX12_readsRule 89 = .ok (.ifCond .eq 7, 3) := by decide +kernel
theorem dX12_readsRule_92 : decode cX12_readsRule 92 = .ok (.aload_n 0, 1) := by decide +kernel
theorem dX12_readsRule_93 : decode cX12_readsRule 93 = .ok (.invokevirtual 153, 3) := by decide +kernel
theorem dX12_readsRule_96 : decode cX12_readsRule 96 = .ok (.aload_n 0, 1) := by decide +kernel
theorem dX12_readsRule_97 : decode cX12_readsRule 97 = .ok (.invokevirtual 143, 3) := by decide +kernel
theorem dX12_readsRule_100 : decode cX12_readsRule 100 = .ok (.ifCond .eq 15, 3) := by decide +kernel
theorem dX12_readsRule_103 : decode cX12_readsRule 103 = .ok (.aload_n 0, 1) := by decide +kernel
theorem dX12_readsRule_104 : decode cX12_readsRule 104 = .ok (.getfield 20, 3) := by decide +kernel
theorem dX12_readsRule_107 : decode cX12_readsRule 107 = .ok (.iload_n 1, 1) := by decide +kernel
theorem dX12_readsRule_108 : decode cX12_readsRule 108 = .ok (.iconst 1, 1) := by decide +kernel
theorem dX12_readsRule_109 : decode cX12_readsRule 109 = .ok (.iadd, 1) := by decide +kernel
theorem dX12_readsRule_110 : decode cX12_readsRule 110 = .ok (.iaload, 1) := by decide +kernel
theorem dX12_readsRule_111 : decode cX12_readsRule 111 = .ok (.iconst 2, 1) := by decide +kernel
theorem dX12_readsRule_112 : decode cX12_readsRule 112 = .ok (.if_icmp .ge 4, 3) := by decide +kernel
theorem dX12_readsRule_115 : decode cX12_readsRule 115 = .ok (.return_, 1) := by decide +kernel
theorem dX12_readsRule_116 : decode cX12_readsRule 116 = .ok (.aload_n 0, 1) := by decide +kernel
theorem dX12_readsRule_117 : decode cX12_readsRule 117 = .ok (.ldc2_w 278, 3) := by decide +kernel
theorem dX12_readsRule_120 : decode cX12_readsRule 120 = .ok (.invokevirtual 156, 3) := by decide +kernel
theorem dX12_readsRule_123 : decode cX12_readsRule 123 = .ok (.ifCond .eq 52, 3) := by decide +kernel
theorem dX12_readsRule_126 : decode cX12_readsRule 126 = .ok (.aload_n 0, 1) := by decide +kernel
theorem dX12_readsRule_127 : decode cX12_readsRule 127 = .ok (.invokevirtual 153, 3) := by decide +kernel
theorem dX12_readsRule_130 : decode cX12_readsRule 130 = .ok (.aload_n 0, 1) := by decide +kernel
theorem dX12_readsRule_131 : decode cX12_readsRule 131 = .ok (.getfield 20, 3) := by decide +kernel
theorem dX12_readsRule_134 : decode cX12_readsRule 134 = .ok (.iload_n 1, 1) := by decide +kernel
theorem dX12_readsRule_135 : decode cX12_readsRule 135 = .ok (.iconst 3, 1) := by decide +kernel
theorem dX12_readsRule_136 : decode cX12_readsRule 136 = .ok (.iadd, 1) := by decide +kernel
theorem dX12_readsRule_137 : decode cX12_readsRule 137 = .ok (.aload_n 0, 1) := by decide +kernel
theorem dX12_readsRule_138 : decode cX12_readsRule 138 = .ok (.iconst 2, 1) := by decide +kernel
theorem dX12_readsRule_139 : decode cX12_readsRule 139 = .ok (.iconst 5, 1) := by decide +kernel
theorem dX12_readsRule_140 : decode cX12_readsRule 140 = .ok (.invokevirtual 246, 3) := by decide +kernel
theorem dX12_readsRule_143 : decode cX12_readsRule 143 = .ok (.iastore, 1) := by decide +kernel
theorem dX12_readsRule_144 : decode cX12_readsRule 144 = .ok (.aload_n 0, 1) := by decide +kernel
theorem dX12_readsRule_145 : decode cX12_readsRule 145 = .ok (.ldc2_w 280, 3) := by decide +kernel
theorem dX12_readsRule_148 : decode cX12_readsRule 148 = .ok (.invokevirtual 282, 3) := by decide +kernel
theorem dX12_readsRule_151 : decode cX12_readsRule 151 = .ok (.aload_n 0, 1) := by decide +kernel
theorem dX12_readsRule_152 : decode cX12_readsRule 152 = .ok (.getfield 20, 3) := by decide +kernel
theorem dX12_readsRule_155 : decode cX12_readsRule 155 = .ok (.iload_n 1, 1) := by decide +kernel
theorem dX12_readsRule_156 : decode cX12_readsRule 156 = .ok (.iconst 4, 1) := by decide +kernel
theorem dX12_readsRule_157 : decode cX12_readsRule 157 = .ok (.iadd, 1) := by decide +kernel
theorem dX12_readsRule_158 : decode cX12_readsRule 158 = .ok (.aload_n 0, 1) := by decide +kernel
theorem dX12_readsRule_159 : decode cX12_readsRule 159 = .ok (.iconst 0, 1) := by decide +kernel
theorem dX12_readsRule_160 : decode cX12_readsRule 160 = .ok (.aload_n 0, 1) := by decide +kernel
theorem dX12_readsRule_161 : decode cX12_readsRule 161 = .ok (.getfield 20, 3) := by decide +kernel
theorem dX12_readsRule_164 : decode cX12_readsRule 164 = .ok (.iload_n 1, 1) := by decide +kernel
theorem dX12_readsRule_165 : decode cX12_readsRule 165 = .ok (.iconst 3, 1) := by decide +kernel
theorem dX12_readsRule_166 : decode cX12_readsRule 166 = .ok (.iadd, 1) := by decide +kernel
theorem dX12_readsRule_167 : decode cX12_readsRule 167 = .ok (.iaload, 1) := by decide +kernel
theorem dX12_readsRule_168 : decode cX12_readsRule 168 = .ok (.iconst 1, 1) := by decide +kernel
theorem dX12_readsRule_169 : decode cX12_readsRule 169 = .ok (.isub, 1) := by decide +kernel
theorem dX12_readsRule_170 : decode cX12_readsRule 170 = .ok (.invokevirtual 246, 3) := by decide +kernel
theorem dX12_readsRule_173 : decode cX12_readsRule 173 = .ok (.iastore, 1) := by decide +kernel
theorem dX12_readsRule_174 : decode cX12_readsRule 174 = .ok (.return_, 1) := by decide +kernel
theorem dX12_readsRule_175 : decode cX12_readsRule 175 = .ok (.aload_n 0, 1) := by decide +kernel
theorem dX12_readsRule_176 : decode cX12_readsRule 176 = .ok (.getfield 20, 3) := by decide +kernel
theorem dX12_readsRule_179 : decode cX12_readsRule 179 = .ok (.iload_n 1, 1) := by decide +kernel
theorem dX12_readsRule_180 : decode cX12_readsRule 180 = .ok (.iconst 1, 1) := by decide +kernel
theorem dX12_readsRule_181 : decode cX12_readsRule 181 = .ok (.iadd, 1) := by decide +kernel
theorem dX12_readsRule_182 : decode cX12_readsRule 182 = .ok (.iconst 3, 1) := by decide +kernel
theorem dX12_readsRule_183 : decode cX12_readsRule 183 = .ok (.iastore, 1) := by decide +kernel
theorem dX12_readsRule_184 : decode cX12_readsRule 184 = .ok (.aload_n 0, 1) := by decide +kernel
theorem dX12_readsRule_185 : decode cX12_readsRule 185 = .ok (.ldc2_w 286, 3) := by decide +kernel
theorem dX12_readsRule_188 : decode cX12_readsRule 188 = .ok (.invokevirtual 282, 3) := by decide +kernel
theorem dX12_readsRule_191 : decode cX12_readsRule 191 = .ok (.aload_n 0, 1) := by decide +kernel
theorem dX12_readsRule_192 : decode cX12_readsRule 192 = .ok (.getfield 20, 3) := by decide +kernel
theorem dX12_readsRule_195 : decode cX12_readsRule 195 = .ok (.iload_n 1, 1) := by decide +kernel
theorem dX12_readsRule_196 : decode cX12_readsRule 196 = .ok (.iconst 3, 1) := by decide +kernel
theorem dX12_readsRule_197 : decode cX12_readsRule 197 = .ok (.iadd, 1) := by decide +kernel
theorem dX12_readsRule_198 : decode cX12_readsRule 198 = .ok (.aload_n 0, 1) := by decide +kernel
theorem dX12_readsRule_199 : decode cX12_readsRule 199 = .ok (.iconst 0, 1) := by decide +kernel
theorem dX12_readsRule_200 : decode cX12_readsRule 200 = .ok (.aload_n 0, 1) := by decide +kernel
theorem dX12_readsRule_201 : decode cX12_readsRule 201 = .ok (.getfield 20, 3) := by decide +kernel
theorem dX12_readsRule_204 : decode cX12_readsRule 204 = .ok (.iconst 0, 1) := by decide +kernel
theorem dX12_readsRule_205 : decode cX12_readsRule 205 = .ok (.iaload, 1) := by decide +kernel
theorem dX12_readsRule_206 : decode cX12_readsRule 206 = .ok (.iconst 1, 1) := by decide +kernel
theorem dX12_readsRule_207 : decode cX12_readsRule 207 = .ok (.isub, 1) := by decide +kernel
theorem dX12_readsRule_208 : decode cX12_readsRule 208 = .ok (.invokevirtual 246, 3) := by decide +kernel
theorem dX12_readsRule_211 : decode cX12_readsRule 211 = .ok (.iastore, 1) := by decide +kernel
theorem dX12_readsRule_212 : decode cX12_readsRule 212 = .ok (.aload_n 0, 1) := by decide +kernel
theorem dX12_readsRule_213 : decode cX12_readsRule 213 = .ok (.getfield 20, 3) := by decide +kernel
theorem dX12_readsRule_216 : decode cX12_readsRule 216 = .ok (.iload_n 1, 1) := by decide +kernel
theorem dX12_readsRule_217 : decode cX12_readsRule 217 = .ok (.iconst 4, 1) := by decide +kernel
theorem dX12_readsRule_218 : decode cX12_readsRule 218 = .ok (.iadd, 1) := by decide +kernel
theorem dX12_readsRule_219 : decode cX12_readsRule 219 = .ok (.aload_n 0, 1) := by decide +kernel
theorem dX12_readsRule_220 : decode cX12_readsRule 220 = .ok (.iconst 0, 1) := by decide +kernel
theorem dX12_readsRule_221 : decode cX12_readsRule 221 = .ok (.aload_n 0, 1) := by decide +kernel
theorem dX12_readsRule_222 : decode cX12_readsRule 222 = .ok (.getfield 20, 3) := by decide +kernel
theorem dX12_readsRule_225 : decode cX12_readsRule 225 = .ok (.iconst 1, 1) := by decide +kernel
theorem dX12_readsRule_226 : decode cX12_readsRule 226 = .ok (.iaload, 1) := by decide +kernel
theorem dX12_readsRule_227 : decode cX12_readsRule 227 = .ok (.iconst 1, 1) := by decide +kernel
theorem dX12_readsRule_228 : decode cX12_readsRule 228 = .ok (.isub, 1) := by decide +kernel
theorem dX12_readsRule_229 : decode cX12_readsRule 229 = .ok (.invokevirtual 246, 3) := by decide +kernel
theorem dX12_readsRule_232 : decode cX12_readsRule 232 = .ok (.iastore, 1) := by decide +kernel
theorem dX12_readsRule_233 : decode cX12_readsRule 233 = .ok (.aload_n 0, 1) := by decide +kernel
theorem dX12_readsRule_234 : decode cX12_readsRule 234 = .ok (.ldc2_w 288, 3) := by decide +kernel
theorem dX12_readsRule_237 : decode cX12_readsRule 237 = .ok (.invokevirtual 282, 3) := by decide +kernel
theorem dX12_readsRule_240 : decode cX12_readsRule 240 = .ok (.aload_n 0, 1) := by decide +kernel
theorem dX12_readsRule_241 : decode cX12_readsRule 241 = .ok (.getfield 20, 3) := by decide +kernel
theorem dX12_readsRule_244 : decode cX12_readsRule 244 = .ok (.iload_n 1, 1) := by decide +kernel
theorem dX12_readsRule_245 : decode cX12_readsRule 245 = .ok (.iconst 5, 1) := by decide +kernel
theorem dX12_readsRule_246 : decode cX12_readsRule 246 = .ok (.iadd, 1) := by decide +kernel
theorem dX12_readsRule_247 : decode cX12_readsRule 247 = .ok (.aload_n 0, 1) := by decide +kernel
theorem dX12_readsRule_248 : decode cX12_readsRule 248 = .ok (.iconst 0, 1) := by decide +kernel
theorem dX12_readsRule_249 : decode cX12_readsRule 249 = .ok (.aload_n 0, 1) := by decide +kernel
theorem dX12_readsRule_250 : decode cX12_readsRule 250 = .ok (.getfield 20, 3) := by decide +kernel
theorem dX12_readsRule_253 : decode cX12_readsRule 253 = .ok (.iconst 0, 1) := by decide +kernel
theorem dX12_readsRule_254 : decode cX12_readsRule 254 = .ok (.iaload, 1) := by decide +kernel
theorem dX12_readsRule_255 : decode cX12_readsRule 255 = .ok (.iconst 1, 1) := by decide +kernel
theorem dX12_readsRule_256 : decode cX12_readsRule 256 = .ok (.isub, 1) := by decide +kernel
theorem dX12_readsRule_257 : decode cX12_readsRule 257 = .ok (.invokevirtual 246, 3) := by decide +kernel
theorem dX12_readsRule_260 : decode cX12_readsRule 260 = .ok (.iastore, 1) := by decide +kernel
theorem dX12_readsRule_261 : decode cX12_readsRule 261 = .ok (.aload_n 0, 1) := by decide +kernel
theorem dX12_readsRule_262 : decode cX12_readsRule 262 = .ok (.getfield 20, 3) := by decide +kernel
theorem dX12_readsRule_265 : decode cX12_readsRule 265 = .ok (.iload_n 1, 1) := by decide +kernel
theorem dX12_readsRule_266 : decode cX12_readsRule 266 = .ok (.bipush 6, 2) := by decide +kernel
theorem dX12_readsRule_268 : decode cX12_readsRule 268 = .ok (.iadd, 1) := by decide +kernel
theorem dX12_readsRule_269 : decode cX12_readsRule 269 = .ok (.aload_n 0, 1) := by decide +kernel
theorem dX12_readsRule_270 : decode cX12_readsRule 270 = .ok (.iconst 0, 1) := by decide +kernel
theorem dX12_readsRule_271 : decode cX12_readsRule 271 = .ok (.aload_n 0, 1) := by decide +kernel
theorem dX12_readsRule_272 : decode cX12_readsRule 272 = .ok (.getfield 20, 3) := by decide +kernel
theorem dX12_readsRule_275 : decode cX12_readsRule 275 = .ok (.iconst 1, 1) := by decide +kernel
theorem dX12_readsRule_276 : decode cX12_readsRule 276 = .ok (.iaload, 1) := by decide +kernel
theorem dX12_readsRule_277 : decode cX12_readsRule 277 = .ok (.iconst 1, 1) := by decide +kernel
theorem dX12_readsRule_278 : decode cX12_readsRule 278 = .ok (.isub, 1) := by decide +kernel
theorem dX12_readsRule_279 : decode cX12_readsRule 279 = .ok (.invokevirtual 246, 3) := by decide +kernel
theorem dX12_readsRule_282 : decode cX12_readsRule 282 = .ok (.iastore, 1) := by decide +kernel
theorem dX12_readsRule_283 : decode cX12_readsRule 283 = .ok (.return_, 1) := by decide +kernel
theorem dX12_readsBlock_0 : decode cX12_readsBlock 0 = .ok (.aload_n 0, 1) := by decide +kernel
theorem dX12_readsBlock_1 : decode cX12_readsBlock 1 = .ok (.getfield 20, 3) := by decide +kernel
theorem dX12_readsBlock_4 : decode cX12_readsBlock 4 = .ok (.iconst 3, 1) := by decide +kernel
theorem dX12_readsBlock_5 : decode cX12_readsBlock 5 = .ok (.iaload, 1) := by decide +kernel
theorem dX12_readsBlock_6 : decode cX12_readsBlock 6 = .ok (.bipush 40, 2) := by decide +kernel
theorem dX12_readsBlock_8 : decode cX12_readsBlock 8 = .ok (.if_icmp .ne 9, 3) := by decide +kernel
theorem dX12_readsBlock_11 : decode cX12_readsBlock 11 = .ok (.aload_n 0, 1) := by decide +kernel
theorem dX12_readsBlock_12 : decode cX12_readsBlock 12 = .ok (.bipush 6, 2) := by decide +kernel
theorem dX12_readsBlock_14 : decode cX12_readsBlock 14 = .ok (.invokevirtual 150, 3) := by decide +kernel
theorem dX12_readsBlock_17 : decode cX12_readsBlock 17 = .ok (.aload_n 0, 1) := by decide +kernel
theorem dX12_readsBlock_18 : decode cX12_readsBlock 18 = .ok (.invokevirtual 143, 3) := by decide +kernel
theorem dX12_readsBlock_21 : decode cX12_readsBlock 21 = .ok (.ifCond .eq 7, 3) := by decide +kernel
theorem dX12_readsBlock_24 : decode cX12_readsBlock 24 = .ok (.aload_n 0, 1) := by decide +kernel
theorem dX12_readsBlock_25 : decode cX12_readsBlock 25 = .ok (.invokevirtual 153, 3) := by decide +kernel
theorem dX12_readsBlock_28 : decode cX12_readsBlock 28 = .ok (.aload_n 0, 1) := by decide +kernel
theorem dX12_readsBlock_29 : decode cX12_readsBlock 29 = .ok (.iconst 0, 1) := by decide +kernel
theorem dX12_readsBlock_30 : decode cX12_readsBlock 30 = .ok (.aload_n 0, 1) := by decide +kernel
theorem dX12_readsBlock_31 : decode cX12_readsBlock 31 = .ok (.getfield 20, 3) := by decide +kernel
theorem dX12_readsBlock_34 : decode cX12_readsBlock 34 = .ok (.iconst 0, 1) := by decide +kernel
theorem dX12_readsBlock_35 : decode cX12_readsBlock 35 = .ok (.iaload, 1) := by decide +kernel
theorem dX12_readsBlock_36 : decode cX12_readsBlock 36 = .ok (.iconst 2, 1) := by decide +kernel
theorem dX12_readsBlock_37 : decode cX12_readsBlock 37 = .ok (.isub, 1) := by decide +kernel
theorem dX12_readsBlock_38 : decode cX12_readsBlock 38 = .ok (.invokevirtual 246, 3) := by decide +kernel
theorem dX12_readsBlock_41 : decode cX12_readsBlock 41 = .ok (.istore_n 1, 1) := by decide +kernel
theorem dX12_readsBlock_42 : decode cX12_readsBlock 42 = .ok (.aload_n 0, 1) := by decide +kernel
theorem dX12_readsBlock_43 : decode cX12_readsBlock 43 = .ok (.iconst 0, 1) := by decide +kernel
theorem dX12_readsBlock_44 : decode cX12_readsBlock 44 = .ok (.aload_n 0, 1) := by decide +kernel
theorem dX12_readsBlock_45 : decode cX12_readsBlock 45 = .ok (.getfield 20, 3) := by decide +kernel
theorem dX12_readsBlock_48 : decode cX12_readsBlock 48 = .ok (.iconst 1, 1) := by decide +kernel
theorem dX12_readsBlock_49 : decode cX12_readsBlock 49 = .ok (.iaload, 1) := by decide +kernel
theorem dX12_readsBlock_50 : decode cX12_readsBlock 50 = .ok (.iconst 2, 1) := by decide +kernel
theorem dX12_readsBlock_51 : decode cX12_readsBlock 51 = .ok (.isub, 1) := by decide +kernel
theorem dX12_readsBlock_52 : decode cX12_readsBlock 52 = .ok (.invokevirtual 246, 3) := by decide +kernel
theorem dX12_readsBlock_55 : decode cX12_readsBlock 55 = .ok (.istore_n 2, 1) := by decide +kernel
theorem dX12_readsBlock_56 : decode cX12_readsBlock 56 = .ok (.aload_n 0, 1) := by decide +kernel
theorem dX12_readsBlock_57 : decode cX12_readsBlock 57 = .ok (.invokevirtual 290, 3) := by decide +kernel
theorem dX12_readsBlock_60 : decode cX12_readsBlock 60 = .ok (.istore_n 3, 1) := by decide +kernel
theorem dX12_readsBlock_61 : decode cX12_readsBlock 61 = .ok (.aload_n 0, 1) := by decide +kernel
theorem dX12_readsBlock_62 : decode cX12_readsBlock 62 = .ok (.invokevirtual 143, 3) := by decide +kernel
theorem dX12_readsBlock_65 : decode cX12_readsBlock 65 = .ok (.ifCond .eq 17, 3) := by decide +kernel
theorem dX12_readsBlock_68 : decode cX12_readsBlock 68 = .ok (.aload_n 0, 1) := by decide +kernel
theorem dX12_readsBlock_69 : decode cX12_readsBlock 69 = .ok (.bipush 59, 2) := by decide +kernel
theorem dX12_readsBlock_71 : decode cX12_readsBlock 71 = .ok (.invokevirtual 147, 3) := by decide +kernel
theorem dX12_readsBlock_74 : decode cX12_readsBlock 74 = .ok (.ifCond .ne 8, 3) := by decide +kernel
theorem dX12_readsBlock_77 : decode cX12_readsBlock 77 = .ok (.aload_n 0, 1) := by decide +kernel
theorem dX12_readsBlock_78 : decode cX12_readsBlock 78 = .ok (.iconst 1, 1) := by decide +kernel
theorem dX12_readsBlock_79 : decode cX12_readsBlock 79 = .ok (.invokevirtual 150, 3) := by decide +kernel
theorem dX12_readsBlock_82 : decode cX12_readsBlock 82 = .ok (.aload_n 0, 1) := by decide +kernel
theorem dX12_readsBlock_83 : decode cX12_readsBlock 83 = .ok (.invokevirtual 143, 3) := by decide +kernel
theorem dX12_readsBlock_86 : decode cX12_readsBlock 86 = .ok (.ifCond .eq 18, 3) := by decide +kernel
theorem dX12_readsBlock_89 : decode cX12_readsBlock 89 = .ok (.aload_n 0, 1) := by decide +kernel
theorem dX12_readsBlock_90 : decode cX12_readsBlock 90 = .ok (.iload_n 1, 1) := by decide +kernel
theorem dX12_readsBlock_91 : decode cX12_readsBlock 91 = .ok (.iload_n 2, 1) := by decide +kernel
theorem dX12_readsBlock_92 : decode cX12_readsBlock 92 = .ok (.iload_n 3, 1) := by decide +kernel
theorem dX12_readsBlock_93 : decode cX12_readsBlock 93 = .ok (.invokevirtual 293, 3) := by decide +kernel
theorem dX12_readsBlock_96 : decode cX12_readsBlock 96 = .ok (.ifCond .ne 8, 3) := by decide +kernel
theorem dX12_readsBlock_99 : decode cX12_readsBlock 99 = .ok (.aload_n 0, 1) := by decide +kernel
theorem dX12_readsBlock_100 : decode cX12_readsBlock 100 = .ok (.iconst 5, 1) := by decide +kernel
theorem dX12_readsBlock_101 : decode cX12_readsBlock 101 = .ok (.invokevirtual 150, 3) := by decide +kernel
theorem dX12_readsBlock_104 : decode cX12_readsBlock 104 = .ok (.aload_n 0, 1) := by decide +kernel
theorem dX12_readsBlock_105 : decode cX12_readsBlock 105 = .ok (.invokevirtual 143, 3) := by decide +kernel
theorem dX12_readsBlock_108 : decode cX12_readsBlock 108 = .ok (.ifCond .ne 4, 3) := by decide +kernel
theorem dX12_readsBlock_111 : decode cX12_readsBlock 111 = .ok (.return_, 1) := by decide +kernel
theorem dX12_readsBlock_112 : decode cX12_readsBlock 112 = .ok (.aload_n 0, 1) := by decide +kernel
theorem dX12_readsBlock_113 : decode cX12_readsBlock 113 = .ok (.getfield 20, 3) := by decide +kernel
theorem dX12_readsBlock_116 : decode cX12_readsBlock 116 = .ok (.bipush 120, 2) := by decide +kernel
theorem dX12_readsBlock_118 : decode cX12_readsBlock 118 = .ok (.bipush 8, 2) := by decide +kernel
theorem dX12_readsBlock_120 : decode cX12_readsBlock 120 = .ok (.iload_n 2, 1) := by decide +kernel
theorem dX12_readsBlock_121 : decode cX12_readsBlock 121 = .ok (.imul, 1) := by decide +kernel
theorem dX12_readsBlock_122 : decode cX12_readsBlock 122 = .ok (.iadd, 1) := by decide +kernel
theorem dX12_readsBlock_123 : decode cX12_readsBlock 123 = .ok (.iload_n 1, 1) := by decide +kernel
theorem dX12_readsBlock_124 : decode cX12_readsBlock 124 = .ok (.iadd, 1) := by decide +kernel
theorem dX12_readsBlock_125 : decode cX12_readsBlock 125 = .ok (.iload_n 3, 1) := by decide +kernel
theorem dX12_readsBlock_126 : decode cX12_readsBlock 126 = .ok (.iastore, 1) := by decide +kernel
theorem dX12_readsBlock_127 : decode cX12_readsBlock 127 = .ok (.aload_n 0, 1) := by decide +kernel
theorem dX12_readsBlock_128 : decode cX12_readsBlock 128 = .ok (.getfield 20, 3) := by decide +kernel
theorem dX12_readsBlock_131 : decode cX12_readsBlock 131 = .ok (.iconst 3, 1) := by decide +kernel
theorem dX12_readsBlock_132 : decode cX12_readsBlock 132 = .ok (.dup2, 1) := by decide +kernel
theorem dX12_readsBlock_133 : decode cX12_readsBlock 133 = .ok (.iaload, 1) := by decide +kernel
theorem dX12_readsBlock_134 : decode cX12_readsBlock 134 = .ok (.iconst 1, 1) := by decide +kernel
theorem dX12_readsBlock_135 : decode cX12_readsBlock 135 = .ok (.iadd, 1) := by decide +kernel
theorem dX12_readsBlock_136 : decode cX12_readsBlock 136 = .ok (.iastore, 1) := by decide +kernel
theorem dX12_readsBlock_137 : decode cX12_readsBlock 137 = .ok (.return_, 1) := by decide +kernel
theorem dX12_statement_0 : decode cX12_statement 0 = .ok (.aload_n 0, 1) := by decide +kernel
theorem dX12_statement_1 : decode cX12_statement 1 = .ok (.ldc2_w 296, 3) := by decide +kernel
theorem dX12_statement_4 : decode cX12_statement 4 = .ok (.invokevirtual 156, 3) := by decide +kernel
theorem dX12_statement_7 : decode cX12_statement 7 = .ok (.ifCond .eq 10, 3) := by decide +kernel
theorem dX12_statement_10 : decode cX12_statement 10 = .ok (.aload_n 0, 1) := by decide +kernel
theorem dX12_statement_11 : decode cX12_statement 11 = .ok (.invokevirtual 298, 3) := by decide +kernel
theorem dX12_statement_14 : decode cX12_statement 14 = .ok (.goto 76, 3) := by decide +kernel
theorem dX12_statement_17 : decode cX12_statement 17 = .ok (.aload_n 0, 1) := by decide +kernel
theorem dX12_statement_18 : decode cX12_statement 18 = .ok (.ldc2_w 265, 3) := by decide +kernel
theorem dX12_statement_21 : decode cX12_statement 21 = .ok (.invokevirtual 156, 3) := by decide +kernel
theorem dX12_statement_24 : decode cX12_statement 24 = .ok (.ifCond .eq 10, 3) := by decide +kernel
theorem dX12_statement_27 : decode cX12_statement 27 = .ok (.aload_n 0, 1) := by decide +kernel
theorem dX12_statement_28 : decode cX12_statement 28 = .ok (.invokevirtual 301, 3) := by decide +kernel
theorem dX12_statement_31 : decode cX12_statement 31 = .ok (.goto 59, 3) := by decide +kernel
theorem dX12_statement_34 : decode cX12_statement 34 = .ok (.aload_n 0, 1) := by decide +kernel
theorem dX12_statement_35 : decode cX12_statement 35 = .ok (.ldc2_w 304, 3) := by decide +kernel
theorem dX12_statement_38 : decode cX12_statement 38 = .ok (.invokevirtual 156, 3) := by decide +kernel
theorem dX12_statement_41 : decode cX12_statement 41 = .ok (.ifCond .eq 10, 3) := by decide +kernel
theorem dX12_statement_44 : decode cX12_statement 44 = .ok (.aload_n 0, 1) := by decide +kernel
theorem dX12_statement_45 : decode cX12_statement 45 = .ok (.invokevirtual 306, 3) := by decide +kernel
theorem dX12_statement_48 : decode cX12_statement 48 = .ok (.goto 42, 3) := by decide +kernel
theorem dX12_statement_51 : decode cX12_statement 51 = .ok (.aload_n 0, 1) := by decide +kernel
theorem dX12_statement_52 : decode cX12_statement 52 = .ok (.ldc2_w 309, 3) := by decide +kernel
theorem dX12_statement_55 : decode cX12_statement 55 = .ok (.invokevirtual 156, 3) := by decide +kernel
theorem dX12_statement_58 : decode cX12_statement 58 = .ok (.ifCond .eq 10, 3) := by decide +kernel
theorem dX12_statement_61 : decode cX12_statement 61 = .ok (.aload_n 0, 1) := by decide +kernel
theorem dX12_statement_62 : decode cX12_statement 62 = .ok (.invokevirtual 311, 3) := by decide +kernel
theorem dX12_statement_65 : decode cX12_statement 65 = .ok (.goto 25, 3) := by decide +kernel
theorem dX12_statement_68 : decode cX12_statement 68 = .ok (.aload_n 0, 1) := by decide +kernel
theorem dX12_statement_69 : decode cX12_statement 69 = .ok (.ldc2_w 314, 3) := by decide +kernel
theorem dX12_statement_72 : decode cX12_statement 72 = .ok (.invokevirtual 156, 3) := by decide +kernel
theorem dX12_statement_75 : decode cX12_statement 75 = .ok (.ifCond .eq 10, 3) := by decide +kernel
theorem dX12_statement_78 : decode cX12_statement 78 = .ok (.aload_n 0, 1) := by decide +kernel
theorem dX12_statement_79 : decode cX12_statement 79 = .ok (.invokevirtual 316, 3) := by decide +kernel
theorem dX12_statement_82 : decode cX12_statement 82 = .ok (.goto 8, 3) := by decide +kernel
theorem dX12_statement_85 : decode cX12_statement 85 = .ok (.aload_n 0, 1) := by decide +kernel
theorem dX12_statement_86 : decode cX12_statement 86 = .ok (.iconst 1, 1) := by decide +kernel
theorem dX12_statement_87 : decode cX12_statement 87 = .ok (.invokevirtual 150, 3) := by decide +kernel
theorem dX12_statement_90 : decode cX12_statement 90 = .ok (.aload_n 0, 1) := by decide +kernel
theorem dX12_statement_91 : decode cX12_statement 91 = .ok (.bipush 59, 2) := by decide +kernel
theorem dX12_statement_93 : decode cX12_statement 93 = .ok (.invokevirtual 319, 3) := by decide +kernel
theorem dX12_statement_96 : decode cX12_statement 96 = .ok (.return_, 1) := by decide +kernel
theorem dX12_readText_0 : decode cX12_readText 0 = .ok (.aload_n 0, 1) := by decide +kernel
theorem dX12_readText_1 : decode cX12_readText 1 = .ok (.invokevirtual 322, 3) := by decide +kernel
theorem dX12_readText_4 : decode cX12_readText 4 = .ok (.aload_n 0, 1) := by decide +kernel
theorem dX12_readText_5 : decode cX12_readText 5 = .ok (.invokevirtual 325, 3) := by decide +kernel
theorem dX12_readText_8 : decode cX12_readText 8 = .ok (.aload_n 0, 1) := by decide +kernel
theorem dX12_readText_9 : decode cX12_readText 9 = .ok (.invokevirtual 85, 3) := by decide +kernel
theorem dX12_readText_12 : decode cX12_readText 12 = .ok (.aload_n 0, 1) := by decide +kernel
theorem dX12_readText_13 : decode cX12_readText 13 = .ok (.iconst 5, 1) := by decide +kernel
theorem dX12_readText_14 : decode cX12_readText 14 = .ok (.putfield 252, 3) := by decide +kernel
theorem dX12_readText_17 : decode cX12_readText 17 = .ok (.aload_n 0, 1) := by decide +kernel
theorem dX12_readText_18 : decode cX12_readText 18 = .ok (.iconst 0, 1) := by decide +kernel
theorem dX12_readText_19 : decode cX12_readText 19 = .ok (.putfield 243, 3) := by decide +kernel
theorem dX12_readText_22 : decode cX12_readText 22 = .ok (.aload_n 0, 1) := by decide +kernel
theorem dX12_readText_23 : decode cX12_readText 23 = .ok (.iconst 0, 1) := by decide +kernel
theorem dX12_readText_24 : decode cX12_readText 24 = .ok (.putfield 249, 3) := by decide +kernel
theorem dX12_readText_27 : decode cX12_readText 27 = .ok (.aload_n 0, 1) := by decide +kernel
theorem dX12_readText_28 : decode cX12_readText 28 = .ok (.invokevirtual 143, 3) := by decide +kernel
theorem dX12_readText_31 : decode cX12_readText 31 = .ok (.ifCond .eq 17, 3) := by decide +kernel
theorem dX12_readText_34 : decode cX12_readText 34 = .ok (.aload_n 0, 1) := by decide +kernel
theorem dX12_readText_35 : decode cX12_readText 35 = .ok (.getfield 130, 3) := by decide +kernel
theorem dX12_readText_38 : decode cX12_readText 38 = .ok (.ifCond .eq 10, 3) := by decide +kernel
theorem dX12_readText_41 : decode cX12_readText 41 = .ok (.aload_n 0, 1) := by decide +kernel
theorem dX12_readText_42 : decode cX12_readText 42 = .ok (.invokevirtual 328, 3) := by decide +kernel
theorem dX12_readText_45 : decode cX12_readText 45 = .ok (.goto (-18), 3) := by decide +kernel
theorem dX12_readText_48 : decode cX12_readText 48 = .ok (.aload_n 0, 1) := by decide +kernel
theorem dX12_readText_49 : decode cX12_readText 49 = .ok (.invokevirtual 331, 3) := by decide +kernel
theorem dX12_readText_52 : decode cX12_readText 52 = .ok (.ifCond .ne 9, 3) := by decide +kernel
theorem dX12_readText_55 : decode cX12_readText 55 = .ok (.aload_n 0, 1) := by decide +kernel
theorem dX12_readText_56 : decode cX12_readText 56 = .ok (.invokevirtual 334, 3) := by decide +kernel
theorem dX12_readText_59 : decode cX12_readText 59 = .ok (.iconst 0, 1) := by decide +kernel
theorem dX12_readText_60 : decode cX12_readText 60 = .ok (.ireturn, 1) := by decide +kernel
theorem dX12_readText_61 : decode cX12_readText 61 = .ok (.aload_n 0, 1) := by decide +kernel
theorem dX12_readText_62 : decode cX12_readText 62 = .ok (.iconst 0, 1) := by decide +kernel
theorem dX12_readText_63 : decode cX12_readText 63 = .ok (.putfield 167, 3) := by decide +kernel
theorem dX12_readText_66 : decode cX12_readText 66 = .ok (.aload_n 0, 1) := by decide +kernel
theorem dX12_readText_67 : decode cX12_readText 67 = .ok (.getfield 20, 3) := by decide +kernel
theorem dX12_readText_70 : decode cX12_readText 70 = .ok (.iconst 2, 1) := by decide +kernel
theorem dX12_readText_71 : decode cX12_readText 71 = .ok (.iaload, 1) := by decide +kernel
theorem dX12_readText_72 : decode cX12_readText 72 = .ok (.ireturn, 1) := by decide +kernel
theorem dX12_setting_0 : decode cX12_setting 0 = .ok (.aload_n 0, 1) := by decide +kernel
theorem dX12_setting_1 : decode cX12_setting 1 = .ok (.iload_n 1, 1) := by decide +kernel
theorem dX12_setting_2 : decode cX12_setting 2 = .ok (.i2l, 1) := by decide +kernel
theorem dX12_setting_3 : decode cX12_setting 3 = .ok (.lconst 0, 1) := by decide +kernel
theorem dX12_setting_4 : decode cX12_setting 4 = .ok (.ldc2_w 337, 3) := by decide +kernel
theorem dX12_setting_7 : decode cX12_setting 7 = .ok (.invokestatic 106, 3) := by decide +kernel
theorem dX12_setting_10 : decode cX12_setting 10 = .ok (.invokevirtual 98, 3) := by decide +kernel
theorem dX12_setting_13 : decode cX12_setting 13 = .ok (.ifCond .eq 12, 3) := by decide +kernel
theorem dX12_setting_16 : decode cX12_setting 16 = .ok (.aload_n 0, 1) := by decide +kernel
theorem dX12_setting_17 : decode cX12_setting 17 = .ok (.getfield 20, 3) := by decide +kernel
theorem dX12_setting_20 : decode cX12_setting 20 = .ok (.iload_n 1, 1) := by decide +kernel
theorem dX12_setting_21 : decode cX12_setting 21 = .ok (.iaload, 1) := by decide +kernel
theorem dX12_setting_22 : decode cX12_setting 22 = .ok (.goto 4, 3) := by decide +kernel
theorem dX12_setting_25 : decode cX12_setting 25 = .ok (.iconst 0, 1) := by decide +kernel
theorem dX12_setting_26 : decode cX12_setting 26 = .ok (.ireturn, 1) := by decide +kernel
theorem dX12_bansOf_0 : decode cX12_bansOf 0 = .ok (.iconst 0, 1) := by decide +kernel
theorem dX12_bansOf_1 : decode cX12_bansOf 1 = .ok (.istore_n 2, 1) := by decide +kernel
theorem dX12_bansOf_2 : decode cX12_bansOf 2 = .ok (.iconst 0, 1) := by decide +kernel
theorem dX12_bansOf_3 : decode cX12_bansOf 3 = .ok (.istore_n 3, 1) := by decide +kernel
theorem dX12_bansOf_4 : decode cX12_bansOf 4 = .ok (.iload_n 3, 1) := by decide +kernel
theorem dX12_bansOf_5 : decode cX12_bansOf 5 = .ok (.aload_n 0, 1) := by decide +kernel
theorem dX12_bansOf_6 : decode cX12_bansOf 6 = .ok (.getfield 20, 3) := by decide +kernel
theorem dX12_bansOf_9 : decode cX12_bansOf 9 = .ok (.bipush 6, 2) := by decide +kernel
theorem dX12_bansOf_11 : decode cX12_bansOf 11 = .ok (.iaload, 1) := by decide +kernel
theorem dX12_bansOf_12 : decode cX12_bansOf 12 = .ok (.if_icmp .ge 36, 3) := by decide +kernel
theorem dX12_bansOf_15 : decode cX12_bansOf 15 = .ok (.iload_n 2, 1) := by decide +kernel
theorem dX12_bansOf_16 : decode cX12_bansOf 16 = .ok (.aload_n 0, 1) := by decide +kernel
theorem dX12_bansOf_17 : decode cX12_bansOf 17 = .ok (.getfield 20, 3) := by decide +kernel
theorem dX12_bansOf_20 : decode cX12_bansOf 20 = .ok (.bipush 36, 2) := by decide +kernel
theorem dX12_bansOf_22 : decode cX12_bansOf 22 = .ok (.bipush 7, 2) := by decide +kernel
theorem dX12_bansOf_24 : decode cX12_bansOf 24 = .ok (.iload_n 3, 1) := by decide +kernel
theorem dX12_bansOf_25 : decode cX12_bansOf 25 = .ok (.imul, 1) := by decide +kernel
theorem dX12_bansOf_26 : decode cX12_bansOf 26 = .ok (.iadd, 1) := by decide +kernel
theorem dX12_bansOf_27 : decode cX12_bansOf 27 = .ok (.iaload, 1) := by decide +kernel
theorem dX12_bansOf_28 : decode cX12_bansOf 28 = .ok (.iload_n 1, 1) := by decide +kernel
theorem dX12_bansOf_29 : decode cX12_bansOf 29 = .ok (.if_icmp .ne 7, 3) := by decide +kernel
theorem dX12_bansOf_32 : decode cX12_bansOf 32 = .ok (.iconst 1, 1) := by decide +kernel
theorem dX12_bansOf_33 : decode cX12_bansOf 33 = .ok (.goto 4, 3) := by decide +kernel
theorem dX12_bansOf_36 : decode cX12_bansOf 36 = .ok (.iconst 0, 1) := by decide +kernel
theorem dX12_bansOf_37 : decode cX12_bansOf 37 = .ok (.invokestatic 91, 3) := by decide +kernel
theorem dX12_bansOf_40 : decode cX12_bansOf 40 = .ok (.iadd, 1) := by decide +kernel
theorem dX12_bansOf_41 : decode cX12_bansOf 41 = .ok (.istore_n 2, 1) := by decide +kernel
theorem dX12_bansOf_42 : decode cX12_bansOf 42 = .ok (.iinc 3 1, 3) := by decide +kernel
theorem dX12_bansOf_45 : decode cX12_bansOf 45 = .ok (.goto (-41), 3) := by decide +kernel
theorem dX12_bansOf_48 : decode cX12_bansOf 48 = .ok (.iload_n 2, 1) := by decide +kernel
theorem dX12_bansOf_49 : decode cX12_bansOf 49 = .ok (.ireturn, 1) := by decide +kernel
theorem dX12_pawn_0 : decode cX12_pawn 0 = .ok (.aload_n 0, 1) := by decide +kernel
theorem dX12_pawn_1 : decode cX12_pawn 1 = .ok (.aload_n 0, 1) := by decide +kernel
theorem dX12_pawn_2 : decode cX12_pawn 2 = .ok (.iload_n 1, 1) := by decide +kernel
theorem dX12_pawn_3 : decode cX12_pawn 3 = .ok (.invokevirtual 339, 3) := by decide +kernel
theorem dX12_pawn_6 : decode cX12_pawn 6 = .ok (.iload_n 2, 1) := by decide +kernel
theorem dX12_pawn_7 : decode cX12_pawn 7 = .ok (.i2l, 1) := by decide +kernel
theorem dX12_pawn_8 : decode cX12_pawn 8 = .ok (.lconst 0, 1) := by decide +kernel
theorem dX12_pawn_9 : decode cX12_pawn 9 = .ok (.ldc2_w 342, 3) := by decide +kernel
theorem dX12_pawn_12 : decode cX12_pawn 12 = .ok (.invokestatic 106, 3) := by decide +kernel
theorem dX12_pawn_15 : decode cX12_pawn 15 = .ok (.invokevirtual 344, 3) := by decide +kernel
theorem dX12_pawn_18 : decode cX12_pawn 18 = .ok (.ifCond .ne 7, 3) := by decide +kernel
theorem dX12_pawn_21 : decode cX12_pawn 21 = .ok (.iconst 0, 1) := by decide +kernel
theorem dX12_pawn_22 : decode cX12_pawn 22 = .ok (.goto 23, 3) := by decide +kernel
theorem dX12_pawn_25 : decode cX12_pawn 25 = .ok (.iload_n 2, 1) := by decide +kernel
theorem dX12_pawn_26 : decode cX12_pawn 26 = .ok (.bipush 7, 2) := by decide +kernel
theorem dX12_pawn_28 : decode cX12_pawn 28 = .ok (.if_icmp .ne 11, 3) := by decide +kernel
theorem dX12_pawn_31 : decode cX12_pawn 31 = .ok (.aload_n 0, 1) := by decide +kernel
theorem dX12_pawn_32 : decode cX12_pawn 32 = .ok (.iload_n 1, 1) := by decide +kernel
theorem dX12_pawn_33 : decode cX12_pawn 33 = .ok (.invokevirtual 348, 3) := by decide +kernel
theorem dX12_pawn_36 : decode cX12_pawn 36 = .ok (.goto 9, 3) := by decide +kernel
theorem dX12_pawn_39 : decode cX12_pawn 39 = .ok (.aload_n 0, 1) := by decide +kernel
theorem dX12_pawn_40 : decode cX12_pawn 40 = .ok (.iload_n 1, 1) := by decide +kernel
theorem dX12_pawn_41 : decode cX12_pawn 41 = .ok (.iload_n 2, 1) := by decide +kernel
theorem dX12_pawn_42 : decode cX12_pawn 42 = .ok (.invokevirtual 174, 3) := by decide +kernel
theorem dX12_pawn_45 : decode cX12_pawn 45 = .ok (.ireturn, 1) := by decide +kernel
theorem dX12_over_0 : decode cX12_over 0 = .ok (.aload_n 0, 1) := by decide +kernel
theorem dX12_over_1 : decode cX12_over 1 = .ok (.getfield 20, 3) := by decide +kernel
theorem dX12_over_4 : decode cX12_over 4 = .ok (.iconst 2, 1) := by decide +kernel
theorem dX12_over_5 : decode cX12_over 5 = .ok (.iaload, 1) := by decide +kernel
theorem dX12_over_6 : decode cX12_over 6 = .ok (.aload_n 0, 1) := by decide +kernel
theorem dX12_over_7 : decode cX12_over 7 = .ok (.getfield 20, 3) := by decide +kernel
theorem dX12_over_10 : decode cX12_over 10 = .ok (.iconst 5, 1) := by decide +kernel
theorem dX12_over_11 : decode cX12_over 11 = .ok (.iaload, 1) := by decide +kernel
theorem dX12_over_12 : decode cX12_over 12 = .ok (.isub, 1) := by decide +kernel
theorem dX12_over_13 : decode cX12_over 13 = .ok (.iconst 2, 1) := by decide +kernel
theorem dX12_over_14 : decode cX12_over 14 = .ok (.if_icmp .lt 15, 3) := by decide +kernel
theorem dX12_over_17 : decode cX12_over 17 = .ok (.aload_n 0, 1) := by decide +kernel
theorem dX12_over_18 : decode cX12_over 18 = .ok (.getfield 20, 3) := by decide +kernel
theorem dX12_over_21 : decode cX12_over 21 = .ok (.iconst 4, 1) := by decide +kernel
theorem dX12_over_22 : decode cX12_over 22 = .ok (.iaload, 1) := by decide +kernel
theorem dX12_over_23 : decode cX12_over 23 = .ok (.sipush 200, 3) := by decide +kernel
theorem dX12_over_26 : decode cX12_over 26 = .ok (.if_icmp .lt 7, 3) := by decide +kernel
theorem dX12_over_29 : decode cX12_over 29 = .ok (.iconst 1, 1) := by decide +kernel
theorem dX12_over_30 : decode cX12_over 30 = .ok (.goto 4, 3) := by decide +kernel
theorem dX12_over_33 : decode cX12_over 33 = .ok (.iconst 0, 1) := by decide +kernel
theorem dX12_over_34 : decode cX12_over 34 = .ok (.ireturn, 1) := by decide +kernel
theorem dX12_turnNow_0 : decode cX12_turnNow 0 = .ok (.aload_n 0, 1) := by decide +kernel
theorem dX12_turnNow_1 : decode cX12_turnNow 1 = .ok (.invokevirtual 351, 3) := by decide +kernel
theorem dX12_turnNow_4 : decode cX12_turnNow 4 = .ok (.ifCond .eq 7, 3) := by decide +kernel
theorem dX12_turnNow_7 : decode cX12_turnNow 7 = .ok (.iconst (-1), 1) := by decide +kernel
theorem dX12_turnNow_8 : decode cX12_turnNow 8 = .ok (.goto 10, 3) := by decide +kernel
theorem dX12_turnNow_11 : decode cX12_turnNow 11 = .ok (.aload_n 0, 1) := by decide +kernel
theorem dX12_turnNow_12 : decode cX12_turnNow 12 = .ok (.getfield 20, 3) := by decide +kernel
theorem dX12_turnNow_15 : decode cX12_turnNow 15 = .ok (.bipush 7, 2) := by decide +kernel
theorem dX12_turnNow_17 : decode cX12_turnNow 17 = .ok (.iaload, 1) := by decide +kernel
theorem dX12_turnNow_18 : decode cX12_turnNow 18 = .ok (.ireturn, 1) := by decide +kernel
theorem dX12_turnOf_0 : decode cX12_turnOf 0 = .ok (.aload_n 0, 1) := by decide +kernel
theorem dX12_turnOf_1 : decode cX12_turnOf 1 = .ok (.iconst 0, 1) := by decide +kernel
theorem dX12_turnOf_2 : decode cX12_turnOf 2 = .ok (.putfield 88, 3) := by decide +kernel
theorem dX12_turnOf_5 : decode cX12_turnOf 5 = .ok (.aload_n 0, 1) := by decide +kernel
theorem dX12_turnOf_6 : decode cX12_turnOf 6 = .ok (.invokevirtual 354, 3) := by decide +kernel
theorem dX12_turnOf_9 : decode cX12_turnOf 9 = .ok (.ireturn, 1) := by decide +kernel
theorem dX12_isOver_0 : decode cX12_isOver 0 = .ok (.aload_n 0, 1) := by decide +kernel
theorem dX12_isOver_1 : decode cX12_isOver 1 = .ok (.iconst 0, 1) := by decide +kernel
theorem dX12_isOver_2 : decode cX12_isOver 2 = .ok (.putfield 88, 3) := by decide +kernel
theorem dX12_isOver_5 : decode cX12_isOver 5 = .ok (.aload_n 0, 1) := by decide +kernel
theorem dX12_isOver_6 : decode cX12_isOver 6 = .ok (.invokevirtual 351, 3) := by decide +kernel
theorem dX12_isOver_9 : decode cX12_isOver 9 = .ok (.ireturn, 1) := by decide +kernel
theorem dX12_pawnAt_0 : decode cX12_pawnAt 0 = .ok (.aload_n 0, 1) := by decide +kernel
theorem dX12_pawnAt_1 : decode cX12_pawnAt 1 = .ok (.aload_n 0, 1) := by decide +kernel
theorem dX12_pawnAt_2 : decode cX12_pawnAt 2 = .ok (.iload_n 1, 1) := by decide +kernel
theorem dX12_pawnAt_3 : decode cX12_pawnAt 3 = .ok (.iload_n 2, 1) := by decide +kernel
theorem dX12_pawnAt_4 : decode cX12_pawnAt 4 = .ok (.invokevirtual 187, 3) := by decide +kernel
theorem dX12_pawnAt_7 : decode cX12_pawnAt 7 = .ok (.invokevirtual 98, 3) := by decide +kernel
theorem dX12_pawnAt_10 : decode cX12_pawnAt 10 = .ok (.ifCond .eq 12, 3) := by decide +kernel
theorem dX12_pawnAt_13 : decode cX12_pawnAt 13 = .ok (.aload_n 0, 1) := by decide +kernel
theorem dX12_pawnAt_14 : decode cX12_pawnAt 14 = .ok (.iload_n 1, 1) := by decide +kernel
theorem dX12_pawnAt_15 : decode cX12_pawnAt 15 = .ok (.iload_n 2, 1) := by decide +kernel
theorem dX12_pawnAt_16 : decode cX12_pawnAt 16 = .ok (.invokevirtual 259, 3) := by decide +kernel
theorem dX12_pawnAt_19 : decode cX12_pawnAt 19 = .ok (.goto 4, 3) := by decide +kernel
theorem dX12_pawnAt_22 : decode cX12_pawnAt 22 = .ok (.iconst 0, 1) := by decide +kernel
theorem dX12_pawnAt_23 : decode cX12_pawnAt 23 = .ok (.ireturn, 1) := by decide +kernel
theorem dX12_ranked_0 : decode cX12_ranked 0 = .ok (.aload_n 0, 1) := by decide +kernel
theorem dX12_ranked_1 : decode cX12_ranked 1 = .ok (.iconst 0, 1) := by decide +kernel
theorem dX12_ranked_2 : decode cX12_ranked 2 = .ok (.putfield 88, 3) := by decide +kernel
theorem dX12_ranked_5 : decode cX12_ranked 5 = .ok (.iconst (-1), 1) := by decide +kernel
theorem dX12_ranked_6 : decode cX12_ranked 6 = .ok (.istore_n 2, 1) := by decide +kernel
theorem dX12_ranked_7 : decode cX12_ranked 7 = .ok (.iconst 0, 1) := by decide +kernel
theorem dX12_ranked_8 : decode cX12_ranked 8 = .ok (.istore_n 3, 1) := by decide +kernel
theorem dX12_ranked_9 : decode cX12_ranked 9 = .ok (.iload_n 3, 1) := by decide +kernel
theorem dX12_ranked_10 : decode cX12_ranked 10 = .ok (.aload_n 0, 1) := by decide +kernel
theorem dX12_ranked_11 : decode cX12_ranked 11 = .ok (.getfield 20, 3) := by decide +kernel
theorem dX12_ranked_14 : decode cX12_ranked 14 = .ok (.iconst 2, 1) := by decide +kernel
theorem dX12_ranked_15 : decode cX12_ranked 15 = .ok (.iaload, 1) := by decide +kernel
theorem dX12_ranked_16 : decode cX12_ranked 16 = .ok (.if_icmp .ge 34, 3) := by decide +kernel
theorem dX12_ranked_19 : decode cX12_ranked 19 = .ok (.aload_n 0, 1) := by decide +kernel
theorem dX12_ranked_20 : decode cX12_ranked 20 = .ok (.iload_n 3, 1) := by decide +kernel
theorem dX12_ranked_21 : decode cX12_ranked 21 = .ok (.invokevirtual 213, 3) := by decide +kernel
theorem dX12_ranked_24 : decode cX12_ranked 24 = .ok (.ifCond .eq 18, 3) := by decide +kernel
theorem dX12_ranked_27 : decode cX12_ranked 27 = .ok (.aload_n 0, 1) := by decide +kernel
theorem dX12_ranked_28 : decode cX12_ranked 28 = .ok (.iload_n 3, 1) := by decide +kernel
theorem dX12_ranked_29 : decode cX12_ranked 29 = .ok (.bipush 6, 2) := by decide +kernel
theorem dX12_ranked_31 : decode cX12_ranked 31 = .ok (.invokevirtual 174, 3) := by decide +kernel
theorem dX12_ranked_34 : decode cX12_ranked 34 = .ok (.iload_n 1, 1) := by decide +kernel
theorem dX12_ranked_35 : decode cX12_ranked 35 = .ok (.if_icmp .ne 7, 3) := by decide +kernel
theorem dX12_ranked_38 : decode cX12_ranked 38 = .ok (.iload_n 3, 1) := by decide +kernel
theorem dX12_ranked_39 : decode cX12_ranked 39 = .ok (.goto 4, 3) := by decide +kernel
theorem dX12_ranked_42 : decode cX12_ranked 42 = .ok (.iload_n 2, 1) := by decide +kernel
theorem dX12_ranked_43 : decode cX12_ranked 43 = .ok (.istore_n 2, 1) := by decide +kernel
theorem dX12_ranked_44 : decode cX12_ranked 44 = .ok (.iinc 3 1, 3) := by decide +kernel
theorem dX12_ranked_47 : decode cX12_ranked 47 = .ok (.goto (-38), 3) := by decide +kernel
theorem dX12_ranked_50 : decode cX12_ranked 50 = .ok (.iload_n 2, 1) := by decide +kernel
theorem dX12_ranked_51 : decode cX12_ranked 51 = .ok (.ireturn, 1) := by decide +kernel
theorem dX12_wallAt_0 : decode cX12_wallAt 0 = .ok (.aload_n 0, 1) := by decide +kernel
theorem dX12_wallAt_1 : decode cX12_wallAt 1 = .ok (.aload_n 0, 1) := by decide +kernel
theorem dX12_wallAt_2 : decode cX12_wallAt 2 = .ok (.iload_n 1, 1) := by decide +kernel
theorem dX12_wallAt_3 : decode cX12_wallAt 3 = .ok (.iload_n 2, 1) := by decide +kernel
theorem dX12_wallAt_4 : decode cX12_wallAt 4 = .ok (.invokevirtual 177, 3) := by decide +kernel
theorem dX12_wallAt_7 : decode cX12_wallAt 7 = .ok (.invokevirtual 98, 3) := by decide +kernel
theorem dX12_wallAt_10 : decode cX12_wallAt 10 = .ok (.ifCond .eq 14, 3) := by decide +kernel
theorem dX12_wallAt_13 : decode cX12_wallAt 13 = .ok (.aload_n 0, 1) := by decide +kernel
theorem dX12_wallAt_14 : decode cX12_wallAt 14 = .ok (.iload_n 1, 1) := by decide +kernel
theorem dX12_wallAt_15 : decode cX12_wallAt 15 = .ok (.iload_n 2, 1) := by decide +kernel
theorem dX12_wallAt_16 : decode cX12_wallAt 16 = .ok (.invokevirtual 193, 3) := by decide +kernel
theorem dX12_wallAt_19 : decode cX12_wallAt 19 = .ok (.iconst 1, 1) := by decide +kernel
theorem dX12_wallAt_20 : decode cX12_wallAt 20 = .ok (.isub, 1) := by decide +kernel
theorem dX12_wallAt_21 : decode cX12_wallAt 21 = .ok (.goto 4, 3) := by decide +kernel
theorem dX12_wallAt_24 : decode cX12_wallAt 24 = .ok (.iconst 0, 1) := by decide +kernel
theorem dX12_wallAt_25 : decode cX12_wallAt 25 = .ok (.ireturn, 1) := by decide +kernel
theorem dX12_isBlocked_0 : decode cX12_isBlocked 0 = .ok (.aload_n 0, 1) := by decide +kernel
theorem dX12_isBlocked_1 : decode cX12_isBlocked 1 = .ok (.aload_n 0, 1) := by decide +kernel
theorem dX12_isBlocked_2 : decode cX12_isBlocked 2 = .ok (.iload_n 1, 1) := by decide +kernel
theorem dX12_isBlocked_3 : decode cX12_isBlocked 3 = .ok (.iload_n 2, 1) := by decide +kernel
theorem dX12_isBlocked_4 : decode cX12_isBlocked 4 = .ok (.invokevirtual 187, 3) := by decide +kernel
theorem dX12_isBlocked_7 : decode cX12_isBlocked 7 = .ok (.iload_n 3, 1) := by decide +kernel
theorem dX12_isBlocked_8 : decode cX12_isBlocked 8 = .ok (.i2l, 1) := by decide +kernel
theorem dX12_isBlocked_9 : decode cX12_isBlocked 9 = .ok (.lconst 0, 1) := by decide +kernel
theorem dX12_isBlocked_10 : decode cX12_isBlocked 10 = .ok (.ldc2_w 357, 3) := by decide +kernel
theorem dX12_isBlocked_13 : decode cX12_isBlocked 13 = .ok (.invokestatic 106, 3) := by decide +kernel
theorem dX12_isBlocked_16 : decode cX12_isBlocked 16 = .ok (.invokevirtual 344, 3) := by decide +kernel
theorem dX12_isBlocked_19 : decode cX12_isBlocked 19 = .ok (.ifCond .eq 17, 3) := by decide +kernel
theorem dX12_isBlocked_22 : decode cX12_isBlocked 22 = .ok (.aload_n 0, 1) := by decide +kernel
theorem dX12_isBlocked_23 : decode cX12_isBlocked 23 = .ok (.iload_n 1, 1) := by decide +kernel
theorem dX12_isBlocked_24 : decode cX12_isBlocked 24 = .ok (.iload_n 2, 1) := by decide +kernel
theorem dX12_isBlocked_25 : decode cX12_isBlocked 25 = .ok (.iload_n 3, 1) := by decide +kernel
theorem dX12_isBlocked_26 : decode cX12_isBlocked 26 = .ok (.invokevirtual 210, 3) := by decide +kernel
theorem dX12_isBlocked_29 : decode cX12_isBlocked 29 = .ok (.ifCond .eq 7, 3) := by decide +kernel
theorem dX12_isBlocked_32 : decode cX12_isBlocked 32 = .ok (.iconst 1, 1) := by decide +kernel
theorem dX12_isBlocked_33 : decode cX12_isBlocked 33 = .ok (.goto 4, 3) := by decide +kernel
theorem dX12_isBlocked_36 : decode cX12_isBlocked 36 = .ok (.iconst 0, 1) := by decide +kernel
theorem dX12_isBlocked_37 : decode cX12_isBlocked 37 = .ok (.ireturn, 1) := by decide +kernel
theorem dX12_isAdmissible_0 : decode cX12_isAdmissible 0 = .ok (.aload_n 0, 1) := by decide +kernel
theorem dX12_isAdmissible_1 : decode cX12_isAdmissible 1 = .ok (.aload_n 0, 1) := by decide +kernel
theorem dX12_isAdmissible_2 : decode cX12_isAdmissible 2 = .ok (.iload_n 1, 1) := by decide +kernel
theorem dX12_isAdmissible_3 : decode cX12_isAdmissible 3 = .ok (.iload_n 2, 1) := by decide +kernel
theorem dX12_isAdmissible_4 : decode cX12_isAdmissible 4 = .ok (.invokevirtual 177, 3) := by decide +kernel
theorem dX12_isAdmissible_7 : decode cX12_isAdmissible 7 = .ok (.invokevirtual 98, 3) := by decide +kernel
theorem dX12_isAdmissible_10 : decode cX12_isAdmissible 10 = .ok (.ifCond .eq 20, 3) := by decide +kernel
theorem dX12_isAdmissible_13 : decode cX12_isAdmissible 13 = .ok (.aload_n 0, 1) := by decide +kernel
theorem dX12_isAdmissible_14 : decode cX12_isAdmissible 14 = .ok (.iload_n 1, 1) := by decide +kernel
theorem dX12_isAdmissible_15 : decode cX12_isAdmissible 15 = .ok (.iload_n 2, 1) := by decide +kernel
theorem dX12_isAdmissible_16 : decode cX12_isAdmissible 16 = .ok (.iload_n 3, 1) := by decide +kernel
theorem dX12_isAdmissible_17 : decode cX12_isAdmissible 17 = .ok (.invokestatic 359, 3) := by decide +kernel
theorem dX12_isAdmissible_20 : decode cX12_isAdmissible 20 = .ok (.invokevirtual 293, 3) := by decide +kernel
theorem dX12_isAdmissible_23 : decode cX12_isAdmissible 23 = .ok (.ifCond .eq 7, 3) := by decide +kernel
theorem dX12_isAdmissible_26 : decode cX12_isAdmissible 26 = .ok (.iconst 1, 1) := by decide +kernel
theorem dX12_isAdmissible_27 : decode cX12_isAdmissible 27 = .ok (.goto 4, 3) := by decide +kernel
theorem dX12_isAdmissible_30 : decode cX12_isAdmissible 30 = .ok (.iconst 0, 1) := by decide +kernel
theorem dX12_isAdmissible_31 : decode cX12_isAdmissible 31 = .ok (.ireturn, 1) := by decide +kernel
theorem dX12_admissible_0 : decode cX12_admissible 0 = .ok (.aload_n 0, 1) := by decide +kernel
theorem dX12_admissible_1 : decode cX12_admissible 1 = .ok (.iconst 0, 1) := by decide +kernel
theorem dX12_admissible_2 : decode cX12_admissible 2 = .ok (.putfield 88, 3) := by decide +kernel
theorem dX12_admissible_5 : decode cX12_admissible 5 = .ok (.iconst 0, 1) := by decide +kernel
theorem dX12_admissible_6 : decode cX12_admissible 6 = .ok (.istore_n 1, 1) := by decide +kernel
theorem dX12_admissible_7 : decode cX12_admissible 7 = .ok (.iconst 0, 1) := by decide +kernel
theorem dX12_admissible_8 : decode cX12_admissible 8 = .ok (.istore_n 2, 1) := by decide +kernel
theorem dX12_admissible_9 : decode cX12_admissible 9 = .ok (.iload_n 2, 1) := by decide +kernel
theorem dX12_admissible_10 : decode cX12_admissible 10 = .ok (.aload_n 0, 1) := by decide +kernel
theorem dX12_admissible_11 : decode cX12_admissible 11 = .ok (.getfield 20, 3) := by decide +kernel
theorem dX12_admissible_14 : decode cX12_admissible 14 = .ok (.iconst 1, 1) := by decide +kernel
theorem dX12_admissible_15 : decode cX12_admissible 15 = .ok (.iaload, 1) := by decide +kernel
theorem dX12_admissible_16 : decode cX12_admissible 16 = .ok (.iconst 1, 1) := by decide +kernel
theorem dX12_admissible_17 : decode cX12_admissible 17 = .ok (.isub, 1) := by decide +kernel
theorem dX12_admissible_18 : decode cX12_admissible 18 = .ok (.if_icmp .ge 58, 3) := by decide +kernel
theorem dX12_admissible_21 : decode cX12_admissible 21 = .ok (.iconst 0, 1) := by decide +kernel
theorem dX12_admissible_22 : decode cX12_admissible 22 = .ok (.istore_n 3, 1) := by decide +kernel
theorem dX12_admissible_23 : decode cX12_admissible 23 = .ok (.iload_n 3, 1) := by decide +kernel
theorem dX12_admissible_24 : decode cX12_admissible 24 = .ok (.aload_n 0, 1) := by decide +kernel
theorem dX12_admissible_25 : decode cX12_admissible 25 = .ok (.getfield 20, 3) := by decide +kernel
theorem dX12_admissible_28 : decode cX12_admissible 28 = .ok (.iconst 0, 1) := by decide +kernel
theorem dX12_admissible_29 : decode cX12_admissible 29 = .ok (.iaload, 1) := by decide +kernel
theorem dX12_admissible_30 : decode cX12_admissible 30 = .ok (.iconst 1, 1) := by decide +kernel
theorem dX12_admissible_31 : decode cX12_admissible 31 = .ok (.isub, 1) := by decide +kernel
theorem dX12_admissible_32 : decode cX12_admissible 32 = .ok (.if_icmp .ge 38, 3) := by decide +kernel
theorem dX12_admissible_35 : decode cX12_admissible 35 = .ok (.iconst 1, 1) := by decide +kernel
theorem dX12_admissible_36 : decode cX12_admissible 36 = .ok (.istore 4, 2) := by decide +kernel
theorem dX12_admissible_38 : decode cX12_admissible 38 = .ok (.iload 4, 2) := by decide +kernel
theorem dX12_admissible_40 : decode cX12_admissible 40 = .ok (.iconst 2, 1) := by decide +kernel
theorem dX12_admissible_41 : decode cX12_admissible 41 = .ok (.if_icmp .gt 23, 3) := by decide +kernel
theorem dX12_admissible_44 : decode cX12_admissible 44 = .ok (.iload_n 1, 1) := by decide +kernel
theorem dX12_admissible_45 : decode cX12_admissible 45 = .ok (.aload_n 0, 1) := by decide +kernel
theorem dX12_admissible_46 : decode cX12_admissible 46 = .ok (.iload_n 3, 1) := by decide +kernel
theorem dX12_admissible_47 : decode cX12_admissible 47 = .ok (.iload_n 2, 1) := by decide +kernel
theorem dX12_admissible_48 : decode cX12_admissible 48 = .ok (.iload 4, 2) := by decide +kernel
theorem dX12_admissible_50 : decode cX12_admissible 50 = .ok (.invokevirtual 293, 3) := by decide +kernel
theorem dX12_admissible_53 : decode cX12_admissible 53 = .ok (.invokestatic 91, 3) := by decide +kernel
theorem dX12_admissible_56 : decode cX12_admissible 56 = .ok (.iadd, 1) := by decide +kernel
theorem dX12_admissible_57 : decode cX12_admissible 57 = .ok (.istore_n 1, 1) := by decide +kernel
theorem dX12_admissible_58 : decode cX12_admissible 58 = .ok (.iinc 4 1, 3) := by decide +kernel
theorem dX12_admissible_61 : decode cX12_admissible 61 = .ok (.goto (-23), 3) := by decide +kernel
theorem dX12_admissible_64 : decode cX12_admissible 64 = .ok (.iinc 3 1, 3) := by decide +kernel
theorem dX12_admissible_67 : decode cX12_admissible 67 = .ok (.goto (-44), 3) := by decide +kernel
theorem dX12_admissible_70 : decode cX12_admissible 70 = .ok (.iinc 2 1, 3) := by decide +kernel
theorem dX12_admissible_73 : decode cX12_admissible 73 = .ok (.goto (-64), 3) := by decide +kernel
theorem dX12_admissible_76 : decode cX12_admissible 76 = .ok (.iload_n 1, 1) := by decide +kernel
theorem dX12_admissible_77 : decode cX12_admissible 77 = .ok (.ireturn, 1) := by decide +kernel
theorem dX12_regions_0 : decode cX12_regions 0 = .ok (.aload_n 0, 1) := by decide +kernel
theorem dX12_regions_1 : decode cX12_regions 1 = .ok (.iconst 0, 1) := by decide +kernel
theorem dX12_regions_2 : decode cX12_regions 2 = .ok (.putfield 88, 3) := by decide +kernel
theorem dX12_regions_5 : decode cX12_regions 5 = .ok (.iconst 0, 1) := by decide +kernel
theorem dX12_regions_6 : decode cX12_regions 6 = .ok (.istore_n 1, 1) := by decide +kernel
theorem dX12_regions_7 : decode cX12_regions 7 = .ok (.aload_n 0, 1) := by decide +kernel
theorem dX12_regions_8 : decode cX12_regions 8 = .ok (.iconst 0, 1) := by decide +kernel
theorem dX12_regions_9 : decode cX12_regions 9 = .ok (.putfield 196, 3) := by decide +kernel
theorem dX12_regions_12 : decode cX12_regions 12 = .ok (.iconst 0, 1) := by decide +kernel
theorem dX12_regions_13 : decode cX12_regions 13 = .ok (.istore_n 2, 1) := by decide +kernel
theorem dX12_regions_14 : decode cX12_regions 14 = .ok (.iload_n 2, 1) := by decide +kernel
theorem dX12_regions_15 : decode cX12_regions 15 = .ok (.bipush 81, 2) := by decide +kernel
theorem dX12_regions_17 : decode cX12_regions 17 = .ok (.if_icmp .ge 16, 3) := by decide +kernel
theorem dX12_regions_20 : decode cX12_regions 20 = .ok (.aload_n 0, 1) := by decide +kernel
theorem dX12_regions_21 : decode cX12_regions 21 = .ok (.getfield 35, 3) := by decide +kernel
theorem dX12_regions_24 : decode cX12_regions 24 = .ok (.iload_n 2, 1) := by decide +kernel
theorem dX12_regions_25 : decode cX12_regions 25 = .ok (.iconst (-1), 1) := by decide +kernel
theorem dX12_regions_26 : decode cX12_regions 26 = .ok (.iastore, 1) := by decide +kernel
theorem dX12_regions_27 : decode cX12_regions 27 = .ok (.iinc 2 1, 3) := by decide +kernel
theorem dX12_regions_30 : decode cX12_regions 30 = .ok (.goto (-16), 3) := by decide +kernel
theorem dX12_regions_33 : decode cX12_regions 33 = .ok (.iconst 0, 1) := by decide +kernel
theorem dX12_regions_34 : decode cX12_regions 34 = .ok (.istore_n 2, 1) := by decide +kernel
theorem dX12_regions_35 : decode cX12_regions 35 = .ok (.iload_n 2, 1) := by decide +kernel
theorem dX12_regions_36 : decode cX12_regions 36 = .ok (.aload_n 0, 1) := by decide +kernel
theorem dX12_regions_37 : decode cX12_regions 37 = .ok (.getfield 20, 3) := by decide +kernel
theorem dX12_regions_40 : decode cX12_regions 40 = .ok (.iconst 1, 1) := by decide +kernel
theorem dX12_regions_41 : decode cX12_regions 41 = .ok (.iaload, 1) := by decide +kernel
theorem dX12_regions_42 : decode cX12_regions 42 = .ok (.if_icmp .ge 91, 3) := by decide +kernel
theorem dX12_regions_45 : decode cX12_regions 45 = .ok (.iconst 0, 1) := by decide +kernel
theorem dX12_regions_46 : decode cX12_regions 46 = .ok (.istore_n 3, 1) := by decide +kernel
theorem dX12_regions_47 : decode cX12_regions 47 = .ok (.iload_n 3, 1) := by decide +kernel
theorem dX12_regions_48 : decode cX12_regions 48 = .ok (.aload_n 0, 1) := by decide +kernel
theorem dX12_regions_49 : decode cX12_regions 49 = .ok (.getfield 20, 3) := by decide +kernel
theorem dX12_regions_52 : decode cX12_regions 52 = .ok (.iconst 0, 1) := by decide +kernel
theorem dX12_regions_53 : decode cX12_regions 53 = .ok (.iaload, 1) := by decide +kernel
theorem dX12_regions_54 : decode cX12_regions 54 = .ok (.if_icmp .ge 73, 3) := by decide +kernel
theorem dX12_regions_57 : decode cX12_regions 57 = .ok (.aload_n 0, 1) := by decide +kernel
theorem dX12_regions_58 : decode cX12_regions 58 = .ok (.getfield 35, 3) := by decide +kernel
theorem dX12_regions_61 : decode cX12_regions 61 = .ok (.bipush 9, 2) := by decide +kernel
theorem dX12_regions_63 : decode cX12_regions 63 = .ok (.iload_n 2, 1) := by decide +kernel
theorem dX12_regions_64 : decode cX12_regions 64 = .ok (.imul, 1) := by decide +kernel
theorem dX12_regions_65 : decode cX12_regions 65 = .ok (.iload_n 3, 1) := by decide +kernel
theorem dX12_regions_66 : decode cX12_regions 66 = .ok (.iadd, 1) := by decide +kernel
theorem dX12_regions_67 : decode cX12_regions 67 = .ok (.iaload, 1) := by decide +kernel
theorem dX12_regions_68 : decode cX12_regions 68 = .ok (.iconst (-1), 1) := by decide +kernel
theorem dX12_regions_69 : decode cX12_regions 69 = .ok (.if_icmp .eq 6, 3) := by decide +kernel
theorem dX12_regions_72 : decode cX12_regions 72 = .ok (.goto 49, 3) := by decide +kernel
theorem dX12_regions_75 : decode cX12_regions 75 = .ok (.iinc 1 1, 3) := by decide +kernel
theorem dX12_regions_78 : decode cX12_regions 78 = .ok (.aload_n 0, 1) := by decide +kernel
theorem dX12_regions_79 : decode cX12_regions 79 = .ok (.getfield 196, 3) := by decide +kernel
theorem dX12_regions_82 : decode cX12_regions 82 = .ok (.istore 4, 2) := by decide +kernel
theorem dX12_regions_84 : decode cX12_regions 84 = .ok (.aload_n 0, 1) := by decide +kernel
theorem dX12_regions_85 : decode cX12_regions 85 = .ok (.iload_n 3, 1) := by decide +kernel
theorem dX12_regions_86 : decode cX12_regions 86 = .ok (.iload_n 2, 1) := by decide +kernel
theorem dX12_regions_87 : decode cX12_regions 87 = .ok (.iconst 0, 1) := by decide +kernel
theorem dX12_regions_88 : decode cX12_regions 88 = .ok (.invokevirtual 203, 3) := by decide +kernel
theorem dX12_regions_91 : decode cX12_regions 91 = .ok (.iload 4, 2) := by decide +kernel
theorem dX12_regions_93 : decode cX12_regions 93 = .ok (.istore 5, 2) := by decide +kernel
theorem dX12_regions_95 : decode cX12_regions 95 = .ok (.iload 5, 2) := by decide +kernel
theorem dX12_regions_97 : decode cX12_regions 97 = .ok (.aload_n 0, 1) := by decide +kernel
theorem dX12_regions_98 : decode cX12_regions 98 = .ok (.getfield 196, 3) := by decide +kernel
theorem dX12_regions_101 : decode cX12_regions 101 = .ok (.if_icmp .ge 20, 3) := by decide +kernel
theorem dX12_regions_104 : decode cX12_regions 104 = .ok (.aload_n 0, 1) := by decide +kernel
theorem dX12_regions_105 : decode cX12_regions 105 = .ok (.aload_n 0, 1) := by decide +kernel
theorem dX12_regions_106 : decode cX12_regions 106 = .ok (.getfield 38, 3) := by decide +kernel
theorem dX12_regions_109 : decode cX12_regions 109 = .ok (.iload 5, 2) := by decide +kernel
theorem dX12_regions_111 : decode cX12_regions 111 = .ok (.iaload, 1) := by decide +kernel
theorem dX12_regions_112 : decode cX12_regions 112 = .ok (.invokevirtual 207, 3) := by decide +kernel
theorem dX12_regions_115 : decode cX12_regions 115 = .ok (.iinc 5 1, 3) := by decide +kernel
theorem dX12_regions_118 : decode cX12_regions 118 = .ok (.goto (-23), 3) := by decide +kernel
theorem dX12_regions_121 : decode cX12_regions 121 = .ok (.iinc 3 1, 3) := by decide +kernel
theorem dX12_regions_124 : decode cX12_regions 124 = .ok (.goto (-77), 3) := by decide +kernel
theorem dX12_regions_127 : decode cX12_regions 127 = .ok (.iinc 2 1, 3) := by decide +kernel
theorem dX12_regions_130 : decode cX12_regions 130 = .ok (.goto (-95), 3) := by decide +kernel
theorem dX12_regions_133 : decode cX12_regions 133 = .ok (.iload_n 1, 1) := by decide +kernel
theorem dX12_regions_134 : decode cX12_regions 134 = .ok (.ireturn, 1) := by decide +kernel
theorem dX12_forbids_0 : decode cX12_forbids 0 = .ok (.bipush 36, 2) := by decide +kernel
theorem dX12_forbids_2 : decode cX12_forbids 2 = .ok (.bipush 7, 2) := by decide +kernel
theorem dX12_forbids_4 : decode cX12_forbids 4 = .ok (.iload_n 1, 1) := by decide +kernel
theorem dX12_forbids_5 : decode cX12_forbids 5 = .ok (.imul, 1) := by decide +kernel
theorem dX12_forbids_6 : decode cX12_forbids 6 = .ok (.iadd, 1) := by decide +kernel
theorem dX12_forbids_7 : decode cX12_forbids 7 = .ok (.istore 7, 2) := by decide +kernel
theorem dX12_forbids_9 : decode cX12_forbids 9 = .ok (.aload_n 0, 1) := by decide +kernel
theorem dX12_forbids_10 : decode cX12_forbids 10 = .ok (.getfield 20, 3) := by decide +kernel
theorem dX12_forbids_13 : decode cX12_forbids 13 = .ok (.iload 7, 2) := by decide +kernel
theorem dX12_forbids_15 : decode cX12_forbids 15 = .ok (.iconst 1, 1) := by decide +kernel
theorem dX12_forbids_16 : decode cX12_forbids 16 = .ok (.iadd, 1) := by decide +kernel
theorem dX12_forbids_17 : decode cX12_forbids 17 = .ok (.iaload, 1) := by decide +kernel
theorem dX12_forbids_18 : decode cX12_forbids 18 = .ok (.tableswitch 106 0 2 #[26, 49, 62], 26) := by decide +kernel
theorem dX12_forbids_44 : decode cX12_forbids 44 = .ok (.iload 4, 2) := by decide +kernel
theorem dX12_forbids_46 : decode cX12_forbids 46 = .ok (.iconst (-1), 1) := by decide +kernel
theorem dX12_forbids_47 : decode cX12_forbids 47 = .ok (.if_icmp .eq 18, 3) := by decide +kernel
theorem dX12_forbids_50 : decode cX12_forbids 50 = .ok (.iload 6, 2) := by decide +kernel
theorem dX12_forbids_52 : decode cX12_forbids 52 = .ok (.iload 4, 2) := by decide +kernel
theorem dX12_forbids_54 : decode cX12_forbids 54 = .ok (.iconst 2, 1) := by decide +kernel
theorem dX12_forbids_55 : decode cX12_forbids 55 = .ok (.iadd, 1) := by decide +kernel
theorem dX12_forbids_56 : decode cX12_forbids 56 = .ok (.iconst 4, 1) := by decide +kernel
theorem dX12_forbids_57 : decode cX12_forbids 57 = .ok (.irem, 1) := by decide +kernel
theorem dX12_forbids_58 : decode cX12_forbids 58 = .ok (.if_icmp .ne 7, 3) := by decide +kernel
theorem dX12_forbids_61 : decode cX12_forbids 61 = .ok (.iconst 1, 1) := by decide +kernel
theorem dX12_forbids_62 : decode cX12_forbids 62 = .ok (.goto 4, 3) := by decide +kernel
theorem dX12_forbids_65 : decode cX12_forbids 65 = .ok (.iconst 0, 1) := by decide +kernel
theorem dX12_forbids_66 : decode cX12_forbids 66 = .ok (.ireturn, 1) := by decide +kernel
theorem dX12_forbids_67 : decode cX12_forbids 67 = .ok (.iload 6, 2) := by decide +kernel
theorem dX12_forbids_69 : decode cX12_forbids 69 = .ok (.iload 4, 2) := by decide +kernel
theorem dX12_forbids_71 : decode cX12_forbids 71 = .ok (.if_icmp .ne 7, 3) := by decide +kernel
theorem dX12_forbids_74 : decode cX12_forbids 74 = .ok (.iconst 1, 1) := by decide +kernel
theorem dX12_forbids_75 : decode cX12_forbids 75 = .ok (.goto 4, 3) := by decide +kernel
theorem dX12_forbids_78 : decode cX12_forbids 78 = .ok (.iconst 0, 1) := by decide +kernel
theorem dX12_forbids_79 : decode cX12_forbids 79 = .ok (.ireturn, 1) := by decide +kernel
theorem dX12_forbids_80 : decode cX12_forbids 80 = .ok (.iload 6, 2) := by decide +kernel
theorem dX12_forbids_82 : decode cX12_forbids 82 = .ok (.aload_n 0, 1) := by decide +kernel
theorem dX12_forbids_83 : decode cX12_forbids 83 = .ok (.getfield 20, 3) := by decide +kernel
theorem dX12_forbids_86 : decode cX12_forbids 86 = .ok (.iload 7, 2) := by decide +kernel
theorem dX12_forbids_88 : decode cX12_forbids 88 = .ok (.iconst 2, 1) := by decide +kernel
theorem dX12_forbids_89 : decode cX12_forbids 89 = .ok (.iadd, 1) := by decide +kernel
theorem dX12_forbids_90 : decode cX12_forbids 90 = .ok (.iaload, 1) := by decide +kernel
theorem dX12_forbids_91 : decode cX12_forbids 91 = .ok (.if_icmp .ne 31, 3) := by decide +kernel
theorem dX12_forbids_94 : decode cX12_forbids 94 = .ok (.iload 5, 2) := by decide +kernel
theorem dX12_forbids_96 : decode cX12_forbids 96 = .ok (.aload_n 0, 1) := by decide +kernel
theorem dX12_forbids_97 : decode cX12_forbids 97 = .ok (.getfield 20, 3) := by decide +kernel
theorem dX12_forbids_100 : decode cX12_forbids 100 = .ok (.iload 7, 2) := by decide +kernel
theorem dX12_forbids_102 : decode cX12_forbids 102 = .ok (.iconst 3, 1) := by decide +kernel
theorem dX12_forbids_103 : decode cX12_forbids 103 = .ok (.iadd, 1) := by decide +kernel
theorem dX12_forbids_104 : decode cX12_forbids 104 = .ok (.iaload, 1) := by decide +kernel
theorem dX12_forbids_105 : decode cX12_forbids 105 = .ok (.irem, 1) := by decide +kernel
theorem dX12_forbids_106 : decode cX12_forbids 106 = .ok (.aload_n 0, 1) := by decide +kernel
theorem dX12_forbids_107 : decode cX12_forbids 107 = .ok (.getfield 20, 3) := by decide +kernel
theorem dX12_forbids_110 : decode cX12_forbids 110 = .ok (.iload 7, 2) := by decide +kernel
theorem dX12_forbids_112 : decode cX12_forbids 112 = .ok (.iconst 4, 1) := by decide +kernel
theorem dX12_forbids_113 : decode cX12_forbids 113 = .ok (.iadd, 1) := by decide +kernel
theorem dX12_forbids_114 : decode cX12_forbids 114 = .ok (.iaload, 1) := by decide +kernel
theorem dX12_forbids_115 : decode cX12_forbids 115 = .ok (.if_icmp .ne 7, 3) := by decide +kernel
theorem dX12_forbids_118 : decode cX12_forbids 118 = .ok (.iconst 1, 1) := by decide +kernel
theorem dX12_forbids_119 : decode cX12_forbids 119 = .ok (.goto 4, 3) := by decide +kernel
theorem dX12_forbids_122 : decode cX12_forbids 122 = .ok (.iconst 0, 1) := by decide +kernel
theorem dX12_forbids_123 : decode cX12_forbids 123 = .ok (.ireturn, 1) := by decide +kernel
theorem dX12_forbids_124 : decode cX12_forbids 124 = .ok (.iload 6, 2) := by decide +kernel
theorem dX12_forbids_126 : decode cX12_forbids 126 = .ok (.aload_n 0, 1) := by decide +kernel
theorem dX12_forbids_127 : decode cX12_forbids 127 = .ok (.getfield 20, 3) := by decide +kernel
theorem dX12_forbids_130 : decode cX12_forbids 130 = .ok (.iload 7, 2) := by decide +kernel
theorem dX12_forbids_132 : decode cX12_forbids 132 = .ok (.iconst 2, 1) := by decide +kernel
theorem dX12_forbids_133 : decode cX12_forbids 133 = .ok (.iadd, 1) := by decide +kernel
theorem dX12_forbids_134 : decode cX12_forbids 134 = .ok (.iaload, 1) := by decide +kernel
theorem dX12_forbids_135 : decode cX12_forbids 135 = .ok (.if_icmp .ne 113, 3) := by decide +kernel
theorem dX12_forbids_138 : decode cX12_forbids 138 = .ok (.iload_n 2, 1) := by decide +kernel
theorem dX12_forbids_139 : decode cX12_forbids 139 = .ok (.i2l, 1) := by decide +kernel
theorem dX12_forbids_140 : decode cX12_forbids 140 = .ok (.aload_n 0, 1) := by decide +kernel
theorem dX12_forbids_141 : decode cX12_forbids 141 = .ok (.getfield 20, 3) := by decide +kernel
theorem dX12_forbids_144 : decode cX12_forbids 144 = .ok (.iload 7, 2) := by decide +kernel
theorem dX12_forbids_146 : decode cX12_forbids 146 = .ok (.iconst 3, 1) := by decide +kernel
theorem dX12_forbids_147 : decode cX12_forbids 147 = .ok (.iadd, 1) := by decide +kernel
theorem dX12_forbids_148 : decode cX12_forbids 148 = .ok (.iaload, 1) := by decide +kernel
theorem dX12_forbids_149 : decode cX12_forbids 149 = .ok (.aload_n 0, 1) := by decide +kernel
theorem dX12_forbids_150 : decode cX12_forbids 150 = .ok (.getfield 20, 3) := by decide +kernel
theorem dX12_forbids_153 : decode cX12_forbids 153 = .ok (.iload 7, 2) := by decide +kernel
theorem dX12_forbids_155 : decode cX12_forbids 155 = .ok (.iconst 5, 1) := by decide +kernel
theorem dX12_forbids_156 : decode cX12_forbids 156 = .ok (.iadd, 1) := by decide +kernel
theorem dX12_forbids_157 : decode cX12_forbids 157 = .ok (.iaload, 1) := by decide +kernel
theorem dX12_forbids_158 : decode cX12_forbids 158 = .ok (.invokestatic 190, 3) := by decide +kernel
theorem dX12_forbids_161 : decode cX12_forbids 161 = .ok (.i2l, 1) := by decide +kernel
theorem dX12_forbids_162 : decode cX12_forbids 162 = .ok (.aload_n 0, 1) := by decide +kernel
theorem dX12_forbids_163 : decode cX12_forbids 163 = .ok (.getfield 20, 3) := by decide +kernel
theorem dX12_forbids_166 : decode cX12_forbids 166 = .ok (.iload 7, 2) := by decide +kernel
theorem dX12_forbids_168 : decode cX12_forbids 168 = .ok (.iconst 3, 1) := by decide +kernel
theorem dX12_forbids_169 : decode cX12_forbids 169 = .ok (.iadd, 1) := by decide +kernel
theorem dX12_forbids_170 : decode cX12_forbids 170 = .ok (.iaload, 1) := by decide +kernel
theorem dX12_forbids_171 : decode cX12_forbids 171 = .ok (.aload_n 0, 1) := by decide +kernel
theorem dX12_forbids_172 : decode cX12_forbids 172 = .ok (.getfield 20, 3) := by decide +kernel
theorem dX12_forbids_175 : decode cX12_forbids 175 = .ok (.iload 7, 2) := by decide +kernel
theorem dX12_forbids_177 : decode cX12_forbids 177 = .ok (.iconst 5, 1) := by decide +kernel
theorem dX12_forbids_178 : decode cX12_forbids 178 = .ok (.iadd, 1) := by decide +kernel
theorem dX12_forbids_179 : decode cX12_forbids 179 = .ok (.iaload, 1) := by decide +kernel
theorem dX12_forbids_180 : decode cX12_forbids 180 = .ok (.invokestatic 362, 3) := by decide +kernel
theorem dX12_forbids_183 : decode cX12_forbids 183 = .ok (.i2l, 1) := by decide +kernel
theorem dX12_forbids_184 : decode cX12_forbids 184 = .ok (.invokestatic 106, 3) := by decide +kernel
theorem dX12_forbids_187 : decode cX12_forbids 187 = .ok (.ifCond .eq 61, 3) := by decide +kernel
theorem dX12_forbids_190 : decode cX12_forbids 190 = .ok (.iload_n 3, 1) := by decide +kernel
theorem dX12_forbids_191 : decode cX12_forbids 191 = .ok (.i2l, 1) := by decide +kernel
theorem dX12_forbids_192 : decode cX12_forbids 192 = .ok (.aload_n 0, 1) := by decide +kernel
theorem dX12_forbids_193 : decode cX12_forbids 193 = .ok (.getfield 20, 3) := by decide +kernel
theorem dX12_forbids_196 : decode cX12_forbids 196 = .ok (.iload 7, 2) := by decide +kernel
theorem dX12_forbids_198 : decode cX12_forbids 198 = .ok (.iconst 4, 1) := by decide +kernel
theorem dX12_forbids_199 : decode cX12_forbids 199 = .ok (.iadd, 1) := by decide +kernel
theorem dX12_forbids_200 : decode cX12_forbids 200 = .ok (.iaload, 1) := by decide +kernel
theorem dX12_forbids_201 : decode cX12_forbids 201 = .ok (.aload_n 0, 1) := by decide +kernel
theorem dX12_forbids_202 : decode cX12_forbids 202 = .ok (.getfield 20, 3) := by decide +kernel
theorem dX12_forbids_205 : decode cX12_forbids 205 = .ok (.iload 7, 2) := by decide +kernel
theorem dX12_forbids_207 : decode cX12_forbids 207 = .ok (.bipush 6, 2) := by decide +kernel
theorem dX12_forbids_209 : decode cX12_forbids 209 = .ok (.iadd, 1) := by decide +kernel
theorem dX12_forbids_210 : decode cX12_forbids 210 = .ok (.iaload, 1) := by decide +kernel
theorem dX12_forbids_211 : decode cX12_forbids 211 = .ok (.invokestatic 190, 3) := by decide +kernel
theorem dX12_forbids_214 : decode cX12_forbids 214 = .ok (.i2l, 1) := by decide +kernel
theorem dX12_forbids_215 : decode cX12_forbids 215 = .ok (.aload_n 0, 1) := by decide +kernel
theorem dX12_forbids_216 : decode cX12_forbids 216 = .ok (.getfield 20, 3) := by decide +kernel
theorem dX12_forbids_219 : decode cX12_forbids 219 = .ok (.iload 7, 2) := by decide +kernel
theorem dX12_forbids_221 : decode cX12_forbids 221 = .ok (.iconst 4, 1) := by decide +kernel
theorem dX12_forbids_222 : decode cX12_forbids 222 = .ok (.iadd, 1) := by decide +kernel
theorem dX12_forbids_223 : decode cX12_forbids 223 = .ok (.iaload, 1) := by decide +kernel
theorem dX12_forbids_224 : decode cX12_forbids 224 = .ok (.aload_n 0, 1) := by decide +kernel
theorem dX12_forbids_225 : decode cX12_forbids 225 = .ok (.getfield 20, 3) := by decide +kernel
theorem dX12_forbids_228 : decode cX12_forbids 228 = .ok (.iload 7, 2) := by decide +kernel
theorem dX12_forbids_230 : decode cX12_forbids 230 = .ok (.bipush 6, 2) := by decide +kernel
theorem dX12_forbids_232 : decode cX12_forbids 232 = .ok (.iadd, 1) := by decide +kernel
theorem dX12_forbids_233 : decode cX12_forbids 233 = .ok (.iaload, 1) := by decide +kernel
theorem dX12_forbids_234 : decode cX12_forbids 234 = .ok (.invokestatic 362, 3) := by decide +kernel
theorem dX12_forbids_237 : decode cX12_forbids 237 = .ok (.i2l, 1) := by decide +kernel
theorem dX12_forbids_238 : decode cX12_forbids 238 = .ok (.invokestatic 106, 3) := by decide +kernel
theorem dX12_forbids_241 : decode cX12_forbids 241 = .ok (.ifCond .eq 7, 3) := by decide +kernel
theorem dX12_forbids_244 : decode cX12_forbids 244 = .ok (.iconst 1, 1) := by decide +kernel
theorem dX12_forbids_245 : decode cX12_forbids 245 = .ok (.goto 4, 3) := by decide +kernel
theorem dX12_forbids_248 : decode cX12_forbids 248 = .ok (.iconst 0, 1) := by decide +kernel
theorem dX12_forbids_249 : decode cX12_forbids 249 = .ok (.ireturn, 1) := by decide +kernel
theorem dX12_isForbidden_0 : decode cX12_isForbidden 0 = .ok (.iconst 0, 1) := by decide +kernel
theorem dX12_isForbidden_1 : decode cX12_isForbidden 1 = .ok (.istore 6, 2) := by decide +kernel
theorem dX12_isForbidden_3 : decode cX12_isForbidden 3 = .ok (.iconst 0, 1) := by decide +kernel
theorem dX12_isForbidden_4 : decode cX12_isForbidden 4 = .ok (.istore 7, 2) := by decide +kernel
theorem dX12_isForbidden_6 : decode cX12_isForbidden 6 = .ok (.iload 7, 2) := by decide +kernel
theorem dX12_isForbidden_8 : decode cX12_isForbidden 8 = .ok (.aload_n 0, 1) := by decide +kernel
theorem dX12_isForbidden_9 : decode cX12_isForbidden 9 = .ok (.getfield 20, 3) := by decide +kernel
theorem dX12_isForbidden_12 : decode cX12_isForbidden 12 = .ok (.bipush 6, 2) := by decide +kernel
theorem dX12_isForbidden_14 : decode cX12_isForbidden 14 = .ok (.iaload, 1) := by decide +kernel
theorem dX12_isForbidden_15 : decode cX12_isForbidden 15 = .ok (.if_icmp .ge 57, 3) := by decide +kernel
theorem dX12_isForbidden_18 : decode cX12_isForbidden 18 = .ok (.iload 6, 2) := by decide +kernel
theorem dX12_isForbidden_20 : decode cX12_isForbidden 20 = .ok (.ifCond .ne 52, 3) := by decide +kernel
theorem dX12_isForbidden_23 : decode cX12_isForbidden 23 = .ok (.aload_n 0, 1) := by decide +kernel
theorem dX12_isForbidden_24 : decode cX12_isForbidden 24 = .ok (.getfield 20, 3) := by decide +kernel
theorem dX12_isForbidden_27 : decode cX12_isForbidden 27 = .ok (.bipush 36, 2) := by decide +kernel
theorem dX12_isForbidden_29 : decode cX12_isForbidden 29 = .ok (.bipush 7, 2) := by decide +kernel
theorem dX12_isForbidden_31 : decode cX12_isForbidden 31 = .ok (.iload 7, 2) := by decide +kernel
theorem dX12_isForbidden_33 : decode cX12_isForbidden 33 = .ok (.imul, 1) := by decide +kernel
theorem dX12_isForbidden_34 : decode cX12_isForbidden 34 = .ok (.iadd, 1) := by decide +kernel
theorem dX12_isForbidden_35 : decode cX12_isForbidden 35 = .ok (.iaload, 1) := by decide +kernel
theorem dX12_isForbidden_36 : decode cX12_isForbidden 36 = .ok (.aload_n 0, 1) := by decide +kernel
theorem dX12_isForbidden_37 : decode cX12_isForbidden 37 = .ok (.getfield 365, 3) := by decide +kernel
theorem dX12_isForbidden_40 : decode cX12_isForbidden 40 = .ok (.if_icmp .ne 23, 3) := by decide +kernel
theorem dX12_isForbidden_43 : decode cX12_isForbidden 43 = .ok (.aload_n 0, 1) := by decide +kernel
theorem dX12_isForbidden_44 : decode cX12_isForbidden 44 = .ok (.iload 7, 2) := by decide +kernel
theorem dX12_isForbidden_46 : decode cX12_isForbidden 46 = .ok (.iload_n 1, 1) := by decide +kernel
theorem dX12_isForbidden_47 : decode cX12_isForbidden 47 = .ok (.iload_n 2, 1) := by decide +kernel
theorem dX12_isForbidden_48 : decode cX12_isForbidden 48 = .ok (.iload_n 3, 1) := by decide +kernel
theorem dX12_isForbidden_49 : decode cX12_isForbidden 49 = .ok (.iload 4, 2) := by decide +kernel
theorem dX12_isForbidden_51 : decode cX12_isForbidden 51 = .ok (.iload 5, 2) := by decide +kernel
theorem dX12_isForbidden_53 : decode cX12_isForbidden 53 = .ok (.invokevirtual 368, 3) := by decide +kernel
theorem dX12_isForbidden_56 : decode cX12_isForbidden 56 = .ok (.ifCond .eq 7, 3) := by decide +kernel
theorem dX12_isForbidden_59 : decode cX12_isForbidden 59 = .ok (.iconst 1, 1) := by decide +kernel
theorem dX12_isForbidden_60 : decode cX12_isForbidden 60 = .ok (.goto 4, 3) := by decide +kernel
theorem dX12_isForbidden_63 : decode cX12_isForbidden 63 = .ok (.iconst 0, 1) := by decide +kernel
theorem dX12_isForbidden_64 : decode cX12_isForbidden 64 = .ok (.istore 6, 2) := by decide +kernel
theorem dX12_isForbidden_66 : decode cX12_isForbidden 66 = .ok (.iinc 7 1, 3) := by decide +kernel
theorem dX12_isForbidden_69 : decode cX12_isForbidden 69 = .ok (.goto (-63), 3) := by decide +kernel
theorem dX12_isForbidden_72 : decode cX12_isForbidden 72 = .ok (.iload 6, 2) := by decide +kernel
theorem dX12_isForbidden_74 : decode cX12_isForbidden 74 = .ok (.ireturn, 1) := by decide +kernel
theorem dX12_bans_0 : decode cX12_bans 0 = .ok (.aload_n 0, 1) := by decide +kernel
theorem dX12_bans_1 : decode cX12_bans 1 = .ok (.iload_n 1, 1) := by decide +kernel
theorem dX12_bans_2 : decode cX12_bans 2 = .ok (.putfield 365, 3) := by decide +kernel
theorem dX12_bans_5 : decode cX12_bans 5 = .ok (.aload_n 0, 1) := by decide +kernel
theorem dX12_bans_6 : decode cX12_bans 6 = .ok (.aload_n 0, 1) := by decide +kernel
theorem dX12_bans_7 : decode cX12_bans 7 = .ok (.iload_n 1, 1) := by decide +kernel
theorem dX12_bans_8 : decode cX12_bans 8 = .ok (.iconst 0, 1) := by decide +kernel
theorem dX12_bans_9 : decode cX12_bans 9 = .ok (.invokevirtual 174, 3) := by decide +kernel
theorem dX12_bans_12 : decode cX12_bans 12 = .ok (.aload_n 0, 1) := by decide +kernel
theorem dX12_bans_13 : decode cX12_bans 13 = .ok (.iload_n 1, 1) := by decide +kernel
theorem dX12_bans_14 : decode cX12_bans 14 = .ok (.iconst 1, 1) := by decide +kernel
theorem dX12_bans_15 : decode cX12_bans 15 = .ok (.invokevirtual 174, 3) := by decide +kernel
theorem dX12_bans_18 : decode cX12_bans 18 = .ok (.aload_n 0, 1) := by decide +kernel
theorem dX12_bans_19 : decode cX12_bans 19 = .ok (.iload_n 1, 1) := by decide +kernel
theorem dX12_bans_20 : decode cX12_bans 20 = .ok (.iconst 5, 1) := by decide +kernel
theorem dX12_bans_21 : decode cX12_bans 21 = .ok (.invokevirtual 174, 3) := by decide +kernel
theorem dX12_bans_24 : decode cX12_bans 24 = .ok (.aload_n 0, 1) := by decide +kernel
theorem dX12_bans_25 : decode cX12_bans 25 = .ok (.iload_n 1, 1) := by decide +kernel
theorem dX12_bans_26 : decode cX12_bans 26 = .ok (.iconst 4, 1) := by decide +kernel
theorem dX12_bans_27 : decode cX12_bans 27 = .ok (.invokevirtual 174, 3) := by decide +kernel
theorem dX12_bans_30 : decode cX12_bans 30 = .ok (.iload_n 2, 1) := by decide +kernel
theorem dX12_bans_31 : decode cX12_bans 31 = .ok (.invokevirtual 372, 3) := by decide +kernel
theorem dX12_bans_34 : decode cX12_bans 34 = .ok (.ireturn, 1) := by decide +kernel
theorem dX12_goesBy_0 : decode cX12_goesBy 0 = .ok (.aload_n 0, 1) := by decide +kernel
theorem dX12_goesBy_1 : decode cX12_goesBy 1 = .ok (.iload_n 1, 1) := by decide +kernel
theorem dX12_goesBy_2 : decode cX12_goesBy 2 = .ok (.invokevirtual 213, 3) := by decide +kernel
theorem dX12_goesBy_5 : decode cX12_goesBy 5 = .ok (.ifCond .ne 19, 3) := by decide +kernel
theorem dX12_goesBy_8 : decode cX12_goesBy 8 = .ok (.aload_n 0, 1) := by decide +kernel
theorem dX12_goesBy_9 : decode cX12_goesBy 9 = .ok (.invokevirtual 351, 3) := by decide +kernel
theorem dX12_goesBy_12 : decode cX12_goesBy 12 = .ok (.ifCond .ne 12, 3) := by decide +kernel
theorem dX12_goesBy_15 : decode cX12_goesBy 15 = .ok (.aload_n 0, 1) := by decide +kernel
theorem dX12_goesBy_16 : decode cX12_goesBy 16 = .ok (.iload_n 1, 1) := by decide +kernel
theorem dX12_goesBy_17 : decode cX12_goesBy 17 = .ok (.iload_n 2, 1) := by decide +kernel
theorem dX12_goesBy_18 : decode cX12_goesBy 18 = .ok (.invokevirtual 376, 3) := by decide +kernel
theorem dX12_goesBy_21 : decode cX12_goesBy 21 = .ok (.ifCond .eq 5, 3) := by decide +kernel
theorem dX12_goesBy_24 : decode cX12_goesBy 24 = .ok (.iconst 0, 1) := by decide +kernel
theorem dX12_goesBy_25 : decode cX12_goesBy 25 = .ok (.ireturn, 1) := by decide +kernel
theorem dX12_goesBy_26 : decode cX12_goesBy 26 = .ok (.aload_n 0, 1) := by decide +kernel
theorem dX12_goesBy_27 : decode cX12_goesBy 27 = .ok (.iload_n 1, 1) := by decide +kernel
theorem dX12_goesBy_28 : decode cX12_goesBy 28 = .ok (.iconst 0, 1) := by decide +kernel
theorem dX12_goesBy_29 : decode cX12_goesBy 29 = .ok (.invokevirtual 174, 3) := by decide +kernel
theorem dX12_goesBy_32 : decode cX12_goesBy 32 = .ok (.istore_n 3, 1) := by decide +kernel
theorem dX12_goesBy_33 : decode cX12_goesBy 33 = .ok (.aload_n 0, 1) := by decide +kernel
theorem dX12_goesBy_34 : decode cX12_goesBy 34 = .ok (.iload_n 1, 1) := by decide +kernel
theorem dX12_goesBy_35 : decode cX12_goesBy 35 = .ok (.iconst 1, 1) := by decide +kernel
theorem dX12_goesBy_36 : decode cX12_goesBy 36 = .ok (.invokevirtual 174, 3) := by decide +kernel
theorem dX12_goesBy_39 : decode cX12_goesBy 39 = .ok (.istore 4, 2) := by decide +kernel
theorem dX12_goesBy_41 : decode cX12_goesBy 41 = .ok (.aload_n 0, 1) := by decide +kernel
theorem dX12_goesBy_42 : decode cX12_goesBy 42 = .ok (.iload_n 3, 1) := by decide +kernel
theorem dX12_goesBy_43 : decode cX12_goesBy 43 = .ok (.iload 4, 2) := by decide +kernel
theorem dX12_goesBy_45 : decode cX12_goesBy 45 = .ok (.iload_n 2, 1) := by decide +kernel
theorem dX12_goesBy_46 : decode cX12_goesBy 46 = .ok (.invokevirtual 210, 3) := by decide +kernel
theorem dX12_goesBy_49 : decode cX12_goesBy 49 = .ok (.ifCond .eq 5, 3) := by decide +kernel
theorem dX12_goesBy_52 : decode cX12_goesBy 52 = .ok (.iconst 0, 1) := by decide +kernel
theorem dX12_goesBy_53 : decode cX12_goesBy 53 = .ok (.ireturn, 1) := by decide +kernel
theorem dX12_goesBy_54 : decode cX12_goesBy 54 = .ok (.iload_n 3, 1) := by decide +kernel
theorem dX12_goesBy_55 : decode cX12_goesBy 55 = .ok (.iload_n 2, 1) := by decide +kernel
theorem dX12_goesBy_56 : decode cX12_goesBy 56 = .ok (.invokestatic 181, 3) := by decide +kernel
theorem dX12_goesBy_59 : decode cX12_goesBy 59 = .ok (.iadd, 1) := by decide +kernel
theorem dX12_goesBy_60 : decode cX12_goesBy 60 = .ok (.istore_n 3, 1) := by decide +kernel
theorem dX12_goesBy_61 : decode cX12_goesBy 61 = .ok (.iload 4, 2) := by decide +kernel
theorem dX12_goesBy_63 : decode cX12_goesBy 63 = .ok (.iload_n 2, 1) := by decide +kernel
theorem dX12_goesBy_64 : decode cX12_goesBy 64 = .ok (.invokestatic 184, 3) := by decide +kernel
theorem dX12_goesBy_67 : decode cX12_goesBy 67 = .ok (.iadd, 1) := by decide +kernel
theorem dX12_goesBy_68 : decode cX12_goesBy 68 = .ok (.istore 4, 2) := by decide +kernel
theorem dX12_goesBy_70 : decode cX12_goesBy 70 = .ok (.aload_n 0, 1) := by decide +kernel
theorem dX12_goesBy_71 : decode cX12_goesBy 71 = .ok (.iload_n 3, 1) := by decide +kernel
theorem dX12_goesBy_72 : decode cX12_goesBy 72 = .ok (.iload 4, 2) := by decide +kernel
theorem dX12_goesBy_74 : decode cX12_goesBy 74 = .ok (.invokevirtual 259, 3) := by decide +kernel
theorem dX12_goesBy_77 : decode cX12_goesBy 77 = .ok (.iconst (-1), 1) := by decide +kernel
theorem dX12_goesBy_78 : decode cX12_goesBy 78 = .ok (.if_icmp .ne 5, 3) := by decide +kernel
theorem dX12_goesBy_81 : decode cX12_goesBy 81 = .ok (.iconst 1, 1) := by decide +kernel
theorem dX12_goesBy_82 : decode cX12_goesBy 82 = .ok (.ireturn, 1) := by decide +kernel
theorem dX12_goesBy_83 : decode cX12_goesBy 83 = .ok (.aload_n 0, 1) := by decide +kernel
theorem dX12_goesBy_84 : decode cX12_goesBy 84 = .ok (.iload_n 3, 1) := by decide +kernel
theorem dX12_goesBy_85 : decode cX12_goesBy 85 = .ok (.iload 4, 2) := by decide +kernel
theorem dX12_goesBy_87 : decode cX12_goesBy 87 = .ok (.iload_n 2, 1) := by decide +kernel
theorem dX12_goesBy_88 : decode cX12_goesBy 88 = .ok (.invokevirtual 210, 3) := by decide +kernel
theorem dX12_goesBy_91 : decode cX12_goesBy 91 = .ok (.ifCond .eq 5, 3) := by decide +kernel
theorem dX12_goesBy_94 : decode cX12_goesBy 94 = .ok (.iconst 0, 1) := by decide +kernel
theorem dX12_goesBy_95 : decode cX12_goesBy 95 = .ok (.ireturn, 1) := by decide +kernel
theorem dX12_goesBy_96 : decode cX12_goesBy 96 = .ok (.aload_n 0, 1) := by decide +kernel
theorem dX12_goesBy_97 : decode cX12_goesBy 97 = .ok (.iload_n 3, 1) := by decide +kernel
theorem dX12_goesBy_98 : decode cX12_goesBy 98 = .ok (.iload_n 2, 1) := by decide +kernel
theorem dX12_goesBy_99 : decode cX12_goesBy 99 = .ok (.invokestatic 181, 3) := by decide +kernel
theorem dX12_goesBy_102 : decode cX12_goesBy 102 = .ok (.iadd, 1) := by decide +kernel
theorem dX12_goesBy_103 : decode cX12_goesBy 103 = .ok (.iload 4, 2) := by decide +kernel
theorem dX12_goesBy_105 : decode cX12_goesBy 105 = .ok (.iload_n 2, 1) := by decide +kernel
theorem dX12_goesBy_106 : decode cX12_goesBy 106 = .ok (.invokestatic 184, 3) := by decide +kernel
theorem dX12_goesBy_109 : decode cX12_goesBy 109 = .ok (.iadd, 1) := by decide +kernel
theorem dX12_goesBy_110 : decode cX12_goesBy 110 = .ok (.invokevirtual 259, 3) := by decide +kernel
theorem dX12_goesBy_113 : decode cX12_goesBy 113 = .ok (.iconst (-1), 1) := by decide +kernel
theorem dX12_goesBy_114 : decode cX12_goesBy 114 = .ok (.if_icmp .ne 7, 3) := by decide +kernel
theorem dX12_goesBy_117 : decode cX12_goesBy 117 = .ok (.iconst 2, 1) := by decide +kernel
theorem dX12_goesBy_118 : decode cX12_goesBy 118 = .ok (.goto 4, 3) := by decide +kernel
theorem dX12_goesBy_121 : decode cX12_goesBy 121 = .ok (.iconst 0, 1) := by decide +kernel
theorem dX12_goesBy_122 : decode cX12_goesBy 122 = .ok (.ireturn, 1) := by decide +kernel
theorem dX12_canStep_0 : decode cX12_canStep 0 = .ok (.aload_n 0, 1) := by decide +kernel
theorem dX12_canStep_1 : decode cX12_canStep 1 = .ok (.aload_n 0, 1) := by decide +kernel
theorem dX12_canStep_2 : decode cX12_canStep 2 = .ok (.iload_n 1, 1) := by decide +kernel
theorem dX12_canStep_3 : decode cX12_canStep 3 = .ok (.invokevirtual 339, 3) := by decide +kernel
theorem dX12_canStep_6 : decode cX12_canStep 6 = .ok (.iload_n 2, 1) := by decide +kernel
theorem dX12_canStep_7 : decode cX12_canStep 7 = .ok (.i2l, 1) := by decide +kernel
theorem dX12_canStep_8 : decode cX12_canStep 8 = .ok (.lconst 0, 1) := by decide +kernel
theorem dX12_canStep_9 : decode cX12_canStep 9 = .ok (.ldc2_w 357, 3) := by decide +kernel
theorem dX12_canStep_12 : decode cX12_canStep 12 = .ok (.invokestatic 106, 3) := by decide +kernel
theorem dX12_canStep_15 : decode cX12_canStep 15 = .ok (.invokevirtual 344, 3) := by decide +kernel
theorem dX12_canStep_18 : decode cX12_canStep 18 = .ok (.ifCond .eq 16, 3) := by decide +kernel
theorem dX12_canStep_21 : decode cX12_canStep 21 = .ok (.aload_n 0, 1) := by decide +kernel
theorem dX12_canStep_22 : decode cX12_canStep 22 = .ok (.iload_n 1, 1) := by decide +kernel
theorem dX12_canStep_23 : decode cX12_canStep 23 = .ok (.iload_n 2, 1) := by decide +kernel
theorem dX12_canStep_24 : decode cX12_canStep 24 = .ok (.invokevirtual 379, 3) := by decide +kernel
theorem dX12_canStep_27 : decode cX12_canStep 27 = .ok (.ifCond .le 7, 3) := by decide +kernel
theorem dX12_canStep_30 : decode cX12_canStep 30 = .ok (.iconst 1, 1) := by decide +kernel
theorem dX12_canStep_31 : decode cX12_canStep 31 = .ok (.goto 4, 3) := by decide +kernel
theorem dX12_canStep_34 : decode cX12_canStep 34 = .ok (.iconst 0, 1) := by decide +kernel
theorem dX12_canStep_35 : decode cX12_canStep 35 = .ok (.ireturn, 1) := by decide +kernel
theorem dX12_isBanned_0 : decode cX12_isBanned 0 = .ok (.aload_n 0, 1) := by decide +kernel
theorem dX12_isBanned_1 : decode cX12_isBanned 1 = .ok (.aload_n 0, 1) := by decide +kernel
theorem dX12_isBanned_2 : decode cX12_isBanned 2 = .ok (.iload_n 1, 1) := by decide +kernel
theorem dX12_isBanned_3 : decode cX12_isBanned 3 = .ok (.invokevirtual 339, 3) := by decide +kernel
theorem dX12_isBanned_6 : decode cX12_isBanned 6 = .ok (.iload_n 2, 1) := by decide +kernel
theorem dX12_isBanned_7 : decode cX12_isBanned 7 = .ok (.i2l, 1) := by decide +kernel
theorem dX12_isBanned_8 : decode cX12_isBanned 8 = .ok (.lconst 0, 1) := by decide +kernel
theorem dX12_isBanned_9 : decode cX12_isBanned 9 = .ok (.ldc2_w 357, 3) := by decide +kernel
theorem dX12_isBanned_12 : decode cX12_isBanned 12 = .ok (.invokestatic 106, 3) := by decide +kernel
theorem dX12_isBanned_15 : decode cX12_isBanned 15 = .ok (.invokevirtual 344, 3) := by decide +kernel
theorem dX12_isBanned_18 : decode cX12_isBanned 18 = .ok (.ifCond .eq 16, 3) := by decide +kernel
theorem dX12_isBanned_21 : decode cX12_isBanned 21 = .ok (.aload_n 0, 1) := by decide +kernel
theorem dX12_isBanned_22 : decode cX12_isBanned 22 = .ok (.iload_n 1, 1) := by decide +kernel
theorem dX12_isBanned_23 : decode cX12_isBanned 23 = .ok (.iload_n 2, 1) := by decide +kernel
theorem dX12_isBanned_24 : decode cX12_isBanned 24 = .ok (.invokevirtual 376, 3) := by decide +kernel
theorem dX12_isBanned_27 : decode cX12_isBanned 27 = .ok (.ifCond .eq 7, 3) := by decide +kernel
theorem dX12_isBanned_30 : decode cX12_isBanned 30 = .ok (.iconst 1, 1) := by decide +kernel
theorem dX12_isBanned_31 : decode cX12_isBanned 31 = .ok (.goto 4, 3) := by decide +kernel
theorem dX12_isBanned_34 : decode cX12_isBanned 34 = .ok (.iconst 0, 1) := by decide +kernel
theorem dX12_isBanned_35 : decode cX12_isBanned 35 = .ok (.ireturn, 1) := by decide +kernel
theorem dX12_stepsOf_0 : decode cX12_stepsOf 0 = .ok (.iconst 0, 1) := by decide +kernel
theorem dX12_stepsOf_1 : decode cX12_stepsOf 1 = .ok (.istore_n 2, 1) := by decide +kernel
theorem dX12_stepsOf_2 : decode cX12_stepsOf 2 = .ok (.iconst 0, 1) := by decide +kernel
theorem dX12_stepsOf_3 : decode cX12_stepsOf 3 = .ok (.istore_n 3, 1) := by decide +kernel
theorem dX12_stepsOf_4 : decode cX12_stepsOf 4 = .ok (.iload_n 3, 1) := by decide +kernel
theorem dX12_stepsOf_5 : decode cX12_stepsOf 5 = .ok (.iconst 4, 1) := by decide +kernel
theorem dX12_stepsOf_6 : decode cX12_stepsOf 6 = .ok (.if_icmp .ge 31, 3) := by decide +kernel
theorem dX12_stepsOf_9 : decode cX12_stepsOf 9 = .ok (.iload_n 2, 1) := by decide +kernel
theorem dX12_stepsOf_10 : decode cX12_stepsOf 10 = .ok (.aload_n 0, 1) := by decide +kernel
theorem dX12_stepsOf_11 : decode cX12_stepsOf 11 = .ok (.iload_n 1, 1) := by decide +kernel
theorem dX12_stepsOf_12 : decode cX12_stepsOf 12 = .ok (.iload_n 3, 1) := by decide +kernel
theorem dX12_stepsOf_13 : decode cX12_stepsOf 13 = .ok (.invokevirtual 379, 3) := by decide +kernel
theorem dX12_stepsOf_16 : decode cX12_stepsOf 16 = .ok (.ifCond .le 7, 3) := by decide +kernel
theorem dX12_stepsOf_19 : decode cX12_stepsOf 19 = .ok (.iconst 1, 1) := by decide +kernel
theorem dX12_stepsOf_20 : decode cX12_stepsOf 20 = .ok (.goto 4, 3) := by decide +kernel
theorem dX12_stepsOf_23 : decode cX12_stepsOf 23 = .ok (.iconst 0, 1) := by decide +kernel
theorem dX12_stepsOf_24 : decode cX12_stepsOf 24 = .ok (.invokestatic 91, 3) := by decide +kernel
theorem dX12_stepsOf_27 : decode cX12_stepsOf 27 = .ok (.iload_n 3, 1) := by decide +kernel
theorem dX12_stepsOf_28 : decode cX12_stepsOf 28 = .ok (.ishl, 1) := by decide +kernel
theorem dX12_stepsOf_29 : decode cX12_stepsOf 29 = .ok (.ior, 1) := by decide +kernel
theorem dX12_stepsOf_30 : decode cX12_stepsOf 30 = .ok (.istore_n 2, 1) := by decide +kernel
theorem dX12_stepsOf_31 : decode cX12_stepsOf 31 = .ok (.iinc 3 1, 3) := by decide +kernel
theorem dX12_stepsOf_34 : decode cX12_stepsOf 34 = .ok (.goto (-30), 3) := by decide +kernel
theorem dX12_stepsOf_37 : decode cX12_stepsOf 37 = .ok (.iload_n 2, 1) := by decide +kernel
theorem dX12_stepsOf_38 : decode cX12_stepsOf 38 = .ok (.ireturn, 1) := by decide +kernel
theorem dX12_steps_0 : decode cX12_steps 0 = .ok (.aload_n 0, 1) := by decide +kernel
theorem dX12_steps_1 : decode cX12_steps 1 = .ok (.aload_n 0, 1) := by decide +kernel
theorem dX12_steps_2 : decode cX12_steps 2 = .ok (.iload_n 1, 1) := by decide +kernel
theorem dX12_steps_3 : decode cX12_steps 3 = .ok (.invokevirtual 339, 3) := by decide +kernel
theorem dX12_steps_6 : decode cX12_steps 6 = .ok (.invokevirtual 98, 3) := by decide +kernel
theorem dX12_steps_9 : decode cX12_steps 9 = .ok (.ifCond .eq 11, 3) := by decide +kernel
theorem dX12_steps_12 : decode cX12_steps 12 = .ok (.aload_n 0, 1) := by decide +kernel
theorem dX12_steps_13 : decode cX12_steps 13 = .ok (.iload_n 1, 1) := by decide +kernel
theorem dX12_steps_14 : decode cX12_steps 14 = .ok (.invokevirtual 382, 3) := by decide +kernel
theorem dX12_steps_17 : decode cX12_steps 17 = .ok (.goto 4, 3) := by decide +kernel
theorem dX12_steps_20 : decode cX12_steps 20 = .ok (.iconst 0, 1) := by decide +kernel
theorem dX12_steps_21 : decode cX12_steps 21 = .ok (.ireturn, 1) := by decide +kernel
theorem dX12_distance_0 : decode cX12_distance 0 = .ok (.aload_n 0, 1) := by decide +kernel
theorem dX12_distance_1 : decode cX12_distance 1 = .ok (.aload_n 0, 1) := by decide +kernel
theorem dX12_distance_2 : decode cX12_distance 2 = .ok (.iload_n 1, 1) := by decide +kernel
theorem dX12_distance_3 : decode cX12_distance 3 = .ok (.invokevirtual 339, 3) := by decide +kernel
theorem dX12_distance_6 : decode cX12_distance 6 = .ok (.invokevirtual 98, 3) := by decide +kernel
theorem dX12_distance_9 : decode cX12_distance 9 = .ok (.ifCond .eq 11, 3) := by decide +kernel
theorem dX12_distance_12 : decode cX12_distance 12 = .ok (.aload_n 0, 1) := by decide +kernel
theorem dX12_distance_13 : decode cX12_distance 13 = .ok (.iload_n 1, 1) := by decide +kernel
theorem dX12_distance_14 : decode cX12_distance 14 = .ok (.invokevirtual 222, 3) := by decide +kernel
theorem dX12_distance_17 : decode cX12_distance 17 = .ok (.goto 4, 3) := by decide +kernel
theorem dX12_distance_20 : decode cX12_distance 20 = .ok (.iconst 0, 1) := by decide +kernel
theorem dX12_distance_21 : decode cX12_distance 21 = .ok (.ireturn, 1) := by decide +kernel
theorem dX12_distanceFrom_0 : decode cX12_distanceFrom 0 = .ok (.aload_n 0, 1) := by decide +kernel
theorem dX12_distanceFrom_1 : decode cX12_distanceFrom 1 = .ok (.aload_n 0, 1) := by decide +kernel
theorem dX12_distanceFrom_2 : decode cX12_distanceFrom 2 = .ok (.iload_n 1, 1) := by decide +kernel
theorem dX12_distanceFrom_3 : decode cX12_distanceFrom 3 = .ok (.invokevirtual 339, 3) := by decide +kernel
theorem dX12_distanceFrom_6 : decode cX12_distanceFrom 6 = .ok (.ifCond .eq 16, 3) := by decide +kernel
theorem dX12_distanceFrom_9 : decode cX12_distanceFrom 9 = .ok (.aload_n 0, 1) := by decide +kernel
theorem dX12_distanceFrom_10 : decode cX12_distanceFrom 10 = .ok (.iload_n 2, 1) := by decide +kernel
theorem dX12_distanceFrom_11 : decode cX12_distanceFrom 11 = .ok (.iload_n 3, 1) := by decide +kernel
theorem dX12_distanceFrom_12 : decode cX12_distanceFrom 12 = .ok (.invokevirtual 187, 3) := by decide +kernel
theorem dX12_distanceFrom_15 : decode cX12_distanceFrom 15 = .ok (.ifCond .eq 7, 3) := by decide +kernel
theorem dX12_distanceFrom_18 : decode cX12_distanceFrom 18 = .ok (.iconst 1, 1) := by decide +kernel
theorem dX12_distanceFrom_19 : decode cX12_distanceFrom 19 = .ok (.goto 4, 3) := by decide +kernel
theorem dX12_distanceFrom_22 : decode cX12_distanceFrom 22 = .ok (.iconst 0, 1) := by decide +kernel
theorem dX12_distanceFrom_23 : decode cX12_distanceFrom 23 = .ok (.invokevirtual 98, 3) := by decide +kernel
theorem dX12_distanceFrom_26 : decode cX12_distanceFrom 26 = .ok (.ifCond .ne 5, 3) := by decide +kernel
theorem dX12_distanceFrom_29 : decode cX12_distanceFrom 29 = .ok (.iconst 0, 1) := by decide +kernel
theorem dX12_distanceFrom_30 : decode cX12_distanceFrom 30 = .ok (.ireturn, 1) := by decide +kernel
theorem dX12_distanceFrom_31 : decode cX12_distanceFrom 31 = .ok (.aload_n 0, 1) := by decide +kernel
theorem dX12_distanceFrom_32 : decode cX12_distanceFrom 32 = .ok (.aload_n 0, 1) := by decide +kernel
theorem dX12_distanceFrom_33 : decode cX12_distanceFrom 33 = .ok (.iload_n 1, 1) := by decide +kernel
theorem dX12_distanceFrom_34 : decode cX12_distanceFrom 34 = .ok (.iconst 2, 1) := by decide +kernel
theorem dX12_distanceFrom_35 : decode cX12_distanceFrom 35 = .ok (.invokevirtual 174, 3) := by decide +kernel
theorem dX12_distanceFrom_38 : decode cX12_distanceFrom 38 = .ok (.invokevirtual 216, 3) := by decide +kernel
theorem dX12_distanceFrom_41 : decode cX12_distanceFrom 41 = .ok (.aload_n 0, 1) := by decide +kernel
theorem dX12_distanceFrom_42 : decode cX12_distanceFrom 42 = .ok (.getfield 35, 3) := by decide +kernel
theorem dX12_distanceFrom_45 : decode cX12_distanceFrom 45 = .ok (.bipush 9, 2) := by decide +kernel
theorem dX12_distanceFrom_47 : decode cX12_distanceFrom 47 = .ok (.iload_n 3, 1) := by decide +kernel
theorem dX12_distanceFrom_48 : decode cX12_distanceFrom 48 = .ok (.imul, 1) := by decide +kernel
theorem dX12_distanceFrom_49 : decode cX12_distanceFrom 49 = .ok (.iload_n 2, 1) := by decide +kernel
theorem dX12_distanceFrom_50 : decode cX12_distanceFrom 50 = .ok (.iadd, 1) := by decide +kernel
theorem dX12_distanceFrom_51 : decode cX12_distanceFrom 51 = .ok (.iaload, 1) := by decide +kernel
theorem dX12_distanceFrom_52 : decode cX12_distanceFrom 52 = .ok (.ireturn, 1) := by decide +kernel
theorem dX12_ways_0 : decode cX12_ways 0 = .ok (.aload_n 0, 1) := by decide +kernel
theorem dX12_ways_1 : decode cX12_ways 1 = .ok (.aload_n 0, 1) := by decide +kernel
theorem dX12_ways_2 : decode cX12_ways 2 = .ok (.iload_n 1, 1) := by decide +kernel
theorem dX12_ways_3 : decode cX12_ways 3 = .ok (.invokevirtual 339, 3) := by decide +kernel
theorem dX12_ways_6 : decode cX12_ways 6 = .ok (.invokevirtual 98, 3) := by decide +kernel
theorem dX12_ways_9 : decode cX12_ways 9 = .ok (.ifCond .ne 5, 3) := by decide +kernel
theorem dX12_ways_12 : decode cX12_ways 12 = .ok (.iconst 0, 1) := by decide +kernel
theorem dX12_ways_13 : decode cX12_ways 13 = .ok (.ireturn, 1) := by decide +kernel
theorem dX12_ways_14 : decode cX12_ways 14 = .ok (.aload_n 0, 1) := by decide +kernel
theorem dX12_ways_15 : decode cX12_ways 15 = .ok (.iload_n 1, 1) := by decide +kernel
theorem dX12_ways_16 : decode cX12_ways 16 = .ok (.invokevirtual 213, 3) := by decide +kernel
theorem dX12_ways_19 : decode cX12_ways 19 = .ok (.ifCond .eq 5, 3) := by decide +kernel
theorem dX12_ways_22 : decode cX12_ways 22 = .ok (.iconst 1, 1) := by decide +kernel
theorem dX12_ways_23 : decode cX12_ways 23 = .ok (.ireturn, 1) := by decide +kernel
theorem dX12_ways_24 : decode cX12_ways 24 = .ok (.aload_n 0, 1) := by decide +kernel
theorem dX12_ways_25 : decode cX12_ways 25 = .ok (.aload_n 0, 1) := by decide +kernel
theorem dX12_ways_26 : decode cX12_ways 26 = .ok (.iload_n 1, 1) := by decide +kernel
theorem dX12_ways_27 : decode cX12_ways 27 = .ok (.iconst 2, 1) := by decide +kernel
theorem dX12_ways_28 : decode cX12_ways 28 = .ok (.invokevirtual 174, 3) := by decide +kernel
theorem dX12_ways_31 : decode cX12_ways 31 = .ok (.invokevirtual 216, 3) := by decide +kernel
theorem dX12_ways_34 : decode cX12_ways 34 = .ok (.iconst 0, 1) := by decide +kernel
theorem dX12_ways_35 : decode cX12_ways 35 = .ok (.istore_n 2, 1) := by decide +kernel
theorem dX12_ways_36 : decode cX12_ways 36 = .ok (.iload_n 2, 1) := by decide +kernel
theorem dX12_ways_37 : decode cX12_ways 37 = .ok (.aload_n 0, 1) := by decide +kernel
theorem dX12_ways_38 : decode cX12_ways 38 = .ok (.getfield 196, 3) := by decide +kernel
theorem dX12_ways_41 : decode cX12_ways 41 = .ok (.if_icmp .ge 98, 3) := by decide +kernel
theorem dX12_ways_44 : decode cX12_ways 44 = .ok (.aload_n 0, 1) := by decide +kernel
theorem dX12_ways_45 : decode cX12_ways 45 = .ok (.getfield 38, 3) := by decide +kernel
theorem dX12_ways_48 : decode cX12_ways 48 = .ok (.iload_n 2, 1) := by decide +kernel
theorem dX12_ways_49 : decode cX12_ways 49 = .ok (.iaload, 1) := by decide +kernel
theorem dX12_ways_50 : decode cX12_ways 50 = .ok (.istore_n 3, 1) := by decide +kernel
theorem dX12_ways_51 : decode cX12_ways 51 = .ok (.aload_n 0, 1) := by decide +kernel
theorem dX12_ways_52 : decode cX12_ways 52 = .ok (.getfield 35, 3) := by decide +kernel
theorem dX12_ways_55 : decode cX12_ways 55 = .ok (.iload_n 3, 1) := by decide +kernel
theorem dX12_ways_56 : decode cX12_ways 56 = .ok (.iaload, 1) := by decide +kernel
theorem dX12_ways_57 : decode cX12_ways 57 = .ok (.ifCond .ne 7, 3) := by decide +kernel
theorem dX12_ways_60 : decode cX12_ways 60 = .ok (.iconst 1, 1) := by decide +kernel
theorem dX12_ways_61 : decode cX12_ways 61 = .ok (.goto 4, 3) := by decide +kernel
theorem dX12_ways_64 : decode cX12_ways 64 = .ok (.iconst 0, 1) := by decide +kernel
theorem dX12_ways_65 : decode cX12_ways 65 = .ok (.invokestatic 91, 3) := by decide +kernel
theorem dX12_ways_68 : decode cX12_ways 68 = .ok (.istore 4, 2) := by decide +kernel
theorem dX12_ways_70 : decode cX12_ways 70 = .ok (.iconst 0, 1) := by decide +kernel
theorem dX12_ways_71 : decode cX12_ways 71 = .ok (.istore 5, 2) := by decide +kernel
theorem dX12_ways_73 : decode cX12_ways 73 = .ok (.iload 5, 2) := by decide +kernel
theorem dX12_ways_75 : decode cX12_ways 75 = .ok (.iconst 4, 1) := by decide +kernel
theorem dX12_ways_76 : decode cX12_ways 76 = .ok (.if_icmp .ge 45, 3) := by decide +kernel
theorem dX12_ways_79 : decode cX12_ways 79 = .ok (.aload_n 0, 1) := by decide +kernel
theorem dX12_ways_80 : decode cX12_ways 80 = .ok (.iload_n 3, 1) := by decide +kernel
theorem dX12_ways_81 : decode cX12_ways 81 = .ok (.iload 5, 2) := by decide +kernel
theorem dX12_ways_83 : decode cX12_ways 83 = .ok (.invokevirtual 385, 3) := by decide +kernel
theorem dX12_ways_86 : decode cX12_ways 86 = .ok (.ifCond .eq 29, 3) := by decide +kernel
theorem dX12_ways_89 : decode cX12_ways 89 = .ok (.iload 4, 2) := by decide +kernel
theorem dX12_ways_91 : decode cX12_ways 91 = .ok (.aload_n 0, 1) := by decide +kernel
theorem dX12_ways_92 : decode cX12_ways 92 = .ok (.getfield 45, 3) := by decide +kernel
theorem dX12_ways_95 : decode cX12_ways 95 = .ok (.iload_n 3, 1) := by decide +kernel
theorem dX12_ways_96 : decode cX12_ways 96 = .ok (.bipush 9, 2) := by decide +kernel
theorem dX12_ways_98 : decode cX12_ways 98 = .ok (.iload 5, 2) := by decide +kernel
theorem dX12_ways_100 : decode cX12_ways 100 = .ok (.invokestatic 184, 3) := by decide +kernel
theorem dX12_ways_103 : decode cX12_ways 103 = .ok (.imul, 1) := by decide +kernel
theorem dX12_ways_104 : decode cX12_ways 104 = .ok (.iadd, 1) := by decide +kernel
theorem dX12_ways_105 : decode cX12_ways 105 = .ok (.iload 5, 2) := by decide +kernel
theorem dX12_ways_107 : decode cX12_ways 107 = .ok (.invokestatic 181, 3) := by decide +kernel
theorem dX12_ways_110 : decode cX12_ways 110 = .ok (.iadd, 1) := by decide +kernel
theorem dX12_ways_111 : decode cX12_ways 111 = .ok (.iaload, 1) := by decide +kernel
theorem dX12_ways_112 : decode cX12_ways 112 = .ok (.iadd, 1) := by decide +kernel
theorem dX12_ways_113 : decode cX12_ways 113 = .ok (.istore 4, 2) := by decide +kernel
theorem dX12_ways_115 : decode cX12_ways 115 = .ok (.iinc 5 1, 3) := by decide +kernel
theorem dX12_ways_118 : decode cX12_ways 118 = .ok (.goto (-45), 3) := by decide +kernel
theorem dX12_ways_121 : decode cX12_ways 121 = .ok (.aload_n 0, 1) := by decide +kernel
theorem dX12_ways_122 : decode cX12_ways 122 = .ok (.getfield 45, 3) := by decide +kernel
theorem dX12_ways_125 : decode cX12_ways 125 = .ok (.iload_n 3, 1) := by decide +kernel
theorem dX12_ways_126 : decode cX12_ways 126 = .ok (.iload 4, 2) := by decide +kernel
theorem dX12_ways_128 : decode cX12_ways 128 = .ok (.ldc_w 388, 3) := by decide +kernel
theorem dX12_ways_131 : decode cX12_ways 131 = .ok (.irem, 1) := by decide +kernel
theorem dX12_ways_132 : decode cX12_ways 132 = .ok (.iastore, 1) := by decide +kernel
theorem dX12_ways_133 : decode cX12_ways 133 = .ok (.iinc 2 1, 3) := by decide +kernel
theorem dX12_ways_136 : decode cX12_ways 136 = .ok (.goto (-100), 3) := by decide +kernel
theorem dX12_ways_139 : decode cX12_ways 139 = .ok (.aload_n 0, 1) := by decide +kernel
theorem dX12_ways_140 : decode cX12_ways 140 = .ok (.getfield 45, 3) := by decide +kernel
theorem dX12_ways_143 : decode cX12_ways 143 = .ok (.aload_n 0, 1) := by decide +kernel
theorem dX12_ways_144 : decode cX12_ways 144 = .ok (.iload_n 1, 1) := by decide +kernel
theorem dX12_ways_145 : decode cX12_ways 145 = .ok (.invokevirtual 219, 3) := by decide +kernel
theorem dX12_ways_148 : decode cX12_ways 148 = .ok (.iaload, 1) := by decide +kernel
theorem dX12_ways_149 : decode cX12_ways 149 = .ok (.ireturn, 1) := by decide +kernel
theorem dX12_isNearer_0 : decode cX12_isNearer 0 = .ok (.aload_n 0, 1) := by decide +kernel
theorem dX12_isNearer_1 : decode cX12_isNearer 1 = .ok (.iload_n 1, 1) := by decide +kernel
theorem dX12_isNearer_2 : decode cX12_isNearer 2 = .ok (.bipush 9, 2) := by decide +kernel
theorem dX12_isNearer_4 : decode cX12_isNearer 4 = .ok (.irem, 1) := by decide +kernel
theorem dX12_isNearer_5 : decode cX12_isNearer 5 = .ok (.iload_n 1, 1) := by decide +kernel
theorem dX12_isNearer_6 : decode cX12_isNearer 6 = .ok (.bipush 9, 2) := by decide +kernel
theorem dX12_isNearer_8 : decode cX12_isNearer 8 = .ok (.idiv, 1) := by decide +kernel
theorem dX12_isNearer_9 : decode cX12_isNearer 9 = .ok (.iload_n 2, 1) := by decide +kernel
theorem dX12_isNearer_10 : decode cX12_isNearer 10 = .ok (.invokevirtual 210, 3) := by decide +kernel
theorem dX12_isNearer_13 : decode cX12_isNearer 13 = .ok (.ifCond .ne 37, 3) := by decide +kernel
theorem dX12_isNearer_16 : decode cX12_isNearer 16 = .ok (.aload_n 0, 1) := by decide +kernel
theorem dX12_isNearer_17 : decode cX12_isNearer 17 = .ok (.getfield 35, 3) := by decide +kernel
theorem dX12_isNearer_20 : decode cX12_isNearer 20 = .ok (.iload_n 1, 1) := by decide +kernel
theorem dX12_isNearer_21 : decode cX12_isNearer 21 = .ok (.bipush 9, 2) := by decide +kernel
theorem dX12_isNearer_23 : decode cX12_isNearer 23 = .ok (.iload_n 2, 1) := by decide +kernel
theorem dX12_isNearer_24 : decode cX12_isNearer 24 = .ok (.invokestatic 184, 3) := by decide +kernel
theorem dX12_isNearer_27 : decode cX12_isNearer 27 = .ok (.imul, 1) := by decide +kernel
theorem dX12_isNearer_28 : decode cX12_isNearer 28 = .ok (.iadd, 1) := by decide +kernel
theorem dX12_isNearer_29 : decode cX12_isNearer 29 = .ok (.iload_n 2, 1) := by decide +kernel
theorem dX12_isNearer_30 : decode cX12_isNearer 30 = .ok (.invokestatic 181, 3) := by decide +kernel
theorem dX12_isNearer_33 : decode cX12_isNearer 33 = .ok (.iadd, 1) := by decide +kernel
theorem dX12_isNearer_34 : decode cX12_isNearer 34 = .ok (.iaload, 1) := by decide +kernel
theorem dX12_isNearer_35 : decode cX12_isNearer 35 = .ok (.aload_n 0, 1) := by decide +kernel
theorem dX12_isNearer_36 : decode cX12_isNearer 36 = .ok (.getfield 35, 3) := by decide +kernel
theorem dX12_isNearer_39 : decode cX12_isNearer 39 = .ok (.iload_n 1, 1) := by decide +kernel
theorem dX12_isNearer_40 : decode cX12_isNearer 40 = .ok (.iaload, 1) := by decide +kernel
theorem dX12_isNearer_41 : decode cX12_isNearer 41 = .ok (.iconst 1, 1) := by decide +kernel
theorem dX12_isNearer_42 : decode cX12_isNearer 42 = .ok (.isub, 1) := by decide +kernel
theorem dX12_isNearer_43 : decode cX12_isNearer 43 = .ok (.if_icmp .ne 7, 3) := by decide +kernel
theorem dX12_isNearer_46 : decode cX12_isNearer 46 = .ok (.iconst 1, 1) := by decide +kernel
theorem dX12_isNearer_47 : decode cX12_isNearer 47 = .ok (.goto 4, 3) := by decide +kernel
theorem dX12_isNearer_50 : decode cX12_isNearer 50 = .ok (.iconst 0, 1) := by decide +kernel
theorem dX12_isNearer_51 : decode cX12_isNearer 51 = .ok (.ireturn, 1) := by decide +kernel
theorem dX12_onWays_0 : decode cX12_onWays 0 = .ok (.aload_n 0, 1) := by decide +kernel
theorem dX12_onWays_1 : decode cX12_onWays 1 = .ok (.aload_n 0, 1) := by decide +kernel
theorem dX12_onWays_2 : decode cX12_onWays 2 = .ok (.iload_n 1, 1) := by decide +kernel
theorem dX12_onWays_3 : decode cX12_onWays 3 = .ok (.invokevirtual 339, 3) := by decide +kernel
theorem dX12_onWays_6 : decode cX12_onWays 6 = .ok (.invokevirtual 98, 3) := by decide +kernel
theorem dX12_onWays_9 : decode cX12_onWays 9 = .ok (.ifCond .ne 5, 3) := by decide +kernel
theorem dX12_onWays_12 : decode cX12_onWays 12 = .ok (.iconst 0, 1) := by decide +kernel
theorem dX12_onWays_13 : decode cX12_onWays 13 = .ok (.ireturn, 1) := by decide +kernel
theorem dX12_onWays_14 : decode cX12_onWays 14 = .ok (.aload_n 0, 1) := by decide +kernel
theorem dX12_onWays_15 : decode cX12_onWays 15 = .ok (.iload_n 1, 1) := by decide +kernel
theorem dX12_onWays_16 : decode cX12_onWays 16 = .ok (.invokevirtual 213, 3) := by decide +kernel
theorem dX12_onWays_19 : decode cX12_onWays 19 = .ok (.ifCond .eq 5, 3) := by decide +kernel
theorem dX12_onWays_22 : decode cX12_onWays 22 = .ok (.iconst 1, 1) := by decide +kernel
theorem dX12_onWays_23 : decode cX12_onWays 23 = .ok (.ireturn, 1) := by decide +kernel
theorem dX12_onWays_24 : decode cX12_onWays 24 = .ok (.aload_n 0, 1) := by decide +kernel
theorem dX12_onWays_25 : decode cX12_onWays 25 = .ok (.aload_n 0, 1) := by decide +kernel
theorem dX12_onWays_26 : decode cX12_onWays 26 = .ok (.iload_n 1, 1) := by decide +kernel
theorem dX12_onWays_27 : decode cX12_onWays 27 = .ok (.iconst 2, 1) := by decide +kernel
theorem dX12_onWays_28 : decode cX12_onWays 28 = .ok (.invokevirtual 174, 3) := by decide +kernel
theorem dX12_onWays_31 : decode cX12_onWays 31 = .ok (.invokevirtual 216, 3) := by decide +kernel
theorem dX12_onWays_34 : decode cX12_onWays 34 = .ok (.iconst 0, 1) := by decide +kernel
theorem dX12_onWays_35 : decode cX12_onWays 35 = .ok (.istore_n 2, 1) := by decide +kernel
theorem dX12_onWays_36 : decode cX12_onWays 36 = .ok (.iload_n 2, 1) := by decide +kernel
theorem dX12_onWays_37 : decode cX12_onWays 37 = .ok (.bipush 81, 2) := by decide +kernel
theorem dX12_onWays_39 : decode cX12_onWays 39 = .ok (.if_icmp .ge 29, 3) := by decide +kernel
theorem dX12_onWays_42 : decode cX12_onWays 42 = .ok (.aload_n 0, 1) := by decide +kernel
theorem dX12_onWays_43 : decode cX12_onWays 43 = .ok (.getfield 48, 3) := by decide +kernel
theorem dX12_onWays_46 : decode cX12_onWays 46 = .ok (.iload_n 2, 1) := by decide +kernel
theorem dX12_onWays_47 : decode cX12_onWays 47 = .ok (.iload_n 2, 1) := by decide +kernel
theorem dX12_onWays_48 : decode cX12_onWays 48 = .ok (.aload_n 0, 1) := by decide +kernel
theorem dX12_onWays_49 : decode cX12_onWays 49 = .ok (.iload_n 1, 1) := by decide +kernel
theorem dX12_onWays_50 : decode cX12_onWays 50 = .ok (.invokevirtual 219, 3) := by decide +kernel
theorem dX12_onWays_53 : decode cX12_onWays 53 = .ok (.if_icmp .ne 7, 3) := by decide +kernel
theorem dX12_onWays_56 : decode cX12_onWays 56 = .ok (.iconst 1, 1) := by decide +kernel
theorem dX12_onWays_57 : decode cX12_onWays 57 = .ok (.goto 4, 3) := by decide +kernel
theorem dX12_onWays_60 : decode cX12_onWays 60 = .ok (.iconst 0, 1) := by decide +kernel
theorem dX12_onWays_61 : decode cX12_onWays 61 = .ok (.bastore, 1) := by decide +kernel
theorem dX12_onWays_62 : decode cX12_onWays 62 = .ok (.iinc 2 1, 3) := by decide +kernel
theorem dX12_onWays_65 : decode cX12_onWays 65 = .ok (.goto (-29), 3) := by decide +kernel
theorem dX12_onWays_68 : decode cX12_onWays 68 = .ok (.iconst 0, 1) := by decide +kernel
theorem dX12_onWays_69 : decode cX12_onWays 69 = .ok (.istore_n 2, 1) := by decide +kernel
theorem dX12_onWays_70 : decode cX12_onWays 70 = .ok (.aload_n 0, 1) := by decide +kernel
theorem dX12_onWays_71 : decode cX12_onWays 71 = .ok (.getfield 196, 3) := by decide +kernel
theorem dX12_onWays_74 : decode cX12_onWays 74 = .ok (.iconst 1, 1) := by decide +kernel
theorem dX12_onWays_75 : decode cX12_onWays 75 = .ok (.isub, 1) := by decide +kernel
theorem dX12_onWays_76 : decode cX12_onWays 76 = .ok (.istore_n 3, 1) := by decide +kernel
theorem dX12_onWays_77 : decode cX12_onWays 77 = .ok (.iload_n 3, 1) := by decide +kernel
theorem dX12_onWays_78 : decode cX12_onWays 78 = .ok (.ifCond .lt 82, 3) := by decide +kernel
theorem dX12_onWays_81 : decode cX12_onWays 81 = .ok (.aload_n 0, 1) := by decide +kernel
theorem dX12_onWays_82 : decode cX12_onWays 82 = .ok (.getfield 38, 3) := by decide +kernel
theorem dX12_onWays_85 : decode cX12_onWays 85 = .ok (.iload_n 3, 1) := by decide +kernel
theorem dX12_onWays_86 : decode cX12_onWays 86 = .ok (.iaload, 1) := by decide +kernel
theorem dX12_onWays_87 : decode cX12_onWays 87 = .ok (.istore 4, 2) := by decide +kernel
theorem dX12_onWays_89 : decode cX12_onWays 89 = .ok (.aload_n 0, 1) := by decide +kernel
theorem dX12_onWays_90 : decode cX12_onWays 90 = .ok (.getfield 48, 3) := by decide +kernel
theorem dX12_onWays_93 : decode cX12_onWays 93 = .ok (.iload 4, 2) := by decide +kernel
theorem dX12_onWays_95 : decode cX12_onWays 95 = .ok (.baload, 1) := by decide +kernel
theorem dX12_onWays_96 : decode cX12_onWays 96 = .ok (.ifCond .ne 6, 3) := by decide +kernel
theorem dX12_onWays_99 : decode cX12_onWays 99 = .ok (.goto 55, 3) := by decide +kernel
theorem dX12_onWays_102 : decode cX12_onWays 102 = .ok (.iinc 2 1, 3) := by decide +kernel
theorem dX12_onWays_105 : decode cX12_onWays 105 = .ok (.iconst 0, 1) := by decide +kernel
theorem dX12_onWays_106 : decode cX12_onWays 106 = .ok (.istore 5, 2) := by decide +kernel
theorem dX12_onWays_108 : decode cX12_onWays 108 = .ok (.iload 5, 2) := by decide +kernel
theorem dX12_onWays_110 : decode cX12_onWays 110 = .ok (.iconst 4, 1) := by decide +kernel
theorem dX12_onWays_111 : decode cX12_onWays 111 = .ok (.if_icmp .ge 43, 3) := by decide +kernel
theorem dX12_onWays_114 : decode cX12_onWays 114 = .ok (.aload_n 0, 1) := by decide +kernel
theorem dX12_onWays_115 : decode cX12_onWays 115 = .ok (.iload 4, 2) := by decide +kernel
theorem dX12_onWays_117 : decode cX12_onWays 117 = .ok (.iload 5, 2) := by decide +kernel
theorem dX12_onWays_119 : decode cX12_onWays 119 = .ok (.invokevirtual 385, 3) := by decide +kernel
theorem dX12_onWays_122 : decode cX12_onWays 122 = .ok (.ifCond .eq 26, 3) := by decide +kernel
theorem dX12_onWays_125 : decode cX12_onWays 125 = .ok (.aload_n 0, 1) := by decide +kernel
theorem dX12_onWays_126 : decode cX12_onWays 126 = .ok (.getfield 48, 3) := by decide +kernel
theorem dX12_onWays_129 : decode cX12_onWays 129 = .ok (.iload 4, 2) := by decide +kernel
theorem dX12_onWays_131 : decode cX12_onWays 131 = .ok (.bipush 9, 2) := by decide +kernel
theorem dX12_onWays_133 : decode cX12_onWays 133 = .ok (.iload 5, 2) := by decide +kernel
theorem dX12_onWays_135 : decode cX12_onWays 135 = .ok (.invokestatic 184, 3) := by decide +kernel
theorem dX12_onWays_138 : decode cX12_onWays 138 = .ok (.imul, 1) := by decide +kernel
theorem dX12_onWays_139 : decode cX12_onWays 139 = .ok (.iadd, 1) := by decide +kernel
theorem dX12_onWays_140 : decode cX12_onWays 140 = .ok (.iload 5, 2) := by decide +kernel
theorem dX12_onWays_142 : decode cX12_onWays 142 = .ok (.invokestatic 181, 3) := by decide +kernel
theorem dX12_onWays_145 : decode cX12_onWays 145 = .ok (.iadd, 1) := by decide +kernel
theorem dX12_onWays_146 : decode cX12_onWays 146 = .ok (.iconst 1, 1) := by decide +kernel
theorem dX12_onWays_147 : decode cX12_onWays 147 = .ok (.bastore, 1) := by decide +kernel
theorem dX12_onWays_148 : decode cX12_onWays 148 = .ok (.iinc 5 1, 3) := by decide +kernel
theorem dX12_onWays_151 : decode cX12_onWays 151 = .ok (.goto (-43), 3) := by decide +kernel
theorem dX12_onWays_154 : decode cX12_onWays 154 = .ok (.iinc 3 (-1), 3) := by decide +kernel
theorem dX12_onWays_157 : decode cX12_onWays 157 = .ok (.goto (-80), 3) := by decide +kernel
theorem dX12_onWays_160 : decode cX12_onWays 160 = .ok (.iload_n 2, 1) := by decide +kernel
theorem dX12_onWays_161 : decode cX12_onWays 161 = .ok (.ireturn, 1) := by decide +kernel
theorem dX12_comesWithout_0 : decode cX12_comesWithout 0 = .ok (.aload_n 0, 1) := by decide +kernel
theorem dX12_comesWithout_1 : decode cX12_comesWithout 1 = .ok (.iconst 0, 1) := by decide +kernel
theorem dX12_comesWithout_2 : decode cX12_comesWithout 2 = .ok (.putfield 196, 3) := by decide +kernel
theorem dX12_comesWithout_5 : decode cX12_comesWithout 5 = .ok (.iconst 0, 1) := by decide +kernel
theorem dX12_comesWithout_6 : decode cX12_comesWithout 6 = .ok (.istore_n 3, 1) := by decide +kernel
theorem dX12_comesWithout_7 : decode cX12_comesWithout 7 = .ok (.iload_n 3, 1) := by decide +kernel
theorem dX12_comesWithout_8 : decode cX12_comesWithout 8 = .ok (.bipush 81, 2) := by decide +kernel
theorem dX12_comesWithout_10 : decode cX12_comesWithout 10 = .ok (.if_icmp .ge 16, 3) := by decide +kernel
theorem dX12_comesWithout_13 : decode cX12_comesWithout 13 = .ok (.aload_n 0, 1) := by decide +kernel
theorem dX12_comesWithout_14 : decode cX12_comesWithout 14 = .ok (.getfield 35, 3) := by decide +kernel
theorem dX12_comesWithout_17 : decode cX12_comesWithout 17 = .ok (.iload_n 3, 1) := by decide +kernel
theorem dX12_comesWithout_18 : decode cX12_comesWithout 18 = .ok (.iconst (-1), 1) := by decide +kernel
theorem dX12_comesWithout_19 : decode cX12_comesWithout 19 = .ok (.iastore, 1) := by decide +kernel
theorem dX12_comesWithout_20 : decode cX12_comesWithout 20 = .ok (.iinc 3 1, 3) := by decide +kernel
theorem dX12_comesWithout_23 : decode cX12_comesWithout 23 = .ok (.goto (-16), 3) := by decide +kernel
theorem dX12_comesWithout_26 : decode cX12_comesWithout 26 = .ok (.aload_n 0, 1) := by decide +kernel
theorem dX12_comesWithout_27 : decode cX12_comesWithout 27 = .ok (.getfield 35, 3) := by decide +kernel
theorem dX12_comesWithout_30 : decode cX12_comesWithout 30 = .ok (.iload_n 2, 1) := by decide +kernel
theorem dX12_comesWithout_31 : decode cX12_comesWithout 31 = .ok (.iconst 0, 1) := by decide +kernel
theorem dX12_comesWithout_32 : decode cX12_comesWithout 32 = .ok (.iastore, 1) := by decide +kernel
theorem dX12_comesWithout_33 : decode cX12_comesWithout 33 = .ok (.aload_n 0, 1) := by decide +kernel
theorem dX12_comesWithout_34 : decode cX12_comesWithout 34 = .ok (.aload_n 0, 1) := by decide +kernel
theorem dX12_comesWithout_35 : decode cX12_comesWithout 35 = .ok (.iload_n 1, 1) := by decide +kernel
theorem dX12_comesWithout_36 : decode cX12_comesWithout 36 = .ok (.iconst 0, 1) := by decide +kernel
theorem dX12_comesWithout_37 : decode cX12_comesWithout 37 = .ok (.invokevirtual 174, 3) := by decide +kernel
theorem dX12_comesWithout_40 : decode cX12_comesWithout 40 = .ok (.aload_n 0, 1) := by decide +kernel
theorem dX12_comesWithout_41 : decode cX12_comesWithout 41 = .ok (.iload_n 1, 1) := by decide +kernel
theorem dX12_comesWithout_42 : decode cX12_comesWithout 42 = .ok (.iconst 1, 1) := by decide +kernel
theorem dX12_comesWithout_43 : decode cX12_comesWithout 43 = .ok (.invokevirtual 174, 3) := by decide +kernel
theorem dX12_comesWithout_46 : decode cX12_comesWithout 46 = .ok (.iconst 0, 1) := by decide +kernel
theorem dX12_comesWithout_47 : decode cX12_comesWithout 47 = .ok (.invokevirtual 203, 3) := by decide +kernel
theorem dX12_comesWithout_50 : decode cX12_comesWithout 50 = .ok (.iconst 0, 1) := by decide +kernel
theorem dX12_comesWithout_51 : decode cX12_comesWithout 51 = .ok (.istore_n 3, 1) := by decide +kernel
theorem dX12_comesWithout_52 : decode cX12_comesWithout 52 = .ok (.iconst 0, 1) := by decide +kernel
theorem dX12_comesWithout_53 : decode cX12_comesWithout 53 = .ok (.istore 4, 2) := by decide +kernel
theorem dX12_comesWithout_55 : decode cX12_comesWithout 55 = .ok (.iload 4, 2) := by decide +kernel
theorem dX12_comesWithout_57 : decode cX12_comesWithout 57 = .ok (.aload_n 0, 1) := by decide +kernel
theorem dX12_comesWithout_58 : decode cX12_comesWithout 58 = .ok (.getfield 196, 3) := by decide +kernel
theorem dX12_comesWithout_61 : decode cX12_comesWithout 61 = .ok (.if_icmp .ge 63, 3) := by decide +kernel
theorem dX12_comesWithout_64 : decode cX12_comesWithout 64 = .ok (.iload_n 3, 1) := by decide +kernel
theorem dX12_comesWithout_65 : decode cX12_comesWithout 65 = .ok (.ifCond .ne 36, 3) := by decide +kernel
theorem dX12_comesWithout_68 : decode cX12_comesWithout 68 = .ok (.aload_n 0, 1) := by decide +kernel
theorem dX12_comesWithout_69 : decode cX12_comesWithout 69 = .ok (.aload_n 0, 1) := by decide +kernel
theorem dX12_comesWithout_70 : decode cX12_comesWithout 70 = .ok (.getfield 38, 3) := by decide +kernel
theorem dX12_comesWithout_73 : decode cX12_comesWithout 73 = .ok (.iload 4, 2) := by decide +kernel
theorem dX12_comesWithout_75 : decode cX12_comesWithout 75 = .ok (.iaload, 1) := by decide +kernel
theorem dX12_comesWithout_76 : decode cX12_comesWithout 76 = .ok (.bipush 9, 2) := by decide +kernel
theorem dX12_comesWithout_78 : decode cX12_comesWithout 78 = .ok (.irem, 1) := by decide +kernel
theorem dX12_comesWithout_79 : decode cX12_comesWithout 79 = .ok (.aload_n 0, 1) := by decide +kernel
theorem dX12_comesWithout_80 : decode cX12_comesWithout 80 = .ok (.getfield 38, 3) := by decide +kernel
theorem dX12_comesWithout_83 : decode cX12_comesWithout 83 = .ok (.iload 4, 2) := by decide +kernel
theorem dX12_comesWithout_85 : decode cX12_comesWithout 85 = .ok (.iaload, 1) := by decide +kernel
theorem dX12_comesWithout_86 : decode cX12_comesWithout 86 = .ok (.bipush 9, 2) := by decide +kernel
theorem dX12_comesWithout_88 : decode cX12_comesWithout 88 = .ok (.idiv, 1) := by decide +kernel
theorem dX12_comesWithout_89 : decode cX12_comesWithout 89 = .ok (.aload_n 0, 1) := by decide +kernel
theorem dX12_comesWithout_90 : decode cX12_comesWithout 90 = .ok (.iload_n 1, 1) := by decide +kernel
theorem dX12_comesWithout_91 : decode cX12_comesWithout 91 = .ok (.iconst 2, 1) := by decide +kernel
theorem dX12_comesWithout_92 : decode cX12_comesWithout 92 = .ok (.invokevirtual 174, 3) := by decide +kernel
theorem dX12_comesWithout_95 : decode cX12_comesWithout 95 = .ok (.invokevirtual 199, 3) := by decide +kernel
theorem dX12_comesWithout_98 : decode cX12_comesWithout 98 = .ok (.ifCond .eq 7, 3) := by decide +kernel
theorem dX12_comesWithout_101 : decode cX12_comesWithout 101 = .ok (.iconst 1, 1) := by decide +kernel
theorem dX12_comesWithout_102 : decode cX12_comesWithout 102 = .ok (.goto 4, 3) := by decide +kernel
theorem dX12_comesWithout_105 : decode cX12_comesWithout 105 = .ok (.iconst 0, 1) := by decide +kernel
theorem dX12_comesWithout_106 : decode cX12_comesWithout 106 = .ok (.istore_n 3, 1) := by decide +kernel
theorem dX12_comesWithout_107 : decode cX12_comesWithout 107 = .ok (.aload_n 0, 1) := by decide +kernel
theorem dX12_comesWithout_108 : decode cX12_comesWithout 108 = .ok (.aload_n 0, 1) := by decide +kernel
theorem dX12_comesWithout_109 : decode cX12_comesWithout 109 = .ok (.getfield 38, 3) := by decide +kernel
theorem dX12_comesWithout_112 : decode cX12_comesWithout 112 = .ok (.iload 4, 2) := by decide +kernel
theorem dX12_comesWithout_114 : decode cX12_comesWithout 114 = .ok (.iaload, 1) := by decide +kernel
theorem dX12_comesWithout_115 : decode cX12_comesWithout 115 = .ok (.invokevirtual 207, 3) := by decide +kernel
theorem dX12_comesWithout_118 : decode cX12_comesWithout 118 = .ok (.iinc 4 1, 3) := by decide +kernel
theorem dX12_comesWithout_121 : decode cX12_comesWithout 121 = .ok (.goto (-66), 3) := by decide +kernel
theorem dX12_comesWithout_124 : decode cX12_comesWithout 124 = .ok (.iload_n 3, 1) := by decide +kernel
theorem dX12_comesWithout_125 : decode cX12_comesWithout 125 = .ok (.ireturn, 1) := by decide +kernel
theorem dX12_isGateOf_0 : decode cX12_isGateOf 0 = .ok (.aload_n 0, 1) := by decide +kernel
theorem dX12_isGateOf_1 : decode cX12_isGateOf 1 = .ok (.iload_n 1, 1) := by decide +kernel
theorem dX12_isGateOf_2 : decode cX12_isGateOf 2 = .ok (.invokevirtual 213, 3) := by decide +kernel
theorem dX12_isGateOf_5 : decode cX12_isGateOf 5 = .ok (.ifCond .ne 35, 3) := by decide +kernel
theorem dX12_isGateOf_8 : decode cX12_isGateOf 8 = .ok (.bipush 9, 2) := by decide +kernel
theorem dX12_isGateOf_10 : decode cX12_isGateOf 10 = .ok (.iload_n 3, 1) := by decide +kernel
theorem dX12_isGateOf_11 : decode cX12_isGateOf 11 = .ok (.imul, 1) := by decide +kernel
theorem dX12_isGateOf_12 : decode cX12_isGateOf 12 = .ok (.iload_n 2, 1) := by decide +kernel
theorem dX12_isGateOf_13 : decode cX12_isGateOf 13 = .ok (.iadd, 1) := by decide +kernel
theorem dX12_isGateOf_14 : decode cX12_isGateOf 14 = .ok (.aload_n 0, 1) := by decide +kernel
theorem dX12_isGateOf_15 : decode cX12_isGateOf 15 = .ok (.iload_n 1, 1) := by decide +kernel
theorem dX12_isGateOf_16 : decode cX12_isGateOf 16 = .ok (.invokevirtual 219, 3) := by decide +kernel
theorem dX12_isGateOf_19 : decode cX12_isGateOf 19 = .ok (.if_icmp .eq 21, 3) := by decide +kernel
theorem dX12_isGateOf_22 : decode cX12_isGateOf 22 = .ok (.aload_n 0, 1) := by decide +kernel
theorem dX12_isGateOf_23 : decode cX12_isGateOf 23 = .ok (.iload_n 1, 1) := by decide +kernel
theorem dX12_isGateOf_24 : decode cX12_isGateOf 24 = .ok (.bipush 9, 2) := by decide +kernel
theorem dX12_isGateOf_26 : decode cX12_isGateOf 26 = .ok (.iload_n 3, 1) := by decide +kernel
theorem dX12_isGateOf_27 : decode cX12_isGateOf 27 = .ok (.imul, 1) := by decide +kernel
theorem dX12_isGateOf_28 : decode cX12_isGateOf 28 = .ok (.iload_n 2, 1) := by decide +kernel
theorem dX12_isGateOf_29 : decode cX12_isGateOf 29 = .ok (.iadd, 1) := by decide +kernel
theorem dX12_isGateOf_30 : decode cX12_isGateOf 30 = .ok (.invokevirtual 389, 3) := by decide +kernel
theorem dX12_isGateOf_33 : decode cX12_isGateOf 33 = .ok (.ifCond .ne 7, 3) := by decide +kernel
theorem dX12_isGateOf_36 : decode cX12_isGateOf 36 = .ok (.iconst 1, 1) := by decide +kernel
theorem dX12_isGateOf_37 : decode cX12_isGateOf 37 = .ok (.goto 4, 3) := by decide +kernel
theorem dX12_isGateOf_40 : decode cX12_isGateOf 40 = .ok (.iconst 0, 1) := by decide +kernel
theorem dX12_isGateOf_41 : decode cX12_isGateOf 41 = .ok (.ireturn, 1) := by decide +kernel
theorem dX12_gates_0 : decode cX12_gates 0 = .ok (.aload_n 0, 1) := by decide +kernel
theorem dX12_gates_1 : decode cX12_gates 1 = .ok (.aload_n 0, 1) := by decide +kernel
theorem dX12_gates_2 : decode cX12_gates 2 = .ok (.iload_n 1, 1) := by decide +kernel
theorem dX12_gates_3 : decode cX12_gates 3 = .ok (.invokevirtual 339, 3) := by decide +kernel
theorem dX12_gates_6 : decode cX12_gates 6 = .ok (.invokevirtual 98, 3) := by decide +kernel
theorem dX12_gates_9 : decode cX12_gates 9 = .ok (.ifCond .ne 5, 3) := by decide +kernel
theorem dX12_gates_12 : decode cX12_gates 12 = .ok (.iconst 0, 1) := by decide +kernel
theorem dX12_gates_13 : decode cX12_gates 13 = .ok (.ireturn, 1) := by decide +kernel
theorem dX12_gates_14 : decode cX12_gates 14 = .ok (.iconst 0, 1) := by decide +kernel
theorem dX12_gates_15 : decode cX12_gates 15 = .ok (.istore_n 2, 1) := by decide +kernel
theorem dX12_gates_16 : decode cX12_gates 16 = .ok (.iconst 0, 1) := by decide +kernel
theorem dX12_gates_17 : decode cX12_gates 17 = .ok (.istore_n 3, 1) := by decide +kernel
theorem dX12_gates_18 : decode cX12_gates 18 = .ok (.iload_n 3, 1) := by decide +kernel
theorem dX12_gates_19 : decode cX12_gates 19 = .ok (.aload_n 0, 1) := by decide +kernel
theorem dX12_gates_20 : decode cX12_gates 20 = .ok (.getfield 20, 3) := by decide +kernel
theorem dX12_gates_23 : decode cX12_gates 23 = .ok (.iconst 1, 1) := by decide +kernel
theorem dX12_gates_24 : decode cX12_gates 24 = .ok (.iaload, 1) := by decide +kernel
theorem dX12_gates_25 : decode cX12_gates 25 = .ok (.if_icmp .ge 43, 3) := by decide +kernel
theorem dX12_gates_28 : decode cX12_gates 28 = .ok (.iconst 0, 1) := by decide +kernel
theorem dX12_gates_29 : decode cX12_gates 29 = .ok (.istore 4, 2) := by decide +kernel
theorem dX12_gates_31 : decode cX12_gates 31 = .ok (.iload 4, 2) := by decide +kernel
theorem dX12_gates_33 : decode cX12_gates 33 = .ok (.aload_n 0, 1) := by decide +kernel
theorem dX12_gates_34 : decode cX12_gates 34 = .ok (.getfield 20, 3) := by decide +kernel
theorem dX12_gates_37 : decode cX12_gates 37 = .ok (.iconst 0, 1) := by decide +kernel
theorem dX12_gates_38 : decode cX12_gates 38 = .ok (.iaload, 1) := by decide +kernel
theorem dX12_gates_39 : decode cX12_gates 39 = .ok (.if_icmp .ge 23, 3) := by decide +kernel
theorem dX12_gates_42 : decode cX12_gates 42 = .ok (.iload_n 2, 1) := by decide +kernel
theorem dX12_gates_43 : decode cX12_gates 43 = .ok (.aload_n 0, 1) := by decide +kernel
theorem dX12_gates_44 : decode cX12_gates 44 = .ok (.iload_n 1, 1) := by decide +kernel
theorem dX12_gates_45 : decode cX12_gates 45 = .ok (.iload 4, 2) := by decide +kernel
theorem dX12_gates_47 : decode cX12_gates 47 = .ok (.iload_n 3, 1) := by decide +kernel
theorem dX12_gates_48 : decode cX12_gates 48 = .ok (.invokevirtual 392, 3) := by decide +kernel
theorem dX12_gates_51 : decode cX12_gates 51 = .ok (.invokestatic 91, 3) := by decide +kernel
theorem dX12_gates_54 : decode cX12_gates 54 = .ok (.iadd, 1) := by decide +kernel
theorem dX12_gates_55 : decode cX12_gates 55 = .ok (.istore_n 2, 1) := by decide +kernel
theorem dX12_gates_56 : decode cX12_gates 56 = .ok (.iinc 4 1, 3) := by decide +kernel
theorem dX12_gates_59 : decode cX12_gates 59 = .ok (.goto (-28), 3) := by decide +kernel
theorem dX12_gates_62 : decode cX12_gates 62 = .ok (.iinc 3 1, 3) := by decide +kernel
theorem dX12_gates_65 : decode cX12_gates 65 = .ok (.goto (-47), 3) := by decide +kernel
theorem dX12_gates_68 : decode cX12_gates 68 = .ok (.iload_n 2, 1) := by decide +kernel
theorem dX12_gates_69 : decode cX12_gates 69 = .ok (.ireturn, 1) := by decide +kernel
theorem dX12_isGate_0 : decode cX12_isGate 0 = .ok (.aload_n 0, 1) := by decide +kernel
theorem dX12_isGate_1 : decode cX12_isGate 1 = .ok (.aload_n 0, 1) := by decide +kernel
theorem dX12_isGate_2 : decode cX12_isGate 2 = .ok (.iload_n 1, 1) := by decide +kernel
theorem dX12_isGate_3 : decode cX12_isGate 3 = .ok (.invokevirtual 339, 3) := by decide +kernel
theorem dX12_isGate_6 : decode cX12_isGate 6 = .ok (.ifCond .eq 16, 3) := by decide +kernel
theorem dX12_isGate_9 : decode cX12_isGate 9 = .ok (.aload_n 0, 1) := by decide +kernel
theorem dX12_isGate_10 : decode cX12_isGate 10 = .ok (.iload_n 2, 1) := by decide +kernel
theorem dX12_isGate_11 : decode cX12_isGate 11 = .ok (.iload_n 3, 1) := by decide +kernel
theorem dX12_isGate_12 : decode cX12_isGate 12 = .ok (.invokevirtual 187, 3) := by decide +kernel
theorem dX12_isGate_15 : decode cX12_isGate 15 = .ok (.ifCond .eq 7, 3) := by decide +kernel
theorem dX12_isGate_18 : decode cX12_isGate 18 = .ok (.iconst 1, 1) := by decide +kernel
theorem dX12_isGate_19 : decode cX12_isGate 19 = .ok (.goto 4, 3) := by decide +kernel
theorem dX12_isGate_22 : decode cX12_isGate 22 = .ok (.iconst 0, 1) := by decide +kernel
theorem dX12_isGate_23 : decode cX12_isGate 23 = .ok (.invokevirtual 98, 3) := by decide +kernel
theorem dX12_isGate_26 : decode cX12_isGate 26 = .ok (.ifCond .eq 17, 3) := by decide +kernel
theorem dX12_isGate_29 : decode cX12_isGate 29 = .ok (.aload_n 0, 1) := by decide +kernel
theorem dX12_isGate_30 : decode cX12_isGate 30 = .ok (.iload_n 1, 1) := by decide +kernel
theorem dX12_isGate_31 : decode cX12_isGate 31 = .ok (.iload_n 2, 1) := by decide +kernel
theorem dX12_isGate_32 : decode cX12_isGate 32 = .ok (.iload_n 3, 1) := by decide +kernel
theorem dX12_isGate_33 : decode cX12_isGate 33 = .ok (.invokevirtual 392, 3) := by decide +kernel
theorem dX12_isGate_36 : decode cX12_isGate 36 = .ok (.ifCond .eq 7, 3) := by decide +kernel
theorem dX12_isGate_39 : decode cX12_isGate 39 = .ok (.iconst 1, 1) := by decide +kernel
theorem dX12_isGate_40 : decode cX12_isGate 40 = .ok (.goto 4, 3) := by decide +kernel
theorem dX12_isGate_43 : decode cX12_isGate 43 = .ok (.iconst 0, 1) := by decide +kernel
theorem dX12_isGate_44 : decode cX12_isGate 44 = .ok (.ireturn, 1) := by decide +kernel
theorem dX12_beginsWalk_0 : decode cX12_beginsWalk 0 = .ok (.aload_n 0, 1) := by decide +kernel
theorem dX12_beginsWalk_1 : decode cX12_beginsWalk 1 = .ok (.iload_n 1, 1) := by decide +kernel
theorem dX12_beginsWalk_2 : decode cX12_beginsWalk 2 = .ok (.putfield 365, 3) := by decide +kernel
theorem dX12_beginsWalk_5 : decode cX12_beginsWalk 5 = .ok (.aload_n 0, 1) := by decide +kernel
theorem dX12_beginsWalk_6 : decode cX12_beginsWalk 6 = .ok (.iload_n 1, 1) := by decide +kernel
theorem dX12_beginsWalk_7 : decode cX12_beginsWalk 7 = .ok (.iconst 5, 1) := by decide +kernel
theorem dX12_beginsWalk_8 : decode cX12_beginsWalk 8 = .ok (.invokevirtual 174, 3) := by decide +kernel
theorem dX12_beginsWalk_11 : decode cX12_beginsWalk 11 = .ok (.istore_n 2, 1) := by decide +kernel
theorem dX12_beginsWalk_12 : decode cX12_beginsWalk 12 = .ok (.iconst 0, 1) := by decide +kernel
theorem dX12_beginsWalk_13 : decode cX12_beginsWalk 13 = .ok (.istore_n 3, 1) := by decide +kernel
theorem dX12_beginsWalk_14 : decode cX12_beginsWalk 14 = .ok (.iload_n 3, 1) := by decide +kernel
theorem dX12_beginsWalk_15 : decode cX12_beginsWalk 15 = .ok (.sipush 405, 3) := by decide +kernel
theorem dX12_beginsWalk_18 : decode cX12_beginsWalk 18 = .ok (.if_icmp .ge 57, 3) := by decide +kernel
theorem dX12_beginsWalk_21 : decode cX12_beginsWalk 21 = .ok (.aload_n 0, 1) := by decide +kernel
theorem dX12_beginsWalk_22 : decode cX12_beginsWalk 22 = .ok (.getfield 58, 3) := by decide +kernel
theorem dX12_beginsWalk_25 : decode cX12_beginsWalk 25 = .ok (.iload_n 3, 1) := by decide +kernel
theorem dX12_beginsWalk_26 : decode cX12_beginsWalk 26 = .ok (.iload_n 3, 1) := by decide +kernel
theorem dX12_beginsWalk_27 : decode cX12_beginsWalk 27 = .ok (.iconst 5, 1) := by decide +kernel
theorem dX12_beginsWalk_28 : decode cX12_beginsWalk 28 = .ok (.aload_n 0, 1) := by decide +kernel
theorem dX12_beginsWalk_29 : decode cX12_beginsWalk 29 = .ok (.iload_n 1, 1) := by decide +kernel
theorem dX12_beginsWalk_30 : decode cX12_beginsWalk 30 = .ok (.invokevirtual 219, 3) := by decide +kernel
theorem dX12_beginsWalk_33 : decode cX12_beginsWalk 33 = .ok (.imul, 1) := by decide +kernel
theorem dX12_beginsWalk_34 : decode cX12_beginsWalk 34 = .ok (.iload_n 2, 1) := by decide +kernel
theorem dX12_beginsWalk_35 : decode cX12_beginsWalk 35 = .ok (.iconst (-1), 1) := by decide +kernel
theorem dX12_beginsWalk_36 : decode cX12_beginsWalk 36 = .ok (.if_icmp .ne 7, 3) := by decide +kernel
theorem dX12_beginsWalk_39 : decode cX12_beginsWalk 39 = .ok (.iconst 4, 1) := by decide +kernel
theorem dX12_beginsWalk_40 : decode cX12_beginsWalk 40 = .ok (.goto 4, 3) := by decide +kernel
theorem dX12_beginsWalk_43 : decode cX12_beginsWalk 43 = .ok (.iload_n 2, 1) := by decide +kernel
theorem dX12_beginsWalk_44 : decode cX12_beginsWalk 44 = .ok (.iadd, 1) := by decide +kernel
theorem dX12_beginsWalk_45 : decode cX12_beginsWalk 45 = .ok (.if_icmp .ne 7, 3) := by decide +kernel
theorem dX12_beginsWalk_48 : decode cX12_beginsWalk 48 = .ok (.iconst 1, 1) := by decide +kernel
theorem dX12_beginsWalk_49 : decode cX12_beginsWalk 49 = .ok (.goto 4, 3) := by decide +kernel
theorem dX12_beginsWalk_52 : decode cX12_beginsWalk 52 = .ok (.iconst 0, 1) := by decide +kernel
theorem dX12_beginsWalk_53 : decode cX12_beginsWalk 53 = .ok (.bastore, 1) := by decide +kernel
theorem dX12_beginsWalk_54 : decode cX12_beginsWalk 54 = .ok (.aload_n 0, 1) := by decide +kernel
theorem dX12_beginsWalk_55 : decode cX12_beginsWalk 55 = .ok (.getfield 52, 3) := by decide +kernel
theorem dX12_beginsWalk_58 : decode cX12_beginsWalk 58 = .ok (.iload_n 3, 1) := by decide +kernel
theorem dX12_beginsWalk_59 : decode cX12_beginsWalk 59 = .ok (.aload_n 0, 1) := by decide +kernel
theorem dX12_beginsWalk_60 : decode cX12_beginsWalk 60 = .ok (.getfield 58, 3) := by decide +kernel
theorem dX12_beginsWalk_63 : decode cX12_beginsWalk 63 = .ok (.iload_n 3, 1) := by decide +kernel
theorem dX12_beginsWalk_64 : decode cX12_beginsWalk 64 = .ok (.baload, 1) := by decide +kernel
theorem dX12_beginsWalk_65 : decode cX12_beginsWalk 65 = .ok (.invokestatic 91, 3) := by decide +kernel
theorem dX12_beginsWalk_68 : decode cX12_beginsWalk 68 = .ok (.iastore, 1) := by decide +kernel
theorem dX12_beginsWalk_69 : decode cX12_beginsWalk 69 = .ok (.iinc 3 1, 3) := by decide +kernel
theorem dX12_beginsWalk_72 : decode cX12_beginsWalk 72 = .ok (.goto (-58), 3) := by decide +kernel
theorem dX12_beginsWalk_75 : decode cX12_beginsWalk 75 = .ok (.return_, 1) := by decide +kernel
theorem dX12_walks_0 : decode cX12_walks 0 = .ok (.aload_n 0, 1) := by decide +kernel
theorem dX12_walks_1 : decode cX12_walks 1 = .ok (.iconst 0, 1) := by decide +kernel
theorem dX12_walks_2 : decode cX12_walks 2 = .ok (.putfield 395, 3) := by decide +kernel
theorem dX12_walks_5 : decode cX12_walks 5 = .ok (.aload_n 0, 1) := by decide +kernel
theorem dX12_walks_6 : decode cX12_walks 6 = .ok (.iconst 0, 1) := by decide +kernel
theorem dX12_walks_7 : decode cX12_walks 7 = .ok (.putfield 398, 3) := by decide +kernel
theorem dX12_walks_10 : decode cX12_walks 10 = .ok (.iconst 0, 1) := by decide +kernel
theorem dX12_walks_11 : decode cX12_walks 11 = .ok (.istore_n 3, 1) := by decide +kernel
theorem dX12_walks_12 : decode cX12_walks 12 = .ok (.iload_n 3, 1) := by decide +kernel
theorem dX12_walks_13 : decode cX12_walks 13 = .ok (.sipush 405, 3) := by decide +kernel
theorem dX12_walks_16 : decode cX12_walks 16 = .ok (.if_icmp .ge 23, 3) := by decide +kernel
theorem dX12_walks_19 : decode cX12_walks 19 = .ok (.aload_n 0, 1) := by decide +kernel
theorem dX12_walks_20 : decode cX12_walks 20 = .ok (.getfield 61, 3) := by decide +kernel
theorem dX12_walks_23 : decode cX12_walks 23 = .ok (.iload_n 3, 1) := by decide +kernel
theorem dX12_walks_24 : decode cX12_walks 24 = .ok (.iconst 0, 1) := by decide +kernel
theorem dX12_walks_25 : decode cX12_walks 25 = .ok (.bastore, 1) := by decide +kernel
theorem dX12_walks_26 : decode cX12_walks 26 = .ok (.aload_n 0, 1) := by decide +kernel
theorem dX12_walks_27 : decode cX12_walks 27 = .ok (.getfield 55, 3) := by decide +kernel
theorem dX12_walks_30 : decode cX12_walks 30 = .ok (.iload_n 3, 1) := by decide +kernel
theorem dX12_walks_31 : decode cX12_walks 31 = .ok (.iconst 0, 1) := by decide +kernel
theorem dX12_walks_32 : decode cX12_walks 32 = .ok (.iastore, 1) := by decide +kernel
theorem dX12_walks_33 : decode cX12_walks 33 = .ok (.iinc 3 1, 3) := by decide +kernel
theorem dX12_walks_36 : decode cX12_walks 36 = .ok (.goto (-24), 3) := by decide +kernel
theorem dX12_walks_39 : decode cX12_walks 39 = .ok (.iconst 0, 1) := by decide +kernel
theorem dX12_walks_40 : decode cX12_walks 40 = .ok (.istore_n 3, 1) := by decide +kernel
theorem dX12_walks_41 : decode cX12_walks 41 = .ok (.iload_n 3, 1) := by decide +kernel
theorem dX12_walks_42 : decode cX12_walks 42 = .ok (.sipush 405, 3) := by decide +kernel
theorem dX12_walks_45 : decode cX12_walks 45 = .ok (.if_icmp .ge 42, 3) := by decide +kernel
theorem dX12_walks_48 : decode cX12_walks 48 = .ok (.aload_n 0, 1) := by decide +kernel
theorem dX12_walks_49 : decode cX12_walks 49 = .ok (.getfield 58, 3) := by decide +kernel
theorem dX12_walks_52 : decode cX12_walks 52 = .ok (.iload_n 3, 1) := by decide +kernel
theorem dX12_walks_53 : decode cX12_walks 53 = .ok (.baload, 1) := by decide +kernel
theorem dX12_walks_54 : decode cX12_walks 54 = .ok (.ifCond .eq 27, 3) := by decide +kernel
theorem dX12_walks_57 : decode cX12_walks 57 = .ok (.iconst 0, 1) := by decide +kernel
theorem dX12_walks_58 : decode cX12_walks 58 = .ok (.istore 4, 2) := by decide +kernel
theorem dX12_walks_60 : decode cX12_walks 60 = .ok (.iload 4, 2) := by decide +kernel
theorem dX12_walks_62 : decode cX12_walks 62 = .ok (.iconst 4, 1) := by decide +kernel
theorem dX12_walks_63 : decode cX12_walks 63 = .ok (.if_icmp .ge 18, 3) := by decide +kernel
theorem dX12_walks_66 : decode cX12_walks 66 = .ok (.aload_n 0, 1) := by decide +kernel
theorem dX12_walks_67 : decode cX12_walks 67 = .ok (.iload_n 1, 1) := by decide +kernel
theorem dX12_walks_68 : decode cX12_walks 68 = .ok (.iload_n 3, 1) := by decide +kernel
theorem dX12_walks_69 : decode cX12_walks 69 = .ok (.iload_n 2, 1) := by decide +kernel
theorem dX12_walks_70 : decode cX12_walks 70 = .ok (.iload 4, 2) := by decide +kernel
theorem dX12_walks_72 : decode cX12_walks 72 = .ok (.invokevirtual 401, 3) := by decide +kernel
theorem dX12_walks_75 : decode cX12_walks 75 = .ok (.iinc 4 1, 3) := by decide +kernel
theorem dX12_walks_78 : decode cX12_walks 78 = .ok (.goto (-18), 3) := by decide +kernel
theorem dX12_walks_81 : decode cX12_walks 81 = .ok (.iinc 3 1, 3) := by decide +kernel
theorem dX12_walks_84 : decode cX12_walks 84 = .ok (.goto (-43), 3) := by decide +kernel
theorem dX12_walks_87 : decode cX12_walks 87 = .ok (.iconst 0, 1) := by decide +kernel
theorem dX12_walks_88 : decode cX12_walks 88 = .ok (.istore_n 3, 1) := by decide +kernel
theorem dX12_walks_89 : decode cX12_walks 89 = .ok (.iload_n 3, 1) := by decide +kernel
theorem dX12_walks_90 : decode cX12_walks 90 = .ok (.sipush 405, 3) := by decide +kernel
theorem dX12_walks_93 : decode cX12_walks 93 = .ok (.if_icmp .ge 33, 3) := by decide +kernel
theorem dX12_walks_96 : decode cX12_walks 96 = .ok (.aload_n 0, 1) := by decide +kernel
theorem dX12_walks_97 : decode cX12_walks 97 = .ok (.getfield 58, 3) := by decide +kernel
theorem dX12_walks_100 : decode cX12_walks 100 = .ok (.iload_n 3, 1) := by decide +kernel
theorem dX12_walks_101 : decode cX12_walks 101 = .ok (.aload_n 0, 1) := by decide +kernel
theorem dX12_walks_102 : decode cX12_walks 102 = .ok (.getfield 61, 3) := by decide +kernel
theorem dX12_walks_105 : decode cX12_walks 105 = .ok (.iload_n 3, 1) := by decide +kernel
theorem dX12_walks_106 : decode cX12_walks 106 = .ok (.baload, 1) := by decide +kernel
theorem dX12_walks_107 : decode cX12_walks 107 = .ok (.bastore, 1) := by decide +kernel
theorem dX12_walks_108 : decode cX12_walks 108 = .ok (.aload_n 0, 1) := by decide +kernel
theorem dX12_walks_109 : decode cX12_walks 109 = .ok (.getfield 52, 3) := by decide +kernel
theorem dX12_walks_112 : decode cX12_walks 112 = .ok (.iload_n 3, 1) := by decide +kernel
theorem dX12_walks_113 : decode cX12_walks 113 = .ok (.aload_n 0, 1) := by decide +kernel
theorem dX12_walks_114 : decode cX12_walks 114 = .ok (.getfield 55, 3) := by decide +kernel
theorem dX12_walks_117 : decode cX12_walks 117 = .ok (.iload_n 3, 1) := by decide +kernel
theorem dX12_walks_118 : decode cX12_walks 118 = .ok (.iaload, 1) := by decide +kernel
theorem dX12_walks_119 : decode cX12_walks 119 = .ok (.iastore, 1) := by decide +kernel
theorem dX12_walks_120 : decode cX12_walks 120 = .ok (.iinc 3 1, 3) := by decide +kernel
theorem dX12_walks_123 : decode cX12_walks 123 = .ok (.goto (-34), 3) := by decide +kernel
theorem dX12_walks_126 : decode cX12_walks 126 = .ok (.return_, 1) := by decide +kernel
theorem dX12_walksOn_0 : decode cX12_walksOn 0 = .ok (.iload_n 2, 1) := by decide +kernel
theorem dX12_walksOn_1 : decode cX12_walksOn 1 = .ok (.iconst 5, 1) := by decide +kernel
theorem dX12_walksOn_2 : decode cX12_walksOn 2 = .ok (.idiv, 1) := by decide +kernel
theorem dX12_walksOn_3 : decode cX12_walksOn 3 = .ok (.istore 5, 2) := by decide +kernel
theorem dX12_walksOn_5 : decode cX12_walksOn 5 = .ok (.iload 5, 2) := by decide +kernel
theorem dX12_walksOn_7 : decode cX12_walksOn 7 = .ok (.bipush 9, 2) := by decide +kernel
theorem dX12_walksOn_9 : decode cX12_walksOn 9 = .ok (.irem, 1) := by decide +kernel
theorem dX12_walksOn_10 : decode cX12_walksOn 10 = .ok (.istore 6, 2) := by decide +kernel
theorem dX12_walksOn_12 : decode cX12_walksOn 12 = .ok (.iload 5, 2) := by decide +kernel
theorem dX12_walksOn_14 : decode cX12_walksOn 14 = .ok (.bipush 9, 2) := by decide +kernel
theorem dX12_walksOn_16 : decode cX12_walksOn 16 = .ok (.idiv, 1) := by decide +kernel
theorem dX12_walksOn_17 : decode cX12_walksOn 17 = .ok (.istore 7, 2) := by decide +kernel
theorem dX12_walksOn_19 : decode cX12_walksOn 19 = .ok (.iload_n 2, 1) := by decide +kernel
theorem dX12_walksOn_20 : decode cX12_walksOn 20 = .ok (.iconst 5, 1) := by decide +kernel
theorem dX12_walksOn_21 : decode cX12_walksOn 21 = .ok (.irem, 1) := by decide +kernel
theorem dX12_walksOn_22 : decode cX12_walksOn 22 = .ok (.iconst 4, 1) := by decide +kernel
theorem dX12_walksOn_23 : decode cX12_walksOn 23 = .ok (.if_icmp .ne 7, 3) := by decide +kernel
theorem dX12_walksOn_26 : decode cX12_walksOn 26 = .ok (.iconst (-1), 1) := by decide +kernel
theorem dX12_walksOn_27 : decode cX12_walksOn 27 = .ok (.goto 6, 3) := by decide +kernel
theorem dX12_walksOn_30 : decode cX12_walksOn 30 = .ok (.iload_n 2, 1) := by decide +kernel
theorem dX12_walksOn_31 : decode cX12_walksOn 31 = .ok (.iconst 5, 1) := by decide +kernel
theorem dX12_walksOn_32 : decode cX12_walksOn 32 = .ok (.irem, 1) := by decide +kernel
theorem dX12_walksOn_33 : decode cX12_walksOn 33 = .ok (.istore 8, 2) := by decide +kernel
theorem dX12_walksOn_35 : decode cX12_walksOn 35 = .ok (.aload_n 0, 1) := by decide +kernel
theorem dX12_walksOn_36 : decode cX12_walksOn 36 = .ok (.iload 6, 2) := by decide +kernel
theorem dX12_walksOn_38 : decode cX12_walksOn 38 = .ok (.iload 7, 2) := by decide +kernel
theorem dX12_walksOn_40 : decode cX12_walksOn 40 = .ok (.iload 4, 2) := by decide +kernel
theorem dX12_walksOn_42 : decode cX12_walksOn 42 = .ok (.invokevirtual 210, 3) := by decide +kernel
theorem dX12_walksOn_45 : decode cX12_walksOn 45 = .ok (.ifCond .ne 19, 3) := by decide +kernel
theorem dX12_walksOn_48 : decode cX12_walksOn 48 = .ok (.aload_n 0, 1) := by decide +kernel
theorem dX12_walksOn_49 : decode cX12_walksOn 49 = .ok (.iload 6, 2) := by decide +kernel
theorem dX12_walksOn_51 : decode cX12_walksOn 51 = .ok (.iload 7, 2) := by decide +kernel
theorem dX12_walksOn_53 : decode cX12_walksOn 53 = .ok (.iload 8, 2) := by decide +kernel
theorem dX12_walksOn_55 : decode cX12_walksOn 55 = .ok (.iload_n 3, 1) := by decide +kernel
theorem dX12_walksOn_56 : decode cX12_walksOn 56 = .ok (.iload 4, 2) := by decide +kernel
theorem dX12_walksOn_58 : decode cX12_walksOn 58 = .ok (.invokevirtual 372, 3) := by decide +kernel
theorem dX12_walksOn_61 : decode cX12_walksOn 61 = .ok (.ifCond .eq 4, 3) := by decide +kernel
theorem dX12_walksOn_64 : decode cX12_walksOn 64 = .ok (.return_, 1) := by decide +kernel
theorem dX12_walksOn_65 : decode cX12_walksOn 65 = .ok (.aload_n 0, 1) := by decide +kernel
theorem dX12_walksOn_66 : decode cX12_walksOn 66 = .ok (.iload 6, 2) := by decide +kernel
theorem dX12_walksOn_68 : decode cX12_walksOn 68 = .ok (.iload 4, 2) := by decide +kernel
theorem dX12_walksOn_70 : decode cX12_walksOn 70 = .ok (.invokestatic 181, 3) := by decide +kernel
theorem dX12_walksOn_73 : decode cX12_walksOn 73 = .ok (.iadd, 1) := by decide +kernel
theorem dX12_walksOn_74 : decode cX12_walksOn 74 = .ok (.iload 7, 2) := by decide +kernel
theorem dX12_walksOn_76 : decode cX12_walksOn 76 = .ok (.iload 4, 2) := by decide +kernel
theorem dX12_walksOn_78 : decode cX12_walksOn 78 = .ok (.invokestatic 184, 3) := by decide +kernel
theorem dX12_walksOn_81 : decode cX12_walksOn 81 = .ok (.iadd, 1) := by decide +kernel
theorem dX12_walksOn_82 : decode cX12_walksOn 82 = .ok (.aload_n 0, 1) := by decide +kernel
theorem dX12_walksOn_83 : decode cX12_walksOn 83 = .ok (.iload_n 1, 1) := by decide +kernel
theorem dX12_walksOn_84 : decode cX12_walksOn 84 = .ok (.iconst 2, 1) := by decide +kernel
theorem dX12_walksOn_85 : decode cX12_walksOn 85 = .ok (.invokevirtual 174, 3) := by decide +kernel
theorem dX12_walksOn_88 : decode cX12_walksOn 88 = .ok (.invokevirtual 199, 3) := by decide +kernel
theorem dX12_walksOn_91 : decode cX12_walksOn 91 = .ok (.ifCond .eq 28, 3) := by decide +kernel
theorem dX12_walksOn_94 : decode cX12_walksOn 94 = .ok (.aload_n 0, 1) := by decide +kernel
theorem dX12_walksOn_95 : decode cX12_walksOn 95 = .ok (.iconst 1, 1) := by decide +kernel
theorem dX12_walksOn_96 : decode cX12_walksOn 96 = .ok (.putfield 398, 3) := by decide +kernel
theorem dX12_walksOn_99 : decode cX12_walksOn 99 = .ok (.aload_n 0, 1) := by decide +kernel
theorem dX12_walksOn_100 : decode cX12_walksOn 100 = .ok (.aload_n 0, 1) := by decide +kernel
theorem dX12_walksOn_101 : decode cX12_walksOn 101 = .ok (.getfield 395, 3) := by decide +kernel
theorem dX12_walksOn_104 : decode cX12_walksOn 104 = .ok (.aload_n 0, 1) := by decide +kernel
theorem dX12_walksOn_105 : decode cX12_walksOn 105 = .ok (.getfield 52, 3) := by decide +kernel
theorem dX12_walksOn_108 : decode cX12_walksOn 108 = .ok (.iload_n 2, 1) := by decide +kernel
theorem dX12_walksOn_109 : decode cX12_walksOn 109 = .ok (.iaload, 1) := by decide +kernel
theorem dX12_walksOn_110 : decode cX12_walksOn 110 = .ok (.iadd, 1) := by decide +kernel
theorem dX12_walksOn_111 : decode cX12_walksOn 111 = .ok (.ldc_w 388, 3) := by decide +kernel
theorem dX12_walksOn_114 : decode cX12_walksOn 114 = .ok (.irem, 1) := by decide +kernel
theorem dX12_walksOn_115 : decode cX12_walksOn 115 = .ok (.putfield 395, 3) := by decide +kernel
theorem dX12_walksOn_118 : decode cX12_walksOn 118 = .ok (.return_, 1) := by decide +kernel
theorem dX12_walksOn_119 : decode cX12_walksOn 119 = .ok (.iconst 5, 1) := by decide +kernel
theorem dX12_walksOn_120 : decode cX12_walksOn 120 = .ok (.iload 5, 2) := by decide +kernel
theorem dX12_walksOn_122 : decode cX12_walksOn 122 = .ok (.bipush 9, 2) := by decide +kernel
theorem dX12_walksOn_124 : decode cX12_walksOn 124 = .ok (.iload 4, 2) := by decide +kernel
theorem dX12_walksOn_126 : decode cX12_walksOn 126 = .ok (.invokestatic 184, 3) := by decide +kernel
theorem dX12_walksOn_129 : decode cX12_walksOn 129 = .ok (.imul, 1) := by decide +kernel
theorem dX12_walksOn_130 : decode cX12_walksOn 130 = .ok (.iadd, 1) := by decide +kernel
theorem dX12_walksOn_131 : decode cX12_walksOn 131 = .ok (.iload 4, 2) := by decide +kernel
theorem dX12_walksOn_133 : decode cX12_walksOn 133 = .ok (.invokestatic 181, 3) := by decide +kernel
theorem dX12_walksOn_136 : decode cX12_walksOn 136 = .ok (.iadd, 1) := by decide +kernel
theorem dX12_walksOn_137 : decode cX12_walksOn 137 = .ok (.imul, 1) := by decide +kernel
theorem dX12_walksOn_138 : decode cX12_walksOn 138 = .ok (.iload 4, 2) := by decide +kernel
theorem dX12_walksOn_140 : decode cX12_walksOn 140 = .ok (.iadd, 1) := by decide +kernel
theorem dX12_walksOn_141 : decode cX12_walksOn 141 = .ok (.istore 9, 2) := by decide +kernel
theorem dX12_walksOn_143 : decode cX12_walksOn 143 = .ok (.aload_n 0, 1) := by decide +kernel
theorem dX12_walksOn_144 : decode cX12_walksOn 144 = .ok (.getfield 61, 3) := by decide +kernel
theorem dX12_walksOn_147 : decode cX12_walksOn 147 = .ok (.iload 9, 2) := by decide +kernel
theorem dX12_walksOn_149 : decode cX12_walksOn 149 = .ok (.iconst 1, 1) := by decide +kernel
theorem dX12_walksOn_150 : decode cX12_walksOn 150 = .ok (.bastore, 1) := by decide +kernel
theorem dX12_walksOn_151 : decode cX12_walksOn 151 = .ok (.aload_n 0, 1) := by decide +kernel
theorem dX12_walksOn_152 : decode cX12_walksOn 152 = .ok (.getfield 55, 3) := by decide +kernel
theorem dX12_walksOn_155 : decode cX12_walksOn 155 = .ok (.iload 9, 2) := by decide +kernel
theorem dX12_walksOn_157 : decode cX12_walksOn 157 = .ok (.aload_n 0, 1) := by decide +kernel
theorem dX12_walksOn_158 : decode cX12_walksOn 158 = .ok (.getfield 55, 3) := by decide +kernel
theorem dX12_walksOn_161 : decode cX12_walksOn 161 = .ok (.iload 9, 2) := by decide +kernel
theorem dX12_walksOn_163 : decode cX12_walksOn 163 = .ok (.iaload, 1) := by decide +kernel
theorem dX12_walksOn_164 : decode cX12_walksOn 164 = .ok (.aload_n 0, 1) := by decide +kernel
theorem dX12_walksOn_165 : decode cX12_walksOn 165 = .ok (.getfield 52, 3) := by decide +kernel
theorem dX12_walksOn_168 : decode cX12_walksOn 168 = .ok (.iload_n 2, 1) := by decide +kernel
theorem dX12_walksOn_169 : decode cX12_walksOn 169 = .ok (.iaload, 1) := by decide +kernel
theorem dX12_walksOn_170 : decode cX12_walksOn 170 = .ok (.iadd, 1) := by decide +kernel
theorem dX12_walksOn_171 : decode cX12_walksOn 171 = .ok (.ldc_w 388, 3) := by decide +kernel
theorem dX12_walksOn_174 : decode cX12_walksOn 174 = .ok (.irem, 1) := by decide +kernel
theorem dX12_walksOn_175 : decode cX12_walksOn 175 = .ok (.iastore, 1) := by decide +kernel
theorem dX12_walksOn_176 : decode cX12_walksOn 176 = .ok (.return_, 1) := by decide +kernel
theorem dX12_leastWithBans_0 : decode cX12_leastWithBans 0 = .ok (.aload_n 0, 1) := by decide +kernel
theorem dX12_leastWithBans_1 : decode cX12_leastWithBans 1 = .ok (.iload_n 1, 1) := by decide +kernel
theorem dX12_leastWithBans_2 : decode cX12_leastWithBans 2 = .ok (.invokevirtual 213, 3) := by decide +kernel
theorem dX12_leastWithBans_5 : decode cX12_leastWithBans 5 = .ok (.ifCond .eq 5, 3) := by decide +kernel
theorem dX12_leastWithBans_8 : decode cX12_leastWithBans 8 = .ok (.iconst 0, 1) := by decide +kernel
theorem dX12_leastWithBans_9 : decode cX12_leastWithBans 9 = .ok (.ireturn, 1) := by decide +kernel
theorem dX12_leastWithBans_10 : decode cX12_leastWithBans 10 = .ok (.aload_n 0, 1) := by decide +kernel
theorem dX12_leastWithBans_11 : decode cX12_leastWithBans 11 = .ok (.iload_n 1, 1) := by decide +kernel
theorem dX12_leastWithBans_12 : decode cX12_leastWithBans 12 = .ok (.invokevirtual 405, 3) := by decide +kernel
theorem dX12_leastWithBans_15 : decode cX12_leastWithBans 15 = .ok (.iconst 1, 1) := by decide +kernel
theorem dX12_leastWithBans_16 : decode cX12_leastWithBans 16 = .ok (.istore_n 2, 1) := by decide +kernel
theorem dX12_leastWithBans_17 : decode cX12_leastWithBans 17 = .ok (.iload_n 2, 1) := by decide +kernel
theorem dX12_leastWithBans_18 : decode cX12_leastWithBans 18 = .ok (.sipush 200, 3) := by decide +kernel
theorem dX12_leastWithBans_21 : decode cX12_leastWithBans 21 = .ok (.if_icmp .gt 33, 3) := by decide +kernel
theorem dX12_leastWithBans_24 : decode cX12_leastWithBans 24 = .ok (.aload_n 0, 1) := by decide +kernel
theorem dX12_leastWithBans_25 : decode cX12_leastWithBans 25 = .ok (.iload_n 1, 1) := by decide +kernel
theorem dX12_leastWithBans_26 : decode cX12_leastWithBans 26 = .ok (.aload_n 0, 1) := by decide +kernel
theorem dX12_leastWithBans_27 : decode cX12_leastWithBans 27 = .ok (.iload_n 1, 1) := by decide +kernel
theorem dX12_leastWithBans_28 : decode cX12_leastWithBans 28 = .ok (.iconst 4, 1) := by decide +kernel
theorem dX12_leastWithBans_29 : decode cX12_leastWithBans 29 = .ok (.invokevirtual 174, 3) := by decide +kernel
theorem dX12_leastWithBans_32 : decode cX12_leastWithBans 32 = .ok (.iload_n 2, 1) := by decide +kernel
theorem dX12_leastWithBans_33 : decode cX12_leastWithBans 33 = .ok (.iadd, 1) := by decide +kernel
theorem dX12_leastWithBans_34 : decode cX12_leastWithBans 34 = .ok (.iconst 1, 1) := by decide +kernel
theorem dX12_leastWithBans_35 : decode cX12_leastWithBans 35 = .ok (.isub, 1) := by decide +kernel
theorem dX12_leastWithBans_36 : decode cX12_leastWithBans 36 = .ok (.invokevirtual 408, 3) := by decide +kernel
theorem dX12_leastWithBans_39 : decode cX12_leastWithBans 39 = .ok (.aload_n 0, 1) := by decide +kernel
theorem dX12_leastWithBans_40 : decode cX12_leastWithBans 40 = .ok (.getfield 398, 3) := by decide +kernel
theorem dX12_leastWithBans_43 : decode cX12_leastWithBans 43 = .ok (.ifCond .eq 5, 3) := by decide +kernel
theorem dX12_leastWithBans_46 : decode cX12_leastWithBans 46 = .ok (.iload_n 2, 1) := by decide +kernel
theorem dX12_leastWithBans_47 : decode cX12_leastWithBans 47 = .ok (.ireturn, 1) := by decide +kernel
theorem dX12_leastWithBans_48 : decode cX12_leastWithBans 48 = .ok (.iinc 2 1, 3) := by decide +kernel
theorem dX12_leastWithBans_51 : decode cX12_leastWithBans 51 = .ok (.goto (-34), 3) := by decide +kernel
theorem dX12_leastWithBans_54 : decode cX12_leastWithBans 54 = .ok (.iconst (-1), 1) := by decide +kernel
theorem dX12_leastWithBans_55 : decode cX12_leastWithBans 55 = .ok (.ireturn, 1) := by decide +kernel
theorem dX12_stepsWithBans_0 : decode cX12_stepsWithBans 0 = .ok (.aload_n 0, 1) := by decide +kernel
theorem dX12_stepsWithBans_1 : decode cX12_stepsWithBans 1 = .ok (.aload_n 0, 1) := by decide +kernel
theorem dX12_stepsWithBans_2 : decode cX12_stepsWithBans 2 = .ok (.iload_n 1, 1) := by decide +kernel
theorem dX12_stepsWithBans_3 : decode cX12_stepsWithBans 3 = .ok (.invokevirtual 339, 3) := by decide +kernel
theorem dX12_stepsWithBans_6 : decode cX12_stepsWithBans 6 = .ok (.invokevirtual 98, 3) := by decide +kernel
theorem dX12_stepsWithBans_9 : decode cX12_stepsWithBans 9 = .ok (.ifCond .eq 11, 3) := by decide +kernel
theorem dX12_stepsWithBans_12 : decode cX12_stepsWithBans 12 = .ok (.aload_n 0, 1) := by decide +kernel
theorem dX12_stepsWithBans_13 : decode cX12_stepsWithBans 13 = .ok (.iload_n 1, 1) := by decide +kernel
theorem dX12_stepsWithBans_14 : decode cX12_stepsWithBans 14 = .ok (.invokevirtual 412, 3) := by decide +kernel
theorem dX12_stepsWithBans_17 : decode cX12_stepsWithBans 17 = .ok (.goto 4, 3) := by decide +kernel
theorem dX12_stepsWithBans_20 : decode cX12_stepsWithBans 20 = .ok (.iconst 0, 1) := by decide +kernel
theorem dX12_stepsWithBans_21 : decode cX12_stepsWithBans 21 = .ok (.ireturn, 1) := by decide +kernel
theorem dX12_waysWithBans_0 : decode cX12_waysWithBans 0 = .ok (.aload_n 0, 1) := by decide +kernel
theorem dX12_waysWithBans_1 : decode cX12_waysWithBans 1 = .ok (.aload_n 0, 1) := by decide +kernel
theorem dX12_waysWithBans_2 : decode cX12_waysWithBans 2 = .ok (.iload_n 1, 1) := by decide +kernel
theorem dX12_waysWithBans_3 : decode cX12_waysWithBans 3 = .ok (.invokevirtual 339, 3) := by decide +kernel
theorem dX12_waysWithBans_6 : decode cX12_waysWithBans 6 = .ok (.iload_n 2, 1) := by decide +kernel
theorem dX12_waysWithBans_7 : decode cX12_waysWithBans 7 = .ok (.i2l, 1) := by decide +kernel
theorem dX12_waysWithBans_8 : decode cX12_waysWithBans 8 = .ok (.lconst 0, 1) := by decide +kernel
theorem dX12_waysWithBans_9 : decode cX12_waysWithBans 9 = .ok (.ldc2_w 415, 3) := by decide +kernel
theorem dX12_waysWithBans_12 : decode cX12_waysWithBans 12 = .ok (.invokestatic 106, 3) := by decide +kernel
theorem dX12_waysWithBans_15 : decode cX12_waysWithBans 15 = .ok (.invokevirtual 344, 3) := by decide +kernel
theorem dX12_waysWithBans_18 : decode cX12_waysWithBans 18 = .ok (.ifCond .ne 5, 3) := by decide +kernel
theorem dX12_waysWithBans_21 : decode cX12_waysWithBans 21 = .ok (.iconst 0, 1) := by decide +kernel
theorem dX12_waysWithBans_22 : decode cX12_waysWithBans 22 = .ok (.ireturn, 1) := by decide +kernel
theorem dX12_waysWithBans_23 : decode cX12_waysWithBans 23 = .ok (.aload_n 0, 1) := by decide +kernel
theorem dX12_waysWithBans_24 : decode cX12_waysWithBans 24 = .ok (.iload_n 1, 1) := by decide +kernel
theorem dX12_waysWithBans_25 : decode cX12_waysWithBans 25 = .ok (.invokevirtual 213, 3) := by decide +kernel
theorem dX12_waysWithBans_28 : decode cX12_waysWithBans 28 = .ok (.ifCond .eq 16, 3) := by decide +kernel
theorem dX12_waysWithBans_31 : decode cX12_waysWithBans 31 = .ok (.iload_n 2, 1) := by decide +kernel
theorem dX12_waysWithBans_32 : decode cX12_waysWithBans 32 = .ok (.ifCond .ne 7, 3) := by decide +kernel
theorem dX12_waysWithBans_35 : decode cX12_waysWithBans 35 = .ok (.iconst 1, 1) := by decide +kernel
theorem dX12_waysWithBans_36 : decode cX12_waysWithBans 36 = .ok (.goto 4, 3) := by decide +kernel
theorem dX12_waysWithBans_39 : decode cX12_waysWithBans 39 = .ok (.iconst 0, 1) := by decide +kernel
theorem dX12_waysWithBans_40 : decode cX12_waysWithBans 40 = .ok (.invokestatic 91, 3) := by decide +kernel
theorem dX12_waysWithBans_43 : decode cX12_waysWithBans 43 = .ok (.ireturn, 1) := by decide +kernel
theorem dX12_waysWithBans_44 : decode cX12_waysWithBans 44 = .ok (.aload_n 0, 1) := by decide +kernel
theorem dX12_waysWithBans_45 : decode cX12_waysWithBans 45 = .ok (.iload_n 1, 1) := by decide +kernel
theorem dX12_waysWithBans_46 : decode cX12_waysWithBans 46 = .ok (.invokevirtual 405, 3) := by decide +kernel
theorem dX12_waysWithBans_49 : decode cX12_waysWithBans 49 = .ok (.aload_n 0, 1) := by decide +kernel
theorem dX12_waysWithBans_50 : decode cX12_waysWithBans 50 = .ok (.iconst 0, 1) := by decide +kernel
theorem dX12_waysWithBans_51 : decode cX12_waysWithBans 51 = .ok (.putfield 395, 3) := by decide +kernel
theorem dX12_waysWithBans_54 : decode cX12_waysWithBans 54 = .ok (.iconst 0, 1) := by decide +kernel
theorem dX12_waysWithBans_55 : decode cX12_waysWithBans 55 = .ok (.istore_n 3, 1) := by decide +kernel
theorem dX12_waysWithBans_56 : decode cX12_waysWithBans 56 = .ok (.iload_n 3, 1) := by decide +kernel
theorem dX12_waysWithBans_57 : decode cX12_waysWithBans 57 = .ok (.iload_n 2, 1) := by decide +kernel
theorem dX12_waysWithBans_58 : decode cX12_waysWithBans 58 = .ok (.if_icmp .ge 22, 3) := by decide +kernel
theorem dX12_waysWithBans_61 : decode cX12_waysWithBans 61 = .ok (.aload_n 0, 1) := by decide +kernel
theorem dX12_waysWithBans_62 : decode cX12_waysWithBans 62 = .ok (.iload_n 1, 1) := by decide +kernel
theorem dX12_waysWithBans_63 : decode cX12_waysWithBans 63 = .ok (.aload_n 0, 1) := by decide +kernel
theorem dX12_waysWithBans_64 : decode cX12_waysWithBans 64 = .ok (.iload_n 1, 1) := by decide +kernel
theorem dX12_waysWithBans_65 : decode cX12_waysWithBans 65 = .ok (.iconst 4, 1) := by decide +kernel
theorem dX12_waysWithBans_66 : decode cX12_waysWithBans 66 = .ok (.invokevirtual 174, 3) := by decide +kernel
theorem dX12_waysWithBans_69 : decode cX12_waysWithBans 69 = .ok (.iload_n 3, 1) := by decide +kernel
theorem dX12_waysWithBans_70 : decode cX12_waysWithBans 70 = .ok (.iadd, 1) := by decide +kernel
theorem dX12_waysWithBans_71 : decode cX12_waysWithBans 71 = .ok (.invokevirtual 408, 3) := by decide +kernel
theorem dX12_waysWithBans_74 : decode cX12_waysWithBans 74 = .ok (.iinc 3 1, 3) := by decide +kernel
theorem dX12_waysWithBans_77 : decode cX12_waysWithBans 77 = .ok (.goto (-21), 3) := by decide +kernel
theorem dX12_waysWithBans_80 : decode cX12_waysWithBans 80 = .ok (.aload_n 0, 1) := by decide +kernel
theorem dX12_waysWithBans_81 : decode cX12_waysWithBans 81 = .ok (.getfield 395, 3) := by decide +kernel
theorem dX12_waysWithBans_84 : decode cX12_waysWithBans 84 = .ok (.ireturn, 1) := by decide +kernel
theorem dX12_detour_0 : decode cX12_detour 0 = .ok (.aload_n 0, 1) := by decide +kernel
theorem dX12_detour_1 : decode cX12_detour 1 = .ok (.aload_n 0, 1) := by decide +kernel
theorem dX12_detour_2 : decode cX12_detour 2 = .ok (.iload_n 1, 1) := by decide +kernel
theorem dX12_detour_3 : decode cX12_detour 3 = .ok (.invokevirtual 339, 3) := by decide +kernel
theorem dX12_detour_6 : decode cX12_detour 6 = .ok (.invokevirtual 98, 3) := by decide +kernel
theorem dX12_detour_9 : decode cX12_detour 9 = .ok (.ifCond .ne 5, 3) := by decide +kernel
theorem dX12_detour_12 : decode cX12_detour 12 = .ok (.iconst 0, 1) := by decide +kernel
theorem dX12_detour_13 : decode cX12_detour 13 = .ok (.ireturn, 1) := by decide +kernel
theorem dX12_detour_14 : decode cX12_detour 14 = .ok (.aload_n 0, 1) := by decide +kernel
theorem dX12_detour_15 : decode cX12_detour 15 = .ok (.iload_n 1, 1) := by decide +kernel
theorem dX12_detour_16 : decode cX12_detour 16 = .ok (.invokevirtual 412, 3) := by decide +kernel
theorem dX12_detour_19 : decode cX12_detour 19 = .ok (.istore_n 2, 1) := by decide +kernel
theorem dX12_detour_20 : decode cX12_detour 20 = .ok (.iload_n 2, 1) := by decide +kernel
theorem dX12_detour_21 : decode cX12_detour 21 = .ok (.iconst (-1), 1) := by decide +kernel
theorem dX12_detour_22 : decode cX12_detour 22 = .ok (.if_icmp .ne 7, 3) := by decide +kernel
theorem dX12_detour_25 : decode cX12_detour 25 = .ok (.iconst (-1), 1) := by decide +kernel
theorem dX12_detour_26 : decode cX12_detour 26 = .ok (.goto 10, 3) := by decide +kernel
theorem dX12_detour_29 : decode cX12_detour 29 = .ok (.iload_n 2, 1) := by decide +kernel
theorem dX12_detour_30 : decode cX12_detour 30 = .ok (.aload_n 0, 1) := by decide +kernel
theorem dX12_detour_31 : decode cX12_detour 31 = .ok (.iload_n 1, 1) := by decide +kernel
theorem dX12_detour_32 : decode cX12_detour 32 = .ok (.invokevirtual 222, 3) := by decide +kernel
theorem dX12_detour_35 : decode cX12_detour 35 = .ok (.isub, 1) := by decide +kernel
theorem dX12_detour_36 : decode cX12_detour 36 = .ok (.ireturn, 1) := by decide +kernel
theorem dX12_nearest_0 : decode cX12_nearest 0 = .ok (.iconst (-1), 1) := by decide +kernel
theorem dX12_nearest_1 : decode cX12_nearest 1 = .ok (.istore_n 2, 1) := by decide +kernel
theorem dX12_nearest_2 : decode cX12_nearest 2 = .ok (.iconst 0, 1) := by decide +kernel
theorem dX12_nearest_3 : decode cX12_nearest 3 = .ok (.istore_n 3, 1) := by decide +kernel
theorem dX12_nearest_4 : decode cX12_nearest 4 = .ok (.iconst 0, 1) := by decide +kernel
theorem dX12_nearest_5 : decode cX12_nearest 5 = .ok (.istore 4, 2) := by decide +kernel
theorem dX12_nearest_7 : decode cX12_nearest 7 = .ok (.iload 4, 2) := by decide +kernel
theorem dX12_nearest_9 : decode cX12_nearest 9 = .ok (.aload_n 0, 1) := by decide +kernel
theorem dX12_nearest_10 : decode cX12_nearest 10 = .ok (.getfield 20, 3) := by decide +kernel
theorem dX12_nearest_13 : decode cX12_nearest 13 = .ok (.iconst 2, 1) := by decide +kernel
theorem dX12_nearest_14 : decode cX12_nearest 14 = .ok (.iaload, 1) := by decide +kernel
theorem dX12_nearest_15 : decode cX12_nearest 15 = .ok (.if_icmp .ge 55, 3) := by decide +kernel
theorem dX12_nearest_18 : decode cX12_nearest 18 = .ok (.iload 4, 2) := by decide +kernel
theorem dX12_nearest_20 : decode cX12_nearest 20 = .ok (.iload_n 1, 1) := by decide +kernel
theorem dX12_nearest_21 : decode cX12_nearest 21 = .ok (.if_icmp .eq 43, 3) := by decide +kernel
theorem dX12_nearest_24 : decode cX12_nearest 24 = .ok (.aload_n 0, 1) := by decide +kernel
theorem dX12_nearest_25 : decode cX12_nearest 25 = .ok (.iload 4, 2) := by decide +kernel
theorem dX12_nearest_27 : decode cX12_nearest 27 = .ok (.invokevirtual 213, 3) := by decide +kernel
theorem dX12_nearest_30 : decode cX12_nearest 30 = .ok (.ifCond .eq 6, 3) := by decide +kernel
theorem dX12_nearest_33 : decode cX12_nearest 33 = .ok (.goto 31, 3) := by decide +kernel
theorem dX12_nearest_36 : decode cX12_nearest 36 = .ok (.aload_n 0, 1) := by decide +kernel
theorem dX12_nearest_37 : decode cX12_nearest 37 = .ok (.iload 4, 2) := by decide +kernel
theorem dX12_nearest_39 : decode cX12_nearest 39 = .ok (.invokevirtual 222, 3) := by decide +kernel
theorem dX12_nearest_42 : decode cX12_nearest 42 = .ok (.istore 5, 2) := by decide +kernel
theorem dX12_nearest_44 : decode cX12_nearest 44 = .ok (.iload_n 2, 1) := by decide +kernel
theorem dX12_nearest_45 : decode cX12_nearest 45 = .ok (.iconst (-1), 1) := by decide +kernel
theorem dX12_nearest_46 : decode cX12_nearest 46 = .ok (.if_icmp .eq 12, 3) := by decide +kernel
theorem dX12_nearest_49 : decode cX12_nearest 49 = .ok (.iload 5, 2) := by decide +kernel
theorem dX12_nearest_51 : decode cX12_nearest 51 = .ok (.iload_n 3, 1) := by decide +kernel
theorem dX12_nearest_52 : decode cX12_nearest 52 = .ok (.if_icmp .lt 6, 3) := by decide +kernel
theorem dX12_nearest_55 : decode cX12_nearest 55 = .ok (.goto 9, 3) := by decide +kernel
theorem dX12_nearest_58 : decode cX12_nearest 58 = .ok (.iload 4, 2) := by decide +kernel
theorem dX12_nearest_60 : decode cX12_nearest 60 = .ok (.istore_n 2, 1) := by decide +kernel
theorem dX12_nearest_61 : decode cX12_nearest 61 = .ok (.iload 5, 2) := by decide +kernel
theorem dX12_nearest_63 : decode cX12_nearest 63 = .ok (.istore_n 3, 1) := by decide +kernel
theorem dX12_nearest_64 : decode cX12_nearest 64 = .ok (.iinc 4 1, 3) := by decide +kernel
theorem dX12_nearest_67 : decode cX12_nearest 67 = .ok (.goto (-60), 3) := by decide +kernel
theorem dX12_nearest_70 : decode cX12_nearest 70 = .ok (.iload_n 2, 1) := by decide +kernel
theorem dX12_nearest_71 : decode cX12_nearest 71 = .ok (.ireturn, 1) := by decide +kernel
theorem dX12_leader_0 : decode cX12_leader 0 = .ok (.aload_n 0, 1) := by decide +kernel
theorem dX12_leader_1 : decode cX12_leader 1 = .ok (.iconst 0, 1) := by decide +kernel
theorem dX12_leader_2 : decode cX12_leader 2 = .ok (.putfield 88, 3) := by decide +kernel
theorem dX12_leader_5 : decode cX12_leader 5 = .ok (.aload_n 0, 1) := by decide +kernel
theorem dX12_leader_6 : decode cX12_leader 6 = .ok (.iconst (-1), 1) := by decide +kernel
theorem dX12_leader_7 : decode cX12_leader 7 = .ok (.invokevirtual 417, 3) := by decide +kernel
theorem dX12_leader_10 : decode cX12_leader 10 = .ok (.ireturn, 1) := by decide +kernel
theorem dX12_advises_0 : decode cX12_advises 0 = .ok (.iconst (-1), 1) := by decide +kernel
theorem dX12_advises_1 : decode cX12_advises 1 = .ok (.istore_n 2, 1) := by decide +kernel
theorem dX12_advises_2 : decode cX12_advises 2 = .ok (.iconst 0, 1) := by decide +kernel
theorem dX12_advises_3 : decode cX12_advises 3 = .ok (.istore_n 3, 1) := by decide +kernel
theorem dX12_advises_4 : decode cX12_advises 4 = .ok (.aload_n 0, 1) := by decide +kernel
theorem dX12_advises_5 : decode cX12_advises 5 = .ok (.aload_n 0, 1) := by decide +kernel
theorem dX12_advises_6 : decode cX12_advises 6 = .ok (.iload_n 1, 1) := by decide +kernel
theorem dX12_advises_7 : decode cX12_advises 7 = .ok (.iconst 2, 1) := by decide +kernel
theorem dX12_advises_8 : decode cX12_advises 8 = .ok (.invokevirtual 174, 3) := by decide +kernel
theorem dX12_advises_11 : decode cX12_advises 11 = .ok (.invokevirtual 216, 3) := by decide +kernel
theorem dX12_advises_14 : decode cX12_advises 14 = .ok (.iconst 0, 1) := by decide +kernel
theorem dX12_advises_15 : decode cX12_advises 15 = .ok (.istore 4, 2) := by decide +kernel
theorem dX12_advises_17 : decode cX12_advises 17 = .ok (.iload 4, 2) := by decide +kernel
theorem dX12_advises_19 : decode cX12_advises 19 = .ok (.iconst 4, 1) := by decide +kernel
theorem dX12_advises_20 : decode cX12_advises 20 = .ok (.if_icmp .ge 76, 3) := by decide +kernel
theorem dX12_advises_23 : decode cX12_advises 23 = .ok (.aload_n 0, 1) := by decide +kernel
theorem dX12_advises_24 : decode cX12_advises 24 = .ok (.iload_n 1, 1) := by decide +kernel
theorem dX12_advises_25 : decode cX12_advises 25 = .ok (.iload 4, 2) := by decide +kernel
theorem dX12_advises_27 : decode cX12_advises 27 = .ok (.invokevirtual 379, 3) := by decide +kernel
theorem dX12_advises_30 : decode cX12_advises 30 = .ok (.istore 5, 2) := by decide +kernel
theorem dX12_advises_32 : decode cX12_advises 32 = .ok (.iload 5, 2) := by decide +kernel
theorem dX12_advises_34 : decode cX12_advises 34 = .ok (.ifCond .ne 6, 3) := by decide +kernel
theorem dX12_advises_37 : decode cX12_advises 37 = .ok (.goto 53, 3) := by decide +kernel
theorem dX12_advises_40 : decode cX12_advises 40 = .ok (.aload_n 0, 1) := by decide +kernel
theorem dX12_advises_41 : decode cX12_advises 41 = .ok (.getfield 35, 3) := by decide +kernel
theorem dX12_advises_44 : decode cX12_advises 44 = .ok (.aload_n 0, 1) := by decide +kernel
theorem dX12_advises_45 : decode cX12_advises 45 = .ok (.iload_n 1, 1) := by decide +kernel
theorem dX12_advises_46 : decode cX12_advises 46 = .ok (.invokevirtual 219, 3) := by decide +kernel
theorem dX12_advises_49 : decode cX12_advises 49 = .ok (.iload 5, 2) := by decide +kernel
theorem dX12_advises_51 : decode cX12_advises 51 = .ok (.bipush 9, 2) := by decide +kernel
theorem dX12_advises_53 : decode cX12_advises 53 = .ok (.iload 4, 2) := by decide +kernel
theorem dX12_advises_55 : decode cX12_advises 55 = .ok (.invokestatic 184, 3) := by decide +kernel
theorem dX12_advises_58 : decode cX12_advises 58 = .ok (.imul, 1) := by decide +kernel
theorem dX12_advises_59 : decode cX12_advises 59 = .ok (.iload 4, 2) := by decide +kernel
theorem dX12_advises_61 : decode cX12_advises 61 = .ok (.invokestatic 181, 3) := by decide +kernel
theorem dX12_advises_64 : decode cX12_advises 64 = .ok (.iadd, 1) := by decide +kernel
theorem dX12_advises_65 : decode cX12_advises 65 = .ok (.imul, 1) := by decide +kernel
theorem dX12_advises_66 : decode cX12_advises 66 = .ok (.iadd, 1) := by decide +kernel
theorem dX12_advises_67 : decode cX12_advises 67 = .ok (.iaload, 1) := by decide +kernel
theorem dX12_advises_68 : decode cX12_advises 68 = .ok (.istore 6, 2) := by decide +kernel
theorem dX12_advises_70 : decode cX12_advises 70 = .ok (.iload_n 2, 1) := by decide +kernel
theorem dX12_advises_71 : decode cX12_advises 71 = .ok (.iconst (-1), 1) := by decide +kernel
theorem dX12_advises_72 : decode cX12_advises 72 = .ok (.if_icmp .eq 12, 3) := by decide +kernel
theorem dX12_advises_75 : decode cX12_advises 75 = .ok (.iload 6, 2) := by decide +kernel
theorem dX12_advises_77 : decode cX12_advises 77 = .ok (.iload_n 3, 1) := by decide +kernel
theorem dX12_advises_78 : decode cX12_advises 78 = .ok (.if_icmp .lt 6, 3) := by decide +kernel
theorem dX12_advises_81 : decode cX12_advises 81 = .ok (.goto 9, 3) := by decide +kernel
theorem dX12_advises_84 : decode cX12_advises 84 = .ok (.iload 4, 2) := by decide +kernel
theorem dX12_advises_86 : decode cX12_advises 86 = .ok (.istore_n 2, 1) := by decide +kernel
theorem dX12_advises_87 : decode cX12_advises 87 = .ok (.iload 6, 2) := by decide +kernel
theorem dX12_advises_89 : decode cX12_advises 89 = .ok (.istore_n 3, 1) := by decide +kernel
theorem dX12_advises_90 : decode cX12_advises 90 = .ok (.iinc 4 1, 3) := by decide +kernel
theorem dX12_advises_93 : decode cX12_advises 93 = .ok (.goto (-76), 3) := by decide +kernel
theorem dX12_advises_96 : decode cX12_advises 96 = .ok (.iload_n 2, 1) := by decide +kernel
theorem dX12_advises_97 : decode cX12_advises 97 = .ok (.ireturn, 1) := by decide +kernel
theorem dX12_advised_0 : decode cX12_advised 0 = .ok (.aload_n 0, 1) := by decide +kernel
theorem dX12_advised_1 : decode cX12_advised 1 = .ok (.aload_n 0, 1) := by decide +kernel
theorem dX12_advised_2 : decode cX12_advised 2 = .ok (.iload_n 1, 1) := by decide +kernel
theorem dX12_advised_3 : decode cX12_advised 3 = .ok (.invokevirtual 339, 3) := by decide +kernel
theorem dX12_advised_6 : decode cX12_advised 6 = .ok (.invokevirtual 98, 3) := by decide +kernel
theorem dX12_advised_9 : decode cX12_advised 9 = .ok (.ifCond .eq 11, 3) := by decide +kernel
theorem dX12_advised_12 : decode cX12_advised 12 = .ok (.aload_n 0, 1) := by decide +kernel
theorem dX12_advised_13 : decode cX12_advised 13 = .ok (.iload_n 1, 1) := by decide +kernel
theorem dX12_advised_14 : decode cX12_advised 14 = .ok (.invokevirtual 420, 3) := by decide +kernel
theorem dX12_advised_17 : decode cX12_advised 17 = .ok (.goto 4, 3) := by decide +kernel
theorem dX12_advised_20 : decode cX12_advised 20 = .ok (.iconst 0, 1) := by decide +kernel
theorem dX12_advised_21 : decode cX12_advised 21 = .ok (.ireturn, 1) := by decide +kernel
theorem dX12_seeks_0 : decode cX12_seeks 0 = .ok (.iconst (-1), 1) := by decide +kernel
theorem dX12_seeks_1 : decode cX12_seeks 1 = .ok (.istore_n 2, 1) := by decide +kernel
theorem dX12_seeks_2 : decode cX12_seeks 2 = .ok (.aload_n 0, 1) := by decide +kernel
theorem dX12_seeks_3 : decode cX12_seeks 3 = .ok (.iconst 0, 1) := by decide +kernel
theorem dX12_seeks_4 : decode cX12_seeks 4 = .ok (.putfield 423, 3) := by decide +kernel
theorem dX12_seeks_7 : decode cX12_seeks 7 = .ok (.iconst 0, 1) := by decide +kernel
theorem dX12_seeks_8 : decode cX12_seeks 8 = .ok (.istore_n 3, 1) := by decide +kernel
theorem dX12_seeks_9 : decode cX12_seeks 9 = .ok (.iload_n 3, 1) := by decide +kernel
theorem dX12_seeks_10 : decode cX12_seeks 10 = .ok (.aload_n 0, 1) := by decide +kernel
theorem dX12_seeks_11 : decode cX12_seeks 11 = .ok (.getfield 20, 3) := by decide +kernel
theorem dX12_seeks_14 : decode cX12_seeks 14 = .ok (.iconst 1, 1) := by decide +kernel
theorem dX12_seeks_15 : decode cX12_seeks 15 = .ok (.iaload, 1) := by decide +kernel
theorem dX12_seeks_16 : decode cX12_seeks 16 = .ok (.iconst 1, 1) := by decide +kernel
theorem dX12_seeks_17 : decode cX12_seeks 17 = .ok (.isub, 1) := by decide +kernel
theorem dX12_seeks_18 : decode cX12_seeks 18 = .ok (.if_icmp .ge 120, 3) := by decide +kernel
theorem dX12_seeks_21 : decode cX12_seeks 21 = .ok (.aload_n 0, 1) := by decide +kernel
theorem dX12_seeks_22 : decode cX12_seeks 22 = .ok (.iload_n 1, 1) := by decide +kernel
theorem dX12_seeks_23 : decode cX12_seeks 23 = .ok (.invokevirtual 213, 3) := by decide +kernel
theorem dX12_seeks_26 : decode cX12_seeks 26 = .ok (.ifCond .ne 112, 3) := by decide +kernel
theorem dX12_seeks_29 : decode cX12_seeks 29 = .ok (.iconst 0, 1) := by decide +kernel
theorem dX12_seeks_30 : decode cX12_seeks 30 = .ok (.istore 4, 2) := by decide +kernel
theorem dX12_seeks_32 : decode cX12_seeks 32 = .ok (.iload 4, 2) := by decide +kernel
theorem dX12_seeks_34 : decode cX12_seeks 34 = .ok (.aload_n 0, 1) := by decide +kernel
theorem dX12_seeks_35 : decode cX12_seeks 35 = .ok (.getfield 20, 3) := by decide +kernel
theorem dX12_seeks_38 : decode cX12_seeks 38 = .ok (.iconst 0, 1) := by decide +kernel
theorem dX12_seeks_39 : decode cX12_seeks 39 = .ok (.iaload, 1) := by decide +kernel
theorem dX12_seeks_40 : decode cX12_seeks 40 = .ok (.iconst 1, 1) := by decide +kernel
theorem dX12_seeks_41 : decode cX12_seeks 41 = .ok (.isub, 1) := by decide +kernel
theorem dX12_seeks_42 : decode cX12_seeks 42 = .ok (.if_icmp .ge 90, 3) := by decide +kernel
theorem dX12_seeks_45 : decode cX12_seeks 45 = .ok (.iconst 1, 1) := by decide +kernel
theorem dX12_seeks_46 : decode cX12_seeks 46 = .ok (.istore 5, 2) := by decide +kernel
theorem dX12_seeks_48 : decode cX12_seeks 48 = .ok (.iload 5, 2) := by decide +kernel
theorem dX12_seeks_50 : decode cX12_seeks 50 = .ok (.iconst 2, 1) := by decide +kernel
theorem dX12_seeks_51 : decode cX12_seeks 51 = .ok (.if_icmp .gt 75, 3) := by decide +kernel
theorem dX12_seeks_54 : decode cX12_seeks 54 = .ok (.aload_n 0, 1) := by decide +kernel
theorem dX12_seeks_55 : decode cX12_seeks 55 = .ok (.iload 4, 2) := by decide +kernel
theorem dX12_seeks_57 : decode cX12_seeks 57 = .ok (.iload_n 3, 1) := by decide +kernel
theorem dX12_seeks_58 : decode cX12_seeks 58 = .ok (.iload 5, 2) := by decide +kernel
theorem dX12_seeks_60 : decode cX12_seeks 60 = .ok (.invokevirtual 293, 3) := by decide +kernel
theorem dX12_seeks_63 : decode cX12_seeks 63 = .ok (.ifCond .ne 6, 3) := by decide +kernel
theorem dX12_seeks_66 : decode cX12_seeks 66 = .ok (.goto 54, 3) := by decide +kernel
theorem dX12_seeks_69 : decode cX12_seeks 69 = .ok (.aload_n 0, 1) := by decide +kernel
theorem dX12_seeks_70 : decode cX12_seeks 70 = .ok (.iload_n 1, 1) := by decide +kernel
theorem dX12_seeks_71 : decode cX12_seeks 71 = .ok (.iload 4, 2) := by decide +kernel
theorem dX12_seeks_73 : decode cX12_seeks 73 = .ok (.iload_n 3, 1) := by decide +kernel
theorem dX12_seeks_74 : decode cX12_seeks 74 = .ok (.iload 5, 2) := by decide +kernel
theorem dX12_seeks_76 : decode cX12_seeks 76 = .ok (.invokevirtual 426, 3) := by decide +kernel
theorem dX12_seeks_79 : decode cX12_seeks 79 = .ok (.istore 6, 2) := by decide +kernel
theorem dX12_seeks_81 : decode cX12_seeks 81 = .ok (.iload_n 2, 1) := by decide +kernel
theorem dX12_seeks_82 : decode cX12_seeks 82 = .ok (.iconst (-1), 1) := by decide +kernel
theorem dX12_seeks_83 : decode cX12_seeks 83 = .ok (.if_icmp .eq 15, 3) := by decide +kernel
theorem dX12_seeks_86 : decode cX12_seeks 86 = .ok (.iload 6, 2) := by decide +kernel
theorem dX12_seeks_88 : decode cX12_seeks 88 = .ok (.aload_n 0, 1) := by decide +kernel
theorem dX12_seeks_89 : decode cX12_seeks 89 = .ok (.getfield 423, 3) := by decide +kernel
theorem dX12_seeks_92 : decode cX12_seeks 92 = .ok (.if_icmp .gt 6, 3) := by decide +kernel
theorem dX12_seeks_95 : decode cX12_seeks 95 = .ok (.goto 25, 3) := by decide +kernel
theorem dX12_seeks_98 : decode cX12_seeks 98 = .ok (.bipush 100, 2) := by decide +kernel
theorem dX12_seeks_100 : decode cX12_seeks 100 = .ok (.iload 5, 2) := by decide +kernel
theorem dX12_seeks_102 : decode cX12_seeks 102 = .ok (.iconst 1, 1) := by decide +kernel
theorem dX12_seeks_103 : decode cX12_seeks 103 = .ok (.isub, 1) := by decide +kernel
theorem dX12_seeks_104 : decode cX12_seeks 104 = .ok (.imul, 1) := by decide +kernel
theorem dX12_seeks_105 : decode cX12_seeks 105 = .ok (.bipush 10, 2) := by decide +kernel
theorem dX12_seeks_107 : decode cX12_seeks 107 = .ok (.iload_n 3, 1) := by decide +kernel
theorem dX12_seeks_108 : decode cX12_seeks 108 = .ok (.imul, 1) := by decide +kernel
theorem dX12_seeks_109 : decode cX12_seeks 109 = .ok (.iadd, 1) := by decide +kernel
theorem dX12_seeks_110 : decode cX12_seeks 110 = .ok (.iload 4, 2) := by decide +kernel
theorem dX12_seeks_112 : decode cX12_seeks 112 = .ok (.iadd, 1) := by decide +kernel
theorem dX12_seeks_113 : decode cX12_seeks 113 = .ok (.istore_n 2, 1) := by decide +kernel
theorem dX12_seeks_114 : decode cX12_seeks 114 = .ok (.aload_n 0, 1) := by decide +kernel
theorem dX12_seeks_115 : decode cX12_seeks 115 = .ok (.iload 6, 2) := by decide +kernel
theorem dX12_seeks_117 : decode cX12_seeks 117 = .ok (.putfield 423, 3) := by decide +kernel
theorem dX12_seeks_120 : decode cX12_seeks 120 = .ok (.iinc 5 1, 3) := by decide +kernel
theorem dX12_seeks_123 : decode cX12_seeks 123 = .ok (.goto (-75), 3) := by decide +kernel
theorem dX12_seeks_126 : decode cX12_seeks 126 = .ok (.iinc 4 1, 3) := by decide +kernel
theorem dX12_seeks_129 : decode cX12_seeks 129 = .ok (.goto (-97), 3) := by decide +kernel
theorem dX12_seeks_132 : decode cX12_seeks 132 = .ok (.iinc 3 1, 3) := by decide +kernel
theorem dX12_seeks_135 : decode cX12_seeks 135 = .ok (.goto (-126), 3) := by decide +kernel
theorem dX12_seeks_138 : decode cX12_seeks 138 = .ok (.iload_n 2, 1) := by decide +kernel
theorem dX12_seeks_139 : decode cX12_seeks 139 = .ok (.ireturn, 1) := by decide +kernel
theorem dX12_behind_0 : decode cX12_behind 0 = .ok (.aload_n 0, 1) := by decide +kernel
theorem dX12_behind_1 : decode cX12_behind 1 = .ok (.getfield 20, 3) := by decide +kernel
theorem dX12_behind_4 : decode cX12_behind 4 = .ok (.bipush 120, 2) := by decide +kernel
theorem dX12_behind_6 : decode cX12_behind 6 = .ok (.bipush 8, 2) := by decide +kernel
theorem dX12_behind_8 : decode cX12_behind 8 = .ok (.iload_n 3, 1) := by decide +kernel
theorem dX12_behind_9 : decode cX12_behind 9 = .ok (.imul, 1) := by decide +kernel
theorem dX12_behind_10 : decode cX12_behind 10 = .ok (.iadd, 1) := by decide +kernel
theorem dX12_behind_11 : decode cX12_behind 11 = .ok (.iload_n 2, 1) := by decide +kernel
theorem dX12_behind_12 : decode cX12_behind 12 = .ok (.iadd, 1) := by decide +kernel
theorem dX12_behind_13 : decode cX12_behind 13 = .ok (.iload 4, 2) := by decide +kernel
theorem dX12_behind_15 : decode cX12_behind 15 = .ok (.iastore, 1) := by decide +kernel
theorem dX12_behind_16 : decode cX12_behind 16 = .ok (.aload_n 0, 1) := by decide +kernel
theorem dX12_behind_17 : decode cX12_behind 17 = .ok (.iload_n 1, 1) := by decide +kernel
theorem dX12_behind_18 : decode cX12_behind 18 = .ok (.invokevirtual 222, 3) := by decide +kernel
theorem dX12_behind_21 : decode cX12_behind 21 = .ok (.istore 5, 2) := by decide +kernel
theorem dX12_behind_23 : decode cX12_behind 23 = .ok (.aload_n 0, 1) := by decide +kernel
theorem dX12_behind_24 : decode cX12_behind 24 = .ok (.getfield 20, 3) := by decide +kernel
theorem dX12_behind_27 : decode cX12_behind 27 = .ok (.bipush 120, 2) := by decide +kernel
theorem dX12_behind_29 : decode cX12_behind 29 = .ok (.bipush 8, 2) := by decide +kernel
theorem dX12_behind_31 : decode cX12_behind 31 = .ok (.iload_n 3, 1) := by decide +kernel
theorem dX12_behind_32 : decode cX12_behind 32 = .ok (.imul, 1) := by decide +kernel
theorem dX12_behind_33 : decode cX12_behind 33 = .ok (.iadd, 1) := by decide +kernel
theorem dX12_behind_34 : decode cX12_behind 34 = .ok (.iload_n 2, 1) := by decide +kernel
theorem dX12_behind_35 : decode cX12_behind 35 = .ok (.iadd, 1) := by decide +kernel
theorem dX12_behind_36 : decode cX12_behind 36 = .ok (.iconst 0, 1) := by decide +kernel
theorem dX12_behind_37 : decode cX12_behind 37 = .ok (.iastore, 1) := by decide +kernel
theorem dX12_behind_38 : decode cX12_behind 38 = .ok (.iload 5, 2) := by decide +kernel
theorem dX12_behind_40 : decode cX12_behind 40 = .ok (.ireturn, 1) := by decide +kernel
theorem dX12_bestWall_0 : decode cX12_bestWall 0 = .ok (.aload_n 0, 1) := by decide +kernel
theorem dX12_bestWall_1 : decode cX12_bestWall 1 = .ok (.aload_n 0, 1) := by decide +kernel
theorem dX12_bestWall_2 : decode cX12_bestWall 2 = .ok (.iload_n 1, 1) := by decide +kernel
theorem dX12_bestWall_3 : decode cX12_bestWall 3 = .ok (.invokevirtual 339, 3) := by decide +kernel
theorem dX12_bestWall_6 : decode cX12_bestWall 6 = .ok (.invokevirtual 98, 3) := by decide +kernel
theorem dX12_bestWall_9 : decode cX12_bestWall 9 = .ok (.ifCond .eq 11, 3) := by decide +kernel
theorem dX12_bestWall_12 : decode cX12_bestWall 12 = .ok (.aload_n 0, 1) := by decide +kernel
theorem dX12_bestWall_13 : decode cX12_bestWall 13 = .ok (.iload_n 1, 1) := by decide +kernel
theorem dX12_bestWall_14 : decode cX12_bestWall 14 = .ok (.invokevirtual 430, 3) := by decide +kernel
theorem dX12_bestWall_17 : decode cX12_bestWall 17 = .ok (.goto 4, 3) := by decide +kernel
theorem dX12_bestWall_20 : decode cX12_bestWall 20 = .ok (.iconst 0, 1) := by decide +kernel
theorem dX12_bestWall_21 : decode cX12_bestWall 21 = .ok (.ireturn, 1) := by decide +kernel
theorem dX12_gain_0 : decode cX12_gain 0 = .ok (.aload_n 0, 1) := by decide +kernel
theorem dX12_gain_1 : decode cX12_gain 1 = .ok (.aload_n 0, 1) := by decide +kernel
theorem dX12_gain_2 : decode cX12_gain 2 = .ok (.iload_n 1, 1) := by decide +kernel
theorem dX12_gain_3 : decode cX12_gain 3 = .ok (.invokevirtual 339, 3) := by decide +kernel
theorem dX12_gain_6 : decode cX12_gain 6 = .ok (.invokevirtual 98, 3) := by decide +kernel
theorem dX12_gain_9 : decode cX12_gain 9 = .ok (.ifCond .ne 5, 3) := by decide +kernel
theorem dX12_gain_12 : decode cX12_gain 12 = .ok (.iconst 0, 1) := by decide +kernel
theorem dX12_gain_13 : decode cX12_gain 13 = .ok (.ireturn, 1) := by decide +kernel
theorem dX12_gain_14 : decode cX12_gain 14 = .ok (.aload_n 0, 1) := by decide +kernel
theorem dX12_gain_15 : decode cX12_gain 15 = .ok (.iload_n 1, 1) := by decide +kernel
theorem dX12_gain_16 : decode cX12_gain 16 = .ok (.invokevirtual 430, 3) := by decide +kernel
theorem dX12_gain_19 : decode cX12_gain 19 = .ok (.iconst (-1), 1) := by decide +kernel
theorem dX12_gain_20 : decode cX12_gain 20 = .ok (.if_icmp .ne 7, 3) := by decide +kernel
theorem dX12_gain_23 : decode cX12_gain 23 = .ok (.iconst (-1), 1) := by decide +kernel
theorem dX12_gain_24 : decode cX12_gain 24 = .ok (.goto 13, 3) := by decide +kernel
theorem dX12_gain_27 : decode cX12_gain 27 = .ok (.aload_n 0, 1) := by decide +kernel
theorem dX12_gain_28 : decode cX12_gain 28 = .ok (.getfield 423, 3) := by decide +kernel
theorem dX12_gain_31 : decode cX12_gain 31 = .ok (.aload_n 0, 1) := by decide +kernel
theorem dX12_gain_32 : decode cX12_gain 32 = .ok (.iload_n 1, 1) := by decide +kernel
theorem dX12_gain_33 : decode cX12_gain 33 = .ok (.invokevirtual 222, 3) := by decide +kernel
theorem dX12_gain_36 : decode cX12_gain 36 = .ok (.isub, 1) := by decide +kernel
theorem dX12_gain_37 : decode cX12_gain 37 = .ok (.ireturn, 1) := by decide +kernel
theorem dX12_harm_0 : decode cX12_harm 0 = .ok (.aload_n 0, 1) := by decide +kernel
theorem dX12_harm_1 : decode cX12_harm 1 = .ok (.iload_n 1, 1) := by decide +kernel
theorem dX12_harm_2 : decode cX12_harm 2 = .ok (.invokevirtual 339, 3) := by decide +kernel
theorem dX12_harm_5 : decode cX12_harm 5 = .ok (.ifCond .eq 16, 3) := by decide +kernel
theorem dX12_harm_8 : decode cX12_harm 8 = .ok (.aload_n 0, 1) := by decide +kernel
theorem dX12_harm_9 : decode cX12_harm 9 = .ok (.iload_n 2, 1) := by decide +kernel
theorem dX12_harm_10 : decode cX12_harm 10 = .ok (.iload_n 3, 1) := by decide +kernel
theorem dX12_harm_11 : decode cX12_harm 11 = .ok (.invokevirtual 177, 3) := by decide +kernel
theorem dX12_harm_14 : decode cX12_harm 14 = .ok (.ifCond .eq 7, 3) := by decide +kernel
theorem dX12_harm_17 : decode cX12_harm 17 = .ok (.iconst 1, 1) := by decide +kernel
theorem dX12_harm_18 : decode cX12_harm 18 = .ok (.goto 4, 3) := by decide +kernel
theorem dX12_harm_21 : decode cX12_harm 21 = .ok (.iconst 0, 1) := by decide +kernel
theorem dX12_harm_22 : decode cX12_harm 22 = .ok (.istore 5, 2) := by decide +kernel
theorem dX12_harm_24 : decode cX12_harm 24 = .ok (.aload_n 0, 1) := by decide +kernel
theorem dX12_harm_25 : decode cX12_harm 25 = .ok (.iload 5, 2) := by decide +kernel
theorem dX12_harm_27 : decode cX12_harm 27 = .ok (.iload 5, 2) := by decide +kernel
theorem dX12_harm_29 : decode cX12_harm 29 = .ok (.ifCond .eq 21, 3) := by decide +kernel
theorem dX12_harm_32 : decode cX12_harm 32 = .ok (.aload_n 0, 1) := by decide +kernel
theorem dX12_harm_33 : decode cX12_harm 33 = .ok (.iload_n 2, 1) := by decide +kernel
theorem dX12_harm_34 : decode cX12_harm 34 = .ok (.iload_n 3, 1) := by decide +kernel
theorem dX12_harm_35 : decode cX12_harm 35 = .ok (.iload 4, 2) := by decide +kernel
theorem dX12_harm_37 : decode cX12_harm 37 = .ok (.invokestatic 359, 3) := by decide +kernel
theorem dX12_harm_40 : decode cX12_harm 40 = .ok (.invokevirtual 293, 3) := by decide +kernel
theorem dX12_harm_43 : decode cX12_harm 43 = .ok (.ifCond .eq 7, 3) := by decide +kernel
theorem dX12_harm_46 : decode cX12_harm 46 = .ok (.iconst 1, 1) := by decide +kernel
theorem dX12_harm_47 : decode cX12_harm 47 = .ok (.goto 4, 3) := by decide +kernel
theorem dX12_harm_50 : decode cX12_harm 50 = .ok (.iconst 0, 1) := by decide +kernel
theorem dX12_harm_51 : decode cX12_harm 51 = .ok (.invokevirtual 344, 3) := by decide +kernel
theorem dX12_harm_54 : decode cX12_harm 54 = .ok (.ifCond .ne 5, 3) := by decide +kernel
theorem dX12_harm_57 : decode cX12_harm 57 = .ok (.iconst 0, 1) := by decide +kernel
theorem dX12_harm_58 : decode cX12_harm 58 = .ok (.ireturn, 1) := by decide +kernel
theorem dX12_harm_59 : decode cX12_harm 59 = .ok (.aload_n 0, 1) := by decide +kernel
theorem dX12_harm_60 : decode cX12_harm 60 = .ok (.iload_n 1, 1) := by decide +kernel
theorem dX12_harm_61 : decode cX12_harm 61 = .ok (.iload_n 2, 1) := by decide +kernel
theorem dX12_harm_62 : decode cX12_harm 62 = .ok (.iload_n 3, 1) := by decide +kernel
theorem dX12_harm_63 : decode cX12_harm 63 = .ok (.iload 4, 2) := by decide +kernel
theorem dX12_harm_65 : decode cX12_harm 65 = .ok (.invokestatic 359, 3) := by decide +kernel
theorem dX12_harm_68 : decode cX12_harm 68 = .ok (.invokevirtual 426, 3) := by decide +kernel
theorem dX12_harm_71 : decode cX12_harm 71 = .ok (.aload_n 0, 1) := by decide +kernel
theorem dX12_harm_72 : decode cX12_harm 72 = .ok (.iload_n 1, 1) := by decide +kernel
theorem dX12_harm_73 : decode cX12_harm 73 = .ok (.invokevirtual 222, 3) := by decide +kernel
theorem dX12_harm_76 : decode cX12_harm 76 = .ok (.isub, 1) := by decide +kernel
theorem dX12_harm_77 : decode cX12_harm 77 = .ok (.ireturn, 1) := by decide +kernel
theorem dX12_foreseen_0 : decode cX12_foreseen 0 = .ok (.aload_n 0, 1) := by decide +kernel
theorem dX12_foreseen_1 : decode cX12_foreseen 1 = .ok (.aload_n 0, 1) := by decide +kernel
theorem dX12_foreseen_2 : decode cX12_foreseen 2 = .ok (.iload_n 3, 1) := by decide +kernel
theorem dX12_foreseen_3 : decode cX12_foreseen 3 = .ok (.invokevirtual 339, 3) := by decide +kernel
theorem dX12_foreseen_6 : decode cX12_foreseen 6 = .ok (.iload_n 1, 1) := by decide +kernel
theorem dX12_foreseen_7 : decode cX12_foreseen 7 = .ok (.i2l, 1) := by decide +kernel
theorem dX12_foreseen_8 : decode cX12_foreseen 8 = .ok (.lconst 0, 1) := by decide +kernel
theorem dX12_foreseen_9 : decode cX12_foreseen 9 = .ok (.lconst 1, 1) := by decide +kernel
theorem dX12_foreseen_10 : decode cX12_foreseen 10 = .ok (.invokestatic 106, 3) := by decide +kernel
theorem dX12_foreseen_13 : decode cX12_foreseen 13 = .ok (.ifCond .eq 19, 3) := by decide +kernel
theorem dX12_foreseen_16 : decode cX12_foreseen 16 = .ok (.iload_n 2, 1) := by decide +kernel
theorem dX12_foreseen_17 : decode cX12_foreseen 17 = .ok (.i2l, 1) := by decide +kernel
theorem dX12_foreseen_18 : decode cX12_foreseen 18 = .ok (.lconst 1, 1) := by decide +kernel
theorem dX12_foreseen_19 : decode cX12_foreseen 19 = .ok (.ldc2_w 433, 3) := by decide +kernel
theorem dX12_foreseen_22 : decode cX12_foreseen 22 = .ok (.invokestatic 106, 3) := by decide +kernel
theorem dX12_foreseen_25 : decode cX12_foreseen 25 = .ok (.ifCond .eq 7, 3) := by decide +kernel
theorem dX12_foreseen_28 : decode cX12_foreseen 28 = .ok (.iconst 1, 1) := by decide +kernel
theorem dX12_foreseen_29 : decode cX12_foreseen 29 = .ok (.goto 4, 3) := by decide +kernel
theorem dX12_foreseen_32 : decode cX12_foreseen 32 = .ok (.iconst 0, 1) := by decide +kernel
theorem dX12_foreseen_33 : decode cX12_foreseen 33 = .ok (.invokevirtual 344, 3) := by decide +kernel
theorem dX12_foreseen_36 : decode cX12_foreseen 36 = .ok (.ifCond .ne 5, 3) := by decide +kernel
theorem dX12_foreseen_39 : decode cX12_foreseen 39 = .ok (.iconst 0, 1) := by decide +kernel
theorem dX12_foreseen_40 : decode cX12_foreseen 40 = .ok (.ireturn, 1) := by decide +kernel
theorem dX12_foreseen_41 : decode cX12_foreseen 41 = .ok (.aload_n 0, 1) := by decide +kernel
theorem dX12_foreseen_42 : decode cX12_foreseen 42 = .ok (.invokevirtual 435, 3) := by decide +kernel
theorem dX12_foreseen_45 : decode cX12_foreseen 45 = .ok (.aload_n 0, 1) := by decide +kernel
theorem dX12_foreseen_46 : decode cX12_foreseen 46 = .ok (.iload_n 1, 1) := by decide +kernel
theorem dX12_foreseen_47 : decode cX12_foreseen 47 = .ok (.iload_n 2, 1) := by decide +kernel
theorem dX12_foreseen_48 : decode cX12_foreseen 48 = .ok (.invokevirtual 438, 3) := by decide +kernel
theorem dX12_foreseen_51 : decode cX12_foreseen 51 = .ok (.istore 4, 2) := by decide +kernel
theorem dX12_foreseen_53 : decode cX12_foreseen 53 = .ok (.aload_n 0, 1) := by decide +kernel
theorem dX12_foreseen_54 : decode cX12_foreseen 54 = .ok (.iload_n 3, 1) := by decide +kernel
theorem dX12_foreseen_55 : decode cX12_foreseen 55 = .ok (.bipush 6, 2) := by decide +kernel
theorem dX12_foreseen_57 : decode cX12_foreseen 57 = .ok (.invokevirtual 174, 3) := by decide +kernel
theorem dX12_foreseen_60 : decode cX12_foreseen 60 = .ok (.istore 5, 2) := by decide +kernel
theorem dX12_foreseen_62 : decode cX12_foreseen 62 = .ok (.aload_n 0, 1) := by decide +kernel
theorem dX12_foreseen_63 : decode cX12_foreseen 63 = .ok (.invokevirtual 441, 3) := by decide +kernel
theorem dX12_foreseen_66 : decode cX12_foreseen 66 = .ok (.iload 4, 2) := by decide +kernel
theorem dX12_foreseen_68 : decode cX12_foreseen 68 = .ok (.ifCond .ge 7, 3) := by decide +kernel
theorem dX12_foreseen_71 : decode cX12_foreseen 71 = .ok (.iconst (-1), 1) := by decide +kernel
theorem dX12_foreseen_72 : decode cX12_foreseen 72 = .ok (.goto 5, 3) := by decide +kernel
theorem dX12_foreseen_75 : decode cX12_foreseen 75 = .ok (.iload 5, 2) := by decide +kernel
theorem dX12_foreseen_77 : decode cX12_foreseen 77 = .ok (.ireturn, 1) := by decide +kernel
theorem dX12_endsTurn_0 : decode cX12_endsTurn 0 = .ok (.aload_n 0, 1) := by decide +kernel
theorem dX12_endsTurn_1 : decode cX12_endsTurn 1 = .ok (.getfield 20, 3) := by decide +kernel
theorem dX12_endsTurn_4 : decode cX12_endsTurn 4 = .ok (.iconst 4, 1) := by decide +kernel
theorem dX12_endsTurn_5 : decode cX12_endsTurn 5 = .ok (.dup2, 1) := by decide +kernel
theorem dX12_endsTurn_6 : decode cX12_endsTurn 6 = .ok (.iaload, 1) := by decide +kernel
theorem dX12_endsTurn_7 : decode cX12_endsTurn 7 = .ok (.iconst 1, 1) := by decide +kernel
theorem dX12_endsTurn_8 : decode cX12_endsTurn 8 = .ok (.iadd, 1) := by decide +kernel
theorem dX12_endsTurn_9 : decode cX12_endsTurn 9 = .ok (.iastore, 1) := by decide +kernel
theorem dX12_endsTurn_10 : decode cX12_endsTurn 10 = .ok (.aload_n 0, 1) := by decide +kernel
theorem dX12_endsTurn_11 : decode cX12_endsTurn 11 = .ok (.getfield 20, 3) := by decide +kernel
theorem dX12_endsTurn_14 : decode cX12_endsTurn 14 = .ok (.bipush 7, 2) := by decide +kernel
theorem dX12_endsTurn_16 : decode cX12_endsTurn 16 = .ok (.iaload, 1) := by decide +kernel
theorem dX12_endsTurn_17 : decode cX12_endsTurn 17 = .ok (.istore_n 1, 1) := by decide +kernel
theorem dX12_endsTurn_18 : decode cX12_endsTurn 18 = .ok (.iconst 1, 1) := by decide +kernel
theorem dX12_endsTurn_19 : decode cX12_endsTurn 19 = .ok (.istore_n 2, 1) := by decide +kernel
theorem dX12_endsTurn_20 : decode cX12_endsTurn 20 = .ok (.iload_n 2, 1) := by decide +kernel
theorem dX12_endsTurn_21 : decode cX12_endsTurn 21 = .ok (.aload_n 0, 1) := by decide +kernel
theorem dX12_endsTurn_22 : decode cX12_endsTurn 22 = .ok (.getfield 20, 3) := by decide +kernel
theorem dX12_endsTurn_25 : decode cX12_endsTurn 25 = .ok (.iconst 2, 1) := by decide +kernel
theorem dX12_endsTurn_26 : decode cX12_endsTurn 26 = .ok (.iaload, 1) := by decide +kernel
theorem dX12_endsTurn_27 : decode cX12_endsTurn 27 = .ok (.if_icmp .gt 42, 3) := by decide +kernel
theorem dX12_endsTurn_30 : decode cX12_endsTurn 30 = .ok (.aload_n 0, 1) := by decide +kernel
theorem dX12_endsTurn_31 : decode cX12_endsTurn 31 = .ok (.getfield 20, 3) := by decide +kernel
theorem dX12_endsTurn_34 : decode cX12_endsTurn 34 = .ok (.bipush 7, 2) := by decide +kernel
theorem dX12_endsTurn_36 : decode cX12_endsTurn 36 = .ok (.iaload, 1) := by decide +kernel
theorem dX12_endsTurn_37 : decode cX12_endsTurn 37 = .ok (.iload_n 2, 1) := by decide +kernel
theorem dX12_endsTurn_38 : decode cX12_endsTurn 38 = .ok (.iadd, 1) := by decide +kernel
theorem dX12_endsTurn_39 : decode cX12_endsTurn 39 = .ok (.aload_n 0, 1) := by decide +kernel
theorem dX12_endsTurn_40 : decode cX12_endsTurn 40 = .ok (.getfield 20, 3) := by decide +kernel
theorem dX12_endsTurn_43 : decode cX12_endsTurn 43 = .ok (.iconst 2, 1) := by decide +kernel
theorem dX12_endsTurn_44 : decode cX12_endsTurn 44 = .ok (.iaload, 1) := by decide +kernel
theorem dX12_endsTurn_45 : decode cX12_endsTurn 45 = .ok (.irem, 1) := by decide +kernel
theorem dX12_endsTurn_46 : decode cX12_endsTurn 46 = .ok (.istore_n 3, 1) := by decide +kernel
theorem dX12_endsTurn_47 : decode cX12_endsTurn 47 = .ok (.aload_n 0, 1) := by decide +kernel
theorem dX12_endsTurn_48 : decode cX12_endsTurn 48 = .ok (.iload_n 3, 1) := by decide +kernel
theorem dX12_endsTurn_49 : decode cX12_endsTurn 49 = .ok (.invokevirtual 213, 3) := by decide +kernel
theorem dX12_endsTurn_52 : decode cX12_endsTurn 52 = .ok (.ifCond .eq 6, 3) := by decide +kernel
theorem dX12_endsTurn_55 : decode cX12_endsTurn 55 = .ok (.goto 8, 3) := by decide +kernel
theorem dX12_endsTurn_58 : decode cX12_endsTurn 58 = .ok (.iload_n 3, 1) := by decide +kernel
theorem dX12_endsTurn_59 : decode cX12_endsTurn 59 = .ok (.istore_n 1, 1) := by decide +kernel
theorem dX12_endsTurn_60 : decode cX12_endsTurn 60 = .ok (.goto 9, 3) := by decide +kernel
theorem dX12_endsTurn_63 : decode cX12_endsTurn 63 = .ok (.iinc 2 1, 3) := by decide +kernel
theorem dX12_endsTurn_66 : decode cX12_endsTurn 66 = .ok (.goto (-46), 3) := by decide +kernel
theorem dX12_endsTurn_69 : decode cX12_endsTurn 69 = .ok (.aload_n 0, 1) := by decide +kernel
theorem dX12_endsTurn_70 : decode cX12_endsTurn 70 = .ok (.getfield 20, 3) := by decide +kernel
theorem dX12_endsTurn_73 : decode cX12_endsTurn 73 = .ok (.bipush 7, 2) := by decide +kernel
theorem dX12_endsTurn_75 : decode cX12_endsTurn 75 = .ok (.iload_n 1, 1) := by decide +kernel
theorem dX12_endsTurn_76 : decode cX12_endsTurn 76 = .ok (.iastore, 1) := by decide +kernel
theorem dX12_endsTurn_77 : decode cX12_endsTurn 77 = .ok (.return_, 1) := by decide +kernel
theorem dX12_steps__0 : decode cX12_steps_ 0 = .ok (.bipush 8, 2) := by decide +kernel
theorem dX12_steps__2 : decode cX12_steps_ 2 = .ok (.bipush 7, 2) := by decide +kernel
theorem dX12_steps__4 : decode cX12_steps_ 4 = .ok (.iload_n 1, 1) := by decide +kernel
theorem dX12_steps__5 : decode cX12_steps_ 5 = .ok (.imul, 1) := by decide +kernel
theorem dX12_steps__6 : decode cX12_steps_ 6 = .ok (.iadd, 1) := by decide +kernel
theorem dX12_steps__7 : decode cX12_steps_ 7 = .ok (.istore 4, 2) := by decide +kernel
theorem dX12_steps__9 : decode cX12_steps_ 9 = .ok (.aload_n 0, 1) := by decide +kernel
theorem dX12_steps__10 : decode cX12_steps_ 10 = .ok (.getfield 20, 3) := by decide +kernel
theorem dX12_steps__13 : decode cX12_steps_ 13 = .ok (.iload 4, 2) := by decide +kernel
theorem dX12_steps__15 : decode cX12_steps_ 15 = .ok (.dup2, 1) := by decide +kernel
theorem dX12_steps__16 : decode cX12_steps_ 16 = .ok (.iaload, 1) := by decide +kernel
theorem dX12_steps__17 : decode cX12_steps_ 17 = .ok (.iload_n 3, 1) := by decide +kernel
theorem dX12_steps__18 : decode cX12_steps_ 18 = .ok (.iload_n 2, 1) := by decide +kernel
theorem dX12_steps__19 : decode cX12_steps_ 19 = .ok (.invokestatic 181, 3) := by decide +kernel
theorem dX12_steps__22 : decode cX12_steps_ 22 = .ok (.imul, 1) := by decide +kernel
theorem dX12_steps__23 : decode cX12_steps_ 23 = .ok (.iadd, 1) := by decide +kernel
theorem dX12_steps__24 : decode cX12_steps_ 24 = .ok (.iastore, 1) := by decide +kernel
theorem dX12_steps__25 : decode cX12_steps_ 25 = .ok (.aload_n 0, 1) := by decide +kernel
theorem dX12_steps__26 : decode cX12_steps_ 26 = .ok (.getfield 20, 3) := by decide +kernel
theorem dX12_steps__29 : decode cX12_steps_ 29 = .ok (.iload 4, 2) := by decide +kernel
theorem dX12_steps__31 : decode cX12_steps_ 31 = .ok (.iconst 1, 1) := by decide +kernel
theorem dX12_steps__32 : decode cX12_steps_ 32 = .ok (.iadd, 1) := by decide +kernel
theorem dX12_steps__33 : decode cX12_steps_ 33 = .ok (.dup2, 1) := by decide +kernel
theorem dX12_steps__34 : decode cX12_steps_ 34 = .ok (.iaload, 1) := by decide +kernel
theorem dX12_steps__35 : decode cX12_steps_ 35 = .ok (.iload_n 3, 1) := by decide +kernel
theorem dX12_steps__36 : decode cX12_steps_ 36 = .ok (.iload_n 2, 1) := by decide +kernel
theorem dX12_steps__37 : decode cX12_steps_ 37 = .ok (.invokestatic 184, 3) := by decide +kernel
theorem dX12_steps__40 : decode cX12_steps_ 40 = .ok (.imul, 1) := by decide +kernel
theorem dX12_steps__41 : decode cX12_steps_ 41 = .ok (.iadd, 1) := by decide +kernel
theorem dX12_steps__42 : decode cX12_steps_ 42 = .ok (.iastore, 1) := by decide +kernel
theorem dX12_steps__43 : decode cX12_steps_ 43 = .ok (.aload_n 0, 1) := by decide +kernel
theorem dX12_steps__44 : decode cX12_steps_ 44 = .ok (.getfield 20, 3) := by decide +kernel
theorem dX12_steps__47 : decode cX12_steps_ 47 = .ok (.iload 4, 2) := by decide +kernel
theorem dX12_steps__49 : decode cX12_steps_ 49 = .ok (.iconst 4, 1) := by decide +kernel
theorem dX12_steps__50 : decode cX12_steps_ 50 = .ok (.iadd, 1) := by decide +kernel
theorem dX12_steps__51 : decode cX12_steps_ 51 = .ok (.dup2, 1) := by decide +kernel
theorem dX12_steps__52 : decode cX12_steps_ 52 = .ok (.iaload, 1) := by decide +kernel
theorem dX12_steps__53 : decode cX12_steps_ 53 = .ok (.iconst 1, 1) := by decide +kernel
theorem dX12_steps__54 : decode cX12_steps_ 54 = .ok (.iadd, 1) := by decide +kernel
theorem dX12_steps__55 : decode cX12_steps_ 55 = .ok (.iastore, 1) := by decide +kernel
theorem dX12_steps__56 : decode cX12_steps_ 56 = .ok (.aload_n 0, 1) := by decide +kernel
theorem dX12_steps__57 : decode cX12_steps_ 57 = .ok (.getfield 20, 3) := by decide +kernel
theorem dX12_steps__60 : decode cX12_steps_ 60 = .ok (.iload 4, 2) := by decide +kernel
theorem dX12_steps__62 : decode cX12_steps_ 62 = .ok (.iconst 5, 1) := by decide +kernel
theorem dX12_steps__63 : decode cX12_steps_ 63 = .ok (.iadd, 1) := by decide +kernel
theorem dX12_steps__64 : decode cX12_steps_ 64 = .ok (.iload_n 2, 1) := by decide +kernel
theorem dX12_steps__65 : decode cX12_steps_ 65 = .ok (.iastore, 1) := by decide +kernel
theorem dX12_steps__66 : decode cX12_steps_ 66 = .ok (.aload_n 0, 1) := by decide +kernel
theorem dX12_steps__67 : decode cX12_steps_ 67 = .ok (.aload_n 0, 1) := by decide +kernel
theorem dX12_steps__68 : decode cX12_steps_ 68 = .ok (.getfield 20, 3) := by decide +kernel
theorem dX12_steps__71 : decode cX12_steps_ 71 = .ok (.iload 4, 2) := by decide +kernel
theorem dX12_steps__73 : decode cX12_steps_ 73 = .ok (.iaload, 1) := by decide +kernel
theorem dX12_steps__74 : decode cX12_steps_ 74 = .ok (.aload_n 0, 1) := by decide +kernel
theorem dX12_steps__75 : decode cX12_steps_ 75 = .ok (.getfield 20, 3) := by decide +kernel
theorem dX12_steps__78 : decode cX12_steps_ 78 = .ok (.iload 4, 2) := by decide +kernel
theorem dX12_steps__80 : decode cX12_steps_ 80 = .ok (.iconst 1, 1) := by decide +kernel
theorem dX12_steps__81 : decode cX12_steps_ 81 = .ok (.iadd, 1) := by decide +kernel
theorem dX12_steps__82 : decode cX12_steps_ 82 = .ok (.iaload, 1) := by decide +kernel
theorem dX12_steps__83 : decode cX12_steps_ 83 = .ok (.aload_n 0, 1) := by decide +kernel
theorem dX12_steps__84 : decode cX12_steps_ 84 = .ok (.getfield 20, 3) := by decide +kernel
theorem dX12_steps__87 : decode cX12_steps_ 87 = .ok (.iload 4, 2) := by decide +kernel
theorem dX12_steps__89 : decode cX12_steps_ 89 = .ok (.iconst 2, 1) := by decide +kernel
theorem dX12_steps__90 : decode cX12_steps_ 90 = .ok (.iadd, 1) := by decide +kernel
theorem dX12_steps__91 : decode cX12_steps_ 91 = .ok (.iaload, 1) := by decide +kernel
theorem dX12_steps__92 : decode cX12_steps_ 92 = .ok (.invokevirtual 199, 3) := by decide +kernel
theorem dX12_steps__95 : decode cX12_steps_ 95 = .ok (.ifCond .eq 29, 3) := by decide +kernel
theorem dX12_steps__98 : decode cX12_steps_ 98 = .ok (.aload_n 0, 1) := by decide +kernel
theorem dX12_steps__99 : decode cX12_steps_ 99 = .ok (.getfield 20, 3) := by decide +kernel
theorem dX12_steps__102 : decode cX12_steps_ 102 = .ok (.iconst 5, 1) := by decide +kernel
theorem dX12_steps__103 : decode cX12_steps_ 103 = .ok (.dup2, 1) := by decide +kernel
theorem dX12_steps__104 : decode cX12_steps_ 104 = .ok (.iaload, 1) := by decide +kernel
theorem dX12_steps__105 : decode cX12_steps_ 105 = .ok (.iconst 1, 1) := by decide +kernel
theorem dX12_steps__106 : decode cX12_steps_ 106 = .ok (.iadd, 1) := by decide +kernel
theorem dX12_steps__107 : decode cX12_steps_ 107 = .ok (.iastore, 1) := by decide +kernel
theorem dX12_steps__108 : decode cX12_steps_ 108 = .ok (.aload_n 0, 1) := by decide +kernel
theorem dX12_steps__109 : decode cX12_steps_ 109 = .ok (.getfield 20, 3) := by decide +kernel
theorem dX12_steps__112 : decode cX12_steps_ 112 = .ok (.iload 4, 2) := by decide +kernel
theorem dX12_steps__114 : decode cX12_steps_ 114 = .ok (.bipush 6, 2) := by decide +kernel
theorem dX12_steps__116 : decode cX12_steps_ 116 = .ok (.iadd, 1) := by decide +kernel
theorem dX12_steps__117 : decode cX12_steps_ 117 = .ok (.aload_n 0, 1) := by decide +kernel
theorem dX12_steps__118 : decode cX12_steps_ 118 = .ok (.getfield 20, 3) := by decide +kernel
theorem dX12_steps__121 : decode cX12_steps_ 121 = .ok (.iconst 5, 1) := by decide +kernel
theorem dX12_steps__122 : decode cX12_steps_ 122 = .ok (.iaload, 1) := by decide +kernel
theorem dX12_steps__123 : decode cX12_steps_ 123 = .ok (.iastore, 1) := by decide +kernel
theorem dX12_steps__124 : decode cX12_steps_ 124 = .ok (.aload_n 0, 1) := by decide +kernel
theorem dX12_steps__125 : decode cX12_steps_ 125 = .ok (.invokevirtual 444, 3) := by decide +kernel
theorem dX12_steps__128 : decode cX12_steps_ 128 = .ok (.return_, 1) := by decide +kernel
theorem dX12_mayStep_0 : decode cX12_mayStep 0 = .ok (.aload_n 0, 1) := by decide +kernel
theorem dX12_mayStep_1 : decode cX12_mayStep 1 = .ok (.invokevirtual 351, 3) := by decide +kernel
theorem dX12_mayStep_4 : decode cX12_mayStep 4 = .ok (.ifCond .ne 22, 3) := by decide +kernel
theorem dX12_mayStep_7 : decode cX12_mayStep 7 = .ok (.aload_n 0, 1) := by decide +kernel
theorem dX12_mayStep_8 : decode cX12_mayStep 8 = .ok (.aload_n 0, 1) := by decide +kernel
theorem dX12_mayStep_9 : decode cX12_mayStep 9 = .ok (.getfield 20, 3) := by decide +kernel
theorem dX12_mayStep_12 : decode cX12_mayStep 12 = .ok (.bipush 7, 2) := by decide +kernel
theorem dX12_mayStep_14 : decode cX12_mayStep 14 = .ok (.iaload, 1) := by decide +kernel
theorem dX12_mayStep_15 : decode cX12_mayStep 15 = .ok (.iload_n 1, 1) := by decide +kernel
theorem dX12_mayStep_16 : decode cX12_mayStep 16 = .ok (.invokevirtual 379, 3) := by decide +kernel
theorem dX12_mayStep_19 : decode cX12_mayStep 19 = .ok (.ifCond .le 7, 3) := by decide +kernel
theorem dX12_mayStep_22 : decode cX12_mayStep 22 = .ok (.iconst 1, 1) := by decide +kernel
theorem dX12_mayStep_23 : decode cX12_mayStep 23 = .ok (.goto 4, 3) := by decide +kernel
theorem dX12_mayStep_26 : decode cX12_mayStep 26 = .ok (.iconst 0, 1) := by decide +kernel
theorem dX12_mayStep_27 : decode cX12_mayStep 27 = .ok (.ireturn, 1) := by decide +kernel
theorem dX12_stepsNow_0 : decode cX12_stepsNow 0 = .ok (.aload_n 0, 1) := by decide +kernel
theorem dX12_stepsNow_1 : decode cX12_stepsNow 1 = .ok (.getfield 20, 3) := by decide +kernel
theorem dX12_stepsNow_4 : decode cX12_stepsNow 4 = .ok (.bipush 7, 2) := by decide +kernel
theorem dX12_stepsNow_6 : decode cX12_stepsNow 6 = .ok (.iaload, 1) := by decide +kernel
theorem dX12_stepsNow_7 : decode cX12_stepsNow 7 = .ok (.istore_n 2, 1) := by decide +kernel
theorem dX12_stepsNow_8 : decode cX12_stepsNow 8 = .ok (.aload_n 0, 1) := by decide +kernel
theorem dX12_stepsNow_9 : decode cX12_stepsNow 9 = .ok (.iload_n 2, 1) := by decide +kernel
theorem dX12_stepsNow_10 : decode cX12_stepsNow 10 = .ok (.iload_n 1, 1) := by decide +kernel
theorem dX12_stepsNow_11 : decode cX12_stepsNow 11 = .ok (.aload_n 0, 1) := by decide +kernel
theorem dX12_stepsNow_12 : decode cX12_stepsNow 12 = .ok (.iload_n 2, 1) := by decide +kernel
theorem dX12_stepsNow_13 : decode cX12_stepsNow 13 = .ok (.iload_n 1, 1) := by decide +kernel
theorem dX12_stepsNow_14 : decode cX12_stepsNow 14 = .ok (.invokevirtual 379, 3) := by decide +kernel
theorem dX12_stepsNow_17 : decode cX12_stepsNow 17 = .ok (.invokevirtual 447, 3) := by decide +kernel
theorem dX12_stepsNow_20 : decode cX12_stepsNow 20 = .ok (.aload_n 0, 1) := by decide +kernel
theorem dX12_stepsNow_21 : decode cX12_stepsNow 21 = .ok (.iload_n 2, 1) := by decide +kernel
theorem dX12_stepsNow_22 : decode cX12_stepsNow 22 = .ok (.invokevirtual 222, 3) := by decide +kernel
theorem dX12_stepsNow_25 : decode cX12_stepsNow 25 = .ok (.ireturn, 1) := by decide +kernel
theorem dX12_mayBuild_0 : decode cX12_mayBuild 0 = .ok (.aload_n 0, 1) := by decide +kernel
theorem dX12_mayBuild_1 : decode cX12_mayBuild 1 = .ok (.invokevirtual 351, 3) := by decide +kernel
theorem dX12_mayBuild_4 : decode cX12_mayBuild 4 = .ok (.ifCond .ne 32, 3) := by decide +kernel
theorem dX12_mayBuild_7 : decode cX12_mayBuild 7 = .ok (.aload_n 0, 1) := by decide +kernel
theorem dX12_mayBuild_8 : decode cX12_mayBuild 8 = .ok (.aload_n 0, 1) := by decide +kernel
theorem dX12_mayBuild_9 : decode cX12_mayBuild 9 = .ok (.getfield 20, 3) := by decide +kernel
theorem dX12_mayBuild_12 : decode cX12_mayBuild 12 = .ok (.bipush 7, 2) := by decide +kernel
theorem dX12_mayBuild_14 : decode cX12_mayBuild 14 = .ok (.iaload, 1) := by decide +kernel
theorem dX12_mayBuild_15 : decode cX12_mayBuild 15 = .ok (.iconst 3, 1) := by decide +kernel
theorem dX12_mayBuild_16 : decode cX12_mayBuild 16 = .ok (.invokevirtual 174, 3) := by decide +kernel
theorem dX12_mayBuild_19 : decode cX12_mayBuild 19 = .ok (.ifCond .le 17, 3) := by decide +kernel
theorem dX12_mayBuild_22 : decode cX12_mayBuild 22 = .ok (.aload_n 0, 1) := by decide +kernel
theorem dX12_mayBuild_23 : decode cX12_mayBuild 23 = .ok (.iload_n 1, 1) := by decide +kernel
theorem dX12_mayBuild_24 : decode cX12_mayBuild 24 = .ok (.iload_n 2, 1) := by decide +kernel
theorem dX12_mayBuild_25 : decode cX12_mayBuild 25 = .ok (.iload_n 3, 1) := by decide +kernel
theorem dX12_mayBuild_26 : decode cX12_mayBuild 26 = .ok (.invokevirtual 293, 3) := by decide +kernel
theorem dX12_mayBuild_29 : decode cX12_mayBuild 29 = .ok (.ifCond .eq 7, 3) := by decide +kernel
theorem dX12_mayBuild_32 : decode cX12_mayBuild 32 = .ok (.iconst 1, 1) := by decide +kernel
theorem dX12_mayBuild_33 : decode cX12_mayBuild 33 = .ok (.goto 4, 3) := by decide +kernel
theorem dX12_mayBuild_36 : decode cX12_mayBuild 36 = .ok (.iconst 0, 1) := by decide +kernel
theorem dX12_mayBuild_37 : decode cX12_mayBuild 37 = .ok (.ireturn, 1) := by decide +kernel
theorem dX12_builds_0 : decode cX12_builds 0 = .ok (.bipush 8, 2) := by decide +kernel
theorem dX12_builds_2 : decode cX12_builds 2 = .ok (.bipush 7, 2) := by decide +kernel
theorem dX12_builds_4 : decode cX12_builds 4 = .ok (.aload_n 0, 1) := by decide +kernel
theorem dX12_builds_5 : decode cX12_builds 5 = .ok (.getfield 20, 3) := by decide +kernel
theorem dX12_builds_8 : decode cX12_builds 8 = .ok (.bipush 7, 2) := by decide +kernel
theorem dX12_builds_10 : decode cX12_builds 10 = .ok (.iaload, 1) := by decide +kernel
theorem dX12_builds_11 : decode cX12_builds 11 = .ok (.imul, 1) := by decide +kernel
theorem dX12_builds_12 : decode cX12_builds 12 = .ok (.iadd, 1) := by decide +kernel
theorem dX12_builds_13 : decode cX12_builds 13 = .ok (.iconst 3, 1) := by decide +kernel
theorem dX12_builds_14 : decode cX12_builds 14 = .ok (.iadd, 1) := by decide +kernel
theorem dX12_builds_15 : decode cX12_builds 15 = .ok (.istore 4, 2) := by decide +kernel
theorem dX12_builds_17 : decode cX12_builds 17 = .ok (.aload_n 0, 1) := by decide +kernel
theorem dX12_builds_18 : decode cX12_builds 18 = .ok (.getfield 20, 3) := by decide +kernel
theorem dX12_builds_21 : decode cX12_builds 21 = .ok (.bipush 120, 2) := by decide +kernel
theorem dX12_builds_23 : decode cX12_builds 23 = .ok (.bipush 8, 2) := by decide +kernel
theorem dX12_builds_25 : decode cX12_builds 25 = .ok (.iload_n 2, 1) := by decide +kernel
theorem dX12_builds_26 : decode cX12_builds 26 = .ok (.imul, 1) := by decide +kernel
theorem dX12_builds_27 : decode cX12_builds 27 = .ok (.iadd, 1) := by decide +kernel
theorem dX12_builds_28 : decode cX12_builds 28 = .ok (.iload_n 1, 1) := by decide +kernel
theorem dX12_builds_29 : decode cX12_builds 29 = .ok (.iadd, 1) := by decide +kernel
theorem dX12_builds_30 : decode cX12_builds 30 = .ok (.iload_n 3, 1) := by decide +kernel
theorem dX12_builds_31 : decode cX12_builds 31 = .ok (.iastore, 1) := by decide +kernel
theorem dX12_builds_32 : decode cX12_builds 32 = .ok (.aload_n 0, 1) := by decide +kernel
theorem dX12_builds_33 : decode cX12_builds 33 = .ok (.getfield 20, 3) := by decide +kernel
theorem dX12_builds_36 : decode cX12_builds 36 = .ok (.iconst 3, 1) := by decide +kernel
theorem dX12_builds_37 : decode cX12_builds 37 = .ok (.dup2, 1) := by decide +kernel
theorem dX12_builds_38 : decode cX12_builds 38 = .ok (.iaload, 1) := by decide +kernel
theorem dX12_builds_39 : decode cX12_builds 39 = .ok (.iconst 1, 1) := by decide +kernel
theorem dX12_builds_40 : decode cX12_builds 40 = .ok (.iadd, 1) := by decide +kernel
theorem dX12_builds_41 : decode cX12_builds 41 = .ok (.iastore, 1) := by decide +kernel
theorem dX12_builds_42 : decode cX12_builds 42 = .ok (.aload_n 0, 1) := by decide +kernel
theorem dX12_builds_43 : decode cX12_builds 43 = .ok (.getfield 20, 3) := by decide +kernel
theorem dX12_builds_46 : decode cX12_builds 46 = .ok (.iload 4, 2) := by decide +kernel
theorem dX12_builds_48 : decode cX12_builds 48 = .ok (.dup2, 1) := by decide +kernel
theorem dX12_builds_49 : decode cX12_builds 49 = .ok (.iaload, 1) := by decide +kernel
theorem dX12_builds_50 : decode cX12_builds 50 = .ok (.iconst 1, 1) := by decide +kernel
theorem dX12_builds_51 : decode cX12_builds 51 = .ok (.isub, 1) := by decide +kernel
theorem dX12_builds_52 : decode cX12_builds 52 = .ok (.iastore, 1) := by decide +kernel
theorem dX12_builds_53 : decode cX12_builds 53 = .ok (.aload_n 0, 1) := by decide +kernel
theorem dX12_builds_54 : decode cX12_builds 54 = .ok (.invokevirtual 444, 3) := by decide +kernel
theorem dX12_builds_57 : decode cX12_builds 57 = .ok (.aload_n 0, 1) := by decide +kernel
theorem dX12_builds_58 : decode cX12_builds 58 = .ok (.getfield 20, 3) := by decide +kernel
theorem dX12_builds_61 : decode cX12_builds 61 = .ok (.iload 4, 2) := by decide +kernel
theorem dX12_builds_63 : decode cX12_builds 63 = .ok (.iaload, 1) := by decide +kernel
theorem dX12_builds_64 : decode cX12_builds 64 = .ok (.ireturn, 1) := by decide +kernel
theorem dX12_mayPass_0 : decode cX12_mayPass 0 = .ok (.aload_n 0, 1) := by decide +kernel
theorem dX12_mayPass_1 : decode cX12_mayPass 1 = .ok (.invokevirtual 351, 3) := by decide +kernel
theorem dX12_mayPass_4 : decode cX12_mayPass 4 = .ok (.ifCond .ne 21, 3) := by decide +kernel
theorem dX12_mayPass_7 : decode cX12_mayPass 7 = .ok (.aload_n 0, 1) := by decide +kernel
theorem dX12_mayPass_8 : decode cX12_mayPass 8 = .ok (.aload_n 0, 1) := by decide +kernel
theorem dX12_mayPass_9 : decode cX12_mayPass 9 = .ok (.getfield 20, 3) := by decide +kernel
theorem dX12_mayPass_12 : decode cX12_mayPass 12 = .ok (.bipush 7, 2) := by decide +kernel
theorem dX12_mayPass_14 : decode cX12_mayPass 14 = .ok (.iaload, 1) := by decide +kernel
theorem dX12_mayPass_15 : decode cX12_mayPass 15 = .ok (.invokevirtual 382, 3) := by decide +kernel
theorem dX12_mayPass_18 : decode cX12_mayPass 18 = .ok (.ifCond .ne 7, 3) := by decide +kernel
theorem dX12_mayPass_21 : decode cX12_mayPass 21 = .ok (.iconst 1, 1) := by decide +kernel
theorem dX12_mayPass_22 : decode cX12_mayPass 22 = .ok (.goto 4, 3) := by decide +kernel
theorem dX12_mayPass_25 : decode cX12_mayPass 25 = .ok (.iconst 0, 1) := by decide +kernel
theorem dX12_mayPass_26 : decode cX12_mayPass 26 = .ok (.ireturn, 1) := by decide +kernel
theorem dX12_step_0 : decode cX12_step 0 = .ok (.iload_n 1, 1) := by decide +kernel
theorem dX12_step_1 : decode cX12_step 1 = .ok (.i2l, 1) := by decide +kernel
theorem dX12_step_2 : decode cX12_step 2 = .ok (.lconst 0, 1) := by decide +kernel
theorem dX12_step_3 : decode cX12_step 3 = .ok (.ldc2_w 357, 3) := by decide +kernel
theorem dX12_step_6 : decode cX12_step 6 = .ok (.invokestatic 106, 3) := by decide +kernel
theorem dX12_step_9 : decode cX12_step 9 = .ok (.istore_n 2, 1) := by decide +kernel
theorem dX12_step_10 : decode cX12_step 10 = .ok (.aload_n 0, 1) := by decide +kernel
theorem dX12_step_11 : decode cX12_step 11 = .ok (.iload_n 2, 1) := by decide +kernel
theorem dX12_step_12 : decode cX12_step 12 = .ok (.iload_n 2, 1) := by decide +kernel
theorem dX12_step_13 : decode cX12_step 13 = .ok (.ifCond .eq 15, 3) := by decide +kernel
theorem dX12_step_16 : decode cX12_step 16 = .ok (.aload_n 0, 1) := by decide +kernel
theorem dX12_step_17 : decode cX12_step 17 = .ok (.iload_n 1, 1) := by decide +kernel
theorem dX12_step_18 : decode cX12_step 18 = .ok (.invokevirtual 450, 3) := by decide +kernel
theorem dX12_step_21 : decode cX12_step 21 = .ok (.ifCond .eq 7, 3) := by decide +kernel
theorem dX12_step_24 : decode cX12_step 24 = .ok (.iconst 1, 1) := by decide +kernel
theorem dX12_step_25 : decode cX12_step 25 = .ok (.goto 4, 3) := by decide +kernel
theorem dX12_step_28 : decode cX12_step 28 = .ok (.iconst 0, 1) := by decide +kernel
theorem dX12_step_29 : decode cX12_step 29 = .ok (.invokevirtual 344, 3) := by decide +kernel
theorem dX12_step_32 : decode cX12_step 32 = .ok (.ifCond .ne 5, 3) := by decide +kernel
theorem dX12_step_35 : decode cX12_step 35 = .ok (.iconst 0, 1) := by decide +kernel
theorem dX12_step_36 : decode cX12_step 36 = .ok (.ireturn, 1) := by decide +kernel
theorem dX12_step_37 : decode cX12_step 37 = .ok (.aload_n 0, 1) := by decide +kernel
theorem dX12_step_38 : decode cX12_step 38 = .ok (.invokevirtual 325, 3) := by decide +kernel
theorem dX12_step_41 : decode cX12_step 41 = .ok (.aload_n 0, 1) := by decide +kernel
theorem dX12_step_42 : decode cX12_step 42 = .ok (.iload_n 1, 1) := by decide +kernel
theorem dX12_step_43 : decode cX12_step 43 = .ok (.invokevirtual 453, 3) := by decide +kernel
theorem dX12_step_46 : decode cX12_step 46 = .ok (.istore_n 3, 1) := by decide +kernel
theorem dX12_step_47 : decode cX12_step 47 = .ok (.aload_n 0, 1) := by decide +kernel
theorem dX12_step_48 : decode cX12_step 48 = .ok (.invokevirtual 456, 3) := by decide +kernel
theorem dX12_step_51 : decode cX12_step 51 = .ok (.iload_n 3, 1) := by decide +kernel
theorem dX12_step_52 : decode cX12_step 52 = .ok (.ireturn, 1) := by decide +kernel
theorem dX12_build_0 : decode cX12_build 0 = .ok (.aload_n 0, 1) := by decide +kernel
theorem dX12_build_1 : decode cX12_build 1 = .ok (.iload_n 1, 1) := by decide +kernel
theorem dX12_build_2 : decode cX12_build 2 = .ok (.iload_n 2, 1) := by decide +kernel
theorem dX12_build_3 : decode cX12_build 3 = .ok (.invokevirtual 177, 3) := by decide +kernel
theorem dX12_build_6 : decode cX12_build 6 = .ok (.istore 4, 2) := by decide +kernel
theorem dX12_build_8 : decode cX12_build 8 = .ok (.aload_n 0, 1) := by decide +kernel
theorem dX12_build_9 : decode cX12_build 9 = .ok (.iload 4, 2) := by decide +kernel
theorem dX12_build_11 : decode cX12_build 11 = .ok (.iload 4, 2) := by decide +kernel
theorem dX12_build_13 : decode cX12_build 13 = .ok (.ifCond .eq 20, 3) := by decide +kernel
theorem dX12_build_16 : decode cX12_build 16 = .ok (.aload_n 0, 1) := by decide +kernel
theorem dX12_build_17 : decode cX12_build 17 = .ok (.iload_n 1, 1) := by decide +kernel
theorem dX12_build_18 : decode cX12_build 18 = .ok (.iload_n 2, 1) := by decide +kernel
theorem dX12_build_19 : decode cX12_build 19 = .ok (.iload_n 3, 1) := by decide +kernel
theorem dX12_build_20 : decode cX12_build 20 = .ok (.invokestatic 359, 3) := by decide +kernel
theorem dX12_build_23 : decode cX12_build 23 = .ok (.invokevirtual 459, 3) := by decide +kernel
theorem dX12_build_26 : decode cX12_build 26 = .ok (.ifCond .eq 7, 3) := by decide +kernel
theorem dX12_build_29 : decode cX12_build 29 = .ok (.iconst 1, 1) := by decide +kernel
theorem dX12_build_30 : decode cX12_build 30 = .ok (.goto 4, 3) := by decide +kernel
theorem dX12_build_33 : decode cX12_build 33 = .ok (.iconst 0, 1) := by decide +kernel
theorem dX12_build_34 : decode cX12_build 34 = .ok (.invokevirtual 344, 3) := by decide +kernel
theorem dX12_build_37 : decode cX12_build 37 = .ok (.ifCond .ne 5, 3) := by decide +kernel
theorem dX12_build_40 : decode cX12_build 40 = .ok (.iconst 0, 1) := by decide +kernel
theorem dX12_build_41 : decode cX12_build 41 = .ok (.ireturn, 1) := by decide +kernel
theorem dX12_build_42 : decode cX12_build 42 = .ok (.aload_n 0, 1) := by decide +kernel
theorem dX12_build_43 : decode cX12_build 43 = .ok (.invokevirtual 325, 3) := by decide +kernel
theorem dX12_build_46 : decode cX12_build 46 = .ok (.aload_n 0, 1) := by decide +kernel
theorem dX12_build_47 : decode cX12_build 47 = .ok (.iload_n 1, 1) := by decide +kernel
theorem dX12_build_48 : decode cX12_build 48 = .ok (.iload_n 2, 1) := by decide +kernel
theorem dX12_build_49 : decode cX12_build 49 = .ok (.iload_n 3, 1) := by decide +kernel
theorem dX12_build_50 : decode cX12_build 50 = .ok (.invokestatic 359, 3) := by decide +kernel
theorem dX12_build_53 : decode cX12_build 53 = .ok (.invokevirtual 462, 3) := by decide +kernel
theorem dX12_build_56 : decode cX12_build 56 = .ok (.istore 5, 2) := by decide +kernel
theorem dX12_build_58 : decode cX12_build 58 = .ok (.aload_n 0, 1) := by decide +kernel
theorem dX12_build_59 : decode cX12_build 59 = .ok (.invokevirtual 456, 3) := by decide +kernel
theorem dX12_build_62 : decode cX12_build 62 = .ok (.iload 5, 2) := by decide +kernel
theorem dX12_build_64 : decode cX12_build 64 = .ok (.ireturn, 1) := by decide +kernel
theorem dX12_pass_0 : decode cX12_pass 0 = .ok (.aload_n 0, 1) := by decide +kernel
theorem dX12_pass_1 : decode cX12_pass 1 = .ok (.aload_n 0, 1) := by decide +kernel
theorem dX12_pass_2 : decode cX12_pass 2 = .ok (.invokevirtual 466, 3) := by decide +kernel
theorem dX12_pass_5 : decode cX12_pass 5 = .ok (.invokevirtual 98, 3) := by decide +kernel
theorem dX12_pass_8 : decode cX12_pass 8 = .ok (.ifCond .ne 5, 3) := by decide +kernel
theorem dX12_pass_11 : decode cX12_pass 11 = .ok (.iconst 0, 1) := by decide +kernel
theorem dX12_pass_12 : decode cX12_pass 12 = .ok (.ireturn, 1) := by decide +kernel
theorem dX12_pass_13 : decode cX12_pass 13 = .ok (.aload_n 0, 1) := by decide +kernel
theorem dX12_pass_14 : decode cX12_pass 14 = .ok (.invokevirtual 325, 3) := by decide +kernel
theorem dX12_pass_17 : decode cX12_pass 17 = .ok (.aload_n 0, 1) := by decide +kernel
theorem dX12_pass_18 : decode cX12_pass 18 = .ok (.invokevirtual 444, 3) := by decide +kernel
theorem dX12_pass_21 : decode cX12_pass 21 = .ok (.aload_n 0, 1) := by decide +kernel
theorem dX12_pass_22 : decode cX12_pass 22 = .ok (.invokevirtual 456, 3) := by decide +kernel
theorem dX12_pass_25 : decode cX12_pass 25 = .ok (.aload_n 0, 1) := by decide +kernel
theorem dX12_pass_26 : decode cX12_pass 26 = .ok (.invokevirtual 354, 3) := by decide +kernel
theorem dX12_pass_29 : decode cX12_pass 29 = .ok (.ireturn, 1) := by decide +kernel
theorem dX12_playsOne_0 : decode cX12_playsOne 0 = .ok (.aload_n 0, 1) := by decide +kernel
theorem dX12_playsOne_1 : decode cX12_playsOne 1 = .ok (.getfield 20, 3) := by decide +kernel
theorem dX12_playsOne_4 : decode cX12_playsOne 4 = .ok (.bipush 7, 2) := by decide +kernel
theorem dX12_playsOne_6 : decode cX12_playsOne 6 = .ok (.iaload, 1) := by decide +kernel
theorem dX12_playsOne_7 : decode cX12_playsOne 7 = .ok (.istore_n 2, 1) := by decide +kernel
theorem dX12_playsOne_8 : decode cX12_playsOne 8 = .ok (.iload_n 1, 1) := by decide +kernel
theorem dX12_playsOne_9 : decode cX12_playsOne 9 = .ok (.iconst 1, 1) := by decide +kernel
theorem dX12_playsOne_10 : decode cX12_playsOne 10 = .ok (.if_icmp .ne 20, 3) := by decide +kernel
theorem dX12_playsOne_13 : decode cX12_playsOne 13 = .ok (.aload_n 0, 1) := by decide +kernel
theorem dX12_playsOne_14 : decode cX12_playsOne 14 = .ok (.iload_n 2, 1) := by decide +kernel
theorem dX12_playsOne_15 : decode cX12_playsOne 15 = .ok (.iconst 3, 1) := by decide +kernel
theorem dX12_playsOne_16 : decode cX12_playsOne 16 = .ok (.invokevirtual 174, 3) := by decide +kernel
theorem dX12_playsOne_19 : decode cX12_playsOne 19 = .ok (.ifCond .le 11, 3) := by decide +kernel
theorem dX12_playsOne_22 : decode cX12_playsOne 22 = .ok (.aload_n 0, 1) := by decide +kernel
theorem dX12_playsOne_23 : decode cX12_playsOne 23 = .ok (.iload_n 2, 1) := by decide +kernel
theorem dX12_playsOne_24 : decode cX12_playsOne 24 = .ok (.invokevirtual 417, 3) := by decide +kernel
theorem dX12_playsOne_27 : decode cX12_playsOne 27 = .ok (.goto 4, 3) := by decide +kernel
theorem dX12_playsOne_30 : decode cX12_playsOne 30 = .ok (.iconst (-1), 1) := by decide +kernel
theorem dX12_playsOne_31 : decode cX12_playsOne 31 = .ok (.istore_n 3, 1) := by decide +kernel
theorem dX12_playsOne_32 : decode cX12_playsOne 32 = .ok (.iload_n 3, 1) := by decide +kernel
theorem dX12_playsOne_33 : decode cX12_playsOne 33 = .ok (.iconst (-1), 1) := by decide +kernel
theorem dX12_playsOne_34 : decode cX12_playsOne 34 = .ok (.if_icmp .eq 70, 3) := by decide +kernel
theorem dX12_playsOne_37 : decode cX12_playsOne 37 = .ok (.aload_n 0, 1) := by decide +kernel
theorem dX12_playsOne_38 : decode cX12_playsOne 38 = .ok (.iload_n 3, 1) := by decide +kernel
theorem dX12_playsOne_39 : decode cX12_playsOne 39 = .ok (.invokevirtual 222, 3) := by decide +kernel
theorem dX12_playsOne_42 : decode cX12_playsOne 42 = .ok (.aload_n 0, 1) := by decide +kernel
theorem dX12_playsOne_43 : decode cX12_playsOne 43 = .ok (.iload_n 2, 1) := by decide +kernel
theorem dX12_playsOne_44 : decode cX12_playsOne 44 = .ok (.invokevirtual 222, 3) := by decide +kernel
theorem dX12_playsOne_47 : decode cX12_playsOne 47 = .ok (.if_icmp .ge 57, 3) := by decide +kernel
theorem dX12_playsOne_50 : decode cX12_playsOne 50 = .ok (.aload_n 0, 1) := by decide +kernel
theorem dX12_playsOne_51 : decode cX12_playsOne 51 = .ok (.iload_n 3, 1) := by decide +kernel
theorem dX12_playsOne_52 : decode cX12_playsOne 52 = .ok (.invokevirtual 430, 3) := by decide +kernel
theorem dX12_playsOne_55 : decode cX12_playsOne 55 = .ok (.istore 4, 2) := by decide +kernel
theorem dX12_playsOne_57 : decode cX12_playsOne 57 = .ok (.iload 4, 2) := by decide +kernel
theorem dX12_playsOne_59 : decode cX12_playsOne 59 = .ok (.iconst (-1), 1) := by decide +kernel
theorem dX12_playsOne_60 : decode cX12_playsOne 60 = .ok (.if_icmp .eq 44, 3) := by decide +kernel
theorem dX12_playsOne_63 : decode cX12_playsOne 63 = .ok (.aload_n 0, 1) := by decide +kernel
theorem dX12_playsOne_64 : decode cX12_playsOne 64 = .ok (.getfield 423, 3) := by decide +kernel
theorem dX12_playsOne_67 : decode cX12_playsOne 67 = .ok (.aload_n 0, 1) := by decide +kernel
theorem dX12_playsOne_68 : decode cX12_playsOne 68 = .ok (.iload_n 3, 1) := by decide +kernel
theorem dX12_playsOne_69 : decode cX12_playsOne 69 = .ok (.invokevirtual 222, 3) := by decide +kernel
theorem dX12_playsOne_72 : decode cX12_playsOne 72 = .ok (.if_icmp .le 32, 3) := by decide +kernel
theorem dX12_playsOne_75 : decode cX12_playsOne 75 = .ok (.aload_n 0, 1) := by decide +kernel
theorem dX12_playsOne_76 : decode cX12_playsOne 76 = .ok (.aload_n 0, 1) := by decide +kernel
theorem dX12_playsOne_77 : decode cX12_playsOne 77 = .ok (.iload 4, 2) := by decide +kernel
theorem dX12_playsOne_79 : decode cX12_playsOne 79 = .ok (.bipush 10, 2) := by decide +kernel
theorem dX12_playsOne_81 : decode cX12_playsOne 81 = .ok (.irem, 1) := by decide +kernel
theorem dX12_playsOne_82 : decode cX12_playsOne 82 = .ok (.iload 4, 2) := by decide +kernel
theorem dX12_playsOne_84 : decode cX12_playsOne 84 = .ok (.bipush 10, 2) := by decide +kernel
theorem dX12_playsOne_86 : decode cX12_playsOne 86 = .ok (.idiv, 1) := by decide +kernel
theorem dX12_playsOne_87 : decode cX12_playsOne 87 = .ok (.bipush 10, 2) := by decide +kernel
theorem dX12_playsOne_89 : decode cX12_playsOne 89 = .ok (.irem, 1) := by decide +kernel
theorem dX12_playsOne_90 : decode cX12_playsOne 90 = .ok (.iconst 1, 1) := by decide +kernel
theorem dX12_playsOne_91 : decode cX12_playsOne 91 = .ok (.iload 4, 2) := by decide +kernel
theorem dX12_playsOne_93 : decode cX12_playsOne 93 = .ok (.bipush 100, 2) := by decide +kernel
theorem dX12_playsOne_95 : decode cX12_playsOne 95 = .ok (.idiv, 1) := by decide +kernel
theorem dX12_playsOne_96 : decode cX12_playsOne 96 = .ok (.iadd, 1) := by decide +kernel
theorem dX12_playsOne_97 : decode cX12_playsOne 97 = .ok (.invokevirtual 462, 3) := by decide +kernel
theorem dX12_playsOne_100 : decode cX12_playsOne 100 = .ok (.putfield 469, 3) := by decide +kernel
theorem dX12_playsOne_103 : decode cX12_playsOne 103 = .ok (.return_, 1) := by decide +kernel
theorem dX12_playsOne_104 : decode cX12_playsOne 104 = .ok (.aload_n 0, 1) := by decide +kernel
theorem dX12_playsOne_105 : decode cX12_playsOne 105 = .ok (.iload_n 2, 1) := by decide +kernel
theorem dX12_playsOne_106 : decode cX12_playsOne 106 = .ok (.invokevirtual 420, 3) := by decide +kernel
theorem dX12_playsOne_109 : decode cX12_playsOne 109 = .ok (.istore 4, 2) := by decide +kernel
theorem dX12_playsOne_111 : decode cX12_playsOne 111 = .ok (.iload 4, 2) := by decide +kernel
theorem dX12_playsOne_113 : decode cX12_playsOne 113 = .ok (.iconst (-1), 1) := by decide +kernel
theorem dX12_playsOne_114 : decode cX12_playsOne 114 = .ok (.if_icmp .ne 10, 3) := by decide +kernel
theorem dX12_playsOne_117 : decode cX12_playsOne 117 = .ok (.aload_n 0, 1) := by decide +kernel
theorem dX12_playsOne_118 : decode cX12_playsOne 118 = .ok (.invokevirtual 444, 3) := by decide +kernel
theorem dX12_playsOne_121 : decode cX12_playsOne 121 = .ok (.goto 17, 3) := by decide +kernel
theorem dX12_playsOne_124 : decode cX12_playsOne 124 = .ok (.aload_n 0, 1) := by decide +kernel
theorem dX12_playsOne_125 : decode cX12_playsOne 125 = .ok (.iload_n 2, 1) := by decide +kernel
theorem dX12_playsOne_126 : decode cX12_playsOne 126 = .ok (.iload 4, 2) := by decide +kernel
theorem dX12_playsOne_128 : decode cX12_playsOne 128 = .ok (.aload_n 0, 1) := by decide +kernel
theorem dX12_playsOne_129 : decode cX12_playsOne 129 = .ok (.iload_n 2, 1) := by decide +kernel
theorem dX12_playsOne_130 : decode cX12_playsOne 130 = .ok (.iload 4, 2) := by decide +kernel
theorem dX12_playsOne_132 : decode cX12_playsOne 132 = .ok (.invokevirtual 379, 3) := by decide +kernel
theorem dX12_playsOne_135 : decode cX12_playsOne 135 = .ok (.invokevirtual 447, 3) := by decide +kernel
theorem dX12_playsOne_138 : decode cX12_playsOne 138 = .ok (.return_, 1) := by decide +kernel
theorem dX12_plays_0 : decode cX12_plays 0 = .ok (.iconst 0, 1) := by decide +kernel
theorem dX12_plays_1 : decode cX12_plays 1 = .ok (.istore_n 3, 1) := by decide +kernel
theorem dX12_plays_2 : decode cX12_plays 2 = .ok (.iload_n 3, 1) := by decide +kernel
theorem dX12_plays_3 : decode cX12_plays 3 = .ok (.iload_n 2, 1) := by decide +kernel
theorem dX12_plays_4 : decode cX12_plays 4 = .ok (.if_icmp .ge 21, 3) := by decide +kernel
theorem dX12_plays_7 : decode cX12_plays 7 = .ok (.aload_n 0, 1) := by decide +kernel
theorem dX12_plays_8 : decode cX12_plays 8 = .ok (.invokevirtual 351, 3) := by decide +kernel
theorem dX12_plays_11 : decode cX12_plays 11 = .ok (.ifCond .ne 14, 3) := by decide +kernel
theorem dX12_plays_14 : decode cX12_plays 14 = .ok (.aload_n 0, 1) := by decide +kernel
theorem dX12_plays_15 : decode cX12_plays 15 = .ok (.iload_n 1, 1) := by decide +kernel
theorem dX12_plays_16 : decode cX12_plays 16 = .ok (.invokevirtual 472, 3) := by decide +kernel
theorem dX12_plays_19 : decode cX12_plays 19 = .ok (.iinc 3 1, 3) := by decide +kernel
theorem dX12_plays_22 : decode cX12_plays 22 = .ok (.goto (-20), 3) := by decide +kernel
theorem dX12_plays_25 : decode cX12_plays 25 = .ok (.iload_n 3, 1) := by decide +kernel
theorem dX12_plays_26 : decode cX12_plays 26 = .ok (.ireturn, 1) := by decide +kernel
theorem dX12_play_0 : decode cX12_play 0 = .ok (.aload_n 0, 1) := by decide +kernel
theorem dX12_play_1 : decode cX12_play 1 = .ok (.iload_n 1, 1) := by decide +kernel
theorem dX12_play_2 : decode cX12_play 2 = .ok (.i2l, 1) := by decide +kernel
theorem dX12_play_3 : decode cX12_play 3 = .ok (.lconst 0, 1) := by decide +kernel
theorem dX12_play_4 : decode cX12_play 4 = .ok (.lconst 1, 1) := by decide +kernel
theorem dX12_play_5 : decode cX12_play 5 = .ok (.invokestatic 106, 3) := by decide +kernel
theorem dX12_play_8 : decode cX12_play 8 = .ok (.ifCond .eq 19, 3) := by decide +kernel
theorem dX12_play_11 : decode cX12_play 11 = .ok (.iload_n 2, 1) := by decide +kernel
theorem dX12_play_12 : decode cX12_play 12 = .ok (.i2l, 1) := by decide +kernel
theorem dX12_play_13 : decode cX12_play 13 = .ok (.lconst 1, 1) := by decide +kernel
theorem dX12_play_14 : decode cX12_play 14 = .ok (.ldc2_w 433, 3) := by decide +kernel
theorem dX12_play_17 : decode cX12_play 17 = .ok (.invokestatic 106, 3) := by decide +kernel
theorem dX12_play_20 : decode cX12_play 20 = .ok (.ifCond .eq 7, 3) := by decide +kernel
theorem dX12_play_23 : decode cX12_play 23 = .ok (.iconst 1, 1) := by decide +kernel
theorem dX12_play_24 : decode cX12_play 24 = .ok (.goto 4, 3) := by decide +kernel
theorem dX12_play_27 : decode cX12_play 27 = .ok (.iconst 0, 1) := by decide +kernel
theorem dX12_play_28 : decode cX12_play 28 = .ok (.invokevirtual 98, 3) := by decide +kernel
theorem dX12_play_31 : decode cX12_play 31 = .ok (.ifCond .ne 5, 3) := by decide +kernel
theorem dX12_play_34 : decode cX12_play 34 = .ok (.iconst 0, 1) := by decide +kernel
theorem dX12_play_35 : decode cX12_play 35 = .ok (.ireturn, 1) := by decide +kernel
theorem dX12_play_36 : decode cX12_play 36 = .ok (.aload_n 0, 1) := by decide +kernel
theorem dX12_play_37 : decode cX12_play 37 = .ok (.invokevirtual 325, 3) := by decide +kernel
theorem dX12_play_40 : decode cX12_play 40 = .ok (.aload_n 0, 1) := by decide +kernel
theorem dX12_play_41 : decode cX12_play 41 = .ok (.iload_n 1, 1) := by decide +kernel
theorem dX12_play_42 : decode cX12_play 42 = .ok (.iload_n 2, 1) := by decide +kernel
theorem dX12_play_43 : decode cX12_play 43 = .ok (.invokevirtual 438, 3) := by decide +kernel
theorem dX12_play_46 : decode cX12_play 46 = .ok (.istore_n 3, 1) := by decide +kernel
theorem dX12_play_47 : decode cX12_play 47 = .ok (.aload_n 0, 1) := by decide +kernel
theorem dX12_play_48 : decode cX12_play 48 = .ok (.invokevirtual 456, 3) := by decide +kernel
theorem dX12_play_51 : decode cX12_play 51 = .ok (.iload_n 3, 1) := by decide +kernel
theorem dX12_play_52 : decode cX12_play 52 = .ok (.ireturn, 1) := by decide +kernel
theorem dX12_commandHere_0 : decode cX12_commandHere 0 = .ok (.aload_n 0, 1) := by decide +kernel
theorem dX12_commandHere_1 : decode cX12_commandHere 1 = .ok (.ldc2_w 475, 3) := by decide +kernel
theorem dX12_commandHere_4 : decode cX12_commandHere 4 = .ok (.invokevirtual 156, 3) := by decide +kernel
theorem dX12_commandHere_7 : decode cX12_commandHere 7 = .ok (.ifCond .eq 5, 3) := by decide +kernel
theorem dX12_commandHere_10 : decode cX12_commandHere 10 = .ok (.iconst 0, 1) := by decide +kernel
theorem dX12_commandHere_11 : decode cX12_commandHere 11 = .ok (.ireturn, 1) := by decide +kernel
theorem dX12_commandHere_12 : decode cX12_commandHere 12 = .ok (.aload_n 0, 1) := by decide +kernel
theorem dX12_commandHere_13 : decode cX12_commandHere 13 = .ok (.ldc2_w 477, 3) := by decide +kernel
theorem dX12_commandHere_16 : decode cX12_commandHere 16 = .ok (.invokevirtual 156, 3) := by decide +kernel
theorem dX12_commandHere_19 : decode cX12_commandHere 19 = .ok (.ifCond .eq 5, 3) := by decide +kernel
theorem dX12_commandHere_22 : decode cX12_commandHere 22 = .ok (.iconst 1, 1) := by decide +kernel
theorem dX12_commandHere_23 : decode cX12_commandHere 23 = .ok (.ireturn, 1) := by decide +kernel
theorem dX12_commandHere_24 : decode cX12_commandHere 24 = .ok (.aload_n 0, 1) := by decide +kernel
theorem dX12_commandHere_25 : decode cX12_commandHere 25 = .ok (.ldc2_w 479, 3) := by decide +kernel
theorem dX12_commandHere_28 : decode cX12_commandHere 28 = .ok (.invokevirtual 156, 3) := by decide +kernel
theorem dX12_commandHere_31 : decode cX12_commandHere 31 = .ok (.ifCond .eq 5, 3) := by decide +kernel
theorem dX12_commandHere_34 : decode cX12_commandHere 34 = .ok (.iconst 2, 1) := by decide +kernel
theorem dX12_commandHere_35 : decode cX12_commandHere 35 = .ok (.ireturn, 1) := by decide +kernel
theorem dX12_commandHere_36 : decode cX12_commandHere 36 = .ok (.aload_n 0, 1) := by decide +kernel
theorem dX12_commandHere_37 : decode cX12_commandHere 37 = .ok (.ldc2_w 481, 3) := by decide +kernel
theorem dX12_commandHere_40 : decode cX12_commandHere 40 = .ok (.invokevirtual 156, 3) := by decide +kernel
theorem dX12_commandHere_43 : decode cX12_commandHere 43 = .ok (.ifCond .eq 5, 3) := by decide +kernel
theorem dX12_commandHere_46 : decode cX12_commandHere 46 = .ok (.iconst 3, 1) := by decide +kernel
theorem dX12_commandHere_47 : decode cX12_commandHere 47 = .ok (.ireturn, 1) := by decide +kernel
theorem dX12_commandHere_48 : decode cX12_commandHere 48 = .ok (.aload_n 0, 1) := by decide +kernel
theorem dX12_commandHere_49 : decode cX12_commandHere 49 = .ok (.ldc2_w 483, 3) := by decide +kernel
theorem dX12_commandHere_52 : decode cX12_commandHere 52 = .ok (.invokevirtual 156, 3) := by decide +kernel
theorem dX12_commandHere_55 : decode cX12_commandHere 55 = .ok (.ifCond .eq 7, 3) := by decide +kernel
theorem dX12_commandHere_58 : decode cX12_commandHere 58 = .ok (.iconst 4, 1) := by decide +kernel
theorem dX12_commandHere_59 : decode cX12_commandHere 59 = .ok (.goto 4, 3) := by decide +kernel
theorem dX12_commandHere_62 : decode cX12_commandHere 62 = .ok (.iconst (-1), 1) := by decide +kernel
theorem dX12_commandHere_63 : decode cX12_commandHere 63 = .ok (.ireturn, 1) := by decide +kernel
theorem dX12_command_0 : decode cX12_command 0 = .ok (.aload_n 0, 1) := by decide +kernel
theorem dX12_command_1 : decode cX12_command 1 = .ok (.invokevirtual 485, 3) := by decide +kernel
theorem dX12_command_4 : decode cX12_command 4 = .ok (.istore_n 1, 1) := by decide +kernel
theorem dX12_command_5 : decode cX12_command 5 = .ok (.iload_n 1, 1) := by decide +kernel
theorem dX12_command_6 : decode cX12_command 6 = .ok (.iconst (-1), 1) := by decide +kernel
theorem dX12_command_7 : decode cX12_command 7 = .ok (.if_icmp .ne 8, 3) := by decide +kernel
theorem dX12_command_10 : decode cX12_command 10 = .ok (.aload_n 0, 1) := by decide +kernel
theorem dX12_command_11 : decode cX12_command 11 = .ok (.iconst 1, 1) := by decide +kernel
theorem dX12_command_12 : decode cX12_command 12 = .ok (.invokevirtual 150, 3) := by decide +kernel
theorem dX12_command_15 : decode cX12_command 15 = .ok (.iload_n 1, 1) := by decide +kernel
theorem dX12_command_16 : decode cX12_command 16 = .ok (.iconst 4, 1) := by decide +kernel
theorem dX12_command_17 : decode cX12_command 17 = .ok (.if_icmp .ne 16, 3) := by decide +kernel
theorem dX12_command_20 : decode cX12_command 20 = .ok (.aload_n 0, 1) := by decide +kernel
theorem dX12_command_21 : decode cX12_command 21 = .ok (.getfield 488, 3) := by decide +kernel
theorem dX12_command_24 : decode cX12_command 24 = .ok (.iconst 2, 1) := by decide +kernel
theorem dX12_command_25 : decode cX12_command 25 = .ok (.if_icmp .ne 8, 3) := by decide +kernel
theorem dX12_command_28 : decode cX12_command 28 = .ok (.aload_n 0, 1) := by decide +kernel
theorem dX12_command_29 : decode cX12_command 29 = .ok (.iconst 3, 1) := by decide +kernel
theorem dX12_command_30 : decode cX12_command 30 = .ok (.invokevirtual 150, 3) := by decide +kernel
theorem dX12_command_33 : decode cX12_command 33 = .ok (.aload_n 0, 1) := by decide +kernel
theorem dX12_command_34 : decode cX12_command 34 = .ok (.getfield 491, 3) := by decide +kernel
theorem dX12_command_37 : decode cX12_command 37 = .ok (.bipush 30, 2) := by decide +kernel
theorem dX12_command_39 : decode cX12_command 39 = .ok (.if_icmp .ne 9, 3) := by decide +kernel
theorem dX12_command_42 : decode cX12_command 42 = .ok (.aload_n 0, 1) := by decide +kernel
theorem dX12_command_43 : decode cX12_command 43 = .ok (.bipush 6, 2) := by decide +kernel
theorem dX12_command_45 : decode cX12_command 45 = .ok (.invokevirtual 150, 3) := by decide +kernel
theorem dX12_command_48 : decode cX12_command 48 = .ok (.aload_n 0, 1) := by decide +kernel
theorem dX12_command_49 : decode cX12_command 49 = .ok (.invokevirtual 143, 3) := by decide +kernel
theorem dX12_command_52 : decode cX12_command 52 = .ok (.ifCond .ne 4, 3) := by decide +kernel
theorem dX12_command_55 : decode cX12_command 55 = .ok (.return_, 1) := by decide +kernel
theorem dX12_command_56 : decode cX12_command 56 = .ok (.aload_n 0, 1) := by decide +kernel
theorem dX12_command_57 : decode cX12_command 57 = .ok (.dup, 1) := by decide +kernel
theorem dX12_command_58 : decode cX12_command 58 = .ok (.getfield 491, 3) := by decide +kernel
theorem dX12_command_61 : decode cX12_command 61 = .ok (.iconst 1, 1) := by decide +kernel
theorem dX12_command_62 : decode cX12_command 62 = .ok (.iadd, 1) := by decide +kernel
theorem dX12_command_63 : decode cX12_command 63 = .ok (.putfield 491, 3) := by decide +kernel
theorem dX12_command_66 : decode cX12_command 66 = .ok (.aload_n 0, 1) := by decide +kernel
theorem dX12_command_67 : decode cX12_command 67 = .ok (.invokevirtual 153, 3) := by decide +kernel
theorem dX12_command_70 : decode cX12_command 70 = .ok (.aload_n 0, 1) := by decide +kernel
theorem dX12_command_71 : decode cX12_command 71 = .ok (.getfield 494, 3) := by decide +kernel
theorem dX12_command_74 : decode cX12_command 74 = .ok (.istore_n 2, 1) := by decide +kernel
theorem dX12_command_75 : decode cX12_command 75 = .ok (.aload_n 0, 1) := by decide +kernel
theorem dX12_command_76 : decode cX12_command 76 = .ok (.getfield 64, 3) := by decide +kernel
theorem dX12_command_79 : decode cX12_command 79 = .ok (.iload_n 2, 1) := by decide +kernel
theorem dX12_command_80 : decode cX12_command 80 = .ok (.iload_n 1, 1) := by decide +kernel
theorem dX12_command_81 : decode cX12_command 81 = .ok (.iastore, 1) := by decide +kernel
theorem dX12_command_82 : decode cX12_command 82 = .ok (.iload_n 1, 1) := by decide +kernel
theorem dX12_command_83 : decode cX12_command 83 = .ok (.ifCond .ne 13, 3) := by decide +kernel
theorem dX12_command_86 : decode cX12_command 86 = .ok (.aload_n 0, 1) := by decide +kernel
theorem dX12_command_87 : decode cX12_command 87 = .ok (.getfield 67, 3) := by decide +kernel
theorem dX12_command_90 : decode cX12_command 90 = .ok (.iload_n 2, 1) := by decide +kernel
theorem dX12_command_91 : decode cX12_command 91 = .ok (.aload_n 0, 1) := by decide +kernel
theorem dX12_command_92 : decode cX12_command 92 = .ok (.invokevirtual 497, 3) := by decide +kernel
theorem dX12_command_95 : decode cX12_command 95 = .ok (.iastore, 1) := by decide +kernel
theorem dX12_command_96 : decode cX12_command 96 = .ok (.iload_n 1, 1) := by decide +kernel
theorem dX12_command_97 : decode cX12_command 97 = .ok (.iconst 1, 1) := by decide +kernel
theorem dX12_command_98 : decode cX12_command 98 = .ok (.if_icmp .eq 8, 3) := by decide +kernel
theorem dX12_command_101 : decode cX12_command 101 = .ok (.iload_n 1, 1) := by decide +kernel
theorem dX12_command_102 : decode cX12_command 102 = .ok (.iconst 3, 1) := by decide +kernel
theorem dX12_command_103 : decode cX12_command 103 = .ok (.if_icmp .ne 16, 3) := by decide +kernel
theorem dX12_command_106 : decode cX12_command 106 = .ok (.aload_n 0, 1) := by decide +kernel
theorem dX12_command_107 : decode cX12_command 107 = .ok (.getfield 67, 3) := by decide +kernel
theorem dX12_command_110 : decode cX12_command 110 = .ok (.iload_n 2, 1) := by decide +kernel
theorem dX12_command_111 : decode cX12_command 111 = .ok (.aload_n 0, 1) := by decide +kernel
theorem dX12_command_112 : decode cX12_command 112 = .ok (.iconst 0, 1) := by decide +kernel
theorem dX12_command_113 : decode cX12_command 113 = .ok (.bipush 99, 2) := by decide +kernel
theorem dX12_command_115 : decode cX12_command 115 = .ok (.invokevirtual 246, 3) := by decide +kernel
theorem dX12_command_118 : decode cX12_command 118 = .ok (.iastore, 1) := by decide +kernel
theorem dX12_command_119 : decode cX12_command 119 = .ok (.iload_n 1, 1) := by decide +kernel
theorem dX12_command_120 : decode cX12_command 120 = .ok (.iconst 1, 1) := by decide +kernel
theorem dX12_command_121 : decode cX12_command 121 = .ok (.if_icmp .eq 8, 3) := by decide +kernel
theorem dX12_command_124 : decode cX12_command 124 = .ok (.iload_n 1, 1) := by decide +kernel
theorem dX12_command_125 : decode cX12_command 125 = .ok (.iconst 3, 1) := by decide +kernel
theorem dX12_command_126 : decode cX12_command 126 = .ok (.if_icmp .ne 16, 3) := by decide +kernel
theorem dX12_command_129 : decode cX12_command 129 = .ok (.aload_n 0, 1) := by decide +kernel
theorem dX12_command_130 : decode cX12_command 130 = .ok (.getfield 70, 3) := by decide +kernel
theorem dX12_command_133 : decode cX12_command 133 = .ok (.iload_n 2, 1) := by decide +kernel
theorem dX12_command_134 : decode cX12_command 134 = .ok (.aload_n 0, 1) := by decide +kernel
theorem dX12_command_135 : decode cX12_command 135 = .ok (.iconst 0, 1) := by decide +kernel
theorem dX12_command_136 : decode cX12_command 136 = .ok (.bipush 99, 2) := by decide +kernel
theorem dX12_command_138 : decode cX12_command 138 = .ok (.invokevirtual 246, 3) := by decide +kernel
theorem dX12_command_141 : decode cX12_command 141 = .ok (.iastore, 1) := by decide +kernel
theorem dX12_command_142 : decode cX12_command 142 = .ok (.iload_n 1, 1) := by decide +kernel
theorem dX12_command_143 : decode cX12_command 143 = .ok (.iconst 1, 1) := by decide +kernel
theorem dX12_command_144 : decode cX12_command 144 = .ok (.if_icmp .ne 13, 3) := by decide +kernel
theorem dX12_command_147 : decode cX12_command 147 = .ok (.aload_n 0, 1) := by decide +kernel
theorem dX12_command_148 : decode cX12_command 148 = .ok (.getfield 73, 3) := by decide +kernel
theorem dX12_command_151 : decode cX12_command 151 = .ok (.iload_n 2, 1) := by decide +kernel
theorem dX12_command_152 : decode cX12_command 152 = .ok (.aload_n 0, 1) := by decide +kernel
theorem dX12_command_153 : decode cX12_command 153 = .ok (.invokevirtual 290, 3) := by decide +kernel
theorem dX12_command_156 : decode cX12_command 156 = .ok (.iastore, 1) := by decide +kernel
theorem dX12_command_157 : decode cX12_command 157 = .ok (.iload_n 1, 1) := by decide +kernel
theorem dX12_command_158 : decode cX12_command 158 = .ok (.iconst 4, 1) := by decide +kernel
theorem dX12_command_159 : decode cX12_command 159 = .ok (.if_icmp .ne 16, 3) := by decide +kernel
theorem dX12_command_162 : decode cX12_command 162 = .ok (.aload_n 0, 1) := by decide +kernel
theorem dX12_command_163 : decode cX12_command 163 = .ok (.getfield 67, 3) := by decide +kernel
theorem dX12_command_166 : decode cX12_command 166 = .ok (.iload_n 2, 1) := by decide +kernel
theorem dX12_command_167 : decode cX12_command 167 = .ok (.aload_n 0, 1) := by decide +kernel
theorem dX12_command_168 : decode cX12_command 168 = .ok (.iconst 1, 1) := by decide +kernel
theorem dX12_command_169 : decode cX12_command 169 = .ok (.bipush 20, 2) := by decide +kernel
theorem dX12_command_171 : decode cX12_command 171 = .ok (.invokevirtual 246, 3) := by decide +kernel
theorem dX12_command_174 : decode cX12_command 174 = .ok (.iastore, 1) := by decide +kernel
theorem dX12_command_175 : decode cX12_command 175 = .ok (.iload_n 1, 1) := by decide +kernel
theorem dX12_command_176 : decode cX12_command 176 = .ok (.iconst 4, 1) := by decide +kernel
theorem dX12_command_177 : decode cX12_command 177 = .ok (.if_icmp .ne 9, 3) := by decide +kernel
theorem dX12_command_180 : decode cX12_command 180 = .ok (.aload_n 0, 1) := by decide +kernel
theorem dX12_command_181 : decode cX12_command 181 = .ok (.bipush 40, 2) := by decide +kernel
theorem dX12_command_183 : decode cX12_command 183 = .ok (.invokevirtual 319, 3) := by decide +kernel
theorem dX12_command_186 : decode cX12_command 186 = .ok (.aload_n 0, 1) := by decide +kernel
theorem dX12_command_187 : decode cX12_command 187 = .ok (.invokevirtual 143, 3) := by decide +kernel
theorem dX12_command_190 : decode cX12_command 190 = .ok (.ifCond .ne 4, 3) := by decide +kernel
theorem dX12_command_193 : decode cX12_command 193 = .ok (.return_, 1) := by decide +kernel
theorem dX12_command_194 : decode cX12_command 194 = .ok (.aload_n 0, 1) := by decide +kernel
theorem dX12_command_195 : decode cX12_command 195 = .ok (.dup, 1) := by decide +kernel
theorem dX12_command_196 : decode cX12_command 196 = .ok (.getfield 494, 3) := by decide +kernel
theorem dX12_command_199 : decode cX12_command 199 = .ok (.iconst 1, 1) := by decide +kernel
theorem dX12_command_200 : decode cX12_command 200 = .ok (.iadd, 1) := by decide +kernel
theorem dX12_command_201 : decode cX12_command 201 = .ok (.putfield 494, 3) := by decide +kernel
theorem dX12_command_204 : decode cX12_command 204 = .ok (.aload_n 0, 1) := by decide +kernel
theorem dX12_command_205 : decode cX12_command 205 = .ok (.dup, 1) := by decide +kernel
theorem dX12_command_206 : decode cX12_command 206 = .ok (.getfield 488, 3) := by decide +kernel
theorem dX12_command_209 : decode cX12_command 209 = .ok (.iload_n 1, 1) := by decide +kernel
theorem dX12_command_210 : decode cX12_command 210 = .ok (.iconst 4, 1) := by decide +kernel
theorem dX12_command_211 : decode cX12_command 211 = .ok (.if_icmp .ne 7, 3) := by decide +kernel
theorem dX12_command_214 : decode cX12_command 214 = .ok (.iconst 1, 1) := by decide +kernel
theorem dX12_command_215 : decode cX12_command 215 = .ok (.goto 4, 3) := by decide +kernel
theorem dX12_command_218 : decode cX12_command 218 = .ok (.iconst 0, 1) := by decide +kernel
theorem dX12_command_219 : decode cX12_command 219 = .ok (.invokestatic 91, 3) := by decide +kernel
theorem dX12_command_222 : decode cX12_command 222 = .ok (.iadd, 1) := by decide +kernel
theorem dX12_command_223 : decode cX12_command 223 = .ok (.putfield 488, 3) := by decide +kernel
theorem dX12_command_226 : decode cX12_command 226 = .ok (.return_, 1) := by decide +kernel
theorem dX12_sideTold_0 : decode cX12_sideTold 0 = .ok (.aload_n 0, 1) := by decide +kernel
theorem dX12_sideTold_1 : decode cX12_sideTold 1 = .ok (.invokevirtual 262, 3) := by decide +kernel
theorem dX12_sideTold_4 : decode cX12_sideTold 4 = .ok (.istore_n 1, 1) := by decide +kernel
theorem dX12_sideTold_5 : decode cX12_sideTold 5 = .ok (.aload_n 0, 1) := by decide +kernel
theorem dX12_sideTold_6 : decode cX12_sideTold 6 = .ok (.invokevirtual 143, 3) := by decide +kernel
theorem dX12_sideTold_9 : decode cX12_sideTold 9 = .ok (.ifCond .eq 13, 3) := by decide +kernel
theorem dX12_sideTold_12 : decode cX12_sideTold 12 = .ok (.iload_n 1, 1) := by decide +kernel
theorem dX12_sideTold_13 : decode cX12_sideTold 13 = .ok (.iconst (-1), 1) := by decide +kernel
theorem dX12_sideTold_14 : decode cX12_sideTold 14 = .ok (.if_icmp .ne 8, 3) := by decide +kernel
theorem dX12_sideTold_17 : decode cX12_sideTold 17 = .ok (.aload_n 0, 1) := by decide +kernel
theorem dX12_sideTold_18 : decode cX12_sideTold 18 = .ok (.iconst 1, 1) := by decide +kernel
theorem dX12_sideTold_19 : decode cX12_sideTold 19 = .ok (.invokevirtual 150, 3) := by decide +kernel
theorem dX12_sideTold_22 : decode cX12_sideTold 22 = .ok (.aload_n 0, 1) := by decide +kernel
theorem dX12_sideTold_23 : decode cX12_sideTold 23 = .ok (.invokevirtual 143, 3) := by decide +kernel
theorem dX12_sideTold_26 : decode cX12_sideTold 26 = .ok (.ifCond .eq 7, 3) := by decide +kernel
theorem dX12_sideTold_29 : decode cX12_sideTold 29 = .ok (.aload_n 0, 1) := by decide +kernel
theorem dX12_sideTold_30 : decode cX12_sideTold 30 = .ok (.invokevirtual 153, 3) := by decide +kernel
theorem dX12_sideTold_33 : decode cX12_sideTold 33 = .ok (.iload_n 1, 1) := by decide +kernel
theorem dX12_sideTold_34 : decode cX12_sideTold 34 = .ok (.ireturn, 1) := by decide +kernel
theorem dX12_ends_0 : decode cX12_ends 0 = .ok (.aload_n 0, 1) := by decide +kernel
theorem dX12_ends_1 : decode cX12_ends 1 = .ok (.getfield 488, 3) := by decide +kernel
theorem dX12_ends_4 : decode cX12_ends 4 = .ok (.ifCond .le 55, 3) := by decide +kernel
theorem dX12_ends_7 : decode cX12_ends 7 = .ok (.aload_n 0, 1) := by decide +kernel
theorem dX12_ends_8 : decode cX12_ends 8 = .ok (.bipush 41, 2) := by decide +kernel
theorem dX12_ends_10 : decode cX12_ends 10 = .ok (.invokevirtual 147, 3) := by decide +kernel
theorem dX12_ends_13 : decode cX12_ends 13 = .ok (.ifCond .eq 46, 3) := by decide +kernel
theorem dX12_ends_16 : decode cX12_ends 16 = .ok (.aload_n 0, 1) := by decide +kernel
theorem dX12_ends_17 : decode cX12_ends 17 = .ok (.dup, 1) := by decide +kernel
theorem dX12_ends_18 : decode cX12_ends 18 = .ok (.getfield 488, 3) := by decide +kernel
theorem dX12_ends_21 : decode cX12_ends 21 = .ok (.iconst 1, 1) := by decide +kernel
theorem dX12_ends_22 : decode cX12_ends 22 = .ok (.isub, 1) := by decide +kernel
theorem dX12_ends_23 : decode cX12_ends 23 = .ok (.putfield 488, 3) := by decide +kernel
theorem dX12_ends_26 : decode cX12_ends 26 = .ok (.aload_n 0, 1) := by decide +kernel
theorem dX12_ends_27 : decode cX12_ends 27 = .ok (.getfield 64, 3) := by decide +kernel
theorem dX12_ends_30 : decode cX12_ends 30 = .ok (.aload_n 0, 1) := by decide +kernel
theorem dX12_ends_31 : decode cX12_ends 31 = .ok (.getfield 494, 3) := by decide +kernel
theorem dX12_ends_34 : decode cX12_ends 34 = .ok (.iconst 5, 1) := by decide +kernel
theorem dX12_ends_35 : decode cX12_ends 35 = .ok (.iastore, 1) := by decide +kernel
theorem dX12_ends_36 : decode cX12_ends 36 = .ok (.aload_n 0, 1) := by decide +kernel
theorem dX12_ends_37 : decode cX12_ends 37 = .ok (.dup, 1) := by decide +kernel
theorem dX12_ends_38 : decode cX12_ends 38 = .ok (.getfield 494, 3) := by decide +kernel
theorem dX12_ends_41 : decode cX12_ends 41 = .ok (.iconst 1, 1) := by decide +kernel
theorem dX12_ends_42 : decode cX12_ends 42 = .ok (.iadd, 1) := by decide +kernel
theorem dX12_ends_43 : decode cX12_ends 43 = .ok (.putfield 494, 3) := by decide +kernel
theorem dX12_ends_46 : decode cX12_ends 46 = .ok (.aload_n 0, 1) := by decide +kernel
theorem dX12_ends_47 : decode cX12_ends 47 = .ok (.invokevirtual 153, 3) := by decide +kernel
theorem dX12_ends_50 : decode cX12_ends 50 = .ok (.aload_n 0, 1) := by decide +kernel
theorem dX12_ends_51 : decode cX12_ends 51 = .ok (.bipush 59, 2) := by decide +kernel
theorem dX12_ends_53 : decode cX12_ends 53 = .ok (.invokevirtual 319, 3) := by decide +kernel
theorem dX12_ends_56 : decode cX12_ends 56 = .ok (.goto (-56), 3) := by decide +kernel
theorem dX12_ends_59 : decode cX12_ends 59 = .ok (.return_, 1) := by decide +kernel
theorem dX12_does_0 : decode cX12_does 0 = .ok (.iload_n 1, 1) := by decide +kernel
theorem dX12_does_1 : decode cX12_does 1 = .ok (.ifCond .ne 11, 3) := by decide +kernel
theorem dX12_does_4 : decode cX12_does 4 = .ok (.aload_n 0, 1) := by decide +kernel
theorem dX12_does_5 : decode cX12_does 5 = .ok (.iload_n 2, 1) := by decide +kernel
theorem dX12_does_6 : decode cX12_does 6 = .ok (.invokevirtual 450, 3) := by decide +kernel
theorem dX12_does_9 : decode cX12_does 9 = .ok (.goto 75, 3) := by decide +kernel
theorem dX12_does_12 : decode cX12_does 12 = .ok (.iload_n 1, 1) := by decide +kernel
theorem dX12_does_13 : decode cX12_does 13 = .ok (.iconst 1, 1) := by decide +kernel
theorem dX12_does_14 : decode cX12_does 14 = .ok (.if_icmp .ne 31, 3) := by decide +kernel
theorem dX12_does_17 : decode cX12_does 17 = .ok (.aload_n 0, 1) := by decide +kernel
theorem dX12_does_18 : decode cX12_does 18 = .ok (.iload_n 2, 1) := by decide +kernel
theorem dX12_does_19 : decode cX12_does 19 = .ok (.iload_n 3, 1) := by decide +kernel
theorem dX12_does_20 : decode cX12_does 20 = .ok (.invokevirtual 177, 3) := by decide +kernel
theorem dX12_does_23 : decode cX12_does 23 = .ok (.ifCond .eq 18, 3) := by decide +kernel
theorem dX12_does_26 : decode cX12_does 26 = .ok (.aload_n 0, 1) := by decide +kernel
theorem dX12_does_27 : decode cX12_does 27 = .ok (.iload_n 2, 1) := by decide +kernel
theorem dX12_does_28 : decode cX12_does 28 = .ok (.iload_n 3, 1) := by decide +kernel
theorem dX12_does_29 : decode cX12_does 29 = .ok (.iload 4, 2) := by decide +kernel
theorem dX12_does_31 : decode cX12_does 31 = .ok (.invokevirtual 459, 3) := by decide +kernel
theorem dX12_does_34 : decode cX12_does 34 = .ok (.ifCond .eq 7, 3) := by decide +kernel
theorem dX12_does_37 : decode cX12_does 37 = .ok (.iconst 1, 1) := by decide +kernel
theorem dX12_does_38 : decode cX12_does 38 = .ok (.goto 46, 3) := by decide +kernel
theorem dX12_does_41 : decode cX12_does 41 = .ok (.iconst 0, 1) := by decide +kernel
theorem dX12_does_42 : decode cX12_does 42 = .ok (.goto 42, 3) := by decide +kernel
theorem dX12_does_45 : decode cX12_does 45 = .ok (.iload_n 1, 1) := by decide +kernel
theorem dX12_does_46 : decode cX12_does 46 = .ok (.iconst 2, 1) := by decide +kernel
theorem dX12_does_47 : decode cX12_does 47 = .ok (.if_icmp .ne 10, 3) := by decide +kernel
theorem dX12_does_50 : decode cX12_does 50 = .ok (.aload_n 0, 1) := by decide +kernel
theorem dX12_does_51 : decode cX12_does 51 = .ok (.invokevirtual 466, 3) := by decide +kernel
theorem dX12_does_54 : decode cX12_does 54 = .ok (.goto 30, 3) := by decide +kernel
theorem dX12_does_57 : decode cX12_does 57 = .ok (.iload_n 2, 1) := by decide +kernel
theorem dX12_does_58 : decode cX12_does 58 = .ok (.i2l, 1) := by decide +kernel
theorem dX12_does_59 : decode cX12_does 59 = .ok (.lconst 0, 1) := by decide +kernel
theorem dX12_does_60 : decode cX12_does 60 = .ok (.lconst 1, 1) := by decide +kernel
theorem dX12_does_61 : decode cX12_does 61 = .ok (.invokestatic 106, 3) := by decide +kernel
theorem dX12_does_64 : decode cX12_does 64 = .ok (.ifCond .eq 19, 3) := by decide +kernel
theorem dX12_does_67 : decode cX12_does 67 = .ok (.iload_n 3, 1) := by decide +kernel
theorem dX12_does_68 : decode cX12_does 68 = .ok (.i2l, 1) := by decide +kernel
theorem dX12_does_69 : decode cX12_does 69 = .ok (.lconst 1, 1) := by decide +kernel
theorem dX12_does_70 : decode cX12_does 70 = .ok (.ldc2_w 433, 3) := by decide +kernel
theorem dX12_does_73 : decode cX12_does 73 = .ok (.invokestatic 106, 3) := by decide +kernel
theorem dX12_does_76 : decode cX12_does 76 = .ok (.ifCond .eq 7, 3) := by decide +kernel
theorem dX12_does_79 : decode cX12_does 79 = .ok (.iconst 1, 1) := by decide +kernel
theorem dX12_does_80 : decode cX12_does 80 = .ok (.goto 4, 3) := by decide +kernel
theorem dX12_does_83 : decode cX12_does 83 = .ok (.iconst 0, 1) := by decide +kernel
theorem dX12_does_84 : decode cX12_does 84 = .ok (.istore 5, 2) := by decide +kernel
theorem dX12_does_86 : decode cX12_does 86 = .ok (.iload 5, 2) := by decide +kernel
theorem dX12_does_88 : decode cX12_does 88 = .ok (.ifCond .ne 5, 3) := by decide +kernel
theorem dX12_does_91 : decode cX12_does 91 = .ok (.iconst 0, 1) := by decide +kernel
theorem dX12_does_92 : decode cX12_does 92 = .ok (.ireturn, 1) := by decide +kernel
theorem dX12_does_93 : decode cX12_does 93 = .ok (.iload_n 1, 1) := by decide +kernel
theorem dX12_does_94 : decode cX12_does 94 = .ok (.ifCond .ne 12, 3) := by decide +kernel
theorem dX12_does_97 : decode cX12_does 97 = .ok (.aload_n 0, 1) := by decide +kernel
theorem dX12_does_98 : decode cX12_does 98 = .ok (.aload_n 0, 1) := by decide +kernel
theorem dX12_does_99 : decode cX12_does 99 = .ok (.iload_n 2, 1) := by decide +kernel
theorem dX12_does_100 : decode cX12_does 100 = .ok (.invokevirtual 453, 3) := by decide +kernel
theorem dX12_does_103 : decode cX12_does 103 = .ok (.putfield 469, 3) := by decide +kernel
theorem dX12_does_106 : decode cX12_does 106 = .ok (.iload_n 1, 1) := by decide +kernel
theorem dX12_does_107 : decode cX12_does 107 = .ok (.iconst 1, 1) := by decide +kernel
theorem dX12_does_108 : decode cX12_does 108 = .ok (.if_icmp .ne 15, 3) := by decide +kernel
theorem dX12_does_111 : decode cX12_does 111 = .ok (.aload_n 0, 1) := by decide +kernel
theorem dX12_does_112 : decode cX12_does 112 = .ok (.aload_n 0, 1) := by decide +kernel
theorem dX12_does_113 : decode cX12_does 113 = .ok (.iload_n 2, 1) := by decide +kernel
theorem dX12_does_114 : decode cX12_does 114 = .ok (.iload_n 3, 1) := by decide +kernel
theorem dX12_does_115 : decode cX12_does 115 = .ok (.iload 4, 2) := by decide +kernel
theorem dX12_does_117 : decode cX12_does 117 = .ok (.invokevirtual 462, 3) := by decide +kernel
theorem dX12_does_120 : decode cX12_does 120 = .ok (.putfield 469, 3) := by decide +kernel
theorem dX12_does_123 : decode cX12_does 123 = .ok (.iload_n 1, 1) := by decide +kernel
theorem dX12_does_124 : decode cX12_does 124 = .ok (.iconst 2, 1) := by decide +kernel
theorem dX12_does_125 : decode cX12_does 125 = .ok (.if_icmp .ne 7, 3) := by decide +kernel
theorem dX12_does_128 : decode cX12_does 128 = .ok (.aload_n 0, 1) := by decide +kernel
theorem dX12_does_129 : decode cX12_does 129 = .ok (.invokevirtual 444, 3) := by decide +kernel
theorem dX12_does_132 : decode cX12_does 132 = .ok (.iload_n 1, 1) := by decide +kernel
theorem dX12_does_133 : decode cX12_does 133 = .ok (.iconst 3, 1) := by decide +kernel
theorem dX12_does_134 : decode cX12_does 134 = .ok (.if_icmp .ne 13, 3) := by decide +kernel
theorem dX12_does_137 : decode cX12_does 137 = .ok (.aload_n 0, 1) := by decide +kernel
theorem dX12_does_138 : decode cX12_does 138 = .ok (.aload_n 0, 1) := by decide +kernel
theorem dX12_does_139 : decode cX12_does 139 = .ok (.iload_n 2, 1) := by decide +kernel
theorem dX12_does_140 : decode cX12_does 140 = .ok (.iload_n 3, 1) := by decide +kernel
theorem dX12_does_141 : decode cX12_does 141 = .ok (.invokevirtual 438, 3) := by decide +kernel
theorem dX12_does_144 : decode cX12_does 144 = .ok (.putfield 469, 3) := by decide +kernel
theorem dX12_does_147 : decode cX12_does 147 = .ok (.iconst 1, 1) := by decide +kernel
theorem dX12_does_148 : decode cX12_does 148 = .ok (.ireturn, 1) := by decide +kernel
theorem dX12_runScript_0 : decode cX12_runScript 0 = .ok (.aload_n 0, 1) := by decide +kernel
theorem dX12_runScript_1 : decode cX12_runScript 1 = .ok (.invokevirtual 322, 3) := by decide +kernel
theorem dX12_runScript_4 : decode cX12_runScript 4 = .ok (.aload_n 0, 1) := by decide +kernel
theorem dX12_runScript_5 : decode cX12_runScript 5 = .ok (.iconst 0, 1) := by decide +kernel
theorem dX12_runScript_6 : decode cX12_runScript 6 = .ok (.putfield 494, 3) := by decide +kernel
theorem dX12_runScript_9 : decode cX12_runScript 9 = .ok (.aload_n 0, 1) := by decide +kernel
theorem dX12_runScript_10 : decode cX12_runScript 10 = .ok (.iconst 0, 1) := by decide +kernel
theorem dX12_runScript_11 : decode cX12_runScript 11 = .ok (.putfield 491, 3) := by decide +kernel
theorem dX12_runScript_14 : decode cX12_runScript 14 = .ok (.aload_n 0, 1) := by decide +kernel
theorem dX12_runScript_15 : decode cX12_runScript 15 = .ok (.iconst 0, 1) := by decide +kernel
theorem dX12_runScript_16 : decode cX12_runScript 16 = .ok (.putfield 488, 3) := by decide +kernel
theorem dX12_runScript_19 : decode cX12_runScript 19 = .ok (.aload_n 0, 1) := by decide +kernel
theorem dX12_runScript_20 : decode cX12_runScript 20 = .ok (.invokevirtual 143, 3) := by decide +kernel
theorem dX12_runScript_23 : decode cX12_runScript 23 = .ok (.ifCond .eq 40, 3) := by decide +kernel
theorem dX12_runScript_26 : decode cX12_runScript 26 = .ok (.aload_n 0, 1) := by decide +kernel
theorem dX12_runScript_27 : decode cX12_runScript 27 = .ok (.getfield 130, 3) := by decide +kernel
theorem dX12_runScript_30 : decode cX12_runScript 30 = .ok (.ifCond .eq 33, 3) := by decide +kernel
theorem dX12_runScript_33 : decode cX12_runScript 33 = .ok (.aload_n 0, 1) := by decide +kernel
theorem dX12_runScript_34 : decode cX12_runScript 34 = .ok (.getfield 488, 3) := by decide +kernel
theorem dX12_runScript_37 : decode cX12_runScript 37 = .ok (.istore_n 1, 1) := by decide +kernel
theorem dX12_runScript_38 : decode cX12_runScript 38 = .ok (.aload_n 0, 1) := by decide +kernel
theorem dX12_runScript_39 : decode cX12_runScript 39 = .ok (.invokevirtual 500, 3) := by decide +kernel
theorem dX12_runScript_42 : decode cX12_runScript 42 = .ok (.aload_n 0, 1) := by decide +kernel
theorem dX12_runScript_43 : decode cX12_runScript 43 = .ok (.getfield 488, 3) := by decide +kernel
theorem dX12_runScript_46 : decode cX12_runScript 46 = .ok (.iload_n 1, 1) := by decide +kernel
theorem dX12_runScript_47 : decode cX12_runScript 47 = .ok (.if_icmp .ne 9, 3) := by decide +kernel
theorem dX12_runScript_50 : decode cX12_runScript 50 = .ok (.aload_n 0, 1) := by decide +kernel
theorem dX12_runScript_51 : decode cX12_runScript 51 = .ok (.bipush 59, 2) := by decide +kernel
theorem dX12_runScript_53 : decode cX12_runScript 53 = .ok (.invokevirtual 319, 3) := by decide +kernel
theorem dX12_runScript_56 : decode cX12_runScript 56 = .ok (.aload_n 0, 1) := by decide +kernel
theorem dX12_runScript_57 : decode cX12_runScript 57 = .ok (.invokevirtual 503, 3) := by decide +kernel
theorem dX12_runScript_60 : decode cX12_runScript 60 = .ok (.goto (-41), 3) := by decide +kernel
theorem dX12_runScript_63 : decode cX12_runScript 63 = .ok (.aload_n 0, 1) := by decide +kernel
theorem dX12_runScript_64 : decode cX12_runScript 64 = .ok (.invokevirtual 143, 3) := by decide +kernel
theorem dX12_runScript_67 : decode cX12_runScript 67 = .ok (.ifCond .eq 15, 3) := by decide +kernel
theorem dX12_runScript_70 : decode cX12_runScript 70 = .ok (.aload_n 0, 1) := by decide +kernel
theorem dX12_runScript_71 : decode cX12_runScript 71 = .ok (.getfield 488, 3) := by decide +kernel
theorem dX12_runScript_74 : decode cX12_runScript 74 = .ok (.ifCond .le 8, 3) := by decide +kernel
theorem dX12_runScript_77 : decode cX12_runScript 77 = .ok (.aload_n 0, 1) := by decide +kernel
theorem dX12_runScript_78 : decode cX12_runScript 78 = .ok (.iconst 1, 1) := by decide +kernel
theorem dX12_runScript_79 : decode cX12_runScript 79 = .ok (.invokevirtual 150, 3) := by decide +kernel
theorem dX12_runScript_82 : decode cX12_runScript 82 = .ok (.aload_n 0, 1) := by decide +kernel
theorem dX12_runScript_83 : decode cX12_runScript 83 = .ok (.invokevirtual 331, 3) := by decide +kernel
theorem dX12_runScript_86 : decode cX12_runScript 86 = .ok (.ifCond .ne 5, 3) := by decide +kernel
theorem dX12_runScript_89 : decode cX12_runScript 89 = .ok (.iconst 0, 1) := by decide +kernel
theorem dX12_runScript_90 : decode cX12_runScript 90 = .ok (.ireturn, 1) := by decide +kernel
theorem dX12_runScript_91 : decode cX12_runScript 91 = .ok (.aload_n 0, 1) := by decide +kernel
theorem dX12_runScript_92 : decode cX12_runScript 92 = .ok (.invokevirtual 325, 3) := by decide +kernel
theorem dX12_runScript_95 : decode cX12_runScript 95 = .ok (.aload_n 0, 1) := by decide +kernel
theorem dX12_runScript_96 : decode cX12_runScript 96 = .ok (.invokevirtual 506, 3) := by decide +kernel
theorem dX12_runScript_99 : decode cX12_runScript 99 = .ok (.istore_n 1, 1) := by decide +kernel
theorem dX12_runScript_100 : decode cX12_runScript 100 = .ok (.aload_n 0, 1) := by decide +kernel
theorem dX12_runScript_101 : decode cX12_runScript 101 = .ok (.invokevirtual 456, 3) := by decide +kernel
theorem dX12_runScript_104 : decode cX12_runScript 104 = .ok (.iload_n 1, 1) := by decide +kernel
theorem dX12_runScript_105 : decode cX12_runScript 105 = .ok (.ireturn, 1) := by decide +kernel
theorem dX12_runs_0 : decode cX12_runs 0 = .ok (.iconst 0, 1) := by decide +kernel
theorem dX12_runs_1 : decode cX12_runs 1 = .ok (.istore_n 1, 1) := by decide +kernel
theorem dX12_runs_2 : decode cX12_runs 2 = .ok (.iconst 0, 1) := by decide +kernel
theorem dX12_runs_3 : decode cX12_runs 3 = .ok (.istore_n 2, 1) := by decide +kernel
theorem dX12_runs_4 : decode cX12_runs 4 = .ok (.iconst 0, 1) := by decide +kernel
theorem dX12_runs_5 : decode cX12_runs 5 = .ok (.istore_n 3, 1) := by decide +kernel
theorem dX12_runs_6 : decode cX12_runs 6 = .ok (.iconst 1, 1) := by decide +kernel
theorem dX12_runs_7 : decode cX12_runs 7 = .ok (.istore 4, 2) := by decide +kernel
theorem dX12_runs_9 : decode cX12_runs 9 = .ok (.iload 4, 2) := by decide +kernel
theorem dX12_runs_11 : decode cX12_runs 11 = .ok (.ifCond .eq 180, 3) := by decide +kernel
theorem dX12_runs_14 : decode cX12_runs 14 = .ok (.iload_n 3, 1) := by decide +kernel
theorem dX12_runs_15 : decode cX12_runs 15 = .ok (.aload_n 0, 1) := by decide +kernel
theorem dX12_runs_16 : decode cX12_runs 16 = .ok (.getfield 494, 3) := by decide +kernel
theorem dX12_runs_19 : decode cX12_runs 19 = .ok (.if_icmp .ge 172, 3) := by decide +kernel
theorem dX12_runs_22 : decode cX12_runs 22 = .ok (.iload_n 1, 1) := by decide +kernel
theorem dX12_runs_23 : decode cX12_runs 23 = .ok (.bipush 40, 2) := by decide +kernel
theorem dX12_runs_25 : decode cX12_runs 25 = .ok (.if_icmp .ge 166, 3) := by decide +kernel
theorem dX12_runs_28 : decode cX12_runs 28 = .ok (.aload_n 0, 1) := by decide +kernel
theorem dX12_runs_29 : decode cX12_runs 29 = .ok (.getfield 64, 3) := by decide +kernel
theorem dX12_runs_32 : decode cX12_runs 32 = .ok (.iload_n 3, 1) := by decide +kernel
theorem dX12_runs_33 : decode cX12_runs 33 = .ok (.iaload, 1) := by decide +kernel
theorem dX12_runs_34 : decode cX12_runs 34 = .ok (.iconst 4, 1) := by decide +kernel
theorem dX12_runs_35 : decode cX12_runs 35 = .ok (.if_icmp .ne 31, 3) := by decide +kernel
theorem dX12_runs_38 : decode cX12_runs 38 = .ok (.aload_n 0, 1) := by decide +kernel
theorem dX12_runs_39 : decode cX12_runs 39 = .ok (.getfield 76, 3) := by decide +kernel
theorem dX12_runs_42 : decode cX12_runs 42 = .ok (.iload_n 2, 1) := by decide +kernel
theorem dX12_runs_43 : decode cX12_runs 43 = .ok (.iload_n 3, 1) := by decide +kernel
theorem dX12_runs_44 : decode cX12_runs 44 = .ok (.iastore, 1) := by decide +kernel
theorem dX12_runs_45 : decode cX12_runs 45 = .ok (.aload_n 0, 1) := by decide +kernel
theorem dX12_runs_46 : decode cX12_runs 46 = .ok (.getfield 79, 3) := by decide +kernel
theorem dX12_runs_49 : decode cX12_runs 49 = .ok (.iload_n 2, 1) := by decide +kernel
theorem dX12_runs_50 : decode cX12_runs 50 = .ok (.aload_n 0, 1) := by decide +kernel
theorem dX12_runs_51 : decode cX12_runs 51 = .ok (.getfield 67, 3) := by decide +kernel
theorem dX12_runs_54 : decode cX12_runs 54 = .ok (.iload_n 3, 1) := by decide +kernel
theorem dX12_runs_55 : decode cX12_runs 55 = .ok (.iaload, 1) := by decide +kernel
theorem dX12_runs_56 : decode cX12_runs 56 = .ok (.iastore, 1) := by decide +kernel
theorem dX12_runs_57 : decode cX12_runs 57 = .ok (.iinc 2 1, 3) := by decide +kernel
theorem dX12_runs_60 : decode cX12_runs 60 = .ok (.iinc 3 1, 3) := by decide +kernel
theorem dX12_runs_63 : decode cX12_runs 63 = .ok (.goto (-54), 3) := by decide +kernel
theorem dX12_runs_66 : decode cX12_runs 66 = .ok (.aload_n 0, 1) := by decide +kernel
theorem dX12_runs_67 : decode cX12_runs 67 = .ok (.getfield 64, 3) := by decide +kernel
theorem dX12_runs_70 : decode cX12_runs 70 = .ok (.iload_n 3, 1) := by decide +kernel
theorem dX12_runs_71 : decode cX12_runs 71 = .ok (.iaload, 1) := by decide +kernel
theorem dX12_runs_72 : decode cX12_runs 72 = .ok (.iconst 5, 1) := by decide +kernel
theorem dX12_runs_73 : decode cX12_runs 73 = .ok (.if_icmp .ne 74, 3) := by decide +kernel
theorem dX12_runs_76 : decode cX12_runs 76 = .ok (.aload_n 0, 1) := by decide +kernel
theorem dX12_runs_77 : decode cX12_runs 77 = .ok (.getfield 79, 3) := by decide +kernel
theorem dX12_runs_80 : decode cX12_runs 80 = .ok (.iload_n 2, 1) := by decide +kernel
theorem dX12_runs_81 : decode cX12_runs 81 = .ok (.iconst 1, 1) := by decide +kernel
theorem dX12_runs_82 : decode cX12_runs 82 = .ok (.isub, 1) := by decide +kernel
theorem dX12_runs_83 : decode cX12_runs 83 = .ok (.dup2, 1) := by decide +kernel
theorem dX12_runs_84 : decode cX12_runs 84 = .ok (.iaload, 1) := by decide +kernel
theorem dX12_runs_85 : decode cX12_runs 85 = .ok (.iconst 1, 1) := by decide +kernel
theorem dX12_runs_86 : decode cX12_runs 86 = .ok (.isub, 1) := by decide +kernel
theorem dX12_runs_87 : decode cX12_runs 87 = .ok (.iastore, 1) := by decide +kernel
theorem dX12_runs_88 : decode cX12_runs 88 = .ok (.aload_n 0, 1) := by decide +kernel
theorem dX12_runs_89 : decode cX12_runs 89 = .ok (.getfield 79, 3) := by decide +kernel
theorem dX12_runs_92 : decode cX12_runs 92 = .ok (.iload_n 2, 1) := by decide +kernel
theorem dX12_runs_93 : decode cX12_runs 93 = .ok (.iconst 1, 1) := by decide +kernel
theorem dX12_runs_94 : decode cX12_runs 94 = .ok (.isub, 1) := by decide +kernel
theorem dX12_runs_95 : decode cX12_runs 95 = .ok (.iaload, 1) := by decide +kernel
theorem dX12_runs_96 : decode cX12_runs 96 = .ok (.ifCond .le 7, 3) := by decide +kernel
theorem dX12_runs_99 : decode cX12_runs 99 = .ok (.iconst 1, 1) := by decide +kernel
theorem dX12_runs_100 : decode cX12_runs 100 = .ok (.goto 4, 3) := by decide +kernel
theorem dX12_runs_103 : decode cX12_runs 103 = .ok (.iconst 0, 1) := by decide +kernel
theorem dX12_runs_104 : decode cX12_runs 104 = .ok (.istore 5, 2) := by decide +kernel
theorem dX12_runs_106 : decode cX12_runs 106 = .ok (.iload 5, 2) := by decide +kernel
theorem dX12_runs_108 : decode cX12_runs 108 = .ok (.ifCond .eq 16, 3) := by decide +kernel
theorem dX12_runs_111 : decode cX12_runs 111 = .ok (.aload_n 0, 1) := by decide +kernel
theorem dX12_runs_112 : decode cX12_runs 112 = .ok (.getfield 76, 3) := by decide +kernel
theorem dX12_runs_115 : decode cX12_runs 115 = .ok (.iload_n 2, 1) := by decide +kernel
theorem dX12_runs_116 : decode cX12_runs 116 = .ok (.iconst 1, 1) := by decide +kernel
theorem dX12_runs_117 : decode cX12_runs 117 = .ok (.isub, 1) := by decide +kernel
theorem dX12_runs_118 : decode cX12_runs 118 = .ok (.iaload, 1) := by decide +kernel
theorem dX12_runs_119 : decode cX12_runs 119 = .ok (.iconst 1, 1) := by decide +kernel
theorem dX12_runs_120 : decode cX12_runs 120 = .ok (.iadd, 1) := by decide +kernel
theorem dX12_runs_121 : decode cX12_runs 121 = .ok (.goto 6, 3) := by decide +kernel
theorem dX12_runs_124 : decode cX12_runs 124 = .ok (.iload_n 3, 1) := by decide +kernel
theorem dX12_runs_125 : decode cX12_runs 125 = .ok (.iconst 1, 1) := by decide +kernel
theorem dX12_runs_126 : decode cX12_runs 126 = .ok (.iadd, 1) := by decide +kernel
theorem dX12_runs_127 : decode cX12_runs 127 = .ok (.istore_n 3, 1) := by decide +kernel
theorem dX12_runs_128 : decode cX12_runs 128 = .ok (.iload_n 2, 1) := by decide +kernel
theorem dX12_runs_129 : decode cX12_runs 129 = .ok (.iload 5, 2) := by decide +kernel
theorem dX12_runs_131 : decode cX12_runs 131 = .ok (.ifCond .ne 7, 3) := by decide +kernel
theorem dX12_runs_134 : decode cX12_runs 134 = .ok (.iconst 1, 1) := by decide +kernel
theorem dX12_runs_135 : decode cX12_runs 135 = .ok (.goto 4, 3) := by decide +kernel
theorem dX12_runs_138 : decode cX12_runs 138 = .ok (.iconst 0, 1) := by decide +kernel
theorem dX12_runs_139 : decode cX12_runs 139 = .ok (.invokestatic 91, 3) := by decide +kernel
theorem dX12_runs_142 : decode cX12_runs 142 = .ok (.isub, 1) := by decide +kernel
theorem dX12_runs_143 : decode cX12_runs 143 = .ok (.istore_n 2, 1) := by decide +kernel
theorem dX12_runs_144 : decode cX12_runs 144 = .ok (.goto (-135), 3) := by decide +kernel
theorem dX12_runs_147 : decode cX12_runs 147 = .ok (.aload_n 0, 1) := by decide +kernel
theorem dX12_runs_148 : decode cX12_runs 148 = .ok (.aload_n 0, 1) := by decide +kernel
theorem dX12_runs_149 : decode cX12_runs 149 = .ok (.getfield 64, 3) := by decide +kernel
theorem dX12_runs_152 : decode cX12_runs 152 = .ok (.iload_n 3, 1) := by decide +kernel
theorem dX12_runs_153 : decode cX12_runs 153 = .ok (.iaload, 1) := by decide +kernel
theorem dX12_runs_154 : decode cX12_runs 154 = .ok (.aload_n 0, 1) := by decide +kernel
theorem dX12_runs_155 : decode cX12_runs 155 = .ok (.getfield 67, 3) := by decide +kernel
theorem dX12_runs_158 : decode cX12_runs 158 = .ok (.iload_n 3, 1) := by decide +kernel
theorem dX12_runs_159 : decode cX12_runs 159 = .ok (.iaload, 1) := by decide +kernel
theorem dX12_runs_160 : decode cX12_runs 160 = .ok (.aload_n 0, 1) := by decide +kernel
theorem dX12_runs_161 : decode cX12_runs 161 = .ok (.getfield 70, 3) := by decide +kernel
theorem dX12_runs_164 : decode cX12_runs 164 = .ok (.iload_n 3, 1) := by decide +kernel
theorem dX12_runs_165 : decode cX12_runs 165 = .ok (.iaload, 1) := by decide +kernel
theorem dX12_runs_166 : decode cX12_runs 166 = .ok (.aload_n 0, 1) := by decide +kernel
theorem dX12_runs_167 : decode cX12_runs 167 = .ok (.getfield 73, 3) := by decide +kernel
theorem dX12_runs_170 : decode cX12_runs 170 = .ok (.iload_n 3, 1) := by decide +kernel
theorem dX12_runs_171 : decode cX12_runs 171 = .ok (.iaload, 1) := by decide +kernel
theorem dX12_runs_172 : decode cX12_runs 172 = .ok (.invokevirtual 509, 3) := by decide +kernel
theorem dX12_runs_175 : decode cX12_runs 175 = .ok (.istore 4, 2) := by decide +kernel
theorem dX12_runs_177 : decode cX12_runs 177 = .ok (.iload_n 1, 1) := by decide +kernel
theorem dX12_runs_178 : decode cX12_runs 178 = .ok (.iload 4, 2) := by decide +kernel
theorem dX12_runs_180 : decode cX12_runs 180 = .ok (.invokestatic 91, 3) := by decide +kernel
theorem dX12_runs_183 : decode cX12_runs 183 = .ok (.iadd, 1) := by decide +kernel
theorem dX12_runs_184 : decode cX12_runs 184 = .ok (.istore_n 1, 1) := by decide +kernel
theorem dX12_runs_185 : decode cX12_runs 185 = .ok (.iinc 3 1, 3) := by decide +kernel
theorem dX12_runs_188 : decode cX12_runs 188 = .ok (.goto (-179), 3) := by decide +kernel
theorem dX12_runs_191 : decode cX12_runs 191 = .ok (.iload_n 1, 1) := by decide +kernel
theorem dX12_runs_192 : decode cX12_runs 192 = .ok (.ireturn, 1) := by decide +kernel
theorem dX12_tell_0 : decode cX12_tell 0 = .ok (.aload_n 0, 1) := by decide +kernel
theorem dX12_tell_1 : decode cX12_tell 1 = .ok (.getfield 82, 3) := by decide +kernel
theorem dX12_tell_4 : decode cX12_tell 4 = .ok (.aload_n 0, 1) := by decide +kernel
theorem dX12_tell_5 : decode cX12_tell 5 = .ok (.getfield 513, 3) := by decide +kernel
theorem dX12_tell_8 : decode cX12_tell 8 = .ok (.iload_n 1, 1) := by decide +kernel
theorem dX12_tell_9 : decode cX12_tell 9 = .ok (.iastore, 1) := by decide +kernel
theorem dX12_tell_10 : decode cX12_tell 10 = .ok (.aload_n 0, 1) := by decide +kernel
theorem dX12_tell_11 : decode cX12_tell 11 = .ok (.dup, 1) := by decide +kernel
theorem dX12_tell_12 : decode cX12_tell 12 = .ok (.getfield 513, 3) := by decide +kernel
theorem dX12_tell_15 : decode cX12_tell 15 = .ok (.iconst 1, 1) := by decide +kernel
theorem dX12_tell_16 : decode cX12_tell 16 = .ok (.iadd, 1) := by decide +kernel
theorem dX12_tell_17 : decode cX12_tell 17 = .ok (.putfield 513, 3) := by decide +kernel
theorem dX12_tell_20 : decode cX12_tell 20 = .ok (.return_, 1) := by decide +kernel
theorem dX12_report_0 : decode cX12_report 0 = .ok (.aload_n 0, 1) := by decide +kernel
theorem dX12_report_1 : decode cX12_report 1 = .ok (.iconst 0, 1) := by decide +kernel
theorem dX12_report_2 : decode cX12_report 2 = .ok (.putfield 88, 3) := by decide +kernel
theorem dX12_report_5 : decode cX12_report 5 = .ok (.aload_n 0, 1) := by decide +kernel
theorem dX12_report_6 : decode cX12_report 6 = .ok (.iconst 0, 1) := by decide +kernel
theorem dX12_report_7 : decode cX12_report 7 = .ok (.putfield 513, 3) := by decide +kernel
theorem dX12_report_10 : decode cX12_report 10 = .ok (.aload_n 0, 1) := by decide +kernel
theorem dX12_report_11 : decode cX12_report 11 = .ok (.iconst 1, 1) := by decide +kernel
theorem dX12_report_12 : decode cX12_report 12 = .ok (.putfield 516, 3) := by decide +kernel
theorem dX12_report_15 : decode cX12_report 15 = .ok (.aload_n 0, 1) := by decide +kernel
theorem dX12_report_16 : decode cX12_report 16 = .ok (.getfield 20, 3) := by decide +kernel
theorem dX12_report_19 : decode cX12_report 19 = .ok (.iconst 1, 1) := by decide +kernel
theorem dX12_report_20 : decode cX12_report 20 = .ok (.iaload, 1) := by decide +kernel
theorem dX12_report_21 : decode cX12_report 21 = .ok (.iconst 1, 1) := by decide +kernel
theorem dX12_report_22 : decode cX12_report 22 = .ok (.isub, 1) := by decide +kernel
theorem dX12_report_23 : decode cX12_report 23 = .ok (.istore_n 1, 1) := by decide +kernel
theorem dX12_report_24 : decode cX12_report 24 = .ok (.iload_n 1, 1) := by decide +kernel
theorem dX12_report_25 : decode cX12_report 25 = .ok (.ifCond .lt 61, 3) := by decide +kernel
theorem dX12_report_28 : decode cX12_report 28 = .ok (.iconst 0, 1) := by decide +kernel
theorem dX12_report_29 : decode cX12_report 29 = .ok (.istore_n 2, 1) := by decide +kernel
theorem dX12_report_30 : decode cX12_report 30 = .ok (.iload_n 2, 1) := by decide +kernel
theorem dX12_report_31 : decode cX12_report 31 = .ok (.aload_n 0, 1) := by decide +kernel
theorem dX12_report_32 : decode cX12_report 32 = .ok (.getfield 20, 3) := by decide +kernel
theorem dX12_report_35 : decode cX12_report 35 = .ok (.iconst 0, 1) := by decide +kernel
theorem dX12_report_36 : decode cX12_report 36 = .ok (.iaload, 1) := by decide +kernel
theorem dX12_report_37 : decode cX12_report 37 = .ok (.if_icmp .ge 37, 3) := by decide +kernel
theorem dX12_report_40 : decode cX12_report 40 = .ok (.aload_n 0, 1) := by decide +kernel
theorem dX12_report_41 : decode cX12_report 41 = .ok (.aload_n 0, 1) := by decide +kernel
theorem dX12_report_42 : decode cX12_report 42 = .ok (.iload_n 2, 1) := by decide +kernel
theorem dX12_report_43 : decode cX12_report 43 = .ok (.iload_n 1, 1) := by decide +kernel
theorem dX12_report_44 : decode cX12_report 44 = .ok (.invokevirtual 259, 3) := by decide +kernel
theorem dX12_report_47 : decode cX12_report 47 = .ok (.iconst (-1), 1) := by decide +kernel
theorem dX12_report_48 : decode cX12_report 48 = .ok (.if_icmp .ne 8, 3) := by decide +kernel
theorem dX12_report_51 : decode cX12_report 51 = .ok (.bipush 46, 2) := by decide +kernel
theorem dX12_report_53 : decode cX12_report 53 = .ok (.goto 12, 3) := by decide +kernel
theorem dX12_report_56 : decode cX12_report 56 = .ok (.bipush 48, 2) := by decide +kernel
theorem dX12_report_58 : decode cX12_report 58 = .ok (.aload_n 0, 1) := by decide +kernel
theorem dX12_report_59 : decode cX12_report 59 = .ok (.iload_n 2, 1) := by decide +kernel
theorem dX12_report_60 : decode cX12_report 60 = .ok (.iload_n 1, 1) := by decide +kernel
theorem dX12_report_61 : decode cX12_report 61 = .ok (.invokevirtual 259, 3) := by decide +kernel
theorem dX12_report_64 : decode cX12_report 64 = .ok (.iadd, 1) := by decide +kernel
theorem dX12_report_65 : decode cX12_report 65 = .ok (.invokevirtual 519, 3) := by decide +kernel
theorem dX12_report_68 : decode cX12_report 68 = .ok (.iinc 2 1, 3) := by decide +kernel
theorem dX12_report_71 : decode cX12_report 71 = .ok (.goto (-41), 3) := by decide +kernel
theorem dX12_report_74 : decode cX12_report 74 = .ok (.aload_n 0, 1) := by decide +kernel
theorem dX12_report_75 : decode cX12_report 75 = .ok (.bipush 10, 2) := by decide +kernel
theorem dX12_report_77 : decode cX12_report 77 = .ok (.invokevirtual 519, 3) := by decide +kernel
theorem dX12_report_80 : decode cX12_report 80 = .ok (.iinc 1 (-1), 3) := by decide +kernel
theorem dX12_report_83 : decode cX12_report 83 = .ok (.goto (-59), 3) := by decide +kernel
theorem dX12_report_86 : decode cX12_report 86 = .ok (.iconst 0, 1) := by decide +kernel
theorem dX12_report_87 : decode cX12_report 87 = .ok (.istore_n 1, 1) := by decide +kernel
theorem dX12_report_88 : decode cX12_report 88 = .ok (.iload_n 1, 1) := by decide +kernel
theorem dX12_report_89 : decode cX12_report 89 = .ok (.bipush 64, 2) := by decide +kernel
theorem dX12_report_91 : decode cX12_report 91 = .ok (.if_icmp .ge 64, 3) := by decide +kernel
theorem dX12_report_94 : decode cX12_report 94 = .ok (.aload_n 0, 1) := by decide +kernel
theorem dX12_report_95 : decode cX12_report 95 = .ok (.getfield 20, 3) := by decide +kernel
theorem dX12_report_98 : decode cX12_report 98 = .ok (.bipush 120, 2) := by decide +kernel
theorem dX12_report_100 : decode cX12_report 100 = .ok (.iload_n 1, 1) := by decide +kernel
theorem dX12_report_101 : decode cX12_report 101 = .ok (.iadd, 1) := by decide +kernel
theorem dX12_report_102 : decode cX12_report 102 = .ok (.iaload, 1) := by decide +kernel
theorem dX12_report_103 : decode cX12_report 103 = .ok (.istore_n 2, 1) := by decide +kernel
theorem dX12_report_104 : decode cX12_report 104 = .ok (.iload_n 2, 1) := by decide +kernel
theorem dX12_report_105 : decode cX12_report 105 = .ok (.ifCond .ne 6, 3) := by decide +kernel
theorem dX12_report_108 : decode cX12_report 108 = .ok (.goto 41, 3) := by decide +kernel
theorem dX12_report_111 : decode cX12_report 111 = .ok (.aload_n 0, 1) := by decide +kernel
theorem dX12_report_112 : decode cX12_report 112 = .ok (.iload_n 2, 1) := by decide +kernel
theorem dX12_report_113 : decode cX12_report 113 = .ok (.iconst 1, 1) := by decide +kernel
theorem dX12_report_114 : decode cX12_report 114 = .ok (.if_icmp .ne 8, 3) := by decide +kernel
theorem dX12_report_117 : decode cX12_report 117 = .ok (.bipush 45, 2) := by decide +kernel
theorem dX12_report_119 : decode cX12_report 119 = .ok (.goto 5, 3) := by decide +kernel
theorem dX12_report_122 : decode cX12_report 122 = .ok (.bipush 124, 2) := by decide +kernel
theorem dX12_report_124 : decode cX12_report 124 = .ok (.invokevirtual 519, 3) := by decide +kernel
theorem dX12_report_127 : decode cX12_report 127 = .ok (.aload_n 0, 1) := by decide +kernel
theorem dX12_report_128 : decode cX12_report 128 = .ok (.bipush 48, 2) := by decide +kernel
theorem dX12_report_130 : decode cX12_report 130 = .ok (.iload_n 1, 1) := by decide +kernel
theorem dX12_report_131 : decode cX12_report 131 = .ok (.bipush 8, 2) := by decide +kernel
theorem dX12_report_133 : decode cX12_report 133 = .ok (.irem, 1) := by decide +kernel
theorem dX12_report_134 : decode cX12_report 134 = .ok (.iadd, 1) := by decide +kernel
theorem dX12_report_135 : decode cX12_report 135 = .ok (.invokevirtual 519, 3) := by decide +kernel
theorem dX12_report_138 : decode cX12_report 138 = .ok (.aload_n 0, 1) := by decide +kernel
theorem dX12_report_139 : decode cX12_report 139 = .ok (.bipush 48, 2) := by decide +kernel
theorem dX12_report_141 : decode cX12_report 141 = .ok (.iload_n 1, 1) := by decide +kernel
theorem dX12_report_142 : decode cX12_report 142 = .ok (.bipush 8, 2) := by decide +kernel
theorem dX12_report_144 : decode cX12_report 144 = .ok (.idiv, 1) := by decide +kernel
theorem dX12_report_145 : decode cX12_report 145 = .ok (.iadd, 1) := by decide +kernel
theorem dX12_report_146 : decode cX12_report 146 = .ok (.invokevirtual 519, 3) := by decide +kernel
theorem dX12_report_149 : decode cX12_report 149 = .ok (.iinc 1 1, 3) := by decide +kernel
theorem dX12_report_152 : decode cX12_report 152 = .ok (.goto (-64), 3) := by decide +kernel
theorem dX12_report_155 : decode cX12_report 155 = .ok (.aload_n 0, 1) := by decide +kernel
theorem dX12_report_156 : decode cX12_report 156 = .ok (.bipush 10, 2) := by decide +kernel
theorem dX12_report_158 : decode cX12_report 158 = .ok (.invokevirtual 519, 3) := by decide +kernel
theorem dX12_report_161 : decode cX12_report 161 = .ok (.aload_n 0, 1) := by decide +kernel
theorem dX12_report_162 : decode cX12_report 162 = .ok (.getfield 513, 3) := by decide +kernel
theorem dX12_report_165 : decode cX12_report 165 = .ok (.ireturn, 1) := by decide +kernel
theorem dX12_reportByte_0 : decode cX12_reportByte 0 = .ok (.aload_n 0, 1) := by decide +kernel
theorem dX12_reportByte_1 : decode cX12_reportByte 1 = .ok (.aload_n 0, 1) := by decide +kernel
theorem dX12_reportByte_2 : decode cX12_reportByte 2 = .ok (.getfield 516, 3) := by decide +kernel
theorem dX12_reportByte_5 : decode cX12_reportByte 5 = .ok (.ifCond .eq 23, 3) := by decide +kernel
theorem dX12_reportByte_8 : decode cX12_reportByte 8 = .ok (.iload_n 1, 1) := by decide +kernel
theorem dX12_reportByte_9 : decode cX12_reportByte 9 = .ok (.i2l, 1) := by decide +kernel
theorem dX12_reportByte_10 : decode cX12_reportByte 10 = .ok (.lconst 0, 1) := by decide +kernel
theorem dX12_reportByte_11 : decode cX12_reportByte 11 = .ok (.aload_n 0, 1) := by decide +kernel
theorem dX12_reportByte_12 : decode cX12_reportByte 12 = .ok (.getfield 513, 3) := by decide +kernel
theorem dX12_reportByte_15 : decode cX12_reportByte 15 = .ok (.iconst 1, 1) := by decide +kernel
theorem dX12_reportByte_16 : decode cX12_reportByte 16 = .ok (.isub, 1) := by decide +kernel
theorem dX12_reportByte_17 : decode cX12_reportByte 17 = .ok (.i2l, 1) := by decide +kernel
theorem dX12_reportByte_18 : decode cX12_reportByte 18 = .ok (.invokestatic 106, 3) := by decide +kernel
theorem dX12_reportByte_21 : decode cX12_reportByte 21 = .ok (.ifCond .eq 7, 3) := by decide +kernel
theorem dX12_reportByte_24 : decode cX12_reportByte 24 = .ok (.iconst 1, 1) := by decide +kernel
theorem dX12_reportByte_25 : decode cX12_reportByte 25 = .ok (.goto 4, 3) := by decide +kernel
theorem dX12_reportByte_28 : decode cX12_reportByte 28 = .ok (.iconst 0, 1) := by decide +kernel
theorem dX12_reportByte_29 : decode cX12_reportByte 29 = .ok (.invokevirtual 98, 3) := by decide +kernel
theorem dX12_reportByte_32 : decode cX12_reportByte 32 = .ok (.ifCond .eq 12, 3) := by decide +kernel
theorem dX12_reportByte_35 : decode cX12_reportByte 35 = .ok (.aload_n 0, 1) := by decide +kernel
theorem dX12_reportByte_36 : decode cX12_reportByte 36 = .ok (.getfield 82, 3) := by decide +kernel
theorem dX12_reportByte_39 : decode cX12_reportByte 39 = .ok (.iload_n 1, 1) := by decide +kernel
theorem dX12_reportByte_40 : decode cX12_reportByte 40 = .ok (.iaload, 1) := by decide +kernel
theorem dX12_reportByte_41 : decode cX12_reportByte 41 = .ok (.goto 4, 3) := by decide +kernel
theorem dX12_reportByte_44 : decode cX12_reportByte 44 = .ok (.iconst 0, 1) := by decide +kernel
theorem dX12_reportByte_45 : decode cX12_reportByte 45 = .ok (.ireturn, 1) := by decide +kernel
