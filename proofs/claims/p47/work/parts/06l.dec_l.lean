theorem dL_cell_0 : decode cL_cell 0 = .ok (.iload_n 1, 1) := by decide +kernel
theorem dL_cell_1 : decode cL_cell 1 = .ok (.aload_n 0, 1) := by decide +kernel
theorem dL_cell_2 : decode cL_cell 2 = .ok (.arraylength, 1) := by decide +kernel
theorem dL_cell_3 : decode cL_cell 3 = .ok (.if_icmp .ge 9, 3) := by decide +kernel
theorem dL_cell_6 : decode cL_cell 6 = .ok (.aload_n 0, 1) := by decide +kernel
theorem dL_cell_7 : decode cL_cell 7 = .ok (.iload_n 1, 1) := by decide +kernel
theorem dL_cell_8 : decode cL_cell 8 = .ok (.iaload, 1) := by decide +kernel
theorem dL_cell_9 : decode cL_cell 9 = .ok (.goto 11, 3) := by decide +kernel
theorem dL_cell_12 : decode cL_cell 12 = .ok (.ldc 7, 2) := by decide +kernel
theorem dL_cell_14 : decode cL_cell 14 = .ok (.iload_n 1, 1) := by decide +kernel
theorem dL_cell_15 : decode cL_cell 15 = .ok (.imul, 1) := by decide +kernel
theorem dL_cell_16 : decode cL_cell 16 = .ok (.sipush 15552, 3) := by decide +kernel
theorem dL_cell_19 : decode cL_cell 19 = .ok (.iadd, 1) := by decide +kernel
theorem dL_cell_20 : decode cL_cell 20 = .ok (.ireturn, 1) := by decide +kernel
theorem dL_pick_0 : decode cL_pick 0 = .ok (.aload_n 0, 1) := by decide +kernel
theorem dL_pick_1 : decode cL_pick 1 = .ok (.iload_n 1, 1) := by decide +kernel
theorem dL_pick_2 : decode cL_pick 2 = .ok (.invokestatic 8, 3) := by decide +kernel
theorem dL_pick_5 : decode cL_pick 5 = .ok (.ldc 14, 2) := by decide +kernel
theorem dL_pick_7 : decode cL_pick 7 = .ok (.iand, 1) := by decide +kernel
theorem dL_pick_8 : decode cL_pick 8 = .ok (.iload_n 2, 1) := by decide +kernel
theorem dL_pick_9 : decode cL_pick 9 = .ok (.irem, 1) := by decide +kernel
theorem dL_pick_10 : decode cL_pick 10 = .ok (.ireturn, 1) := by decide +kernel
theorem dL_feeds_0 : decode cL_feeds 0 = .ok (.iconst 0, 1) := by decide +kernel
theorem dL_feeds_1 : decode cL_feeds 1 = .ok (.istore_n 2, 1) := by decide +kernel
theorem dL_feeds_2 : decode cL_feeds 2 = .ok (.iconst 0, 1) := by decide +kernel
theorem dL_feeds_3 : decode cL_feeds 3 = .ok (.istore_n 3, 1) := by decide +kernel
theorem dL_feeds_4 : decode cL_feeds 4 = .ok (.iload_n 3, 1) := by decide +kernel
theorem dL_feeds_5 : decode cL_feeds 5 = .ok (.aload_n 1, 1) := by decide +kernel
theorem dL_feeds_6 : decode cL_feeds 6 = .ok (.invokevirtual 15, 3) := by decide +kernel
theorem dL_feeds_9 : decode cL_feeds 9 = .ok (.if_icmp .ge 97, 3) := by decide +kernel
theorem dL_feeds_12 : decode cL_feeds 12 = .ok (.iconst 5, 1) := by decide +kernel
theorem dL_feeds_13 : decode cL_feeds 13 = .ok (.newarray .int, 2) := by decide +kernel
theorem dL_feeds_15 : decode cL_feeds 15 = .ok (.astore 4, 2) := by decide +kernel
theorem dL_feeds_17 : decode cL_feeds 17 = .ok (.iconst 0, 1) := by decide +kernel
theorem dL_feeds_18 : decode cL_feeds 18 = .ok (.istore 5, 2) := by decide +kernel
theorem dL_feeds_20 : decode cL_feeds 20 = .ok (.iload 5, 2) := by decide +kernel
theorem dL_feeds_22 : decode cL_feeds 22 = .ok (.bipush 20, 2) := by decide +kernel
theorem dL_feeds_24 : decode cL_feeds 24 = .ok (.if_icmp .ge 51, 3) := by decide +kernel
theorem dL_feeds_27 : decode cL_feeds 27 = .ok (.aload 4, 2) := by decide +kernel
theorem dL_feeds_29 : decode cL_feeds 29 = .ok (.iload 5, 2) := by decide +kernel
theorem dL_feeds_31 : decode cL_feeds 31 = .ok (.iconst 4, 1) := by decide +kernel
theorem dL_feeds_32 : decode cL_feeds 32 = .ok (.idiv, 1) := by decide +kernel
theorem dL_feeds_33 : decode cL_feeds 33 = .ok (.aload 4, 2) := by decide +kernel
theorem dL_feeds_35 : decode cL_feeds 35 = .ok (.iload 5, 2) := by decide +kernel
theorem dL_feeds_37 : decode cL_feeds 37 = .ok (.iconst 4, 1) := by decide +kernel
theorem dL_feeds_38 : decode cL_feeds 38 = .ok (.idiv, 1) := by decide +kernel
theorem dL_feeds_39 : decode cL_feeds 39 = .ok (.iaload, 1) := by decide +kernel
theorem dL_feeds_40 : decode cL_feeds 40 = .ok (.bipush 8, 2) := by decide +kernel
theorem dL_feeds_42 : decode cL_feeds 42 = .ok (.ishl, 1) := by decide +kernel
theorem dL_feeds_43 : decode cL_feeds 43 = .ok (.iload_n 3, 1) := by decide +kernel
theorem dL_feeds_44 : decode cL_feeds 44 = .ok (.iload 5, 2) := by decide +kernel
theorem dL_feeds_46 : decode cL_feeds 46 = .ok (.iadd, 1) := by decide +kernel
theorem dL_feeds_47 : decode cL_feeds 47 = .ok (.aload_n 1, 1) := by decide +kernel
theorem dL_feeds_48 : decode cL_feeds 48 = .ok (.invokevirtual 15, 3) := by decide +kernel
theorem dL_feeds_51 : decode cL_feeds 51 = .ok (.if_icmp .ge 14, 3) := by decide +kernel
theorem dL_feeds_54 : decode cL_feeds 54 = .ok (.aload_n 1, 1) := by decide +kernel
theorem dL_feeds_55 : decode cL_feeds 55 = .ok (.iload_n 3, 1) := by decide +kernel
theorem dL_feeds_56 : decode cL_feeds 56 = .ok (.iload 5, 2) := by decide +kernel
theorem dL_feeds_58 : decode cL_feeds 58 = .ok (.iadd, 1) := by decide +kernel
theorem dL_feeds_59 : decode cL_feeds 59 = .ok (.invokevirtual 21, 3) := by decide +kernel
theorem dL_feeds_62 : decode cL_feeds 62 = .ok (.goto 5, 3) := by decide +kernel
theorem dL_feeds_65 : decode cL_feeds 65 = .ok (.bipush 32, 2) := by decide +kernel
theorem dL_feeds_67 : decode cL_feeds 67 = .ok (.ior, 1) := by decide +kernel
theorem dL_feeds_68 : decode cL_feeds 68 = .ok (.iastore, 1) := by decide +kernel
theorem dL_feeds_69 : decode cL_feeds 69 = .ok (.iinc 5 1, 3) := by decide +kernel
theorem dL_feeds_72 : decode cL_feeds 72 = .ok (.goto (-52), 3) := by decide +kernel
theorem dL_feeds_75 : decode cL_feeds 75 = .ok (.aload_n 0, 1) := by decide +kernel
theorem dL_feeds_76 : decode cL_feeds 76 = .ok (.aload 4, 2) := by decide +kernel
theorem dL_feeds_78 : decode cL_feeds 78 = .ok (.iconst 0, 1) := by decide +kernel
theorem dL_feeds_79 : decode cL_feeds 79 = .ok (.iaload, 1) := by decide +kernel
theorem dL_feeds_80 : decode cL_feeds 80 = .ok (.aload 4, 2) := by decide +kernel
theorem dL_feeds_82 : decode cL_feeds 82 = .ok (.iconst 1, 1) := by decide +kernel
theorem dL_feeds_83 : decode cL_feeds 83 = .ok (.iaload, 1) := by decide +kernel
theorem dL_feeds_84 : decode cL_feeds 84 = .ok (.aload 4, 2) := by decide +kernel
theorem dL_feeds_86 : decode cL_feeds 86 = .ok (.iconst 2, 1) := by decide +kernel
theorem dL_feeds_87 : decode cL_feeds 87 = .ok (.iaload, 1) := by decide +kernel
theorem dL_feeds_88 : decode cL_feeds 88 = .ok (.aload 4, 2) := by decide +kernel
theorem dL_feeds_90 : decode cL_feeds 90 = .ok (.iconst 3, 1) := by decide +kernel
theorem dL_feeds_91 : decode cL_feeds 91 = .ok (.iaload, 1) := by decide +kernel
theorem dL_feeds_92 : decode cL_feeds 92 = .ok (.aload 4, 2) := by decide +kernel
theorem dL_feeds_94 : decode cL_feeds 94 = .ok (.iconst 4, 1) := by decide +kernel
theorem dL_feeds_95 : decode cL_feeds 95 = .ok (.iaload, 1) := by decide +kernel
theorem dL_feeds_96 : decode cL_feeds 96 = .ok (.invokevirtual 25, 3) := by decide +kernel
theorem dL_feeds_99 : decode cL_feeds 99 = .ok (.istore_n 2, 1) := by decide +kernel
theorem dL_feeds_100 : decode cL_feeds 100 = .ok (.iinc 3 20, 3) := by decide +kernel
theorem dL_feeds_103 : decode cL_feeds 103 = .ok (.goto (-99), 3) := by decide +kernel
theorem dL_feeds_106 : decode cL_feeds 106 = .ok (.aload_n 1, 1) := by decide +kernel
theorem dL_feeds_107 : decode cL_feeds 107 = .ok (.invokevirtual 31, 3) := by decide +kernel
theorem dL_feeds_110 : decode cL_feeds 110 = .ok (.ifCond .ne 26, 3) := by decide +kernel
theorem dL_feeds_113 : decode cL_feeds 113 = .ok (.iload_n 2, 1) := by decide +kernel
theorem dL_feeds_114 : decode cL_feeds 114 = .ok (.aload_n 1, 1) := by decide +kernel
theorem dL_feeds_115 : decode cL_feeds 115 = .ok (.invokevirtual 15, 3) := by decide +kernel
theorem dL_feeds_118 : decode cL_feeds 118 = .ok (.if_icmp .lt 22, 3) := by decide +kernel
theorem dL_feeds_121 : decode cL_feeds 121 = .ok (.aload_n 0, 1) := by decide +kernel
theorem dL_feeds_122 : decode cL_feeds 122 = .ok (.aload_n 1, 1) := by decide +kernel
theorem dL_feeds_123 : decode cL_feeds 123 = .ok (.invokevirtual 15, 3) := by decide +kernel
theorem dL_feeds_126 : decode cL_feeds 126 = .ok (.invokevirtual 35, 3) := by decide +kernel
theorem dL_feeds_129 : decode cL_feeds 129 = .ok (.aload_n 1, 1) := by decide +kernel
theorem dL_feeds_130 : decode cL_feeds 130 = .ok (.invokevirtual 15, 3) := by decide +kernel
theorem dL_feeds_133 : decode cL_feeds 133 = .ok (.if_icmp .ne 7, 3) := by decide +kernel
theorem dL_feeds_136 : decode cL_feeds 136 = .ok (.iconst 1, 1) := by decide +kernel
theorem dL_feeds_137 : decode cL_feeds 137 = .ok (.goto 4, 3) := by decide +kernel
theorem dL_feeds_140 : decode cL_feeds 140 = .ok (.iconst 0, 1) := by decide +kernel
theorem dL_feeds_141 : decode cL_feeds 141 = .ok (.ireturn, 1) := by decide +kernel
theorem dL_alike_0 : decode cL_alike 0 = .ok (.aload_n 0, 1) := by decide +kernel
theorem dL_alike_1 : decode cL_alike 1 = .ok (.iconst 4, 1) := by decide +kernel
theorem dL_alike_2 : decode cL_alike 2 = .ok (.invokevirtual 39, 3) := by decide +kernel
theorem dL_alike_5 : decode cL_alike 5 = .ok (.aload_n 1, 1) := by decide +kernel
theorem dL_alike_6 : decode cL_alike 6 = .ok (.getfield 42, 3) := by decide +kernel
theorem dL_alike_9 : decode cL_alike 9 = .ok (.if_icmp .ne 48, 3) := by decide +kernel
theorem dL_alike_12 : decode cL_alike 12 = .ok (.aload_n 0, 1) := by decide +kernel
theorem dL_alike_13 : decode cL_alike 13 = .ok (.iconst 5, 1) := by decide +kernel
theorem dL_alike_14 : decode cL_alike 14 = .ok (.invokevirtual 39, 3) := by decide +kernel
theorem dL_alike_17 : decode cL_alike 17 = .ok (.aload_n 1, 1) := by decide +kernel
theorem dL_alike_18 : decode cL_alike 18 = .ok (.getfield 48, 3) := by decide +kernel
theorem dL_alike_21 : decode cL_alike 21 = .ok (.if_icmp .ne 36, 3) := by decide +kernel
theorem dL_alike_24 : decode cL_alike 24 = .ok (.aload_n 0, 1) := by decide +kernel
theorem dL_alike_25 : decode cL_alike 25 = .ok (.invokevirtual 51, 3) := by decide +kernel
theorem dL_alike_28 : decode cL_alike 28 = .ok (.aload_n 1, 1) := by decide +kernel
theorem dL_alike_29 : decode cL_alike 29 = .ok (.invokevirtual 54, 3) := by decide +kernel
theorem dL_alike_32 : decode cL_alike 32 = .ok (.if_icmp .ne 25, 3) := by decide +kernel
theorem dL_alike_35 : decode cL_alike 35 = .ok (.aload_n 0, 1) := by decide +kernel
theorem dL_alike_36 : decode cL_alike 36 = .ok (.invokevirtual 55, 3) := by decide +kernel
theorem dL_alike_39 : decode cL_alike 39 = .ok (.aload_n 1, 1) := by decide +kernel
theorem dL_alike_40 : decode cL_alike 40 = .ok (.invokevirtual 54, 3) := by decide +kernel
theorem dL_alike_43 : decode cL_alike 43 = .ok (.ifCond .eq 7, 3) := by decide +kernel
theorem dL_alike_46 : decode cL_alike 46 = .ok (.iconst (-1), 1) := by decide +kernel
theorem dL_alike_47 : decode cL_alike 47 = .ok (.goto 7, 3) := by decide +kernel
theorem dL_alike_50 : decode cL_alike 50 = .ok (.aload_n 1, 1) := by decide +kernel
theorem dL_alike_51 : decode cL_alike 51 = .ok (.getfield 58, 3) := by decide +kernel
theorem dL_alike_54 : decode cL_alike 54 = .ok (.if_icmp .eq 5, 3) := by decide +kernel
theorem dL_alike_57 : decode cL_alike 57 = .ok (.iconst 0, 1) := by decide +kernel
theorem dL_alike_58 : decode cL_alike 58 = .ok (.ireturn, 1) := by decide +kernel
theorem dL_alike_59 : decode cL_alike 59 = .ok (.iconst 0, 1) := by decide +kernel
theorem dL_alike_60 : decode cL_alike 60 = .ok (.istore_n 2, 1) := by decide +kernel
theorem dL_alike_61 : decode cL_alike 61 = .ok (.iload_n 2, 1) := by decide +kernel
theorem dL_alike_62 : decode cL_alike 62 = .ok (.aload_n 1, 1) := by decide +kernel
theorem dL_alike_63 : decode cL_alike 63 = .ok (.getfield 61, 3) := by decide +kernel
theorem dL_alike_66 : decode cL_alike 66 = .ok (.invokeinterface 65 1, 5) := by decide +kernel
theorem dL_alike_71 : decode cL_alike 71 = .ok (.if_icmp .ge 49, 3) := by decide +kernel
theorem dL_alike_74 : decode cL_alike 74 = .ok (.iconst 0, 1) := by decide +kernel
theorem dL_alike_75 : decode cL_alike 75 = .ok (.istore_n 3, 1) := by decide +kernel
theorem dL_alike_76 : decode cL_alike 76 = .ok (.iload_n 3, 1) := by decide +kernel
theorem dL_alike_77 : decode cL_alike 77 = .ok (.bipush 7, 2) := by decide +kernel
theorem dL_alike_79 : decode cL_alike 79 = .ok (.if_icmp .ge 35, 3) := by decide +kernel
theorem dL_alike_82 : decode cL_alike 82 = .ok (.aload_n 0, 1) := by decide +kernel
theorem dL_alike_83 : decode cL_alike 83 = .ok (.iload_n 2, 1) := by decide +kernel
theorem dL_alike_84 : decode cL_alike 84 = .ok (.iload_n 3, 1) := by decide +kernel
theorem dL_alike_85 : decode cL_alike 85 = .ok (.invokevirtual 70, 3) := by decide +kernel
theorem dL_alike_88 : decode cL_alike 88 = .ok (.aload_n 1, 1) := by decide +kernel
theorem dL_alike_89 : decode cL_alike 89 = .ok (.getfield 61, 3) := by decide +kernel
theorem dL_alike_92 : decode cL_alike 92 = .ok (.iload_n 2, 1) := by decide +kernel
theorem dL_alike_93 : decode cL_alike 93 = .ok (.invokeinterface 74 2, 5) := by decide +kernel
theorem dL_alike_98 : decode cL_alike 98 = .ok (.checkcast 78, 3) := by decide +kernel
theorem dL_alike_101 : decode cL_alike 101 = .ok (.iload_n 3, 1) := by decide +kernel
theorem dL_alike_102 : decode cL_alike 102 = .ok (.iaload, 1) := by decide +kernel
theorem dL_alike_103 : decode cL_alike 103 = .ok (.if_icmp .eq 5, 3) := by decide +kernel
theorem dL_alike_106 : decode cL_alike 106 = .ok (.iconst 0, 1) := by decide +kernel
theorem dL_alike_107 : decode cL_alike 107 = .ok (.ireturn, 1) := by decide +kernel
theorem dL_alike_108 : decode cL_alike 108 = .ok (.iinc 3 1, 3) := by decide +kernel
theorem dL_alike_111 : decode cL_alike 111 = .ok (.goto (-35), 3) := by decide +kernel
theorem dL_alike_114 : decode cL_alike 114 = .ok (.iinc 2 1, 3) := by decide +kernel
theorem dL_alike_117 : decode cL_alike 117 = .ok (.goto (-56), 3) := by decide +kernel
theorem dL_alike_120 : decode cL_alike 120 = .ok (.iconst 0, 1) := by decide +kernel
theorem dL_alike_121 : decode cL_alike 121 = .ok (.istore_n 2, 1) := by decide +kernel
theorem dL_alike_122 : decode cL_alike 122 = .ok (.iconst 0, 1) := by decide +kernel
theorem dL_alike_123 : decode cL_alike 123 = .ok (.istore_n 3, 1) := by decide +kernel
theorem dL_alike_124 : decode cL_alike 124 = .ok (.iload_n 3, 1) := by decide +kernel
theorem dL_alike_125 : decode cL_alike 125 = .ok (.aload_n 1, 1) := by decide +kernel
theorem dL_alike_126 : decode cL_alike 126 = .ok (.getfield 80, 3) := by decide +kernel
theorem dL_alike_129 : decode cL_alike 129 = .ok (.iconst 1, 1) := by decide +kernel
theorem dL_alike_130 : decode cL_alike 130 = .ok (.isub, 1) := by decide +kernel
theorem dL_alike_131 : decode cL_alike 131 = .ok (.if_icmp .ge 72, 3) := by decide +kernel
theorem dL_alike_134 : decode cL_alike 134 = .ok (.iconst 0, 1) := by decide +kernel
theorem dL_alike_135 : decode cL_alike 135 = .ok (.istore 4, 2) := by decide +kernel
theorem dL_alike_137 : decode cL_alike 137 = .ok (.iload 4, 2) := by decide +kernel
theorem dL_alike_139 : decode cL_alike 139 = .ok (.aload_n 1, 1) := by decide +kernel
theorem dL_alike_140 : decode cL_alike 140 = .ok (.getfield 83, 3) := by decide +kernel
theorem dL_alike_143 : decode cL_alike 143 = .ok (.iconst 1, 1) := by decide +kernel
theorem dL_alike_144 : decode cL_alike 144 = .ok (.isub, 1) := by decide +kernel
theorem dL_alike_145 : decode cL_alike 145 = .ok (.if_icmp .ge 52, 3) := by decide +kernel
theorem dL_alike_148 : decode cL_alike 148 = .ok (.aload_n 0, 1) := by decide +kernel
theorem dL_alike_149 : decode cL_alike 149 = .ok (.iload 4, 2) := by decide +kernel
theorem dL_alike_151 : decode cL_alike 151 = .ok (.iload_n 3, 1) := by decide +kernel
theorem dL_alike_152 : decode cL_alike 152 = .ok (.invokevirtual 86, 3) := by decide +kernel
theorem dL_alike_155 : decode cL_alike 155 = .ok (.aload_n 1, 1) := by decide +kernel
theorem dL_alike_156 : decode cL_alike 156 = .ok (.getfield 89, 3) := by decide +kernel
theorem dL_alike_159 : decode cL_alike 159 = .ok (.iload_n 3, 1) := by decide +kernel
theorem dL_alike_160 : decode cL_alike 160 = .ok (.aaload, 1) := by decide +kernel
theorem dL_alike_161 : decode cL_alike 161 = .ok (.iload 4, 2) := by decide +kernel
theorem dL_alike_163 : decode cL_alike 163 = .ok (.iaload, 1) := by decide +kernel
theorem dL_alike_164 : decode cL_alike 164 = .ok (.iconst 1, 1) := by decide +kernel
theorem dL_alike_165 : decode cL_alike 165 = .ok (.isub, 1) := by decide +kernel
theorem dL_alike_166 : decode cL_alike 166 = .ok (.if_icmp .eq 5, 3) := by decide +kernel
theorem dL_alike_169 : decode cL_alike 169 = .ok (.iconst 0, 1) := by decide +kernel
theorem dL_alike_170 : decode cL_alike 170 = .ok (.ireturn, 1) := by decide +kernel
theorem dL_alike_171 : decode cL_alike 171 = .ok (.iload_n 2, 1) := by decide +kernel
theorem dL_alike_172 : decode cL_alike 172 = .ok (.aload_n 1, 1) := by decide +kernel
theorem dL_alike_173 : decode cL_alike 173 = .ok (.getfield 89, 3) := by decide +kernel
theorem dL_alike_176 : decode cL_alike 176 = .ok (.iload_n 3, 1) := by decide +kernel
theorem dL_alike_177 : decode cL_alike 177 = .ok (.aaload, 1) := by decide +kernel
theorem dL_alike_178 : decode cL_alike 178 = .ok (.iload 4, 2) := by decide +kernel
theorem dL_alike_180 : decode cL_alike 180 = .ok (.iaload, 1) := by decide +kernel
theorem dL_alike_181 : decode cL_alike 181 = .ok (.ifCond .le 7, 3) := by decide +kernel
theorem dL_alike_184 : decode cL_alike 184 = .ok (.iconst 1, 1) := by decide +kernel
theorem dL_alike_185 : decode cL_alike 185 = .ok (.goto 4, 3) := by decide +kernel
theorem dL_alike_188 : decode cL_alike 188 = .ok (.iconst 0, 1) := by decide +kernel
theorem dL_alike_189 : decode cL_alike 189 = .ok (.iadd, 1) := by decide +kernel
theorem dL_alike_190 : decode cL_alike 190 = .ok (.istore_n 2, 1) := by decide +kernel
theorem dL_alike_191 : decode cL_alike 191 = .ok (.iinc 4 1, 3) := by decide +kernel
theorem dL_alike_194 : decode cL_alike 194 = .ok (.goto (-57), 3) := by decide +kernel
theorem dL_alike_197 : decode cL_alike 197 = .ok (.iinc 3 1, 3) := by decide +kernel
theorem dL_alike_200 : decode cL_alike 200 = .ok (.goto (-76), 3) := by decide +kernel
theorem dL_alike_203 : decode cL_alike 203 = .ok (.aload_n 0, 1) := by decide +kernel
theorem dL_alike_204 : decode cL_alike 204 = .ok (.iconst 3, 1) := by decide +kernel
theorem dL_alike_205 : decode cL_alike 205 = .ok (.invokevirtual 39, 3) := by decide +kernel
theorem dL_alike_208 : decode cL_alike 208 = .ok (.iload_n 2, 1) := by decide +kernel
theorem dL_alike_209 : decode cL_alike 209 = .ok (.if_icmp .ne 7, 3) := by decide +kernel
theorem dL_alike_212 : decode cL_alike 212 = .ok (.iconst 1, 1) := by decide +kernel
theorem dL_alike_213 : decode cL_alike 213 = .ok (.goto 4, 3) := by decide +kernel
theorem dL_alike_216 : decode cL_alike 216 = .ok (.iconst 0, 1) := by decide +kernel
theorem dL_alike_217 : decode cL_alike 217 = .ok (.ireturn, 1) := by decide +kernel
theorem dL_acts_0 : decode cL_acts 0 = .ok (.aload_n 2, 1) := by decide +kernel
theorem dL_acts_1 : decode cL_acts 1 = .ok (.sipush 340, 3) := by decide +kernel
theorem dL_acts_4 : decode cL_acts 4 = .ok (.iload_n 3, 1) := by decide +kernel
theorem dL_acts_5 : decode cL_acts 5 = .ok (.iadd, 1) := by decide +kernel
theorem dL_acts_6 : decode cL_acts 6 = .ok (.sipush 4000, 3) := by decide +kernel
theorem dL_acts_9 : decode cL_acts 9 = .ok (.invokestatic 93, 3) := by decide +kernel
theorem dL_acts_12 : decode cL_acts 12 = .ok (.istore 4, 2) := by decide +kernel
theorem dL_acts_14 : decode cL_acts 14 = .ok (.aload_n 1, 1) := by decide +kernel
theorem dL_acts_15 : decode cL_acts 15 = .ok (.invokevirtual 54, 3) := by decide +kernel
theorem dL_acts_18 : decode cL_acts 18 = .ok (.ifCond .eq 25, 3) := by decide +kernel
theorem dL_acts_21 : decode cL_acts 21 = .ok (.aload_n 0, 1) := by decide +kernel
theorem dL_acts_22 : decode cL_acts 22 = .ok (.invokevirtual 51, 3) := by decide +kernel
theorem dL_acts_25 : decode cL_acts 25 = .ok (.ifCond .eq 16, 3) := by decide +kernel
theorem dL_acts_28 : decode cL_acts 28 = .ok (.aload_n 0, 1) := by decide +kernel
theorem dL_acts_29 : decode cL_acts 29 = .ok (.iconst 0, 1) := by decide +kernel
theorem dL_acts_30 : decode cL_acts 30 = .ok (.iconst 3, 1) := by decide +kernel
theorem dL_acts_31 : decode cL_acts 31 = .ok (.invokevirtual 97, 3) := by decide +kernel
theorem dL_acts_34 : decode cL_acts 34 = .ok (.ifCond .ne 7, 3) := by decide +kernel
theorem dL_acts_37 : decode cL_acts 37 = .ok (.iconst 1, 1) := by decide +kernel
theorem dL_acts_38 : decode cL_acts 38 = .ok (.goto 4, 3) := by decide +kernel
theorem dL_acts_41 : decode cL_acts 41 = .ok (.iconst 0, 1) := by decide +kernel
theorem dL_acts_42 : decode cL_acts 42 = .ok (.ireturn, 1) := by decide +kernel
theorem dL_acts_43 : decode cL_acts 43 = .ok (.aload_n 2, 1) := by decide +kernel
theorem dL_acts_44 : decode cL_acts 44 = .ok (.sipush 300, 3) := by decide +kernel
theorem dL_acts_47 : decode cL_acts 47 = .ok (.iload_n 3, 1) := by decide +kernel
theorem dL_acts_48 : decode cL_acts 48 = .ok (.iadd, 1) := by decide +kernel
theorem dL_acts_49 : decode cL_acts 49 = .ok (.bipush 7, 2) := by decide +kernel
theorem dL_acts_51 : decode cL_acts 51 = .ok (.invokestatic 93, 3) := by decide +kernel
theorem dL_acts_54 : decode cL_acts 54 = .ok (.tableswitch 295 0 4 #[34, 34, 34, 157, 157], 34) := by decide +kernel
theorem dL_acts_88 : decode cL_acts 88 = .ok (.iconst 0, 1) := by decide +kernel
theorem dL_acts_89 : decode cL_acts 89 = .ok (.istore 5, 2) := by decide +kernel
theorem dL_acts_91 : decode cL_acts 91 = .ok (.iload 5, 2) := by decide +kernel
theorem dL_acts_93 : decode cL_acts 93 = .ok (.iconst 4, 1) := by decide +kernel
theorem dL_acts_94 : decode cL_acts 94 = .ok (.if_icmp .ge 85, 3) := by decide +kernel
theorem dL_acts_97 : decode cL_acts 97 = .ok (.iload 4, 2) := by decide +kernel
theorem dL_acts_99 : decode cL_acts 99 = .ok (.iload 5, 2) := by decide +kernel
theorem dL_acts_101 : decode cL_acts 101 = .ok (.iadd, 1) := by decide +kernel
theorem dL_acts_102 : decode cL_acts 102 = .ok (.iconst 4, 1) := by decide +kernel
theorem dL_acts_103 : decode cL_acts 103 = .ok (.irem, 1) := by decide +kernel
theorem dL_acts_104 : decode cL_acts 104 = .ok (.istore 6, 2) := by decide +kernel
theorem dL_acts_106 : decode cL_acts 106 = .ok (.aload_n 0, 1) := by decide +kernel
theorem dL_acts_107 : decode cL_acts 107 = .ok (.aload_n 1, 1) := by decide +kernel
theorem dL_acts_108 : decode cL_acts 108 = .ok (.getfield 58, 3) := by decide +kernel
theorem dL_acts_111 : decode cL_acts 111 = .ok (.iload 6, 2) := by decide +kernel
theorem dL_acts_113 : decode cL_acts 113 = .ok (.invokevirtual 100, 3) := by decide +kernel
theorem dL_acts_116 : decode cL_acts 116 = .ok (.aload_n 1, 1) := by decide +kernel
theorem dL_acts_117 : decode cL_acts 117 = .ok (.aload_n 1, 1) := by decide +kernel
theorem dL_acts_118 : decode cL_acts 118 = .ok (.getfield 58, 3) := by decide +kernel
theorem dL_acts_121 : decode cL_acts 121 = .ok (.iload 6, 2) := by decide +kernel
theorem dL_acts_123 : decode cL_acts 123 = .ok (.invokevirtual 104, 3) := by decide +kernel
theorem dL_acts_126 : decode cL_acts 126 = .ok (.ifCond .lt 7, 3) := by decide +kernel
theorem dL_acts_129 : decode cL_acts 129 = .ok (.iconst 1, 1) := by decide +kernel
theorem dL_acts_130 : decode cL_acts 130 = .ok (.goto 4, 3) := by decide +kernel
theorem dL_acts_133 : decode cL_acts 133 = .ok (.iconst 0, 1) := by decide +kernel
theorem dL_acts_134 : decode cL_acts 134 = .ok (.if_icmp .eq 5, 3) := by decide +kernel
theorem dL_acts_137 : decode cL_acts 137 = .ok (.iconst 0, 1) := by decide +kernel
theorem dL_acts_138 : decode cL_acts 138 = .ok (.ireturn, 1) := by decide +kernel
theorem dL_acts_139 : decode cL_acts 139 = .ok (.aload_n 1, 1) := by decide +kernel
theorem dL_acts_140 : decode cL_acts 140 = .ok (.aload_n 1, 1) := by decide +kernel
theorem dL_acts_141 : decode cL_acts 141 = .ok (.getfield 58, 3) := by decide +kernel
theorem dL_acts_144 : decode cL_acts 144 = .ok (.iload 6, 2) := by decide +kernel
theorem dL_acts_146 : decode cL_acts 146 = .ok (.invokevirtual 104, 3) := by decide +kernel
theorem dL_acts_149 : decode cL_acts 149 = .ok (.ifCond .lt 24, 3) := by decide +kernel
theorem dL_acts_152 : decode cL_acts 152 = .ok (.aload_n 0, 1) := by decide +kernel
theorem dL_acts_153 : decode cL_acts 153 = .ok (.iload 6, 2) := by decide +kernel
theorem dL_acts_155 : decode cL_acts 155 = .ok (.invokevirtual 107, 3) := by decide +kernel
theorem dL_acts_158 : decode cL_acts 158 = .ok (.aload_n 1, 1) := by decide +kernel
theorem dL_acts_159 : decode cL_acts 159 = .ok (.iload 6, 2) := by decide +kernel
theorem dL_acts_161 : decode cL_acts 161 = .ok (.invokevirtual 110, 3) := by decide +kernel
theorem dL_acts_164 : decode cL_acts 164 = .ok (.if_icmp .ne 7, 3) := by decide +kernel
theorem dL_acts_167 : decode cL_acts 167 = .ok (.iconst 1, 1) := by decide +kernel
theorem dL_acts_168 : decode cL_acts 168 = .ok (.goto 4, 3) := by decide +kernel
theorem dL_acts_171 : decode cL_acts 171 = .ok (.iconst 0, 1) := by decide +kernel
theorem dL_acts_172 : decode cL_acts 172 = .ok (.ireturn, 1) := by decide +kernel
theorem dL_acts_173 : decode cL_acts 173 = .ok (.iinc 5 1, 3) := by decide +kernel
theorem dL_acts_176 : decode cL_acts 176 = .ok (.goto (-85), 3) := by decide +kernel
theorem dL_acts_179 : decode cL_acts 179 = .ok (.aload_n 1, 1) := by decide +kernel
theorem dL_acts_180 : decode cL_acts 180 = .ok (.invokevirtual 111, 3) := by decide +kernel
theorem dL_acts_183 : decode cL_acts 183 = .ok (.aload_n 0, 1) := by decide +kernel
theorem dL_acts_184 : decode cL_acts 184 = .ok (.invokevirtual 114, 3) := by decide +kernel
theorem dL_acts_187 : decode cL_acts 187 = .ok (.aload_n 1, 1) := by decide +kernel
theorem dL_acts_188 : decode cL_acts 188 = .ok (.invokevirtual 54, 3) := by decide +kernel
theorem dL_acts_191 : decode cL_acts 191 = .ok (.ifCond .eq 7, 3) := by decide +kernel
theorem dL_acts_194 : decode cL_acts 194 = .ok (.iconst (-1), 1) := by decide +kernel
theorem dL_acts_195 : decode cL_acts 195 = .ok (.goto 7, 3) := by decide +kernel
theorem dL_acts_198 : decode cL_acts 198 = .ok (.aload_n 1, 1) := by decide +kernel
theorem dL_acts_199 : decode cL_acts 199 = .ok (.getfield 58, 3) := by decide +kernel
theorem dL_acts_202 : decode cL_acts 202 = .ok (.if_icmp .ne 7, 3) := by decide +kernel
theorem dL_acts_205 : decode cL_acts 205 = .ok (.iconst 1, 1) := by decide +kernel
theorem dL_acts_206 : decode cL_acts 206 = .ok (.goto 4, 3) := by decide +kernel
theorem dL_acts_209 : decode cL_acts 209 = .ok (.iconst 0, 1) := by decide +kernel
theorem dL_acts_210 : decode cL_acts 210 = .ok (.ireturn, 1) := by decide +kernel
theorem dL_acts_211 : decode cL_acts 211 = .ok (.iload 4, 2) := by decide +kernel
theorem dL_acts_213 : decode cL_acts 213 = .ok (.aload_n 1, 1) := by decide +kernel
theorem dL_acts_214 : decode cL_acts 214 = .ok (.getfield 83, 3) := by decide +kernel
theorem dL_acts_217 : decode cL_acts 217 = .ok (.iconst 1, 1) := by decide +kernel
theorem dL_acts_218 : decode cL_acts 218 = .ok (.isub, 1) := by decide +kernel
theorem dL_acts_219 : decode cL_acts 219 = .ok (.irem, 1) := by decide +kernel
theorem dL_acts_220 : decode cL_acts 220 = .ok (.istore 5, 2) := by decide +kernel
theorem dL_acts_222 : decode cL_acts 222 = .ok (.iload 4, 2) := by decide +kernel
theorem dL_acts_224 : decode cL_acts 224 = .ok (.bipush 9, 2) := by decide +kernel
theorem dL_acts_226 : decode cL_acts 226 = .ok (.idiv, 1) := by decide +kernel
theorem dL_acts_227 : decode cL_acts 227 = .ok (.aload_n 1, 1) := by decide +kernel
theorem dL_acts_228 : decode cL_acts 228 = .ok (.getfield 80, 3) := by decide +kernel
theorem dL_acts_231 : decode cL_acts 231 = .ok (.iconst 1, 1) := by decide +kernel
theorem dL_acts_232 : decode cL_acts 232 = .ok (.isub, 1) := by decide +kernel
theorem dL_acts_233 : decode cL_acts 233 = .ok (.irem, 1) := by decide +kernel
theorem dL_acts_234 : decode cL_acts 234 = .ok (.istore 6, 2) := by decide +kernel
theorem dL_acts_236 : decode cL_acts 236 = .ok (.iconst 1, 1) := by decide +kernel
theorem dL_acts_237 : decode cL_acts 237 = .ok (.iload 4, 2) := by decide +kernel
theorem dL_acts_239 : decode cL_acts 239 = .ok (.bipush 99, 2) := by decide +kernel
theorem dL_acts_241 : decode cL_acts 241 = .ok (.idiv, 1) := by decide +kernel
theorem dL_acts_242 : decode cL_acts 242 = .ok (.iconst 2, 1) := by decide +kernel
theorem dL_acts_243 : decode cL_acts 243 = .ok (.irem, 1) := by decide +kernel
theorem dL_acts_244 : decode cL_acts 244 = .ok (.iadd, 1) := by decide +kernel
theorem dL_acts_245 : decode cL_acts 245 = .ok (.istore 7, 2) := by decide +kernel
theorem dL_acts_247 : decode cL_acts 247 = .ok (.aload_n 1, 1) := by decide +kernel
theorem dL_acts_248 : decode cL_acts 248 = .ok (.iload 5, 2) := by decide +kernel
theorem dL_acts_250 : decode cL_acts 250 = .ok (.iload 6, 2) := by decide +kernel
theorem dL_acts_252 : decode cL_acts 252 = .ok (.iload 7, 2) := by decide +kernel
theorem dL_acts_254 : decode cL_acts 254 = .ok (.invokevirtual 117, 3) := by decide +kernel
theorem dL_acts_257 : decode cL_acts 257 = .ok (.istore 8, 2) := by decide +kernel
theorem dL_acts_259 : decode cL_acts 259 = .ok (.aload_n 0, 1) := by decide +kernel
theorem dL_acts_260 : decode cL_acts 260 = .ok (.iload 5, 2) := by decide +kernel
theorem dL_acts_262 : decode cL_acts 262 = .ok (.iload 6, 2) := by decide +kernel
theorem dL_acts_264 : decode cL_acts 264 = .ok (.iload 7, 2) := by decide +kernel
theorem dL_acts_266 : decode cL_acts 266 = .ok (.iconst 2, 1) := by decide +kernel
theorem dL_acts_267 : decode cL_acts 267 = .ok (.if_icmp .ne 7, 3) := by decide +kernel
theorem dL_acts_270 : decode cL_acts 270 = .ok (.iconst 1, 1) := by decide +kernel
theorem dL_acts_271 : decode cL_acts 271 = .ok (.goto 4, 3) := by decide +kernel
theorem dL_acts_274 : decode cL_acts 274 = .ok (.iconst 0, 1) := by decide +kernel
theorem dL_acts_275 : decode cL_acts 275 = .ok (.invokevirtual 121, 3) := by decide +kernel
theorem dL_acts_278 : decode cL_acts 278 = .ok (.iload 8, 2) := by decide +kernel
theorem dL_acts_280 : decode cL_acts 280 = .ok (.if_icmp .eq 5, 3) := by decide +kernel
theorem dL_acts_283 : decode cL_acts 283 = .ok (.iconst 0, 1) := by decide +kernel
theorem dL_acts_284 : decode cL_acts 284 = .ok (.ireturn, 1) := by decide +kernel
theorem dL_acts_285 : decode cL_acts 285 = .ok (.iload 8, 2) := by decide +kernel
theorem dL_acts_287 : decode cL_acts 287 = .ok (.ifCond .eq 56, 3) := by decide +kernel
theorem dL_acts_290 : decode cL_acts 290 = .ok (.aload_n 1, 1) := by decide +kernel
theorem dL_acts_291 : decode cL_acts 291 = .ok (.getfield 61, 3) := by decide +kernel
theorem dL_acts_294 : decode cL_acts 294 = .ok (.aload_n 1, 1) := by decide +kernel
theorem dL_acts_295 : decode cL_acts 295 = .ok (.getfield 58, 3) := by decide +kernel
theorem dL_acts_298 : decode cL_acts 298 = .ok (.invokeinterface 74 2, 5) := by decide +kernel
theorem dL_acts_303 : decode cL_acts 303 = .ok (.checkcast 78, 3) := by decide +kernel
theorem dL_acts_306 : decode cL_acts 306 = .ok (.iconst 3, 1) := by decide +kernel
theorem dL_acts_307 : decode cL_acts 307 = .ok (.iaload, 1) := by decide +kernel
theorem dL_acts_308 : decode cL_acts 308 = .ok (.ifCond .eq 35, 3) := by decide +kernel
theorem dL_acts_311 : decode cL_acts 311 = .ok (.aload_n 0, 1) := by decide +kernel
theorem dL_acts_312 : decode cL_acts 312 = .ok (.iload 5, 2) := by decide +kernel
theorem dL_acts_314 : decode cL_acts 314 = .ok (.iload 6, 2) := by decide +kernel
theorem dL_acts_316 : decode cL_acts 316 = .ok (.iload 7, 2) := by decide +kernel
theorem dL_acts_318 : decode cL_acts 318 = .ok (.iconst 2, 1) := by decide +kernel
theorem dL_acts_319 : decode cL_acts 319 = .ok (.if_icmp .ne 7, 3) := by decide +kernel
theorem dL_acts_322 : decode cL_acts 322 = .ok (.iconst 1, 1) := by decide +kernel
theorem dL_acts_323 : decode cL_acts 323 = .ok (.goto 4, 3) := by decide +kernel
theorem dL_acts_326 : decode cL_acts 326 = .ok (.iconst 0, 1) := by decide +kernel
theorem dL_acts_327 : decode cL_acts 327 = .ok (.invokevirtual 124, 3) := by decide +kernel
theorem dL_acts_330 : decode cL_acts 330 = .ok (.aload_n 1, 1) := by decide +kernel
theorem dL_acts_331 : decode cL_acts 331 = .ok (.iload 5, 2) := by decide +kernel
theorem dL_acts_333 : decode cL_acts 333 = .ok (.iload 6, 2) := by decide +kernel
theorem dL_acts_335 : decode cL_acts 335 = .ok (.iload 7, 2) := by decide +kernel
theorem dL_acts_337 : decode cL_acts 337 = .ok (.invokevirtual 128, 3) := by decide +kernel
theorem dL_acts_340 : decode cL_acts 340 = .ok (.if_icmp .ne 7, 3) := by decide +kernel
theorem dL_acts_343 : decode cL_acts 343 = .ok (.iconst 1, 1) := by decide +kernel
theorem dL_acts_344 : decode cL_acts 344 = .ok (.goto 4, 3) := by decide +kernel
theorem dL_acts_347 : decode cL_acts 347 = .ok (.iconst 0, 1) := by decide +kernel
theorem dL_acts_348 : decode cL_acts 348 = .ok (.ireturn, 1) := by decide +kernel
theorem dL_acts_349 : decode cL_acts 349 = .ok (.iconst 0, 1) := by decide +kernel
theorem dL_acts_350 : decode cL_acts 350 = .ok (.istore 5, 2) := by decide +kernel
theorem dL_acts_352 : decode cL_acts 352 = .ok (.iload 5, 2) := by decide +kernel
theorem dL_acts_354 : decode cL_acts 354 = .ok (.iconst 1, 1) := by decide +kernel
theorem dL_acts_355 : decode cL_acts 355 = .ok (.iload 4, 2) := by decide +kernel
theorem dL_acts_357 : decode cL_acts 357 = .ok (.iconst 3, 1) := by decide +kernel
theorem dL_acts_358 : decode cL_acts 358 = .ok (.irem, 1) := by decide +kernel
theorem dL_acts_359 : decode cL_acts 359 = .ok (.iadd, 1) := by decide +kernel
theorem dL_acts_360 : decode cL_acts 360 = .ok (.if_icmp .ge 26, 3) := by decide +kernel
theorem dL_acts_363 : decode cL_acts 363 = .ok (.aload_n 1, 1) := by decide +kernel
theorem dL_acts_364 : decode cL_acts 364 = .ok (.invokevirtual 54, 3) := by decide +kernel
theorem dL_acts_367 : decode cL_acts 367 = .ok (.ifCond .ne 19, 3) := by decide +kernel
theorem dL_acts_370 : decode cL_acts 370 = .ok (.aload_n 1, 1) := by decide +kernel
theorem dL_acts_371 : decode cL_acts 371 = .ok (.iload 4, 2) := by decide +kernel
theorem dL_acts_373 : decode cL_acts 373 = .ok (.iconst 3, 1) := by decide +kernel
theorem dL_acts_374 : decode cL_acts 374 = .ok (.idiv, 1) := by decide +kernel
theorem dL_acts_375 : decode cL_acts 375 = .ok (.iconst 2, 1) := by decide +kernel
theorem dL_acts_376 : decode cL_acts 376 = .ok (.irem, 1) := by decide +kernel
theorem dL_acts_377 : decode cL_acts 377 = .ok (.invokevirtual 131, 3) := by decide +kernel
theorem dL_acts_380 : decode cL_acts 380 = .ok (.iinc 5 1, 3) := by decide +kernel
theorem dL_acts_383 : decode cL_acts 383 = .ok (.goto (-31), 3) := by decide +kernel
theorem dL_acts_386 : decode cL_acts 386 = .ok (.aload_n 0, 1) := by decide +kernel
theorem dL_acts_387 : decode cL_acts 387 = .ok (.iload 4, 2) := by decide +kernel
theorem dL_acts_389 : decode cL_acts 389 = .ok (.iconst 3, 1) := by decide +kernel
theorem dL_acts_390 : decode cL_acts 390 = .ok (.idiv, 1) := by decide +kernel
theorem dL_acts_391 : decode cL_acts 391 = .ok (.iconst 2, 1) := by decide +kernel
theorem dL_acts_392 : decode cL_acts 392 = .ok (.irem, 1) := by decide +kernel
theorem dL_acts_393 : decode cL_acts 393 = .ok (.iconst 1, 1) := by decide +kernel
theorem dL_acts_394 : decode cL_acts 394 = .ok (.iload 4, 2) := by decide +kernel
theorem dL_acts_396 : decode cL_acts 396 = .ok (.iconst 3, 1) := by decide +kernel
theorem dL_acts_397 : decode cL_acts 397 = .ok (.irem, 1) := by decide +kernel
theorem dL_acts_398 : decode cL_acts 398 = .ok (.iadd, 1) := by decide +kernel
theorem dL_acts_399 : decode cL_acts 399 = .ok (.invokevirtual 97, 3) := by decide +kernel
theorem dL_acts_402 : decode cL_acts 402 = .ok (.iload 5, 2) := by decide +kernel
theorem dL_acts_404 : decode cL_acts 404 = .ok (.if_icmp .ne 7, 3) := by decide +kernel
theorem dL_acts_407 : decode cL_acts 407 = .ok (.iconst 1, 1) := by decide +kernel
theorem dL_acts_408 : decode cL_acts 408 = .ok (.goto 4, 3) := by decide +kernel
theorem dL_acts_411 : decode cL_acts 411 = .ok (.iconst 0, 1) := by decide +kernel
theorem dL_acts_412 : decode cL_acts 412 = .ok (.ireturn, 1) := by decide +kernel
theorem dL_law_0 : decode cL_law 0 = .ok (.aload_n 0, 1) := by decide +kernel
theorem dL_law_1 : decode cL_law 1 = .ok (.invokestatic 134, 3) := by decide +kernel
theorem dL_law_4 : decode cL_law 4 = .ok (.astore_n 1, 1) := by decide +kernel
theorem dL_law_5 : decode cL_law 5 = .ok (.new 26, 3) := by decide +kernel
theorem dL_law_8 : decode cL_law 8 = .ok (.dup, 1) := by decide +kernel
theorem dL_law_9 : decode cL_law 9 = .ok (.invokespecial 138, 3) := by decide +kernel
theorem dL_law_12 : decode cL_law 12 = .ok (.astore_n 2, 1) := by decide +kernel
theorem dL_law_13 : decode cL_law 13 = .ok (.aload_n 2, 1) := by decide +kernel
theorem dL_law_14 : decode cL_law 14 = .ok (.aload_n 1, 1) := by decide +kernel
theorem dL_law_15 : decode cL_law 15 = .ok (.getfield 139, 3) := by decide +kernel
theorem dL_law_18 : decode cL_law 18 = .ok (.invokestatic 143, 3) := by decide +kernel
theorem dL_law_21 : decode cL_law 21 = .ok (.ifCond .eq 19, 3) := by decide +kernel
theorem dL_law_24 : decode cL_law 24 = .ok (.aload_n 2, 1) := by decide +kernel
theorem dL_law_25 : decode cL_law 25 = .ok (.invokevirtual 147, 3) := by decide +kernel
theorem dL_law_28 : decode cL_law 28 = .ok (.aload_n 1, 1) := by decide +kernel
theorem dL_law_29 : decode cL_law 29 = .ok (.getfield 61, 3) := by decide +kernel
theorem dL_law_32 : decode cL_law 32 = .ok (.invokeinterface 65 1, 5) := by decide +kernel
theorem dL_law_37 : decode cL_law 37 = .ok (.if_icmp .eq 5, 3) := by decide +kernel
theorem dL_law_40 : decode cL_law 40 = .ok (.iconst 0, 1) := by decide +kernel
theorem dL_law_41 : decode cL_law 41 = .ok (.ireturn, 1) := by decide +kernel
theorem dL_law_42 : decode cL_law 42 = .ok (.iconst 0, 1) := by decide +kernel
theorem dL_law_43 : decode cL_law 43 = .ok (.istore_n 3, 1) := by decide +kernel
theorem dL_law_44 : decode cL_law 44 = .ok (.iload_n 3, 1) := by decide +kernel
theorem dL_law_45 : decode cL_law 45 = .ok (.bipush 8, 2) := by decide +kernel
theorem dL_law_47 : decode cL_law 47 = .ok (.if_icmp .ge 47, 3) := by decide +kernel
theorem dL_law_50 : decode cL_law 50 = .ok (.aload_n 2, 1) := by decide +kernel
theorem dL_law_51 : decode cL_law 51 = .ok (.aload_n 1, 1) := by decide +kernel
theorem dL_law_52 : decode cL_law 52 = .ok (.aload_n 0, 1) := by decide +kernel
theorem dL_law_53 : decode cL_law 53 = .ok (.iload_n 3, 1) := by decide +kernel
theorem dL_law_54 : decode cL_law 54 = .ok (.invokestatic 150, 3) := by decide +kernel
theorem dL_law_57 : decode cL_law 57 = .ok (.ifCond .eq 29, 3) := by decide +kernel
theorem dL_law_60 : decode cL_law 60 = .ok (.aload_n 2, 1) := by decide +kernel
theorem dL_law_61 : decode cL_law 61 = .ok (.aload_n 1, 1) := by decide +kernel
theorem dL_law_62 : decode cL_law 62 = .ok (.invokestatic 154, 3) := by decide +kernel
theorem dL_law_65 : decode cL_law 65 = .ok (.ifCond .eq 21, 3) := by decide +kernel
theorem dL_law_68 : decode cL_law 68 = .ok (.aload_n 2, 1) := by decide +kernel
theorem dL_law_69 : decode cL_law 69 = .ok (.aload_n 1, 1) := by decide +kernel
theorem dL_law_70 : decode cL_law 70 = .ok (.invokestatic 158, 3) := by decide +kernel
theorem dL_law_73 : decode cL_law 73 = .ok (.ifCond .eq 13, 3) := by decide +kernel
theorem dL_law_76 : decode cL_law 76 = .ok (.aload_n 2, 1) := by decide +kernel
theorem dL_law_77 : decode cL_law 77 = .ok (.aload_n 1, 1) := by decide +kernel
theorem dL_law_78 : decode cL_law 78 = .ok (.aload_n 0, 1) := by decide +kernel
theorem dL_law_79 : decode cL_law 79 = .ok (.iload_n 3, 1) := by decide +kernel
theorem dL_law_80 : decode cL_law 80 = .ok (.invokestatic 161, 3) := by decide +kernel
theorem dL_law_83 : decode cL_law 83 = .ok (.ifCond .ne 5, 3) := by decide +kernel
theorem dL_law_86 : decode cL_law 86 = .ok (.iconst 0, 1) := by decide +kernel
theorem dL_law_87 : decode cL_law 87 = .ok (.ireturn, 1) := by decide +kernel
theorem dL_law_88 : decode cL_law 88 = .ok (.iinc 3 1, 3) := by decide +kernel
theorem dL_law_91 : decode cL_law 91 = .ok (.goto (-47), 3) := by decide +kernel
theorem dL_law_94 : decode cL_law 94 = .ok (.aload_n 2, 1) := by decide +kernel
theorem dL_law_95 : decode cL_law 95 = .ok (.aload_n 1, 1) := by decide +kernel
theorem dL_law_96 : decode cL_law 96 = .ok (.invokestatic 164, 3) := by decide +kernel
theorem dL_law_99 : decode cL_law 99 = .ok (.ireturn, 1) := by decide +kernel
theorem dL_fields_0 : decode cL_fields 0 = .ok (.iconst 0, 1) := by decide +kernel
theorem dL_fields_1 : decode cL_fields 1 = .ok (.istore_n 2, 1) := by decide +kernel
theorem dL_fields_2 : decode cL_fields 2 = .ok (.iload_n 2, 1) := by decide +kernel
theorem dL_fields_3 : decode cL_fields 3 = .ok (.aload_n 1, 1) := by decide +kernel
theorem dL_fields_4 : decode cL_fields 4 = .ok (.getfield 61, 3) := by decide +kernel
theorem dL_fields_7 : decode cL_fields 7 = .ok (.invokeinterface 65 1, 5) := by decide +kernel
theorem dL_fields_12 : decode cL_fields 12 = .ok (.if_icmp .ge 249, 3) := by decide +kernel
theorem dL_fields_15 : decode cL_fields 15 = .ok (.aload_n 0, 1) := by decide +kernel
theorem dL_fields_16 : decode cL_fields 16 = .ok (.iload_n 2, 1) := by decide +kernel
theorem dL_fields_17 : decode cL_fields 17 = .ok (.invokevirtual 167, 3) := by decide +kernel
theorem dL_fields_20 : decode cL_fields 20 = .ok (.ifCond .lt 34, 3) := by decide +kernel
theorem dL_fields_23 : decode cL_fields 23 = .ok (.aload_n 0, 1) := by decide +kernel
theorem dL_fields_24 : decode cL_fields 24 = .ok (.iload_n 2, 1) := by decide +kernel
theorem dL_fields_25 : decode cL_fields 25 = .ok (.invokevirtual 167, 3) := by decide +kernel
theorem dL_fields_28 : decode cL_fields 28 = .ok (.ifCond .ne 7, 3) := by decide +kernel
theorem dL_fields_31 : decode cL_fields 31 = .ok (.iconst 1, 1) := by decide +kernel
theorem dL_fields_32 : decode cL_fields 32 = .ok (.goto 4, 3) := by decide +kernel
theorem dL_fields_35 : decode cL_fields 35 = .ok (.iconst 0, 1) := by decide +kernel
theorem dL_fields_36 : decode cL_fields 36 = .ok (.aload_n 0, 1) := by decide +kernel
theorem dL_fields_37 : decode cL_fields 37 = .ok (.iload_n 2, 1) := by decide +kernel
theorem dL_fields_38 : decode cL_fields 38 = .ok (.bipush 6, 2) := by decide +kernel
theorem dL_fields_40 : decode cL_fields 40 = .ok (.invokevirtual 70, 3) := by decide +kernel
theorem dL_fields_43 : decode cL_fields 43 = .ok (.ifCond .le 7, 3) := by decide +kernel
theorem dL_fields_46 : decode cL_fields 46 = .ok (.iconst 1, 1) := by decide +kernel
theorem dL_fields_47 : decode cL_fields 47 = .ok (.goto 4, 3) := by decide +kernel
theorem dL_fields_50 : decode cL_fields 50 = .ok (.iconst 0, 1) := by decide +kernel
theorem dL_fields_51 : decode cL_fields 51 = .ok (.if_icmp .eq 5, 3) := by decide +kernel
theorem dL_fields_54 : decode cL_fields 54 = .ok (.iconst 0, 1) := by decide +kernel
theorem dL_fields_55 : decode cL_fields 55 = .ok (.ireturn, 1) := by decide +kernel
theorem dL_fields_56 : decode cL_fields 56 = .ok (.iconst 0, 1) := by decide +kernel
theorem dL_fields_57 : decode cL_fields 57 = .ok (.istore_n 3, 1) := by decide +kernel
theorem dL_fields_58 : decode cL_fields 58 = .ok (.iload_n 3, 1) := by decide +kernel
theorem dL_fields_59 : decode cL_fields 59 = .ok (.aload_n 1, 1) := by decide +kernel
theorem dL_fields_60 : decode cL_fields 60 = .ok (.getfield 83, 3) := by decide +kernel
theorem dL_fields_63 : decode cL_fields 63 = .ok (.if_icmp .ge 156, 3) := by decide +kernel
theorem dL_fields_66 : decode cL_fields 66 = .ok (.iconst 0, 1) := by decide +kernel
theorem dL_fields_67 : decode cL_fields 67 = .ok (.istore 4, 2) := by decide +kernel
theorem dL_fields_69 : decode cL_fields 69 = .ok (.iload 4, 2) := by decide +kernel
theorem dL_fields_71 : decode cL_fields 71 = .ok (.aload_n 1, 1) := by decide +kernel
theorem dL_fields_72 : decode cL_fields 72 = .ok (.getfield 80, 3) := by decide +kernel
theorem dL_fields_75 : decode cL_fields 75 = .ok (.if_icmp .ge 138, 3) := by decide +kernel
theorem dL_fields_78 : decode cL_fields 78 = .ok (.iconst 0, 1) := by decide +kernel
theorem dL_fields_79 : decode cL_fields 79 = .ok (.istore 5, 2) := by decide +kernel
theorem dL_fields_81 : decode cL_fields 81 = .ok (.iload 5, 2) := by decide +kernel
theorem dL_fields_83 : decode cL_fields 83 = .ok (.iconst 2, 1) := by decide +kernel
theorem dL_fields_84 : decode cL_fields 84 = .ok (.if_icmp .ge 123, 3) := by decide +kernel
theorem dL_fields_87 : decode cL_fields 87 = .ok (.aload_n 0, 1) := by decide +kernel
theorem dL_fields_88 : decode cL_fields 88 = .ok (.iload_n 3, 1) := by decide +kernel
theorem dL_fields_89 : decode cL_fields 89 = .ok (.iload 4, 2) := by decide +kernel
theorem dL_fields_91 : decode cL_fields 91 = .ok (.iload 5, 2) := by decide +kernel
theorem dL_fields_93 : decode cL_fields 93 = .ok (.invokevirtual 170, 3) := by decide +kernel
theorem dL_fields_96 : decode cL_fields 96 = .ok (.ifCond .eq 6, 3) := by decide +kernel
theorem dL_fields_99 : decode cL_fields 99 = .ok (.goto 102, 3) := by decide +kernel
theorem dL_fields_102 : decode cL_fields 102 = .ok (.aload_n 0, 1) := by decide +kernel
theorem dL_fields_103 : decode cL_fields 103 = .ok (.iload_n 2, 1) := by decide +kernel
theorem dL_fields_104 : decode cL_fields 104 = .ok (.iload_n 3, 1) := by decide +kernel
theorem dL_fields_105 : decode cL_fields 105 = .ok (.iload 4, 2) := by decide +kernel
theorem dL_fields_107 : decode cL_fields 107 = .ok (.invokevirtual 173, 3) := by decide +kernel
theorem dL_fields_110 : decode cL_fields 110 = .ok (.istore 6, 2) := by decide +kernel
theorem dL_fields_112 : decode cL_fields 112 = .ok (.aload_n 0, 1) := by decide +kernel
theorem dL_fields_113 : decode cL_fields 113 = .ok (.iload_n 2, 1) := by decide +kernel
theorem dL_fields_114 : decode cL_fields 114 = .ok (.iload_n 3, 1) := by decide +kernel
theorem dL_fields_115 : decode cL_fields 115 = .ok (.getstatic 176, 3) := by decide +kernel
theorem dL_fields_118 : decode cL_fields 118 = .ok (.iload 5, 2) := by decide +kernel
theorem dL_fields_120 : decode cL_fields 120 = .ok (.iaload, 1) := by decide +kernel
theorem dL_fields_121 : decode cL_fields 121 = .ok (.iadd, 1) := by decide +kernel
theorem dL_fields_122 : decode cL_fields 122 = .ok (.iload 4, 2) := by decide +kernel
theorem dL_fields_124 : decode cL_fields 124 = .ok (.getstatic 179, 3) := by decide +kernel
theorem dL_fields_127 : decode cL_fields 127 = .ok (.iload 5, 2) := by decide +kernel
theorem dL_fields_129 : decode cL_fields 129 = .ok (.iaload, 1) := by decide +kernel
theorem dL_fields_130 : decode cL_fields 130 = .ok (.iadd, 1) := by decide +kernel
theorem dL_fields_131 : decode cL_fields 131 = .ok (.invokevirtual 173, 3) := by decide +kernel
theorem dL_fields_134 : decode cL_fields 134 = .ok (.istore 7, 2) := by decide +kernel
theorem dL_fields_136 : decode cL_fields 136 = .ok (.iload 6, 2) := by decide +kernel
theorem dL_fields_138 : decode cL_fields 138 = .ok (.ifCond .ge 7, 3) := by decide +kernel
theorem dL_fields_141 : decode cL_fields 141 = .ok (.iconst 1, 1) := by decide +kernel
theorem dL_fields_142 : decode cL_fields 142 = .ok (.goto 4, 3) := by decide +kernel
theorem dL_fields_145 : decode cL_fields 145 = .ok (.iconst 0, 1) := by decide +kernel
theorem dL_fields_146 : decode cL_fields 146 = .ok (.iload 7, 2) := by decide +kernel
theorem dL_fields_148 : decode cL_fields 148 = .ok (.ifCond .ge 7, 3) := by decide +kernel
theorem dL_fields_151 : decode cL_fields 151 = .ok (.iconst 1, 1) := by decide +kernel
theorem dL_fields_152 : decode cL_fields 152 = .ok (.goto 4, 3) := by decide +kernel
theorem dL_fields_155 : decode cL_fields 155 = .ok (.iconst 0, 1) := by decide +kernel
theorem dL_fields_156 : decode cL_fields 156 = .ok (.if_icmp .ne 43, 3) := by decide +kernel
theorem dL_fields_159 : decode cL_fields 159 = .ok (.iload 6, 2) := by decide +kernel
theorem dL_fields_161 : decode cL_fields 161 = .ok (.iload 7, 2) := by decide +kernel
theorem dL_fields_163 : decode cL_fields 163 = .ok (.isub, 1) := by decide +kernel
theorem dL_fields_164 : decode cL_fields 164 = .ok (.invokestatic 182, 3) := by decide +kernel
theorem dL_fields_167 : decode cL_fields 167 = .ok (.iconst 1, 1) := by decide +kernel
theorem dL_fields_168 : decode cL_fields 168 = .ok (.if_icmp .gt 31, 3) := by decide +kernel
theorem dL_fields_171 : decode cL_fields 171 = .ok (.aload_n 0, 1) := by decide +kernel
theorem dL_fields_172 : decode cL_fields 172 = .ok (.iload_n 3, 1) := by decide +kernel
theorem dL_fields_173 : decode cL_fields 173 = .ok (.getstatic 176, 3) := by decide +kernel
theorem dL_fields_176 : decode cL_fields 176 = .ok (.iload 5, 2) := by decide +kernel
theorem dL_fields_178 : decode cL_fields 178 = .ok (.iaload, 1) := by decide +kernel
theorem dL_fields_179 : decode cL_fields 179 = .ok (.iadd, 1) := by decide +kernel
theorem dL_fields_180 : decode cL_fields 180 = .ok (.iload 4, 2) := by decide +kernel
theorem dL_fields_182 : decode cL_fields 182 = .ok (.getstatic 179, 3) := by decide +kernel
theorem dL_fields_185 : decode cL_fields 185 = .ok (.iload 5, 2) := by decide +kernel
theorem dL_fields_187 : decode cL_fields 187 = .ok (.iaload, 1) := by decide +kernel
theorem dL_fields_188 : decode cL_fields 188 = .ok (.iadd, 1) := by decide +kernel
theorem dL_fields_189 : decode cL_fields 189 = .ok (.iload 5, 2) := by decide +kernel
theorem dL_fields_191 : decode cL_fields 191 = .ok (.iconst 2, 1) := by decide +kernel
theorem dL_fields_192 : decode cL_fields 192 = .ok (.iadd, 1) := by decide +kernel
theorem dL_fields_193 : decode cL_fields 193 = .ok (.invokevirtual 170, 3) := by decide +kernel
theorem dL_fields_196 : decode cL_fields 196 = .ok (.ifCond .eq 5, 3) := by decide +kernel
theorem dL_fields_199 : decode cL_fields 199 = .ok (.iconst 0, 1) := by decide +kernel
theorem dL_fields_200 : decode cL_fields 200 = .ok (.ireturn, 1) := by decide +kernel
theorem dL_fields_201 : decode cL_fields 201 = .ok (.iinc 5 1, 3) := by decide +kernel
theorem dL_fields_204 : decode cL_fields 204 = .ok (.goto (-123), 3) := by decide +kernel
theorem dL_fields_207 : decode cL_fields 207 = .ok (.iinc 4 1, 3) := by decide +kernel
theorem dL_fields_210 : decode cL_fields 210 = .ok (.goto (-141), 3) := by decide +kernel
theorem dL_fields_213 : decode cL_fields 213 = .ok (.iinc 3 1, 3) := by decide +kernel
theorem dL_fields_216 : decode cL_fields 216 = .ok (.goto (-158), 3) := by decide +kernel
theorem dL_fields_219 : decode cL_fields 219 = .ok (.aload_n 0, 1) := by decide +kernel
theorem dL_fields_220 : decode cL_fields 220 = .ok (.iload_n 2, 1) := by decide +kernel
theorem dL_fields_221 : decode cL_fields 221 = .ok (.invokevirtual 187, 3) := by decide +kernel
theorem dL_fields_224 : decode cL_fields 224 = .ok (.istore_n 3, 1) := by decide +kernel
theorem dL_fields_225 : decode cL_fields 225 = .ok (.iload_n 3, 1) := by decide +kernel
theorem dL_fields_226 : decode cL_fields 226 = .ok (.ifCond .lt 29, 3) := by decide +kernel
theorem dL_fields_229 : decode cL_fields 229 = .ok (.iload_n 3, 1) := by decide +kernel
theorem dL_fields_230 : decode cL_fields 230 = .ok (.aload_n 0, 1) := by decide +kernel
theorem dL_fields_231 : decode cL_fields 231 = .ok (.iload_n 2, 1) := by decide +kernel
theorem dL_fields_232 : decode cL_fields 232 = .ok (.invokevirtual 167, 3) := by decide +kernel
theorem dL_fields_235 : decode cL_fields 235 = .ok (.if_icmp .lt 18, 3) := by decide +kernel
theorem dL_fields_238 : decode cL_fields 238 = .ok (.aload_n 0, 1) := by decide +kernel
theorem dL_fields_239 : decode cL_fields 239 = .ok (.iload_n 2, 1) := by decide +kernel
theorem dL_fields_240 : decode cL_fields 240 = .ok (.invokevirtual 190, 3) := by decide +kernel
theorem dL_fields_243 : decode cL_fields 243 = .ok (.iload_n 3, 1) := by decide +kernel
theorem dL_fields_244 : decode cL_fields 244 = .ok (.aload_n 0, 1) := by decide +kernel
theorem dL_fields_245 : decode cL_fields 245 = .ok (.iload_n 2, 1) := by decide +kernel
theorem dL_fields_246 : decode cL_fields 246 = .ok (.invokevirtual 167, 3) := by decide +kernel
theorem dL_fields_249 : decode cL_fields 249 = .ok (.isub, 1) := by decide +kernel
theorem dL_fields_250 : decode cL_fields 250 = .ok (.if_icmp .eq 5, 3) := by decide +kernel
theorem dL_fields_253 : decode cL_fields 253 = .ok (.iconst 0, 1) := by decide +kernel
theorem dL_fields_254 : decode cL_fields 254 = .ok (.ireturn, 1) := by decide +kernel
theorem dL_fields_255 : decode cL_fields 255 = .ok (.iinc 2 1, 3) := by decide +kernel
theorem dL_fields_258 : decode cL_fields 258 = .ok (.goto (-256), 3) := by decide +kernel
theorem dL_fields_261 : decode cL_fields 261 = .ok (.iconst 1, 1) := by decide +kernel
theorem dL_fields_262 : decode cL_fields 262 = .ok (.ireturn, 1) := by decide +kernel
theorem dL_gates_0 : decode cL_gates 0 = .ok (.iconst 0, 1) := by decide +kernel
theorem dL_gates_1 : decode cL_gates 1 = .ok (.istore_n 2, 1) := by decide +kernel
theorem dL_gates_2 : decode cL_gates 2 = .ok (.iload_n 2, 1) := by decide +kernel
theorem dL_gates_3 : decode cL_gates 3 = .ok (.aload_n 1, 1) := by decide +kernel
theorem dL_gates_4 : decode cL_gates 4 = .ok (.getfield 61, 3) := by decide +kernel
theorem dL_gates_7 : decode cL_gates 7 = .ok (.invokeinterface 65 1, 5) := by decide +kernel
theorem dL_gates_12 : decode cL_gates 12 = .ok (.if_icmp .ge 151, 3) := by decide +kernel
theorem dL_gates_15 : decode cL_gates 15 = .ok (.iconst 0, 1) := by decide +kernel
theorem dL_gates_16 : decode cL_gates 16 = .ok (.istore_n 3, 1) := by decide +kernel
theorem dL_gates_17 : decode cL_gates 17 = .ok (.iconst 0, 1) := by decide +kernel
theorem dL_gates_18 : decode cL_gates 18 = .ok (.istore 4, 2) := by decide +kernel
theorem dL_gates_20 : decode cL_gates 20 = .ok (.iload 4, 2) := by decide +kernel
theorem dL_gates_22 : decode cL_gates 22 = .ok (.aload_n 1, 1) := by decide +kernel
theorem dL_gates_23 : decode cL_gates 23 = .ok (.getfield 83, 3) := by decide +kernel
theorem dL_gates_26 : decode cL_gates 26 = .ok (.if_icmp .ge 47, 3) := by decide +kernel
theorem dL_gates_29 : decode cL_gates 29 = .ok (.iconst 0, 1) := by decide +kernel
theorem dL_gates_30 : decode cL_gates 30 = .ok (.istore 5, 2) := by decide +kernel
theorem dL_gates_32 : decode cL_gates 32 = .ok (.iload 5, 2) := by decide +kernel
theorem dL_gates_34 : decode cL_gates 34 = .ok (.aload_n 1, 1) := by decide +kernel
theorem dL_gates_35 : decode cL_gates 35 = .ok (.getfield 80, 3) := by decide +kernel
theorem dL_gates_38 : decode cL_gates 38 = .ok (.if_icmp .ge 29, 3) := by decide +kernel
theorem dL_gates_41 : decode cL_gates 41 = .ok (.iload_n 3, 1) := by decide +kernel
theorem dL_gates_42 : decode cL_gates 42 = .ok (.aload_n 0, 1) := by decide +kernel
theorem dL_gates_43 : decode cL_gates 43 = .ok (.iload_n 2, 1) := by decide +kernel
theorem dL_gates_44 : decode cL_gates 44 = .ok (.iload 4, 2) := by decide +kernel
theorem dL_gates_46 : decode cL_gates 46 = .ok (.iload 5, 2) := by decide +kernel
theorem dL_gates_48 : decode cL_gates 48 = .ok (.invokevirtual 193, 3) := by decide +kernel
theorem dL_gates_51 : decode cL_gates 51 = .ok (.ifCond .eq 7, 3) := by decide +kernel
theorem dL_gates_54 : decode cL_gates 54 = .ok (.iconst 1, 1) := by decide +kernel
theorem dL_gates_55 : decode cL_gates 55 = .ok (.goto 4, 3) := by decide +kernel
theorem dL_gates_58 : decode cL_gates 58 = .ok (.iconst 0, 1) := by decide +kernel
theorem dL_gates_59 : decode cL_gates 59 = .ok (.iadd, 1) := by decide +kernel
theorem dL_gates_60 : decode cL_gates 60 = .ok (.istore_n 3, 1) := by decide +kernel
theorem dL_gates_61 : decode cL_gates 61 = .ok (.iinc 5 1, 3) := by decide +kernel
theorem dL_gates_64 : decode cL_gates 64 = .ok (.goto (-32), 3) := by decide +kernel
theorem dL_gates_67 : decode cL_gates 67 = .ok (.iinc 4 1, 3) := by decide +kernel
theorem dL_gates_70 : decode cL_gates 70 = .ok (.goto (-50), 3) := by decide +kernel
theorem dL_gates_73 : decode cL_gates 73 = .ok (.iload_n 3, 1) := by decide +kernel
theorem dL_gates_74 : decode cL_gates 74 = .ok (.aload_n 0, 1) := by decide +kernel
theorem dL_gates_75 : decode cL_gates 75 = .ok (.iload_n 2, 1) := by decide +kernel
theorem dL_gates_76 : decode cL_gates 76 = .ok (.invokevirtual 196, 3) := by decide +kernel
theorem dL_gates_79 : decode cL_gates 79 = .ok (.if_icmp .ne 27, 3) := by decide +kernel
theorem dL_gates_82 : decode cL_gates 82 = .ok (.iload_n 3, 1) := by decide +kernel
theorem dL_gates_83 : decode cL_gates 83 = .ok (.aload_n 0, 1) := by decide +kernel
theorem dL_gates_84 : decode cL_gates 84 = .ok (.iload_n 2, 1) := by decide +kernel
theorem dL_gates_85 : decode cL_gates 85 = .ok (.invokevirtual 167, 3) := by decide +kernel
theorem dL_gates_88 : decode cL_gates 88 = .ok (.if_icmp .gt 18, 3) := by decide +kernel
theorem dL_gates_91 : decode cL_gates 91 = .ok (.aload_n 0, 1) := by decide +kernel
theorem dL_gates_92 : decode cL_gates 92 = .ok (.iload_n 2, 1) := by decide +kernel
theorem dL_gates_93 : decode cL_gates 93 = .ok (.invokevirtual 198, 3) := by decide +kernel
theorem dL_gates_96 : decode cL_gates 96 = .ok (.aload_n 0, 1) := by decide +kernel
theorem dL_gates_97 : decode cL_gates 97 = .ok (.iload_n 2, 1) := by decide +kernel
theorem dL_gates_98 : decode cL_gates 98 = .ok (.invokevirtual 167, 3) := by decide +kernel
theorem dL_gates_101 : decode cL_gates 101 = .ok (.iconst 1, 1) := by decide +kernel
theorem dL_gates_102 : decode cL_gates 102 = .ok (.iadd, 1) := by decide +kernel
theorem dL_gates_103 : decode cL_gates 103 = .ok (.if_icmp .ge 5, 3) := by decide +kernel
theorem dL_gates_106 : decode cL_gates 106 = .ok (.iconst 0, 1) := by decide +kernel
theorem dL_gates_107 : decode cL_gates 107 = .ok (.ireturn, 1) := by decide +kernel
theorem dL_gates_108 : decode cL_gates 108 = .ok (.aload_n 0, 1) := by decide +kernel
theorem dL_gates_109 : decode cL_gates 109 = .ok (.iload_n 2, 1) := by decide +kernel
theorem dL_gates_110 : decode cL_gates 110 = .ok (.invokevirtual 198, 3) := by decide +kernel
theorem dL_gates_113 : decode cL_gates 113 = .ok (.aload_n 0, 1) := by decide +kernel
theorem dL_gates_114 : decode cL_gates 114 = .ok (.iload_n 2, 1) := by decide +kernel
theorem dL_gates_115 : decode cL_gates 115 = .ok (.invokevirtual 167, 3) := by decide +kernel
theorem dL_gates_118 : decode cL_gates 118 = .ok (.iconst 1, 1) := by decide +kernel
theorem dL_gates_119 : decode cL_gates 119 = .ok (.iadd, 1) := by decide +kernel
theorem dL_gates_120 : decode cL_gates 120 = .ok (.if_icmp .ne 7, 3) := by decide +kernel
theorem dL_gates_123 : decode cL_gates 123 = .ok (.iconst 1, 1) := by decide +kernel
theorem dL_gates_124 : decode cL_gates 124 = .ok (.goto 4, 3) := by decide +kernel
theorem dL_gates_127 : decode cL_gates 127 = .ok (.iconst 0, 1) := by decide +kernel
theorem dL_gates_128 : decode cL_gates 128 = .ok (.aload_n 0, 1) := by decide +kernel
theorem dL_gates_129 : decode cL_gates 129 = .ok (.iload_n 2, 1) := by decide +kernel
theorem dL_gates_130 : decode cL_gates 130 = .ok (.invokevirtual 201, 3) := by decide +kernel
theorem dL_gates_133 : decode cL_gates 133 = .ok (.iconst 1, 1) := by decide +kernel
theorem dL_gates_134 : decode cL_gates 134 = .ok (.if_icmp .ne 7, 3) := by decide +kernel
theorem dL_gates_137 : decode cL_gates 137 = .ok (.iconst 1, 1) := by decide +kernel
theorem dL_gates_138 : decode cL_gates 138 = .ok (.goto 4, 3) := by decide +kernel
theorem dL_gates_141 : decode cL_gates 141 = .ok (.iconst 0, 1) := by decide +kernel
theorem dL_gates_142 : decode cL_gates 142 = .ok (.if_icmp .eq 15, 3) := by decide +kernel
theorem dL_gates_145 : decode cL_gates 145 = .ok (.aload_n 0, 1) := by decide +kernel
theorem dL_gates_146 : decode cL_gates 146 = .ok (.iload_n 2, 1) := by decide +kernel
theorem dL_gates_147 : decode cL_gates 147 = .ok (.invokevirtual 167, 3) := by decide +kernel
theorem dL_gates_150 : decode cL_gates 150 = .ok (.bipush 20, 2) := by decide +kernel
theorem dL_gates_152 : decode cL_gates 152 = .ok (.if_icmp .ge 5, 3) := by decide +kernel
theorem dL_gates_155 : decode cL_gates 155 = .ok (.iconst 0, 1) := by decide +kernel
theorem dL_gates_156 : decode cL_gates 156 = .ok (.ireturn, 1) := by decide +kernel
theorem dL_gates_157 : decode cL_gates 157 = .ok (.iinc 2 1, 3) := by decide +kernel
theorem dL_gates_160 : decode cL_gates 160 = .ok (.goto (-158), 3) := by decide +kernel
theorem dL_gates_163 : decode cL_gates 163 = .ok (.iconst 1, 1) := by decide +kernel
theorem dL_gates_164 : decode cL_gates 164 = .ok (.ireturn, 1) := by decide +kernel
theorem dL_builds_0 : decode cL_builds 0 = .ok (.aload_n 2, 1) := by decide +kernel
theorem dL_builds_1 : decode cL_builds 1 = .ok (.sipush 500, 3) := by decide +kernel
theorem dL_builds_4 : decode cL_builds 4 = .ok (.iload_n 3, 1) := by decide +kernel
theorem dL_builds_5 : decode cL_builds 5 = .ok (.iadd, 1) := by decide +kernel
theorem dL_builds_6 : decode cL_builds 6 = .ok (.aload_n 1, 1) := by decide +kernel
theorem dL_builds_7 : decode cL_builds 7 = .ok (.getfield 83, 3) := by decide +kernel
theorem dL_builds_10 : decode cL_builds 10 = .ok (.iconst 1, 1) := by decide +kernel
theorem dL_builds_11 : decode cL_builds 11 = .ok (.isub, 1) := by decide +kernel
theorem dL_builds_12 : decode cL_builds 12 = .ok (.invokestatic 93, 3) := by decide +kernel
theorem dL_builds_15 : decode cL_builds 15 = .ok (.istore 4, 2) := by decide +kernel
theorem dL_builds_17 : decode cL_builds 17 = .ok (.aload_n 2, 1) := by decide +kernel
theorem dL_builds_18 : decode cL_builds 18 = .ok (.sipush 520, 3) := by decide +kernel
theorem dL_builds_21 : decode cL_builds 21 = .ok (.iload_n 3, 1) := by decide +kernel
theorem dL_builds_22 : decode cL_builds 22 = .ok (.iadd, 1) := by decide +kernel
theorem dL_builds_23 : decode cL_builds 23 = .ok (.aload_n 1, 1) := by decide +kernel
theorem dL_builds_24 : decode cL_builds 24 = .ok (.getfield 80, 3) := by decide +kernel
theorem dL_builds_27 : decode cL_builds 27 = .ok (.iconst 1, 1) := by decide +kernel
theorem dL_builds_28 : decode cL_builds 28 = .ok (.isub, 1) := by decide +kernel
theorem dL_builds_29 : decode cL_builds 29 = .ok (.invokestatic 93, 3) := by decide +kernel
theorem dL_builds_32 : decode cL_builds 32 = .ok (.istore 5, 2) := by decide +kernel
theorem dL_builds_34 : decode cL_builds 34 = .ok (.aload_n 2, 1) := by decide +kernel
theorem dL_builds_35 : decode cL_builds 35 = .ok (.sipush 540, 3) := by decide +kernel
theorem dL_builds_38 : decode cL_builds 38 = .ok (.iload_n 3, 1) := by decide +kernel
theorem dL_builds_39 : decode cL_builds 39 = .ok (.iadd, 1) := by decide +kernel
theorem dL_builds_40 : decode cL_builds 40 = .ok (.iconst 2, 1) := by decide +kernel
theorem dL_builds_41 : decode cL_builds 41 = .ok (.invokestatic 93, 3) := by decide +kernel
theorem dL_builds_44 : decode cL_builds 44 = .ok (.iconst 1, 1) := by decide +kernel
theorem dL_builds_45 : decode cL_builds 45 = .ok (.if_icmp .ne 7, 3) := by decide +kernel
theorem dL_builds_48 : decode cL_builds 48 = .ok (.iconst 1, 1) := by decide +kernel
theorem dL_builds_49 : decode cL_builds 49 = .ok (.goto 4, 3) := by decide +kernel
theorem dL_builds_52 : decode cL_builds 52 = .ok (.iconst 0, 1) := by decide +kernel
theorem dL_builds_53 : decode cL_builds 53 = .ok (.istore 6, 2) := by decide +kernel
theorem dL_builds_55 : decode cL_builds 55 = .ok (.aload_n 0, 1) := by decide +kernel
theorem dL_builds_56 : decode cL_builds 56 = .ok (.iload 4, 2) := by decide +kernel
theorem dL_builds_58 : decode cL_builds 58 = .ok (.iload 5, 2) := by decide +kernel
theorem dL_builds_60 : decode cL_builds 60 = .ok (.iload 6, 2) := by decide +kernel
theorem dL_builds_62 : decode cL_builds 62 = .ok (.invokevirtual 121, 3) := by decide +kernel
theorem dL_builds_65 : decode cL_builds 65 = .ok (.istore 7, 2) := by decide +kernel
theorem dL_builds_67 : decode cL_builds 67 = .ok (.iconst 0, 1) := by decide +kernel
theorem dL_builds_68 : decode cL_builds 68 = .ok (.istore 8, 2) := by decide +kernel
theorem dL_builds_70 : decode cL_builds 70 = .ok (.iload 8, 2) := by decide +kernel
theorem dL_builds_72 : decode cL_builds 72 = .ok (.aload_n 1, 1) := by decide +kernel
theorem dL_builds_73 : decode cL_builds 73 = .ok (.getfield 61, 3) := by decide +kernel
theorem dL_builds_76 : decode cL_builds 76 = .ok (.invokeinterface 65 1, 5) := by decide +kernel
theorem dL_builds_81 : decode cL_builds 81 = .ok (.if_icmp .ge 63, 3) := by decide +kernel
theorem dL_builds_84 : decode cL_builds 84 = .ok (.iload 7, 2) := by decide +kernel
theorem dL_builds_86 : decode cL_builds 86 = .ok (.ifCond .eq 52, 3) := by decide +kernel
theorem dL_builds_89 : decode cL_builds 89 = .ok (.aload_n 0, 1) := by decide +kernel
theorem dL_builds_90 : decode cL_builds 90 = .ok (.iload 8, 2) := by decide +kernel
theorem dL_builds_92 : decode cL_builds 92 = .ok (.iload 4, 2) := by decide +kernel
theorem dL_builds_94 : decode cL_builds 94 = .ok (.iload 5, 2) := by decide +kernel
theorem dL_builds_96 : decode cL_builds 96 = .ok (.iload 6, 2) := by decide +kernel
theorem dL_builds_98 : decode cL_builds 98 = .ok (.invokevirtual 204, 3) := by decide +kernel
theorem dL_builds_101 : decode cL_builds 101 = .ok (.ifCond .lt 35, 3) := by decide +kernel
theorem dL_builds_104 : decode cL_builds 104 = .ok (.aload_n 0, 1) := by decide +kernel
theorem dL_builds_105 : decode cL_builds 105 = .ok (.iload 8, 2) := by decide +kernel
theorem dL_builds_107 : decode cL_builds 107 = .ok (.bipush 6, 2) := by decide +kernel
theorem dL_builds_109 : decode cL_builds 109 = .ok (.invokevirtual 70, 3) := by decide +kernel
theorem dL_builds_112 : decode cL_builds 112 = .ok (.ifCond .ne 26, 3) := by decide +kernel
theorem dL_builds_115 : decode cL_builds 115 = .ok (.aload_n 0, 1) := by decide +kernel
theorem dL_builds_116 : decode cL_builds 116 = .ok (.iload 8, 2) := by decide +kernel
theorem dL_builds_118 : decode cL_builds 118 = .ok (.iload 4, 2) := by decide +kernel
theorem dL_builds_120 : decode cL_builds 120 = .ok (.iload 5, 2) := by decide +kernel
theorem dL_builds_122 : decode cL_builds 122 = .ok (.iload 6, 2) := by decide +kernel
theorem dL_builds_124 : decode cL_builds 124 = .ok (.invokevirtual 204, 3) := by decide +kernel
theorem dL_builds_127 : decode cL_builds 127 = .ok (.aload_n 0, 1) := by decide +kernel
theorem dL_builds_128 : decode cL_builds 128 = .ok (.iload 8, 2) := by decide +kernel
theorem dL_builds_130 : decode cL_builds 130 = .ok (.invokevirtual 208, 3) := by decide +kernel
theorem dL_builds_133 : decode cL_builds 133 = .ok (.if_icmp .le 5, 3) := by decide +kernel
theorem dL_builds_136 : decode cL_builds 136 = .ok (.iconst 0, 1) := by decide +kernel
theorem dL_builds_137 : decode cL_builds 137 = .ok (.ireturn, 1) := by decide +kernel
theorem dL_builds_138 : decode cL_builds 138 = .ok (.iinc 8 1, 3) := by decide +kernel
theorem dL_builds_141 : decode cL_builds 141 = .ok (.goto (-71), 3) := by decide +kernel
theorem dL_builds_144 : decode cL_builds 144 = .ok (.aload_n 0, 1) := by decide +kernel
theorem dL_builds_145 : decode cL_builds 145 = .ok (.invokevirtual 55, 3) := by decide +kernel
theorem dL_builds_148 : decode cL_builds 148 = .ok (.istore 8, 2) := by decide +kernel
theorem dL_builds_150 : decode cL_builds 150 = .ok (.iload 8, 2) := by decide +kernel
theorem dL_builds_152 : decode cL_builds 152 = .ok (.ifCond .lt 13, 3) := by decide +kernel
theorem dL_builds_155 : decode cL_builds 155 = .ok (.aload_n 0, 1) := by decide +kernel
theorem dL_builds_156 : decode cL_builds 156 = .ok (.iload 8, 2) := by decide +kernel
theorem dL_builds_158 : decode cL_builds 158 = .ok (.iconst 3, 1) := by decide +kernel
theorem dL_builds_159 : decode cL_builds 159 = .ok (.invokevirtual 70, 3) := by decide +kernel
theorem dL_builds_162 : decode cL_builds 162 = .ok (.ifCond .ne 5, 3) := by decide +kernel
theorem dL_builds_165 : decode cL_builds 165 = .ok (.iconst 1, 1) := by decide +kernel
theorem dL_builds_166 : decode cL_builds 166 = .ok (.ireturn, 1) := by decide +kernel
theorem dL_builds_167 : decode cL_builds 167 = .ok (.aload_n 0, 1) := by decide +kernel
theorem dL_builds_168 : decode cL_builds 168 = .ok (.iload 4, 2) := by decide +kernel
theorem dL_builds_170 : decode cL_builds 170 = .ok (.iload 5, 2) := by decide +kernel
theorem dL_builds_172 : decode cL_builds 172 = .ok (.iload 6, 2) := by decide +kernel
theorem dL_builds_174 : decode cL_builds 174 = .ok (.invokevirtual 124, 3) := by decide +kernel
theorem dL_builds_177 : decode cL_builds 177 = .ok (.istore 9, 2) := by decide +kernel
theorem dL_builds_179 : decode cL_builds 179 = .ok (.iload 7, 2) := by decide +kernel
theorem dL_builds_181 : decode cL_builds 181 = .ok (.ifCond .eq 36, 3) := by decide +kernel
theorem dL_builds_184 : decode cL_builds 184 = .ok (.aload_n 0, 1) := by decide +kernel
theorem dL_builds_185 : decode cL_builds 185 = .ok (.iload 4, 2) := by decide +kernel
theorem dL_builds_187 : decode cL_builds 187 = .ok (.iload 5, 2) := by decide +kernel
theorem dL_builds_189 : decode cL_builds 189 = .ok (.invokevirtual 86, 3) := by decide +kernel
theorem dL_builds_192 : decode cL_builds 192 = .ok (.iload 6, 2) := by decide +kernel
theorem dL_builds_194 : decode cL_builds 194 = .ok (.ifCond .eq 7, 3) := by decide +kernel
theorem dL_builds_197 : decode cL_builds 197 = .ok (.iconst 1, 1) := by decide +kernel
theorem dL_builds_198 : decode cL_builds 198 = .ok (.goto 4, 3) := by decide +kernel
theorem dL_builds_201 : decode cL_builds 201 = .ok (.iconst 0, 1) := by decide +kernel
theorem dL_builds_202 : decode cL_builds 202 = .ok (.if_icmp .ne 15, 3) := by decide +kernel
theorem dL_builds_205 : decode cL_builds 205 = .ok (.iload 9, 2) := by decide +kernel
theorem dL_builds_207 : decode cL_builds 207 = .ok (.aload_n 0, 1) := by decide +kernel
theorem dL_builds_208 : decode cL_builds 208 = .ok (.iload 8, 2) := by decide +kernel
theorem dL_builds_210 : decode cL_builds 210 = .ok (.iconst 3, 1) := by decide +kernel
theorem dL_builds_211 : decode cL_builds 211 = .ok (.invokevirtual 70, 3) := by decide +kernel
theorem dL_builds_214 : decode cL_builds 214 = .ok (.if_icmp .eq 5, 3) := by decide +kernel
theorem dL_builds_217 : decode cL_builds 217 = .ok (.iconst 0, 1) := by decide +kernel
theorem dL_builds_218 : decode cL_builds 218 = .ok (.ireturn, 1) := by decide +kernel
theorem dL_builds_219 : decode cL_builds 219 = .ok (.iconst 0, 1) := by decide +kernel
theorem dL_builds_220 : decode cL_builds 220 = .ok (.istore 10, 2) := by decide +kernel
theorem dL_builds_222 : decode cL_builds 222 = .ok (.iload 10, 2) := by decide +kernel
theorem dL_builds_224 : decode cL_builds 224 = .ok (.aload_n 1, 1) := by decide +kernel
theorem dL_builds_225 : decode cL_builds 225 = .ok (.getfield 61, 3) := by decide +kernel
theorem dL_builds_228 : decode cL_builds 228 = .ok (.invokeinterface 65 1, 5) := by decide +kernel
theorem dL_builds_233 : decode cL_builds 233 = .ok (.if_icmp .ge 20, 3) := by decide +kernel
theorem dL_builds_236 : decode cL_builds 236 = .ok (.aload_n 0, 1) := by decide +kernel
theorem dL_builds_237 : decode cL_builds 237 = .ok (.iload 10, 2) := by decide +kernel
theorem dL_builds_239 : decode cL_builds 239 = .ok (.invokevirtual 167, 3) := by decide +kernel
theorem dL_builds_242 : decode cL_builds 242 = .ok (.ifCond .ge 5, 3) := by decide +kernel
theorem dL_builds_245 : decode cL_builds 245 = .ok (.iconst 0, 1) := by decide +kernel
theorem dL_builds_246 : decode cL_builds 246 = .ok (.ireturn, 1) := by decide +kernel
theorem dL_builds_247 : decode cL_builds 247 = .ok (.iinc 10 1, 3) := by decide +kernel
theorem dL_builds_250 : decode cL_builds 250 = .ok (.goto (-28), 3) := by decide +kernel
theorem dL_builds_253 : decode cL_builds 253 = .ok (.aload_n 0, 1) := by decide +kernel
theorem dL_builds_254 : decode cL_builds 254 = .ok (.invokevirtual 211, 3) := by decide +kernel
theorem dL_builds_257 : decode cL_builds 257 = .ok (.ifCond .lt 15, 3) := by decide +kernel
theorem dL_builds_260 : decode cL_builds 260 = .ok (.aload_n 0, 1) := by decide +kernel
theorem dL_builds_261 : decode cL_builds 261 = .ok (.aload_n 1, 1) := by decide +kernel
theorem dL_builds_262 : decode cL_builds 262 = .ok (.invokestatic 214, 3) := by decide +kernel
theorem dL_builds_265 : decode cL_builds 265 = .ok (.ifCond .eq 7, 3) := by decide +kernel
theorem dL_builds_268 : decode cL_builds 268 = .ok (.iconst 1, 1) := by decide +kernel
theorem dL_builds_269 : decode cL_builds 269 = .ok (.goto 4, 3) := by decide +kernel
theorem dL_builds_272 : decode cL_builds 272 = .ok (.iconst 0, 1) := by decide +kernel
theorem dL_builds_273 : decode cL_builds 273 = .ok (.ireturn, 1) := by decide +kernel
theorem dL_builds_274 : decode cL_builds 274 = .ok (.astore 9, 2) := by decide +kernel
theorem dL_builds_276 : decode cL_builds 276 = .ok (.iload 7, 2) := by decide +kernel
theorem dL_builds_278 : decode cL_builds 278 = .ok (.ifCond .ne 15, 3) := by decide +kernel
theorem dL_builds_281 : decode cL_builds 281 = .ok (.aload_n 0, 1) := by decide +kernel
theorem dL_builds_282 : decode cL_builds 282 = .ok (.aload_n 1, 1) := by decide +kernel
theorem dL_builds_283 : decode cL_builds 283 = .ok (.invokestatic 214, 3) := by decide +kernel
theorem dL_builds_286 : decode cL_builds 286 = .ok (.ifCond .eq 7, 3) := by decide +kernel
theorem dL_builds_289 : decode cL_builds 289 = .ok (.iconst 1, 1) := by decide +kernel
theorem dL_builds_290 : decode cL_builds 290 = .ok (.goto 4, 3) := by decide +kernel
theorem dL_builds_293 : decode cL_builds 293 = .ok (.iconst 0, 1) := by decide +kernel
theorem dL_builds_294 : decode cL_builds 294 = .ok (.ireturn, 1) := by decide +kernel
theorem dL_plays_0 : decode cL_plays 0 = .ok (.aload_n 1, 1) := by decide +kernel
theorem dL_plays_1 : decode cL_plays 1 = .ok (.getfield 61, 3) := by decide +kernel
theorem dL_plays_4 : decode cL_plays 4 = .ok (.invokeinterface 65 1, 5) := by decide +kernel
theorem dL_plays_9 : decode cL_plays 9 = .ok (.newarray .int, 2) := by decide +kernel
theorem dL_plays_11 : decode cL_plays 11 = .ok (.astore_n 2, 1) := by decide +kernel
theorem dL_plays_12 : decode cL_plays 12 = .ok (.iconst 0, 1) := by decide +kernel
theorem dL_plays_13 : decode cL_plays 13 = .ok (.istore_n 3, 1) := by decide +kernel
theorem dL_plays_14 : decode cL_plays 14 = .ok (.iload_n 3, 1) := by decide +kernel
theorem dL_plays_15 : decode cL_plays 15 = .ok (.aload_n 2, 1) := by decide +kernel
theorem dL_plays_16 : decode cL_plays 16 = .ok (.arraylength, 1) := by decide +kernel
theorem dL_plays_17 : decode cL_plays 17 = .ok (.if_icmp .ge 20, 3) := by decide +kernel
theorem dL_plays_20 : decode cL_plays 20 = .ok (.aload_n 2, 1) := by decide +kernel
theorem dL_plays_21 : decode cL_plays 21 = .ok (.iload_n 3, 1) := by decide +kernel
theorem dL_plays_22 : decode cL_plays 22 = .ok (.aload_n 0, 1) := by decide +kernel
theorem dL_plays_23 : decode cL_plays 23 = .ok (.iconst 0, 1) := by decide +kernel
theorem dL_plays_24 : decode cL_plays 24 = .ok (.bipush 99, 2) := by decide +kernel
theorem dL_plays_26 : decode cL_plays 26 = .ok (.iload_n 3, 1) := by decide +kernel
theorem dL_plays_27 : decode cL_plays 27 = .ok (.invokevirtual 219, 3) := by decide +kernel
theorem dL_plays_30 : decode cL_plays 30 = .ok (.iastore, 1) := by decide +kernel
theorem dL_plays_31 : decode cL_plays 31 = .ok (.iinc 3 1, 3) := by decide +kernel
theorem dL_plays_34 : decode cL_plays 34 = .ok (.goto (-20), 3) := by decide +kernel
theorem dL_plays_37 : decode cL_plays 37 = .ok (.aload_n 0, 1) := by decide +kernel
theorem dL_plays_38 : decode cL_plays 38 = .ok (.iconst 0, 1) := by decide +kernel
theorem dL_plays_39 : decode cL_plays 39 = .ok (.bipush 99, 2) := by decide +kernel
theorem dL_plays_41 : decode cL_plays 41 = .ok (.invokevirtual 97, 3) := by decide +kernel
theorem dL_plays_44 : decode cL_plays 44 = .ok (.istore_n 3, 1) := by decide +kernel
theorem dL_plays_45 : decode cL_plays 45 = .ok (.iconst 0, 1) := by decide +kernel
theorem dL_plays_46 : decode cL_plays 46 = .ok (.istore 4, 2) := by decide +kernel
theorem dL_plays_48 : decode cL_plays 48 = .ok (.iload 4, 2) := by decide +kernel
theorem dL_plays_50 : decode cL_plays 50 = .ok (.aload_n 2, 1) := by decide +kernel
theorem dL_plays_51 : decode cL_plays 51 = .ok (.arraylength, 1) := by decide +kernel
theorem dL_plays_52 : decode cL_plays 52 = .ok (.if_icmp .ge 26, 3) := by decide +kernel
theorem dL_plays_55 : decode cL_plays 55 = .ok (.aload_n 0, 1) := by decide +kernel
theorem dL_plays_56 : decode cL_plays 56 = .ok (.iload 4, 2) := by decide +kernel
theorem dL_plays_58 : decode cL_plays 58 = .ok (.bipush 6, 2) := by decide +kernel
theorem dL_plays_60 : decode cL_plays 60 = .ok (.invokevirtual 70, 3) := by decide +kernel
theorem dL_plays_63 : decode cL_plays 63 = .ok (.aload_n 2, 1) := by decide +kernel
theorem dL_plays_64 : decode cL_plays 64 = .ok (.iload 4, 2) := by decide +kernel
theorem dL_plays_66 : decode cL_plays 66 = .ok (.iaload, 1) := by decide +kernel
theorem dL_plays_67 : decode cL_plays 67 = .ok (.if_icmp .eq 5, 3) := by decide +kernel
theorem dL_plays_70 : decode cL_plays 70 = .ok (.iconst 0, 1) := by decide +kernel
theorem dL_plays_71 : decode cL_plays 71 = .ok (.ireturn, 1) := by decide +kernel
theorem dL_plays_72 : decode cL_plays 72 = .ok (.iinc 4 1, 3) := by decide +kernel
theorem dL_plays_75 : decode cL_plays 75 = .ok (.goto (-27), 3) := by decide +kernel
theorem dL_plays_78 : decode cL_plays 78 = .ok (.iload_n 3, 1) := by decide +kernel
theorem dL_plays_79 : decode cL_plays 79 = .ok (.bipush 99, 2) := by decide +kernel
theorem dL_plays_81 : decode cL_plays 81 = .ok (.if_icmp .ge 10, 3) := by decide +kernel
theorem dL_plays_84 : decode cL_plays 84 = .ok (.aload_n 0, 1) := by decide +kernel
theorem dL_plays_85 : decode cL_plays 85 = .ok (.invokevirtual 51, 3) := by decide +kernel
theorem dL_plays_88 : decode cL_plays 88 = .ok (.ifCond .eq 17, 3) := by decide +kernel
theorem dL_plays_91 : decode cL_plays 91 = .ok (.aload_n 0, 1) := by decide +kernel
theorem dL_plays_92 : decode cL_plays 92 = .ok (.iconst 4, 1) := by decide +kernel
theorem dL_plays_93 : decode cL_plays 93 = .ok (.invokevirtual 39, 3) := by decide +kernel
theorem dL_plays_96 : decode cL_plays 96 = .ok (.aload_n 1, 1) := by decide +kernel
theorem dL_plays_97 : decode cL_plays 97 = .ok (.getfield 42, 3) := by decide +kernel
theorem dL_plays_100 : decode cL_plays 100 = .ok (.iload_n 3, 1) := by decide +kernel
theorem dL_plays_101 : decode cL_plays 101 = .ok (.iadd, 1) := by decide +kernel
theorem dL_plays_102 : decode cL_plays 102 = .ok (.if_icmp .eq 5, 3) := by decide +kernel
theorem dL_plays_105 : decode cL_plays 105 = .ok (.iconst 0, 1) := by decide +kernel
theorem dL_plays_106 : decode cL_plays 106 = .ok (.ireturn, 1) := by decide +kernel
theorem dL_plays_107 : decode cL_plays 107 = .ok (.iconst 0, 1) := by decide +kernel
theorem dL_plays_108 : decode cL_plays 108 = .ok (.istore 4, 2) := by decide +kernel
theorem dL_plays_110 : decode cL_plays 110 = .ok (.iconst 1, 1) := by decide +kernel
theorem dL_plays_111 : decode cL_plays 111 = .ok (.istore 5, 2) := by decide +kernel
theorem dL_plays_113 : decode cL_plays 113 = .ok (.iload 5, 2) := by decide +kernel
theorem dL_plays_115 : decode cL_plays 115 = .ok (.iconst 4, 1) := by decide +kernel
theorem dL_plays_116 : decode cL_plays 116 = .ok (.if_icmp .gt 52, 3) := by decide +kernel
theorem dL_plays_119 : decode cL_plays 119 = .ok (.aload_n 0, 1) := by decide +kernel
theorem dL_plays_120 : decode cL_plays 120 = .ok (.iload 5, 2) := by decide +kernel
theorem dL_plays_122 : decode cL_plays 122 = .ok (.invokevirtual 222, 3) := by decide +kernel
theorem dL_plays_125 : decode cL_plays 125 = .ok (.istore 6, 2) := by decide +kernel
theorem dL_plays_127 : decode cL_plays 127 = .ok (.iload 6, 2) := by decide +kernel
theorem dL_plays_129 : decode cL_plays 129 = .ok (.ifCond .lt 18, 3) := by decide +kernel
theorem dL_plays_132 : decode cL_plays 132 = .ok (.aload_n 0, 1) := by decide +kernel
theorem dL_plays_133 : decode cL_plays 133 = .ok (.iload 6, 2) := by decide +kernel
theorem dL_plays_135 : decode cL_plays 135 = .ok (.bipush 6, 2) := by decide +kernel
theorem dL_plays_137 : decode cL_plays 137 = .ok (.invokevirtual 70, 3) := by decide +kernel
theorem dL_plays_140 : decode cL_plays 140 = .ok (.iload 5, 2) := by decide +kernel
theorem dL_plays_142 : decode cL_plays 142 = .ok (.if_icmp .eq 5, 3) := by decide +kernel
theorem dL_plays_145 : decode cL_plays 145 = .ok (.iconst 0, 1) := by decide +kernel
theorem dL_plays_146 : decode cL_plays 146 = .ok (.ireturn, 1) := by decide +kernel
theorem dL_plays_147 : decode cL_plays 147 = .ok (.iload 4, 2) := by decide +kernel
theorem dL_plays_149 : decode cL_plays 149 = .ok (.iload 6, 2) := by decide +kernel
theorem dL_plays_151 : decode cL_plays 151 = .ok (.ifCond .lt 7, 3) := by decide +kernel
theorem dL_plays_154 : decode cL_plays 154 = .ok (.iconst 1, 1) := by decide +kernel
theorem dL_plays_155 : decode cL_plays 155 = .ok (.goto 4, 3) := by decide +kernel
theorem dL_plays_158 : decode cL_plays 158 = .ok (.iconst 0, 1) := by decide +kernel
theorem dL_plays_159 : decode cL_plays 159 = .ok (.iadd, 1) := by decide +kernel
theorem dL_plays_160 : decode cL_plays 160 = .ok (.istore 4, 2) := by decide +kernel
theorem dL_plays_162 : decode cL_plays 162 = .ok (.iinc 5 1, 3) := by decide +kernel
theorem dL_plays_165 : decode cL_plays 165 = .ok (.goto (-52), 3) := by decide +kernel
theorem dL_plays_168 : decode cL_plays 168 = .ok (.iload 4, 2) := by decide +kernel
theorem dL_plays_170 : decode cL_plays 170 = .ok (.aload_n 0, 1) := by decide +kernel
theorem dL_plays_171 : decode cL_plays 171 = .ok (.iconst 5, 1) := by decide +kernel
theorem dL_plays_172 : decode cL_plays 172 = .ok (.invokevirtual 39, 3) := by decide +kernel
theorem dL_plays_175 : decode cL_plays 175 = .ok (.if_icmp .ne 22, 3) := by decide +kernel
theorem dL_plays_178 : decode cL_plays 178 = .ok (.aload_n 0, 1) := by decide +kernel
theorem dL_plays_179 : decode cL_plays 179 = .ok (.invokevirtual 211, 3) := by decide +kernel
theorem dL_plays_182 : decode cL_plays 182 = .ok (.ifCond .lt 15, 3) := by decide +kernel
theorem dL_plays_185 : decode cL_plays 185 = .ok (.aload_n 0, 1) := by decide +kernel
theorem dL_plays_186 : decode cL_plays 186 = .ok (.aload_n 1, 1) := by decide +kernel
theorem dL_plays_187 : decode cL_plays 187 = .ok (.invokestatic 214, 3) := by decide +kernel
theorem dL_plays_190 : decode cL_plays 190 = .ok (.ifCond .eq 7, 3) := by decide +kernel
theorem dL_plays_193 : decode cL_plays 193 = .ok (.iconst 1, 1) := by decide +kernel
theorem dL_plays_194 : decode cL_plays 194 = .ok (.goto 4, 3) := by decide +kernel
theorem dL_plays_197 : decode cL_plays 197 = .ok (.iconst 0, 1) := by decide +kernel
theorem dL_plays_198 : decode cL_plays 198 = .ok (.ireturn, 1) := by decide +kernel
