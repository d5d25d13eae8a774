section LW
theorem kL_L_124 : Cond.methodLink RL 124 yX11_init ∈ GW := gw_c tb_1 29 rfl rfl
theorem kL_L_148 : Cond.methodLink RL 148 yX11_errorCode ∈ GW := gw_c tb_3 5 rfl rfl
theorem kL_L_152 : Cond.methodLink RL 152 yX11_errorPosition ∈ GW := gw_c tb_3 9 rfl rfl
theorem kL_L_163 : Cond.methodLink RL 163 yX11_turnOf ∈ GW := gw_c tb_3 13 rfl rfl
theorem kL_L_167 : Cond.methodLink RL 167 yX11_isOver ∈ GW := gw_c tb_3 25 rfl rfl
theorem kL_L_175 : Cond.methodLink RL 175 yX11_ranked ∈ GW := gw_c tb_3 30 rfl rfl
theorem kL_L_190 : Cond.methodLink RL 190 yX11_admissible ∈ GW := gw_c tb_3 38 rfl rfl
theorem kL_L_194 : Cond.methodLink RL 194 yX11_regions ∈ GW := gw_c tb_3 116 rfl rfl
theorem kL_L_234 : Cond.methodLink RL 234 yX11_leader ∈ GW := gw_c tb_3 125 rfl rfl
theorem kL_L_266 : Cond.methodLink RL 266 yX11_report ∈ GW := gw_c tb_3 133 rfl rfl
theorem kL_L_273 : Cond.methodLink RL 273 yX11_undo ∈ GW := gw_c tb_3 150 rfl rfl
theorem kL_L_277 : Cond.methodLink RL 277 yX11_save ∈ GW := gw_c tb_3 177 rfl rfl
theorem kL_L_128 : Cond.methodLink RL 128 yL_feed ∈ GW := gw_c tb_3 182 rfl rfl
theorem kL_L_7 : Cond.methodLink RL 7 yX11_feed ∈ GW := gw_c tb_3 186 rfl rfl
theorem kL_L_137 : Cond.methodLink RL 137 yL_truncate ∈ GW := gw_c tb_4 21 rfl rfl
theorem kL_L_15 : Cond.methodLink RL 15 yX11_truncate ∈ GW := gw_c tb_4 25 rfl rfl
theorem kL_L_141 : Cond.methodLink RL 141 yL_readText ∈ GW := gw_c tb_4 45 rfl rfl
theorem kL_L_21 : Cond.methodLink RL 21 yX11_readText ∈ GW := gw_c tb_4 48 rfl rfl
theorem kL_L_145 : Cond.methodLink RL 145 yL_runScript ∈ GW := gw_c tb_5 35 rfl rfl
theorem kL_L_25 : Cond.methodLink RL 25 yX11_runScript ∈ GW := gw_c tb_5 38 rfl rfl
theorem kL_L_156 : Cond.methodLink RL 156 yL_setting ∈ GW := gw_c tb_5 208 rfl rfl
theorem kL_L_28 : Cond.methodLink RL 28 yX11_setting ∈ GW := gw_c tb_5 211 rfl rfl
theorem kL_L_159 : Cond.methodLink RL 159 yL_pawn ∈ GW := gw_c tb_5 216 rfl rfl
theorem kL_L_31 : Cond.methodLink RL 31 yX11_pawn ∈ GW := gw_c tb_5 220 rfl rfl
theorem kL_L_172 : Cond.methodLink RL 172 yL_pawnAt ∈ GW := gw_c tb_6 9 rfl rfl
theorem kL_L_37 : Cond.methodLink RL 37 yX11_pawnAt ∈ GW := gw_c tb_6 12 rfl rfl
theorem kL_L_179 : Cond.methodLink RL 179 yL_wallAt ∈ GW := gw_c tb_6 22 rfl rfl
theorem kL_L_40 : Cond.methodLink RL 40 yX11_wallAt ∈ GW := gw_c tb_6 25 rfl rfl
theorem kL_L_182 : Cond.methodLink RL 182 yL_isBlocked ∈ GW := gw_c tb_6 35 rfl rfl
theorem kL_L_43 : Cond.methodLink RL 43 yX11_isBlocked ∈ GW := gw_c tb_6 38 rfl rfl
theorem kL_L_186 : Cond.methodLink RL 186 yL_isAdmissible ∈ GW := gw_c tb_6 48 rfl rfl
theorem kL_L_47 : Cond.methodLink RL 47 yX11_isAdmissible ∈ GW := gw_c tb_6 51 rfl rfl
theorem kL_L_198 : Cond.methodLink RL 198 yL_canStep ∈ GW := gw_c tb_6 56 rfl rfl
theorem kL_L_51 : Cond.methodLink RL 51 yX11_canStep ∈ GW := gw_c tb_6 59 rfl rfl
theorem kL_L_201 : Cond.methodLink RL 201 yL_isBanned ∈ GW := gw_c tb_6 64 rfl rfl
theorem kL_L_55 : Cond.methodLink RL 55 yX11_isBanned ∈ GW := gw_c tb_6 67 rfl rfl
theorem kL_L_204 : Cond.methodLink RL 204 yL_steps ∈ GW := gw_c tb_6 72 rfl rfl
theorem kL_L_58 : Cond.methodLink RL 58 yX11_steps ∈ GW := gw_c tb_6 75 rfl rfl
theorem kL_L_207 : Cond.methodLink RL 207 yL_distance ∈ GW := gw_c tb_6 80 rfl rfl
theorem kL_L_61 : Cond.methodLink RL 61 yX11_distance ∈ GW := gw_c tb_6 83 rfl rfl
theorem kL_L_210 : Cond.methodLink RL 210 yL_distanceFrom ∈ GW := gw_c tb_6 88 rfl rfl
theorem kL_L_64 : Cond.methodLink RL 64 yX11_distanceFrom ∈ GW := gw_c tb_6 91 rfl rfl
theorem kL_L_213 : Cond.methodLink RL 213 yL_ways ∈ GW := gw_c tb_6 96 rfl rfl
theorem kL_L_68 : Cond.methodLink RL 68 yX11_ways ∈ GW := gw_c tb_6 99 rfl rfl
theorem kL_L_216 : Cond.methodLink RL 216 yL_onWays ∈ GW := gw_c tb_6 114 rfl rfl
theorem kL_L_71 : Cond.methodLink RL 71 yX11_onWays ∈ GW := gw_c tb_6 117 rfl rfl
theorem kL_L_219 : Cond.methodLink RL 219 yL_gates ∈ GW := gw_c tb_6 129 rfl rfl
theorem kL_L_74 : Cond.methodLink RL 74 yX11_gates ∈ GW := gw_c tb_6 132 rfl rfl
theorem kL_L_222 : Cond.methodLink RL 222 yL_isGate ∈ GW := gw_c tb_6 144 rfl rfl
theorem kL_L_77 : Cond.methodLink RL 77 yX11_isGate ∈ GW := gw_c tb_6 147 rfl rfl
theorem kL_L_225 : Cond.methodLink RL 225 yL_stepsWithBans ∈ GW := gw_c tb_6 152 rfl rfl
theorem kL_L_80 : Cond.methodLink RL 80 yX11_stepsWithBans ∈ GW := gw_c tb_6 155 rfl rfl
theorem kL_L_228 : Cond.methodLink RL 228 yL_waysWithBans ∈ GW := gw_c tb_6 192 rfl rfl
theorem kL_L_83 : Cond.methodLink RL 83 yX11_waysWithBans ∈ GW := gw_c tb_6 195 rfl rfl
theorem kL_L_231 : Cond.methodLink RL 231 yL_detour ∈ GW := gw_c tb_6 204 rfl rfl
theorem kL_L_86 : Cond.methodLink RL 86 yX11_detour ∈ GW := gw_c tb_6 207 rfl rfl
theorem kL_L_238 : Cond.methodLink RL 238 yL_advised ∈ GW := gw_c tb_6 211 rfl rfl
theorem kL_L_89 : Cond.methodLink RL 89 yX11_advised ∈ GW := gw_c tb_6 214 rfl rfl
theorem kL_L_241 : Cond.methodLink RL 241 yL_bestWall ∈ GW := gw_c tb_6 219 rfl rfl
theorem kL_L_92 : Cond.methodLink RL 92 yX11_bestWall ∈ GW := gw_c tb_6 222 rfl rfl
theorem kL_L_244 : Cond.methodLink RL 244 yL_gain ∈ GW := gw_c tb_6 227 rfl rfl
theorem kL_L_95 : Cond.methodLink RL 95 yX11_gain ∈ GW := gw_c tb_6 230 rfl rfl
theorem kL_L_247 : Cond.methodLink RL 247 yL_harm ∈ GW := gw_c tb_6 234 rfl rfl
theorem kL_L_98 : Cond.methodLink RL 98 yX11_harm ∈ GW := gw_c tb_6 237 rfl rfl
theorem kL_L_251 : Cond.methodLink RL 251 yL_foreseen ∈ GW := gw_c tb_7 3 rfl rfl
theorem kL_L_102 : Cond.methodLink RL 102 yX11_foreseen ∈ GW := gw_c tb_7 6 rfl rfl
theorem kL_L_254 : Cond.methodLink RL 254 yL_step ∈ GW := gw_c tb_7 17 rfl rfl
theorem kL_L_105 : Cond.methodLink RL 105 yX11_step ∈ GW := gw_c tb_7 20 rfl rfl
theorem kL_L_257 : Cond.methodLink RL 257 yL_build ∈ GW := gw_c tb_7 27 rfl rfl
theorem kL_L_108 : Cond.methodLink RL 108 yX11_build ∈ GW := gw_c tb_7 30 rfl rfl
theorem kL_L_260 : Cond.methodLink RL 260 yL_pass ∈ GW := gw_c tb_7 37 rfl rfl
theorem kL_L_112 : Cond.methodLink RL 112 yX11_pass ∈ GW := gw_c tb_7 40 rfl rfl
theorem kL_L_263 : Cond.methodLink RL 263 yL_play ∈ GW := gw_c tb_7 47 rfl rfl
theorem kL_L_115 : Cond.methodLink RL 115 yX11_play ∈ GW := gw_c tb_7 50 rfl rfl
theorem kL_L_270 : Cond.methodLink RL 270 yL_reportByte ∈ GW := gw_c tb_7 54 rfl rfl
theorem kL_L_118 : Cond.methodLink RL 118 yX11_reportByte ∈ GW := gw_c tb_7 57 rfl rfl
theorem kL_L_281 : Cond.methodLink RL 281 yL_restore ∈ GW := gw_c tb_7 62 rfl rfl
theorem kL_L_121 : Cond.methodLink RL 121 yX11_restore ∈ GW := gw_c tb_7 65 rfl rfl
theorem kL_L_127 : Cond.methodLink RL 127 yX12_init ∈ GW := gw_c tb_7 72 rfl rfl
theorem kL_L_134 : Cond.methodLink RL 134 yX12_thrown ∈ GW := gw_c tb_7 233 rfl rfl
theorem kL_L_133 : Cond.methodLink RL 133 yX12_feed ∈ GW := gw_c tb_7 237 rfl rfl
theorem kL_L_140 : Cond.methodLink RL 140 yX12_truncate ∈ GW := gw_c tb_8 12 rfl rfl
theorem kL_L_151 : Cond.methodLink RL 151 yX12_errorCode ∈ GW := gw_c tb_8 19 rfl rfl
theorem kL_L_155 : Cond.methodLink RL 155 yX12_errorPosition ∈ GW := gw_c tb_8 23 rfl rfl
theorem kL_L_276 : Cond.methodLink RL 276 yX12_undo ∈ GW := gw_c tb_8 27 rfl rfl
theorem kL_L_280 : Cond.methodLink RL 280 yX12_save ∈ GW := gw_c tb_8 31 rfl rfl
theorem kL_L_283 : Cond.methodLink RL 283 yX12_restore ∈ GW := gw_c tb_8 35 rfl rfl
theorem kL_L_144 : Cond.methodLink RL 144 yX12_readText ∈ GW := gw_c tb_8 39 rfl rfl
theorem kL_L_158 : Cond.methodLink RL 158 yX12_setting ∈ GW := gw_c tb_8 239 rfl rfl
theorem kL_L_162 : Cond.methodLink RL 162 yX12_pawn ∈ GW := gw_c tb_9 4 rfl rfl
theorem kL_L_166 : Cond.methodLink RL 166 yX12_turnOf ∈ GW := gw_c tb_9 21 rfl rfl
theorem kL_L_171 : Cond.methodLink RL 171 yX12_isOver ∈ GW := gw_c tb_9 33 rfl rfl
theorem kL_L_174 : Cond.methodLink RL 174 yX12_pawnAt ∈ GW := gw_c tb_9 37 rfl rfl
theorem kL_L_178 : Cond.methodLink RL 178 yX12_ranked ∈ GW := gw_c tb_9 41 rfl rfl
theorem kL_L_181 : Cond.methodLink RL 181 yX12_wallAt ∈ GW := gw_c tb_9 45 rfl rfl
theorem kL_L_185 : Cond.methodLink RL 185 yX12_isBlocked ∈ GW := gw_c tb_9 49 rfl rfl
theorem kL_L_189 : Cond.methodLink RL 189 yX12_isAdmissible ∈ GW := gw_c tb_9 54 rfl rfl
theorem kL_L_193 : Cond.methodLink RL 193 yX12_admissible ∈ GW := gw_c tb_9 61 rfl rfl
theorem kL_L_197 : Cond.methodLink RL 197 yX12_regions ∈ GW := gw_c tb_9 65 rfl rfl
theorem kL_L_200 : Cond.methodLink RL 200 yX12_canStep ∈ GW := gw_c tb_9 69 rfl rfl
theorem kL_L_203 : Cond.methodLink RL 203 yX12_isBanned ∈ GW := gw_c tb_9 92 rfl rfl
theorem kL_L_206 : Cond.methodLink RL 206 yX12_steps ∈ GW := gw_c tb_9 96 rfl rfl
theorem kL_L_209 : Cond.methodLink RL 209 yX12_distance ∈ GW := gw_c tb_9 104 rfl rfl
theorem kL_L_212 : Cond.methodLink RL 212 yX12_distanceFrom ∈ GW := gw_c tb_9 108 rfl rfl
theorem kL_L_215 : Cond.methodLink RL 215 yX12_ways ∈ GW := gw_c tb_9 112 rfl rfl
theorem kL_L_218 : Cond.methodLink RL 218 yX12_onWays ∈ GW := gw_c tb_9 121 rfl rfl
theorem kL_L_221 : Cond.methodLink RL 221 yX12_gates ∈ GW := gw_c tb_9 125 rfl rfl
theorem kL_L_224 : Cond.methodLink RL 224 yX12_isGate ∈ GW := gw_c tb_9 137 rfl rfl
theorem kL_L_227 : Cond.methodLink RL 227 yX12_stepsWithBans ∈ GW := gw_c tb_9 141 rfl rfl
theorem kL_L_230 : Cond.methodLink RL 230 yX12_waysWithBans ∈ GW := gw_c tb_9 161 rfl rfl
theorem kL_L_233 : Cond.methodLink RL 233 yX12_detour ∈ GW := gw_c tb_9 166 rfl rfl
theorem kL_L_237 : Cond.methodLink RL 237 yX12_leader ∈ GW := gw_c tb_9 170 rfl rfl
theorem kL_L_240 : Cond.methodLink RL 240 yX12_advised ∈ GW := gw_c tb_9 178 rfl rfl
theorem kL_L_243 : Cond.methodLink RL 243 yX12_bestWall ∈ GW := gw_c tb_9 186 rfl rfl
theorem kL_L_246 : Cond.methodLink RL 246 yX12_gain ∈ GW := gw_c tb_9 198 rfl rfl
theorem kL_L_250 : Cond.methodLink RL 250 yX12_harm ∈ GW := gw_c tb_9 202 rfl rfl
theorem kL_L_253 : Cond.methodLink RL 253 yX12_foreseen ∈ GW := gw_c tb_9 206 rfl rfl
theorem kL_L_256 : Cond.methodLink RL 256 yX12_step ∈ GW := gw_c tb_9 239 rfl rfl
theorem kL_L_259 : Cond.methodLink RL 259 yX12_build ∈ GW := gw_c tb_10 15 rfl rfl
theorem kL_L_262 : Cond.methodLink RL 262 yX12_pass ∈ GW := gw_c tb_10 23 rfl rfl
theorem kL_L_265 : Cond.methodLink RL 265 yX12_play ∈ GW := gw_c tb_10 31 rfl rfl
theorem kL_L_147 : Cond.methodLink RL 147 yX12_runScript ∈ GW := gw_c tb_10 35 rfl rfl
theorem kL_L_269 : Cond.methodLink RL 269 yX12_report ∈ GW := gw_c tb_10 68 rfl rfl
theorem kL_L_272 : Cond.methodLink RL 272 yX12_reportByte ∈ GW := gw_c tb_10 76 rfl rfl
theorem kC_L_19 : Cond.classLink "PawnRaceLaw" 19 (exN 1) ∈ GW := gw_c tb_4 24 rfl rfl
theorem kC_L_13 : Cond.classLink "PawnRaceLaw" 13 (exN 2) ∈ GW := gw_c tb_3 185 rfl rfl
theorem kC_L_35 : Cond.classLink "PawnRaceLaw" 35 (exN 3) ∈ GW := gw_c tb_5 219 rfl rfl
theorem vin01 : vp_in 0 1 := fun h => h.elim (by decide) (by decide)
def WB (y : MethodName) (bytes : ByteArray) (nY : Nat) (hh : List (Nat × Nat × Nat × Nat)) (na : Nat) : Prop := Cond.static y ∈ GW ∧ Cond.initialized y.cls ∈ GW ∧ Cond.codeWith y bytes nY (some .int) hh ∈ GW ∧ (y.cls ≠ "java/lang/invoke/MethodHandle" ∧ y.cls ≠ "java/lang/invoke/VarHandle" ∧ (parseMethodDescriptor y.desc).map (fun d => d.parameters.length) = some na)
theorem kB_L_feed : WB yL_feed cL_feed 8 [(0, 16, 19, 13)] 7 := ⟨gw_c tb_3 183 rfl rfl, kN_L, gw_c tb_3 184 rfl rfl, ⟨by decide +kernel, by decide +kernel, by decide +kernel⟩⟩
theorem kB_L_truncate : WB yL_truncate cL_truncate 4 [(0, 9, 12, 19)] 3 := ⟨gw_c tb_4 22 rfl rfl, kN_L, gw_c tb_4 23 rfl rfl, ⟨by decide +kernel, by decide +kernel, by decide +kernel⟩⟩
theorem kB_L_readText : WB yL_readText cL_readText 3 [(0, 8, 11, 19)] 2 := ⟨gw_c tb_4 46 rfl rfl, kN_L, gw_c tb_4 47 rfl rfl, ⟨by decide +kernel, by decide +kernel, by decide +kernel⟩⟩
theorem kB_L_runScript : WB yL_runScript cL_runScript 3 [(0, 8, 11, 19)] 2 := ⟨gw_c tb_5 36 rfl rfl, kN_L, gw_c tb_5 37 rfl rfl, ⟨by decide +kernel, by decide +kernel, by decide +kernel⟩⟩
theorem kB_L_setting : WB yL_setting cL_setting 4 [(0, 9, 12, 19)] 3 := ⟨gw_c tb_5 209 rfl rfl, kN_L, gw_c tb_5 210 rfl rfl, ⟨by decide +kernel, by decide +kernel, by decide +kernel⟩⟩
theorem kB_L_pawn : WB yL_pawn cL_pawn 5 [(0, 10, 13, 35), (0, 10, 17, 19)] 4 := ⟨gw_c tb_5 217 rfl rfl, kN_L, gw_c tb_5 218 rfl rfl, ⟨by decide +kernel, by decide +kernel, by decide +kernel⟩⟩
theorem kB_L_pawnAt : WB yL_pawnAt cL_pawnAt 5 [(0, 10, 13, 35)] 4 := ⟨gw_c tb_6 10 rfl rfl, kN_L, gw_c tb_6 11 rfl rfl, ⟨by decide +kernel, by decide +kernel, by decide +kernel⟩⟩
theorem kB_L_wallAt : WB yL_wallAt cL_wallAt 5 [(0, 10, 13, 35)] 4 := ⟨gw_c tb_6 23 rfl rfl, kN_L, gw_c tb_6 24 rfl rfl, ⟨by decide +kernel, by decide +kernel, by decide +kernel⟩⟩
theorem kB_L_isBlocked : WB yL_isBlocked cL_isBlocked 6 [(0, 19, 22, 35), (0, 19, 26, 19)] 5 := ⟨gw_c tb_6 36 rfl rfl, kN_L, gw_c tb_6 37 rfl rfl, ⟨by decide +kernel, by decide +kernel, by decide +kernel⟩⟩
theorem kB_L_isAdmissible : WB yL_isAdmissible cL_isAdmissible 6 [(0, 19, 22, 35)] 5 := ⟨gw_c tb_6 49 rfl rfl, kN_L, gw_c tb_6 50 rfl rfl, ⟨by decide +kernel, by decide +kernel, by decide +kernel⟩⟩
theorem kB_L_canStep : WB yL_canStep cL_canStep 5 [(0, 17, 20, 35), (0, 17, 24, 19)] 4 := ⟨gw_c tb_6 57 rfl rfl, kN_L, gw_c tb_6 58 rfl rfl, ⟨by decide +kernel, by decide +kernel, by decide +kernel⟩⟩
theorem kB_L_isBanned : WB yL_isBanned cL_isBanned 5 [(0, 17, 20, 35), (0, 17, 24, 19)] 4 := ⟨gw_c tb_6 65 rfl rfl, kN_L, gw_c tb_6 66 rfl rfl, ⟨by decide +kernel, by decide +kernel, by decide +kernel⟩⟩
theorem kB_L_steps : WB yL_steps cL_steps 4 [(0, 9, 12, 35)] 3 := ⟨gw_c tb_6 73 rfl rfl, kN_L, gw_c tb_6 74 rfl rfl, ⟨by decide +kernel, by decide +kernel, by decide +kernel⟩⟩
theorem kB_L_distance : WB yL_distance cL_distance 4 [(0, 9, 12, 35)] 3 := ⟨gw_c tb_6 81 rfl rfl, kN_L, gw_c tb_6 82 rfl rfl, ⟨by decide +kernel, by decide +kernel, by decide +kernel⟩⟩
theorem kB_L_distanceFrom : WB yL_distanceFrom cL_distanceFrom 6 [(0, 12, 15, 35)] 5 := ⟨gw_c tb_6 89 rfl rfl, kN_L, gw_c tb_6 90 rfl rfl, ⟨by decide +kernel, by decide +kernel, by decide +kernel⟩⟩
theorem kB_L_ways : WB yL_ways cL_ways 4 [(0, 9, 12, 35)] 3 := ⟨gw_c tb_6 97 rfl rfl, kN_L, gw_c tb_6 98 rfl rfl, ⟨by decide +kernel, by decide +kernel, by decide +kernel⟩⟩
theorem kB_L_onWays : WB yL_onWays cL_onWays 4 [(0, 9, 12, 35)] 3 := ⟨gw_c tb_6 115 rfl rfl, kN_L, gw_c tb_6 116 rfl rfl, ⟨by decide +kernel, by decide +kernel, by decide +kernel⟩⟩
theorem kB_L_gates : WB yL_gates cL_gates 4 [(0, 9, 12, 35)] 3 := ⟨gw_c tb_6 130 rfl rfl, kN_L, gw_c tb_6 131 rfl rfl, ⟨by decide +kernel, by decide +kernel, by decide +kernel⟩⟩
theorem kB_L_isGate : WB yL_isGate cL_isGate 6 [(0, 19, 22, 35)] 5 := ⟨gw_c tb_6 145 rfl rfl, kN_L, gw_c tb_6 146 rfl rfl, ⟨by decide +kernel, by decide +kernel, by decide +kernel⟩⟩
theorem kB_L_stepsWithBans : WB yL_stepsWithBans cL_stepsWithBans 4 [(0, 9, 12, 35)] 3 := ⟨gw_c tb_6 153 rfl rfl, kN_L, gw_c tb_6 154 rfl rfl, ⟨by decide +kernel, by decide +kernel, by decide +kernel⟩⟩
theorem kB_L_waysWithBans : WB yL_waysWithBans cL_waysWithBans 5 [(0, 10, 13, 35), (0, 10, 17, 19)] 4 := ⟨gw_c tb_6 193 rfl rfl, kN_L, gw_c tb_6 194 rfl rfl, ⟨by decide +kernel, by decide +kernel, by decide +kernel⟩⟩
theorem kB_L_detour : WB yL_detour cL_detour 4 [(0, 9, 12, 35)] 3 := ⟨gw_c tb_6 205 rfl rfl, kN_L, gw_c tb_6 206 rfl rfl, ⟨by decide +kernel, by decide +kernel, by decide +kernel⟩⟩
theorem kB_L_advised : WB yL_advised cL_advised 4 [(0, 9, 12, 35)] 3 := ⟨gw_c tb_6 212 rfl rfl, kN_L, gw_c tb_6 213 rfl rfl, ⟨by decide +kernel, by decide +kernel, by decide +kernel⟩⟩
theorem kB_L_bestWall : WB yL_bestWall cL_bestWall 4 [(0, 9, 12, 35)] 3 := ⟨gw_c tb_6 220 rfl rfl, kN_L, gw_c tb_6 221 rfl rfl, ⟨by decide +kernel, by decide +kernel, by decide +kernel⟩⟩
theorem kB_L_gain : WB yL_gain cL_gain 4 [(0, 9, 12, 35)] 3 := ⟨gw_c tb_6 228 rfl rfl, kN_L, gw_c tb_6 229 rfl rfl, ⟨by decide +kernel, by decide +kernel, by decide +kernel⟩⟩
theorem kB_L_harm : WB yL_harm cL_harm 7 [(0, 14, 17, 35), (0, 14, 21, 13)] 6 := ⟨gw_c tb_6 235 rfl rfl, kN_L, gw_c tb_6 236 rfl rfl, ⟨by decide +kernel, by decide +kernel, by decide +kernel⟩⟩
theorem kB_L_foreseen : WB yL_foreseen cL_foreseen 6 [(0, 12, 15, 35), (0, 12, 19, 19)] 5 := ⟨gw_c tb_7 4 rfl rfl, kN_L, gw_c tb_7 5 rfl rfl, ⟨by decide +kernel, by decide +kernel, by decide +kernel⟩⟩
theorem kB_L_step : WB yL_step cL_step 4 [(0, 9, 12, 19), (0, 9, 15, 13)] 3 := ⟨gw_c tb_7 18 rfl rfl, kN_L, gw_c tb_7 19 rfl rfl, ⟨by decide +kernel, by decide +kernel, by decide +kernel⟩⟩
theorem kB_L_build : WB yL_build cL_build 6 [(0, 12, 15, 35), (0, 12, 19, 13)] 5 := ⟨gw_c tb_7 28 rfl rfl, kN_L, gw_c tb_7 29 rfl rfl, ⟨by decide +kernel, by decide +kernel, by decide +kernel⟩⟩
theorem kB_L_pass : WB yL_pass cL_pass 3 [(0, 8, 11, 13)] 2 := ⟨gw_c tb_7 38 rfl rfl, kN_L, gw_c tb_7 39 rfl rfl, ⟨by decide +kernel, by decide +kernel, by decide +kernel⟩⟩
theorem kB_L_play : WB yL_play cL_play 5 [(0, 10, 13, 19)] 4 := ⟨gw_c tb_7 48 rfl rfl, kN_L, gw_c tb_7 49 rfl rfl, ⟨by decide +kernel, by decide +kernel, by decide +kernel⟩⟩
theorem kB_L_reportByte : WB yL_reportByte cL_reportByte 4 [(0, 9, 12, 35)] 3 := ⟨gw_c tb_7 55 rfl rfl, kN_L, gw_c tb_7 56 rfl rfl, ⟨by decide +kernel, by decide +kernel, by decide +kernel⟩⟩
theorem kB_L_restore : WB yL_restore cL_restore 3 [(0, 8, 11, 13)] 2 := ⟨gw_c tb_7 63 rfl rfl, kN_L, gw_c tb_7 64 rfl rfl, ⟨by decide +kernel, by decide +kernel, by decide +kernel⟩⟩
def K_L_feed (fu : Nat) (x1 : Int32) (x2 : Int32) (x3 : Int32) (x4 : Int32) (x5 : Int32) (mem : Mem) : Option (Int32 × Mem) := bdc (K_X11_feed fu x1 x2 x3 x4 x5 mem) (fun x m1 => some (0, (ml (mset 0 255 mem m1) 255 (Int32.toNatClampNeg 0) (Int32.toInt64 x)))) (fun k m1 => if k = 2 then some (1, (mset 0 255 mem m1)) else none)
def rm_L_feed : Room := { frames := 7, cells := 3, slots := 18, locals := 107 }
set_option maxHeartbeats 4000000 in
set_option maxRecDepth 100000 in
theorem ct_L_feed (l : Launch) (hl : l.stackTraces = false) {D : va_G} {ca ad : Nat → Nat} {Z : (Nat → Prop) → State → Heap → Prop} (hZ : ZOK Z) (hX : ZX Z) {tO : Nat} {sK sV : Nat → Nat} (hO : ZO Z tO sK sV) (fu : Nat) (x1 : Int32) (x2 : Int32) (x3 : Int32) (x4 : Int32) (x5 : Int32) (mem : Mem) (res : (Int32 × Mem)) (hF : K_L_feed fu x1 x2 x3 x4 x5 mem = some res) : CW l D (tyL ca) 256 ad (cL ca ad) Z yL_feed cL_feed 8 [(0, 16, 19, 13)] rm_L_feed [.ref (ad 0), .int x1, .int x2, .int x3, .int x4, .int x5, .ref (ad 255)] mem res.1 res.2 := by
  obtain ⟨res1, res2⟩ := res
  refine start_w (own := RL) rfl (by decide) (Nat.le_of_ble_eq_true rfl) ?_
  intro p e s m args below meth c Q hQ htb X
  rw [K_L_feed] at hF
  refine w_aload X 6 dL_feed_0 rfl 2 rfl ?_
  refine w_iconst X 0 dL_feed_2 rfl 3 rfl ?_
  refine w_aload_n X 0 dL_feed_3 rfl rfl 4 rfl ?_
  refine w_iload_n X 1 dL_feed_4 rfl rfl 5 rfl ?_
  refine w_iload_n X 2 dL_feed_5 rfl rfl 6 rfl ?_
  refine w_iload_n X 3 dL_feed_6 rfl rfl 7 rfl ?_
  refine w_iload X 4 dL_feed_7 rfl 9 rfl ?_
  refine w_iload X 5 dL_feed_9 rfl 11 rfl ?_
  refine w_xc X hZ hX htb hF [.int x1, .int x2, .int x3, .int x4, .int x5] rfl rfl kB_X11_feed kL_L_7 (fun res h => ct_X11_feed l hl hZ hX hO fu x1 x2 x3 x4 x5 mem res h) rfl rfl rfl ⟨Nat.le_of_ble_eq_true rfl, Nat.le_of_ble_eq_true rfl⟩ (Nat.le_of_ble_eq_true rfl) ⟨Nat.le_of_ble_eq_true rfl, Nat.le_of_ble_eq_true rfl⟩ dL_feed_11 14 rfl (fun k m1 h1 h3 hF => ?_) (fun x m1 hF => ?_)
  · by_cases hk0 : k = 2
    · subst hk0
      rw [if_pos rfl] at hF
      refine ⟨[], ⟨0, 16, 19, 13⟩, [], rfl, (fun z hz => absurd hz List.not_mem_nil), by decide, by decide, kC_L_13, fun q => ?_⟩
      refine w_astore X [(7, .ref q), (0, .ref (ad 0)), (1, .int x1), (2, .int x2), (3, .int x3), (4, .int x4), (5, .int x5), (6, .ref (ad 255))] dL_feed_19 (by decide) rfl 21 rfl ?_
      refine w_iconst X 1 dL_feed_21 rfl 22 rfl ?_
      exact w_wret X hQ (o_inj1 hF) (o_inj2 hF) dL_feed_22
    · rw [if_neg hk0] at hF
      cases hF
  · refine w_i2l X dL_feed_14 15 rfl ?_
    refine w_las X 255 plt_255 ko_255 (t0 := 5) rfl vin01 dL_feed_15 16 rfl ?_
    refine w_goto X 23 dL_feed_16 (by decide) ?_
    refine w_iconst X 0 dL_feed_23 rfl 24 rfl ?_
    exact w_wret X hQ (o_inj1 hF) (o_inj2 hF) dL_feed_24

def K_L_truncate (fu : Nat) (x1 : Int32) (mem : Mem) : Option (Int32 × Mem) := bdc (K_X11_truncate fu x1 mem) (fun x m1 => some (0, (ml (mset 0 255 mem m1) 255 (Int32.toNatClampNeg 0) (Int32.toInt64 x)))) (fun k m1 => if k = 1 then some (1, (mset 0 255 mem m1)) else none)
def rm_L_truncate : Room := { frames := 7, cells := 3, slots := 18, locals := 103 }
set_option maxHeartbeats 4000000 in
set_option maxRecDepth 100000 in
theorem ct_L_truncate (l : Launch) (hl : l.stackTraces = false) {D : va_G} {ca ad : Nat → Nat} {Z : (Nat → Prop) → State → Heap → Prop} (hZ : ZOK Z) (hX : ZX Z) {tO : Nat} {sK sV : Nat → Nat} (hO : ZO Z tO sK sV) (fu : Nat) (x1 : Int32) (mem : Mem) (res : (Int32 × Mem)) (hF : K_L_truncate fu x1 mem = some res) : CW l D (tyL ca) 256 ad (cL ca ad) Z yL_truncate cL_truncate 4 [(0, 9, 12, 19)] rm_L_truncate [.ref (ad 0), .int x1, .ref (ad 255)] mem res.1 res.2 := by
  obtain ⟨res1, res2⟩ := res
  refine start_w (own := RL) rfl (by decide) (Nat.le_of_ble_eq_true rfl) ?_
  intro p e s m args below meth c Q hQ htb X
  rw [K_L_truncate] at hF
  refine w_aload_n X 2 dL_truncate_0 rfl rfl 1 rfl ?_
  refine w_iconst X 0 dL_truncate_1 rfl 2 rfl ?_
  refine w_aload_n X 0 dL_truncate_2 rfl rfl 3 rfl ?_
  refine w_iload_n X 1 dL_truncate_3 rfl rfl 4 rfl ?_
  refine w_xc X hZ hX htb hF [.int x1] rfl rfl kB_X11_truncate kL_L_15 (fun res h => ct_X11_truncate l hl hZ hX hO fu x1 mem res h) rfl rfl rfl ⟨Nat.le_of_ble_eq_true rfl, Nat.le_of_ble_eq_true rfl⟩ (Nat.le_of_ble_eq_true rfl) ⟨Nat.le_of_ble_eq_true rfl, Nat.le_of_ble_eq_true rfl⟩ dL_truncate_4 7 rfl (fun k m1 h1 h3 hF => ?_) (fun x m1 hF => ?_)
  · by_cases hk0 : k = 1
    · subst hk0
      rw [if_pos rfl] at hF
      refine ⟨[], ⟨0, 9, 12, 19⟩, [], rfl, (fun z hz => absurd hz List.not_mem_nil), by decide, by decide, kC_L_19, fun q => ?_⟩
      refine w_astore_n X [(3, .ref q), (0, .ref (ad 0)), (1, .int x1), (2, .ref (ad 255))] dL_truncate_12 rfl (by decide) rfl 13 rfl ?_
      refine w_iconst X 1 dL_truncate_13 rfl 14 rfl ?_
      exact w_wret X hQ (o_inj1 hF) (o_inj2 hF) dL_truncate_14
    · rw [if_neg hk0] at hF
      cases hF
  · refine w_i2l X dL_truncate_7 8 rfl ?_
    refine w_las X 255 plt_255 ko_255 (t0 := 5) rfl vin01 dL_truncate_8 9 rfl ?_
    refine w_goto X 15 dL_truncate_9 (by decide) ?_
    refine w_iconst X 0 dL_truncate_15 rfl 16 rfl ?_
    exact w_wret X hQ (o_inj1 hF) (o_inj2 hF) dL_truncate_16

def K_L_readText (fu : Nat)  (mem : Mem) : Option (Int32 × Mem) := bdc (K_X11_readText fu  mem) (fun x m1 => some (0, (ml (mset 0 255 mem m1) 255 (Int32.toNatClampNeg 0) (Int32.toInt64 x)))) (fun k m1 => if k = 1 then some (1, (mset 0 255 mem m1)) else none)
def rm_L_readText : Room := { frames := 12, cells := 3, slots := 18, locals := 254 }
set_option maxHeartbeats 4000000 in
set_option maxRecDepth 100000 in
theorem ct_L_readText (l : Launch) (hl : l.stackTraces = false) {D : va_G} {ca ad : Nat → Nat} {Z : (Nat → Prop) → State → Heap → Prop} (hZ : ZOK Z) (hX : ZX Z) {tO : Nat} {sK sV : Nat → Nat} (hO : ZO Z tO sK sV) (fu : Nat)  (mem : Mem) (res : (Int32 × Mem)) (hF : K_L_readText fu  mem = some res) : CW l D (tyL ca) 256 ad (cL ca ad) Z yL_readText cL_readText 3 [(0, 8, 11, 19)] rm_L_readText [.ref (ad 0), .ref (ad 255)] mem res.1 res.2 := by
  obtain ⟨res1, res2⟩ := res
  refine start_w (own := RL) rfl (by decide) (Nat.le_of_ble_eq_true rfl) ?_
  intro p e s m args below meth c Q hQ htb X
  rw [K_L_readText] at hF
  refine w_aload_n X 1 dL_readText_0 rfl rfl 1 rfl ?_
  refine w_iconst X 0 dL_readText_1 rfl 2 rfl ?_
  refine w_aload_n X 0 dL_readText_2 rfl rfl 3 rfl ?_
  refine w_xc X hZ hX htb hF [] rfl rfl kB_X11_readText kL_L_21 (fun res h => ct_X11_readText l hl hZ hX hO fu  mem res h) rfl rfl rfl ⟨Nat.le_of_ble_eq_true rfl, Nat.le_of_ble_eq_true rfl⟩ (Nat.le_of_ble_eq_true rfl) ⟨Nat.le_of_ble_eq_true rfl, Nat.le_of_ble_eq_true rfl⟩ dL_readText_3 6 rfl (fun k m1 h1 h3 hF => ?_) (fun x m1 hF => ?_)
  · by_cases hk0 : k = 1
    · subst hk0
      rw [if_pos rfl] at hF
      refine ⟨[], ⟨0, 8, 11, 19⟩, [], rfl, (fun z hz => absurd hz List.not_mem_nil), by decide, by decide, kC_L_19, fun q => ?_⟩
      refine w_astore_n X [(2, .ref q), (0, .ref (ad 0)), (1, .ref (ad 255))] dL_readText_11 rfl (by decide) rfl 12 rfl ?_
      refine w_iconst X 1 dL_readText_12 rfl 13 rfl ?_
      exact w_wret X hQ (o_inj1 hF) (o_inj2 hF) dL_readText_13
    · rw [if_neg hk0] at hF
      cases hF
  · refine w_i2l X dL_readText_6 7 rfl ?_
    refine w_las X 255 plt_255 ko_255 (t0 := 5) rfl vin01 dL_readText_7 8 rfl ?_
    refine w_goto X 14 dL_readText_8 (by decide) ?_
    refine w_iconst X 0 dL_readText_14 rfl 15 rfl ?_
    exact w_wret X hQ (o_inj1 hF) (o_inj2 hF) dL_readText_15

def K_L_runScript (fu : Nat)  (mem : Mem) : Option (Int32 × Mem) := bdc (K_X11_runScript fu  mem) (fun x m1 => some (0, (ml (mset 0 255 mem m1) 255 (Int32.toNatClampNeg 0) (Int32.toInt64 x)))) (fun k m1 => if k = 1 then some (1, (mset 0 255 mem m1)) else none)
def rm_L_runScript : Room := { frames := 12, cells := 3, slots := 18, locals := 255 }
set_option maxHeartbeats 4000000 in
set_option maxRecDepth 100000 in
theorem ct_L_runScript (l : Launch) (hl : l.stackTraces = false) {D : va_G} {ca ad : Nat → Nat} {Z : (Nat → Prop) → State → Heap → Prop} (hZ : ZOK Z) (hX : ZX Z) {tO : Nat} {sK sV : Nat → Nat} (hO : ZO Z tO sK sV) (fu : Nat)  (mem : Mem) (res : (Int32 × Mem)) (hF : K_L_runScript fu  mem = some res) : CW l D (tyL ca) 256 ad (cL ca ad) Z yL_runScript cL_runScript 3 [(0, 8, 11, 19)] rm_L_runScript [.ref (ad 0), .ref (ad 255)] mem res.1 res.2 := by
  obtain ⟨res1, res2⟩ := res
  refine start_w (own := RL) rfl (by decide) (Nat.le_of_ble_eq_true rfl) ?_
  intro p e s m args below meth c Q hQ htb X
  rw [K_L_runScript] at hF
  refine w_aload_n X 1 dL_runScript_0 rfl rfl 1 rfl ?_
  refine w_iconst X 0 dL_runScript_1 rfl 2 rfl ?_
  refine w_aload_n X 0 dL_runScript_2 rfl rfl 3 rfl ?_
  refine w_xc X hZ hX htb hF [] rfl rfl kB_X11_runScript kL_L_25 (fun res h => ct_X11_runScript l hl hZ hX hO fu  mem res h) rfl rfl rfl ⟨Nat.le_of_ble_eq_true rfl, Nat.le_of_ble_eq_true rfl⟩ (Nat.le_of_ble_eq_true rfl) ⟨Nat.le_of_ble_eq_true rfl, Nat.le_of_ble_eq_true rfl⟩ dL_runScript_3 6 rfl (fun k m1 h1 h3 hF => ?_) (fun x m1 hF => ?_)
  · by_cases hk0 : k = 1
    · subst hk0
      rw [if_pos rfl] at hF
      refine ⟨[], ⟨0, 8, 11, 19⟩, [], rfl, (fun z hz => absurd hz List.not_mem_nil), by decide, by decide, kC_L_19, fun q => ?_⟩
      refine w_astore_n X [(2, .ref q), (0, .ref (ad 0)), (1, .ref (ad 255))] dL_runScript_11 rfl (by decide) rfl 12 rfl ?_
      refine w_iconst X 1 dL_runScript_12 rfl 13 rfl ?_
      exact w_wret X hQ (o_inj1 hF) (o_inj2 hF) dL_runScript_13
    · rw [if_neg hk0] at hF
      cases hF
  · refine w_i2l X dL_runScript_6 7 rfl ?_
    refine w_las X 255 plt_255 ko_255 (t0 := 5) rfl vin01 dL_runScript_7 8 rfl ?_
    refine w_goto X 14 dL_runScript_8 (by decide) ?_
    refine w_iconst X 0 dL_runScript_14 rfl 15 rfl ?_
    exact w_wret X hQ (o_inj1 hF) (o_inj2 hF) dL_runScript_15

def K_L_setting (fu : Nat) (x1 : Int32) (mem : Mem) : Option (Int32 × Mem) := bdc (K_X11_setting fu x1 mem) (fun x m1 => some (0, (ml (mset 0 255 mem m1) 255 (Int32.toNatClampNeg 0) (Int32.toInt64 x)))) (fun k m1 => if k = 1 then some (1, (mset 0 255 mem m1)) else none)
def rm_L_setting : Room := { frames := 7, cells := 3, slots := 18, locals := 103 }
set_option maxHeartbeats 4000000 in
set_option maxRecDepth 100000 in
theorem ct_L_setting (l : Launch) (hl : l.stackTraces = false) {D : va_G} {ca ad : Nat → Nat} {Z : (Nat → Prop) → State → Heap → Prop} (hZ : ZOK Z) (hX : ZX Z) {tO : Nat} {sK sV : Nat → Nat} (hO : ZO Z tO sK sV) (fu : Nat) (x1 : Int32) (mem : Mem) (res : (Int32 × Mem)) (hF : K_L_setting fu x1 mem = some res) : CW l D (tyL ca) 256 ad (cL ca ad) Z yL_setting cL_setting 4 [(0, 9, 12, 19)] rm_L_setting [.ref (ad 0), .int x1, .ref (ad 255)] mem res.1 res.2 := by
  obtain ⟨res1, res2⟩ := res
  refine start_w (own := RL) rfl (by decide) (Nat.le_of_ble_eq_true rfl) ?_
  intro p e s m args below meth c Q hQ htb X
  rw [K_L_setting] at hF
  refine w_aload_n X 2 dL_setting_0 rfl rfl 1 rfl ?_
  refine w_iconst X 0 dL_setting_1 rfl 2 rfl ?_
  refine w_aload_n X 0 dL_setting_2 rfl rfl 3 rfl ?_
  refine w_iload_n X 1 dL_setting_3 rfl rfl 4 rfl ?_
  refine w_xc X hZ hX htb hF [.int x1] rfl rfl kB_X11_setting kL_L_28 (fun res h => ct_X11_setting l hl hZ hX hO fu x1 mem res h) rfl rfl rfl ⟨Nat.le_of_ble_eq_true rfl, Nat.le_of_ble_eq_true rfl⟩ (Nat.le_of_ble_eq_true rfl) ⟨Nat.le_of_ble_eq_true rfl, Nat.le_of_ble_eq_true rfl⟩ dL_setting_4 7 rfl (fun k m1 h1 h3 hF => ?_) (fun x m1 hF => ?_)
  · by_cases hk0 : k = 1
    · subst hk0
      rw [if_pos rfl] at hF
      refine ⟨[], ⟨0, 9, 12, 19⟩, [], rfl, (fun z hz => absurd hz List.not_mem_nil), by decide, by decide, kC_L_19, fun q => ?_⟩
      refine w_astore_n X [(3, .ref q), (0, .ref (ad 0)), (1, .int x1), (2, .ref (ad 255))] dL_setting_12 rfl (by decide) rfl 13 rfl ?_
      refine w_iconst X 1 dL_setting_13 rfl 14 rfl ?_
      exact w_wret X hQ (o_inj1 hF) (o_inj2 hF) dL_setting_14
    · rw [if_neg hk0] at hF
      cases hF
  · refine w_i2l X dL_setting_7 8 rfl ?_
    refine w_las X 255 plt_255 ko_255 (t0 := 5) rfl vin01 dL_setting_8 9 rfl ?_
    refine w_goto X 15 dL_setting_9 (by decide) ?_
    refine w_iconst X 0 dL_setting_15 rfl 16 rfl ?_
    exact w_wret X hQ (o_inj1 hF) (o_inj2 hF) dL_setting_16

def K_L_pawn (fu : Nat) (x1 : Int32) (x2 : Int32) (mem : Mem) : Option (Int32 × Mem) := bdc (K_X11_pawn fu x1 x2 mem) (fun x m1 => some (0, (ml (mset 0 255 mem m1) 255 (Int32.toNatClampNeg 0) (Int32.toInt64 x)))) (fun k m1 => if k = 3 then some (1, (mset 0 255 mem m1)) else if k = 1 then some (2, (mset 0 255 mem m1)) else none)
def rm_L_pawn : Room := { frames := 8, cells := 3, slots := 18, locals := 126 }
set_option maxHeartbeats 4000000 in
set_option maxRecDepth 100000 in
theorem ct_L_pawn (l : Launch) (hl : l.stackTraces = false) {D : va_G} {ca ad : Nat → Nat} {Z : (Nat → Prop) → State → Heap → Prop} (hZ : ZOK Z) (hX : ZX Z) {tO : Nat} {sK sV : Nat → Nat} (hO : ZO Z tO sK sV) (fu : Nat) (x1 : Int32) (x2 : Int32) (mem : Mem) (res : (Int32 × Mem)) (hF : K_L_pawn fu x1 x2 mem = some res) : CW l D (tyL ca) 256 ad (cL ca ad) Z yL_pawn cL_pawn 5 [(0, 10, 13, 35), (0, 10, 17, 19)] rm_L_pawn [.ref (ad 0), .int x1, .int x2, .ref (ad 255)] mem res.1 res.2 := by
  obtain ⟨res1, res2⟩ := res
  refine start_w (own := RL) rfl (by decide) (Nat.le_of_ble_eq_true rfl) ?_
  intro p e s m args below meth c Q hQ htb X
  rw [K_L_pawn] at hF
  refine w_aload_n X 3 dL_pawn_0 rfl rfl 1 rfl ?_
  refine w_iconst X 0 dL_pawn_1 rfl 2 rfl ?_
  refine w_aload_n X 0 dL_pawn_2 rfl rfl 3 rfl ?_
  refine w_iload_n X 1 dL_pawn_3 rfl rfl 4 rfl ?_
  refine w_iload_n X 2 dL_pawn_4 rfl rfl 5 rfl ?_
  refine w_xc X hZ hX htb hF [.int x1, .int x2] rfl rfl kB_X11_pawn kL_L_31 (fun res h => ct_X11_pawn l hl hZ hX hO fu x1 x2 mem res h) rfl rfl rfl ⟨Nat.le_of_ble_eq_true rfl, Nat.le_of_ble_eq_true rfl⟩ (Nat.le_of_ble_eq_true rfl) ⟨Nat.le_of_ble_eq_true rfl, Nat.le_of_ble_eq_true rfl⟩ dL_pawn_5 8 rfl (fun k m1 h1 h3 hF => ?_) (fun x m1 hF => ?_)
  · by_cases hk0 : k = 3
    · subst hk0
      rw [if_pos rfl] at hF
      refine ⟨[], ⟨0, 10, 13, 35⟩, [⟨0, 10, 17, 19⟩], rfl, (fun z hz => absurd hz List.not_mem_nil), by decide, by decide, kC_L_35, fun q => ?_⟩
      refine w_astore X [(4, .ref q), (0, .ref (ad 0)), (1, .int x1), (2, .int x2), (3, .ref (ad 255))] dL_pawn_13 (by decide) rfl 15 rfl ?_
      refine w_iconst X 1 dL_pawn_15 rfl 16 rfl ?_
      exact w_wret X hQ (o_inj1 hF) (o_inj2 hF) dL_pawn_16
    · rw [if_neg hk0] at hF
      by_cases hk1 : k = 1
      · subst hk1
        rw [if_pos rfl] at hF
        refine ⟨[⟨0, 10, 13, 35⟩], ⟨0, 10, 17, 19⟩, [], rfl, (fun z hz => by rw [List.mem_singleton.mp hz]; exact ⟨by decide, 3, by decide, by decide, by decide, kC_L_35⟩), by decide, by decide, kC_L_19, fun q => ?_⟩
        refine w_astore X [(4, .ref q), (0, .ref (ad 0)), (1, .int x1), (2, .int x2), (3, .ref (ad 255))] dL_pawn_17 (by decide) rfl 19 rfl ?_
        refine w_iconst X 2 dL_pawn_19 rfl 20 rfl ?_
        exact w_wret X hQ (o_inj1 hF) (o_inj2 hF) dL_pawn_20
      · rw [if_neg hk1] at hF
        cases hF
  · refine w_i2l X dL_pawn_8 9 rfl ?_
    refine w_las X 255 plt_255 ko_255 (t0 := 5) rfl vin01 dL_pawn_9 10 rfl ?_
    refine w_goto X 21 dL_pawn_10 (by decide) ?_
    refine w_iconst X 0 dL_pawn_21 rfl 22 rfl ?_
    exact w_wret X hQ (o_inj1 hF) (o_inj2 hF) dL_pawn_22

def K_L_pawnAt (fu : Nat) (x1 : Int32) (x2 : Int32) (mem : Mem) : Option (Int32 × Mem) := bdc (K_X11_pawnAt fu x1 x2 mem) (fun x m1 => some (0, (ml (mset 0 255 mem m1) 255 (Int32.toNatClampNeg 0) (Int32.toInt64 x)))) (fun k m1 => if k = 3 then some (1, (mset 0 255 mem m1)) else none)
def rm_L_pawnAt : Room := { frames := 8, cells := 3, slots := 18, locals := 126 }
set_option maxHeartbeats 4000000 in
set_option maxRecDepth 100000 in
theorem ct_L_pawnAt (l : Launch) (hl : l.stackTraces = false) {D : va_G} {ca ad : Nat → Nat} {Z : (Nat → Prop) → State → Heap → Prop} (hZ : ZOK Z) (hX : ZX Z) {tO : Nat} {sK sV : Nat → Nat} (hO : ZO Z tO sK sV) (fu : Nat) (x1 : Int32) (x2 : Int32) (mem : Mem) (res : (Int32 × Mem)) (hF : K_L_pawnAt fu x1 x2 mem = some res) : CW l D (tyL ca) 256 ad (cL ca ad) Z yL_pawnAt cL_pawnAt 5 [(0, 10, 13, 35)] rm_L_pawnAt [.ref (ad 0), .int x1, .int x2, .ref (ad 255)] mem res.1 res.2 := by
  obtain ⟨res1, res2⟩ := res
  refine start_w (own := RL) rfl (by decide) (Nat.le_of_ble_eq_true rfl) ?_
  intro p e s m args below meth c Q hQ htb X
  rw [K_L_pawnAt] at hF
  refine w_aload_n X 3 dL_pawnAt_0 rfl rfl 1 rfl ?_
  refine w_iconst X 0 dL_pawnAt_1 rfl 2 rfl ?_
  refine w_aload_n X 0 dL_pawnAt_2 rfl rfl 3 rfl ?_
  refine w_iload_n X 1 dL_pawnAt_3 rfl rfl 4 rfl ?_
  refine w_iload_n X 2 dL_pawnAt_4 rfl rfl 5 rfl ?_
  refine w_xc X hZ hX htb hF [.int x1, .int x2] rfl rfl kB_X11_pawnAt kL_L_37 (fun res h => ct_X11_pawnAt l hl hZ hX hO fu x1 x2 mem res h) rfl rfl rfl ⟨Nat.le_of_ble_eq_true rfl, Nat.le_of_ble_eq_true rfl⟩ (Nat.le_of_ble_eq_true rfl) ⟨Nat.le_of_ble_eq_true rfl, Nat.le_of_ble_eq_true rfl⟩ dL_pawnAt_5 8 rfl (fun k m1 h1 h3 hF => ?_) (fun x m1 hF => ?_)
  · by_cases hk0 : k = 3
    · subst hk0
      rw [if_pos rfl] at hF
      refine ⟨[], ⟨0, 10, 13, 35⟩, [], rfl, (fun z hz => absurd hz List.not_mem_nil), by decide, by decide, kC_L_35, fun q => ?_⟩
      refine w_astore X [(4, .ref q), (0, .ref (ad 0)), (1, .int x1), (2, .int x2), (3, .ref (ad 255))] dL_pawnAt_13 (by decide) rfl 15 rfl ?_
      refine w_iconst X 1 dL_pawnAt_15 rfl 16 rfl ?_
      exact w_wret X hQ (o_inj1 hF) (o_inj2 hF) dL_pawnAt_16
    · rw [if_neg hk0] at hF
      cases hF
  · refine w_i2l X dL_pawnAt_8 9 rfl ?_
    refine w_las X 255 plt_255 ko_255 (t0 := 5) rfl vin01 dL_pawnAt_9 10 rfl ?_
    refine w_goto X 17 dL_pawnAt_10 (by decide) ?_
    refine w_iconst X 0 dL_pawnAt_17 rfl 18 rfl ?_
    exact w_wret X hQ (o_inj1 hF) (o_inj2 hF) dL_pawnAt_18

def K_L_wallAt (fu : Nat) (x1 : Int32) (x2 : Int32) (mem : Mem) : Option (Int32 × Mem) := bdc (K_X11_wallAt fu x1 x2 mem) (fun x m1 => some (0, (ml (mset 0 255 mem m1) 255 (Int32.toNatClampNeg 0) (Int32.toInt64 x)))) (fun k m1 => if k = 3 then some (1, (mset 0 255 mem m1)) else none)
def rm_L_wallAt : Room := { frames := 8, cells := 3, slots := 18, locals := 126 }
set_option maxHeartbeats 4000000 in
set_option maxRecDepth 100000 in
theorem ct_L_wallAt (l : Launch) (hl : l.stackTraces = false) {D : va_G} {ca ad : Nat → Nat} {Z : (Nat → Prop) → State → Heap → Prop} (hZ : ZOK Z) (hX : ZX Z) {tO : Nat} {sK sV : Nat → Nat} (hO : ZO Z tO sK sV) (fu : Nat) (x1 : Int32) (x2 : Int32) (mem : Mem) (res : (Int32 × Mem)) (hF : K_L_wallAt fu x1 x2 mem = some res) : CW l D (tyL ca) 256 ad (cL ca ad) Z yL_wallAt cL_wallAt 5 [(0, 10, 13, 35)] rm_L_wallAt [.ref (ad 0), .int x1, .int x2, .ref (ad 255)] mem res.1 res.2 := by
  obtain ⟨res1, res2⟩ := res
  refine start_w (own := RL) rfl (by decide) (Nat.le_of_ble_eq_true rfl) ?_
  intro p e s m args below meth c Q hQ htb X
  rw [K_L_wallAt] at hF
  refine w_aload_n X 3 dL_wallAt_0 rfl rfl 1 rfl ?_
  refine w_iconst X 0 dL_wallAt_1 rfl 2 rfl ?_
  refine w_aload_n X 0 dL_wallAt_2 rfl rfl 3 rfl ?_
  refine w_iload_n X 1 dL_wallAt_3 rfl rfl 4 rfl ?_
  refine w_iload_n X 2 dL_wallAt_4 rfl rfl 5 rfl ?_
  refine w_xc X hZ hX htb hF [.int x1, .int x2] rfl rfl kB_X11_wallAt kL_L_40 (fun res h => ct_X11_wallAt l hl hZ hX hO fu x1 x2 mem res h) rfl rfl rfl ⟨Nat.le_of_ble_eq_true rfl, Nat.le_of_ble_eq_true rfl⟩ (Nat.le_of_ble_eq_true rfl) ⟨Nat.le_of_ble_eq_true rfl, Nat.le_of_ble_eq_true rfl⟩ dL_wallAt_5 8 rfl (fun k m1 h1 h3 hF => ?_) (fun x m1 hF => ?_)
  · by_cases hk0 : k = 3
    · subst hk0
      rw [if_pos rfl] at hF
      refine ⟨[], ⟨0, 10, 13, 35⟩, [], rfl, (fun z hz => absurd hz List.not_mem_nil), by decide, by decide, kC_L_35, fun q => ?_⟩
      refine w_astore X [(4, .ref q), (0, .ref (ad 0)), (1, .int x1), (2, .int x2), (3, .ref (ad 255))] dL_wallAt_13 (by decide) rfl 15 rfl ?_
      refine w_iconst X 1 dL_wallAt_15 rfl 16 rfl ?_
      exact w_wret X hQ (o_inj1 hF) (o_inj2 hF) dL_wallAt_16
    · rw [if_neg hk0] at hF
      cases hF
  · refine w_i2l X dL_wallAt_8 9 rfl ?_
    refine w_las X 255 plt_255 ko_255 (t0 := 5) rfl vin01 dL_wallAt_9 10 rfl ?_
    refine w_goto X 17 dL_wallAt_10 (by decide) ?_
    refine w_iconst X 0 dL_wallAt_17 rfl 18 rfl ?_
    exact w_wret X hQ (o_inj1 hF) (o_inj2 hF) dL_wallAt_18

def K_L_isBlocked (fu : Nat) (x1 : Int32) (x2 : Int32) (x3 : Int32) (mem : Mem) : Option (Int32 × Mem) := bdc (K_X11_isBlocked fu x1 x2 x3 mem) (fun x m1 => (if x = 0 then some (0, (ml (mset 0 255 mem m1) 255 (Int32.toNatClampNeg 0) 0)) else some (0, (ml (mset 0 255 mem m1) 255 (Int32.toNatClampNeg 0) 1)))) (fun k m1 => if k = 3 then some (1, (mset 0 255 mem m1)) else if k = 1 then some (2, (mset 0 255 mem m1)) else none)
def rm_L_isBlocked : Room := { frames := 8, cells := 3, slots := 18, locals := 127 }
set_option maxHeartbeats 4000000 in
set_option maxRecDepth 100000 in
theorem ct_L_isBlocked (l : Launch) (hl : l.stackTraces = false) {D : va_G} {ca ad : Nat → Nat} {Z : (Nat → Prop) → State → Heap → Prop} (hZ : ZOK Z) (hX : ZX Z) {tO : Nat} {sK sV : Nat → Nat} (hO : ZO Z tO sK sV) (fu : Nat) (x1 : Int32) (x2 : Int32) (x3 : Int32) (mem : Mem) (res : (Int32 × Mem)) (hF : K_L_isBlocked fu x1 x2 x3 mem = some res) : CW l D (tyL ca) 256 ad (cL ca ad) Z yL_isBlocked cL_isBlocked 6 [(0, 19, 22, 35), (0, 19, 26, 19)] rm_L_isBlocked [.ref (ad 0), .int x1, .int x2, .int x3, .ref (ad 255)] mem res.1 res.2 := by
  obtain ⟨res1, res2⟩ := res
  refine start_w (own := RL) rfl (by decide) (Nat.le_of_ble_eq_true rfl) ?_
  intro p e s m args below meth c Q hQ htb X
  rw [K_L_isBlocked] at hF
  refine w_aload X 4 dL_isBlocked_0 rfl 2 rfl ?_
  refine w_iconst X 0 dL_isBlocked_2 rfl 3 rfl ?_
  refine w_aload_n X 0 dL_isBlocked_3 rfl rfl 4 rfl ?_
  refine w_iload_n X 1 dL_isBlocked_4 rfl rfl 5 rfl ?_
  refine w_iload_n X 2 dL_isBlocked_5 rfl rfl 6 rfl ?_
  refine w_iload_n X 3 dL_isBlocked_6 rfl rfl 7 rfl ?_
  refine w_xc X hZ hX htb hF [.int x1, .int x2, .int x3] rfl rfl kB_X11_isBlocked kL_L_43 (fun res h => ct_X11_isBlocked l hl hZ hX hO fu x1 x2 x3 mem res h) rfl rfl rfl ⟨Nat.le_of_ble_eq_true rfl, Nat.le_of_ble_eq_true rfl⟩ (Nat.le_of_ble_eq_true rfl) ⟨Nat.le_of_ble_eq_true rfl, Nat.le_of_ble_eq_true rfl⟩ dL_isBlocked_7 10 rfl (fun k m1 h1 h3 hF => ?_) (fun x m1 hF => ?_)
  · by_cases hk0 : k = 3
    · subst hk0
      rw [if_pos rfl] at hF
      refine ⟨[], ⟨0, 19, 22, 35⟩, [⟨0, 19, 26, 19⟩], rfl, (fun z hz => absurd hz List.not_mem_nil), by decide, by decide, kC_L_35, fun q => ?_⟩
      refine w_astore X [(5, .ref q), (0, .ref (ad 0)), (1, .int x1), (2, .int x2), (3, .int x3), (4, .ref (ad 255))] dL_isBlocked_22 (by decide) rfl 24 rfl ?_
      refine w_iconst X 1 dL_isBlocked_24 rfl 25 rfl ?_
      exact w_wret X hQ (o_inj1 hF) (o_inj2 hF) dL_isBlocked_25
    · rw [if_neg hk0] at hF
      by_cases hk1 : k = 1
      · subst hk1
        rw [if_pos rfl] at hF
        refine ⟨[⟨0, 19, 22, 35⟩], ⟨0, 19, 26, 19⟩, [], rfl, (fun z hz => by rw [List.mem_singleton.mp hz]; exact ⟨by decide, 3, by decide, by decide, by decide, kC_L_35⟩), by decide, by decide, kC_L_19, fun q => ?_⟩
        refine w_astore X [(5, .ref q), (0, .ref (ad 0)), (1, .int x1), (2, .int x2), (3, .int x3), (4, .ref (ad 255))] dL_isBlocked_26 (by decide) rfl 28 rfl ?_
        refine w_iconst X 2 dL_isBlocked_28 rfl 29 rfl ?_
        exact w_wret X hQ (o_inj1 hF) (o_inj2 hF) dL_isBlocked_29
      · rw [if_neg hk1] at hF
        cases hF
  · refine w_if_eq X hF 17 13 dL_isBlocked_10 (by decide) rfl (fun hF => ?_) (fun hF => ?_)
    · refine w_lconst X 0 dL_isBlocked_17 rfl 18 rfl ?_
      refine w_las X 255 plt_255 ko_255 (t0 := 5) rfl vin01 dL_isBlocked_18 19 rfl ?_
      refine w_goto X 30 dL_isBlocked_19 (by decide) ?_
      refine w_iconst X 0 dL_isBlocked_30 rfl 31 rfl ?_
      exact w_wret X hQ (o_inj1 hF) (o_inj2 hF) dL_isBlocked_31
    · refine w_lconst X 1 dL_isBlocked_13 rfl 14 rfl ?_
      refine w_goto X 18 dL_isBlocked_14 (by decide) ?_
      refine w_las X 255 plt_255 ko_255 (t0 := 5) rfl vin01 dL_isBlocked_18 19 rfl ?_
      refine w_goto X 30 dL_isBlocked_19 (by decide) ?_
      refine w_iconst X 0 dL_isBlocked_30 rfl 31 rfl ?_
      exact w_wret X hQ (o_inj1 hF) (o_inj2 hF) dL_isBlocked_31

def K_L_isAdmissible (fu : Nat) (x1 : Int32) (x2 : Int32) (x3 : Int32) (mem : Mem) : Option (Int32 × Mem) := bdc (K_X11_isAdmissible fu x1 x2 x3 mem) (fun x m1 => (if x = 0 then some (0, (ml (mset 0 255 mem m1) 255 (Int32.toNatClampNeg 0) 0)) else some (0, (ml (mset 0 255 mem m1) 255 (Int32.toNatClampNeg 0) 1)))) (fun k m1 => if k = 3 then some (1, (mset 0 255 mem m1)) else none)
def rm_L_isAdmissible : Room := { frames := 8, cells := 3, slots := 18, locals := 129 }
set_option maxHeartbeats 4000000 in
set_option maxRecDepth 100000 in
theorem ct_L_isAdmissible (l : Launch) (hl : l.stackTraces = false) {D : va_G} {ca ad : Nat → Nat} {Z : (Nat → Prop) → State → Heap → Prop} (hZ : ZOK Z) (hX : ZX Z) {tO : Nat} {sK sV : Nat → Nat} (hO : ZO Z tO sK sV) (fu : Nat) (x1 : Int32) (x2 : Int32) (x3 : Int32) (mem : Mem) (res : (Int32 × Mem)) (hF : K_L_isAdmissible fu x1 x2 x3 mem = some res) : CW l D (tyL ca) 256 ad (cL ca ad) Z yL_isAdmissible cL_isAdmissible 6 [(0, 19, 22, 35)] rm_L_isAdmissible [.ref (ad 0), .int x1, .int x2, .int x3, .ref (ad 255)] mem res.1 res.2 := by
  obtain ⟨res1, res2⟩ := res
  refine start_w (own := RL) rfl (by decide) (Nat.le_of_ble_eq_true rfl) ?_
  intro p e s m args below meth c Q hQ htb X
  rw [K_L_isAdmissible] at hF
  refine w_aload X 4 dL_isAdmissible_0 rfl 2 rfl ?_
  refine w_iconst X 0 dL_isAdmissible_2 rfl 3 rfl ?_
  refine w_aload_n X 0 dL_isAdmissible_3 rfl rfl 4 rfl ?_
  refine w_iload_n X 1 dL_isAdmissible_4 rfl rfl 5 rfl ?_
  refine w_iload_n X 2 dL_isAdmissible_5 rfl rfl 6 rfl ?_
  refine w_iload_n X 3 dL_isAdmissible_6 rfl rfl 7 rfl ?_
  refine w_xc X hZ hX htb hF [.int x1, .int x2, .int x3] rfl rfl kB_X11_isAdmissible kL_L_47 (fun res h => ct_X11_isAdmissible l hl hZ hX hO fu x1 x2 x3 mem res h) rfl rfl rfl ⟨Nat.le_of_ble_eq_true rfl, Nat.le_of_ble_eq_true rfl⟩ (Nat.le_of_ble_eq_true rfl) ⟨Nat.le_of_ble_eq_true rfl, Nat.le_of_ble_eq_true rfl⟩ dL_isAdmissible_7 10 rfl (fun k m1 h1 h3 hF => ?_) (fun x m1 hF => ?_)
  · by_cases hk0 : k = 3
    · subst hk0
      rw [if_pos rfl] at hF
      refine ⟨[], ⟨0, 19, 22, 35⟩, [], rfl, (fun z hz => absurd hz List.not_mem_nil), by decide, by decide, kC_L_35, fun q => ?_⟩
      refine w_astore X [(5, .ref q), (0, .ref (ad 0)), (1, .int x1), (2, .int x2), (3, .int x3), (4, .ref (ad 255))] dL_isAdmissible_22 (by decide) rfl 24 rfl ?_
      refine w_iconst X 1 dL_isAdmissible_24 rfl 25 rfl ?_
      exact w_wret X hQ (o_inj1 hF) (o_inj2 hF) dL_isAdmissible_25
    · rw [if_neg hk0] at hF
      cases hF
  · refine w_if_eq X hF 17 13 dL_isAdmissible_10 (by decide) rfl (fun hF => ?_) (fun hF => ?_)
    · refine w_lconst X 0 dL_isAdmissible_17 rfl 18 rfl ?_
      refine w_las X 255 plt_255 ko_255 (t0 := 5) rfl vin01 dL_isAdmissible_18 19 rfl ?_
      refine w_goto X 26 dL_isAdmissible_19 (by decide) ?_
      refine w_iconst X 0 dL_isAdmissible_26 rfl 27 rfl ?_
      exact w_wret X hQ (o_inj1 hF) (o_inj2 hF) dL_isAdmissible_27
    · refine w_lconst X 1 dL_isAdmissible_13 rfl 14 rfl ?_
      refine w_goto X 18 dL_isAdmissible_14 (by decide) ?_
      refine w_las X 255 plt_255 ko_255 (t0 := 5) rfl vin01 dL_isAdmissible_18 19 rfl ?_
      refine w_goto X 26 dL_isAdmissible_19 (by decide) ?_
      refine w_iconst X 0 dL_isAdmissible_26 rfl 27 rfl ?_
      exact w_wret X hQ (o_inj1 hF) (o_inj2 hF) dL_isAdmissible_27

def K_L_canStep (fu : Nat) (x1 : Int32) (x2 : Int32) (mem : Mem) : Option (Int32 × Mem) := bdc (K_X11_canStep fu x1 x2 mem) (fun x m1 => (if x = 0 then some (0, (ml (mset 0 255 mem m1) 255 (Int32.toNatClampNeg 0) 0)) else some (0, (ml (mset 0 255 mem m1) 255 (Int32.toNatClampNeg 0) 1)))) (fun k m1 => if k = 3 then some (1, (mset 0 255 mem m1)) else if k = 1 then some (2, (mset 0 255 mem m1)) else none)
def rm_L_canStep : Room := { frames := 8, cells := 3, slots := 18, locals := 125 }
set_option maxHeartbeats 4000000 in
set_option maxRecDepth 100000 in
theorem ct_L_canStep (l : Launch) (hl : l.stackTraces = false) {D : va_G} {ca ad : Nat → Nat} {Z : (Nat → Prop) → State → Heap → Prop} (hZ : ZOK Z) (hX : ZX Z) {tO : Nat} {sK sV : Nat → Nat} (hO : ZO Z tO sK sV) (fu : Nat) (x1 : Int32) (x2 : Int32) (mem : Mem) (res : (Int32 × Mem)) (hF : K_L_canStep fu x1 x2 mem = some res) : CW l D (tyL ca) 256 ad (cL ca ad) Z yL_canStep cL_canStep 5 [(0, 17, 20, 35), (0, 17, 24, 19)] rm_L_canStep [.ref (ad 0), .int x1, .int x2, .ref (ad 255)] mem res.1 res.2 := by
  obtain ⟨res1, res2⟩ := res
  refine start_w (own := RL) rfl (by decide) (Nat.le_of_ble_eq_true rfl) ?_
  intro p e s m args below meth c Q hQ htb X
  rw [K_L_canStep] at hF
  refine w_aload_n X 3 dL_canStep_0 rfl rfl 1 rfl ?_
  refine w_iconst X 0 dL_canStep_1 rfl 2 rfl ?_
  refine w_aload_n X 0 dL_canStep_2 rfl rfl 3 rfl ?_
  refine w_iload_n X 1 dL_canStep_3 rfl rfl 4 rfl ?_
  refine w_iload_n X 2 dL_canStep_4 rfl rfl 5 rfl ?_
  refine w_xc X hZ hX htb hF [.int x1, .int x2] rfl rfl kB_X11_canStep kL_L_51 (fun res h => ct_X11_canStep l hl hZ hX hO fu x1 x2 mem res h) rfl rfl rfl ⟨Nat.le_of_ble_eq_true rfl, Nat.le_of_ble_eq_true rfl⟩ (Nat.le_of_ble_eq_true rfl) ⟨Nat.le_of_ble_eq_true rfl, Nat.le_of_ble_eq_true rfl⟩ dL_canStep_5 8 rfl (fun k m1 h1 h3 hF => ?_) (fun x m1 hF => ?_)
  · by_cases hk0 : k = 3
    · subst hk0
      rw [if_pos rfl] at hF
      refine ⟨[], ⟨0, 17, 20, 35⟩, [⟨0, 17, 24, 19⟩], rfl, (fun z hz => absurd hz List.not_mem_nil), by decide, by decide, kC_L_35, fun q => ?_⟩
      refine w_astore X [(4, .ref q), (0, .ref (ad 0)), (1, .int x1), (2, .int x2), (3, .ref (ad 255))] dL_canStep_20 (by decide) rfl 22 rfl ?_
      refine w_iconst X 1 dL_canStep_22 rfl 23 rfl ?_
      exact w_wret X hQ (o_inj1 hF) (o_inj2 hF) dL_canStep_23
    · rw [if_neg hk0] at hF
      by_cases hk1 : k = 1
      · subst hk1
        rw [if_pos rfl] at hF
        refine ⟨[⟨0, 17, 20, 35⟩], ⟨0, 17, 24, 19⟩, [], rfl, (fun z hz => by rw [List.mem_singleton.mp hz]; exact ⟨by decide, 3, by decide, by decide, by decide, kC_L_35⟩), by decide, by decide, kC_L_19, fun q => ?_⟩
        refine w_astore X [(4, .ref q), (0, .ref (ad 0)), (1, .int x1), (2, .int x2), (3, .ref (ad 255))] dL_canStep_24 (by decide) rfl 26 rfl ?_
        refine w_iconst X 2 dL_canStep_26 rfl 27 rfl ?_
        exact w_wret X hQ (o_inj1 hF) (o_inj2 hF) dL_canStep_27
      · rw [if_neg hk1] at hF
        cases hF
  · refine w_if_eq X hF 15 11 dL_canStep_8 (by decide) rfl (fun hF => ?_) (fun hF => ?_)
    · refine w_lconst X 0 dL_canStep_15 rfl 16 rfl ?_
      refine w_las X 255 plt_255 ko_255 (t0 := 5) rfl vin01 dL_canStep_16 17 rfl ?_
      refine w_goto X 28 dL_canStep_17 (by decide) ?_
      refine w_iconst X 0 dL_canStep_28 rfl 29 rfl ?_
      exact w_wret X hQ (o_inj1 hF) (o_inj2 hF) dL_canStep_29
    · refine w_lconst X 1 dL_canStep_11 rfl 12 rfl ?_
      refine w_goto X 16 dL_canStep_12 (by decide) ?_
      refine w_las X 255 plt_255 ko_255 (t0 := 5) rfl vin01 dL_canStep_16 17 rfl ?_
      refine w_goto X 28 dL_canStep_17 (by decide) ?_
      refine w_iconst X 0 dL_canStep_28 rfl 29 rfl ?_
      exact w_wret X hQ (o_inj1 hF) (o_inj2 hF) dL_canStep_29

def K_L_isBanned (fu : Nat) (x1 : Int32) (x2 : Int32) (mem : Mem) : Option (Int32 × Mem) := bdc (K_X11_isBanned fu x1 x2 mem) (fun x m1 => (if x = 0 then some (0, (ml (mset 0 255 mem m1) 255 (Int32.toNatClampNeg 0) 0)) else some (0, (ml (mset 0 255 mem m1) 255 (Int32.toNatClampNeg 0) 1)))) (fun k m1 => if k = 3 then some (1, (mset 0 255 mem m1)) else if k = 1 then some (2, (mset 0 255 mem m1)) else none)
def rm_L_isBanned : Room := { frames := 8, cells := 3, slots := 18, locals := 125 }
set_option maxHeartbeats 4000000 in
set_option maxRecDepth 100000 in
theorem ct_L_isBanned (l : Launch) (hl : l.stackTraces = false) {D : va_G} {ca ad : Nat → Nat} {Z : (Nat → Prop) → State → Heap → Prop} (hZ : ZOK Z) (hX : ZX Z) {tO : Nat} {sK sV : Nat → Nat} (hO : ZO Z tO sK sV) (fu : Nat) (x1 : Int32) (x2 : Int32) (mem : Mem) (res : (Int32 × Mem)) (hF : K_L_isBanned fu x1 x2 mem = some res) : CW l D (tyL ca) 256 ad (cL ca ad) Z yL_isBanned cL_isBanned 5 [(0, 17, 20, 35), (0, 17, 24, 19)] rm_L_isBanned [.ref (ad 0), .int x1, .int x2, .ref (ad 255)] mem res.1 res.2 := by
  obtain ⟨res1, res2⟩ := res
  refine start_w (own := RL) rfl (by decide) (Nat.le_of_ble_eq_true rfl) ?_
  intro p e s m args below meth c Q hQ htb X
  rw [K_L_isBanned] at hF
  refine w_aload_n X 3 dL_isBanned_0 rfl rfl 1 rfl ?_
  refine w_iconst X 0 dL_isBanned_1 rfl 2 rfl ?_
  refine w_aload_n X 0 dL_isBanned_2 rfl rfl 3 rfl ?_
  refine w_iload_n X 1 dL_isBanned_3 rfl rfl 4 rfl ?_
  refine w_iload_n X 2 dL_isBanned_4 rfl rfl 5 rfl ?_
  refine w_xc X hZ hX htb hF [.int x1, .int x2] rfl rfl kB_X11_isBanned kL_L_55 (fun res h => ct_X11_isBanned l hl hZ hX hO fu x1 x2 mem res h) rfl rfl rfl ⟨Nat.le_of_ble_eq_true rfl, Nat.le_of_ble_eq_true rfl⟩ (Nat.le_of_ble_eq_true rfl) ⟨Nat.le_of_ble_eq_true rfl, Nat.le_of_ble_eq_true rfl⟩ dL_isBanned_5 8 rfl (fun k m1 h1 h3 hF => ?_) (fun x m1 hF => ?_)
  · by_cases hk0 : k = 3
    · subst hk0
      rw [if_pos rfl] at hF
      refine ⟨[], ⟨0, 17, 20, 35⟩, [⟨0, 17, 24, 19⟩], rfl, (fun z hz => absurd hz List.not_mem_nil), by decide, by decide, kC_L_35, fun q => ?_⟩
      refine w_astore X [(4, .ref q), (0, .ref (ad 0)), (1, .int x1), (2, .int x2), (3, .ref (ad 255))] dL_isBanned_20 (by decide) rfl 22 rfl ?_
      refine w_iconst X 1 dL_isBanned_22 rfl 23 rfl ?_
      exact w_wret X hQ (o_inj1 hF) (o_inj2 hF) dL_isBanned_23
    · rw [if_neg hk0] at hF
      by_cases hk1 : k = 1
      · subst hk1
        rw [if_pos rfl] at hF
        refine ⟨[⟨0, 17, 20, 35⟩], ⟨0, 17, 24, 19⟩, [], rfl, (fun z hz => by rw [List.mem_singleton.mp hz]; exact ⟨by decide, 3, by decide, by decide, by decide, kC_L_35⟩), by decide, by decide, kC_L_19, fun q => ?_⟩
        refine w_astore X [(4, .ref q), (0, .ref (ad 0)), (1, .int x1), (2, .int x2), (3, .ref (ad 255))] dL_isBanned_24 (by decide) rfl 26 rfl ?_
        refine w_iconst X 2 dL_isBanned_26 rfl 27 rfl ?_
        exact w_wret X hQ (o_inj1 hF) (o_inj2 hF) dL_isBanned_27
      · rw [if_neg hk1] at hF
        cases hF
  · refine w_if_eq X hF 15 11 dL_isBanned_8 (by decide) rfl (fun hF => ?_) (fun hF => ?_)
    · refine w_lconst X 0 dL_isBanned_15 rfl 16 rfl ?_
      refine w_las X 255 plt_255 ko_255 (t0 := 5) rfl vin01 dL_isBanned_16 17 rfl ?_
      refine w_goto X 28 dL_isBanned_17 (by decide) ?_
      refine w_iconst X 0 dL_isBanned_28 rfl 29 rfl ?_
      exact w_wret X hQ (o_inj1 hF) (o_inj2 hF) dL_isBanned_29
    · refine w_lconst X 1 dL_isBanned_11 rfl 12 rfl ?_
      refine w_goto X 16 dL_isBanned_12 (by decide) ?_
      refine w_las X 255 plt_255 ko_255 (t0 := 5) rfl vin01 dL_isBanned_16 17 rfl ?_
      refine w_goto X 28 dL_isBanned_17 (by decide) ?_
      refine w_iconst X 0 dL_isBanned_28 rfl 29 rfl ?_
      exact w_wret X hQ (o_inj1 hF) (o_inj2 hF) dL_isBanned_29

def K_L_steps (fu : Nat) (x1 : Int32) (mem : Mem) : Option (Int32 × Mem) := bdc (K_X11_steps fu x1 mem) (fun x m1 => some (0, (ml (mset 0 255 mem m1) 255 (Int32.toNatClampNeg 0) (Int32.toInt64 x)))) (fun k m1 => if k = 3 then some (1, (mset 0 255 mem m1)) else none)
def rm_L_steps : Room := { frames := 8, cells := 3, slots := 18, locals := 124 }
set_option maxHeartbeats 4000000 in
set_option maxRecDepth 100000 in
theorem ct_L_steps (l : Launch) (hl : l.stackTraces = false) {D : va_G} {ca ad : Nat → Nat} {Z : (Nat → Prop) → State → Heap → Prop} (hZ : ZOK Z) (hX : ZX Z) {tO : Nat} {sK sV : Nat → Nat} (hO : ZO Z tO sK sV) (fu : Nat) (x1 : Int32) (mem : Mem) (res : (Int32 × Mem)) (hF : K_L_steps fu x1 mem = some res) : CW l D (tyL ca) 256 ad (cL ca ad) Z yL_steps cL_steps 4 [(0, 9, 12, 35)] rm_L_steps [.ref (ad 0), .int x1, .ref (ad 255)] mem res.1 res.2 := by
  obtain ⟨res1, res2⟩ := res
  refine start_w (own := RL) rfl (by decide) (Nat.le_of_ble_eq_true rfl) ?_
  intro p e s m args below meth c Q hQ htb X
  rw [K_L_steps] at hF
  refine w_aload_n X 2 dL_steps_0 rfl rfl 1 rfl ?_
  refine w_iconst X 0 dL_steps_1 rfl 2 rfl ?_
  refine w_aload_n X 0 dL_steps_2 rfl rfl 3 rfl ?_
  refine w_iload_n X 1 dL_steps_3 rfl rfl 4 rfl ?_
  refine w_xc X hZ hX htb hF [.int x1] rfl rfl kB_X11_steps kL_L_58 (fun res h => ct_X11_steps l hl hZ hX hO fu x1 mem res h) rfl rfl rfl ⟨Nat.le_of_ble_eq_true rfl, Nat.le_of_ble_eq_true rfl⟩ (Nat.le_of_ble_eq_true rfl) ⟨Nat.le_of_ble_eq_true rfl, Nat.le_of_ble_eq_true rfl⟩ dL_steps_4 7 rfl (fun k m1 h1 h3 hF => ?_) (fun x m1 hF => ?_)
  · by_cases hk0 : k = 3
    · subst hk0
      rw [if_pos rfl] at hF
      refine ⟨[], ⟨0, 9, 12, 35⟩, [], rfl, (fun z hz => absurd hz List.not_mem_nil), by decide, by decide, kC_L_35, fun q => ?_⟩
      refine w_astore_n X [(3, .ref q), (0, .ref (ad 0)), (1, .int x1), (2, .ref (ad 255))] dL_steps_12 rfl (by decide) rfl 13 rfl ?_
      refine w_iconst X 1 dL_steps_13 rfl 14 rfl ?_
      exact w_wret X hQ (o_inj1 hF) (o_inj2 hF) dL_steps_14
    · rw [if_neg hk0] at hF
      cases hF
  · refine w_i2l X dL_steps_7 8 rfl ?_
    refine w_las X 255 plt_255 ko_255 (t0 := 5) rfl vin01 dL_steps_8 9 rfl ?_
    refine w_goto X 15 dL_steps_9 (by decide) ?_
    refine w_iconst X 0 dL_steps_15 rfl 16 rfl ?_
    exact w_wret X hQ (o_inj1 hF) (o_inj2 hF) dL_steps_16

def K_L_distance (fu : Nat) (x1 : Int32) (mem : Mem) : Option (Int32 × Mem) := bdc (K_X11_distance fu x1 mem) (fun x m1 => some (0, (ml (mset 0 255 mem m1) 255 (Int32.toNatClampNeg 0) (Int32.toInt64 x)))) (fun k m1 => if k = 3 then some (1, (mset 0 255 mem m1)) else none)
def rm_L_distance : Room := { frames := 8, cells := 3, slots := 18, locals := 124 }
set_option maxHeartbeats 4000000 in
set_option maxRecDepth 100000 in
theorem ct_L_distance (l : Launch) (hl : l.stackTraces = false) {D : va_G} {ca ad : Nat → Nat} {Z : (Nat → Prop) → State → Heap → Prop} (hZ : ZOK Z) (hX : ZX Z) {tO : Nat} {sK sV : Nat → Nat} (hO : ZO Z tO sK sV) (fu : Nat) (x1 : Int32) (mem : Mem) (res : (Int32 × Mem)) (hF : K_L_distance fu x1 mem = some res) : CW l D (tyL ca) 256 ad (cL ca ad) Z yL_distance cL_distance 4 [(0, 9, 12, 35)] rm_L_distance [.ref (ad 0), .int x1, .ref (ad 255)] mem res.1 res.2 := by
  obtain ⟨res1, res2⟩ := res
  refine start_w (own := RL) rfl (by decide) (Nat.le_of_ble_eq_true rfl) ?_
  intro p e s m args below meth c Q hQ htb X
  rw [K_L_distance] at hF
  refine w_aload_n X 2 dL_distance_0 rfl rfl 1 rfl ?_
  refine w_iconst X 0 dL_distance_1 rfl 2 rfl ?_
  refine w_aload_n X 0 dL_distance_2 rfl rfl 3 rfl ?_
  refine w_iload_n X 1 dL_distance_3 rfl rfl 4 rfl ?_
  refine w_xc X hZ hX htb hF [.int x1] rfl rfl kB_X11_distance kL_L_61 (fun res h => ct_X11_distance l hl hZ hX hO fu x1 mem res h) rfl rfl rfl ⟨Nat.le_of_ble_eq_true rfl, Nat.le_of_ble_eq_true rfl⟩ (Nat.le_of_ble_eq_true rfl) ⟨Nat.le_of_ble_eq_true rfl, Nat.le_of_ble_eq_true rfl⟩ dL_distance_4 7 rfl (fun k m1 h1 h3 hF => ?_) (fun x m1 hF => ?_)
  · by_cases hk0 : k = 3
    · subst hk0
      rw [if_pos rfl] at hF
      refine ⟨[], ⟨0, 9, 12, 35⟩, [], rfl, (fun z hz => absurd hz List.not_mem_nil), by decide, by decide, kC_L_35, fun q => ?_⟩
      refine w_astore_n X [(3, .ref q), (0, .ref (ad 0)), (1, .int x1), (2, .ref (ad 255))] dL_distance_12 rfl (by decide) rfl 13 rfl ?_
      refine w_iconst X 1 dL_distance_13 rfl 14 rfl ?_
      exact w_wret X hQ (o_inj1 hF) (o_inj2 hF) dL_distance_14
    · rw [if_neg hk0] at hF
      cases hF
  · refine w_i2l X dL_distance_7 8 rfl ?_
    refine w_las X 255 plt_255 ko_255 (t0 := 5) rfl vin01 dL_distance_8 9 rfl ?_
    refine w_goto X 15 dL_distance_9 (by decide) ?_
    refine w_iconst X 0 dL_distance_15 rfl 16 rfl ?_
    exact w_wret X hQ (o_inj1 hF) (o_inj2 hF) dL_distance_16

def K_L_distanceFrom (fu : Nat) (x1 : Int32) (x2 : Int32) (x3 : Int32) (mem : Mem) : Option (Int32 × Mem) := bdc (K_X11_distanceFrom fu x1 x2 x3 mem) (fun x m1 => some (0, (ml (mset 0 255 mem m1) 255 (Int32.toNatClampNeg 0) (Int32.toInt64 x)))) (fun k m1 => if k = 3 then some (1, (mset 0 255 mem m1)) else none)
def rm_L_distanceFrom : Room := { frames := 8, cells := 3, slots := 18, locals := 128 }
set_option maxHeartbeats 4000000 in
set_option maxRecDepth 100000 in
theorem ct_L_distanceFrom (l : Launch) (hl : l.stackTraces = false) {D : va_G} {ca ad : Nat → Nat} {Z : (Nat → Prop) → State → Heap → Prop} (hZ : ZOK Z) (hX : ZX Z) {tO : Nat} {sK sV : Nat → Nat} (hO : ZO Z tO sK sV) (fu : Nat) (x1 : Int32) (x2 : Int32) (x3 : Int32) (mem : Mem) (res : (Int32 × Mem)) (hF : K_L_distanceFrom fu x1 x2 x3 mem = some res) : CW l D (tyL ca) 256 ad (cL ca ad) Z yL_distanceFrom cL_distanceFrom 6 [(0, 12, 15, 35)] rm_L_distanceFrom [.ref (ad 0), .int x1, .int x2, .int x3, .ref (ad 255)] mem res.1 res.2 := by
  obtain ⟨res1, res2⟩ := res
  refine start_w (own := RL) rfl (by decide) (Nat.le_of_ble_eq_true rfl) ?_
  intro p e s m args below meth c Q hQ htb X
  rw [K_L_distanceFrom] at hF
  refine w_aload X 4 dL_distanceFrom_0 rfl 2 rfl ?_
  refine w_iconst X 0 dL_distanceFrom_2 rfl 3 rfl ?_
  refine w_aload_n X 0 dL_distanceFrom_3 rfl rfl 4 rfl ?_
  refine w_iload_n X 1 dL_distanceFrom_4 rfl rfl 5 rfl ?_
  refine w_iload_n X 2 dL_distanceFrom_5 rfl rfl 6 rfl ?_
  refine w_iload_n X 3 dL_distanceFrom_6 rfl rfl 7 rfl ?_
  refine w_xc X hZ hX htb hF [.int x1, .int x2, .int x3] rfl rfl kB_X11_distanceFrom kL_L_64 (fun res h => ct_X11_distanceFrom l hl hZ hX hO fu x1 x2 x3 mem res h) rfl rfl rfl ⟨Nat.le_of_ble_eq_true rfl, Nat.le_of_ble_eq_true rfl⟩ (Nat.le_of_ble_eq_true rfl) ⟨Nat.le_of_ble_eq_true rfl, Nat.le_of_ble_eq_true rfl⟩ dL_distanceFrom_7 10 rfl (fun k m1 h1 h3 hF => ?_) (fun x m1 hF => ?_)
  · by_cases hk0 : k = 3
    · subst hk0
      rw [if_pos rfl] at hF
      refine ⟨[], ⟨0, 12, 15, 35⟩, [], rfl, (fun z hz => absurd hz List.not_mem_nil), by decide, by decide, kC_L_35, fun q => ?_⟩
      refine w_astore X [(5, .ref q), (0, .ref (ad 0)), (1, .int x1), (2, .int x2), (3, .int x3), (4, .ref (ad 255))] dL_distanceFrom_15 (by decide) rfl 17 rfl ?_
      refine w_iconst X 1 dL_distanceFrom_17 rfl 18 rfl ?_
      exact w_wret X hQ (o_inj1 hF) (o_inj2 hF) dL_distanceFrom_18
    · rw [if_neg hk0] at hF
      cases hF
  · refine w_i2l X dL_distanceFrom_10 11 rfl ?_
    refine w_las X 255 plt_255 ko_255 (t0 := 5) rfl vin01 dL_distanceFrom_11 12 rfl ?_
    refine w_goto X 19 dL_distanceFrom_12 (by decide) ?_
    refine w_iconst X 0 dL_distanceFrom_19 rfl 20 rfl ?_
    exact w_wret X hQ (o_inj1 hF) (o_inj2 hF) dL_distanceFrom_20

def K_L_ways (fu : Nat) (x1 : Int32) (mem : Mem) : Option (Int32 × Mem) := bdc (K_X11_ways fu x1 mem) (fun x m1 => some (0, (ml (mset 0 255 mem m1) 255 (Int32.toNatClampNeg 0) (Int32.toInt64 x)))) (fun k m1 => if k = 3 then some (1, (mset 0 255 mem m1)) else none)
def rm_L_ways : Room := { frames := 8, cells := 3, slots := 18, locals := 124 }
set_option maxHeartbeats 4000000 in
set_option maxRecDepth 100000 in
theorem ct_L_ways (l : Launch) (hl : l.stackTraces = false) {D : va_G} {ca ad : Nat → Nat} {Z : (Nat → Prop) → State → Heap → Prop} (hZ : ZOK Z) (hX : ZX Z) {tO : Nat} {sK sV : Nat → Nat} (hO : ZO Z tO sK sV) (fu : Nat) (x1 : Int32) (mem : Mem) (res : (Int32 × Mem)) (hF : K_L_ways fu x1 mem = some res) : CW l D (tyL ca) 256 ad (cL ca ad) Z yL_ways cL_ways 4 [(0, 9, 12, 35)] rm_L_ways [.ref (ad 0), .int x1, .ref (ad 255)] mem res.1 res.2 := by
  obtain ⟨res1, res2⟩ := res
  refine start_w (own := RL) rfl (by decide) (Nat.le_of_ble_eq_true rfl) ?_
  intro p e s m args below meth c Q hQ htb X
  rw [K_L_ways] at hF
  refine w_aload_n X 2 dL_ways_0 rfl rfl 1 rfl ?_
  refine w_iconst X 0 dL_ways_1 rfl 2 rfl ?_
  refine w_aload_n X 0 dL_ways_2 rfl rfl 3 rfl ?_
  refine w_iload_n X 1 dL_ways_3 rfl rfl 4 rfl ?_
  refine w_xc X hZ hX htb hF [.int x1] rfl rfl kB_X11_ways kL_L_68 (fun res h => ct_X11_ways l hl hZ hX hO fu x1 mem res h) rfl rfl rfl ⟨Nat.le_of_ble_eq_true rfl, Nat.le_of_ble_eq_true rfl⟩ (Nat.le_of_ble_eq_true rfl) ⟨Nat.le_of_ble_eq_true rfl, Nat.le_of_ble_eq_true rfl⟩ dL_ways_4 7 rfl (fun k m1 h1 h3 hF => ?_) (fun x m1 hF => ?_)
  · by_cases hk0 : k = 3
    · subst hk0
      rw [if_pos rfl] at hF
      refine ⟨[], ⟨0, 9, 12, 35⟩, [], rfl, (fun z hz => absurd hz List.not_mem_nil), by decide, by decide, kC_L_35, fun q => ?_⟩
      refine w_astore_n X [(3, .ref q), (0, .ref (ad 0)), (1, .int x1), (2, .ref (ad 255))] dL_ways_12 rfl (by decide) rfl 13 rfl ?_
      refine w_iconst X 1 dL_ways_13 rfl 14 rfl ?_
      exact w_wret X hQ (o_inj1 hF) (o_inj2 hF) dL_ways_14
    · rw [if_neg hk0] at hF
      cases hF
  · refine w_i2l X dL_ways_7 8 rfl ?_
    refine w_las X 255 plt_255 ko_255 (t0 := 5) rfl vin01 dL_ways_8 9 rfl ?_
    refine w_goto X 15 dL_ways_9 (by decide) ?_
    refine w_iconst X 0 dL_ways_15 rfl 16 rfl ?_
    exact w_wret X hQ (o_inj1 hF) (o_inj2 hF) dL_ways_16

def K_L_onWays (fu : Nat) (x1 : Int32) (mem : Mem) : Option (Int32 × Mem) := bdc (K_X11_onWays fu x1 mem) (fun x m1 => some (0, (ml (mset 0 255 mem m1) 255 (Int32.toNatClampNeg 0) (Int32.toInt64 x)))) (fun k m1 => if k = 3 then some (1, (mset 0 255 mem m1)) else none)
def rm_L_onWays : Room := { frames := 8, cells := 3, slots := 18, locals := 124 }
set_option maxHeartbeats 4000000 in
set_option maxRecDepth 100000 in
theorem ct_L_onWays (l : Launch) (hl : l.stackTraces = false) {D : va_G} {ca ad : Nat → Nat} {Z : (Nat → Prop) → State → Heap → Prop} (hZ : ZOK Z) (hX : ZX Z) {tO : Nat} {sK sV : Nat → Nat} (hO : ZO Z tO sK sV) (fu : Nat) (x1 : Int32) (mem : Mem) (res : (Int32 × Mem)) (hF : K_L_onWays fu x1 mem = some res) : CW l D (tyL ca) 256 ad (cL ca ad) Z yL_onWays cL_onWays 4 [(0, 9, 12, 35)] rm_L_onWays [.ref (ad 0), .int x1, .ref (ad 255)] mem res.1 res.2 := by
  obtain ⟨res1, res2⟩ := res
  refine start_w (own := RL) rfl (by decide) (Nat.le_of_ble_eq_true rfl) ?_
  intro p e s m args below meth c Q hQ htb X
  rw [K_L_onWays] at hF
  refine w_aload_n X 2 dL_onWays_0 rfl rfl 1 rfl ?_
  refine w_iconst X 0 dL_onWays_1 rfl 2 rfl ?_
  refine w_aload_n X 0 dL_onWays_2 rfl rfl 3 rfl ?_
  refine w_iload_n X 1 dL_onWays_3 rfl rfl 4 rfl ?_
  refine w_xc X hZ hX htb hF [.int x1] rfl rfl kB_X11_onWays kL_L_71 (fun res h => ct_X11_onWays l hl hZ hX hO fu x1 mem res h) rfl rfl rfl ⟨Nat.le_of_ble_eq_true rfl, Nat.le_of_ble_eq_true rfl⟩ (Nat.le_of_ble_eq_true rfl) ⟨Nat.le_of_ble_eq_true rfl, Nat.le_of_ble_eq_true rfl⟩ dL_onWays_4 7 rfl (fun k m1 h1 h3 hF => ?_) (fun x m1 hF => ?_)
  · by_cases hk0 : k = 3
    · subst hk0
      rw [if_pos rfl] at hF
      refine ⟨[], ⟨0, 9, 12, 35⟩, [], rfl, (fun z hz => absurd hz List.not_mem_nil), by decide, by decide, kC_L_35, fun q => ?_⟩
      refine w_astore_n X [(3, .ref q), (0, .ref (ad 0)), (1, .int x1), (2, .ref (ad 255))] dL_onWays_12 rfl (by decide) rfl 13 rfl ?_
      refine w_iconst X 1 dL_onWays_13 rfl 14 rfl ?_
      exact w_wret X hQ (o_inj1 hF) (o_inj2 hF) dL_onWays_14
    · rw [if_neg hk0] at hF
      cases hF
  · refine w_i2l X dL_onWays_7 8 rfl ?_
    refine w_las X 255 plt_255 ko_255 (t0 := 5) rfl vin01 dL_onWays_8 9 rfl ?_
    refine w_goto X 15 dL_onWays_9 (by decide) ?_
    refine w_iconst X 0 dL_onWays_15 rfl 16 rfl ?_
    exact w_wret X hQ (o_inj1 hF) (o_inj2 hF) dL_onWays_16

def K_L_gates (fu : Nat) (x1 : Int32) (mem : Mem) : Option (Int32 × Mem) := bdc (K_X11_gates fu x1 mem) (fun x m1 => some (0, (ml (mset 0 255 mem m1) 255 (Int32.toNatClampNeg 0) (Int32.toInt64 x)))) (fun k m1 => if k = 3 then some (1, (mset 0 255 mem m1)) else none)
def rm_L_gates : Room := { frames := 8, cells := 3, slots := 18, locals := 124 }
set_option maxHeartbeats 4000000 in
set_option maxRecDepth 100000 in
theorem ct_L_gates (l : Launch) (hl : l.stackTraces = false) {D : va_G} {ca ad : Nat → Nat} {Z : (Nat → Prop) → State → Heap → Prop} (hZ : ZOK Z) (hX : ZX Z) {tO : Nat} {sK sV : Nat → Nat} (hO : ZO Z tO sK sV) (fu : Nat) (x1 : Int32) (mem : Mem) (res : (Int32 × Mem)) (hF : K_L_gates fu x1 mem = some res) : CW l D (tyL ca) 256 ad (cL ca ad) Z yL_gates cL_gates 4 [(0, 9, 12, 35)] rm_L_gates [.ref (ad 0), .int x1, .ref (ad 255)] mem res.1 res.2 := by
  obtain ⟨res1, res2⟩ := res
  refine start_w (own := RL) rfl (by decide) (Nat.le_of_ble_eq_true rfl) ?_
  intro p e s m args below meth c Q hQ htb X
  rw [K_L_gates] at hF
  refine w_aload_n X 2 dL_gates_0 rfl rfl 1 rfl ?_
  refine w_iconst X 0 dL_gates_1 rfl 2 rfl ?_
  refine w_aload_n X 0 dL_gates_2 rfl rfl 3 rfl ?_
  refine w_iload_n X 1 dL_gates_3 rfl rfl 4 rfl ?_
  refine w_xc X hZ hX htb hF [.int x1] rfl rfl kB_X11_gates kL_L_74 (fun res h => ct_X11_gates l hl hZ hX hO fu x1 mem res h) rfl rfl rfl ⟨Nat.le_of_ble_eq_true rfl, Nat.le_of_ble_eq_true rfl⟩ (Nat.le_of_ble_eq_true rfl) ⟨Nat.le_of_ble_eq_true rfl, Nat.le_of_ble_eq_true rfl⟩ dL_gates_4 7 rfl (fun k m1 h1 h3 hF => ?_) (fun x m1 hF => ?_)
  · by_cases hk0 : k = 3
    · subst hk0
      rw [if_pos rfl] at hF
      refine ⟨[], ⟨0, 9, 12, 35⟩, [], rfl, (fun z hz => absurd hz List.not_mem_nil), by decide, by decide, kC_L_35, fun q => ?_⟩
      refine w_astore_n X [(3, .ref q), (0, .ref (ad 0)), (1, .int x1), (2, .ref (ad 255))] dL_gates_12 rfl (by decide) rfl 13 rfl ?_
      refine w_iconst X 1 dL_gates_13 rfl 14 rfl ?_
      exact w_wret X hQ (o_inj1 hF) (o_inj2 hF) dL_gates_14
    · rw [if_neg hk0] at hF
      cases hF
  · refine w_i2l X dL_gates_7 8 rfl ?_
    refine w_las X 255 plt_255 ko_255 (t0 := 5) rfl vin01 dL_gates_8 9 rfl ?_
    refine w_goto X 15 dL_gates_9 (by decide) ?_
    refine w_iconst X 0 dL_gates_15 rfl 16 rfl ?_
    exact w_wret X hQ (o_inj1 hF) (o_inj2 hF) dL_gates_16

def K_L_isGate (fu : Nat) (x1 : Int32) (x2 : Int32) (x3 : Int32) (mem : Mem) : Option (Int32 × Mem) := bdc (K_X11_isGate fu x1 x2 x3 mem) (fun x m1 => (if x = 0 then some (0, (ml (mset 0 255 mem m1) 255 (Int32.toNatClampNeg 0) 0)) else some (0, (ml (mset 0 255 mem m1) 255 (Int32.toNatClampNeg 0) 1)))) (fun k m1 => if k = 3 then some (1, (mset 0 255 mem m1)) else none)
def rm_L_isGate : Room := { frames := 8, cells := 3, slots := 18, locals := 127 }
set_option maxHeartbeats 4000000 in
set_option maxRecDepth 100000 in
theorem ct_L_isGate (l : Launch) (hl : l.stackTraces = false) {D : va_G} {ca ad : Nat → Nat} {Z : (Nat → Prop) → State → Heap → Prop} (hZ : ZOK Z) (hX : ZX Z) {tO : Nat} {sK sV : Nat → Nat} (hO : ZO Z tO sK sV) (fu : Nat) (x1 : Int32) (x2 : Int32) (x3 : Int32) (mem : Mem) (res : (Int32 × Mem)) (hF : K_L_isGate fu x1 x2 x3 mem = some res) : CW l D (tyL ca) 256 ad (cL ca ad) Z yL_isGate cL_isGate 6 [(0, 19, 22, 35)] rm_L_isGate [.ref (ad 0), .int x1, .int x2, .int x3, .ref (ad 255)] mem res.1 res.2 := by
  obtain ⟨res1, res2⟩ := res
  refine start_w (own := RL) rfl (by decide) (Nat.le_of_ble_eq_true rfl) ?_
  intro p e s m args below meth c Q hQ htb X
  rw [K_L_isGate] at hF
  refine w_aload X 4 dL_isGate_0 rfl 2 rfl ?_
  refine w_iconst X 0 dL_isGate_2 rfl 3 rfl ?_
  refine w_aload_n X 0 dL_isGate_3 rfl rfl 4 rfl ?_
  refine w_iload_n X 1 dL_isGate_4 rfl rfl 5 rfl ?_
  refine w_iload_n X 2 dL_isGate_5 rfl rfl 6 rfl ?_
  refine w_iload_n X 3 dL_isGate_6 rfl rfl 7 rfl ?_
  refine w_xc X hZ hX htb hF [.int x1, .int x2, .int x3] rfl rfl kB_X11_isGate kL_L_77 (fun res h => ct_X11_isGate l hl hZ hX hO fu x1 x2 x3 mem res h) rfl rfl rfl ⟨Nat.le_of_ble_eq_true rfl, Nat.le_of_ble_eq_true rfl⟩ (Nat.le_of_ble_eq_true rfl) ⟨Nat.le_of_ble_eq_true rfl, Nat.le_of_ble_eq_true rfl⟩ dL_isGate_7 10 rfl (fun k m1 h1 h3 hF => ?_) (fun x m1 hF => ?_)
  · by_cases hk0 : k = 3
    · subst hk0
      rw [if_pos rfl] at hF
      refine ⟨[], ⟨0, 19, 22, 35⟩, [], rfl, (fun z hz => absurd hz List.not_mem_nil), by decide, by decide, kC_L_35, fun q => ?_⟩
      refine w_astore X [(5, .ref q), (0, .ref (ad 0)), (1, .int x1), (2, .int x2), (3, .int x3), (4, .ref (ad 255))] dL_isGate_22 (by decide) rfl 24 rfl ?_
      refine w_iconst X 1 dL_isGate_24 rfl 25 rfl ?_
      exact w_wret X hQ (o_inj1 hF) (o_inj2 hF) dL_isGate_25
    · rw [if_neg hk0] at hF
      cases hF
  · refine w_if_eq X hF 17 13 dL_isGate_10 (by decide) rfl (fun hF => ?_) (fun hF => ?_)
    · refine w_lconst X 0 dL_isGate_17 rfl 18 rfl ?_
      refine w_las X 255 plt_255 ko_255 (t0 := 5) rfl vin01 dL_isGate_18 19 rfl ?_
      refine w_goto X 26 dL_isGate_19 (by decide) ?_
      refine w_iconst X 0 dL_isGate_26 rfl 27 rfl ?_
      exact w_wret X hQ (o_inj1 hF) (o_inj2 hF) dL_isGate_27
    · refine w_lconst X 1 dL_isGate_13 rfl 14 rfl ?_
      refine w_goto X 18 dL_isGate_14 (by decide) ?_
      refine w_las X 255 plt_255 ko_255 (t0 := 5) rfl vin01 dL_isGate_18 19 rfl ?_
      refine w_goto X 26 dL_isGate_19 (by decide) ?_
      refine w_iconst X 0 dL_isGate_26 rfl 27 rfl ?_
      exact w_wret X hQ (o_inj1 hF) (o_inj2 hF) dL_isGate_27

def K_L_stepsWithBans (fu : Nat) (x1 : Int32) (mem : Mem) : Option (Int32 × Mem) := bdc (K_X11_stepsWithBans fu x1 mem) (fun x m1 => some (0, (ml (mset 0 255 mem m1) 255 (Int32.toNatClampNeg 0) (Int32.toInt64 x)))) (fun k m1 => if k = 3 then some (1, (mset 0 255 mem m1)) else none)
def rm_L_stepsWithBans : Room := { frames := 8, cells := 3, slots := 18, locals := 124 }
set_option maxHeartbeats 4000000 in
set_option maxRecDepth 100000 in
theorem ct_L_stepsWithBans (l : Launch) (hl : l.stackTraces = false) {D : va_G} {ca ad : Nat → Nat} {Z : (Nat → Prop) → State → Heap → Prop} (hZ : ZOK Z) (hX : ZX Z) {tO : Nat} {sK sV : Nat → Nat} (hO : ZO Z tO sK sV) (fu : Nat) (x1 : Int32) (mem : Mem) (res : (Int32 × Mem)) (hF : K_L_stepsWithBans fu x1 mem = some res) : CW l D (tyL ca) 256 ad (cL ca ad) Z yL_stepsWithBans cL_stepsWithBans 4 [(0, 9, 12, 35)] rm_L_stepsWithBans [.ref (ad 0), .int x1, .ref (ad 255)] mem res.1 res.2 := by
  obtain ⟨res1, res2⟩ := res
  refine start_w (own := RL) rfl (by decide) (Nat.le_of_ble_eq_true rfl) ?_
  intro p e s m args below meth c Q hQ htb X
  rw [K_L_stepsWithBans] at hF
  refine w_aload_n X 2 dL_stepsWithBans_0 rfl rfl 1 rfl ?_
  refine w_iconst X 0 dL_stepsWithBans_1 rfl 2 rfl ?_
  refine w_aload_n X 0 dL_stepsWithBans_2 rfl rfl 3 rfl ?_
  refine w_iload_n X 1 dL_stepsWithBans_3 rfl rfl 4 rfl ?_
  refine w_xc X hZ hX htb hF [.int x1] rfl rfl kB_X11_stepsWithBans kL_L_80 (fun res h => ct_X11_stepsWithBans l hl hZ hX hO fu x1 mem res h) rfl rfl rfl ⟨Nat.le_of_ble_eq_true rfl, Nat.le_of_ble_eq_true rfl⟩ (Nat.le_of_ble_eq_true rfl) ⟨Nat.le_of_ble_eq_true rfl, Nat.le_of_ble_eq_true rfl⟩ dL_stepsWithBans_4 7 rfl (fun k m1 h1 h3 hF => ?_) (fun x m1 hF => ?_)
  · by_cases hk0 : k = 3
    · subst hk0
      rw [if_pos rfl] at hF
      refine ⟨[], ⟨0, 9, 12, 35⟩, [], rfl, (fun z hz => absurd hz List.not_mem_nil), by decide, by decide, kC_L_35, fun q => ?_⟩
      refine w_astore_n X [(3, .ref q), (0, .ref (ad 0)), (1, .int x1), (2, .ref (ad 255))] dL_stepsWithBans_12 rfl (by decide) rfl 13 rfl ?_
      refine w_iconst X 1 dL_stepsWithBans_13 rfl 14 rfl ?_
      exact w_wret X hQ (o_inj1 hF) (o_inj2 hF) dL_stepsWithBans_14
    · rw [if_neg hk0] at hF
      cases hF
  · refine w_i2l X dL_stepsWithBans_7 8 rfl ?_
    refine w_las X 255 plt_255 ko_255 (t0 := 5) rfl vin01 dL_stepsWithBans_8 9 rfl ?_
    refine w_goto X 15 dL_stepsWithBans_9 (by decide) ?_
    refine w_iconst X 0 dL_stepsWithBans_15 rfl 16 rfl ?_
    exact w_wret X hQ (o_inj1 hF) (o_inj2 hF) dL_stepsWithBans_16

def K_L_waysWithBans (fu : Nat) (x1 : Int32) (x2 : Int32) (mem : Mem) : Option (Int32 × Mem) := bdc (K_X11_waysWithBans fu x1 x2 mem) (fun x m1 => some (0, (ml (mset 0 255 mem m1) 255 (Int32.toNatClampNeg 0) (Int32.toInt64 x)))) (fun k m1 => if k = 3 then some (1, (mset 0 255 mem m1)) else if k = 1 then some (2, (mset 0 255 mem m1)) else none)
def rm_L_waysWithBans : Room := { frames := 8, cells := 3, slots := 18, locals := 125 }
set_option maxHeartbeats 4000000 in
set_option maxRecDepth 100000 in
theorem ct_L_waysWithBans (l : Launch) (hl : l.stackTraces = false) {D : va_G} {ca ad : Nat → Nat} {Z : (Nat → Prop) → State → Heap → Prop} (hZ : ZOK Z) (hX : ZX Z) {tO : Nat} {sK sV : Nat → Nat} (hO : ZO Z tO sK sV) (fu : Nat) (x1 : Int32) (x2 : Int32) (mem : Mem) (res : (Int32 × Mem)) (hF : K_L_waysWithBans fu x1 x2 mem = some res) : CW l D (tyL ca) 256 ad (cL ca ad) Z yL_waysWithBans cL_waysWithBans 5 [(0, 10, 13, 35), (0, 10, 17, 19)] rm_L_waysWithBans [.ref (ad 0), .int x1, .int x2, .ref (ad 255)] mem res.1 res.2 := by
  obtain ⟨res1, res2⟩ := res
  refine start_w (own := RL) rfl (by decide) (Nat.le_of_ble_eq_true rfl) ?_
  intro p e s m args below meth c Q hQ htb X
  rw [K_L_waysWithBans] at hF
  refine w_aload_n X 3 dL_waysWithBans_0 rfl rfl 1 rfl ?_
  refine w_iconst X 0 dL_waysWithBans_1 rfl 2 rfl ?_
  refine w_aload_n X 0 dL_waysWithBans_2 rfl rfl 3 rfl ?_
  refine w_iload_n X 1 dL_waysWithBans_3 rfl rfl 4 rfl ?_
  refine w_iload_n X 2 dL_waysWithBans_4 rfl rfl 5 rfl ?_
  refine w_xc X hZ hX htb hF [.int x1, .int x2] rfl rfl kB_X11_waysWithBans kL_L_83 (fun res h => ct_X11_waysWithBans l hl hZ hX hO fu x1 x2 mem res h) rfl rfl rfl ⟨Nat.le_of_ble_eq_true rfl, Nat.le_of_ble_eq_true rfl⟩ (Nat.le_of_ble_eq_true rfl) ⟨Nat.le_of_ble_eq_true rfl, Nat.le_of_ble_eq_true rfl⟩ dL_waysWithBans_5 8 rfl (fun k m1 h1 h3 hF => ?_) (fun x m1 hF => ?_)
  · by_cases hk0 : k = 3
    · subst hk0
      rw [if_pos rfl] at hF
      refine ⟨[], ⟨0, 10, 13, 35⟩, [⟨0, 10, 17, 19⟩], rfl, (fun z hz => absurd hz List.not_mem_nil), by decide, by decide, kC_L_35, fun q => ?_⟩
      refine w_astore X [(4, .ref q), (0, .ref (ad 0)), (1, .int x1), (2, .int x2), (3, .ref (ad 255))] dL_waysWithBans_13 (by decide) rfl 15 rfl ?_
      refine w_iconst X 1 dL_waysWithBans_15 rfl 16 rfl ?_
      exact w_wret X hQ (o_inj1 hF) (o_inj2 hF) dL_waysWithBans_16
    · rw [if_neg hk0] at hF
      by_cases hk1 : k = 1
      · subst hk1
        rw [if_pos rfl] at hF
        refine ⟨[⟨0, 10, 13, 35⟩], ⟨0, 10, 17, 19⟩, [], rfl, (fun z hz => by rw [List.mem_singleton.mp hz]; exact ⟨by decide, 3, by decide, by decide, by decide, kC_L_35⟩), by decide, by decide, kC_L_19, fun q => ?_⟩
        refine w_astore X [(4, .ref q), (0, .ref (ad 0)), (1, .int x1), (2, .int x2), (3, .ref (ad 255))] dL_waysWithBans_17 (by decide) rfl 19 rfl ?_
        refine w_iconst X 2 dL_waysWithBans_19 rfl 20 rfl ?_
        exact w_wret X hQ (o_inj1 hF) (o_inj2 hF) dL_waysWithBans_20
      · rw [if_neg hk1] at hF
        cases hF
  · refine w_i2l X dL_waysWithBans_8 9 rfl ?_
    refine w_las X 255 plt_255 ko_255 (t0 := 5) rfl vin01 dL_waysWithBans_9 10 rfl ?_
    refine w_goto X 21 dL_waysWithBans_10 (by decide) ?_
    refine w_iconst X 0 dL_waysWithBans_21 rfl 22 rfl ?_
    exact w_wret X hQ (o_inj1 hF) (o_inj2 hF) dL_waysWithBans_22

def K_L_detour (fu : Nat) (x1 : Int32) (mem : Mem) : Option (Int32 × Mem) := bdc (K_X11_detour fu x1 mem) (fun x m1 => some (0, (ml (mset 0 255 mem m1) 255 (Int32.toNatClampNeg 0) (Int32.toInt64 x)))) (fun k m1 => if k = 3 then some (1, (mset 0 255 mem m1)) else none)
def rm_L_detour : Room := { frames := 8, cells := 3, slots := 18, locals := 125 }
set_option maxHeartbeats 4000000 in
set_option maxRecDepth 100000 in
theorem ct_L_detour (l : Launch) (hl : l.stackTraces = false) {D : va_G} {ca ad : Nat → Nat} {Z : (Nat → Prop) → State → Heap → Prop} (hZ : ZOK Z) (hX : ZX Z) {tO : Nat} {sK sV : Nat → Nat} (hO : ZO Z tO sK sV) (fu : Nat) (x1 : Int32) (mem : Mem) (res : (Int32 × Mem)) (hF : K_L_detour fu x1 mem = some res) : CW l D (tyL ca) 256 ad (cL ca ad) Z yL_detour cL_detour 4 [(0, 9, 12, 35)] rm_L_detour [.ref (ad 0), .int x1, .ref (ad 255)] mem res.1 res.2 := by
  obtain ⟨res1, res2⟩ := res
  refine start_w (own := RL) rfl (by decide) (Nat.le_of_ble_eq_true rfl) ?_
  intro p e s m args below meth c Q hQ htb X
  rw [K_L_detour] at hF
  refine w_aload_n X 2 dL_detour_0 rfl rfl 1 rfl ?_
  refine w_iconst X 0 dL_detour_1 rfl 2 rfl ?_
  refine w_aload_n X 0 dL_detour_2 rfl rfl 3 rfl ?_
  refine w_iload_n X 1 dL_detour_3 rfl rfl 4 rfl ?_
  refine w_xc X hZ hX htb hF [.int x1] rfl rfl kB_X11_detour kL_L_86 (fun res h => ct_X11_detour l hl hZ hX hO fu x1 mem res h) rfl rfl rfl ⟨Nat.le_of_ble_eq_true rfl, Nat.le_of_ble_eq_true rfl⟩ (Nat.le_of_ble_eq_true rfl) ⟨Nat.le_of_ble_eq_true rfl, Nat.le_of_ble_eq_true rfl⟩ dL_detour_4 7 rfl (fun k m1 h1 h3 hF => ?_) (fun x m1 hF => ?_)
  · by_cases hk0 : k = 3
    · subst hk0
      rw [if_pos rfl] at hF
      refine ⟨[], ⟨0, 9, 12, 35⟩, [], rfl, (fun z hz => absurd hz List.not_mem_nil), by decide, by decide, kC_L_35, fun q => ?_⟩
      refine w_astore_n X [(3, .ref q), (0, .ref (ad 0)), (1, .int x1), (2, .ref (ad 255))] dL_detour_12 rfl (by decide) rfl 13 rfl ?_
      refine w_iconst X 1 dL_detour_13 rfl 14 rfl ?_
      exact w_wret X hQ (o_inj1 hF) (o_inj2 hF) dL_detour_14
    · rw [if_neg hk0] at hF
      cases hF
  · refine w_i2l X dL_detour_7 8 rfl ?_
    refine w_las X 255 plt_255 ko_255 (t0 := 5) rfl vin01 dL_detour_8 9 rfl ?_
    refine w_goto X 15 dL_detour_9 (by decide) ?_
    refine w_iconst X 0 dL_detour_15 rfl 16 rfl ?_
    exact w_wret X hQ (o_inj1 hF) (o_inj2 hF) dL_detour_16

def K_L_advised (fu : Nat) (x1 : Int32) (mem : Mem) : Option (Int32 × Mem) := bdc (K_X11_advised fu x1 mem) (fun x m1 => some (0, (ml (mset 0 255 mem m1) 255 (Int32.toNatClampNeg 0) (Int32.toInt64 x)))) (fun k m1 => if k = 3 then some (1, (mset 0 255 mem m1)) else none)
def rm_L_advised : Room := { frames := 8, cells := 3, slots := 18, locals := 124 }
set_option maxHeartbeats 4000000 in
set_option maxRecDepth 100000 in
theorem ct_L_advised (l : Launch) (hl : l.stackTraces = false) {D : va_G} {ca ad : Nat → Nat} {Z : (Nat → Prop) → State → Heap → Prop} (hZ : ZOK Z) (hX : ZX Z) {tO : Nat} {sK sV : Nat → Nat} (hO : ZO Z tO sK sV) (fu : Nat) (x1 : Int32) (mem : Mem) (res : (Int32 × Mem)) (hF : K_L_advised fu x1 mem = some res) : CW l D (tyL ca) 256 ad (cL ca ad) Z yL_advised cL_advised 4 [(0, 9, 12, 35)] rm_L_advised [.ref (ad 0), .int x1, .ref (ad 255)] mem res.1 res.2 := by
  obtain ⟨res1, res2⟩ := res
  refine start_w (own := RL) rfl (by decide) (Nat.le_of_ble_eq_true rfl) ?_
  intro p e s m args below meth c Q hQ htb X
  rw [K_L_advised] at hF
  refine w_aload_n X 2 dL_advised_0 rfl rfl 1 rfl ?_
  refine w_iconst X 0 dL_advised_1 rfl 2 rfl ?_
  refine w_aload_n X 0 dL_advised_2 rfl rfl 3 rfl ?_
  refine w_iload_n X 1 dL_advised_3 rfl rfl 4 rfl ?_
  refine w_xc X hZ hX htb hF [.int x1] rfl rfl kB_X11_advised kL_L_89 (fun res h => ct_X11_advised l hl hZ hX hO fu x1 mem res h) rfl rfl rfl ⟨Nat.le_of_ble_eq_true rfl, Nat.le_of_ble_eq_true rfl⟩ (Nat.le_of_ble_eq_true rfl) ⟨Nat.le_of_ble_eq_true rfl, Nat.le_of_ble_eq_true rfl⟩ dL_advised_4 7 rfl (fun k m1 h1 h3 hF => ?_) (fun x m1 hF => ?_)
  · by_cases hk0 : k = 3
    · subst hk0
      rw [if_pos rfl] at hF
      refine ⟨[], ⟨0, 9, 12, 35⟩, [], rfl, (fun z hz => absurd hz List.not_mem_nil), by decide, by decide, kC_L_35, fun q => ?_⟩
      refine w_astore_n X [(3, .ref q), (0, .ref (ad 0)), (1, .int x1), (2, .ref (ad 255))] dL_advised_12 rfl (by decide) rfl 13 rfl ?_
      refine w_iconst X 1 dL_advised_13 rfl 14 rfl ?_
      exact w_wret X hQ (o_inj1 hF) (o_inj2 hF) dL_advised_14
    · rw [if_neg hk0] at hF
      cases hF
  · refine w_i2l X dL_advised_7 8 rfl ?_
    refine w_las X 255 plt_255 ko_255 (t0 := 5) rfl vin01 dL_advised_8 9 rfl ?_
    refine w_goto X 15 dL_advised_9 (by decide) ?_
    refine w_iconst X 0 dL_advised_15 rfl 16 rfl ?_
    exact w_wret X hQ (o_inj1 hF) (o_inj2 hF) dL_advised_16

def K_L_bestWall (fu : Nat) (x1 : Int32) (mem : Mem) : Option (Int32 × Mem) := bdc (K_X11_bestWall fu x1 mem) (fun x m1 => some (0, (ml (mset 0 255 mem m1) 255 (Int32.toNatClampNeg 0) (Int32.toInt64 x)))) (fun k m1 => if k = 3 then some (1, (mset 0 255 mem m1)) else none)
def rm_L_bestWall : Room := { frames := 8, cells := 3, slots := 18, locals := 128 }
set_option maxHeartbeats 4000000 in
set_option maxRecDepth 100000 in
theorem ct_L_bestWall (l : Launch) (hl : l.stackTraces = false) {D : va_G} {ca ad : Nat → Nat} {Z : (Nat → Prop) → State → Heap → Prop} (hZ : ZOK Z) (hX : ZX Z) {tO : Nat} {sK sV : Nat → Nat} (hO : ZO Z tO sK sV) (fu : Nat) (x1 : Int32) (mem : Mem) (res : (Int32 × Mem)) (hF : K_L_bestWall fu x1 mem = some res) : CW l D (tyL ca) 256 ad (cL ca ad) Z yL_bestWall cL_bestWall 4 [(0, 9, 12, 35)] rm_L_bestWall [.ref (ad 0), .int x1, .ref (ad 255)] mem res.1 res.2 := by
  obtain ⟨res1, res2⟩ := res
  refine start_w (own := RL) rfl (by decide) (Nat.le_of_ble_eq_true rfl) ?_
  intro p e s m args below meth c Q hQ htb X
  rw [K_L_bestWall] at hF
  refine w_aload_n X 2 dL_bestWall_0 rfl rfl 1 rfl ?_
  refine w_iconst X 0 dL_bestWall_1 rfl 2 rfl ?_
  refine w_aload_n X 0 dL_bestWall_2 rfl rfl 3 rfl ?_
  refine w_iload_n X 1 dL_bestWall_3 rfl rfl 4 rfl ?_
  refine w_xc X hZ hX htb hF [.int x1] rfl rfl kB_X11_bestWall kL_L_92 (fun res h => ct_X11_bestWall l hl hZ hX hO fu x1 mem res h) rfl rfl rfl ⟨Nat.le_of_ble_eq_true rfl, Nat.le_of_ble_eq_true rfl⟩ (Nat.le_of_ble_eq_true rfl) ⟨Nat.le_of_ble_eq_true rfl, Nat.le_of_ble_eq_true rfl⟩ dL_bestWall_4 7 rfl (fun k m1 h1 h3 hF => ?_) (fun x m1 hF => ?_)
  · by_cases hk0 : k = 3
    · subst hk0
      rw [if_pos rfl] at hF
      refine ⟨[], ⟨0, 9, 12, 35⟩, [], rfl, (fun z hz => absurd hz List.not_mem_nil), by decide, by decide, kC_L_35, fun q => ?_⟩
      refine w_astore_n X [(3, .ref q), (0, .ref (ad 0)), (1, .int x1), (2, .ref (ad 255))] dL_bestWall_12 rfl (by decide) rfl 13 rfl ?_
      refine w_iconst X 1 dL_bestWall_13 rfl 14 rfl ?_
      exact w_wret X hQ (o_inj1 hF) (o_inj2 hF) dL_bestWall_14
    · rw [if_neg hk0] at hF
      cases hF
  · refine w_i2l X dL_bestWall_7 8 rfl ?_
    refine w_las X 255 plt_255 ko_255 (t0 := 5) rfl vin01 dL_bestWall_8 9 rfl ?_
    refine w_goto X 15 dL_bestWall_9 (by decide) ?_
    refine w_iconst X 0 dL_bestWall_15 rfl 16 rfl ?_
    exact w_wret X hQ (o_inj1 hF) (o_inj2 hF) dL_bestWall_16

def K_L_gain (fu : Nat) (x1 : Int32) (mem : Mem) : Option (Int32 × Mem) := bdc (K_X11_gain fu x1 mem) (fun x m1 => some (0, (ml (mset 0 255 mem m1) 255 (Int32.toNatClampNeg 0) (Int32.toInt64 x)))) (fun k m1 => if k = 3 then some (1, (mset 0 255 mem m1)) else none)
def rm_L_gain : Room := { frames := 8, cells := 3, slots := 18, locals := 128 }
set_option maxHeartbeats 4000000 in
set_option maxRecDepth 100000 in
theorem ct_L_gain (l : Launch) (hl : l.stackTraces = false) {D : va_G} {ca ad : Nat → Nat} {Z : (Nat → Prop) → State → Heap → Prop} (hZ : ZOK Z) (hX : ZX Z) {tO : Nat} {sK sV : Nat → Nat} (hO : ZO Z tO sK sV) (fu : Nat) (x1 : Int32) (mem : Mem) (res : (Int32 × Mem)) (hF : K_L_gain fu x1 mem = some res) : CW l D (tyL ca) 256 ad (cL ca ad) Z yL_gain cL_gain 4 [(0, 9, 12, 35)] rm_L_gain [.ref (ad 0), .int x1, .ref (ad 255)] mem res.1 res.2 := by
  obtain ⟨res1, res2⟩ := res
  refine start_w (own := RL) rfl (by decide) (Nat.le_of_ble_eq_true rfl) ?_
  intro p e s m args below meth c Q hQ htb X
  rw [K_L_gain] at hF
  refine w_aload_n X 2 dL_gain_0 rfl rfl 1 rfl ?_
  refine w_iconst X 0 dL_gain_1 rfl 2 rfl ?_
  refine w_aload_n X 0 dL_gain_2 rfl rfl 3 rfl ?_
  refine w_iload_n X 1 dL_gain_3 rfl rfl 4 rfl ?_
  refine w_xc X hZ hX htb hF [.int x1] rfl rfl kB_X11_gain kL_L_95 (fun res h => ct_X11_gain l hl hZ hX hO fu x1 mem res h) rfl rfl rfl ⟨Nat.le_of_ble_eq_true rfl, Nat.le_of_ble_eq_true rfl⟩ (Nat.le_of_ble_eq_true rfl) ⟨Nat.le_of_ble_eq_true rfl, Nat.le_of_ble_eq_true rfl⟩ dL_gain_4 7 rfl (fun k m1 h1 h3 hF => ?_) (fun x m1 hF => ?_)
  · by_cases hk0 : k = 3
    · subst hk0
      rw [if_pos rfl] at hF
      refine ⟨[], ⟨0, 9, 12, 35⟩, [], rfl, (fun z hz => absurd hz List.not_mem_nil), by decide, by decide, kC_L_35, fun q => ?_⟩
      refine w_astore_n X [(3, .ref q), (0, .ref (ad 0)), (1, .int x1), (2, .ref (ad 255))] dL_gain_12 rfl (by decide) rfl 13 rfl ?_
      refine w_iconst X 1 dL_gain_13 rfl 14 rfl ?_
      exact w_wret X hQ (o_inj1 hF) (o_inj2 hF) dL_gain_14
    · rw [if_neg hk0] at hF
      cases hF
  · refine w_i2l X dL_gain_7 8 rfl ?_
    refine w_las X 255 plt_255 ko_255 (t0 := 5) rfl vin01 dL_gain_8 9 rfl ?_
    refine w_goto X 15 dL_gain_9 (by decide) ?_
    refine w_iconst X 0 dL_gain_15 rfl 16 rfl ?_
    exact w_wret X hQ (o_inj1 hF) (o_inj2 hF) dL_gain_16

def K_L_harm (fu : Nat) (x1 : Int32) (x2 : Int32) (x3 : Int32) (x4 : Int32) (mem : Mem) : Option (Int32 × Mem) := bdc (K_X11_harm fu x1 x2 x3 x4 mem) (fun x m1 => some (0, (ml (mset 0 255 mem m1) 255 (Int32.toNatClampNeg 0) (Int32.toInt64 x)))) (fun k m1 => if k = 3 then some (1, (mset 0 255 mem m1)) else if k = 2 then some (2, (mset 0 255 mem m1)) else none)
def rm_L_harm : Room := { frames := 8, cells := 3, slots := 18, locals := 131 }
set_option maxHeartbeats 4000000 in
set_option maxRecDepth 100000 in
theorem ct_L_harm (l : Launch) (hl : l.stackTraces = false) {D : va_G} {ca ad : Nat → Nat} {Z : (Nat → Prop) → State → Heap → Prop} (hZ : ZOK Z) (hX : ZX Z) {tO : Nat} {sK sV : Nat → Nat} (hO : ZO Z tO sK sV) (fu : Nat) (x1 : Int32) (x2 : Int32) (x3 : Int32) (x4 : Int32) (mem : Mem) (res : (Int32 × Mem)) (hF : K_L_harm fu x1 x2 x3 x4 mem = some res) : CW l D (tyL ca) 256 ad (cL ca ad) Z yL_harm cL_harm 7 [(0, 14, 17, 35), (0, 14, 21, 13)] rm_L_harm [.ref (ad 0), .int x1, .int x2, .int x3, .int x4, .ref (ad 255)] mem res.1 res.2 := by
  obtain ⟨res1, res2⟩ := res
  refine start_w (own := RL) rfl (by decide) (Nat.le_of_ble_eq_true rfl) ?_
  intro p e s m args below meth c Q hQ htb X
  rw [K_L_harm] at hF
  refine w_aload X 5 dL_harm_0 rfl 2 rfl ?_
  refine w_iconst X 0 dL_harm_2 rfl 3 rfl ?_
  refine w_aload_n X 0 dL_harm_3 rfl rfl 4 rfl ?_
  refine w_iload_n X 1 dL_harm_4 rfl rfl 5 rfl ?_
  refine w_iload_n X 2 dL_harm_5 rfl rfl 6 rfl ?_
  refine w_iload_n X 3 dL_harm_6 rfl rfl 7 rfl ?_
  refine w_iload X 4 dL_harm_7 rfl 9 rfl ?_
  refine w_xc X hZ hX htb hF [.int x1, .int x2, .int x3, .int x4] rfl rfl kB_X11_harm kL_L_98 (fun res h => ct_X11_harm l hl hZ hX hO fu x1 x2 x3 x4 mem res h) rfl rfl rfl ⟨Nat.le_of_ble_eq_true rfl, Nat.le_of_ble_eq_true rfl⟩ (Nat.le_of_ble_eq_true rfl) ⟨Nat.le_of_ble_eq_true rfl, Nat.le_of_ble_eq_true rfl⟩ dL_harm_9 12 rfl (fun k m1 h1 h3 hF => ?_) (fun x m1 hF => ?_)
  · by_cases hk0 : k = 3
    · subst hk0
      rw [if_pos rfl] at hF
      refine ⟨[], ⟨0, 14, 17, 35⟩, [⟨0, 14, 21, 13⟩], rfl, (fun z hz => absurd hz List.not_mem_nil), by decide, by decide, kC_L_35, fun q => ?_⟩
      refine w_astore X [(6, .ref q), (0, .ref (ad 0)), (1, .int x1), (2, .int x2), (3, .int x3), (4, .int x4), (5, .ref (ad 255))] dL_harm_17 (by decide) rfl 19 rfl ?_
      refine w_iconst X 1 dL_harm_19 rfl 20 rfl ?_
      exact w_wret X hQ (o_inj1 hF) (o_inj2 hF) dL_harm_20
    · rw [if_neg hk0] at hF
      by_cases hk1 : k = 2
      · subst hk1
        rw [if_pos rfl] at hF
        refine ⟨[⟨0, 14, 17, 35⟩], ⟨0, 14, 21, 13⟩, [], rfl, (fun z hz => by rw [List.mem_singleton.mp hz]; exact ⟨by decide, 3, by decide, by decide, by decide, kC_L_35⟩), by decide, by decide, kC_L_13, fun q => ?_⟩
        refine w_astore X [(6, .ref q), (0, .ref (ad 0)), (1, .int x1), (2, .int x2), (3, .int x3), (4, .int x4), (5, .ref (ad 255))] dL_harm_21 (by decide) rfl 23 rfl ?_
        refine w_iconst X 2 dL_harm_23 rfl 24 rfl ?_
        exact w_wret X hQ (o_inj1 hF) (o_inj2 hF) dL_harm_24
      · rw [if_neg hk1] at hF
        cases hF
  · refine w_i2l X dL_harm_12 13 rfl ?_
    refine w_las X 255 plt_255 ko_255 (t0 := 5) rfl vin01 dL_harm_13 14 rfl ?_
    refine w_goto X 25 dL_harm_14 (by decide) ?_
    refine w_iconst X 0 dL_harm_25 rfl 26 rfl ?_
    exact w_wret X hQ (o_inj1 hF) (o_inj2 hF) dL_harm_26

def K_L_foreseen (fu : Nat) (x1 : Int32) (x2 : Int32) (x3 : Int32) (mem : Mem) : Option (Int32 × Mem) := bdc (K_X11_foreseen fu x1 x2 x3 mem) (fun x m1 => some (0, (ml (mset 0 255 mem m1) 255 (Int32.toNatClampNeg 0) (Int32.toInt64 x)))) (fun k m1 => if k = 3 then some (1, (mset 0 255 mem m1)) else if k = 1 then some (2, (mset 0 255 mem m1)) else none)
def rm_L_foreseen : Room := { frames := 8, cells := 3, slots := 18, locals := 156 }
set_option maxHeartbeats 4000000 in
set_option maxRecDepth 100000 in
theorem ct_L_foreseen (l : Launch) (hl : l.stackTraces = false) {D : va_G} {ca ad : Nat → Nat} {Z : (Nat → Prop) → State → Heap → Prop} (hZ : ZOK Z) (hX : ZX Z) {tO : Nat} {sK sV : Nat → Nat} (hO : ZO Z tO sK sV) (fu : Nat) (x1 : Int32) (x2 : Int32) (x3 : Int32) (mem : Mem) (res : (Int32 × Mem)) (hF : K_L_foreseen fu x1 x2 x3 mem = some res) : CW l D (tyL ca) 256 ad (cL ca ad) Z yL_foreseen cL_foreseen 6 [(0, 12, 15, 35), (0, 12, 19, 19)] rm_L_foreseen [.ref (ad 0), .int x1, .int x2, .int x3, .ref (ad 255)] mem res.1 res.2 := by
  obtain ⟨res1, res2⟩ := res
  refine start_w (own := RL) rfl (by decide) (Nat.le_of_ble_eq_true rfl) ?_
  intro p e s m args below meth c Q hQ htb X
  rw [K_L_foreseen] at hF
  refine w_aload X 4 dL_foreseen_0 rfl 2 rfl ?_
  refine w_iconst X 0 dL_foreseen_2 rfl 3 rfl ?_
  refine w_aload_n X 0 dL_foreseen_3 rfl rfl 4 rfl ?_
  refine w_iload_n X 1 dL_foreseen_4 rfl rfl 5 rfl ?_
  refine w_iload_n X 2 dL_foreseen_5 rfl rfl 6 rfl ?_
  refine w_iload_n X 3 dL_foreseen_6 rfl rfl 7 rfl ?_
  refine w_xc X hZ hX htb hF [.int x1, .int x2, .int x3] rfl rfl kB_X11_foreseen kL_L_102 (fun res h => ct_X11_foreseen l hl hZ hX hO fu x1 x2 x3 mem res h) rfl rfl rfl ⟨Nat.le_of_ble_eq_true rfl, Nat.le_of_ble_eq_true rfl⟩ (Nat.le_of_ble_eq_true rfl) ⟨Nat.le_of_ble_eq_true rfl, Nat.le_of_ble_eq_true rfl⟩ dL_foreseen_7 10 rfl (fun k m1 h1 h3 hF => ?_) (fun x m1 hF => ?_)
  · by_cases hk0 : k = 3
    · subst hk0
      rw [if_pos rfl] at hF
      refine ⟨[], ⟨0, 12, 15, 35⟩, [⟨0, 12, 19, 19⟩], rfl, (fun z hz => absurd hz List.not_mem_nil), by decide, by decide, kC_L_35, fun q => ?_⟩
      refine w_astore X [(5, .ref q), (0, .ref (ad 0)), (1, .int x1), (2, .int x2), (3, .int x3), (4, .ref (ad 255))] dL_foreseen_15 (by decide) rfl 17 rfl ?_
      refine w_iconst X 1 dL_foreseen_17 rfl 18 rfl ?_
      exact w_wret X hQ (o_inj1 hF) (o_inj2 hF) dL_foreseen_18
    · rw [if_neg hk0] at hF
      by_cases hk1 : k = 1
      · subst hk1
        rw [if_pos rfl] at hF
        refine ⟨[⟨0, 12, 15, 35⟩], ⟨0, 12, 19, 19⟩, [], rfl, (fun z hz => by rw [List.mem_singleton.mp hz]; exact ⟨by decide, 3, by decide, by decide, by decide, kC_L_35⟩), by decide, by decide, kC_L_19, fun q => ?_⟩
        refine w_astore X [(5, .ref q), (0, .ref (ad 0)), (1, .int x1), (2, .int x2), (3, .int x3), (4, .ref (ad 255))] dL_foreseen_19 (by decide) rfl 21 rfl ?_
        refine w_iconst X 2 dL_foreseen_21 rfl 22 rfl ?_
        exact w_wret X hQ (o_inj1 hF) (o_inj2 hF) dL_foreseen_22
      · rw [if_neg hk1] at hF
        cases hF
  · refine w_i2l X dL_foreseen_10 11 rfl ?_
    refine w_las X 255 plt_255 ko_255 (t0 := 5) rfl vin01 dL_foreseen_11 12 rfl ?_
    refine w_goto X 23 dL_foreseen_12 (by decide) ?_
    refine w_iconst X 0 dL_foreseen_23 rfl 24 rfl ?_
    exact w_wret X hQ (o_inj1 hF) (o_inj2 hF) dL_foreseen_24

def K_L_step (fu : Nat) (x1 : Int32) (mem : Mem) : Option (Int32 × Mem) := bdc (K_X11_step fu x1 mem) (fun x m1 => some (0, (ml (mset 0 255 mem m1) 255 (Int32.toNatClampNeg 0) (Int32.toInt64 x)))) (fun k m1 => if k = 1 then some (1, (mset 0 255 mem m1)) else if k = 2 then some (2, (mset 0 255 mem m1)) else none)
def rm_L_step : Room := { frames := 8, cells := 3, slots := 18, locals := 126 }
set_option maxHeartbeats 4000000 in
set_option maxRecDepth 100000 in
theorem ct_L_step (l : Launch) (hl : l.stackTraces = false) {D : va_G} {ca ad : Nat → Nat} {Z : (Nat → Prop) → State → Heap → Prop} (hZ : ZOK Z) (hX : ZX Z) {tO : Nat} {sK sV : Nat → Nat} (hO : ZO Z tO sK sV) (fu : Nat) (x1 : Int32) (mem : Mem) (res : (Int32 × Mem)) (hF : K_L_step fu x1 mem = some res) : CW l D (tyL ca) 256 ad (cL ca ad) Z yL_step cL_step 4 [(0, 9, 12, 19), (0, 9, 15, 13)] rm_L_step [.ref (ad 0), .int x1, .ref (ad 255)] mem res.1 res.2 := by
  obtain ⟨res1, res2⟩ := res
  refine start_w (own := RL) rfl (by decide) (Nat.le_of_ble_eq_true rfl) ?_
  intro p e s m args below meth c Q hQ htb X
  rw [K_L_step] at hF
  refine w_aload_n X 2 dL_step_0 rfl rfl 1 rfl ?_
  refine w_iconst X 0 dL_step_1 rfl 2 rfl ?_
  refine w_aload_n X 0 dL_step_2 rfl rfl 3 rfl ?_
  refine w_iload_n X 1 dL_step_3 rfl rfl 4 rfl ?_
  refine w_xc X hZ hX htb hF [.int x1] rfl rfl kB_X11_step kL_L_105 (fun res h => ct_X11_step l hl hZ hX hO fu x1 mem res h) rfl rfl rfl ⟨Nat.le_of_ble_eq_true rfl, Nat.le_of_ble_eq_true rfl⟩ (Nat.le_of_ble_eq_true rfl) ⟨Nat.le_of_ble_eq_true rfl, Nat.le_of_ble_eq_true rfl⟩ dL_step_4 7 rfl (fun k m1 h1 h3 hF => ?_) (fun x m1 hF => ?_)
  · by_cases hk0 : k = 1
    · subst hk0
      rw [if_pos rfl] at hF
      refine ⟨[], ⟨0, 9, 12, 19⟩, [⟨0, 9, 15, 13⟩], rfl, (fun z hz => absurd hz List.not_mem_nil), by decide, by decide, kC_L_19, fun q => ?_⟩
      refine w_astore_n X [(3, .ref q), (0, .ref (ad 0)), (1, .int x1), (2, .ref (ad 255))] dL_step_12 rfl (by decide) rfl 13 rfl ?_
      refine w_iconst X 1 dL_step_13 rfl 14 rfl ?_
      exact w_wret X hQ (o_inj1 hF) (o_inj2 hF) dL_step_14
    · rw [if_neg hk0] at hF
      by_cases hk1 : k = 2
      · subst hk1
        rw [if_pos rfl] at hF
        refine ⟨[⟨0, 9, 12, 19⟩], ⟨0, 9, 15, 13⟩, [], rfl, (fun z hz => by rw [List.mem_singleton.mp hz]; exact ⟨by decide, 1, by decide, by decide, by decide, kC_L_19⟩), by decide, by decide, kC_L_13, fun q => ?_⟩
        refine w_astore_n X [(3, .ref q), (0, .ref (ad 0)), (1, .int x1), (2, .ref (ad 255))] dL_step_15 rfl (by decide) rfl 16 rfl ?_
        refine w_iconst X 2 dL_step_16 rfl 17 rfl ?_
        exact w_wret X hQ (o_inj1 hF) (o_inj2 hF) dL_step_17
      · rw [if_neg hk1] at hF
        cases hF
  · refine w_i2l X dL_step_7 8 rfl ?_
    refine w_las X 255 plt_255 ko_255 (t0 := 5) rfl vin01 dL_step_8 9 rfl ?_
    refine w_goto X 18 dL_step_9 (by decide) ?_
    refine w_iconst X 0 dL_step_18 rfl 19 rfl ?_
    exact w_wret X hQ (o_inj1 hF) (o_inj2 hF) dL_step_19

def K_L_build (fu : Nat) (x1 : Int32) (x2 : Int32) (x3 : Int32) (mem : Mem) : Option (Int32 × Mem) := bdc (K_X11_build fu x1 x2 x3 mem) (fun x m1 => some (0, (ml (mset 0 255 mem m1) 255 (Int32.toNatClampNeg 0) (Int32.toInt64 x)))) (fun k m1 => if k = 3 then some (1, (mset 0 255 mem m1)) else if k = 2 then some (2, (mset 0 255 mem m1)) else none)
def rm_L_build : Room := { frames := 8, cells := 3, slots := 18, locals := 155 }
set_option maxHeartbeats 4000000 in
set_option maxRecDepth 100000 in
theorem ct_L_build (l : Launch) (hl : l.stackTraces = false) {D : va_G} {ca ad : Nat → Nat} {Z : (Nat → Prop) → State → Heap → Prop} (hZ : ZOK Z) (hX : ZX Z) {tO : Nat} {sK sV : Nat → Nat} (hO : ZO Z tO sK sV) (fu : Nat) (x1 : Int32) (x2 : Int32) (x3 : Int32) (mem : Mem) (res : (Int32 × Mem)) (hF : K_L_build fu x1 x2 x3 mem = some res) : CW l D (tyL ca) 256 ad (cL ca ad) Z yL_build cL_build 6 [(0, 12, 15, 35), (0, 12, 19, 13)] rm_L_build [.ref (ad 0), .int x1, .int x2, .int x3, .ref (ad 255)] mem res.1 res.2 := by
  obtain ⟨res1, res2⟩ := res
  refine start_w (own := RL) rfl (by decide) (Nat.le_of_ble_eq_true rfl) ?_
  intro p e s m args below meth c Q hQ htb X
  rw [K_L_build] at hF
  refine w_aload X 4 dL_build_0 rfl 2 rfl ?_
  refine w_iconst X 0 dL_build_2 rfl 3 rfl ?_
  refine w_aload_n X 0 dL_build_3 rfl rfl 4 rfl ?_
  refine w_iload_n X 1 dL_build_4 rfl rfl 5 rfl ?_
  refine w_iload_n X 2 dL_build_5 rfl rfl 6 rfl ?_
  refine w_iload_n X 3 dL_build_6 rfl rfl 7 rfl ?_
  refine w_xc X hZ hX htb hF [.int x1, .int x2, .int x3] rfl rfl kB_X11_build kL_L_108 (fun res h => ct_X11_build l hl hZ hX hO fu x1 x2 x3 mem res h) rfl rfl rfl ⟨Nat.le_of_ble_eq_true rfl, Nat.le_of_ble_eq_true rfl⟩ (Nat.le_of_ble_eq_true rfl) ⟨Nat.le_of_ble_eq_true rfl, Nat.le_of_ble_eq_true rfl⟩ dL_build_7 10 rfl (fun k m1 h1 h3 hF => ?_) (fun x m1 hF => ?_)
  · by_cases hk0 : k = 3
    · subst hk0
      rw [if_pos rfl] at hF
      refine ⟨[], ⟨0, 12, 15, 35⟩, [⟨0, 12, 19, 13⟩], rfl, (fun z hz => absurd hz List.not_mem_nil), by decide, by decide, kC_L_35, fun q => ?_⟩
      refine w_astore X [(5, .ref q), (0, .ref (ad 0)), (1, .int x1), (2, .int x2), (3, .int x3), (4, .ref (ad 255))] dL_build_15 (by decide) rfl 17 rfl ?_
      refine w_iconst X 1 dL_build_17 rfl 18 rfl ?_
      exact w_wret X hQ (o_inj1 hF) (o_inj2 hF) dL_build_18
    · rw [if_neg hk0] at hF
      by_cases hk1 : k = 2
      · subst hk1
        rw [if_pos rfl] at hF
        refine ⟨[⟨0, 12, 15, 35⟩], ⟨0, 12, 19, 13⟩, [], rfl, (fun z hz => by rw [List.mem_singleton.mp hz]; exact ⟨by decide, 3, by decide, by decide, by decide, kC_L_35⟩), by decide, by decide, kC_L_13, fun q => ?_⟩
        refine w_astore X [(5, .ref q), (0, .ref (ad 0)), (1, .int x1), (2, .int x2), (3, .int x3), (4, .ref (ad 255))] dL_build_19 (by decide) rfl 21 rfl ?_
        refine w_iconst X 2 dL_build_21 rfl 22 rfl ?_
        exact w_wret X hQ (o_inj1 hF) (o_inj2 hF) dL_build_22
      · rw [if_neg hk1] at hF
        cases hF
  · refine w_i2l X dL_build_10 11 rfl ?_
    refine w_las X 255 plt_255 ko_255 (t0 := 5) rfl vin01 dL_build_11 12 rfl ?_
    refine w_goto X 23 dL_build_12 (by decide) ?_
    refine w_iconst X 0 dL_build_23 rfl 24 rfl ?_
    exact w_wret X hQ (o_inj1 hF) (o_inj2 hF) dL_build_24

def K_L_pass (fu : Nat)  (mem : Mem) : Option (Int32 × Mem) := bdc (K_X11_pass fu  mem) (fun x m1 => some (0, (ml (mset 0 255 mem m1) 255 (Int32.toNatClampNeg 0) (Int32.toInt64 x)))) (fun k m1 => if k = 2 then some (1, (mset 0 255 mem m1)) else none)
def rm_L_pass : Room := { frames := 7, cells := 3, slots := 18, locals := 135 }
set_option maxHeartbeats 4000000 in
set_option maxRecDepth 100000 in
theorem ct_L_pass (l : Launch) (hl : l.stackTraces = false) {D : va_G} {ca ad : Nat → Nat} {Z : (Nat → Prop) → State → Heap → Prop} (hZ : ZOK Z) (hX : ZX Z) {tO : Nat} {sK sV : Nat → Nat} (hO : ZO Z tO sK sV) (fu : Nat)  (mem : Mem) (res : (Int32 × Mem)) (hF : K_L_pass fu  mem = some res) : CW l D (tyL ca) 256 ad (cL ca ad) Z yL_pass cL_pass 3 [(0, 8, 11, 13)] rm_L_pass [.ref (ad 0), .ref (ad 255)] mem res.1 res.2 := by
  obtain ⟨res1, res2⟩ := res
  refine start_w (own := RL) rfl (by decide) (Nat.le_of_ble_eq_true rfl) ?_
  intro p e s m args below meth c Q hQ htb X
  rw [K_L_pass] at hF
  refine w_aload_n X 1 dL_pass_0 rfl rfl 1 rfl ?_
  refine w_iconst X 0 dL_pass_1 rfl 2 rfl ?_
  refine w_aload_n X 0 dL_pass_2 rfl rfl 3 rfl ?_
  refine w_xc X hZ hX htb hF [] rfl rfl kB_X11_pass kL_L_112 (fun res h => ct_X11_pass l hl hZ hX hO fu  mem res h) rfl rfl rfl ⟨Nat.le_of_ble_eq_true rfl, Nat.le_of_ble_eq_true rfl⟩ (Nat.le_of_ble_eq_true rfl) ⟨Nat.le_of_ble_eq_true rfl, Nat.le_of_ble_eq_true rfl⟩ dL_pass_3 6 rfl (fun k m1 h1 h3 hF => ?_) (fun x m1 hF => ?_)
  · by_cases hk0 : k = 2
    · subst hk0
      rw [if_pos rfl] at hF
      refine ⟨[], ⟨0, 8, 11, 13⟩, [], rfl, (fun z hz => absurd hz List.not_mem_nil), by decide, by decide, kC_L_13, fun q => ?_⟩
      refine w_astore_n X [(2, .ref q), (0, .ref (ad 0)), (1, .ref (ad 255))] dL_pass_11 rfl (by decide) rfl 12 rfl ?_
      refine w_iconst X 1 dL_pass_12 rfl 13 rfl ?_
      exact w_wret X hQ (o_inj1 hF) (o_inj2 hF) dL_pass_13
    · rw [if_neg hk0] at hF
      cases hF
  · refine w_i2l X dL_pass_6 7 rfl ?_
    refine w_las X 255 plt_255 ko_255 (t0 := 5) rfl vin01 dL_pass_7 8 rfl ?_
    refine w_goto X 14 dL_pass_8 (by decide) ?_
    refine w_iconst X 0 dL_pass_14 rfl 15 rfl ?_
    exact w_wret X hQ (o_inj1 hF) (o_inj2 hF) dL_pass_15

def K_L_play (fu : Nat) (x1 : Int32) (x2 : Int32) (mem : Mem) : Option (Int32 × Mem) := bdc (K_X11_play fu x1 x2 mem) (fun x m1 => some (0, (ml (mset 0 255 mem m1) 255 (Int32.toNatClampNeg 0) (Int32.toInt64 x)))) (fun k m1 => if k = 1 then some (1, (mset 0 255 mem m1)) else none)
def rm_L_play : Room := { frames := 8, cells := 3, slots := 18, locals := 155 }
set_option maxHeartbeats 4000000 in
set_option maxRecDepth 100000 in
theorem ct_L_play (l : Launch) (hl : l.stackTraces = false) {D : va_G} {ca ad : Nat → Nat} {Z : (Nat → Prop) → State → Heap → Prop} (hZ : ZOK Z) (hX : ZX Z) {tO : Nat} {sK sV : Nat → Nat} (hO : ZO Z tO sK sV) (fu : Nat) (x1 : Int32) (x2 : Int32) (mem : Mem) (res : (Int32 × Mem)) (hF : K_L_play fu x1 x2 mem = some res) : CW l D (tyL ca) 256 ad (cL ca ad) Z yL_play cL_play 5 [(0, 10, 13, 19)] rm_L_play [.ref (ad 0), .int x1, .int x2, .ref (ad 255)] mem res.1 res.2 := by
  obtain ⟨res1, res2⟩ := res
  refine start_w (own := RL) rfl (by decide) (Nat.le_of_ble_eq_true rfl) ?_
  intro p e s m args below meth c Q hQ htb X
  rw [K_L_play] at hF
  refine w_aload_n X 3 dL_play_0 rfl rfl 1 rfl ?_
  refine w_iconst X 0 dL_play_1 rfl 2 rfl ?_
  refine w_aload_n X 0 dL_play_2 rfl rfl 3 rfl ?_
  refine w_iload_n X 1 dL_play_3 rfl rfl 4 rfl ?_
  refine w_iload_n X 2 dL_play_4 rfl rfl 5 rfl ?_
  refine w_xc X hZ hX htb hF [.int x1, .int x2] rfl rfl kB_X11_play kL_L_115 (fun res h => ct_X11_play l hl hZ hX hO fu x1 x2 mem res h) rfl rfl rfl ⟨Nat.le_of_ble_eq_true rfl, Nat.le_of_ble_eq_true rfl⟩ (Nat.le_of_ble_eq_true rfl) ⟨Nat.le_of_ble_eq_true rfl, Nat.le_of_ble_eq_true rfl⟩ dL_play_5 8 rfl (fun k m1 h1 h3 hF => ?_) (fun x m1 hF => ?_)
  · by_cases hk0 : k = 1
    · subst hk0
      rw [if_pos rfl] at hF
      refine ⟨[], ⟨0, 10, 13, 19⟩, [], rfl, (fun z hz => absurd hz List.not_mem_nil), by decide, by decide, kC_L_19, fun q => ?_⟩
      refine w_astore X [(4, .ref q), (0, .ref (ad 0)), (1, .int x1), (2, .int x2), (3, .ref (ad 255))] dL_play_13 (by decide) rfl 15 rfl ?_
      refine w_iconst X 1 dL_play_15 rfl 16 rfl ?_
      exact w_wret X hQ (o_inj1 hF) (o_inj2 hF) dL_play_16
    · rw [if_neg hk0] at hF
      cases hF
  · refine w_i2l X dL_play_8 9 rfl ?_
    refine w_las X 255 plt_255 ko_255 (t0 := 5) rfl vin01 dL_play_9 10 rfl ?_
    refine w_goto X 17 dL_play_10 (by decide) ?_
    refine w_iconst X 0 dL_play_17 rfl 18 rfl ?_
    exact w_wret X hQ (o_inj1 hF) (o_inj2 hF) dL_play_18

def K_L_reportByte (fu : Nat) (x1 : Int32) (mem : Mem) : Option (Int32 × Mem) := bdc (K_X11_reportByte fu x1 mem) (fun x m1 => some (0, (ml (mset 0 255 mem m1) 255 (Int32.toNatClampNeg 0) (Int32.toInt64 x)))) (fun k m1 => if k = 3 then some (1, (mset 0 255 mem m1)) else none)
def rm_L_reportByte : Room := { frames := 7, cells := 3, slots := 18, locals := 103 }
set_option maxHeartbeats 4000000 in
set_option maxRecDepth 100000 in
theorem ct_L_reportByte (l : Launch) (hl : l.stackTraces = false) {D : va_G} {ca ad : Nat → Nat} {Z : (Nat → Prop) → State → Heap → Prop} (hZ : ZOK Z) (hX : ZX Z) {tO : Nat} {sK sV : Nat → Nat} (hO : ZO Z tO sK sV) (fu : Nat) (x1 : Int32) (mem : Mem) (res : (Int32 × Mem)) (hF : K_L_reportByte fu x1 mem = some res) : CW l D (tyL ca) 256 ad (cL ca ad) Z yL_reportByte cL_reportByte 4 [(0, 9, 12, 35)] rm_L_reportByte [.ref (ad 0), .int x1, .ref (ad 255)] mem res.1 res.2 := by
  obtain ⟨res1, res2⟩ := res
  refine start_w (own := RL) rfl (by decide) (Nat.le_of_ble_eq_true rfl) ?_
  intro p e s m args below meth c Q hQ htb X
  rw [K_L_reportByte] at hF
  refine w_aload_n X 2 dL_reportByte_0 rfl rfl 1 rfl ?_
  refine w_iconst X 0 dL_reportByte_1 rfl 2 rfl ?_
  refine w_aload_n X 0 dL_reportByte_2 rfl rfl 3 rfl ?_
  refine w_iload_n X 1 dL_reportByte_3 rfl rfl 4 rfl ?_
  refine w_xc X hZ hX htb hF [.int x1] rfl rfl kB_X11_reportByte kL_L_118 (fun res h => ct_X11_reportByte l hl hZ hX hO fu x1 mem res h) rfl rfl rfl ⟨Nat.le_of_ble_eq_true rfl, Nat.le_of_ble_eq_true rfl⟩ (Nat.le_of_ble_eq_true rfl) ⟨Nat.le_of_ble_eq_true rfl, Nat.le_of_ble_eq_true rfl⟩ dL_reportByte_4 7 rfl (fun k m1 h1 h3 hF => ?_) (fun x m1 hF => ?_)
  · by_cases hk0 : k = 3
    · subst hk0
      rw [if_pos rfl] at hF
      refine ⟨[], ⟨0, 9, 12, 35⟩, [], rfl, (fun z hz => absurd hz List.not_mem_nil), by decide, by decide, kC_L_35, fun q => ?_⟩
      refine w_astore_n X [(3, .ref q), (0, .ref (ad 0)), (1, .int x1), (2, .ref (ad 255))] dL_reportByte_12 rfl (by decide) rfl 13 rfl ?_
      refine w_iconst X 1 dL_reportByte_13 rfl 14 rfl ?_
      exact w_wret X hQ (o_inj1 hF) (o_inj2 hF) dL_reportByte_14
    · rw [if_neg hk0] at hF
      cases hF
  · refine w_i2l X dL_reportByte_7 8 rfl ?_
    refine w_las X 255 plt_255 ko_255 (t0 := 5) rfl vin01 dL_reportByte_8 9 rfl ?_
    refine w_goto X 15 dL_reportByte_9 (by decide) ?_
    refine w_iconst X 0 dL_reportByte_15 rfl 16 rfl ?_
    exact w_wret X hQ (o_inj1 hF) (o_inj2 hF) dL_reportByte_16

def K_L_restore (fu : Nat)  (mem : Mem) : Option (Int32 × Mem) := bdc (K_X11_restore fu  mem) (fun x m1 => some (0, (ml (mset 0 255 mem m1) 255 (Int32.toNatClampNeg 0) (Int32.toInt64 x)))) (fun k m1 => if k = 2 then some (1, (mset 0 255 mem m1)) else none)
def rm_L_restore : Room := { frames := 7, cells := 3, slots := 18, locals := 103 }
set_option maxHeartbeats 4000000 in
set_option maxRecDepth 100000 in
theorem ct_L_restore (l : Launch) (hl : l.stackTraces = false) {D : va_G} {ca ad : Nat → Nat} {Z : (Nat → Prop) → State → Heap → Prop} (hZ : ZOK Z) (hX : ZX Z) {tO : Nat} {sK sV : Nat → Nat} (hO : ZO Z tO sK sV) (fu : Nat)  (mem : Mem) (res : (Int32 × Mem)) (hF : K_L_restore fu  mem = some res) : CW l D (tyL ca) 256 ad (cL ca ad) Z yL_restore cL_restore 3 [(0, 8, 11, 13)] rm_L_restore [.ref (ad 0), .ref (ad 255)] mem res.1 res.2 := by
  obtain ⟨res1, res2⟩ := res
  refine start_w (own := RL) rfl (by decide) (Nat.le_of_ble_eq_true rfl) ?_
  intro p e s m args below meth c Q hQ htb X
  rw [K_L_restore] at hF
  refine w_aload_n X 1 dL_restore_0 rfl rfl 1 rfl ?_
  refine w_iconst X 0 dL_restore_1 rfl 2 rfl ?_
  refine w_aload_n X 0 dL_restore_2 rfl rfl 3 rfl ?_
  refine w_xc X hZ hX htb hF [] rfl rfl kB_X11_restore kL_L_121 (fun res h => ct_X11_restore l hl hZ hX hO fu  mem res h) rfl rfl rfl ⟨Nat.le_of_ble_eq_true rfl, Nat.le_of_ble_eq_true rfl⟩ (Nat.le_of_ble_eq_true rfl) ⟨Nat.le_of_ble_eq_true rfl, Nat.le_of_ble_eq_true rfl⟩ dL_restore_3 6 rfl (fun k m1 h1 h3 hF => ?_) (fun x m1 hF => ?_)
  · by_cases hk0 : k = 2
    · subst hk0
      rw [if_pos rfl] at hF
      refine ⟨[], ⟨0, 8, 11, 13⟩, [], rfl, (fun z hz => absurd hz List.not_mem_nil), by decide, by decide, kC_L_13, fun q => ?_⟩
      refine w_astore_n X [(2, .ref q), (0, .ref (ad 0)), (1, .ref (ad 255))] dL_restore_11 rfl (by decide) rfl 12 rfl ?_
      refine w_iconst X 1 dL_restore_12 rfl 13 rfl ?_
      exact w_wret X hQ (o_inj1 hF) (o_inj2 hF) dL_restore_13
    · rw [if_neg hk0] at hF
      cases hF
  · refine w_i2l X dL_restore_6 7 rfl ?_
    refine w_las X 255 plt_255 ko_255 (t0 := 5) rfl vin01 dL_restore_7 8 rfl ?_
    refine w_goto X 14 dL_restore_8 (by decide) ?_
    refine w_iconst X 0 dL_restore_14 rfl 15 rfl ?_
    exact w_wret X hQ (o_inj1 hF) (o_inj2 hF) dL_restore_15

end LW
