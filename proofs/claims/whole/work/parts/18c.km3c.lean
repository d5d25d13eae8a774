section Km3c
def K_X12_readsPawn_265 (fu : Nat) (x1 : Int64) (x3 : Int32) (x4 : Int32) (x5 : Int32) (x7 : Int32) (mem : Mem) : Option Mem := bd (K_X12_isGood fu mem) (fun x_38 => (if x_38 = 0 then some mem else bd (K_X12_comesPawn fu x1 x3 x4 x5 x7 mem) (fun m_39 => gi 2 184 (bd (K_X12_distanceOf fu ((rd m_39 2 (Int32.toNatClampNeg 2)) - 1) m_39) (fun p_41 => (if p_41.1 = (-1) then bd (K_X12_wrong fu 5 p_41.2) (fun m_42 => some m_42) else some p_41.2))))))
def K_X12_readsPawn_242 (fu : Nat) (x1 : Int64) (x3 : Int32) (x4 : Int32) (x5 : Int32) (xs0 : Int32) (mem : Mem) : Option Mem := bd (K_X12_isGood fu mem) (fun x_35 => (if x_35 = 0 then (K_X12_readsPawn_265 fu x1 x3 x4 x5 xs0 mem) else bd (K_X12_isSign fu 59 mem) (fun x_36 => (if x_36 = 0 then bd (K_X12_wrong fu 1 mem) (fun m_37 => (K_X12_readsPawn_265 fu x1 x3 x4 x5 xs0 m_37)) else (K_X12_readsPawn_265 fu x1 x3 x4 x5 xs0 mem)))))
def K_X12_readsPawn_223 (fu : Nat) (x1 : Int64) (x3 : Int32) (x4 : Int32) (x5 : Int32) (x6 : Int32) (mem : Mem) : Option Mem := (if x6 = 0 then (K_X12_readsPawn_242 fu x1 x3 x4 x5 (rd mem 0 24) mem) else bd (K_X12_number fu 0 20 mem) (fun p_34 => (K_X12_readsPawn_242 fu x1 x3 x4 x5 p_34.1 p_34.2)))
def K_X12_readsPawn_205 (fu : Nat) (x1 : Int64) (x3 : Int32) (x4 : Int32) (x5 : Int32) (mem : Mem) : Option Mem := bd (K_X12_isWord fu 24162707 mem) (fun x_32 => (if x_32 = 0 then (K_X12_readsPawn_223 fu x1 x3 x4 x5 x_32 mem) else bd (K_X12_goOn fu mem) (fun m_33 => (K_X12_readsPawn_223 fu x1 x3 x4 x5 x_32 m_33))))
def K_X12_readsPawn_194 (fu : Nat) (x1 : Int64) (x3 : Int32) (x4 : Int32) (x5 : Int32) (mem : Mem) : Option Mem := bd (K_X12_isGood fu mem) (fun x_30 => (if x_30 = 0 then (K_X12_readsPawn_205 fu x1 x3 x4 x5 mem) else bd (K_X12_goOn fu mem) (fun m_31 => (K_X12_readsPawn_205 fu x1 x3 x4 x5 m_31))))
def K_X12_readsPawn_170 (fu : Nat) (x1 : Int64) (x3 : Int32) (x4 : Int32) (x5 : Int32) (mem : Mem) : Option Mem := bd (K_X12_isGood fu mem) (fun x_27 => (if x_27 = 0 then (K_X12_readsPawn_194 fu x1 x3 x4 x5 mem) else bd (K_X12_isAtSide fu x3 x4 x5 mem) (fun x_28 => (if x_28 = 0 then (K_X12_readsPawn_194 fu x1 x3 x4 x5 mem) else bd (K_X12_wrong fu 4 mem) (fun m_29 => (K_X12_readsPawn_194 fu x1 x3 x4 x5 m_29))))))
def K_X12_readsPawn_146 (fu : Nat) (x1 : Int64) (x3 : Int32) (x4 : Int32) (mem : Mem) : Option Mem := bd (K_X12_sideHere fu mem) (fun x_24 => bd (K_X12_isGood fu mem) (fun x_25 => (if x_25 = 0 then (K_X12_readsPawn_170 fu x1 x3 x4 x_24 mem) else (if x_24 = (-1) then bd (K_X12_wrong fu 1 mem) (fun m_26 => (K_X12_readsPawn_170 fu x1 x3 x4 x_24 m_26)) else (K_X12_readsPawn_170 fu x1 x3 x4 x_24 mem)))))
def K_X12_readsPawn_135 (fu : Nat) (x1 : Int64) (x3 : Int32) (x4 : Int32) (mem : Mem) : Option Mem := bd (K_X12_isGood fu mem) (fun x_22 => (if x_22 = 0 then (K_X12_readsPawn_146 fu x1 x3 x4 mem) else bd (K_X12_goOn fu mem) (fun m_23 => (K_X12_readsPawn_146 fu x1 x3 x4 m_23))))
def K_X12_readsPawn_83 (fu : Nat) (x1 : Int64) (mem : Mem) : Option Mem := gi 0 184 (bd (K_X12_number fu 0 ((rd mem 2 (Int32.toNatClampNeg 0)) - 1) mem) (fun p_14 => lt_ p_14.1 (fun x_15 => gi 1 184 (bd (K_X12_seen fu 0 ((rd p_14.2 2 (Int32.toNatClampNeg 1)) - 1) p_14.2) (fun p_17 => lt_ p_17.1 (fun x_18 => bd (K_X12_isGood fu p_17.2) (fun x_19 => (if x_19 = 0 then (K_X12_readsPawn_135 fu x1 x_15 x_18 p_17.2) else bd (K_X12_pawnIn fu x_15 x_18 p_17.2) (fun x_20 => (if x_20 = (-1) then (K_X12_readsPawn_135 fu x1 x_15 x_18 p_17.2) else bd (K_X12_wrong fu 4 p_17.2) (fun m_21 => (K_X12_readsPawn_135 fu x1 x_15 x_18 m_21))))))))))))
def K_X12_readsPawn_67 (fu : Nat) (mem : Mem) : Option Mem := lt_ (rl mem 0 12) (fun x_10 => bd (K_X12_isGood fu mem) (fun x_11 => (if x_11 = 0 then (K_X12_readsPawn_83 fu x_10 mem) else bd (K_X12_goOn fu mem) (fun m_12 => (K_X12_readsPawn_83 fu x_10 m_12)))))
def K_X12_readsPawn_47 (fu : Nat) (mem : Mem) : Option Mem := bd (K_X12_isGood fu mem) (fun x_7 => (if x_7 = 0 then (K_X12_readsPawn_67 fu mem) else bd (K_X12_named fu mem) (fun x_8 => (if x_8 = (-1) then (K_X12_readsPawn_67 fu mem) else bd (K_X12_wrong fu 4 mem) (fun m_9 => (K_X12_readsPawn_67 fu m_9))))))
def K_X12_readsPawn_27 (fu : Nat) (mem : Mem) : Option Mem := bd (K_X12_isGood fu mem) (fun x_5 => (if x_5 = 0 then (K_X12_readsPawn_47 fu mem) else (if (rd mem 0 6) = 1 then (K_X12_readsPawn_47 fu mem) else bd (K_X12_wrong fu 1 mem) (fun m_6 => (K_X12_readsPawn_47 fu m_6)))))
def K_X12_readsPawn_16 (fu : Nat) (mem : Mem) : Option Mem := bd (K_X12_isGood fu mem) (fun x_3 => (if x_3 = 0 then (K_X12_readsPawn_27 fu mem) else bd (K_X12_goOn fu mem) (fun m_4 => (K_X12_readsPawn_27 fu m_4))))
def K_X12_readsPawn (fu : Nat) (mem : Mem) : Option Mem := gi 2 184 ((if (rd mem 2 (Int32.toNatClampNeg 2)) = 4 then bd (K_X12_wrong fu 6 mem) (fun m_2 => (K_X12_readsPawn_16 fu m_2)) else (K_X12_readsPawn_16 fu mem)))
def rm_X12_readsPawn : Room := { frames := 7, cells := 0, slots := 0, locals := 164 }
set_option maxHeartbeats 4000000 in
set_option maxRecDepth 100000 in
theorem cu_X12_readsPawn_170 (l : Launch) {D : va_G} {ca ad : Nat → Nat} {Z : (Nat → Prop) → State → Heap → Prop} (hZ : ZOK Z) (fu : Nat) (mem : Mem) (res : Mem) {p : Program} {e : Env} {s : State} {m : MethodId} {args : Array Value} {below : List Frame} {meth : Method} {c : Code} {Q : State → Prop} (hQ : Q = MQ below (va_Qv (fun (u : Unit) => u = ()) (fun _ t => va_P D vwCl (wf 23 ad (cM ca ad) res) t.heap) (AA 23 ad s.heap.size)) args s 0 0 (AA 23 ad s.heap.size)) (X : CX D (tyL ca) 23 ad Z p s m args meth c cX12_readsPawn 8 RX12 none) : ∀ (x1 : Int64) (x3 : Int32) (x4 : Int32) (x5 : Int32) (mem : Mem), K_X12_readsPawn_170 fu x1 x3 x4 x5 mem = some res → WW D 23 ad (cM ca ad) p l e rm_X12_readsPawn s m args below meth c 8 0 0 Q mem 170 [(0, .ref (ad 0)), (1, .long x1), (3, .int x3), (4, .int x4), (5, .int x5)] [] := by
  have w_265 : ∀ (x1 : Int64) (x3 : Int32) (x4 : Int32) (x5 : Int32) (x7 : Int32) (mem : Mem), K_X12_readsPawn_265 fu x1 x3 x4 x5 x7 mem = some res → WW D 23 ad (cM ca ad) p l e rm_X12_readsPawn s m args below meth c 8 0 0 Q mem 265 [(0, .ref (ad 0)), (1, .long x1), (3, .int x3), (4, .int x4), (5, .int x5), (7, .int x7)] [] := by
    intro x1 x3 x4 x5 x7 mem hF
    rw [K_X12_readsPawn_265] at hF
    refine w_aload_n X 0 dX12_readsPawn_265 rfl rfl 266 rfl ?_
    refine w_callVi (fun x => x) (fun _ => mem) X hZ hF [] 0 ml_0 mo_0 rfl rfl rfl kB_X12_isGood kL_X12_143 (fun res h => ct_X12_isGood l hZ fu mem res h) rfl rfl rfl ⟨Nat.le_of_ble_eq_true rfl, Nat.le_of_ble_eq_true rfl⟩ (Nat.le_of_ble_eq_true rfl) ⟨Nat.zero_le _, Nat.zero_le _⟩ dX12_readsPawn_266 269 rfl (fun x_38 hF => ?_)
    refine w_if_ne X hF 273 272 dX12_readsPawn_269 (by decide) rfl (fun hF => ?_) (fun hF => ?_)
    · exact w_vret X hQ (o_inj hF) dX12_readsPawn_272
    · refine w_aload_n X 0 dX12_readsPawn_273 rfl rfl 274 rfl ?_
      refine w_lload_n X 1 dX12_readsPawn_274 rfl rfl 275 rfl ?_
      refine w_iload_n X 2 dX12_readsPawn_275 rfl rfl 276 rfl ?_
      refine w_iload X 3 dX12_readsPawn_276 rfl 278 rfl ?_
      refine w_iload X 4 dX12_readsPawn_278 rfl 280 rfl ?_
      refine w_iload X 5 dX12_readsPawn_280 rfl 282 rfl ?_
      refine w_callVv (fun m => m) X hZ hF [.long x1, .int x3, .int x4, .int x5, .int x7] 0 ml_0 mo_0 rfl rfl rfl kB_X12_comesPawn kL_X12_267 (fun res h => ct_X12_comesPawn l hZ fu x1 x3 x4 x5 x7 mem res h) rfl rfl rfl ⟨Nat.le_of_ble_eq_true rfl, Nat.le_of_ble_eq_true rfl⟩ (Nat.le_of_ble_eq_true rfl) ⟨Nat.zero_le _, Nat.zero_le _⟩ dX12_readsPawn_282 285 rfl (fun m_39 hF => ?_)
      refine w_aload_n X 0 dX12_readsPawn_285 rfl rfl 286 rfl ?_
      refine w_aload_n X 0 dX12_readsPawn_286 rfl rfl 287 rfl ?_
      refine w_getV (v := .ref (ad 2)) X 0 ml_0 mo_0 (T := TX12) (N := 50) rfl in_X12 13 (by decide) kF_X12_20 rfl rfl dX12_readsPawn_287 290 rfl ?_
      refine w_iconst X 2 dX12_readsPawn_290 rfl 291 rfl ?_
      refine w_gi hF (fun h_40 hF => ?_)
      refine w_ial X 2 ml_2 mo_2 (t0 := 0) rfl h_40 dX12_readsPawn_291 292 rfl ?_
      refine w_iconst X 1 dX12_readsPawn_292 rfl 293 rfl ?_
      refine w_isub X dX12_readsPawn_293 294 rfl ?_
      refine w_callVi (fun x => x.1) (fun x => x.2) X hZ hF [.int ((rd m_39 2 (Int32.toNatClampNeg 2)) - 1)] 0 ml_0 mo_0 rfl rfl rfl kB_X12_distanceOf kL_X12_222 (fun res h => ct_X12_distanceOf l hZ fu ((rd m_39 2 (Int32.toNatClampNeg 2)) - 1) m_39 res h) rfl rfl rfl ⟨Nat.le_of_ble_eq_true rfl, Nat.le_of_ble_eq_true rfl⟩ (Nat.le_of_ble_eq_true rfl) ⟨Nat.zero_le _, Nat.zero_le _⟩ dX12_readsPawn_294 297 rfl (fun p_41 hF => ?_)
      refine w_iconst X (-1) dX12_readsPawn_297 rfl 298 rfl ?_
      refine w_icmp_ne X hF 306 301 dX12_readsPawn_298 (by decide) rfl (fun hF => ?_) (fun hF => ?_)
      · refine w_aload_n X 0 dX12_readsPawn_301 rfl rfl 302 rfl ?_
        refine w_iconst X 5 dX12_readsPawn_302 rfl 303 rfl ?_
        refine w_callVv (fun m => m) X hZ hF [.int 5] 0 ml_0 mo_0 rfl rfl rfl kB_X12_wrong kL_X12_150 (fun res h => ct_X12_wrong l hZ fu 5 p_41.2 res h) rfl rfl rfl ⟨Nat.le_of_ble_eq_true rfl, Nat.le_of_ble_eq_true rfl⟩ (Nat.le_of_ble_eq_true rfl) ⟨Nat.zero_le _, Nat.zero_le _⟩ dX12_readsPawn_303 306 rfl (fun m_42 hF => ?_)
        exact w_vret X hQ (o_inj hF) dX12_readsPawn_306
      · exact w_vret X hQ (o_inj hF) dX12_readsPawn_306
  have w_242 : ∀ (x1 : Int64) (x3 : Int32) (x4 : Int32) (x5 : Int32) (xs0 : Int32) (mem : Mem), K_X12_readsPawn_242 fu x1 x3 x4 x5 xs0 mem = some res → WW D 23 ad (cM ca ad) p l e rm_X12_readsPawn s m args below meth c 8 0 0 Q mem 242 [(0, .ref (ad 0)), (1, .long x1), (3, .int x3), (4, .int x4), (5, .int x5)] [.int xs0] := by
    intro x1 x3 x4 x5 xs0 mem hF
    rw [K_X12_readsPawn_242] at hF
    refine w_istore X [(7, .int xs0), (0, .ref (ad 0)), (1, .long x1), (3, .int x3), (4, .int x4), (5, .int x5)] dX12_readsPawn_242 (by decide) rfl 244 rfl ?_
    refine w_aload_n X 1 dX12_readsPawn_244 rfl rfl 245 rfl ?_
    refine w_callVi (fun x => x) (fun _ => mem) X hZ hF [] 0 ml_0 mo_0 rfl rfl rfl kB_X12_isGood kL_X12_143 (fun res h => ct_X12_isGood l hZ fu mem res h) rfl rfl rfl ⟨Nat.le_of_ble_eq_true rfl, Nat.le_of_ble_eq_true rfl⟩ (Nat.le_of_ble_eq_true rfl) ⟨Nat.zero_le _, Nat.zero_le _⟩ dX12_readsPawn_245 248 rfl (fun x_35 hF => ?_)
    refine w_if_eq X hF 265 251 dX12_readsPawn_248 (by decide) rfl (fun hF => ?_) (fun hF => ?_)
    · refine w_keep [1, 2, 3, 4, 5, 0] rfl ?_
      exact w_265 x1 x3 x4 x5 xs0 mem hF
    · refine w_aload_n X 1 dX12_readsPawn_251 rfl rfl 252 rfl ?_
      refine w_bipush X 59 dX12_readsPawn_252 rfl 254 rfl ?_
      refine w_callVi (fun x => x) (fun _ => mem) X hZ hF [.int 59] 0 ml_0 mo_0 rfl rfl rfl kB_X12_isSign kL_X12_147 (fun res h => ct_X12_isSign l hZ fu 59 mem res h) rfl rfl rfl ⟨Nat.le_of_ble_eq_true rfl, Nat.le_of_ble_eq_true rfl⟩ (Nat.le_of_ble_eq_true rfl) ⟨Nat.zero_le _, Nat.zero_le _⟩ dX12_readsPawn_254 257 rfl (fun x_36 hF => ?_)
      refine w_if_ne X hF 265 260 dX12_readsPawn_257 (by decide) rfl (fun hF => ?_) (fun hF => ?_)
      · refine w_aload_n X 1 dX12_readsPawn_260 rfl rfl 261 rfl ?_
        refine w_iconst X 1 dX12_readsPawn_261 rfl 262 rfl ?_
        refine w_callVv (fun m => m) X hZ hF [.int 1] 0 ml_0 mo_0 rfl rfl rfl kB_X12_wrong kL_X12_150 (fun res h => ct_X12_wrong l hZ fu 1 mem res h) rfl rfl rfl ⟨Nat.le_of_ble_eq_true rfl, Nat.le_of_ble_eq_true rfl⟩ (Nat.le_of_ble_eq_true rfl) ⟨Nat.zero_le _, Nat.zero_le _⟩ dX12_readsPawn_262 265 rfl (fun m_37 hF => ?_)
        refine w_keep [1, 2, 3, 4, 5, 0] rfl ?_
        exact w_265 x1 x3 x4 x5 xs0 m_37 hF
      · refine w_keep [1, 2, 3, 4, 5, 0] rfl ?_
        exact w_265 x1 x3 x4 x5 xs0 mem hF
  have w_223 : ∀ (x1 : Int64) (x3 : Int32) (x4 : Int32) (x5 : Int32) (x6 : Int32) (mem : Mem), K_X12_readsPawn_223 fu x1 x3 x4 x5 x6 mem = some res → WW D 23 ad (cM ca ad) p l e rm_X12_readsPawn s m args below meth c 8 0 0 Q mem 223 [(0, .ref (ad 0)), (1, .long x1), (3, .int x3), (4, .int x4), (5, .int x5), (6, .int x6)] [] := by
    intro x1 x3 x4 x5 x6 mem hF
    rw [K_X12_readsPawn_223] at hF
    refine w_iload X 5 dX12_readsPawn_223 rfl 225 rfl ?_
    refine w_if_eq X hF 238 228 dX12_readsPawn_225 (by decide) rfl (fun hF => ?_) (fun hF => ?_)
    · refine w_aload_n X 0 dX12_readsPawn_238 rfl rfl 239 rfl ?_
      refine w_getV (v := .int (rd mem 0 24)) X 0 ml_0 mo_0 (T := TX12) (N := 50) rfl in_X12 24 (by decide) kF_X12_252 rfl rfl dX12_readsPawn_239 242 rfl ?_
      refine w_keep [0, 1, 2, 3, 4] rfl ?_
      exact w_242 x1 x3 x4 x5 (rd mem 0 24) mem hF
    · refine w_aload_n X 0 dX12_readsPawn_228 rfl rfl 229 rfl ?_
      refine w_iconst X 0 dX12_readsPawn_229 rfl 230 rfl ?_
      refine w_bipush X 20 dX12_readsPawn_230 rfl 232 rfl ?_
      refine w_callVi (fun x => x.1) (fun x => x.2) X hZ hF [.int 0, .int 20] 0 ml_0 mo_0 rfl rfl rfl kB_X12_number kL_X12_246 (fun res h => ct_X12_number l hZ fu 0 20 mem res h) rfl rfl rfl ⟨Nat.le_of_ble_eq_true rfl, Nat.le_of_ble_eq_true rfl⟩ (Nat.le_of_ble_eq_true rfl) ⟨Nat.zero_le _, Nat.zero_le _⟩ dX12_readsPawn_232 235 rfl (fun p_34 hF => ?_)
      refine w_goto X 242 dX12_readsPawn_235 (by decide) ?_
      refine w_keep [0, 1, 2, 3, 4] rfl ?_
      exact w_242 x1 x3 x4 x5 p_34.1 p_34.2 hF
  have w_205 : ∀ (x1 : Int64) (x3 : Int32) (x4 : Int32) (x5 : Int32) (mem : Mem), K_X12_readsPawn_205 fu x1 x3 x4 x5 mem = some res → WW D 23 ad (cM ca ad) p l e rm_X12_readsPawn s m args below meth c 8 0 0 Q mem 205 [(0, .ref (ad 0)), (1, .long x1), (3, .int x3), (4, .int x4), (5, .int x5)] [] := by
    intro x1 x3 x4 x5 mem hF
    rw [K_X12_readsPawn_205] at hF
    refine w_aload_n X 0 dX12_readsPawn_205 rfl rfl 206 rfl ?_
    refine w_ldc2 X 24162707 kK_X12_265 dX12_readsPawn_206 209 rfl ?_
    refine w_callVi (fun x => x) (fun _ => mem) X hZ hF [.long 24162707] 0 ml_0 mo_0 rfl rfl rfl kB_X12_isWord kL_X12_156 (fun res h => ct_X12_isWord l hZ fu 24162707 mem res h) rfl rfl rfl ⟨Nat.le_of_ble_eq_true rfl, Nat.le_of_ble_eq_true rfl⟩ (Nat.le_of_ble_eq_true rfl) ⟨Nat.zero_le _, Nat.zero_le _⟩ dX12_readsPawn_209 212 rfl (fun x_32 hF => ?_)
    refine w_istore X [(6, .int x_32), (0, .ref (ad 0)), (1, .long x1), (3, .int x3), (4, .int x4), (5, .int x5)] dX12_readsPawn_212 (by decide) rfl 214 rfl ?_
    refine w_iload X 0 dX12_readsPawn_214 rfl 216 rfl ?_
    refine w_if_eq X hF 223 219 dX12_readsPawn_216 (by decide) rfl (fun hF => ?_) (fun hF => ?_)
    · refine w_keep [1, 2, 3, 4, 5, 0] rfl ?_
      exact w_223 x1 x3 x4 x5 x_32 mem hF
    · refine w_aload_n X 1 dX12_readsPawn_219 rfl rfl 220 rfl ?_
      refine w_callVv (fun m => m) X hZ hF [] 0 ml_0 mo_0 rfl rfl rfl kB_X12_goOn kL_X12_153 (fun res h => ct_X12_goOn l hZ fu mem res h) rfl rfl rfl ⟨Nat.le_of_ble_eq_true rfl, Nat.le_of_ble_eq_true rfl⟩ (Nat.le_of_ble_eq_true rfl) ⟨Nat.zero_le _, Nat.zero_le _⟩ dX12_readsPawn_220 223 rfl (fun m_33 hF => ?_)
      refine w_keep [1, 2, 3, 4, 5, 0] rfl ?_
      exact w_223 x1 x3 x4 x5 x_32 m_33 hF
  have w_194 : ∀ (x1 : Int64) (x3 : Int32) (x4 : Int32) (x5 : Int32) (mem : Mem), K_X12_readsPawn_194 fu x1 x3 x4 x5 mem = some res → WW D 23 ad (cM ca ad) p l e rm_X12_readsPawn s m args below meth c 8 0 0 Q mem 194 [(0, .ref (ad 0)), (1, .long x1), (3, .int x3), (4, .int x4), (5, .int x5)] [] := by
    intro x1 x3 x4 x5 mem hF
    rw [K_X12_readsPawn_194] at hF
    refine w_aload_n X 0 dX12_readsPawn_194 rfl rfl 195 rfl ?_
    refine w_callVi (fun x => x) (fun _ => mem) X hZ hF [] 0 ml_0 mo_0 rfl rfl rfl kB_X12_isGood kL_X12_143 (fun res h => ct_X12_isGood l hZ fu mem res h) rfl rfl rfl ⟨Nat.le_of_ble_eq_true rfl, Nat.le_of_ble_eq_true rfl⟩ (Nat.le_of_ble_eq_true rfl) ⟨Nat.zero_le _, Nat.zero_le _⟩ dX12_readsPawn_195 198 rfl (fun x_30 hF => ?_)
    refine w_if_eq X hF 205 201 dX12_readsPawn_198 (by decide) rfl (fun hF => ?_) (fun hF => ?_)
    · refine w_keep [0, 1, 2, 3, 4] rfl ?_
      exact w_205 x1 x3 x4 x5 mem hF
    · refine w_aload_n X 0 dX12_readsPawn_201 rfl rfl 202 rfl ?_
      refine w_callVv (fun m => m) X hZ hF [] 0 ml_0 mo_0 rfl rfl rfl kB_X12_goOn kL_X12_153 (fun res h => ct_X12_goOn l hZ fu mem res h) rfl rfl rfl ⟨Nat.le_of_ble_eq_true rfl, Nat.le_of_ble_eq_true rfl⟩ (Nat.le_of_ble_eq_true rfl) ⟨Nat.zero_le _, Nat.zero_le _⟩ dX12_readsPawn_202 205 rfl (fun m_31 hF => ?_)
      refine w_keep [0, 1, 2, 3, 4] rfl ?_
      exact w_205 x1 x3 x4 x5 m_31 hF
  intro x1 x3 x4 x5 mem hF
  rw [K_X12_readsPawn_170] at hF
  refine w_aload_n X 0 dX12_readsPawn_170 rfl rfl 171 rfl ?_
  refine w_callVi (fun x => x) (fun _ => mem) X hZ hF [] 0 ml_0 mo_0 rfl rfl rfl kB_X12_isGood kL_X12_143 (fun res h => ct_X12_isGood l hZ fu mem res h) rfl rfl rfl ⟨Nat.le_of_ble_eq_true rfl, Nat.le_of_ble_eq_true rfl⟩ (Nat.le_of_ble_eq_true rfl) ⟨Nat.zero_le _, Nat.zero_le _⟩ dX12_readsPawn_171 174 rfl (fun x_27 hF => ?_)
  refine w_if_eq X hF 194 177 dX12_readsPawn_174 (by decide) rfl (fun hF => ?_) (fun hF => ?_)
  · refine w_keep [0, 1, 2, 3, 4] rfl ?_
    exact w_194 x1 x3 x4 x5 mem hF
  · refine w_aload_n X 0 dX12_readsPawn_177 rfl rfl 178 rfl ?_
    refine w_iload_n X 2 dX12_readsPawn_178 rfl rfl 179 rfl ?_
    refine w_iload X 3 dX12_readsPawn_179 rfl 181 rfl ?_
    refine w_iload X 4 dX12_readsPawn_181 rfl 183 rfl ?_
    refine w_callVi (fun x => x) (fun _ => mem) X hZ hF [.int x3, .int x4, .int x5] 0 ml_0 mo_0 rfl rfl rfl kB_X12_isAtSide kL_X12_199 (fun res h => ct_X12_isAtSide l hZ fu x3 x4 x5 mem res h) rfl rfl rfl ⟨Nat.le_of_ble_eq_true rfl, Nat.le_of_ble_eq_true rfl⟩ (Nat.le_of_ble_eq_true rfl) ⟨Nat.zero_le _, Nat.zero_le _⟩ dX12_readsPawn_183 186 rfl (fun x_28 hF => ?_)
    refine w_if_eq X hF 194 189 dX12_readsPawn_186 (by decide) rfl (fun hF => ?_) (fun hF => ?_)
    · refine w_keep [0, 1, 2, 3, 4] rfl ?_
      exact w_194 x1 x3 x4 x5 mem hF
    · refine w_aload_n X 0 dX12_readsPawn_189 rfl rfl 190 rfl ?_
      refine w_iconst X 4 dX12_readsPawn_190 rfl 191 rfl ?_
      refine w_callVv (fun m => m) X hZ hF [.int 4] 0 ml_0 mo_0 rfl rfl rfl kB_X12_wrong kL_X12_150 (fun res h => ct_X12_wrong l hZ fu 4 mem res h) rfl rfl rfl ⟨Nat.le_of_ble_eq_true rfl, Nat.le_of_ble_eq_true rfl⟩ (Nat.le_of_ble_eq_true rfl) ⟨Nat.zero_le _, Nat.zero_le _⟩ dX12_readsPawn_191 194 rfl (fun m_29 hF => ?_)
      refine w_keep [0, 1, 2, 3, 4] rfl ?_
      exact w_194 x1 x3 x4 x5 m_29 hF
set_option maxHeartbeats 4000000 in
set_option maxRecDepth 100000 in
theorem cu_X12_readsPawn_83 (l : Launch) {D : va_G} {ca ad : Nat → Nat} {Z : (Nat → Prop) → State → Heap → Prop} (hZ : ZOK Z) (fu : Nat) (mem : Mem) (res : Mem) {p : Program} {e : Env} {s : State} {m : MethodId} {args : Array Value} {below : List Frame} {meth : Method} {c : Code} {Q : State → Prop} (hQ : Q = MQ below (va_Qv (fun (u : Unit) => u = ()) (fun _ t => va_P D vwCl (wf 23 ad (cM ca ad) res) t.heap) (AA 23 ad s.heap.size)) args s 0 0 (AA 23 ad s.heap.size)) (X : CX D (tyL ca) 23 ad Z p s m args meth c cX12_readsPawn 8 RX12 none) : ∀ (x1 : Int64) (mem : Mem), K_X12_readsPawn_83 fu x1 mem = some res → WW D 23 ad (cM ca ad) p l e rm_X12_readsPawn s m args below meth c 8 0 0 Q mem 83 [(0, .ref (ad 0)), (1, .long x1)] [] := by
  have w_170 : ∀ (x1 : Int64) (x3 : Int32) (x4 : Int32) (x5 : Int32) (mem : Mem), K_X12_readsPawn_170 fu x1 x3 x4 x5 mem = some res → WW D 23 ad (cM ca ad) p l e rm_X12_readsPawn s m args below meth c 8 0 0 Q mem 170 [(0, .ref (ad 0)), (1, .long x1), (3, .int x3), (4, .int x4), (5, .int x5)] [] := cu_X12_readsPawn_170 l hZ fu mem res hQ X
  have w_146 : ∀ (x1 : Int64) (x3 : Int32) (x4 : Int32) (mem : Mem), K_X12_readsPawn_146 fu x1 x3 x4 mem = some res → WW D 23 ad (cM ca ad) p l e rm_X12_readsPawn s m args below meth c 8 0 0 Q mem 146 [(0, .ref (ad 0)), (1, .long x1), (3, .int x3), (4, .int x4)] [] := by
    intro x1 x3 x4 mem hF
    rw [K_X12_readsPawn_146] at hF
    refine w_aload_n X 0 dX12_readsPawn_146 rfl rfl 147 rfl ?_
    refine w_callVi (fun x => x) (fun _ => mem) X hZ hF [] 0 ml_0 mo_0 rfl rfl rfl kB_X12_sideHere kL_X12_262 (fun res h => ct_X12_sideHere l hZ fu mem res h) rfl rfl rfl ⟨Nat.le_of_ble_eq_true rfl, Nat.le_of_ble_eq_true rfl⟩ (Nat.le_of_ble_eq_true rfl) ⟨Nat.zero_le _, Nat.zero_le _⟩ dX12_readsPawn_147 150 rfl (fun x_24 hF => ?_)
    refine w_istore X [(5, .int x_24), (0, .ref (ad 0)), (1, .long x1), (3, .int x3), (4, .int x4)] dX12_readsPawn_150 (by decide) rfl 152 rfl ?_
    refine w_aload_n X 1 dX12_readsPawn_152 rfl rfl 153 rfl ?_
    refine w_callVi (fun x => x) (fun _ => mem) X hZ hF [] 0 ml_0 mo_0 rfl rfl rfl kB_X12_isGood kL_X12_143 (fun res h => ct_X12_isGood l hZ fu mem res h) rfl rfl rfl ⟨Nat.le_of_ble_eq_true rfl, Nat.le_of_ble_eq_true rfl⟩ (Nat.le_of_ble_eq_true rfl) ⟨Nat.zero_le _, Nat.zero_le _⟩ dX12_readsPawn_153 156 rfl (fun x_25 hF => ?_)
    refine w_if_eq X hF 170 159 dX12_readsPawn_156 (by decide) rfl (fun hF => ?_) (fun hF => ?_)
    · refine w_keep [1, 2, 3, 4, 0] rfl ?_
      exact w_170 x1 x3 x4 x_24 mem hF
    · refine w_iload X 0 dX12_readsPawn_159 rfl 161 rfl ?_
      refine w_iconst X (-1) dX12_readsPawn_161 rfl 162 rfl ?_
      refine w_icmp_ne X hF 170 165 dX12_readsPawn_162 (by decide) rfl (fun hF => ?_) (fun hF => ?_)
      · refine w_aload_n X 1 dX12_readsPawn_165 rfl rfl 166 rfl ?_
        refine w_iconst X 1 dX12_readsPawn_166 rfl 167 rfl ?_
        refine w_callVv (fun m => m) X hZ hF [.int 1] 0 ml_0 mo_0 rfl rfl rfl kB_X12_wrong kL_X12_150 (fun res h => ct_X12_wrong l hZ fu 1 mem res h) rfl rfl rfl ⟨Nat.le_of_ble_eq_true rfl, Nat.le_of_ble_eq_true rfl⟩ (Nat.le_of_ble_eq_true rfl) ⟨Nat.zero_le _, Nat.zero_le _⟩ dX12_readsPawn_167 170 rfl (fun m_26 hF => ?_)
        refine w_keep [1, 2, 3, 4, 0] rfl ?_
        exact w_170 x1 x3 x4 x_24 m_26 hF
      · refine w_keep [1, 2, 3, 4, 0] rfl ?_
        exact w_170 x1 x3 x4 x_24 mem hF
  have w_135 : ∀ (x1 : Int64) (x3 : Int32) (x4 : Int32) (mem : Mem), K_X12_readsPawn_135 fu x1 x3 x4 mem = some res → WW D 23 ad (cM ca ad) p l e rm_X12_readsPawn s m args below meth c 8 0 0 Q mem 135 [(0, .ref (ad 0)), (1, .long x1), (3, .int x3), (4, .int x4)] [] := by
    intro x1 x3 x4 mem hF
    rw [K_X12_readsPawn_135] at hF
    refine w_aload_n X 0 dX12_readsPawn_135 rfl rfl 136 rfl ?_
    refine w_callVi (fun x => x) (fun _ => mem) X hZ hF [] 0 ml_0 mo_0 rfl rfl rfl kB_X12_isGood kL_X12_143 (fun res h => ct_X12_isGood l hZ fu mem res h) rfl rfl rfl ⟨Nat.le_of_ble_eq_true rfl, Nat.le_of_ble_eq_true rfl⟩ (Nat.le_of_ble_eq_true rfl) ⟨Nat.zero_le _, Nat.zero_le _⟩ dX12_readsPawn_136 139 rfl (fun x_22 hF => ?_)
    refine w_if_eq X hF 146 142 dX12_readsPawn_139 (by decide) rfl (fun hF => ?_) (fun hF => ?_)
    · refine w_keep [0, 1, 2, 3] rfl ?_
      exact w_146 x1 x3 x4 mem hF
    · refine w_aload_n X 0 dX12_readsPawn_142 rfl rfl 143 rfl ?_
      refine w_callVv (fun m => m) X hZ hF [] 0 ml_0 mo_0 rfl rfl rfl kB_X12_goOn kL_X12_153 (fun res h => ct_X12_goOn l hZ fu mem res h) rfl rfl rfl ⟨Nat.le_of_ble_eq_true rfl, Nat.le_of_ble_eq_true rfl⟩ (Nat.le_of_ble_eq_true rfl) ⟨Nat.zero_le _, Nat.zero_le _⟩ dX12_readsPawn_143 146 rfl (fun m_23 hF => ?_)
      refine w_keep [0, 1, 2, 3] rfl ?_
      exact w_146 x1 x3 x4 m_23 hF
  intro x1 mem hF
  rw [K_X12_readsPawn_83] at hF
  refine w_aload_n X 0 dX12_readsPawn_83 rfl rfl 84 rfl ?_
  refine w_iconst X 0 dX12_readsPawn_84 rfl 85 rfl ?_
  refine w_aload_n X 0 dX12_readsPawn_85 rfl rfl 86 rfl ?_
  refine w_getV (v := .ref (ad 2)) X 0 ml_0 mo_0 (T := TX12) (N := 50) rfl in_X12 13 (by decide) kF_X12_20 rfl rfl dX12_readsPawn_86 89 rfl ?_
  refine w_iconst X 0 dX12_readsPawn_89 rfl 90 rfl ?_
  refine w_gi hF (fun h_13 hF => ?_)
  refine w_ial X 2 ml_2 mo_2 (t0 := 0) rfl h_13 dX12_readsPawn_90 91 rfl ?_
  refine w_iconst X 1 dX12_readsPawn_91 rfl 92 rfl ?_
  refine w_isub X dX12_readsPawn_92 93 rfl ?_
  refine w_callVi (fun x => x.1) (fun x => x.2) X hZ hF [.int 0, .int ((rd mem 2 (Int32.toNatClampNeg 0)) - 1)] 0 ml_0 mo_0 rfl rfl rfl kB_X12_number kL_X12_246 (fun res h => ct_X12_number l hZ fu 0 ((rd mem 2 (Int32.toNatClampNeg 0)) - 1) mem res h) rfl rfl rfl ⟨Nat.le_of_ble_eq_true rfl, Nat.le_of_ble_eq_true rfl⟩ (Nat.le_of_ble_eq_true rfl) ⟨Nat.zero_le _, Nat.zero_le _⟩ dX12_readsPawn_93 96 rfl (fun p_14 hF => ?_)
  refine w_let hF (fun x_15 hF => ?_)
  refine w_istore_n X [(3, .int x_15), (0, .ref (ad 0)), (1, .long x1)] dX12_readsPawn_96 rfl (by decide) rfl 97 rfl ?_
  refine w_aload_n X 1 dX12_readsPawn_97 rfl rfl 98 rfl ?_
  refine w_iconst X 0 dX12_readsPawn_98 rfl 99 rfl ?_
  refine w_aload_n X 1 dX12_readsPawn_99 rfl rfl 100 rfl ?_
  refine w_getV (v := .ref (ad 2)) X 0 ml_0 mo_0 (T := TX12) (N := 50) rfl in_X12 13 (by decide) kF_X12_20 rfl rfl dX12_readsPawn_100 103 rfl ?_
  refine w_iconst X 1 dX12_readsPawn_103 rfl 104 rfl ?_
  refine w_gi hF (fun h_16 hF => ?_)
  refine w_ial X 2 ml_2 mo_2 (t0 := 0) rfl h_16 dX12_readsPawn_104 105 rfl ?_
  refine w_iconst X 1 dX12_readsPawn_105 rfl 106 rfl ?_
  refine w_isub X dX12_readsPawn_106 107 rfl ?_
  refine w_callVi (fun x => x.1) (fun x => x.2) X hZ hF [.int 0, .int ((rd p_14.2 2 (Int32.toNatClampNeg 1)) - 1)] 0 ml_0 mo_0 rfl rfl rfl kB_X12_seen kL_X12_160 (fun res h => ct_X12_seen l hZ fu 0 ((rd p_14.2 2 (Int32.toNatClampNeg 1)) - 1) p_14.2 res h) rfl rfl rfl ⟨Nat.le_of_ble_eq_true rfl, Nat.le_of_ble_eq_true rfl⟩ (Nat.le_of_ble_eq_true rfl) ⟨Nat.zero_le _, Nat.zero_le _⟩ dX12_readsPawn_107 110 rfl (fun p_17 hF => ?_)
  refine w_let hF (fun x_18 hF => ?_)
  refine w_istore X [(4, .int x_18), (3, .int x_15), (0, .ref (ad 0)), (1, .long x1)] dX12_readsPawn_110 (by decide) rfl 112 rfl ?_
  refine w_aload_n X 2 dX12_readsPawn_112 rfl rfl 113 rfl ?_
  refine w_callVi (fun x => x) (fun _ => p_17.2) X hZ hF [] 0 ml_0 mo_0 rfl rfl rfl kB_X12_isGood kL_X12_143 (fun res h => ct_X12_isGood l hZ fu p_17.2 res h) rfl rfl rfl ⟨Nat.le_of_ble_eq_true rfl, Nat.le_of_ble_eq_true rfl⟩ (Nat.le_of_ble_eq_true rfl) ⟨Nat.zero_le _, Nat.zero_le _⟩ dX12_readsPawn_113 116 rfl (fun x_19 hF => ?_)
  refine w_if_eq X hF 135 119 dX12_readsPawn_116 (by decide) rfl (fun hF => ?_) (fun hF => ?_)
  · refine w_keep [2, 3, 1, 0] rfl ?_
    exact w_135 x1 x_15 x_18 p_17.2 hF
  · refine w_aload_n X 2 dX12_readsPawn_119 rfl rfl 120 rfl ?_
    refine w_iload_n X 1 dX12_readsPawn_120 rfl rfl 121 rfl ?_
    refine w_iload X 0 dX12_readsPawn_121 rfl 123 rfl ?_
    refine w_callVi (fun x => x) (fun _ => p_17.2) X hZ hF [.int x_15, .int x_18] 0 ml_0 mo_0 rfl rfl rfl kB_X12_pawnIn kL_X12_259 (fun res h => ct_X12_pawnIn l hZ fu x_15 x_18 p_17.2 res h) rfl rfl rfl ⟨Nat.le_of_ble_eq_true rfl, Nat.le_of_ble_eq_true rfl⟩ (Nat.le_of_ble_eq_true rfl) ⟨Nat.zero_le _, Nat.zero_le _⟩ dX12_readsPawn_123 126 rfl (fun x_20 hF => ?_)
    refine w_iconst X (-1) dX12_readsPawn_126 rfl 127 rfl ?_
    refine w_icmp_eq X hF 135 130 dX12_readsPawn_127 (by decide) rfl (fun hF => ?_) (fun hF => ?_)
    · refine w_keep [2, 3, 1, 0] rfl ?_
      exact w_135 x1 x_15 x_18 p_17.2 hF
    · refine w_aload_n X 2 dX12_readsPawn_130 rfl rfl 131 rfl ?_
      refine w_iconst X 4 dX12_readsPawn_131 rfl 132 rfl ?_
      refine w_callVv (fun m => m) X hZ hF [.int 4] 0 ml_0 mo_0 rfl rfl rfl kB_X12_wrong kL_X12_150 (fun res h => ct_X12_wrong l hZ fu 4 p_17.2 res h) rfl rfl rfl ⟨Nat.le_of_ble_eq_true rfl, Nat.le_of_ble_eq_true rfl⟩ (Nat.le_of_ble_eq_true rfl) ⟨Nat.zero_le _, Nat.zero_le _⟩ dX12_readsPawn_132 135 rfl (fun m_21 hF => ?_)
      refine w_keep [2, 3, 1, 0] rfl ?_
      exact w_135 x1 x_15 x_18 m_21 hF
set_option maxHeartbeats 4000000 in
set_option maxRecDepth 100000 in
theorem cu_X12_readsPawn_27 (l : Launch) {D : va_G} {ca ad : Nat → Nat} {Z : (Nat → Prop) → State → Heap → Prop} (hZ : ZOK Z) (fu : Nat) (mem : Mem) (res : Mem) {p : Program} {e : Env} {s : State} {m : MethodId} {args : Array Value} {below : List Frame} {meth : Method} {c : Code} {Q : State → Prop} (hQ : Q = MQ below (va_Qv (fun (u : Unit) => u = ()) (fun _ t => va_P D vwCl (wf 23 ad (cM ca ad) res) t.heap) (AA 23 ad s.heap.size)) args s 0 0 (AA 23 ad s.heap.size)) (X : CX D (tyL ca) 23 ad Z p s m args meth c cX12_readsPawn 8 RX12 none) : ∀ (mem : Mem), K_X12_readsPawn_27 fu mem = some res → WW D 23 ad (cM ca ad) p l e rm_X12_readsPawn s m args below meth c 8 0 0 Q mem 27 [(0, .ref (ad 0))] [] := by
  have w_83 : ∀ (x1 : Int64) (mem : Mem), K_X12_readsPawn_83 fu x1 mem = some res → WW D 23 ad (cM ca ad) p l e rm_X12_readsPawn s m args below meth c 8 0 0 Q mem 83 [(0, .ref (ad 0)), (1, .long x1)] [] := cu_X12_readsPawn_83 l hZ fu mem res hQ X
  have w_67 : ∀ (mem : Mem), K_X12_readsPawn_67 fu mem = some res → WW D 23 ad (cM ca ad) p l e rm_X12_readsPawn s m args below meth c 8 0 0 Q mem 67 [(0, .ref (ad 0))] [] := by
    intro mem hF
    rw [K_X12_readsPawn_67] at hF
    refine w_aload_n X 0 dX12_readsPawn_67 rfl rfl 68 rfl ?_
    refine w_getV (v := .long (rl mem 0 12)) X 0 ml_0 mo_0 (T := TX12) (N := 50) rfl in_X12 12 (by decide) kF_X12_123 rfl rfl dX12_readsPawn_68 71 rfl ?_
    refine w_letl hF (fun x_10 hF => ?_)
    refine w_lstore_n X [(1, .long x_10), (0, .ref (ad 0))] dX12_readsPawn_71 rfl (by decide) rfl 72 rfl ?_
    refine w_aload_n X 1 dX12_readsPawn_72 rfl rfl 73 rfl ?_
    refine w_callVi (fun x => x) (fun _ => mem) X hZ hF [] 0 ml_0 mo_0 rfl rfl rfl kB_X12_isGood kL_X12_143 (fun res h => ct_X12_isGood l hZ fu mem res h) rfl rfl rfl ⟨Nat.le_of_ble_eq_true rfl, Nat.le_of_ble_eq_true rfl⟩ (Nat.le_of_ble_eq_true rfl) ⟨Nat.zero_le _, Nat.zero_le _⟩ dX12_readsPawn_73 76 rfl (fun x_11 hF => ?_)
    refine w_if_eq X hF 83 79 dX12_readsPawn_76 (by decide) rfl (fun hF => ?_) (fun hF => ?_)
    · refine w_keep [1, 0] rfl ?_
      exact w_83 x_10 mem hF
    · refine w_aload_n X 1 dX12_readsPawn_79 rfl rfl 80 rfl ?_
      refine w_callVv (fun m => m) X hZ hF [] 0 ml_0 mo_0 rfl rfl rfl kB_X12_goOn kL_X12_153 (fun res h => ct_X12_goOn l hZ fu mem res h) rfl rfl rfl ⟨Nat.le_of_ble_eq_true rfl, Nat.le_of_ble_eq_true rfl⟩ (Nat.le_of_ble_eq_true rfl) ⟨Nat.zero_le _, Nat.zero_le _⟩ dX12_readsPawn_80 83 rfl (fun m_12 hF => ?_)
      refine w_keep [1, 0] rfl ?_
      exact w_83 x_10 m_12 hF
  have w_47 : ∀ (mem : Mem), K_X12_readsPawn_47 fu mem = some res → WW D 23 ad (cM ca ad) p l e rm_X12_readsPawn s m args below meth c 8 0 0 Q mem 47 [(0, .ref (ad 0))] [] := by
    intro mem hF
    rw [K_X12_readsPawn_47] at hF
    refine w_aload_n X 0 dX12_readsPawn_47 rfl rfl 48 rfl ?_
    refine w_callVi (fun x => x) (fun _ => mem) X hZ hF [] 0 ml_0 mo_0 rfl rfl rfl kB_X12_isGood kL_X12_143 (fun res h => ct_X12_isGood l hZ fu mem res h) rfl rfl rfl ⟨Nat.le_of_ble_eq_true rfl, Nat.le_of_ble_eq_true rfl⟩ (Nat.le_of_ble_eq_true rfl) ⟨Nat.zero_le _, Nat.zero_le _⟩ dX12_readsPawn_48 51 rfl (fun x_7 hF => ?_)
    refine w_if_eq X hF 67 54 dX12_readsPawn_51 (by decide) rfl (fun hF => ?_) (fun hF => ?_)
    · refine w_keep [0] rfl ?_
      exact w_67 mem hF
    · refine w_aload_n X 0 dX12_readsPawn_54 rfl rfl 55 rfl ?_
      refine w_callVi (fun x => x) (fun _ => mem) X hZ hF [] 0 ml_0 mo_0 rfl rfl rfl kB_X12_named kL_X12_255 (fun res h => ct_X12_named l hZ fu mem res h) rfl rfl rfl ⟨Nat.le_of_ble_eq_true rfl, Nat.le_of_ble_eq_true rfl⟩ (Nat.le_of_ble_eq_true rfl) ⟨Nat.zero_le _, Nat.zero_le _⟩ dX12_readsPawn_55 58 rfl (fun x_8 hF => ?_)
      refine w_iconst X (-1) dX12_readsPawn_58 rfl 59 rfl ?_
      refine w_icmp_eq X hF 67 62 dX12_readsPawn_59 (by decide) rfl (fun hF => ?_) (fun hF => ?_)
      · refine w_keep [0] rfl ?_
        exact w_67 mem hF
      · refine w_aload_n X 0 dX12_readsPawn_62 rfl rfl 63 rfl ?_
        refine w_iconst X 4 dX12_readsPawn_63 rfl 64 rfl ?_
        refine w_callVv (fun m => m) X hZ hF [.int 4] 0 ml_0 mo_0 rfl rfl rfl kB_X12_wrong kL_X12_150 (fun res h => ct_X12_wrong l hZ fu 4 mem res h) rfl rfl rfl ⟨Nat.le_of_ble_eq_true rfl, Nat.le_of_ble_eq_true rfl⟩ (Nat.le_of_ble_eq_true rfl) ⟨Nat.zero_le _, Nat.zero_le _⟩ dX12_readsPawn_64 67 rfl (fun m_9 hF => ?_)
        refine w_keep [0] rfl ?_
        exact w_67 m_9 hF
  intro mem hF
  rw [K_X12_readsPawn_27] at hF
  refine w_aload_n X 0 dX12_readsPawn_27 rfl rfl 28 rfl ?_
  refine w_callVi (fun x => x) (fun _ => mem) X hZ hF [] 0 ml_0 mo_0 rfl rfl rfl kB_X12_isGood kL_X12_143 (fun res h => ct_X12_isGood l hZ fu mem res h) rfl rfl rfl ⟨Nat.le_of_ble_eq_true rfl, Nat.le_of_ble_eq_true rfl⟩ (Nat.le_of_ble_eq_true rfl) ⟨Nat.zero_le _, Nat.zero_le _⟩ dX12_readsPawn_28 31 rfl (fun x_5 hF => ?_)
  refine w_if_eq X hF 47 34 dX12_readsPawn_31 (by decide) rfl (fun hF => ?_) (fun hF => ?_)
  · refine w_keep [0] rfl ?_
    exact w_47 mem hF
  · refine w_aload_n X 0 dX12_readsPawn_34 rfl rfl 35 rfl ?_
    refine w_getV (v := .int (rd mem 0 6)) X 0 ml_0 mo_0 (T := TX12) (N := 50) rfl in_X12 6 (by decide) kF_X12_130 rfl rfl dX12_readsPawn_35 38 rfl ?_
    refine w_iconst X 1 dX12_readsPawn_38 rfl 39 rfl ?_
    refine w_icmp_eq X hF 47 42 dX12_readsPawn_39 (by decide) rfl (fun hF => ?_) (fun hF => ?_)
    · refine w_keep [0] rfl ?_
      exact w_47 mem hF
    · refine w_aload_n X 0 dX12_readsPawn_42 rfl rfl 43 rfl ?_
      refine w_iconst X 1 dX12_readsPawn_43 rfl 44 rfl ?_
      refine w_callVv (fun m => m) X hZ hF [.int 1] 0 ml_0 mo_0 rfl rfl rfl kB_X12_wrong kL_X12_150 (fun res h => ct_X12_wrong l hZ fu 1 mem res h) rfl rfl rfl ⟨Nat.le_of_ble_eq_true rfl, Nat.le_of_ble_eq_true rfl⟩ (Nat.le_of_ble_eq_true rfl) ⟨Nat.zero_le _, Nat.zero_le _⟩ dX12_readsPawn_44 47 rfl (fun m_6 hF => ?_)
      refine w_keep [0] rfl ?_
      exact w_47 m_6 hF
set_option maxHeartbeats 4000000 in
set_option maxRecDepth 100000 in
theorem ct_X12_readsPawn (l : Launch) {D : va_G} {ca ad : Nat → Nat} {Z : (Nat → Prop) → State → Heap → Prop} (hZ : ZOK Z) (fu : Nat) (mem : Mem) (res : Mem) (hF : K_X12_readsPawn fu mem = some res) : CV l D (tyL ca) 23 ad (cM ca ad) Z yX12_readsPawn cX12_readsPawn 8 rm_X12_readsPawn [.ref (ad 0)] mem res := by
  refine start_v (own := RX12) rfl (by decide) (Nat.le_of_ble_eq_true rfl) ?_
  intro p e s m args below meth c Q hQ X
  rw [K_X12_readsPawn] at hF
  revert hF
  have w_27 : ∀ (mem : Mem), K_X12_readsPawn_27 fu mem = some res → WW D 23 ad (cM ca ad) p l e rm_X12_readsPawn s m args below meth c 8 0 0 Q mem 27 [(0, .ref (ad 0))] [] := cu_X12_readsPawn_27 l hZ fu mem res hQ X
  have w_16 : ∀ (mem : Mem), K_X12_readsPawn_16 fu mem = some res → WW D 23 ad (cM ca ad) p l e rm_X12_readsPawn s m args below meth c 8 0 0 Q mem 16 [(0, .ref (ad 0))] [] := by
    intro mem hF
    rw [K_X12_readsPawn_16] at hF
    refine w_aload_n X 0 dX12_readsPawn_16 rfl rfl 17 rfl ?_
    refine w_callVi (fun x => x) (fun _ => mem) X hZ hF [] 0 ml_0 mo_0 rfl rfl rfl kB_X12_isGood kL_X12_143 (fun res h => ct_X12_isGood l hZ fu mem res h) rfl rfl rfl ⟨Nat.le_of_ble_eq_true rfl, Nat.le_of_ble_eq_true rfl⟩ (Nat.le_of_ble_eq_true rfl) ⟨Nat.zero_le _, Nat.zero_le _⟩ dX12_readsPawn_17 20 rfl (fun x_3 hF => ?_)
    refine w_if_eq X hF 27 23 dX12_readsPawn_20 (by decide) rfl (fun hF => ?_) (fun hF => ?_)
    · refine w_keep [0] rfl ?_
      exact w_27 mem hF
    · refine w_aload_n X 0 dX12_readsPawn_23 rfl rfl 24 rfl ?_
      refine w_callVv (fun m => m) X hZ hF [] 0 ml_0 mo_0 rfl rfl rfl kB_X12_goOn kL_X12_153 (fun res h => ct_X12_goOn l hZ fu mem res h) rfl rfl rfl ⟨Nat.le_of_ble_eq_true rfl, Nat.le_of_ble_eq_true rfl⟩ (Nat.le_of_ble_eq_true rfl) ⟨Nat.zero_le _, Nat.zero_le _⟩ dX12_readsPawn_24 27 rfl (fun m_4 hF => ?_)
      refine w_keep [0] rfl ?_
      exact w_27 m_4 hF
  intro hF
  refine w_aload_n X 0 dX12_readsPawn_0 rfl rfl 1 rfl ?_
  refine w_getV (v := .ref (ad 2)) X 0 ml_0 mo_0 (T := TX12) (N := 50) rfl in_X12 13 (by decide) kF_X12_20 rfl rfl dX12_readsPawn_1 4 rfl ?_
  refine w_iconst X 2 dX12_readsPawn_4 rfl 5 rfl ?_
  refine w_gi hF (fun h_1 hF => ?_)
  refine w_ial X 2 ml_2 mo_2 (t0 := 0) rfl h_1 dX12_readsPawn_5 6 rfl ?_
  refine w_iconst X 4 dX12_readsPawn_6 rfl 7 rfl ?_
  refine w_icmp_ne X hF 16 10 dX12_readsPawn_7 (by decide) rfl (fun hF => ?_) (fun hF => ?_)
  · refine w_aload_n X 0 dX12_readsPawn_10 rfl rfl 11 rfl ?_
    refine w_bipush X 6 dX12_readsPawn_11 rfl 13 rfl ?_
    refine w_callVv (fun m => m) X hZ hF [.int 6] 0 ml_0 mo_0 rfl rfl rfl kB_X12_wrong kL_X12_150 (fun res h => ct_X12_wrong l hZ fu 6 mem res h) rfl rfl rfl ⟨Nat.le_of_ble_eq_true rfl, Nat.le_of_ble_eq_true rfl⟩ (Nat.le_of_ble_eq_true rfl) ⟨Nat.zero_le _, Nat.zero_le _⟩ dX12_readsPawn_13 16 rfl (fun m_2 hF => ?_)
    refine w_keep [0] rfl ?_
    exact w_16 m_2 hF
  · refine w_keep [0] rfl ?_
    exact w_16 mem hF

def K_X12_readsRule_96 (fu : Nat) (x1 : Int32) (mem : Mem) : Option Mem := bd (K_X12_isGood fu mem) (fun x_14 => (if x_14 = 0 then some mem else gi (x1 + 1) 184 ((if (rd mem 2 (Int32.toNatClampNeg (x1 + 1))) < 2 then some mem else bd (K_X12_isWord fu 5969497 mem) (fun x_16 => (if x_16 = 0 then gi (x1 + 1) 184 (lt_ (mw mem 2 (Int32.toNatClampNeg (x1 + 1)) 3) (fun m_18 => bd (K_X12_mustWord fu 215533 m_18) (fun m_19 => gi 0 184 (bd (K_X12_number fu 0 ((rd m_19 2 (Int32.toNatClampNeg 0)) - 1) m_19) (fun p_21 => gi (x1 + 3) 184 (lt_ (mw p_21.2 2 (Int32.toNatClampNeg (x1 + 3)) p_21.1) (fun m_23 => gi 1 184 (bd (K_X12_number fu 0 ((rd m_23 2 (Int32.toNatClampNeg 1)) - 1) m_23) (fun p_25 => gi (x1 + 4) 184 (lt_ (mw p_25.2 2 (Int32.toNatClampNeg (x1 + 4)) p_25.1) (fun m_27 => bd (K_X12_mustWord fu 655 m_27) (fun m_28 => gi 0 184 (bd (K_X12_number fu 0 ((rd m_28 2 (Int32.toNatClampNeg 0)) - 1) m_28) (fun p_30 => gi (x1 + 5) 184 (lt_ (mw p_30.2 2 (Int32.toNatClampNeg (x1 + 5)) p_30.1) (fun m_32 => gi 1 184 (bd (K_X12_number fu 0 ((rd m_32 2 (Int32.toNatClampNeg 1)) - 1) m_32) (fun p_34 => gi (x1 + 6) 184 (lt_ (mw p_34.2 2 (Int32.toNatClampNeg (x1 + 6)) p_34.1) (fun m_36 => some m_36)))))))))))))))))))) else bd (K_X12_goOn fu mem) (fun m_37 => bd (K_X12_number fu 2 5 m_37) (fun p_38 => gi (x1 + 3) 184 (lt_ (mw p_38.2 2 (Int32.toNatClampNeg (x1 + 3)) p_38.1) (fun m_40 => bd (K_X12_mustWord fu 52 m_40) (fun m_41 => gi (x1 + 3) 184 (bd (K_X12_number fu 0 ((rd m_41 2 (Int32.toNatClampNeg (x1 + 3))) - 1) m_41) (fun p_43 => gi (x1 + 4) 184 (lt_ (mw p_43.2 2 (Int32.toNatClampNeg (x1 + 4)) p_43.1) (fun m_45 => some m_45)))))))))))))))
def K_X12_readsRule_85 (fu : Nat) (x1 : Int32) (mem : Mem) : Option Mem := bd (K_X12_isGood fu mem) (fun x_12 => (if x_12 = 0 then (K_X12_readsRule_96 fu x1 mem) else bd (K_X12_goOn fu mem) (fun m_13 => (K_X12_readsRule_96 fu x1 m_13))))
def K_X12_readsRule_36 (fu : Nat) (x1 : Int32) (xs0 : Int32) (xs1 : Int32) (mem : Mem) : Option Mem := gi xs1 184 (lt_ (mw mem 2 (Int32.toNatClampNeg xs1) xs0) (fun m_4 => bd (K_X12_sideHere fu m_4) (fun x_5 => gi (x1 + 2) 184 (lt_ (mw m_4 2 (Int32.toNatClampNeg (x1 + 2)) x_5) (fun m_7 => bd (K_X12_isGood fu m_7) (fun x_8 => (if x_8 = 0 then (K_X12_readsRule_85 fu x1 m_7) else gi (x1 + 1) 184 ((if (rd m_7 2 (Int32.toNatClampNeg (x1 + 1))) = 2 then gi (x1 + 2) 184 ((if (rd m_7 2 (Int32.toNatClampNeg (x1 + 2))) = (-1) then bd (K_X12_wrong fu 1 m_7) (fun m_11 => (K_X12_readsRule_85 fu x1 m_11)) else (K_X12_readsRule_85 fu x1 m_7))) else (K_X12_readsRule_85 fu x1 m_7))))))))))
def K_X12_readsRule (fu : Nat) (x1 : Int32) (mem : Mem) : Option Mem := bd (K_X12_isWord fu 66667 mem) (fun x_1 => (if x_1 = 0 then bd (K_X12_isWord fu 1279278 mem) (fun x_2 => (if x_2 = 0 then (K_X12_readsRule_36 fu x1 2 (x1 + 1) mem) else (K_X12_readsRule_36 fu x1 1 (x1 + 1) mem))) else (K_X12_readsRule_36 fu x1 0 (x1 + 1) mem)))
def rm_X12_readsRule : Room := { frames := 3, cells := 0, slots := 0, locals := 70 }
set_option maxHeartbeats 4000000 in
set_option maxRecDepth 100000 in
theorem ct_X12_readsRule (l : Launch) {D : va_G} {ca ad : Nat → Nat} {Z : (Nat → Prop) → State → Heap → Prop} (hZ : ZOK Z) (fu : Nat) (x1 : Int32) (mem : Mem) (res : Mem) (hF : K_X12_readsRule fu x1 mem = some res) : CV l D (tyL ca) 23 ad (cM ca ad) Z yX12_readsRule cX12_readsRule 2 rm_X12_readsRule [.ref (ad 0), .int x1] mem res := by
  refine start_v (own := RX12) rfl (by decide) (Nat.le_of_ble_eq_true rfl) ?_
  intro p e s m args below meth c Q hQ X
  rw [K_X12_readsRule] at hF
  revert hF
  have w_96 : ∀ (x1 : Int32) (mem : Mem), K_X12_readsRule_96 fu x1 mem = some res → WW D 23 ad (cM ca ad) p l e rm_X12_readsRule s m args below meth c 2 0 0 Q mem 96 [(0, .ref (ad 0)), (1, .int x1)] [] := by
    intro x1 mem hF
    rw [K_X12_readsRule_96] at hF
    refine w_aload_n X 0 dX12_readsRule_96 rfl rfl 97 rfl ?_
    refine w_callVi (fun x => x) (fun _ => mem) X hZ hF [] 0 ml_0 mo_0 rfl rfl rfl kB_X12_isGood kL_X12_143 (fun res h => ct_X12_isGood l hZ fu mem res h) rfl rfl rfl ⟨Nat.le_of_ble_eq_true rfl, Nat.le_of_ble_eq_true rfl⟩ (Nat.le_of_ble_eq_true rfl) ⟨Nat.zero_le _, Nat.zero_le _⟩ dX12_readsRule_97 100 rfl (fun x_14 hF => ?_)
    refine w_if_eq X hF 115 103 dX12_readsRule_100 (by decide) rfl (fun hF => ?_) (fun hF => ?_)
    · exact w_vret X hQ (o_inj hF) dX12_readsRule_115
    · refine w_aload_n X 0 dX12_readsRule_103 rfl rfl 104 rfl ?_
      refine w_getV (v := .ref (ad 2)) X 0 ml_0 mo_0 (T := TX12) (N := 50) rfl in_X12 13 (by decide) kF_X12_20 rfl rfl dX12_readsRule_104 107 rfl ?_
      refine w_iload_n X 1 dX12_readsRule_107 rfl rfl 108 rfl ?_
      refine w_iconst X 1 dX12_readsRule_108 rfl 109 rfl ?_
      refine w_iadd X dX12_readsRule_109 110 rfl ?_
      refine w_gi hF (fun h_15 hF => ?_)
      refine w_ial X 2 ml_2 mo_2 (t0 := 0) rfl h_15 dX12_readsRule_110 111 rfl ?_
      refine w_iconst X 2 dX12_readsRule_111 rfl 112 rfl ?_
      refine w_icmp_ge X hF 116 115 dX12_readsRule_112 (by decide) rfl (fun hF => ?_) (fun hF => ?_)
      · exact w_vret X hQ (o_inj hF) dX12_readsRule_115
      · refine w_aload_n X 0 dX12_readsRule_116 rfl rfl 117 rfl ?_
        refine w_ldc2 X 5969497 kK_X12_278 dX12_readsRule_117 120 rfl ?_
        refine w_callVi (fun x => x) (fun _ => mem) X hZ hF [.long 5969497] 0 ml_0 mo_0 rfl rfl rfl kB_X12_isWord kL_X12_156 (fun res h => ct_X12_isWord l hZ fu 5969497 mem res h) rfl rfl rfl ⟨Nat.le_of_ble_eq_true rfl, Nat.le_of_ble_eq_true rfl⟩ (Nat.le_of_ble_eq_true rfl) ⟨Nat.zero_le _, Nat.zero_le _⟩ dX12_readsRule_120 123 rfl (fun x_16 hF => ?_)
        refine w_if_eq X hF 175 126 dX12_readsRule_123 (by decide) rfl (fun hF => ?_) (fun hF => ?_)
        · refine w_aload_n X 0 dX12_readsRule_175 rfl rfl 176 rfl ?_
          refine w_getV (v := .ref (ad 2)) X 0 ml_0 mo_0 (T := TX12) (N := 50) rfl in_X12 13 (by decide) kF_X12_20 rfl rfl dX12_readsRule_176 179 rfl ?_
          refine w_iload_n X 1 dX12_readsRule_179 rfl rfl 180 rfl ?_
          refine w_iconst X 1 dX12_readsRule_180 rfl 181 rfl ?_
          refine w_iadd X dX12_readsRule_181 182 rfl ?_
          refine w_iconst X 3 dX12_readsRule_182 rfl 183 rfl ?_
          refine w_gi hF (fun h_17 hF => ?_)
          refine w_ias X 2 ml_2 mo_2 (t0 := 0) rfl h_17 dX12_readsRule_183 184 rfl ?_
          refine w_letm hF (fun m_18 hF => ?_)
          refine w_aload_n X 0 dX12_readsRule_184 rfl rfl 185 rfl ?_
          refine w_ldc2 X 215533 kK_X12_286 dX12_readsRule_185 188 rfl ?_
          refine w_callVv (fun m => m) X hZ hF [.long 215533] 0 ml_0 mo_0 rfl rfl rfl kB_X12_mustWord kL_X12_282 (fun res h => ct_X12_mustWord l hZ fu 215533 m_18 res h) rfl rfl rfl ⟨Nat.le_of_ble_eq_true rfl, Nat.le_of_ble_eq_true rfl⟩ (Nat.le_of_ble_eq_true rfl) ⟨Nat.zero_le _, Nat.zero_le _⟩ dX12_readsRule_188 191 rfl (fun m_19 hF => ?_)
          refine w_aload_n X 0 dX12_readsRule_191 rfl rfl 192 rfl ?_
          refine w_getV (v := .ref (ad 2)) X 0 ml_0 mo_0 (T := TX12) (N := 50) rfl in_X12 13 (by decide) kF_X12_20 rfl rfl dX12_readsRule_192 195 rfl ?_
          refine w_iload_n X 1 dX12_readsRule_195 rfl rfl 196 rfl ?_
          refine w_iconst X 3 dX12_readsRule_196 rfl 197 rfl ?_
          refine w_iadd X dX12_readsRule_197 198 rfl ?_
          refine w_aload_n X 0 dX12_readsRule_198 rfl rfl 199 rfl ?_
          refine w_iconst X 0 dX12_readsRule_199 rfl 200 rfl ?_
          refine w_aload_n X 0 dX12_readsRule_200 rfl rfl 201 rfl ?_
          refine w_getV (v := .ref (ad 2)) X 0 ml_0 mo_0 (T := TX12) (N := 50) rfl in_X12 13 (by decide) kF_X12_20 rfl rfl dX12_readsRule_201 204 rfl ?_
          refine w_iconst X 0 dX12_readsRule_204 rfl 205 rfl ?_
          refine w_gi hF (fun h_20 hF => ?_)
          refine w_ial X 2 ml_2 mo_2 (t0 := 0) rfl h_20 dX12_readsRule_205 206 rfl ?_
          refine w_iconst X 1 dX12_readsRule_206 rfl 207 rfl ?_
          refine w_isub X dX12_readsRule_207 208 rfl ?_
          refine w_callVi (fun x => x.1) (fun x => x.2) X hZ hF [.int 0, .int ((rd m_19 2 (Int32.toNatClampNeg 0)) - 1)] 0 ml_0 mo_0 rfl rfl rfl kB_X12_number kL_X12_246 (fun res h => ct_X12_number l hZ fu 0 ((rd m_19 2 (Int32.toNatClampNeg 0)) - 1) m_19 res h) rfl rfl rfl ⟨Nat.le_of_ble_eq_true rfl, Nat.le_of_ble_eq_true rfl⟩ (Nat.le_of_ble_eq_true rfl) ⟨Nat.zero_le _, Nat.zero_le _⟩ dX12_readsRule_208 211 rfl (fun p_21 hF => ?_)
          refine w_gi hF (fun h_22 hF => ?_)
          refine w_ias X 2 ml_2 mo_2 (t0 := 0) rfl h_22 dX12_readsRule_211 212 rfl ?_
          refine w_letm hF (fun m_23 hF => ?_)
          refine w_aload_n X 0 dX12_readsRule_212 rfl rfl 213 rfl ?_
          refine w_getV (v := .ref (ad 2)) X 0 ml_0 mo_0 (T := TX12) (N := 50) rfl in_X12 13 (by decide) kF_X12_20 rfl rfl dX12_readsRule_213 216 rfl ?_
          refine w_iload_n X 1 dX12_readsRule_216 rfl rfl 217 rfl ?_
          refine w_iconst X 4 dX12_readsRule_217 rfl 218 rfl ?_
          refine w_iadd X dX12_readsRule_218 219 rfl ?_
          refine w_aload_n X 0 dX12_readsRule_219 rfl rfl 220 rfl ?_
          refine w_iconst X 0 dX12_readsRule_220 rfl 221 rfl ?_
          refine w_aload_n X 0 dX12_readsRule_221 rfl rfl 222 rfl ?_
          refine w_getV (v := .ref (ad 2)) X 0 ml_0 mo_0 (T := TX12) (N := 50) rfl in_X12 13 (by decide) kF_X12_20 rfl rfl dX12_readsRule_222 225 rfl ?_
          refine w_iconst X 1 dX12_readsRule_225 rfl 226 rfl ?_
          refine w_gi hF (fun h_24 hF => ?_)
          refine w_ial X 2 ml_2 mo_2 (t0 := 0) rfl h_24 dX12_readsRule_226 227 rfl ?_
          refine w_iconst X 1 dX12_readsRule_227 rfl 228 rfl ?_
          refine w_isub X dX12_readsRule_228 229 rfl ?_
          refine w_callVi (fun x => x.1) (fun x => x.2) X hZ hF [.int 0, .int ((rd m_23 2 (Int32.toNatClampNeg 1)) - 1)] 0 ml_0 mo_0 rfl rfl rfl kB_X12_number kL_X12_246 (fun res h => ct_X12_number l hZ fu 0 ((rd m_23 2 (Int32.toNatClampNeg 1)) - 1) m_23 res h) rfl rfl rfl ⟨Nat.le_of_ble_eq_true rfl, Nat.le_of_ble_eq_true rfl⟩ (Nat.le_of_ble_eq_true rfl) ⟨Nat.zero_le _, Nat.zero_le _⟩ dX12_readsRule_229 232 rfl (fun p_25 hF => ?_)
          refine w_gi hF (fun h_26 hF => ?_)
          refine w_ias X 2 ml_2 mo_2 (t0 := 0) rfl h_26 dX12_readsRule_232 233 rfl ?_
          refine w_letm hF (fun m_27 hF => ?_)
          refine w_aload_n X 0 dX12_readsRule_233 rfl rfl 234 rfl ?_
          refine w_ldc2 X 655 kK_X12_288 dX12_readsRule_234 237 rfl ?_
          refine w_callVv (fun m => m) X hZ hF [.long 655] 0 ml_0 mo_0 rfl rfl rfl kB_X12_mustWord kL_X12_282 (fun res h => ct_X12_mustWord l hZ fu 655 m_27 res h) rfl rfl rfl ⟨Nat.le_of_ble_eq_true rfl, Nat.le_of_ble_eq_true rfl⟩ (Nat.le_of_ble_eq_true rfl) ⟨Nat.zero_le _, Nat.zero_le _⟩ dX12_readsRule_237 240 rfl (fun m_28 hF => ?_)
          refine w_aload_n X 0 dX12_readsRule_240 rfl rfl 241 rfl ?_
          refine w_getV (v := .ref (ad 2)) X 0 ml_0 mo_0 (T := TX12) (N := 50) rfl in_X12 13 (by decide) kF_X12_20 rfl rfl dX12_readsRule_241 244 rfl ?_
          refine w_iload_n X 1 dX12_readsRule_244 rfl rfl 245 rfl ?_
          refine w_iconst X 5 dX12_readsRule_245 rfl 246 rfl ?_
          refine w_iadd X dX12_readsRule_246 247 rfl ?_
          refine w_aload_n X 0 dX12_readsRule_247 rfl rfl 248 rfl ?_
          refine w_iconst X 0 dX12_readsRule_248 rfl 249 rfl ?_
          refine w_aload_n X 0 dX12_readsRule_249 rfl rfl 250 rfl ?_
          refine w_getV (v := .ref (ad 2)) X 0 ml_0 mo_0 (T := TX12) (N := 50) rfl in_X12 13 (by decide) kF_X12_20 rfl rfl dX12_readsRule_250 253 rfl ?_
          refine w_iconst X 0 dX12_readsRule_253 rfl 254 rfl ?_
          refine w_gi hF (fun h_29 hF => ?_)
          refine w_ial X 2 ml_2 mo_2 (t0 := 0) rfl h_29 dX12_readsRule_254 255 rfl ?_
          refine w_iconst X 1 dX12_readsRule_255 rfl 256 rfl ?_
          refine w_isub X dX12_readsRule_256 257 rfl ?_
          refine w_callVi (fun x => x.1) (fun x => x.2) X hZ hF [.int 0, .int ((rd m_28 2 (Int32.toNatClampNeg 0)) - 1)] 0 ml_0 mo_0 rfl rfl rfl kB_X12_number kL_X12_246 (fun res h => ct_X12_number l hZ fu 0 ((rd m_28 2 (Int32.toNatClampNeg 0)) - 1) m_28 res h) rfl rfl rfl ⟨Nat.le_of_ble_eq_true rfl, Nat.le_of_ble_eq_true rfl⟩ (Nat.le_of_ble_eq_true rfl) ⟨Nat.zero_le _, Nat.zero_le _⟩ dX12_readsRule_257 260 rfl (fun p_30 hF => ?_)
          refine w_gi hF (fun h_31 hF => ?_)
          refine w_ias X 2 ml_2 mo_2 (t0 := 0) rfl h_31 dX12_readsRule_260 261 rfl ?_
          refine w_letm hF (fun m_32 hF => ?_)
          refine w_aload_n X 0 dX12_readsRule_261 rfl rfl 262 rfl ?_
          refine w_getV (v := .ref (ad 2)) X 0 ml_0 mo_0 (T := TX12) (N := 50) rfl in_X12 13 (by decide) kF_X12_20 rfl rfl dX12_readsRule_262 265 rfl ?_
          refine w_iload_n X 1 dX12_readsRule_265 rfl rfl 266 rfl ?_
          refine w_bipush X 6 dX12_readsRule_266 rfl 268 rfl ?_
          refine w_iadd X dX12_readsRule_268 269 rfl ?_
          refine w_aload_n X 0 dX12_readsRule_269 rfl rfl 270 rfl ?_
          refine w_iconst X 0 dX12_readsRule_270 rfl 271 rfl ?_
          refine w_aload_n X 0 dX12_readsRule_271 rfl rfl 272 rfl ?_
          refine w_getV (v := .ref (ad 2)) X 0 ml_0 mo_0 (T := TX12) (N := 50) rfl in_X12 13 (by decide) kF_X12_20 rfl rfl dX12_readsRule_272 275 rfl ?_
          refine w_iconst X 1 dX12_readsRule_275 rfl 276 rfl ?_
          refine w_gi hF (fun h_33 hF => ?_)
          refine w_ial X 2 ml_2 mo_2 (t0 := 0) rfl h_33 dX12_readsRule_276 277 rfl ?_
          refine w_iconst X 1 dX12_readsRule_277 rfl 278 rfl ?_
          refine w_isub X dX12_readsRule_278 279 rfl ?_
          refine w_callVi (fun x => x.1) (fun x => x.2) X hZ hF [.int 0, .int ((rd m_32 2 (Int32.toNatClampNeg 1)) - 1)] 0 ml_0 mo_0 rfl rfl rfl kB_X12_number kL_X12_246 (fun res h => ct_X12_number l hZ fu 0 ((rd m_32 2 (Int32.toNatClampNeg 1)) - 1) m_32 res h) rfl rfl rfl ⟨Nat.le_of_ble_eq_true rfl, Nat.le_of_ble_eq_true rfl⟩ (Nat.le_of_ble_eq_true rfl) ⟨Nat.zero_le _, Nat.zero_le _⟩ dX12_readsRule_279 282 rfl (fun p_34 hF => ?_)
          refine w_gi hF (fun h_35 hF => ?_)
          refine w_ias X 2 ml_2 mo_2 (t0 := 0) rfl h_35 dX12_readsRule_282 283 rfl ?_
          refine w_letm hF (fun m_36 hF => ?_)
          exact w_vret X hQ (o_inj hF) dX12_readsRule_283
        · refine w_aload_n X 0 dX12_readsRule_126 rfl rfl 127 rfl ?_
          refine w_callVv (fun m => m) X hZ hF [] 0 ml_0 mo_0 rfl rfl rfl kB_X12_goOn kL_X12_153 (fun res h => ct_X12_goOn l hZ fu mem res h) rfl rfl rfl ⟨Nat.le_of_ble_eq_true rfl, Nat.le_of_ble_eq_true rfl⟩ (Nat.le_of_ble_eq_true rfl) ⟨Nat.zero_le _, Nat.zero_le _⟩ dX12_readsRule_127 130 rfl (fun m_37 hF => ?_)
          refine w_aload_n X 0 dX12_readsRule_130 rfl rfl 131 rfl ?_
          refine w_getV (v := .ref (ad 2)) X 0 ml_0 mo_0 (T := TX12) (N := 50) rfl in_X12 13 (by decide) kF_X12_20 rfl rfl dX12_readsRule_131 134 rfl ?_
          refine w_iload_n X 1 dX12_readsRule_134 rfl rfl 135 rfl ?_
          refine w_iconst X 3 dX12_readsRule_135 rfl 136 rfl ?_
          refine w_iadd X dX12_readsRule_136 137 rfl ?_
          refine w_aload_n X 0 dX12_readsRule_137 rfl rfl 138 rfl ?_
          refine w_iconst X 2 dX12_readsRule_138 rfl 139 rfl ?_
          refine w_iconst X 5 dX12_readsRule_139 rfl 140 rfl ?_
          refine w_callVi (fun x => x.1) (fun x => x.2) X hZ hF [.int 2, .int 5] 0 ml_0 mo_0 rfl rfl rfl kB_X12_number kL_X12_246 (fun res h => ct_X12_number l hZ fu 2 5 m_37 res h) rfl rfl rfl ⟨Nat.le_of_ble_eq_true rfl, Nat.le_of_ble_eq_true rfl⟩ (Nat.le_of_ble_eq_true rfl) ⟨Nat.zero_le _, Nat.zero_le _⟩ dX12_readsRule_140 143 rfl (fun p_38 hF => ?_)
          refine w_gi hF (fun h_39 hF => ?_)
          refine w_ias X 2 ml_2 mo_2 (t0 := 0) rfl h_39 dX12_readsRule_143 144 rfl ?_
          refine w_letm hF (fun m_40 hF => ?_)
          refine w_aload_n X 0 dX12_readsRule_144 rfl rfl 145 rfl ?_
          refine w_ldc2 X 52 kK_X12_280 dX12_readsRule_145 148 rfl ?_
          refine w_callVv (fun m => m) X hZ hF [.long 52] 0 ml_0 mo_0 rfl rfl rfl kB_X12_mustWord kL_X12_282 (fun res h => ct_X12_mustWord l hZ fu 52 m_40 res h) rfl rfl rfl ⟨Nat.le_of_ble_eq_true rfl, Nat.le_of_ble_eq_true rfl⟩ (Nat.le_of_ble_eq_true rfl) ⟨Nat.zero_le _, Nat.zero_le _⟩ dX12_readsRule_148 151 rfl (fun m_41 hF => ?_)
          refine w_aload_n X 0 dX12_readsRule_151 rfl rfl 152 rfl ?_
          refine w_getV (v := .ref (ad 2)) X 0 ml_0 mo_0 (T := TX12) (N := 50) rfl in_X12 13 (by decide) kF_X12_20 rfl rfl dX12_readsRule_152 155 rfl ?_
          refine w_iload_n X 1 dX12_readsRule_155 rfl rfl 156 rfl ?_
          refine w_iconst X 4 dX12_readsRule_156 rfl 157 rfl ?_
          refine w_iadd X dX12_readsRule_157 158 rfl ?_
          refine w_aload_n X 0 dX12_readsRule_158 rfl rfl 159 rfl ?_
          refine w_iconst X 0 dX12_readsRule_159 rfl 160 rfl ?_
          refine w_aload_n X 0 dX12_readsRule_160 rfl rfl 161 rfl ?_
          refine w_getV (v := .ref (ad 2)) X 0 ml_0 mo_0 (T := TX12) (N := 50) rfl in_X12 13 (by decide) kF_X12_20 rfl rfl dX12_readsRule_161 164 rfl ?_
          refine w_iload_n X 1 dX12_readsRule_164 rfl rfl 165 rfl ?_
          refine w_iconst X 3 dX12_readsRule_165 rfl 166 rfl ?_
          refine w_iadd X dX12_readsRule_166 167 rfl ?_
          refine w_gi hF (fun h_42 hF => ?_)
          refine w_ial X 2 ml_2 mo_2 (t0 := 0) rfl h_42 dX12_readsRule_167 168 rfl ?_
          refine w_iconst X 1 dX12_readsRule_168 rfl 169 rfl ?_
          refine w_isub X dX12_readsRule_169 170 rfl ?_
          refine w_callVi (fun x => x.1) (fun x => x.2) X hZ hF [.int 0, .int ((rd m_41 2 (Int32.toNatClampNeg (x1 + 3))) - 1)] 0 ml_0 mo_0 rfl rfl rfl kB_X12_number kL_X12_246 (fun res h => ct_X12_number l hZ fu 0 ((rd m_41 2 (Int32.toNatClampNeg (x1 + 3))) - 1) m_41 res h) rfl rfl rfl ⟨Nat.le_of_ble_eq_true rfl, Nat.le_of_ble_eq_true rfl⟩ (Nat.le_of_ble_eq_true rfl) ⟨Nat.zero_le _, Nat.zero_le _⟩ dX12_readsRule_170 173 rfl (fun p_43 hF => ?_)
          refine w_gi hF (fun h_44 hF => ?_)
          refine w_ias X 2 ml_2 mo_2 (t0 := 0) rfl h_44 dX12_readsRule_173 174 rfl ?_
          refine w_letm hF (fun m_45 hF => ?_)
          exact w_vret X hQ (o_inj hF) dX12_readsRule_174
  have w_85 : ∀ (x1 : Int32) (mem : Mem), K_X12_readsRule_85 fu x1 mem = some res → WW D 23 ad (cM ca ad) p l e rm_X12_readsRule s m args below meth c 2 0 0 Q mem 85 [(0, .ref (ad 0)), (1, .int x1)] [] := by
    intro x1 mem hF
    rw [K_X12_readsRule_85] at hF
    refine w_aload_n X 0 dX12_readsRule_85 rfl rfl 86 rfl ?_
    refine w_callVi (fun x => x) (fun _ => mem) X hZ hF [] 0 ml_0 mo_0 rfl rfl rfl kB_X12_isGood kL_X12_143 (fun res h => ct_X12_isGood l hZ fu mem res h) rfl rfl rfl ⟨Nat.le_of_ble_eq_true rfl, Nat.le_of_ble_eq_true rfl⟩ (Nat.le_of_ble_eq_true rfl) ⟨Nat.zero_le _, Nat.zero_le _⟩ dX12_readsRule_86 89 rfl (fun x_12 hF => ?_)
    refine w_if_eq X hF 96 92 dX12_readsRule_89 (by decide) rfl (fun hF => ?_) (fun hF => ?_)
    · refine w_keep [0, 1] rfl ?_
      exact w_96 x1 mem hF
    · refine w_aload_n X 0 dX12_readsRule_92 rfl rfl 93 rfl ?_
      refine w_callVv (fun m => m) X hZ hF [] 0 ml_0 mo_0 rfl rfl rfl kB_X12_goOn kL_X12_153 (fun res h => ct_X12_goOn l hZ fu mem res h) rfl rfl rfl ⟨Nat.le_of_ble_eq_true rfl, Nat.le_of_ble_eq_true rfl⟩ (Nat.le_of_ble_eq_true rfl) ⟨Nat.zero_le _, Nat.zero_le _⟩ dX12_readsRule_93 96 rfl (fun m_13 hF => ?_)
      refine w_keep [0, 1] rfl ?_
      exact w_96 x1 m_13 hF
  have w_36 : ∀ (x1 : Int32) (xs0 : Int32) (xs1 : Int32) (mem : Mem), K_X12_readsRule_36 fu x1 xs0 xs1 mem = some res → WW D 23 ad (cM ca ad) p l e rm_X12_readsRule s m args below meth c 2 0 0 Q mem 36 [(0, .ref (ad 0)), (1, .int x1)] [.int xs0, .int xs1, .ref (ad 2)] := by
    intro x1 xs0 xs1 mem hF
    rw [K_X12_readsRule_36] at hF
    refine w_gi hF (fun h_3 hF => ?_)
    refine w_ias X 2 ml_2 mo_2 (t0 := 0) rfl h_3 dX12_readsRule_36 37 rfl ?_
    refine w_letm hF (fun m_4 hF => ?_)
    refine w_aload_n X 0 dX12_readsRule_37 rfl rfl 38 rfl ?_
    refine w_getV (v := .ref (ad 2)) X 0 ml_0 mo_0 (T := TX12) (N := 50) rfl in_X12 13 (by decide) kF_X12_20 rfl rfl dX12_readsRule_38 41 rfl ?_
    refine w_iload_n X 1 dX12_readsRule_41 rfl rfl 42 rfl ?_
    refine w_iconst X 2 dX12_readsRule_42 rfl 43 rfl ?_
    refine w_iadd X dX12_readsRule_43 44 rfl ?_
    refine w_aload_n X 0 dX12_readsRule_44 rfl rfl 45 rfl ?_
    refine w_callVi (fun x => x) (fun _ => m_4) X hZ hF [] 0 ml_0 mo_0 rfl rfl rfl kB_X12_sideHere kL_X12_262 (fun res h => ct_X12_sideHere l hZ fu m_4 res h) rfl rfl rfl ⟨Nat.le_of_ble_eq_true rfl, Nat.le_of_ble_eq_true rfl⟩ (Nat.le_of_ble_eq_true rfl) ⟨Nat.zero_le _, Nat.zero_le _⟩ dX12_readsRule_45 48 rfl (fun x_5 hF => ?_)
    refine w_gi hF (fun h_6 hF => ?_)
    refine w_ias X 2 ml_2 mo_2 (t0 := 0) rfl h_6 dX12_readsRule_48 49 rfl ?_
    refine w_letm hF (fun m_7 hF => ?_)
    refine w_aload_n X 0 dX12_readsRule_49 rfl rfl 50 rfl ?_
    refine w_callVi (fun x => x) (fun _ => m_7) X hZ hF [] 0 ml_0 mo_0 rfl rfl rfl kB_X12_isGood kL_X12_143 (fun res h => ct_X12_isGood l hZ fu m_7 res h) rfl rfl rfl ⟨Nat.le_of_ble_eq_true rfl, Nat.le_of_ble_eq_true rfl⟩ (Nat.le_of_ble_eq_true rfl) ⟨Nat.zero_le _, Nat.zero_le _⟩ dX12_readsRule_50 53 rfl (fun x_8 hF => ?_)
    refine w_if_eq X hF 85 56 dX12_readsRule_53 (by decide) rfl (fun hF => ?_) (fun hF => ?_)
    · refine w_keep [0, 1] rfl ?_
      exact w_85 x1 m_7 hF
    · refine w_aload_n X 0 dX12_readsRule_56 rfl rfl 57 rfl ?_
      refine w_getV (v := .ref (ad 2)) X 0 ml_0 mo_0 (T := TX12) (N := 50) rfl in_X12 13 (by decide) kF_X12_20 rfl rfl dX12_readsRule_57 60 rfl ?_
      refine w_iload_n X 1 dX12_readsRule_60 rfl rfl 61 rfl ?_
      refine w_iconst X 1 dX12_readsRule_61 rfl 62 rfl ?_
      refine w_iadd X dX12_readsRule_62 63 rfl ?_
      refine w_gi hF (fun h_9 hF => ?_)
      refine w_ial X 2 ml_2 mo_2 (t0 := 0) rfl h_9 dX12_readsRule_63 64 rfl ?_
      refine w_iconst X 2 dX12_readsRule_64 rfl 65 rfl ?_
      refine w_icmp_ne X hF 85 68 dX12_readsRule_65 (by decide) rfl (fun hF => ?_) (fun hF => ?_)
      · refine w_aload_n X 0 dX12_readsRule_68 rfl rfl 69 rfl ?_
        refine w_getV (v := .ref (ad 2)) X 0 ml_0 mo_0 (T := TX12) (N := 50) rfl in_X12 13 (by decide) kF_X12_20 rfl rfl dX12_readsRule_69 72 rfl ?_
        refine w_iload_n X 1 dX12_readsRule_72 rfl rfl 73 rfl ?_
        refine w_iconst X 2 dX12_readsRule_73 rfl 74 rfl ?_
        refine w_iadd X dX12_readsRule_74 75 rfl ?_
        refine w_gi hF (fun h_10 hF => ?_)
        refine w_ial X 2 ml_2 mo_2 (t0 := 0) rfl h_10 dX12_readsRule_75 76 rfl ?_
        refine w_iconst X (-1) dX12_readsRule_76 rfl 77 rfl ?_
        refine w_icmp_ne X hF 85 80 dX12_readsRule_77 (by decide) rfl (fun hF => ?_) (fun hF => ?_)
        · refine w_aload_n X 0 dX12_readsRule_80 rfl rfl 81 rfl ?_
          refine w_iconst X 1 dX12_readsRule_81 rfl 82 rfl ?_
          refine w_callVv (fun m => m) X hZ hF [.int 1] 0 ml_0 mo_0 rfl rfl rfl kB_X12_wrong kL_X12_150 (fun res h => ct_X12_wrong l hZ fu 1 m_7 res h) rfl rfl rfl ⟨Nat.le_of_ble_eq_true rfl, Nat.le_of_ble_eq_true rfl⟩ (Nat.le_of_ble_eq_true rfl) ⟨Nat.zero_le _, Nat.zero_le _⟩ dX12_readsRule_82 85 rfl (fun m_11 hF => ?_)
          refine w_keep [0, 1] rfl ?_
          exact w_85 x1 m_11 hF
        · refine w_keep [0, 1] rfl ?_
          exact w_85 x1 m_7 hF
      · refine w_keep [0, 1] rfl ?_
        exact w_85 x1 m_7 hF
  intro hF
  refine w_aload_n X 0 dX12_readsRule_0 rfl rfl 1 rfl ?_
  refine w_getV (v := .ref (ad 2)) X 0 ml_0 mo_0 (T := TX12) (N := 50) rfl in_X12 13 (by decide) kF_X12_20 rfl rfl dX12_readsRule_1 4 rfl ?_
  refine w_iload_n X 1 dX12_readsRule_4 rfl rfl 5 rfl ?_
  refine w_iconst X 1 dX12_readsRule_5 rfl 6 rfl ?_
  refine w_iadd X dX12_readsRule_6 7 rfl ?_
  refine w_aload_n X 0 dX12_readsRule_7 rfl rfl 8 rfl ?_
  refine w_ldc2 X 66667 kK_X12_274 dX12_readsRule_8 11 rfl ?_
  refine w_callVi (fun x => x) (fun _ => mem) X hZ hF [.long 66667] 0 ml_0 mo_0 rfl rfl rfl kB_X12_isWord kL_X12_156 (fun res h => ct_X12_isWord l hZ fu 66667 mem res h) rfl rfl rfl ⟨Nat.le_of_ble_eq_true rfl, Nat.le_of_ble_eq_true rfl⟩ (Nat.le_of_ble_eq_true rfl) ⟨Nat.zero_le _, Nat.zero_le _⟩ dX12_readsRule_11 14 rfl (fun x_1 hF => ?_)
  refine w_if_eq X hF 21 17 dX12_readsRule_14 (by decide) rfl (fun hF => ?_) (fun hF => ?_)
  · refine w_aload_n X 0 dX12_readsRule_21 rfl rfl 22 rfl ?_
    refine w_ldc2 X 1279278 kK_X12_276 dX12_readsRule_22 25 rfl ?_
    refine w_callVi (fun x => x) (fun _ => mem) X hZ hF [.long 1279278] 0 ml_0 mo_0 rfl rfl rfl kB_X12_isWord kL_X12_156 (fun res h => ct_X12_isWord l hZ fu 1279278 mem res h) rfl rfl rfl ⟨Nat.le_of_ble_eq_true rfl, Nat.le_of_ble_eq_true rfl⟩ (Nat.le_of_ble_eq_true rfl) ⟨Nat.zero_le _, Nat.zero_le _⟩ dX12_readsRule_25 28 rfl (fun x_2 hF => ?_)
    refine w_if_eq X hF 35 31 dX12_readsRule_28 (by decide) rfl (fun hF => ?_) (fun hF => ?_)
    · refine w_iconst X 2 dX12_readsRule_35 rfl 36 rfl ?_
      refine w_keep [0, 1] rfl ?_
      exact w_36 x1 2 (x1 + 1) mem hF
    · refine w_iconst X 1 dX12_readsRule_31 rfl 32 rfl ?_
      refine w_goto X 36 dX12_readsRule_32 (by decide) ?_
      refine w_keep [0, 1] rfl ?_
      exact w_36 x1 1 (x1 + 1) mem hF
  · refine w_iconst X 0 dX12_readsRule_17 rfl 18 rfl ?_
    refine w_goto X 36 dX12_readsRule_18 (by decide) ?_
    refine w_keep [0, 1] rfl ?_
    exact w_36 x1 0 (x1 + 1) mem hF
end Km3c
