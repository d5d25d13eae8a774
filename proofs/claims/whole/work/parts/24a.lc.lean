section LC0
variable {D : va_G} {ca ad : Nat → Nat} {Z : (Nat → Prop) → State → Heap → Prop} {p : Program} {l : Launch} {e : Env} {s : State} {m : MethodId} {args : Array Value} {below : List Frame} {meth : Method} {c : Code} {ret : Option FieldType} {cells slots : Nat} {Q : State → Prop}
def K_case_0 (fu : Nat) (a : Nat → Int32) (mem : Mem) : Option Mem := bd (K_L_feed fu (a 1) (a 2) (a 3) (a 4) (a 5) mem) (fun p_1 => bd (K_X12_feed fu (a 1) (a 2) (a 3) (a 4) (a 5) (fun j => (mset 0 256 mem p_1.2) (256 + j))) (fun p_2 => bd (K_X12_thrown fu (fun j => (mset 256 23 (mset 0 256 mem p_1.2) p_2.2) (256 + j))) (fun x_3 => (if x_3 = p_1.1 then (if p_1.1 = 0 then (if (lg_cmp (rl (mset 256 23 (mset 256 23 (mset 0 256 mem p_1.2) p_2.2) (fun j => (mset 256 23 (mset 0 256 mem p_1.2) p_2.2) (256 + j))) 255 (Int32.toNatClampNeg 0)) (Int32.toInt64 p_2.1)) = 0 then some (mset 256 23 (mset 256 23 (mset 0 256 mem p_1.2) p_2.2) (fun j => (mset 256 23 (mset 0 256 mem p_1.2) p_2.2) (256 + j))) else none) else some (mset 256 23 (mset 256 23 (mset 0 256 mem p_1.2) p_2.2) (fun j => (mset 256 23 (mset 0 256 mem p_1.2) p_2.2) (256 + j)))) else none))))
set_option maxHeartbeats 4000000 in
set_option maxRecDepth 100000 in
theorem lc_0 (hl : l.stackTraces = false) (hZ : ZOK Z) (hX : ZX Z) {tO : Nat} {sK sV : Nat → Nat} (hO : ZO Z tO sK sV) (fu : Nat) (X : CX D (tyL ca) 279 ad Z p s m args meth c cL_law 7 "PawnRaceLaw" ret) {b L : Nat} {xs a : Nat → Int32} {x4 : Int32} (HX : LX b L xs s (AA 279 ad s.heap.size) x4 a) (hcap : cells + 3 ≤ room_1.cells ∧ slots + 18 ≤ room_1.slots) {mem mem2 : Mem} (hF : K_case_0 fu a mem = some mem2) (kk : WW D 279 ad (cW ca ad) p l e room_1 s m args below meth c 7 (cells + 3) (slots + 18) Q mem2 2582 [(4, .int x4), (3, .ref (ad 255)), (2, .ref (ad 256)), (1, .ref (ad 0)), (0, .ref b)] []) : WW D 279 ad (cW ca ad) p l e room_1 s m args below meth c 7 cells slots Q mem 232 [(4, .int x4), (3, .ref (ad 255)), (2, .ref (ad 256)), (1, .ref (ad 0)), (0, .ref b)] [] := by
  have hcap0 : cells ≤ room_1.cells ∧ slots ≤ room_1.slots := ⟨Nat.le_trans (Nat.le_add_right _ 3) hcap.1, Nat.le_trans (Nat.le_add_right _ 18) hcap.2⟩
  obtain ⟨hx, hbl, hbA, h1, h2, h3, h4, h5⟩ := HX
  rw [K_case_0] at hF
  refine w_aload_n X 3 dL_law_232 rfl rfl 233 rfl ?_
  refine w_aload_n X 4 dL_law_233 rfl rfl 234 rfl ?_
  refine w_iload X 0 dL_law_234 rfl 236 rfl ?_
  refine w_iconst X 1 dL_law_236 rfl 237 rfl ?_
  refine w_iadd X dL_law_237 238 rfl ?_
  refine w_sld X hx hbl hbA h1.1 (a 1) h1.2 dL_law_238 239 rfl ?_
  refine w_aload_n X 4 dL_law_239 rfl rfl 240 rfl ?_
  refine w_iload X 0 dL_law_240 rfl 242 rfl ?_
  refine w_iconst X 2 dL_law_242 rfl 243 rfl ?_
  refine w_iadd X dL_law_243 244 rfl ?_
  refine w_sld X hx hbl hbA h2.1 (a 2) h2.2 dL_law_244 245 rfl ?_
  refine w_aload_n X 4 dL_law_245 rfl rfl 246 rfl ?_
  refine w_iload X 0 dL_law_246 rfl 248 rfl ?_
  refine w_iconst X 3 dL_law_248 rfl 249 rfl ?_
  refine w_iadd X dL_law_249 250 rfl ?_
  refine w_sld X hx hbl hbA h3.1 (a 3) h3.2 dL_law_250 251 rfl ?_
  refine w_aload_n X 4 dL_law_251 rfl rfl 252 rfl ?_
  refine w_iload X 0 dL_law_252 rfl 254 rfl ?_
  refine w_iconst X 4 dL_law_254 rfl 255 rfl ?_
  refine w_iadd X dL_law_255 256 rfl ?_
  refine w_sld X hx hbl hbA h4.1 (a 4) h4.2 dL_law_256 257 rfl ?_
  refine w_aload_n X 4 dL_law_257 rfl rfl 258 rfl ?_
  refine w_iload X 0 dL_law_258 rfl 260 rfl ?_
  refine w_iconst X 5 dL_law_260 rfl 261 rfl ?_
  refine w_iadd X dL_law_261 262 rfl ?_
  refine w_sld X hx hbl hbA h5.1 (a 5) h5.2 dL_law_262 263 rfl ?_
  refine w_aload_n X 1 dL_law_263 rfl rfl 264 rfl ?_
  refine w_wcall X hZ hF [.ref (ad 0), .int (a 1), .int (a 2), .int (a 3), .int (a 4), .int (a 5), .ref (ad 255)] rfl kB_L_feed kL_L_128 (fun res h => ct_L_feed l hl hZ hX hO fu (a 1) (a 2) (a 3) (a 4) (a 5) mem res h) rfl rfl rfl ⟨Nat.le_of_ble_eq_true rfl, Nat.le_of_ble_eq_true rfl⟩ (Nat.le_of_ble_eq_true rfl) hcap dL_law_264 267 rfl (fun p_1 hF => ?_)
  refine w_istore X [(5, .int p_1.1), (4, .int x4), (3, .ref (ad 255)), (2, .ref (ad 256)), (1, .ref (ad 0)), (0, .ref b)] dL_law_267 (by decide) rfl 269 rfl ?_
  refine w_aload_n X 3 dL_law_269 rfl rfl 270 rfl ?_
  refine w_aload_n X 5 dL_law_270 rfl rfl 271 rfl ?_
  refine w_iload X 1 dL_law_271 rfl 273 rfl ?_
  refine w_iconst X 1 dL_law_273 rfl 274 rfl ?_
  refine w_iadd X dL_law_274 275 rfl ?_
  refine w_sld X hx hbl hbA h1.1 (a 1) h1.2 dL_law_275 276 rfl ?_
  refine w_aload_n X 5 dL_law_276 rfl rfl 277 rfl ?_
  refine w_iload X 1 dL_law_277 rfl 279 rfl ?_
  refine w_iconst X 2 dL_law_279 rfl 280 rfl ?_
  refine w_iadd X dL_law_280 281 rfl ?_
  refine w_sld X hx hbl hbA h2.1 (a 2) h2.2 dL_law_281 282 rfl ?_
  refine w_aload_n X 5 dL_law_282 rfl rfl 283 rfl ?_
  refine w_iload X 1 dL_law_283 rfl 285 rfl ?_
  refine w_iconst X 3 dL_law_285 rfl 286 rfl ?_
  refine w_iadd X dL_law_286 287 rfl ?_
  refine w_sld X hx hbl hbA h3.1 (a 3) h3.2 dL_law_287 288 rfl ?_
  refine w_aload_n X 5 dL_law_288 rfl rfl 289 rfl ?_
  refine w_iload X 1 dL_law_289 rfl 291 rfl ?_
  refine w_iconst X 4 dL_law_291 rfl 292 rfl ?_
  refine w_iadd X dL_law_292 293 rfl ?_
  refine w_sld X hx hbl hbA h4.1 (a 4) h4.2 dL_law_293 294 rfl ?_
  refine w_aload_n X 5 dL_law_294 rfl rfl 295 rfl ?_
  refine w_iload X 1 dL_law_295 rfl 297 rfl ?_
  refine w_iconst X 5 dL_law_297 rfl 298 rfl ?_
  refine w_iadd X dL_law_298 299 rfl ?_
  refine w_sld X hx hbl hbA h5.1 (a 5) h5.2 dL_law_299 300 rfl ?_
  refine w_mcall (fun x => x.1) (fun x => x.2) X hZ hF [.int (a 1), .int (a 2), .int (a 3), .int (a 4), .int (a 5)] (q := ("PawnRaceModel", TX12, 50)) rfl rfl rfl kB_X12_feed kL_L_133 (fun res h => ct_X12_feed l hZ fu (a 1) (a 2) (a 3) (a 4) (a 5) (fun j => (mset 0 256 mem p_1.2) (256 + j)) res h) rfl rfl rfl ⟨Nat.le_of_ble_eq_true rfl, Nat.le_of_ble_eq_true rfl⟩ (Nat.le_of_ble_eq_true rfl) hcap dL_law_300 303 rfl (fun p_2 hF => ?_)
  refine w_istore X [(6, .int p_2.1), (5, .int p_1.1), (4, .int x4), (3, .ref (ad 255)), (2, .ref (ad 256)), (1, .ref (ad 0)), (0, .ref b)] dL_law_303 (by decide) rfl 305 rfl ?_
  refine w_aload_n X 4 dL_law_305 rfl rfl 306 rfl ?_
  refine w_mcall (fun x => x) (fun _ => (fun j => (mset 256 23 (mset 0 256 mem p_1.2) p_2.2) (256 + j))) X hZ hF [] (q := ("PawnRaceModel", TX12, 50)) rfl rfl rfl kB_X12_thrown kL_L_134 (fun res h => ct_X12_thrown l hZ fu  (fun j => (mset 256 23 (mset 0 256 mem p_1.2) p_2.2) (256 + j)) res h) rfl rfl rfl ⟨Nat.le_of_ble_eq_true rfl, Nat.le_of_ble_eq_true rfl⟩ (Nat.le_of_ble_eq_true rfl) hcap dL_law_306 309 rfl (fun x_3 hF => ?_)
  refine w_iload X 1 dL_law_309 rfl 311 rfl ?_
  refine w_icmp_eq X hF 316 314 dL_law_311 (by decide) rfl (fun hF => ?_) (fun hF => ?_)
  · refine w_iload X 1 dL_law_316 rfl 318 rfl ?_
    refine w_if_ne X hF 333 321 dL_law_318 (by decide) rfl (fun hF => ?_) (fun hF => ?_)
    · refine w_aload_n X 3 dL_law_321 rfl rfl 322 rfl ?_
      refine w_iconst X 0 dL_law_322 rfl 323 rfl ?_
      refine w_lal X 255 lt279_255 ko_W255 (t0 := 5) rfl vin01 dL_law_323 324 rfl ?_
      refine w_iload X 0 dL_law_324 rfl 326 rfl ?_
      refine w_i2l X dL_law_326 327 rfl ?_
      refine w_lcmp X dL_law_327 328 rfl ?_
      refine w_if_eq X hF 333 331 dL_law_328 (by decide) rfl (fun hF => ?_) (fun hF => ?_)
      · refine w_goto X 2582 dL_law_333 (by decide) ?_
        refine w_keep [2, 3, 4, 5, 6] rfl ?_
        have e9 := o_inj hF
        subst e9
        exact kk
      · refine w_iconst X 0 dL_law_331 rfl 332 rfl ?_
        exact no_none hF
    · refine w_goto X 2582 dL_law_333 (by decide) ?_
      refine w_keep [2, 3, 4, 5, 6] rfl ?_
      have e9 := o_inj hF
      subst e9
      exact kk
  · refine w_iconst X 0 dL_law_314 rfl 315 rfl ?_
    exact no_none hF

def K_case_1 (fu : Nat) (a : Nat → Int32) (mem : Mem) : Option Mem := bd (K_L_truncate fu (a 1) mem) (fun p_1 => bd (K_X12_truncate fu (a 1) (fun j => (mset 0 256 mem p_1.2) (256 + j))) (fun p_2 => bd (K_X12_thrown fu (fun j => (mset 256 23 (mset 0 256 mem p_1.2) p_2.2) (256 + j))) (fun x_3 => (if x_3 = p_1.1 then (if p_1.1 = 0 then (if (lg_cmp (rl (mset 256 23 (mset 256 23 (mset 0 256 mem p_1.2) p_2.2) (fun j => (mset 256 23 (mset 0 256 mem p_1.2) p_2.2) (256 + j))) 255 (Int32.toNatClampNeg 0)) (Int32.toInt64 p_2.1)) = 0 then some (mset 256 23 (mset 256 23 (mset 0 256 mem p_1.2) p_2.2) (fun j => (mset 256 23 (mset 0 256 mem p_1.2) p_2.2) (256 + j))) else none) else some (mset 256 23 (mset 256 23 (mset 0 256 mem p_1.2) p_2.2) (fun j => (mset 256 23 (mset 0 256 mem p_1.2) p_2.2) (256 + j)))) else none))))
set_option maxHeartbeats 4000000 in
set_option maxRecDepth 100000 in
theorem lc_1 (hl : l.stackTraces = false) (hZ : ZOK Z) (hX : ZX Z) {tO : Nat} {sK sV : Nat → Nat} (hO : ZO Z tO sK sV) (fu : Nat) (X : CX D (tyL ca) 279 ad Z p s m args meth c cL_law 7 "PawnRaceLaw" ret) {b L : Nat} {xs a : Nat → Int32} {x4 : Int32} (HX : LX b L xs s (AA 279 ad s.heap.size) x4 a) (hcap : cells + 3 ≤ room_1.cells ∧ slots + 18 ≤ room_1.slots) {mem mem2 : Mem} (hF : K_case_1 fu a mem = some mem2) (kk : WW D 279 ad (cW ca ad) p l e room_1 s m args below meth c 7 (cells + 3) (slots + 18) Q mem2 2582 [(4, .int x4), (3, .ref (ad 255)), (2, .ref (ad 256)), (1, .ref (ad 0)), (0, .ref b)] []) : WW D 279 ad (cW ca ad) p l e room_1 s m args below meth c 7 cells slots Q mem 336 [(4, .int x4), (3, .ref (ad 255)), (2, .ref (ad 256)), (1, .ref (ad 0)), (0, .ref b)] [] := by
  have hcap0 : cells ≤ room_1.cells ∧ slots ≤ room_1.slots := ⟨Nat.le_trans (Nat.le_add_right _ 3) hcap.1, Nat.le_trans (Nat.le_add_right _ 18) hcap.2⟩
  obtain ⟨hx, hbl, hbA, h1, h2, h3, h4, h5⟩ := HX
  rw [K_case_1] at hF
  refine w_aload_n X 3 dL_law_336 rfl rfl 337 rfl ?_
  refine w_aload_n X 4 dL_law_337 rfl rfl 338 rfl ?_
  refine w_iload X 0 dL_law_338 rfl 340 rfl ?_
  refine w_iconst X 1 dL_law_340 rfl 341 rfl ?_
  refine w_iadd X dL_law_341 342 rfl ?_
  refine w_sld X hx hbl hbA h1.1 (a 1) h1.2 dL_law_342 343 rfl ?_
  refine w_aload_n X 1 dL_law_343 rfl rfl 344 rfl ?_
  refine w_wcall X hZ hF [.ref (ad 0), .int (a 1), .ref (ad 255)] rfl kB_L_truncate kL_L_137 (fun res h => ct_L_truncate l hl hZ hX hO fu (a 1) mem res h) rfl rfl rfl ⟨Nat.le_of_ble_eq_true rfl, Nat.le_of_ble_eq_true rfl⟩ (Nat.le_of_ble_eq_true rfl) hcap dL_law_344 347 rfl (fun p_1 hF => ?_)
  refine w_istore X [(5, .int p_1.1), (4, .int x4), (3, .ref (ad 255)), (2, .ref (ad 256)), (1, .ref (ad 0)), (0, .ref b)] dL_law_347 (by decide) rfl 349 rfl ?_
  refine w_aload_n X 3 dL_law_349 rfl rfl 350 rfl ?_
  refine w_aload_n X 5 dL_law_350 rfl rfl 351 rfl ?_
  refine w_iload X 1 dL_law_351 rfl 353 rfl ?_
  refine w_iconst X 1 dL_law_353 rfl 354 rfl ?_
  refine w_iadd X dL_law_354 355 rfl ?_
  refine w_sld X hx hbl hbA h1.1 (a 1) h1.2 dL_law_355 356 rfl ?_
  refine w_mcall (fun x => x.1) (fun x => x.2) X hZ hF [.int (a 1)] (q := ("PawnRaceModel", TX12, 50)) rfl rfl rfl kB_X12_truncate kL_L_140 (fun res h => ct_X12_truncate l hZ fu (a 1) (fun j => (mset 0 256 mem p_1.2) (256 + j)) res h) rfl rfl rfl ⟨Nat.le_of_ble_eq_true rfl, Nat.le_of_ble_eq_true rfl⟩ (Nat.le_of_ble_eq_true rfl) hcap dL_law_356 359 rfl (fun p_2 hF => ?_)
  refine w_istore X [(6, .int p_2.1), (5, .int p_1.1), (4, .int x4), (3, .ref (ad 255)), (2, .ref (ad 256)), (1, .ref (ad 0)), (0, .ref b)] dL_law_359 (by decide) rfl 361 rfl ?_
  refine w_aload_n X 4 dL_law_361 rfl rfl 362 rfl ?_
  refine w_mcall (fun x => x) (fun _ => (fun j => (mset 256 23 (mset 0 256 mem p_1.2) p_2.2) (256 + j))) X hZ hF [] (q := ("PawnRaceModel", TX12, 50)) rfl rfl rfl kB_X12_thrown kL_L_134 (fun res h => ct_X12_thrown l hZ fu  (fun j => (mset 256 23 (mset 0 256 mem p_1.2) p_2.2) (256 + j)) res h) rfl rfl rfl ⟨Nat.le_of_ble_eq_true rfl, Nat.le_of_ble_eq_true rfl⟩ (Nat.le_of_ble_eq_true rfl) hcap dL_law_362 365 rfl (fun x_3 hF => ?_)
  refine w_iload X 1 dL_law_365 rfl 367 rfl ?_
  refine w_icmp_eq X hF 372 370 dL_law_367 (by decide) rfl (fun hF => ?_) (fun hF => ?_)
  · refine w_iload X 1 dL_law_372 rfl 374 rfl ?_
    refine w_if_ne X hF 389 377 dL_law_374 (by decide) rfl (fun hF => ?_) (fun hF => ?_)
    · refine w_aload_n X 3 dL_law_377 rfl rfl 378 rfl ?_
      refine w_iconst X 0 dL_law_378 rfl 379 rfl ?_
      refine w_lal X 255 lt279_255 ko_W255 (t0 := 5) rfl vin01 dL_law_379 380 rfl ?_
      refine w_iload X 0 dL_law_380 rfl 382 rfl ?_
      refine w_i2l X dL_law_382 383 rfl ?_
      refine w_lcmp X dL_law_383 384 rfl ?_
      refine w_if_eq X hF 389 387 dL_law_384 (by decide) rfl (fun hF => ?_) (fun hF => ?_)
      · refine w_goto X 2582 dL_law_389 (by decide) ?_
        refine w_keep [2, 3, 4, 5, 6] rfl ?_
        have e9 := o_inj hF
        subst e9
        exact kk
      · refine w_iconst X 0 dL_law_387 rfl 388 rfl ?_
        exact no_none hF
    · refine w_goto X 2582 dL_law_389 (by decide) ?_
      refine w_keep [2, 3, 4, 5, 6] rfl ?_
      have e9 := o_inj hF
      subst e9
      exact kk
  · refine w_iconst X 0 dL_law_370 rfl 371 rfl ?_
    exact no_none hF

def K_case_2 (fu : Nat) (a : Nat → Int32) (mem : Mem) : Option Mem := bd (K_L_readText fu  mem) (fun p_1 => bd (K_X12_readText fu (fun j => (mset 0 256 mem p_1.2) (256 + j))) (fun p_2 => bd (K_X12_thrown fu (fun j => (mset 256 23 (mset 0 256 mem p_1.2) p_2.2) (256 + j))) (fun x_3 => (if x_3 = p_1.1 then (if p_1.1 = 0 then (if (lg_cmp (rl (mset 256 23 (mset 256 23 (mset 0 256 mem p_1.2) p_2.2) (fun j => (mset 256 23 (mset 0 256 mem p_1.2) p_2.2) (256 + j))) 255 (Int32.toNatClampNeg 0)) (Int32.toInt64 p_2.1)) = 0 then some (mset 256 23 (mset 256 23 (mset 0 256 mem p_1.2) p_2.2) (fun j => (mset 256 23 (mset 0 256 mem p_1.2) p_2.2) (256 + j))) else none) else some (mset 256 23 (mset 256 23 (mset 0 256 mem p_1.2) p_2.2) (fun j => (mset 256 23 (mset 0 256 mem p_1.2) p_2.2) (256 + j)))) else none))))
set_option maxHeartbeats 4000000 in
set_option maxRecDepth 100000 in
theorem lc_2 (hl : l.stackTraces = false) (hZ : ZOK Z) (hX : ZX Z) {tO : Nat} {sK sV : Nat → Nat} (hO : ZO Z tO sK sV) (fu : Nat) (X : CX D (tyL ca) 279 ad Z p s m args meth c cL_law 7 "PawnRaceLaw" ret) {b L : Nat} {xs a : Nat → Int32} {x4 : Int32} (HX : LX b L xs s (AA 279 ad s.heap.size) x4 a) (hcap : cells + 3 ≤ room_1.cells ∧ slots + 18 ≤ room_1.slots) {mem mem2 : Mem} (hF : K_case_2 fu a mem = some mem2) (kk : WW D 279 ad (cW ca ad) p l e room_1 s m args below meth c 7 (cells + 3) (slots + 18) Q mem2 2582 [(4, .int x4), (3, .ref (ad 255)), (2, .ref (ad 256)), (1, .ref (ad 0)), (0, .ref b)] []) : WW D 279 ad (cW ca ad) p l e room_1 s m args below meth c 7 cells slots Q mem 392 [(4, .int x4), (3, .ref (ad 255)), (2, .ref (ad 256)), (1, .ref (ad 0)), (0, .ref b)] [] := by
  have hcap0 : cells ≤ room_1.cells ∧ slots ≤ room_1.slots := ⟨Nat.le_trans (Nat.le_add_right _ 3) hcap.1, Nat.le_trans (Nat.le_add_right _ 18) hcap.2⟩
  obtain ⟨hx, hbl, hbA, h1, h2, h3, h4, h5⟩ := HX
  rw [K_case_2] at hF
  refine w_aload_n X 3 dL_law_392 rfl rfl 393 rfl ?_
  refine w_aload_n X 1 dL_law_393 rfl rfl 394 rfl ?_
  refine w_wcall X hZ hF [.ref (ad 0), .ref (ad 255)] rfl kB_L_readText kL_L_141 (fun res h => ct_L_readText l hl hZ hX hO fu  mem res h) rfl rfl rfl ⟨Nat.le_of_ble_eq_true rfl, Nat.le_of_ble_eq_true rfl⟩ (Nat.le_of_ble_eq_true rfl) hcap dL_law_394 397 rfl (fun p_1 hF => ?_)
  refine w_istore X [(5, .int p_1.1), (4, .int x4), (3, .ref (ad 255)), (2, .ref (ad 256)), (1, .ref (ad 0)), (0, .ref b)] dL_law_397 (by decide) rfl 399 rfl ?_
  refine w_aload_n X 3 dL_law_399 rfl rfl 400 rfl ?_
  refine w_mcall (fun x => x.1) (fun x => x.2) X hZ hF [] (q := ("PawnRaceModel", TX12, 50)) rfl rfl rfl kB_X12_readText kL_L_144 (fun res h => ct_X12_readText l hZ fu  (fun j => (mset 0 256 mem p_1.2) (256 + j)) res h) rfl rfl rfl ⟨Nat.le_of_ble_eq_true rfl, Nat.le_of_ble_eq_true rfl⟩ (Nat.le_of_ble_eq_true rfl) hcap dL_law_400 403 rfl (fun p_2 hF => ?_)
  refine w_istore X [(6, .int p_2.1), (5, .int p_1.1), (4, .int x4), (3, .ref (ad 255)), (2, .ref (ad 256)), (1, .ref (ad 0)), (0, .ref b)] dL_law_403 (by decide) rfl 405 rfl ?_
  refine w_aload_n X 4 dL_law_405 rfl rfl 406 rfl ?_
  refine w_mcall (fun x => x) (fun _ => (fun j => (mset 256 23 (mset 0 256 mem p_1.2) p_2.2) (256 + j))) X hZ hF [] (q := ("PawnRaceModel", TX12, 50)) rfl rfl rfl kB_X12_thrown kL_L_134 (fun res h => ct_X12_thrown l hZ fu  (fun j => (mset 256 23 (mset 0 256 mem p_1.2) p_2.2) (256 + j)) res h) rfl rfl rfl ⟨Nat.le_of_ble_eq_true rfl, Nat.le_of_ble_eq_true rfl⟩ (Nat.le_of_ble_eq_true rfl) hcap dL_law_406 409 rfl (fun x_3 hF => ?_)
  refine w_iload X 1 dL_law_409 rfl 411 rfl ?_
  refine w_icmp_eq X hF 416 414 dL_law_411 (by decide) rfl (fun hF => ?_) (fun hF => ?_)
  · refine w_iload X 1 dL_law_416 rfl 418 rfl ?_
    refine w_if_ne X hF 433 421 dL_law_418 (by decide) rfl (fun hF => ?_) (fun hF => ?_)
    · refine w_aload_n X 3 dL_law_421 rfl rfl 422 rfl ?_
      refine w_iconst X 0 dL_law_422 rfl 423 rfl ?_
      refine w_lal X 255 lt279_255 ko_W255 (t0 := 5) rfl vin01 dL_law_423 424 rfl ?_
      refine w_iload X 0 dL_law_424 rfl 426 rfl ?_
      refine w_i2l X dL_law_426 427 rfl ?_
      refine w_lcmp X dL_law_427 428 rfl ?_
      refine w_if_eq X hF 433 431 dL_law_428 (by decide) rfl (fun hF => ?_) (fun hF => ?_)
      · refine w_goto X 2582 dL_law_433 (by decide) ?_
        refine w_keep [2, 3, 4, 5, 6] rfl ?_
        have e9 := o_inj hF
        subst e9
        exact kk
      · refine w_iconst X 0 dL_law_431 rfl 432 rfl ?_
        exact no_none hF
    · refine w_goto X 2582 dL_law_433 (by decide) ?_
      refine w_keep [2, 3, 4, 5, 6] rfl ?_
      have e9 := o_inj hF
      subst e9
      exact kk
  · refine w_iconst X 0 dL_law_414 rfl 415 rfl ?_
    exact no_none hF

def K_case_3 (fu : Nat) (a : Nat → Int32) (mem : Mem) : Option Mem := bd (K_L_runScript fu  mem) (fun p_1 => bd (K_X12_runScript fu (fun j => (mset 0 256 mem p_1.2) (256 + j))) (fun p_2 => bd (K_X12_thrown fu (fun j => (mset 256 23 (mset 0 256 mem p_1.2) p_2.2) (256 + j))) (fun x_3 => (if x_3 = p_1.1 then (if p_1.1 = 0 then (if (lg_cmp (rl (mset 256 23 (mset 256 23 (mset 0 256 mem p_1.2) p_2.2) (fun j => (mset 256 23 (mset 0 256 mem p_1.2) p_2.2) (256 + j))) 255 (Int32.toNatClampNeg 0)) (Int32.toInt64 p_2.1)) = 0 then some (mset 256 23 (mset 256 23 (mset 0 256 mem p_1.2) p_2.2) (fun j => (mset 256 23 (mset 0 256 mem p_1.2) p_2.2) (256 + j))) else none) else some (mset 256 23 (mset 256 23 (mset 0 256 mem p_1.2) p_2.2) (fun j => (mset 256 23 (mset 0 256 mem p_1.2) p_2.2) (256 + j)))) else none))))
set_option maxHeartbeats 4000000 in
set_option maxRecDepth 100000 in
theorem lc_3 (hl : l.stackTraces = false) (hZ : ZOK Z) (hX : ZX Z) {tO : Nat} {sK sV : Nat → Nat} (hO : ZO Z tO sK sV) (fu : Nat) (X : CX D (tyL ca) 279 ad Z p s m args meth c cL_law 7 "PawnRaceLaw" ret) {b L : Nat} {xs a : Nat → Int32} {x4 : Int32} (HX : LX b L xs s (AA 279 ad s.heap.size) x4 a) (hcap : cells + 3 ≤ room_1.cells ∧ slots + 18 ≤ room_1.slots) {mem mem2 : Mem} (hF : K_case_3 fu a mem = some mem2) (kk : WW D 279 ad (cW ca ad) p l e room_1 s m args below meth c 7 (cells + 3) (slots + 18) Q mem2 2582 [(4, .int x4), (3, .ref (ad 255)), (2, .ref (ad 256)), (1, .ref (ad 0)), (0, .ref b)] []) : WW D 279 ad (cW ca ad) p l e room_1 s m args below meth c 7 cells slots Q mem 436 [(4, .int x4), (3, .ref (ad 255)), (2, .ref (ad 256)), (1, .ref (ad 0)), (0, .ref b)] [] := by
  have hcap0 : cells ≤ room_1.cells ∧ slots ≤ room_1.slots := ⟨Nat.le_trans (Nat.le_add_right _ 3) hcap.1, Nat.le_trans (Nat.le_add_right _ 18) hcap.2⟩
  obtain ⟨hx, hbl, hbA, h1, h2, h3, h4, h5⟩ := HX
  rw [K_case_3] at hF
  refine w_aload_n X 3 dL_law_436 rfl rfl 437 rfl ?_
  refine w_aload_n X 1 dL_law_437 rfl rfl 438 rfl ?_
  refine w_wcall X hZ hF [.ref (ad 0), .ref (ad 255)] rfl kB_L_runScript kL_L_145 (fun res h => ct_L_runScript l hl hZ hX hO fu  mem res h) rfl rfl rfl ⟨Nat.le_of_ble_eq_true rfl, Nat.le_of_ble_eq_true rfl⟩ (Nat.le_of_ble_eq_true rfl) hcap dL_law_438 441 rfl (fun p_1 hF => ?_)
  refine w_istore X [(5, .int p_1.1), (4, .int x4), (3, .ref (ad 255)), (2, .ref (ad 256)), (1, .ref (ad 0)), (0, .ref b)] dL_law_441 (by decide) rfl 443 rfl ?_
  refine w_aload_n X 3 dL_law_443 rfl rfl 444 rfl ?_
  refine w_mcall (fun x => x.1) (fun x => x.2) X hZ hF [] (q := ("PawnRaceModel", TX12, 50)) rfl rfl rfl kB_X12_runScript kL_L_147 (fun res h => ct_X12_runScript l hZ fu  (fun j => (mset 0 256 mem p_1.2) (256 + j)) res h) rfl rfl rfl ⟨Nat.le_of_ble_eq_true rfl, Nat.le_of_ble_eq_true rfl⟩ (Nat.le_of_ble_eq_true rfl) hcap dL_law_444 447 rfl (fun p_2 hF => ?_)
  refine w_istore X [(6, .int p_2.1), (5, .int p_1.1), (4, .int x4), (3, .ref (ad 255)), (2, .ref (ad 256)), (1, .ref (ad 0)), (0, .ref b)] dL_law_447 (by decide) rfl 449 rfl ?_
  refine w_aload_n X 4 dL_law_449 rfl rfl 450 rfl ?_
  refine w_mcall (fun x => x) (fun _ => (fun j => (mset 256 23 (mset 0 256 mem p_1.2) p_2.2) (256 + j))) X hZ hF [] (q := ("PawnRaceModel", TX12, 50)) rfl rfl rfl kB_X12_thrown kL_L_134 (fun res h => ct_X12_thrown l hZ fu  (fun j => (mset 256 23 (mset 0 256 mem p_1.2) p_2.2) (256 + j)) res h) rfl rfl rfl ⟨Nat.le_of_ble_eq_true rfl, Nat.le_of_ble_eq_true rfl⟩ (Nat.le_of_ble_eq_true rfl) hcap dL_law_450 453 rfl (fun x_3 hF => ?_)
  refine w_iload X 1 dL_law_453 rfl 455 rfl ?_
  refine w_icmp_eq X hF 460 458 dL_law_455 (by decide) rfl (fun hF => ?_) (fun hF => ?_)
  · refine w_iload X 1 dL_law_460 rfl 462 rfl ?_
    refine w_if_ne X hF 477 465 dL_law_462 (by decide) rfl (fun hF => ?_) (fun hF => ?_)
    · refine w_aload_n X 3 dL_law_465 rfl rfl 466 rfl ?_
      refine w_iconst X 0 dL_law_466 rfl 467 rfl ?_
      refine w_lal X 255 lt279_255 ko_W255 (t0 := 5) rfl vin01 dL_law_467 468 rfl ?_
      refine w_iload X 0 dL_law_468 rfl 470 rfl ?_
      refine w_i2l X dL_law_470 471 rfl ?_
      refine w_lcmp X dL_law_471 472 rfl ?_
      refine w_if_eq X hF 477 475 dL_law_472 (by decide) rfl (fun hF => ?_) (fun hF => ?_)
      · refine w_goto X 2582 dL_law_477 (by decide) ?_
        refine w_keep [2, 3, 4, 5, 6] rfl ?_
        have e9 := o_inj hF
        subst e9
        exact kk
      · refine w_iconst X 0 dL_law_475 rfl 476 rfl ?_
        exact no_none hF
    · refine w_goto X 2582 dL_law_477 (by decide) ?_
      refine w_keep [2, 3, 4, 5, 6] rfl ?_
      have e9 := o_inj hF
      subst e9
      exact kk
  · refine w_iconst X 0 dL_law_458 rfl 459 rfl ?_
    exact no_none hF

def K_case_4 (fu : Nat) (a : Nat → Int32) (mem : Mem) : Option Mem := bd (K_X11_errorCode fu mem) (fun x_1 => bd (K_X12_errorCode fu (fun j => (mset 0 255 mem mem) (256 + j))) (fun p_2 => (if x_1 = p_2.1 then some (mset 256 23 (mset 0 255 mem mem) p_2.2) else none)))
set_option maxHeartbeats 4000000 in
set_option maxRecDepth 100000 in
theorem lc_4 (hl : l.stackTraces = false) (hZ : ZOK Z) (hX : ZX Z) {tO : Nat} {sK sV : Nat → Nat} (hO : ZO Z tO sK sV) (fu : Nat) (X : CX D (tyL ca) 279 ad Z p s m args meth c cL_law 7 "PawnRaceLaw" ret) {b L : Nat} {xs a : Nat → Int32} {x4 : Int32} (HX : LX b L xs s (AA 279 ad s.heap.size) x4 a) (hcap : cells + 3 ≤ room_1.cells ∧ slots + 18 ≤ room_1.slots) {mem mem2 : Mem} (hF : K_case_4 fu a mem = some mem2) (kk : WW D 279 ad (cW ca ad) p l e room_1 s m args below meth c 7 (cells + 3) (slots + 18) Q mem2 2582 [(4, .int x4), (3, .ref (ad 255)), (2, .ref (ad 256)), (1, .ref (ad 0)), (0, .ref b)] []) : WW D 279 ad (cW ca ad) p l e room_1 s m args below meth c 7 cells slots Q mem 480 [(4, .int x4), (3, .ref (ad 255)), (2, .ref (ad 256)), (1, .ref (ad 0)), (0, .ref b)] [] := by
  have hcap0 : cells ≤ room_1.cells ∧ slots ≤ room_1.slots := ⟨Nat.le_trans (Nat.le_add_right _ 3) hcap.1, Nat.le_trans (Nat.le_add_right _ 18) hcap.2⟩
  obtain ⟨hx, hbl, hbA, h1, h2, h3, h4, h5⟩ := HX
  rw [K_case_4] at hF
  refine w_aload_n X 3 dL_law_480 rfl rfl 481 rfl ?_
  refine w_ccall (fun x => x) (fun _ => mem) X hZ hF [] (q := ("PawnRace", TX11, 14)) rfl rfl rfl kB_X11_errorCode kL_L_148 (fun res h => ct_X11_errorCode l hZ hO fu  mem res h) rfl rfl rfl ⟨Nat.le_of_ble_eq_true rfl, Nat.le_of_ble_eq_true rfl⟩ (Nat.le_of_ble_eq_true rfl) hcap0 dL_law_481 484 rfl (fun x_1 hF => ?_)
  refine w_aload_n X 2 dL_law_484 rfl rfl 485 rfl ?_
  refine w_mcall (fun x => x.1) (fun x => x.2) X hZ hF [] (q := ("PawnRaceModel", TX12, 50)) rfl rfl rfl kB_X12_errorCode kL_L_151 (fun res h => ct_X12_errorCode l hZ fu  (fun j => (mset 0 255 mem mem) (256 + j)) res h) rfl rfl rfl ⟨Nat.le_of_ble_eq_true rfl, Nat.le_of_ble_eq_true rfl⟩ (Nat.le_of_ble_eq_true rfl) hcap0 dL_law_485 488 rfl (fun p_2 hF => ?_)
  refine w_icmp_eq X hF 2582 491 dL_law_488 (by decide) rfl (fun hF => ?_) (fun hF => ?_)
  · refine w_keep [0, 1, 2, 3, 4] rfl ?_
    refine w_widen (Nat.le_add_right _ 3) (Nat.le_add_right _ 18) ?_
    have e9 := o_inj hF
    subst e9
    exact kk
  · refine w_iconst X 0 dL_law_491 rfl 492 rfl ?_
    exact no_none hF

def K_case_5 (fu : Nat) (a : Nat → Int32) (mem : Mem) : Option Mem := bd (K_X11_errorPosition fu mem) (fun x_1 => bd (K_X12_errorPosition fu (fun j => (mset 0 255 mem mem) (256 + j))) (fun p_2 => (if x_1 = p_2.1 then some (mset 256 23 (mset 0 255 mem mem) p_2.2) else none)))
set_option maxHeartbeats 4000000 in
set_option maxRecDepth 100000 in
theorem lc_5 (hl : l.stackTraces = false) (hZ : ZOK Z) (hX : ZX Z) {tO : Nat} {sK sV : Nat → Nat} (hO : ZO Z tO sK sV) (fu : Nat) (X : CX D (tyL ca) 279 ad Z p s m args meth c cL_law 7 "PawnRaceLaw" ret) {b L : Nat} {xs a : Nat → Int32} {x4 : Int32} (HX : LX b L xs s (AA 279 ad s.heap.size) x4 a) (hcap : cells + 3 ≤ room_1.cells ∧ slots + 18 ≤ room_1.slots) {mem mem2 : Mem} (hF : K_case_5 fu a mem = some mem2) (kk : WW D 279 ad (cW ca ad) p l e room_1 s m args below meth c 7 (cells + 3) (slots + 18) Q mem2 2582 [(4, .int x4), (3, .ref (ad 255)), (2, .ref (ad 256)), (1, .ref (ad 0)), (0, .ref b)] []) : WW D 279 ad (cW ca ad) p l e room_1 s m args below meth c 7 cells slots Q mem 493 [(4, .int x4), (3, .ref (ad 255)), (2, .ref (ad 256)), (1, .ref (ad 0)), (0, .ref b)] [] := by
  have hcap0 : cells ≤ room_1.cells ∧ slots ≤ room_1.slots := ⟨Nat.le_trans (Nat.le_add_right _ 3) hcap.1, Nat.le_trans (Nat.le_add_right _ 18) hcap.2⟩
  obtain ⟨hx, hbl, hbA, h1, h2, h3, h4, h5⟩ := HX
  rw [K_case_5] at hF
  refine w_aload_n X 3 dL_law_493 rfl rfl 494 rfl ?_
  refine w_ccall (fun x => x) (fun _ => mem) X hZ hF [] (q := ("PawnRace", TX11, 14)) rfl rfl rfl kB_X11_errorPosition kL_L_152 (fun res h => ct_X11_errorPosition l hZ hO fu  mem res h) rfl rfl rfl ⟨Nat.le_of_ble_eq_true rfl, Nat.le_of_ble_eq_true rfl⟩ (Nat.le_of_ble_eq_true rfl) hcap0 dL_law_494 497 rfl (fun x_1 hF => ?_)
  refine w_aload_n X 2 dL_law_497 rfl rfl 498 rfl ?_
  refine w_mcall (fun x => x.1) (fun x => x.2) X hZ hF [] (q := ("PawnRaceModel", TX12, 50)) rfl rfl rfl kB_X12_errorPosition kL_L_155 (fun res h => ct_X12_errorPosition l hZ fu  (fun j => (mset 0 255 mem mem) (256 + j)) res h) rfl rfl rfl ⟨Nat.le_of_ble_eq_true rfl, Nat.le_of_ble_eq_true rfl⟩ (Nat.le_of_ble_eq_true rfl) hcap0 dL_law_498 501 rfl (fun p_2 hF => ?_)
  refine w_icmp_eq X hF 2582 504 dL_law_501 (by decide) rfl (fun hF => ?_) (fun hF => ?_)
  · refine w_keep [0, 1, 2, 3, 4] rfl ?_
    refine w_widen (Nat.le_add_right _ 3) (Nat.le_add_right _ 18) ?_
    have e9 := o_inj hF
    subst e9
    exact kk
  · refine w_iconst X 0 dL_law_504 rfl 505 rfl ?_
    exact no_none hF

def K_case_6 (fu : Nat) (a : Nat → Int32) (mem : Mem) : Option Mem := bd (K_L_setting fu (a 1) mem) (fun p_1 => bd (K_X12_setting fu (a 1) (fun j => (mset 0 256 mem p_1.2) (256 + j))) (fun p_2 => bd (K_X12_thrown fu (fun j => (mset 256 23 (mset 0 256 mem p_1.2) p_2.2) (256 + j))) (fun x_3 => (if x_3 = p_1.1 then (if p_1.1 = 0 then (if (lg_cmp (rl (mset 256 23 (mset 256 23 (mset 0 256 mem p_1.2) p_2.2) (fun j => (mset 256 23 (mset 0 256 mem p_1.2) p_2.2) (256 + j))) 255 (Int32.toNatClampNeg 0)) (Int32.toInt64 p_2.1)) = 0 then some (mset 256 23 (mset 256 23 (mset 0 256 mem p_1.2) p_2.2) (fun j => (mset 256 23 (mset 0 256 mem p_1.2) p_2.2) (256 + j))) else none) else some (mset 256 23 (mset 256 23 (mset 0 256 mem p_1.2) p_2.2) (fun j => (mset 256 23 (mset 0 256 mem p_1.2) p_2.2) (256 + j)))) else none))))
set_option maxHeartbeats 4000000 in
set_option maxRecDepth 100000 in
theorem lc_6 (hl : l.stackTraces = false) (hZ : ZOK Z) (hX : ZX Z) {tO : Nat} {sK sV : Nat → Nat} (hO : ZO Z tO sK sV) (fu : Nat) (X : CX D (tyL ca) 279 ad Z p s m args meth c cL_law 7 "PawnRaceLaw" ret) {b L : Nat} {xs a : Nat → Int32} {x4 : Int32} (HX : LX b L xs s (AA 279 ad s.heap.size) x4 a) (hcap : cells + 3 ≤ room_1.cells ∧ slots + 18 ≤ room_1.slots) {mem mem2 : Mem} (hF : K_case_6 fu a mem = some mem2) (kk : WW D 279 ad (cW ca ad) p l e room_1 s m args below meth c 7 (cells + 3) (slots + 18) Q mem2 2582 [(4, .int x4), (3, .ref (ad 255)), (2, .ref (ad 256)), (1, .ref (ad 0)), (0, .ref b)] []) : WW D 279 ad (cW ca ad) p l e room_1 s m args below meth c 7 cells slots Q mem 506 [(4, .int x4), (3, .ref (ad 255)), (2, .ref (ad 256)), (1, .ref (ad 0)), (0, .ref b)] [] := by
  have hcap0 : cells ≤ room_1.cells ∧ slots ≤ room_1.slots := ⟨Nat.le_trans (Nat.le_add_right _ 3) hcap.1, Nat.le_trans (Nat.le_add_right _ 18) hcap.2⟩
  obtain ⟨hx, hbl, hbA, h1, h2, h3, h4, h5⟩ := HX
  rw [K_case_6] at hF
  refine w_aload_n X 3 dL_law_506 rfl rfl 507 rfl ?_
  refine w_aload_n X 4 dL_law_507 rfl rfl 508 rfl ?_
  refine w_iload X 0 dL_law_508 rfl 510 rfl ?_
  refine w_iconst X 1 dL_law_510 rfl 511 rfl ?_
  refine w_iadd X dL_law_511 512 rfl ?_
  refine w_sld X hx hbl hbA h1.1 (a 1) h1.2 dL_law_512 513 rfl ?_
  refine w_aload_n X 1 dL_law_513 rfl rfl 514 rfl ?_
  refine w_wcall X hZ hF [.ref (ad 0), .int (a 1), .ref (ad 255)] rfl kB_L_setting kL_L_156 (fun res h => ct_L_setting l hl hZ hX hO fu (a 1) mem res h) rfl rfl rfl ⟨Nat.le_of_ble_eq_true rfl, Nat.le_of_ble_eq_true rfl⟩ (Nat.le_of_ble_eq_true rfl) hcap dL_law_514 517 rfl (fun p_1 hF => ?_)
  refine w_istore X [(5, .int p_1.1), (4, .int x4), (3, .ref (ad 255)), (2, .ref (ad 256)), (1, .ref (ad 0)), (0, .ref b)] dL_law_517 (by decide) rfl 519 rfl ?_
  refine w_aload_n X 3 dL_law_519 rfl rfl 520 rfl ?_
  refine w_aload_n X 5 dL_law_520 rfl rfl 521 rfl ?_
  refine w_iload X 1 dL_law_521 rfl 523 rfl ?_
  refine w_iconst X 1 dL_law_523 rfl 524 rfl ?_
  refine w_iadd X dL_law_524 525 rfl ?_
  refine w_sld X hx hbl hbA h1.1 (a 1) h1.2 dL_law_525 526 rfl ?_
  refine w_mcall (fun x => x.1) (fun x => x.2) X hZ hF [.int (a 1)] (q := ("PawnRaceModel", TX12, 50)) rfl rfl rfl kB_X12_setting kL_L_158 (fun res h => ct_X12_setting l hZ fu (a 1) (fun j => (mset 0 256 mem p_1.2) (256 + j)) res h) rfl rfl rfl ⟨Nat.le_of_ble_eq_true rfl, Nat.le_of_ble_eq_true rfl⟩ (Nat.le_of_ble_eq_true rfl) hcap dL_law_526 529 rfl (fun p_2 hF => ?_)
  refine w_istore X [(6, .int p_2.1), (5, .int p_1.1), (4, .int x4), (3, .ref (ad 255)), (2, .ref (ad 256)), (1, .ref (ad 0)), (0, .ref b)] dL_law_529 (by decide) rfl 531 rfl ?_
  refine w_aload_n X 4 dL_law_531 rfl rfl 532 rfl ?_
  refine w_mcall (fun x => x) (fun _ => (fun j => (mset 256 23 (mset 0 256 mem p_1.2) p_2.2) (256 + j))) X hZ hF [] (q := ("PawnRaceModel", TX12, 50)) rfl rfl rfl kB_X12_thrown kL_L_134 (fun res h => ct_X12_thrown l hZ fu  (fun j => (mset 256 23 (mset 0 256 mem p_1.2) p_2.2) (256 + j)) res h) rfl rfl rfl ⟨Nat.le_of_ble_eq_true rfl, Nat.le_of_ble_eq_true rfl⟩ (Nat.le_of_ble_eq_true rfl) hcap dL_law_532 535 rfl (fun x_3 hF => ?_)
  refine w_iload X 1 dL_law_535 rfl 537 rfl ?_
  refine w_icmp_eq X hF 542 540 dL_law_537 (by decide) rfl (fun hF => ?_) (fun hF => ?_)
  · refine w_iload X 1 dL_law_542 rfl 544 rfl ?_
    refine w_if_ne X hF 559 547 dL_law_544 (by decide) rfl (fun hF => ?_) (fun hF => ?_)
    · refine w_aload_n X 3 dL_law_547 rfl rfl 548 rfl ?_
      refine w_iconst X 0 dL_law_548 rfl 549 rfl ?_
      refine w_lal X 255 lt279_255 ko_W255 (t0 := 5) rfl vin01 dL_law_549 550 rfl ?_
      refine w_iload X 0 dL_law_550 rfl 552 rfl ?_
      refine w_i2l X dL_law_552 553 rfl ?_
      refine w_lcmp X dL_law_553 554 rfl ?_
      refine w_if_eq X hF 559 557 dL_law_554 (by decide) rfl (fun hF => ?_) (fun hF => ?_)
      · refine w_goto X 2582 dL_law_559 (by decide) ?_
        refine w_keep [2, 3, 4, 5, 6] rfl ?_
        have e9 := o_inj hF
        subst e9
        exact kk
      · refine w_iconst X 0 dL_law_557 rfl 558 rfl ?_
        exact no_none hF
    · refine w_goto X 2582 dL_law_559 (by decide) ?_
      refine w_keep [2, 3, 4, 5, 6] rfl ?_
      have e9 := o_inj hF
      subst e9
      exact kk
  · refine w_iconst X 0 dL_law_540 rfl 541 rfl ?_
    exact no_none hF

def K_case_7 (fu : Nat) (a : Nat → Int32) (mem : Mem) : Option Mem := bd (K_L_pawn fu (a 1) (a 2) mem) (fun p_1 => bd (K_X12_pawn fu (a 1) (a 2) (fun j => (mset 0 256 mem p_1.2) (256 + j))) (fun p_2 => bd (K_X12_thrown fu (fun j => (mset 256 23 (mset 0 256 mem p_1.2) p_2.2) (256 + j))) (fun x_3 => (if x_3 = p_1.1 then (if p_1.1 = 0 then (if (lg_cmp (rl (mset 256 23 (mset 256 23 (mset 0 256 mem p_1.2) p_2.2) (fun j => (mset 256 23 (mset 0 256 mem p_1.2) p_2.2) (256 + j))) 255 (Int32.toNatClampNeg 0)) (Int32.toInt64 p_2.1)) = 0 then some (mset 256 23 (mset 256 23 (mset 0 256 mem p_1.2) p_2.2) (fun j => (mset 256 23 (mset 0 256 mem p_1.2) p_2.2) (256 + j))) else none) else some (mset 256 23 (mset 256 23 (mset 0 256 mem p_1.2) p_2.2) (fun j => (mset 256 23 (mset 0 256 mem p_1.2) p_2.2) (256 + j)))) else none))))
set_option maxHeartbeats 4000000 in
set_option maxRecDepth 100000 in
theorem lc_7 (hl : l.stackTraces = false) (hZ : ZOK Z) (hX : ZX Z) {tO : Nat} {sK sV : Nat → Nat} (hO : ZO Z tO sK sV) (fu : Nat) (X : CX D (tyL ca) 279 ad Z p s m args meth c cL_law 7 "PawnRaceLaw" ret) {b L : Nat} {xs a : Nat → Int32} {x4 : Int32} (HX : LX b L xs s (AA 279 ad s.heap.size) x4 a) (hcap : cells + 3 ≤ room_1.cells ∧ slots + 18 ≤ room_1.slots) {mem mem2 : Mem} (hF : K_case_7 fu a mem = some mem2) (kk : WW D 279 ad (cW ca ad) p l e room_1 s m args below meth c 7 (cells + 3) (slots + 18) Q mem2 2582 [(4, .int x4), (3, .ref (ad 255)), (2, .ref (ad 256)), (1, .ref (ad 0)), (0, .ref b)] []) : WW D 279 ad (cW ca ad) p l e room_1 s m args below meth c 7 cells slots Q mem 562 [(4, .int x4), (3, .ref (ad 255)), (2, .ref (ad 256)), (1, .ref (ad 0)), (0, .ref b)] [] := by
  have hcap0 : cells ≤ room_1.cells ∧ slots ≤ room_1.slots := ⟨Nat.le_trans (Nat.le_add_right _ 3) hcap.1, Nat.le_trans (Nat.le_add_right _ 18) hcap.2⟩
  obtain ⟨hx, hbl, hbA, h1, h2, h3, h4, h5⟩ := HX
  rw [K_case_7] at hF
  refine w_aload_n X 3 dL_law_562 rfl rfl 563 rfl ?_
  refine w_aload_n X 4 dL_law_563 rfl rfl 564 rfl ?_
  refine w_iload X 0 dL_law_564 rfl 566 rfl ?_
  refine w_iconst X 1 dL_law_566 rfl 567 rfl ?_
  refine w_iadd X dL_law_567 568 rfl ?_
  refine w_sld X hx hbl hbA h1.1 (a 1) h1.2 dL_law_568 569 rfl ?_
  refine w_aload_n X 4 dL_law_569 rfl rfl 570 rfl ?_
  refine w_iload X 0 dL_law_570 rfl 572 rfl ?_
  refine w_iconst X 2 dL_law_572 rfl 573 rfl ?_
  refine w_iadd X dL_law_573 574 rfl ?_
  refine w_sld X hx hbl hbA h2.1 (a 2) h2.2 dL_law_574 575 rfl ?_
  refine w_aload_n X 1 dL_law_575 rfl rfl 576 rfl ?_
  refine w_wcall X hZ hF [.ref (ad 0), .int (a 1), .int (a 2), .ref (ad 255)] rfl kB_L_pawn kL_L_159 (fun res h => ct_L_pawn l hl hZ hX hO fu (a 1) (a 2) mem res h) rfl rfl rfl ⟨Nat.le_of_ble_eq_true rfl, Nat.le_of_ble_eq_true rfl⟩ (Nat.le_of_ble_eq_true rfl) hcap dL_law_576 579 rfl (fun p_1 hF => ?_)
  refine w_istore X [(5, .int p_1.1), (4, .int x4), (3, .ref (ad 255)), (2, .ref (ad 256)), (1, .ref (ad 0)), (0, .ref b)] dL_law_579 (by decide) rfl 581 rfl ?_
  refine w_aload_n X 3 dL_law_581 rfl rfl 582 rfl ?_
  refine w_aload_n X 5 dL_law_582 rfl rfl 583 rfl ?_
  refine w_iload X 1 dL_law_583 rfl 585 rfl ?_
  refine w_iconst X 1 dL_law_585 rfl 586 rfl ?_
  refine w_iadd X dL_law_586 587 rfl ?_
  refine w_sld X hx hbl hbA h1.1 (a 1) h1.2 dL_law_587 588 rfl ?_
  refine w_aload_n X 5 dL_law_588 rfl rfl 589 rfl ?_
  refine w_iload X 1 dL_law_589 rfl 591 rfl ?_
  refine w_iconst X 2 dL_law_591 rfl 592 rfl ?_
  refine w_iadd X dL_law_592 593 rfl ?_
  refine w_sld X hx hbl hbA h2.1 (a 2) h2.2 dL_law_593 594 rfl ?_
  refine w_mcall (fun x => x.1) (fun x => x.2) X hZ hF [.int (a 1), .int (a 2)] (q := ("PawnRaceModel", TX12, 50)) rfl rfl rfl kB_X12_pawn kL_L_162 (fun res h => ct_X12_pawn l hZ fu (a 1) (a 2) (fun j => (mset 0 256 mem p_1.2) (256 + j)) res h) rfl rfl rfl ⟨Nat.le_of_ble_eq_true rfl, Nat.le_of_ble_eq_true rfl⟩ (Nat.le_of_ble_eq_true rfl) hcap dL_law_594 597 rfl (fun p_2 hF => ?_)
  refine w_istore X [(6, .int p_2.1), (5, .int p_1.1), (4, .int x4), (3, .ref (ad 255)), (2, .ref (ad 256)), (1, .ref (ad 0)), (0, .ref b)] dL_law_597 (by decide) rfl 599 rfl ?_
  refine w_aload_n X 4 dL_law_599 rfl rfl 600 rfl ?_
  refine w_mcall (fun x => x) (fun _ => (fun j => (mset 256 23 (mset 0 256 mem p_1.2) p_2.2) (256 + j))) X hZ hF [] (q := ("PawnRaceModel", TX12, 50)) rfl rfl rfl kB_X12_thrown kL_L_134 (fun res h => ct_X12_thrown l hZ fu  (fun j => (mset 256 23 (mset 0 256 mem p_1.2) p_2.2) (256 + j)) res h) rfl rfl rfl ⟨Nat.le_of_ble_eq_true rfl, Nat.le_of_ble_eq_true rfl⟩ (Nat.le_of_ble_eq_true rfl) hcap dL_law_600 603 rfl (fun x_3 hF => ?_)
  refine w_iload X 1 dL_law_603 rfl 605 rfl ?_
  refine w_icmp_eq X hF 610 608 dL_law_605 (by decide) rfl (fun hF => ?_) (fun hF => ?_)
  · refine w_iload X 1 dL_law_610 rfl 612 rfl ?_
    refine w_if_ne X hF 627 615 dL_law_612 (by decide) rfl (fun hF => ?_) (fun hF => ?_)
    · refine w_aload_n X 3 dL_law_615 rfl rfl 616 rfl ?_
      refine w_iconst X 0 dL_law_616 rfl 617 rfl ?_
      refine w_lal X 255 lt279_255 ko_W255 (t0 := 5) rfl vin01 dL_law_617 618 rfl ?_
      refine w_iload X 0 dL_law_618 rfl 620 rfl ?_
      refine w_i2l X dL_law_620 621 rfl ?_
      refine w_lcmp X dL_law_621 622 rfl ?_
      refine w_if_eq X hF 627 625 dL_law_622 (by decide) rfl (fun hF => ?_) (fun hF => ?_)
      · refine w_goto X 2582 dL_law_627 (by decide) ?_
        refine w_keep [2, 3, 4, 5, 6] rfl ?_
        have e9 := o_inj hF
        subst e9
        exact kk
      · refine w_iconst X 0 dL_law_625 rfl 626 rfl ?_
        exact no_none hF
    · refine w_goto X 2582 dL_law_627 (by decide) ?_
      refine w_keep [2, 3, 4, 5, 6] rfl ?_
      have e9 := o_inj hF
      subst e9
      exact kk
  · refine w_iconst X 0 dL_law_608 rfl 609 rfl ?_
    exact no_none hF

def K_case_8 (fu : Nat) (a : Nat → Int32) (mem : Mem) : Option Mem := bd (K_X11_turnOf fu mem) (fun x_1 => bd (K_X12_turnOf fu (fun j => (mset 0 255 mem mem) (256 + j))) (fun p_2 => (if x_1 = p_2.1 then some (mset 256 23 (mset 0 255 mem mem) p_2.2) else none)))
set_option maxHeartbeats 4000000 in
set_option maxRecDepth 100000 in
theorem lc_8 (hl : l.stackTraces = false) (hZ : ZOK Z) (hX : ZX Z) {tO : Nat} {sK sV : Nat → Nat} (hO : ZO Z tO sK sV) (fu : Nat) (X : CX D (tyL ca) 279 ad Z p s m args meth c cL_law 7 "PawnRaceLaw" ret) {b L : Nat} {xs a : Nat → Int32} {x4 : Int32} (HX : LX b L xs s (AA 279 ad s.heap.size) x4 a) (hcap : cells + 3 ≤ room_1.cells ∧ slots + 18 ≤ room_1.slots) {mem mem2 : Mem} (hF : K_case_8 fu a mem = some mem2) (kk : WW D 279 ad (cW ca ad) p l e room_1 s m args below meth c 7 (cells + 3) (slots + 18) Q mem2 2582 [(4, .int x4), (3, .ref (ad 255)), (2, .ref (ad 256)), (1, .ref (ad 0)), (0, .ref b)] []) : WW D 279 ad (cW ca ad) p l e room_1 s m args below meth c 7 cells slots Q mem 630 [(4, .int x4), (3, .ref (ad 255)), (2, .ref (ad 256)), (1, .ref (ad 0)), (0, .ref b)] [] := by
  have hcap0 : cells ≤ room_1.cells ∧ slots ≤ room_1.slots := ⟨Nat.le_trans (Nat.le_add_right _ 3) hcap.1, Nat.le_trans (Nat.le_add_right _ 18) hcap.2⟩
  obtain ⟨hx, hbl, hbA, h1, h2, h3, h4, h5⟩ := HX
  rw [K_case_8] at hF
  refine w_aload_n X 3 dL_law_630 rfl rfl 631 rfl ?_
  refine w_ccall (fun x => x) (fun _ => mem) X hZ hF [] (q := ("PawnRace", TX11, 14)) rfl rfl rfl kB_X11_turnOf kL_L_163 (fun res h => ct_X11_turnOf l hZ hO fu  mem res h) rfl rfl rfl ⟨Nat.le_of_ble_eq_true rfl, Nat.le_of_ble_eq_true rfl⟩ (Nat.le_of_ble_eq_true rfl) hcap0 dL_law_631 634 rfl (fun x_1 hF => ?_)
  refine w_aload_n X 2 dL_law_634 rfl rfl 635 rfl ?_
  refine w_mcall (fun x => x.1) (fun x => x.2) X hZ hF [] (q := ("PawnRaceModel", TX12, 50)) rfl rfl rfl kB_X12_turnOf kL_L_166 (fun res h => ct_X12_turnOf l hZ fu  (fun j => (mset 0 255 mem mem) (256 + j)) res h) rfl rfl rfl ⟨Nat.le_of_ble_eq_true rfl, Nat.le_of_ble_eq_true rfl⟩ (Nat.le_of_ble_eq_true rfl) hcap0 dL_law_635 638 rfl (fun p_2 hF => ?_)
  refine w_icmp_eq X hF 2582 641 dL_law_638 (by decide) rfl (fun hF => ?_) (fun hF => ?_)
  · refine w_keep [0, 1, 2, 3, 4] rfl ?_
    refine w_widen (Nat.le_add_right _ 3) (Nat.le_add_right _ 18) ?_
    have e9 := o_inj hF
    subst e9
    exact kk
  · refine w_iconst X 0 dL_law_641 rfl 642 rfl ?_
    exact no_none hF

def K_case_9 (fu : Nat) (a : Nat → Int32) (mem : Mem) : Option Mem := bd (K_X11_isOver fu mem) (fun x_1 => bd (K_X12_isOver fu (fun j => (mset 0 255 mem mem) (256 + j))) (fun p_2 => (if x_1 = p_2.1 then some (mset 256 23 (mset 0 255 mem mem) p_2.2) else none)))
set_option maxHeartbeats 4000000 in
set_option maxRecDepth 100000 in
theorem lc_9 (hl : l.stackTraces = false) (hZ : ZOK Z) (hX : ZX Z) {tO : Nat} {sK sV : Nat → Nat} (hO : ZO Z tO sK sV) (fu : Nat) (X : CX D (tyL ca) 279 ad Z p s m args meth c cL_law 7 "PawnRaceLaw" ret) {b L : Nat} {xs a : Nat → Int32} {x4 : Int32} (HX : LX b L xs s (AA 279 ad s.heap.size) x4 a) (hcap : cells + 3 ≤ room_1.cells ∧ slots + 18 ≤ room_1.slots) {mem mem2 : Mem} (hF : K_case_9 fu a mem = some mem2) (kk : WW D 279 ad (cW ca ad) p l e room_1 s m args below meth c 7 (cells + 3) (slots + 18) Q mem2 2582 [(4, .int x4), (3, .ref (ad 255)), (2, .ref (ad 256)), (1, .ref (ad 0)), (0, .ref b)] []) : WW D 279 ad (cW ca ad) p l e room_1 s m args below meth c 7 cells slots Q mem 643 [(4, .int x4), (3, .ref (ad 255)), (2, .ref (ad 256)), (1, .ref (ad 0)), (0, .ref b)] [] := by
  have hcap0 : cells ≤ room_1.cells ∧ slots ≤ room_1.slots := ⟨Nat.le_trans (Nat.le_add_right _ 3) hcap.1, Nat.le_trans (Nat.le_add_right _ 18) hcap.2⟩
  obtain ⟨hx, hbl, hbA, h1, h2, h3, h4, h5⟩ := HX
  rw [K_case_9] at hF
  refine w_aload_n X 3 dL_law_643 rfl rfl 644 rfl ?_
  refine w_ccall (fun x => x) (fun _ => mem) X hZ hF [] (q := ("PawnRace", TX11, 14)) rfl rfl rfl kB_X11_isOver kL_L_167 (fun res h => ct_X11_isOver l hZ hO fu  mem res h) rfl rfl rfl ⟨Nat.le_of_ble_eq_true rfl, Nat.le_of_ble_eq_true rfl⟩ (Nat.le_of_ble_eq_true rfl) hcap0 dL_law_644 647 rfl (fun x_1 hF => ?_)
  refine w_aload_n X 2 dL_law_647 rfl rfl 648 rfl ?_
  refine w_mcall (fun x => x.1) (fun x => x.2) X hZ hF [] (q := ("PawnRaceModel", TX12, 50)) rfl rfl rfl kB_X12_isOver kL_L_171 (fun res h => ct_X12_isOver l hZ fu  (fun j => (mset 0 255 mem mem) (256 + j)) res h) rfl rfl rfl ⟨Nat.le_of_ble_eq_true rfl, Nat.le_of_ble_eq_true rfl⟩ (Nat.le_of_ble_eq_true rfl) hcap0 dL_law_648 651 rfl (fun p_2 hF => ?_)
  refine w_icmp_eq X hF 2582 654 dL_law_651 (by decide) rfl (fun hF => ?_) (fun hF => ?_)
  · refine w_keep [0, 1, 2, 3, 4] rfl ?_
    refine w_widen (Nat.le_add_right _ 3) (Nat.le_add_right _ 18) ?_
    have e9 := o_inj hF
    subst e9
    exact kk
  · refine w_iconst X 0 dL_law_654 rfl 655 rfl ?_
    exact no_none hF

def K_case_10 (fu : Nat) (a : Nat → Int32) (mem : Mem) : Option Mem := bd (K_L_pawnAt fu (a 1) (a 2) mem) (fun p_1 => bd (K_X12_pawnAt fu (a 1) (a 2) (fun j => (mset 0 256 mem p_1.2) (256 + j))) (fun p_2 => bd (K_X12_thrown fu (fun j => (mset 256 23 (mset 0 256 mem p_1.2) p_2.2) (256 + j))) (fun x_3 => (if x_3 = p_1.1 then (if p_1.1 = 0 then (if (lg_cmp (rl (mset 256 23 (mset 256 23 (mset 0 256 mem p_1.2) p_2.2) (fun j => (mset 256 23 (mset 0 256 mem p_1.2) p_2.2) (256 + j))) 255 (Int32.toNatClampNeg 0)) (Int32.toInt64 p_2.1)) = 0 then some (mset 256 23 (mset 256 23 (mset 0 256 mem p_1.2) p_2.2) (fun j => (mset 256 23 (mset 0 256 mem p_1.2) p_2.2) (256 + j))) else none) else some (mset 256 23 (mset 256 23 (mset 0 256 mem p_1.2) p_2.2) (fun j => (mset 256 23 (mset 0 256 mem p_1.2) p_2.2) (256 + j)))) else none))))
set_option maxHeartbeats 4000000 in
set_option maxRecDepth 100000 in
theorem lc_10 (hl : l.stackTraces = false) (hZ : ZOK Z) (hX : ZX Z) {tO : Nat} {sK sV : Nat → Nat} (hO : ZO Z tO sK sV) (fu : Nat) (X : CX D (tyL ca) 279 ad Z p s m args meth c cL_law 7 "PawnRaceLaw" ret) {b L : Nat} {xs a : Nat → Int32} {x4 : Int32} (HX : LX b L xs s (AA 279 ad s.heap.size) x4 a) (hcap : cells + 3 ≤ room_1.cells ∧ slots + 18 ≤ room_1.slots) {mem mem2 : Mem} (hF : K_case_10 fu a mem = some mem2) (kk : WW D 279 ad (cW ca ad) p l e room_1 s m args below meth c 7 (cells + 3) (slots + 18) Q mem2 2582 [(4, .int x4), (3, .ref (ad 255)), (2, .ref (ad 256)), (1, .ref (ad 0)), (0, .ref b)] []) : WW D 279 ad (cW ca ad) p l e room_1 s m args below meth c 7 cells slots Q mem 656 [(4, .int x4), (3, .ref (ad 255)), (2, .ref (ad 256)), (1, .ref (ad 0)), (0, .ref b)] [] := by
  have hcap0 : cells ≤ room_1.cells ∧ slots ≤ room_1.slots := ⟨Nat.le_trans (Nat.le_add_right _ 3) hcap.1, Nat.le_trans (Nat.le_add_right _ 18) hcap.2⟩
  obtain ⟨hx, hbl, hbA, h1, h2, h3, h4, h5⟩ := HX
  rw [K_case_10] at hF
  refine w_aload_n X 3 dL_law_656 rfl rfl 657 rfl ?_
  refine w_aload_n X 4 dL_law_657 rfl rfl 658 rfl ?_
  refine w_iload X 0 dL_law_658 rfl 660 rfl ?_
  refine w_iconst X 1 dL_law_660 rfl 661 rfl ?_
  refine w_iadd X dL_law_661 662 rfl ?_
  refine w_sld X hx hbl hbA h1.1 (a 1) h1.2 dL_law_662 663 rfl ?_
  refine w_aload_n X 4 dL_law_663 rfl rfl 664 rfl ?_
  refine w_iload X 0 dL_law_664 rfl 666 rfl ?_
  refine w_iconst X 2 dL_law_666 rfl 667 rfl ?_
  refine w_iadd X dL_law_667 668 rfl ?_
  refine w_sld X hx hbl hbA h2.1 (a 2) h2.2 dL_law_668 669 rfl ?_
  refine w_aload_n X 1 dL_law_669 rfl rfl 670 rfl ?_
  refine w_wcall X hZ hF [.ref (ad 0), .int (a 1), .int (a 2), .ref (ad 255)] rfl kB_L_pawnAt kL_L_172 (fun res h => ct_L_pawnAt l hl hZ hX hO fu (a 1) (a 2) mem res h) rfl rfl rfl ⟨Nat.le_of_ble_eq_true rfl, Nat.le_of_ble_eq_true rfl⟩ (Nat.le_of_ble_eq_true rfl) hcap dL_law_670 673 rfl (fun p_1 hF => ?_)
  refine w_istore X [(5, .int p_1.1), (4, .int x4), (3, .ref (ad 255)), (2, .ref (ad 256)), (1, .ref (ad 0)), (0, .ref b)] dL_law_673 (by decide) rfl 675 rfl ?_
  refine w_aload_n X 3 dL_law_675 rfl rfl 676 rfl ?_
  refine w_aload_n X 5 dL_law_676 rfl rfl 677 rfl ?_
  refine w_iload X 1 dL_law_677 rfl 679 rfl ?_
  refine w_iconst X 1 dL_law_679 rfl 680 rfl ?_
  refine w_iadd X dL_law_680 681 rfl ?_
  refine w_sld X hx hbl hbA h1.1 (a 1) h1.2 dL_law_681 682 rfl ?_
  refine w_aload_n X 5 dL_law_682 rfl rfl 683 rfl ?_
  refine w_iload X 1 dL_law_683 rfl 685 rfl ?_
  refine w_iconst X 2 dL_law_685 rfl 686 rfl ?_
  refine w_iadd X dL_law_686 687 rfl ?_
  refine w_sld X hx hbl hbA h2.1 (a 2) h2.2 dL_law_687 688 rfl ?_
  refine w_mcall (fun x => x.1) (fun x => x.2) X hZ hF [.int (a 1), .int (a 2)] (q := ("PawnRaceModel", TX12, 50)) rfl rfl rfl kB_X12_pawnAt kL_L_174 (fun res h => ct_X12_pawnAt l hZ fu (a 1) (a 2) (fun j => (mset 0 256 mem p_1.2) (256 + j)) res h) rfl rfl rfl ⟨Nat.le_of_ble_eq_true rfl, Nat.le_of_ble_eq_true rfl⟩ (Nat.le_of_ble_eq_true rfl) hcap dL_law_688 691 rfl (fun p_2 hF => ?_)
  refine w_istore X [(6, .int p_2.1), (5, .int p_1.1), (4, .int x4), (3, .ref (ad 255)), (2, .ref (ad 256)), (1, .ref (ad 0)), (0, .ref b)] dL_law_691 (by decide) rfl 693 rfl ?_
  refine w_aload_n X 4 dL_law_693 rfl rfl 694 rfl ?_
  refine w_mcall (fun x => x) (fun _ => (fun j => (mset 256 23 (mset 0 256 mem p_1.2) p_2.2) (256 + j))) X hZ hF [] (q := ("PawnRaceModel", TX12, 50)) rfl rfl rfl kB_X12_thrown kL_L_134 (fun res h => ct_X12_thrown l hZ fu  (fun j => (mset 256 23 (mset 0 256 mem p_1.2) p_2.2) (256 + j)) res h) rfl rfl rfl ⟨Nat.le_of_ble_eq_true rfl, Nat.le_of_ble_eq_true rfl⟩ (Nat.le_of_ble_eq_true rfl) hcap dL_law_694 697 rfl (fun x_3 hF => ?_)
  refine w_iload X 1 dL_law_697 rfl 699 rfl ?_
  refine w_icmp_eq X hF 704 702 dL_law_699 (by decide) rfl (fun hF => ?_) (fun hF => ?_)
  · refine w_iload X 1 dL_law_704 rfl 706 rfl ?_
    refine w_if_ne X hF 721 709 dL_law_706 (by decide) rfl (fun hF => ?_) (fun hF => ?_)
    · refine w_aload_n X 3 dL_law_709 rfl rfl 710 rfl ?_
      refine w_iconst X 0 dL_law_710 rfl 711 rfl ?_
      refine w_lal X 255 lt279_255 ko_W255 (t0 := 5) rfl vin01 dL_law_711 712 rfl ?_
      refine w_iload X 0 dL_law_712 rfl 714 rfl ?_
      refine w_i2l X dL_law_714 715 rfl ?_
      refine w_lcmp X dL_law_715 716 rfl ?_
      refine w_if_eq X hF 721 719 dL_law_716 (by decide) rfl (fun hF => ?_) (fun hF => ?_)
      · refine w_goto X 2582 dL_law_721 (by decide) ?_
        refine w_keep [2, 3, 4, 5, 6] rfl ?_
        have e9 := o_inj hF
        subst e9
        exact kk
      · refine w_iconst X 0 dL_law_719 rfl 720 rfl ?_
        exact no_none hF
    · refine w_goto X 2582 dL_law_721 (by decide) ?_
      refine w_keep [2, 3, 4, 5, 6] rfl ?_
      have e9 := o_inj hF
      subst e9
      exact kk
  · refine w_iconst X 0 dL_law_702 rfl 703 rfl ?_
    exact no_none hF

def K_case_11 (fu : Nat) (a : Nat → Int32) (mem : Mem) : Option Mem := bd (K_X11_ranked fu (a 1) mem) (fun x_1 => bd (K_X12_ranked fu (a 1) (fun j => (mset 0 255 mem mem) (256 + j))) (fun p_2 => (if x_1 = p_2.1 then some (mset 256 23 (mset 0 255 mem mem) p_2.2) else none)))
set_option maxHeartbeats 4000000 in
set_option maxRecDepth 100000 in
theorem lc_11 (hl : l.stackTraces = false) (hZ : ZOK Z) (hX : ZX Z) {tO : Nat} {sK sV : Nat → Nat} (hO : ZO Z tO sK sV) (fu : Nat) (X : CX D (tyL ca) 279 ad Z p s m args meth c cL_law 7 "PawnRaceLaw" ret) {b L : Nat} {xs a : Nat → Int32} {x4 : Int32} (HX : LX b L xs s (AA 279 ad s.heap.size) x4 a) (hcap : cells + 3 ≤ room_1.cells ∧ slots + 18 ≤ room_1.slots) {mem mem2 : Mem} (hF : K_case_11 fu a mem = some mem2) (kk : WW D 279 ad (cW ca ad) p l e room_1 s m args below meth c 7 (cells + 3) (slots + 18) Q mem2 2582 [(4, .int x4), (3, .ref (ad 255)), (2, .ref (ad 256)), (1, .ref (ad 0)), (0, .ref b)] []) : WW D 279 ad (cW ca ad) p l e room_1 s m args below meth c 7 cells slots Q mem 724 [(4, .int x4), (3, .ref (ad 255)), (2, .ref (ad 256)), (1, .ref (ad 0)), (0, .ref b)] [] := by
  have hcap0 : cells ≤ room_1.cells ∧ slots ≤ room_1.slots := ⟨Nat.le_trans (Nat.le_add_right _ 3) hcap.1, Nat.le_trans (Nat.le_add_right _ 18) hcap.2⟩
  obtain ⟨hx, hbl, hbA, h1, h2, h3, h4, h5⟩ := HX
  rw [K_case_11] at hF
  refine w_aload_n X 3 dL_law_724 rfl rfl 725 rfl ?_
  refine w_aload_n X 4 dL_law_725 rfl rfl 726 rfl ?_
  refine w_iload X 0 dL_law_726 rfl 728 rfl ?_
  refine w_iconst X 1 dL_law_728 rfl 729 rfl ?_
  refine w_iadd X dL_law_729 730 rfl ?_
  refine w_sld X hx hbl hbA h1.1 (a 1) h1.2 dL_law_730 731 rfl ?_
  refine w_ccall (fun x => x) (fun _ => mem) X hZ hF [.int (a 1)] (q := ("PawnRace", TX11, 14)) rfl rfl rfl kB_X11_ranked kL_L_175 (fun res h => ct_X11_ranked l hZ hO fu (a 1) mem res h) rfl rfl rfl ⟨Nat.le_of_ble_eq_true rfl, Nat.le_of_ble_eq_true rfl⟩ (Nat.le_of_ble_eq_true rfl) hcap0 dL_law_731 734 rfl (fun x_1 hF => ?_)
  refine w_aload_n X 2 dL_law_734 rfl rfl 735 rfl ?_
  refine w_aload_n X 4 dL_law_735 rfl rfl 736 rfl ?_
  refine w_iload X 0 dL_law_736 rfl 738 rfl ?_
  refine w_iconst X 1 dL_law_738 rfl 739 rfl ?_
  refine w_iadd X dL_law_739 740 rfl ?_
  refine w_sld X hx hbl hbA h1.1 (a 1) h1.2 dL_law_740 741 rfl ?_
  refine w_mcall (fun x => x.1) (fun x => x.2) X hZ hF [.int (a 1)] (q := ("PawnRaceModel", TX12, 50)) rfl rfl rfl kB_X12_ranked kL_L_178 (fun res h => ct_X12_ranked l hZ fu (a 1) (fun j => (mset 0 255 mem mem) (256 + j)) res h) rfl rfl rfl ⟨Nat.le_of_ble_eq_true rfl, Nat.le_of_ble_eq_true rfl⟩ (Nat.le_of_ble_eq_true rfl) hcap0 dL_law_741 744 rfl (fun p_2 hF => ?_)
  refine w_icmp_eq X hF 2582 747 dL_law_744 (by decide) rfl (fun hF => ?_) (fun hF => ?_)
  · refine w_keep [0, 1, 2, 3, 4] rfl ?_
    refine w_widen (Nat.le_add_right _ 3) (Nat.le_add_right _ 18) ?_
    have e9 := o_inj hF
    subst e9
    exact kk
  · refine w_iconst X 0 dL_law_747 rfl 748 rfl ?_
    exact no_none hF

def K_case_12 (fu : Nat) (a : Nat → Int32) (mem : Mem) : Option Mem := bd (K_L_wallAt fu (a 1) (a 2) mem) (fun p_1 => bd (K_X12_wallAt fu (a 1) (a 2) (fun j => (mset 0 256 mem p_1.2) (256 + j))) (fun p_2 => bd (K_X12_thrown fu (fun j => (mset 256 23 (mset 0 256 mem p_1.2) p_2.2) (256 + j))) (fun x_3 => (if x_3 = p_1.1 then (if p_1.1 = 0 then (if (lg_cmp (rl (mset 256 23 (mset 256 23 (mset 0 256 mem p_1.2) p_2.2) (fun j => (mset 256 23 (mset 0 256 mem p_1.2) p_2.2) (256 + j))) 255 (Int32.toNatClampNeg 0)) (Int32.toInt64 p_2.1)) = 0 then some (mset 256 23 (mset 256 23 (mset 0 256 mem p_1.2) p_2.2) (fun j => (mset 256 23 (mset 0 256 mem p_1.2) p_2.2) (256 + j))) else none) else some (mset 256 23 (mset 256 23 (mset 0 256 mem p_1.2) p_2.2) (fun j => (mset 256 23 (mset 0 256 mem p_1.2) p_2.2) (256 + j)))) else none))))
set_option maxHeartbeats 4000000 in
set_option maxRecDepth 100000 in
theorem lc_12 (hl : l.stackTraces = false) (hZ : ZOK Z) (hX : ZX Z) {tO : Nat} {sK sV : Nat → Nat} (hO : ZO Z tO sK sV) (fu : Nat) (X : CX D (tyL ca) 279 ad Z p s m args meth c cL_law 7 "PawnRaceLaw" ret) {b L : Nat} {xs a : Nat → Int32} {x4 : Int32} (HX : LX b L xs s (AA 279 ad s.heap.size) x4 a) (hcap : cells + 3 ≤ room_1.cells ∧ slots + 18 ≤ room_1.slots) {mem mem2 : Mem} (hF : K_case_12 fu a mem = some mem2) (kk : WW D 279 ad (cW ca ad) p l e room_1 s m args below meth c 7 (cells + 3) (slots + 18) Q mem2 2582 [(4, .int x4), (3, .ref (ad 255)), (2, .ref (ad 256)), (1, .ref (ad 0)), (0, .ref b)] []) : WW D 279 ad (cW ca ad) p l e room_1 s m args below meth c 7 cells slots Q mem 749 [(4, .int x4), (3, .ref (ad 255)), (2, .ref (ad 256)), (1, .ref (ad 0)), (0, .ref b)] [] := by
  have hcap0 : cells ≤ room_1.cells ∧ slots ≤ room_1.slots := ⟨Nat.le_trans (Nat.le_add_right _ 3) hcap.1, Nat.le_trans (Nat.le_add_right _ 18) hcap.2⟩
  obtain ⟨hx, hbl, hbA, h1, h2, h3, h4, h5⟩ := HX
  rw [K_case_12] at hF
  refine w_aload_n X 3 dL_law_749 rfl rfl 750 rfl ?_
  refine w_aload_n X 4 dL_law_750 rfl rfl 751 rfl ?_
  refine w_iload X 0 dL_law_751 rfl 753 rfl ?_
  refine w_iconst X 1 dL_law_753 rfl 754 rfl ?_
  refine w_iadd X dL_law_754 755 rfl ?_
  refine w_sld X hx hbl hbA h1.1 (a 1) h1.2 dL_law_755 756 rfl ?_
  refine w_aload_n X 4 dL_law_756 rfl rfl 757 rfl ?_
  refine w_iload X 0 dL_law_757 rfl 759 rfl ?_
  refine w_iconst X 2 dL_law_759 rfl 760 rfl ?_
  refine w_iadd X dL_law_760 761 rfl ?_
  refine w_sld X hx hbl hbA h2.1 (a 2) h2.2 dL_law_761 762 rfl ?_
  refine w_aload_n X 1 dL_law_762 rfl rfl 763 rfl ?_
  refine w_wcall X hZ hF [.ref (ad 0), .int (a 1), .int (a 2), .ref (ad 255)] rfl kB_L_wallAt kL_L_179 (fun res h => ct_L_wallAt l hl hZ hX hO fu (a 1) (a 2) mem res h) rfl rfl rfl ⟨Nat.le_of_ble_eq_true rfl, Nat.le_of_ble_eq_true rfl⟩ (Nat.le_of_ble_eq_true rfl) hcap dL_law_763 766 rfl (fun p_1 hF => ?_)
  refine w_istore X [(5, .int p_1.1), (4, .int x4), (3, .ref (ad 255)), (2, .ref (ad 256)), (1, .ref (ad 0)), (0, .ref b)] dL_law_766 (by decide) rfl 768 rfl ?_
  refine w_aload_n X 3 dL_law_768 rfl rfl 769 rfl ?_
  refine w_aload_n X 5 dL_law_769 rfl rfl 770 rfl ?_
  refine w_iload X 1 dL_law_770 rfl 772 rfl ?_
  refine w_iconst X 1 dL_law_772 rfl 773 rfl ?_
  refine w_iadd X dL_law_773 774 rfl ?_
  refine w_sld X hx hbl hbA h1.1 (a 1) h1.2 dL_law_774 775 rfl ?_
  refine w_aload_n X 5 dL_law_775 rfl rfl 776 rfl ?_
  refine w_iload X 1 dL_law_776 rfl 778 rfl ?_
  refine w_iconst X 2 dL_law_778 rfl 779 rfl ?_
  refine w_iadd X dL_law_779 780 rfl ?_
  refine w_sld X hx hbl hbA h2.1 (a 2) h2.2 dL_law_780 781 rfl ?_
  refine w_mcall (fun x => x.1) (fun x => x.2) X hZ hF [.int (a 1), .int (a 2)] (q := ("PawnRaceModel", TX12, 50)) rfl rfl rfl kB_X12_wallAt kL_L_181 (fun res h => ct_X12_wallAt l hZ fu (a 1) (a 2) (fun j => (mset 0 256 mem p_1.2) (256 + j)) res h) rfl rfl rfl ⟨Nat.le_of_ble_eq_true rfl, Nat.le_of_ble_eq_true rfl⟩ (Nat.le_of_ble_eq_true rfl) hcap dL_law_781 784 rfl (fun p_2 hF => ?_)
  refine w_istore X [(6, .int p_2.1), (5, .int p_1.1), (4, .int x4), (3, .ref (ad 255)), (2, .ref (ad 256)), (1, .ref (ad 0)), (0, .ref b)] dL_law_784 (by decide) rfl 786 rfl ?_
  refine w_aload_n X 4 dL_law_786 rfl rfl 787 rfl ?_
  refine w_mcall (fun x => x) (fun _ => (fun j => (mset 256 23 (mset 0 256 mem p_1.2) p_2.2) (256 + j))) X hZ hF [] (q := ("PawnRaceModel", TX12, 50)) rfl rfl rfl kB_X12_thrown kL_L_134 (fun res h => ct_X12_thrown l hZ fu  (fun j => (mset 256 23 (mset 0 256 mem p_1.2) p_2.2) (256 + j)) res h) rfl rfl rfl ⟨Nat.le_of_ble_eq_true rfl, Nat.le_of_ble_eq_true rfl⟩ (Nat.le_of_ble_eq_true rfl) hcap dL_law_787 790 rfl (fun x_3 hF => ?_)
  refine w_iload X 1 dL_law_790 rfl 792 rfl ?_
  refine w_icmp_eq X hF 797 795 dL_law_792 (by decide) rfl (fun hF => ?_) (fun hF => ?_)
  · refine w_iload X 1 dL_law_797 rfl 799 rfl ?_
    refine w_if_ne X hF 814 802 dL_law_799 (by decide) rfl (fun hF => ?_) (fun hF => ?_)
    · refine w_aload_n X 3 dL_law_802 rfl rfl 803 rfl ?_
      refine w_iconst X 0 dL_law_803 rfl 804 rfl ?_
      refine w_lal X 255 lt279_255 ko_W255 (t0 := 5) rfl vin01 dL_law_804 805 rfl ?_
      refine w_iload X 0 dL_law_805 rfl 807 rfl ?_
      refine w_i2l X dL_law_807 808 rfl ?_
      refine w_lcmp X dL_law_808 809 rfl ?_
      refine w_if_eq X hF 814 812 dL_law_809 (by decide) rfl (fun hF => ?_) (fun hF => ?_)
      · refine w_goto X 2582 dL_law_814 (by decide) ?_
        refine w_keep [2, 3, 4, 5, 6] rfl ?_
        have e9 := o_inj hF
        subst e9
        exact kk
      · refine w_iconst X 0 dL_law_812 rfl 813 rfl ?_
        exact no_none hF
    · refine w_goto X 2582 dL_law_814 (by decide) ?_
      refine w_keep [2, 3, 4, 5, 6] rfl ?_
      have e9 := o_inj hF
      subst e9
      exact kk
  · refine w_iconst X 0 dL_law_795 rfl 796 rfl ?_
    exact no_none hF

def K_case_13 (fu : Nat) (a : Nat → Int32) (mem : Mem) : Option Mem := bd (K_L_isBlocked fu (a 1) (a 2) (a 3) mem) (fun p_1 => bd (K_X12_isBlocked fu (a 1) (a 2) (a 3) (fun j => (mset 0 256 mem p_1.2) (256 + j))) (fun p_2 => bd (K_X12_thrown fu (fun j => (mset 256 23 (mset 0 256 mem p_1.2) p_2.2) (256 + j))) (fun x_3 => (if x_3 = p_1.1 then (if p_1.1 = 0 then (if p_2.1 = 0 then (if (lg_cmp (rl (mset 256 23 (mset 256 23 (mset 0 256 mem p_1.2) p_2.2) (fun j => (mset 256 23 (mset 0 256 mem p_1.2) p_2.2) (256 + j))) 255 (Int32.toNatClampNeg 0)) 0) = 0 then some (mset 256 23 (mset 256 23 (mset 0 256 mem p_1.2) p_2.2) (fun j => (mset 256 23 (mset 0 256 mem p_1.2) p_2.2) (256 + j))) else none) else (if (lg_cmp (rl (mset 256 23 (mset 256 23 (mset 0 256 mem p_1.2) p_2.2) (fun j => (mset 256 23 (mset 0 256 mem p_1.2) p_2.2) (256 + j))) 255 (Int32.toNatClampNeg 0)) 1) = 0 then some (mset 256 23 (mset 256 23 (mset 0 256 mem p_1.2) p_2.2) (fun j => (mset 256 23 (mset 0 256 mem p_1.2) p_2.2) (256 + j))) else none)) else some (mset 256 23 (mset 256 23 (mset 0 256 mem p_1.2) p_2.2) (fun j => (mset 256 23 (mset 0 256 mem p_1.2) p_2.2) (256 + j)))) else none))))
set_option maxHeartbeats 4000000 in
set_option maxRecDepth 100000 in
theorem lc_13 (hl : l.stackTraces = false) (hZ : ZOK Z) (hX : ZX Z) {tO : Nat} {sK sV : Nat → Nat} (hO : ZO Z tO sK sV) (fu : Nat) (X : CX D (tyL ca) 279 ad Z p s m args meth c cL_law 7 "PawnRaceLaw" ret) {b L : Nat} {xs a : Nat → Int32} {x4 : Int32} (HX : LX b L xs s (AA 279 ad s.heap.size) x4 a) (hcap : cells + 3 ≤ room_1.cells ∧ slots + 18 ≤ room_1.slots) {mem mem2 : Mem} (hF : K_case_13 fu a mem = some mem2) (kk : WW D 279 ad (cW ca ad) p l e room_1 s m args below meth c 7 (cells + 3) (slots + 18) Q mem2 2582 [(4, .int x4), (3, .ref (ad 255)), (2, .ref (ad 256)), (1, .ref (ad 0)), (0, .ref b)] []) : WW D 279 ad (cW ca ad) p l e room_1 s m args below meth c 7 cells slots Q mem 817 [(4, .int x4), (3, .ref (ad 255)), (2, .ref (ad 256)), (1, .ref (ad 0)), (0, .ref b)] [] := by
  have hcap0 : cells ≤ room_1.cells ∧ slots ≤ room_1.slots := ⟨Nat.le_trans (Nat.le_add_right _ 3) hcap.1, Nat.le_trans (Nat.le_add_right _ 18) hcap.2⟩
  obtain ⟨hx, hbl, hbA, h1, h2, h3, h4, h5⟩ := HX
  rw [K_case_13] at hF
  refine w_aload_n X 3 dL_law_817 rfl rfl 818 rfl ?_
  refine w_aload_n X 4 dL_law_818 rfl rfl 819 rfl ?_
  refine w_iload X 0 dL_law_819 rfl 821 rfl ?_
  refine w_iconst X 1 dL_law_821 rfl 822 rfl ?_
  refine w_iadd X dL_law_822 823 rfl ?_
  refine w_sld X hx hbl hbA h1.1 (a 1) h1.2 dL_law_823 824 rfl ?_
  refine w_aload_n X 4 dL_law_824 rfl rfl 825 rfl ?_
  refine w_iload X 0 dL_law_825 rfl 827 rfl ?_
  refine w_iconst X 2 dL_law_827 rfl 828 rfl ?_
  refine w_iadd X dL_law_828 829 rfl ?_
  refine w_sld X hx hbl hbA h2.1 (a 2) h2.2 dL_law_829 830 rfl ?_
  refine w_aload_n X 4 dL_law_830 rfl rfl 831 rfl ?_
  refine w_iload X 0 dL_law_831 rfl 833 rfl ?_
  refine w_iconst X 3 dL_law_833 rfl 834 rfl ?_
  refine w_iadd X dL_law_834 835 rfl ?_
  refine w_sld X hx hbl hbA h3.1 (a 3) h3.2 dL_law_835 836 rfl ?_
  refine w_aload_n X 1 dL_law_836 rfl rfl 837 rfl ?_
  refine w_wcall X hZ hF [.ref (ad 0), .int (a 1), .int (a 2), .int (a 3), .ref (ad 255)] rfl kB_L_isBlocked kL_L_182 (fun res h => ct_L_isBlocked l hl hZ hX hO fu (a 1) (a 2) (a 3) mem res h) rfl rfl rfl ⟨Nat.le_of_ble_eq_true rfl, Nat.le_of_ble_eq_true rfl⟩ (Nat.le_of_ble_eq_true rfl) hcap dL_law_837 840 rfl (fun p_1 hF => ?_)
  refine w_istore X [(5, .int p_1.1), (4, .int x4), (3, .ref (ad 255)), (2, .ref (ad 256)), (1, .ref (ad 0)), (0, .ref b)] dL_law_840 (by decide) rfl 842 rfl ?_
  refine w_aload_n X 3 dL_law_842 rfl rfl 843 rfl ?_
  refine w_aload_n X 5 dL_law_843 rfl rfl 844 rfl ?_
  refine w_iload X 1 dL_law_844 rfl 846 rfl ?_
  refine w_iconst X 1 dL_law_846 rfl 847 rfl ?_
  refine w_iadd X dL_law_847 848 rfl ?_
  refine w_sld X hx hbl hbA h1.1 (a 1) h1.2 dL_law_848 849 rfl ?_
  refine w_aload_n X 5 dL_law_849 rfl rfl 850 rfl ?_
  refine w_iload X 1 dL_law_850 rfl 852 rfl ?_
  refine w_iconst X 2 dL_law_852 rfl 853 rfl ?_
  refine w_iadd X dL_law_853 854 rfl ?_
  refine w_sld X hx hbl hbA h2.1 (a 2) h2.2 dL_law_854 855 rfl ?_
  refine w_aload_n X 5 dL_law_855 rfl rfl 856 rfl ?_
  refine w_iload X 1 dL_law_856 rfl 858 rfl ?_
  refine w_iconst X 3 dL_law_858 rfl 859 rfl ?_
  refine w_iadd X dL_law_859 860 rfl ?_
  refine w_sld X hx hbl hbA h3.1 (a 3) h3.2 dL_law_860 861 rfl ?_
  refine w_mcall (fun x => x.1) (fun x => x.2) X hZ hF [.int (a 1), .int (a 2), .int (a 3)] (q := ("PawnRaceModel", TX12, 50)) rfl rfl rfl kB_X12_isBlocked kL_L_185 (fun res h => ct_X12_isBlocked l hZ fu (a 1) (a 2) (a 3) (fun j => (mset 0 256 mem p_1.2) (256 + j)) res h) rfl rfl rfl ⟨Nat.le_of_ble_eq_true rfl, Nat.le_of_ble_eq_true rfl⟩ (Nat.le_of_ble_eq_true rfl) hcap dL_law_861 864 rfl (fun p_2 hF => ?_)
  refine w_istore X [(6, .int p_2.1), (5, .int p_1.1), (4, .int x4), (3, .ref (ad 255)), (2, .ref (ad 256)), (1, .ref (ad 0)), (0, .ref b)] dL_law_864 (by decide) rfl 866 rfl ?_
  refine w_aload_n X 4 dL_law_866 rfl rfl 867 rfl ?_
  refine w_mcall (fun x => x) (fun _ => (fun j => (mset 256 23 (mset 0 256 mem p_1.2) p_2.2) (256 + j))) X hZ hF [] (q := ("PawnRaceModel", TX12, 50)) rfl rfl rfl kB_X12_thrown kL_L_134 (fun res h => ct_X12_thrown l hZ fu  (fun j => (mset 256 23 (mset 0 256 mem p_1.2) p_2.2) (256 + j)) res h) rfl rfl rfl ⟨Nat.le_of_ble_eq_true rfl, Nat.le_of_ble_eq_true rfl⟩ (Nat.le_of_ble_eq_true rfl) hcap dL_law_867 870 rfl (fun x_3 hF => ?_)
  refine w_iload X 1 dL_law_870 rfl 872 rfl ?_
  refine w_icmp_eq X hF 877 875 dL_law_872 (by decide) rfl (fun hF => ?_) (fun hF => ?_)
  · refine w_iload X 1 dL_law_877 rfl 879 rfl ?_
    refine w_if_ne X hF 901 882 dL_law_879 (by decide) rfl (fun hF => ?_) (fun hF => ?_)
    · refine w_aload_n X 3 dL_law_882 rfl rfl 883 rfl ?_
      refine w_iconst X 0 dL_law_883 rfl 884 rfl ?_
      refine w_lal X 255 lt279_255 ko_W255 (t0 := 5) rfl vin01 dL_law_884 885 rfl ?_
      refine w_iload X 0 dL_law_885 rfl 887 rfl ?_
      refine w_if_eq X hF 894 890 dL_law_887 (by decide) rfl (fun hF => ?_) (fun hF => ?_)
      · refine w_lconst X 0 dL_law_894 rfl 895 rfl ?_
        refine w_lcmp X dL_law_895 896 rfl ?_
        refine w_if_eq X hF 901 899 dL_law_896 (by decide) rfl (fun hF => ?_) (fun hF => ?_)
        · refine w_goto X 2582 dL_law_901 (by decide) ?_
          refine w_keep [2, 3, 4, 5, 6] rfl ?_
          have e9 := o_inj hF
          subst e9
          exact kk
        · refine w_iconst X 0 dL_law_899 rfl 900 rfl ?_
          exact no_none hF
      · refine w_lconst X 1 dL_law_890 rfl 891 rfl ?_
        refine w_goto X 895 dL_law_891 (by decide) ?_
        refine w_lcmp X dL_law_895 896 rfl ?_
        refine w_if_eq X hF 901 899 dL_law_896 (by decide) rfl (fun hF => ?_) (fun hF => ?_)
        · refine w_goto X 2582 dL_law_901 (by decide) ?_
          refine w_keep [2, 3, 4, 5, 6] rfl ?_
          have e9 := o_inj hF
          subst e9
          exact kk
        · refine w_iconst X 0 dL_law_899 rfl 900 rfl ?_
          exact no_none hF
    · refine w_goto X 2582 dL_law_901 (by decide) ?_
      refine w_keep [2, 3, 4, 5, 6] rfl ?_
      have e9 := o_inj hF
      subst e9
      exact kk
  · refine w_iconst X 0 dL_law_875 rfl 876 rfl ?_
    exact no_none hF

def K_case_14 (fu : Nat) (a : Nat → Int32) (mem : Mem) : Option Mem := (if (a 3) = 0 then bd (K_L_isAdmissible fu (a 1) (a 2) 0 mem) (fun p_1 => (if (a 3) = 0 then bd (K_X12_isAdmissible fu (a 1) (a 2) 0 (fun j => (mset 0 256 mem p_1.2) (256 + j))) (fun p_2 => bd (K_X12_thrown fu (fun j => (mset 256 23 (mset 0 256 mem p_1.2) p_2.2) (256 + j))) (fun x_3 => (if x_3 = p_1.1 then (if p_1.1 = 0 then (if p_2.1 = 0 then (if (lg_cmp (rl (mset 256 23 (mset 256 23 (mset 0 256 mem p_1.2) p_2.2) (fun j => (mset 256 23 (mset 0 256 mem p_1.2) p_2.2) (256 + j))) 255 (Int32.toNatClampNeg 0)) 0) = 0 then some (mset 256 23 (mset 256 23 (mset 0 256 mem p_1.2) p_2.2) (fun j => (mset 256 23 (mset 0 256 mem p_1.2) p_2.2) (256 + j))) else none) else (if (lg_cmp (rl (mset 256 23 (mset 256 23 (mset 0 256 mem p_1.2) p_2.2) (fun j => (mset 256 23 (mset 0 256 mem p_1.2) p_2.2) (256 + j))) 255 (Int32.toNatClampNeg 0)) 1) = 0 then some (mset 256 23 (mset 256 23 (mset 0 256 mem p_1.2) p_2.2) (fun j => (mset 256 23 (mset 0 256 mem p_1.2) p_2.2) (256 + j))) else none)) else some (mset 256 23 (mset 256 23 (mset 0 256 mem p_1.2) p_2.2) (fun j => (mset 256 23 (mset 0 256 mem p_1.2) p_2.2) (256 + j)))) else none))) else bd (K_X12_isAdmissible fu (a 1) (a 2) 1 (fun j => (mset 0 256 mem p_1.2) (256 + j))) (fun p_4 => bd (K_X12_thrown fu (fun j => (mset 256 23 (mset 0 256 mem p_1.2) p_4.2) (256 + j))) (fun x_5 => (if x_5 = p_1.1 then (if p_1.1 = 0 then (if p_4.1 = 0 then (if (lg_cmp (rl (mset 256 23 (mset 256 23 (mset 0 256 mem p_1.2) p_4.2) (fun j => (mset 256 23 (mset 0 256 mem p_1.2) p_4.2) (256 + j))) 255 (Int32.toNatClampNeg 0)) 0) = 0 then some (mset 256 23 (mset 256 23 (mset 0 256 mem p_1.2) p_4.2) (fun j => (mset 256 23 (mset 0 256 mem p_1.2) p_4.2) (256 + j))) else none) else (if (lg_cmp (rl (mset 256 23 (mset 256 23 (mset 0 256 mem p_1.2) p_4.2) (fun j => (mset 256 23 (mset 0 256 mem p_1.2) p_4.2) (256 + j))) 255 (Int32.toNatClampNeg 0)) 1) = 0 then some (mset 256 23 (mset 256 23 (mset 0 256 mem p_1.2) p_4.2) (fun j => (mset 256 23 (mset 0 256 mem p_1.2) p_4.2) (256 + j))) else none)) else some (mset 256 23 (mset 256 23 (mset 0 256 mem p_1.2) p_4.2) (fun j => (mset 256 23 (mset 0 256 mem p_1.2) p_4.2) (256 + j)))) else none))))) else bd (K_L_isAdmissible fu (a 1) (a 2) 1 mem) (fun p_6 => (if (a 3) = 0 then bd (K_X12_isAdmissible fu (a 1) (a 2) 0 (fun j => (mset 0 256 mem p_6.2) (256 + j))) (fun p_7 => bd (K_X12_thrown fu (fun j => (mset 256 23 (mset 0 256 mem p_6.2) p_7.2) (256 + j))) (fun x_8 => (if x_8 = p_6.1 then (if p_6.1 = 0 then (if p_7.1 = 0 then (if (lg_cmp (rl (mset 256 23 (mset 256 23 (mset 0 256 mem p_6.2) p_7.2) (fun j => (mset 256 23 (mset 0 256 mem p_6.2) p_7.2) (256 + j))) 255 (Int32.toNatClampNeg 0)) 0) = 0 then some (mset 256 23 (mset 256 23 (mset 0 256 mem p_6.2) p_7.2) (fun j => (mset 256 23 (mset 0 256 mem p_6.2) p_7.2) (256 + j))) else none) else (if (lg_cmp (rl (mset 256 23 (mset 256 23 (mset 0 256 mem p_6.2) p_7.2) (fun j => (mset 256 23 (mset 0 256 mem p_6.2) p_7.2) (256 + j))) 255 (Int32.toNatClampNeg 0)) 1) = 0 then some (mset 256 23 (mset 256 23 (mset 0 256 mem p_6.2) p_7.2) (fun j => (mset 256 23 (mset 0 256 mem p_6.2) p_7.2) (256 + j))) else none)) else some (mset 256 23 (mset 256 23 (mset 0 256 mem p_6.2) p_7.2) (fun j => (mset 256 23 (mset 0 256 mem p_6.2) p_7.2) (256 + j)))) else none))) else bd (K_X12_isAdmissible fu (a 1) (a 2) 1 (fun j => (mset 0 256 mem p_6.2) (256 + j))) (fun p_9 => bd (K_X12_thrown fu (fun j => (mset 256 23 (mset 0 256 mem p_6.2) p_9.2) (256 + j))) (fun x_10 => (if x_10 = p_6.1 then (if p_6.1 = 0 then (if p_9.1 = 0 then (if (lg_cmp (rl (mset 256 23 (mset 256 23 (mset 0 256 mem p_6.2) p_9.2) (fun j => (mset 256 23 (mset 0 256 mem p_6.2) p_9.2) (256 + j))) 255 (Int32.toNatClampNeg 0)) 0) = 0 then some (mset 256 23 (mset 256 23 (mset 0 256 mem p_6.2) p_9.2) (fun j => (mset 256 23 (mset 0 256 mem p_6.2) p_9.2) (256 + j))) else none) else (if (lg_cmp (rl (mset 256 23 (mset 256 23 (mset 0 256 mem p_6.2) p_9.2) (fun j => (mset 256 23 (mset 0 256 mem p_6.2) p_9.2) (256 + j))) 255 (Int32.toNatClampNeg 0)) 1) = 0 then some (mset 256 23 (mset 256 23 (mset 0 256 mem p_6.2) p_9.2) (fun j => (mset 256 23 (mset 0 256 mem p_6.2) p_9.2) (256 + j))) else none)) else some (mset 256 23 (mset 256 23 (mset 0 256 mem p_6.2) p_9.2) (fun j => (mset 256 23 (mset 0 256 mem p_6.2) p_9.2) (256 + j)))) else none))))))
set_option maxHeartbeats 4000000 in
set_option maxRecDepth 100000 in
theorem lc_14 (hl : l.stackTraces = false) (hZ : ZOK Z) (hX : ZX Z) {tO : Nat} {sK sV : Nat → Nat} (hO : ZO Z tO sK sV) (fu : Nat) (X : CX D (tyL ca) 279 ad Z p s m args meth c cL_law 7 "PawnRaceLaw" ret) {b L : Nat} {xs a : Nat → Int32} {x4 : Int32} (HX : LX b L xs s (AA 279 ad s.heap.size) x4 a) (hcap : cells + 3 ≤ room_1.cells ∧ slots + 18 ≤ room_1.slots) {mem mem2 : Mem} (hF : K_case_14 fu a mem = some mem2) (kk : WW D 279 ad (cW ca ad) p l e room_1 s m args below meth c 7 (cells + 3) (slots + 18) Q mem2 2582 [(4, .int x4), (3, .ref (ad 255)), (2, .ref (ad 256)), (1, .ref (ad 0)), (0, .ref b)] []) : WW D 279 ad (cW ca ad) p l e room_1 s m args below meth c 7 cells slots Q mem 904 [(4, .int x4), (3, .ref (ad 255)), (2, .ref (ad 256)), (1, .ref (ad 0)), (0, .ref b)] [] := by
  have hcap0 : cells ≤ room_1.cells ∧ slots ≤ room_1.slots := ⟨Nat.le_trans (Nat.le_add_right _ 3) hcap.1, Nat.le_trans (Nat.le_add_right _ 18) hcap.2⟩
  obtain ⟨hx, hbl, hbA, h1, h2, h3, h4, h5⟩ := HX
  rw [K_case_14] at hF
  refine w_aload_n X 3 dL_law_904 rfl rfl 905 rfl ?_
  refine w_aload_n X 4 dL_law_905 rfl rfl 906 rfl ?_
  refine w_iload X 0 dL_law_906 rfl 908 rfl ?_
  refine w_iconst X 1 dL_law_908 rfl 909 rfl ?_
  refine w_iadd X dL_law_909 910 rfl ?_
  refine w_sld X hx hbl hbA h1.1 (a 1) h1.2 dL_law_910 911 rfl ?_
  refine w_aload_n X 4 dL_law_911 rfl rfl 912 rfl ?_
  refine w_iload X 0 dL_law_912 rfl 914 rfl ?_
  refine w_iconst X 2 dL_law_914 rfl 915 rfl ?_
  refine w_iadd X dL_law_915 916 rfl ?_
  refine w_sld X hx hbl hbA h2.1 (a 2) h2.2 dL_law_916 917 rfl ?_
  refine w_aload_n X 4 dL_law_917 rfl rfl 918 rfl ?_
  refine w_iload X 0 dL_law_918 rfl 920 rfl ?_
  refine w_iconst X 3 dL_law_920 rfl 921 rfl ?_
  refine w_iadd X dL_law_921 922 rfl ?_
  refine w_sld X hx hbl hbA h3.1 (a 3) h3.2 dL_law_922 923 rfl ?_
  refine w_if_eq X hF 930 926 dL_law_923 (by decide) rfl (fun hF => ?_) (fun hF => ?_)
  · refine w_iconst X 0 dL_law_930 rfl 931 rfl ?_
    refine w_aload_n X 1 dL_law_931 rfl rfl 932 rfl ?_
    refine w_wcall X hZ hF [.ref (ad 0), .int (a 1), .int (a 2), .int 0, .ref (ad 255)] rfl kB_L_isAdmissible kL_L_186 (fun res h => ct_L_isAdmissible l hl hZ hX hO fu (a 1) (a 2) 0 mem res h) rfl rfl rfl ⟨Nat.le_of_ble_eq_true rfl, Nat.le_of_ble_eq_true rfl⟩ (Nat.le_of_ble_eq_true rfl) hcap dL_law_932 935 rfl (fun p_1 hF => ?_)
    refine w_istore X [(5, .int p_1.1), (4, .int x4), (3, .ref (ad 255)), (2, .ref (ad 256)), (1, .ref (ad 0)), (0, .ref b)] dL_law_935 (by decide) rfl 937 rfl ?_
    refine w_aload_n X 3 dL_law_937 rfl rfl 938 rfl ?_
    refine w_aload_n X 5 dL_law_938 rfl rfl 939 rfl ?_
    refine w_iload X 1 dL_law_939 rfl 941 rfl ?_
    refine w_iconst X 1 dL_law_941 rfl 942 rfl ?_
    refine w_iadd X dL_law_942 943 rfl ?_
    refine w_sld X hx hbl hbA h1.1 (a 1) h1.2 dL_law_943 944 rfl ?_
    refine w_aload_n X 5 dL_law_944 rfl rfl 945 rfl ?_
    refine w_iload X 1 dL_law_945 rfl 947 rfl ?_
    refine w_iconst X 2 dL_law_947 rfl 948 rfl ?_
    refine w_iadd X dL_law_948 949 rfl ?_
    refine w_sld X hx hbl hbA h2.1 (a 2) h2.2 dL_law_949 950 rfl ?_
    refine w_aload_n X 5 dL_law_950 rfl rfl 951 rfl ?_
    refine w_iload X 1 dL_law_951 rfl 953 rfl ?_
    refine w_iconst X 3 dL_law_953 rfl 954 rfl ?_
    refine w_iadd X dL_law_954 955 rfl ?_
    refine w_sld X hx hbl hbA h3.1 (a 3) h3.2 dL_law_955 956 rfl ?_
    refine w_if_eq X hF 963 959 dL_law_956 (by decide) rfl (fun hF => ?_) (fun hF => ?_)
    · refine w_iconst X 0 dL_law_963 rfl 964 rfl ?_
      refine w_mcall (fun x => x.1) (fun x => x.2) X hZ hF [.int (a 1), .int (a 2), .int 0] (q := ("PawnRaceModel", TX12, 50)) rfl rfl rfl kB_X12_isAdmissible kL_L_189 (fun res h => ct_X12_isAdmissible l hZ fu (a 1) (a 2) 0 (fun j => (mset 0 256 mem p_1.2) (256 + j)) res h) rfl rfl rfl ⟨Nat.le_of_ble_eq_true rfl, Nat.le_of_ble_eq_true rfl⟩ (Nat.le_of_ble_eq_true rfl) hcap dL_law_964 967 rfl (fun p_2 hF => ?_)
      refine w_istore X [(6, .int p_2.1), (5, .int p_1.1), (4, .int x4), (3, .ref (ad 255)), (2, .ref (ad 256)), (1, .ref (ad 0)), (0, .ref b)] dL_law_967 (by decide) rfl 969 rfl ?_
      refine w_aload_n X 4 dL_law_969 rfl rfl 970 rfl ?_
      refine w_mcall (fun x => x) (fun _ => (fun j => (mset 256 23 (mset 0 256 mem p_1.2) p_2.2) (256 + j))) X hZ hF [] (q := ("PawnRaceModel", TX12, 50)) rfl rfl rfl kB_X12_thrown kL_L_134 (fun res h => ct_X12_thrown l hZ fu  (fun j => (mset 256 23 (mset 0 256 mem p_1.2) p_2.2) (256 + j)) res h) rfl rfl rfl ⟨Nat.le_of_ble_eq_true rfl, Nat.le_of_ble_eq_true rfl⟩ (Nat.le_of_ble_eq_true rfl) hcap dL_law_970 973 rfl (fun x_3 hF => ?_)
      refine w_iload X 1 dL_law_973 rfl 975 rfl ?_
      refine w_icmp_eq X hF 980 978 dL_law_975 (by decide) rfl (fun hF => ?_) (fun hF => ?_)
      · refine w_iload X 1 dL_law_980 rfl 982 rfl ?_
        refine w_if_ne X hF 1004 985 dL_law_982 (by decide) rfl (fun hF => ?_) (fun hF => ?_)
        · refine w_aload_n X 3 dL_law_985 rfl rfl 986 rfl ?_
          refine w_iconst X 0 dL_law_986 rfl 987 rfl ?_
          refine w_lal X 255 lt279_255 ko_W255 (t0 := 5) rfl vin01 dL_law_987 988 rfl ?_
          refine w_iload X 0 dL_law_988 rfl 990 rfl ?_
          refine w_if_eq X hF 997 993 dL_law_990 (by decide) rfl (fun hF => ?_) (fun hF => ?_)
          · refine w_lconst X 0 dL_law_997 rfl 998 rfl ?_
            refine w_lcmp X dL_law_998 999 rfl ?_
            refine w_if_eq X hF 1004 1002 dL_law_999 (by decide) rfl (fun hF => ?_) (fun hF => ?_)
            · refine w_goto X 2582 dL_law_1004 (by decide) ?_
              refine w_keep [2, 3, 4, 5, 6] rfl ?_
              have e9 := o_inj hF
              subst e9
              exact kk
            · refine w_iconst X 0 dL_law_1002 rfl 1003 rfl ?_
              exact no_none hF
          · refine w_lconst X 1 dL_law_993 rfl 994 rfl ?_
            refine w_goto X 998 dL_law_994 (by decide) ?_
            refine w_lcmp X dL_law_998 999 rfl ?_
            refine w_if_eq X hF 1004 1002 dL_law_999 (by decide) rfl (fun hF => ?_) (fun hF => ?_)
            · refine w_goto X 2582 dL_law_1004 (by decide) ?_
              refine w_keep [2, 3, 4, 5, 6] rfl ?_
              have e9 := o_inj hF
              subst e9
              exact kk
            · refine w_iconst X 0 dL_law_1002 rfl 1003 rfl ?_
              exact no_none hF
        · refine w_goto X 2582 dL_law_1004 (by decide) ?_
          refine w_keep [2, 3, 4, 5, 6] rfl ?_
          have e9 := o_inj hF
          subst e9
          exact kk
      · refine w_iconst X 0 dL_law_978 rfl 979 rfl ?_
        exact no_none hF
    · refine w_iconst X 1 dL_law_959 rfl 960 rfl ?_
      refine w_goto X 964 dL_law_960 (by decide) ?_
      refine w_mcall (fun x => x.1) (fun x => x.2) X hZ hF [.int (a 1), .int (a 2), .int 1] (q := ("PawnRaceModel", TX12, 50)) rfl rfl rfl kB_X12_isAdmissible kL_L_189 (fun res h => ct_X12_isAdmissible l hZ fu (a 1) (a 2) 1 (fun j => (mset 0 256 mem p_1.2) (256 + j)) res h) rfl rfl rfl ⟨Nat.le_of_ble_eq_true rfl, Nat.le_of_ble_eq_true rfl⟩ (Nat.le_of_ble_eq_true rfl) hcap dL_law_964 967 rfl (fun p_4 hF => ?_)
      refine w_istore X [(6, .int p_4.1), (5, .int p_1.1), (4, .int x4), (3, .ref (ad 255)), (2, .ref (ad 256)), (1, .ref (ad 0)), (0, .ref b)] dL_law_967 (by decide) rfl 969 rfl ?_
      refine w_aload_n X 4 dL_law_969 rfl rfl 970 rfl ?_
      refine w_mcall (fun x => x) (fun _ => (fun j => (mset 256 23 (mset 0 256 mem p_1.2) p_4.2) (256 + j))) X hZ hF [] (q := ("PawnRaceModel", TX12, 50)) rfl rfl rfl kB_X12_thrown kL_L_134 (fun res h => ct_X12_thrown l hZ fu  (fun j => (mset 256 23 (mset 0 256 mem p_1.2) p_4.2) (256 + j)) res h) rfl rfl rfl ⟨Nat.le_of_ble_eq_true rfl, Nat.le_of_ble_eq_true rfl⟩ (Nat.le_of_ble_eq_true rfl) hcap dL_law_970 973 rfl (fun x_5 hF => ?_)
      refine w_iload X 1 dL_law_973 rfl 975 rfl ?_
      refine w_icmp_eq X hF 980 978 dL_law_975 (by decide) rfl (fun hF => ?_) (fun hF => ?_)
      · refine w_iload X 1 dL_law_980 rfl 982 rfl ?_
        refine w_if_ne X hF 1004 985 dL_law_982 (by decide) rfl (fun hF => ?_) (fun hF => ?_)
        · refine w_aload_n X 3 dL_law_985 rfl rfl 986 rfl ?_
          refine w_iconst X 0 dL_law_986 rfl 987 rfl ?_
          refine w_lal X 255 lt279_255 ko_W255 (t0 := 5) rfl vin01 dL_law_987 988 rfl ?_
          refine w_iload X 0 dL_law_988 rfl 990 rfl ?_
          refine w_if_eq X hF 997 993 dL_law_990 (by decide) rfl (fun hF => ?_) (fun hF => ?_)
          · refine w_lconst X 0 dL_law_997 rfl 998 rfl ?_
            refine w_lcmp X dL_law_998 999 rfl ?_
            refine w_if_eq X hF 1004 1002 dL_law_999 (by decide) rfl (fun hF => ?_) (fun hF => ?_)
            · refine w_goto X 2582 dL_law_1004 (by decide) ?_
              refine w_keep [2, 3, 4, 5, 6] rfl ?_
              have e9 := o_inj hF
              subst e9
              exact kk
            · refine w_iconst X 0 dL_law_1002 rfl 1003 rfl ?_
              exact no_none hF
          · refine w_lconst X 1 dL_law_993 rfl 994 rfl ?_
            refine w_goto X 998 dL_law_994 (by decide) ?_
            refine w_lcmp X dL_law_998 999 rfl ?_
            refine w_if_eq X hF 1004 1002 dL_law_999 (by decide) rfl (fun hF => ?_) (fun hF => ?_)
            · refine w_goto X 2582 dL_law_1004 (by decide) ?_
              refine w_keep [2, 3, 4, 5, 6] rfl ?_
              have e9 := o_inj hF
              subst e9
              exact kk
            · refine w_iconst X 0 dL_law_1002 rfl 1003 rfl ?_
              exact no_none hF
        · refine w_goto X 2582 dL_law_1004 (by decide) ?_
          refine w_keep [2, 3, 4, 5, 6] rfl ?_
          have e9 := o_inj hF
          subst e9
          exact kk
      · refine w_iconst X 0 dL_law_978 rfl 979 rfl ?_
        exact no_none hF
  · refine w_iconst X 1 dL_law_926 rfl 927 rfl ?_
    refine w_goto X 931 dL_law_927 (by decide) ?_
    refine w_aload_n X 1 dL_law_931 rfl rfl 932 rfl ?_
    refine w_wcall X hZ hF [.ref (ad 0), .int (a 1), .int (a 2), .int 1, .ref (ad 255)] rfl kB_L_isAdmissible kL_L_186 (fun res h => ct_L_isAdmissible l hl hZ hX hO fu (a 1) (a 2) 1 mem res h) rfl rfl rfl ⟨Nat.le_of_ble_eq_true rfl, Nat.le_of_ble_eq_true rfl⟩ (Nat.le_of_ble_eq_true rfl) hcap dL_law_932 935 rfl (fun p_6 hF => ?_)
    refine w_istore X [(5, .int p_6.1), (4, .int x4), (3, .ref (ad 255)), (2, .ref (ad 256)), (1, .ref (ad 0)), (0, .ref b)] dL_law_935 (by decide) rfl 937 rfl ?_
    refine w_aload_n X 3 dL_law_937 rfl rfl 938 rfl ?_
    refine w_aload_n X 5 dL_law_938 rfl rfl 939 rfl ?_
    refine w_iload X 1 dL_law_939 rfl 941 rfl ?_
    refine w_iconst X 1 dL_law_941 rfl 942 rfl ?_
    refine w_iadd X dL_law_942 943 rfl ?_
    refine w_sld X hx hbl hbA h1.1 (a 1) h1.2 dL_law_943 944 rfl ?_
    refine w_aload_n X 5 dL_law_944 rfl rfl 945 rfl ?_
    refine w_iload X 1 dL_law_945 rfl 947 rfl ?_
    refine w_iconst X 2 dL_law_947 rfl 948 rfl ?_
    refine w_iadd X dL_law_948 949 rfl ?_
    refine w_sld X hx hbl hbA h2.1 (a 2) h2.2 dL_law_949 950 rfl ?_
    refine w_aload_n X 5 dL_law_950 rfl rfl 951 rfl ?_
    refine w_iload X 1 dL_law_951 rfl 953 rfl ?_
    refine w_iconst X 3 dL_law_953 rfl 954 rfl ?_
    refine w_iadd X dL_law_954 955 rfl ?_
    refine w_sld X hx hbl hbA h3.1 (a 3) h3.2 dL_law_955 956 rfl ?_
    refine w_if_eq X hF 963 959 dL_law_956 (by decide) rfl (fun hF => ?_) (fun hF => ?_)
    · refine w_iconst X 0 dL_law_963 rfl 964 rfl ?_
      refine w_mcall (fun x => x.1) (fun x => x.2) X hZ hF [.int (a 1), .int (a 2), .int 0] (q := ("PawnRaceModel", TX12, 50)) rfl rfl rfl kB_X12_isAdmissible kL_L_189 (fun res h => ct_X12_isAdmissible l hZ fu (a 1) (a 2) 0 (fun j => (mset 0 256 mem p_6.2) (256 + j)) res h) rfl rfl rfl ⟨Nat.le_of_ble_eq_true rfl, Nat.le_of_ble_eq_true rfl⟩ (Nat.le_of_ble_eq_true rfl) hcap dL_law_964 967 rfl (fun p_7 hF => ?_)
      refine w_istore X [(6, .int p_7.1), (5, .int p_6.1), (4, .int x4), (3, .ref (ad 255)), (2, .ref (ad 256)), (1, .ref (ad 0)), (0, .ref b)] dL_law_967 (by decide) rfl 969 rfl ?_
      refine w_aload_n X 4 dL_law_969 rfl rfl 970 rfl ?_
      refine w_mcall (fun x => x) (fun _ => (fun j => (mset 256 23 (mset 0 256 mem p_6.2) p_7.2) (256 + j))) X hZ hF [] (q := ("PawnRaceModel", TX12, 50)) rfl rfl rfl kB_X12_thrown kL_L_134 (fun res h => ct_X12_thrown l hZ fu  (fun j => (mset 256 23 (mset 0 256 mem p_6.2) p_7.2) (256 + j)) res h) rfl rfl rfl ⟨Nat.le_of_ble_eq_true rfl, Nat.le_of_ble_eq_true rfl⟩ (Nat.le_of_ble_eq_true rfl) hcap dL_law_970 973 rfl (fun x_8 hF => ?_)
      refine w_iload X 1 dL_law_973 rfl 975 rfl ?_
      refine w_icmp_eq X hF 980 978 dL_law_975 (by decide) rfl (fun hF => ?_) (fun hF => ?_)
      · refine w_iload X 1 dL_law_980 rfl 982 rfl ?_
        refine w_if_ne X hF 1004 985 dL_law_982 (by decide) rfl (fun hF => ?_) (fun hF => ?_)
        · refine w_aload_n X 3 dL_law_985 rfl rfl 986 rfl ?_
          refine w_iconst X 0 dL_law_986 rfl 987 rfl ?_
          refine w_lal X 255 lt279_255 ko_W255 (t0 := 5) rfl vin01 dL_law_987 988 rfl ?_
          refine w_iload X 0 dL_law_988 rfl 990 rfl ?_
          refine w_if_eq X hF 997 993 dL_law_990 (by decide) rfl (fun hF => ?_) (fun hF => ?_)
          · refine w_lconst X 0 dL_law_997 rfl 998 rfl ?_
            refine w_lcmp X dL_law_998 999 rfl ?_
            refine w_if_eq X hF 1004 1002 dL_law_999 (by decide) rfl (fun hF => ?_) (fun hF => ?_)
            · refine w_goto X 2582 dL_law_1004 (by decide) ?_
              refine w_keep [2, 3, 4, 5, 6] rfl ?_
              have e9 := o_inj hF
              subst e9
              exact kk
            · refine w_iconst X 0 dL_law_1002 rfl 1003 rfl ?_
              exact no_none hF
          · refine w_lconst X 1 dL_law_993 rfl 994 rfl ?_
            refine w_goto X 998 dL_law_994 (by decide) ?_
            refine w_lcmp X dL_law_998 999 rfl ?_
            refine w_if_eq X hF 1004 1002 dL_law_999 (by decide) rfl (fun hF => ?_) (fun hF => ?_)
            · refine w_goto X 2582 dL_law_1004 (by decide) ?_
              refine w_keep [2, 3, 4, 5, 6] rfl ?_
              have e9 := o_inj hF
              subst e9
              exact kk
            · refine w_iconst X 0 dL_law_1002 rfl 1003 rfl ?_
              exact no_none hF
        · refine w_goto X 2582 dL_law_1004 (by decide) ?_
          refine w_keep [2, 3, 4, 5, 6] rfl ?_
          have e9 := o_inj hF
          subst e9
          exact kk
      · refine w_iconst X 0 dL_law_978 rfl 979 rfl ?_
        exact no_none hF
    · refine w_iconst X 1 dL_law_959 rfl 960 rfl ?_
      refine w_goto X 964 dL_law_960 (by decide) ?_
      refine w_mcall (fun x => x.1) (fun x => x.2) X hZ hF [.int (a 1), .int (a 2), .int 1] (q := ("PawnRaceModel", TX12, 50)) rfl rfl rfl kB_X12_isAdmissible kL_L_189 (fun res h => ct_X12_isAdmissible l hZ fu (a 1) (a 2) 1 (fun j => (mset 0 256 mem p_6.2) (256 + j)) res h) rfl rfl rfl ⟨Nat.le_of_ble_eq_true rfl, Nat.le_of_ble_eq_true rfl⟩ (Nat.le_of_ble_eq_true rfl) hcap dL_law_964 967 rfl (fun p_9 hF => ?_)
      refine w_istore X [(6, .int p_9.1), (5, .int p_6.1), (4, .int x4), (3, .ref (ad 255)), (2, .ref (ad 256)), (1, .ref (ad 0)), (0, .ref b)] dL_law_967 (by decide) rfl 969 rfl ?_
      refine w_aload_n X 4 dL_law_969 rfl rfl 970 rfl ?_
      refine w_mcall (fun x => x) (fun _ => (fun j => (mset 256 23 (mset 0 256 mem p_6.2) p_9.2) (256 + j))) X hZ hF [] (q := ("PawnRaceModel", TX12, 50)) rfl rfl rfl kB_X12_thrown kL_L_134 (fun res h => ct_X12_thrown l hZ fu  (fun j => (mset 256 23 (mset 0 256 mem p_6.2) p_9.2) (256 + j)) res h) rfl rfl rfl ⟨Nat.le_of_ble_eq_true rfl, Nat.le_of_ble_eq_true rfl⟩ (Nat.le_of_ble_eq_true rfl) hcap dL_law_970 973 rfl (fun x_10 hF => ?_)
      refine w_iload X 1 dL_law_973 rfl 975 rfl ?_
      refine w_icmp_eq X hF 980 978 dL_law_975 (by decide) rfl (fun hF => ?_) (fun hF => ?_)
      · refine w_iload X 1 dL_law_980 rfl 982 rfl ?_
        refine w_if_ne X hF 1004 985 dL_law_982 (by decide) rfl (fun hF => ?_) (fun hF => ?_)
        · refine w_aload_n X 3 dL_law_985 rfl rfl 986 rfl ?_
          refine w_iconst X 0 dL_law_986 rfl 987 rfl ?_
          refine w_lal X 255 lt279_255 ko_W255 (t0 := 5) rfl vin01 dL_law_987 988 rfl ?_
          refine w_iload X 0 dL_law_988 rfl 990 rfl ?_
          refine w_if_eq X hF 997 993 dL_law_990 (by decide) rfl (fun hF => ?_) (fun hF => ?_)
          · refine w_lconst X 0 dL_law_997 rfl 998 rfl ?_
            refine w_lcmp X dL_law_998 999 rfl ?_
            refine w_if_eq X hF 1004 1002 dL_law_999 (by decide) rfl (fun hF => ?_) (fun hF => ?_)
            · refine w_goto X 2582 dL_law_1004 (by decide) ?_
              refine w_keep [2, 3, 4, 5, 6] rfl ?_
              have e9 := o_inj hF
              subst e9
              exact kk
            · refine w_iconst X 0 dL_law_1002 rfl 1003 rfl ?_
              exact no_none hF
          · refine w_lconst X 1 dL_law_993 rfl 994 rfl ?_
            refine w_goto X 998 dL_law_994 (by decide) ?_
            refine w_lcmp X dL_law_998 999 rfl ?_
            refine w_if_eq X hF 1004 1002 dL_law_999 (by decide) rfl (fun hF => ?_) (fun hF => ?_)
            · refine w_goto X 2582 dL_law_1004 (by decide) ?_
              refine w_keep [2, 3, 4, 5, 6] rfl ?_
              have e9 := o_inj hF
              subst e9
              exact kk
            · refine w_iconst X 0 dL_law_1002 rfl 1003 rfl ?_
              exact no_none hF
        · refine w_goto X 2582 dL_law_1004 (by decide) ?_
          refine w_keep [2, 3, 4, 5, 6] rfl ?_
          have e9 := o_inj hF
          subst e9
          exact kk
      · refine w_iconst X 0 dL_law_978 rfl 979 rfl ?_
        exact no_none hF
end LC0
