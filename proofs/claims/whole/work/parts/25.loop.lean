section LLOOP
variable {D : va_G} {ca ad : Nat → Nat} {Z : (Nat → Prop) → State → Heap → Prop} {p : Program} {l : Launch} {e : Env} {s : State} {m : MethodId} {args : Array Value} {below : List Frame} {meth : Method} {c : Code} {ret : Option FieldType} {cells slots : Nat} {Q : State → Prop}
/-- one call of the script, on both sides: a memory comes where all that the law compares is the same -/
def K_sw (fu : Nat) (a : Nat → Int32) (x : Int32) (mem : Mem) : Option Mem := (if x = 0 then K_case_0 fu a mem else (if x = 1 then K_case_1 fu a mem else (if x = 2 then K_case_2 fu a mem else (if x = 3 then K_case_3 fu a mem else (if x = 4 then K_case_4 fu a mem else (if x = 5 then K_case_5 fu a mem else (if x = 6 then K_case_6 fu a mem else (if x = 7 then K_case_7 fu a mem else (if x = 8 then K_case_8 fu a mem else (if x = 9 then K_case_9 fu a mem else (if x = 10 then K_case_10 fu a mem else (if x = 11 then K_case_11 fu a mem else (if x = 12 then K_case_12 fu a mem else (if x = 13 then K_case_13 fu a mem else (if x = 14 then K_case_14 fu a mem else (if x = 15 then K_case_15 fu a mem else (if x = 16 then K_case_16 fu a mem else (if x = 17 then K_case_17 fu a mem else (if x = 18 then K_case_18 fu a mem else (if x = 19 then K_case_19 fu a mem else (if x = 20 then K_case_20 fu a mem else (if x = 21 then K_case_21 fu a mem else (if x = 22 then K_case_22 fu a mem else (if x = 23 then K_case_23 fu a mem else (if x = 24 then K_case_24 fu a mem else (if x = 25 then K_case_25 fu a mem else (if x = 26 then K_case_26 fu a mem else (if x = 27 then K_case_27 fu a mem else (if x = 28 then K_case_28 fu a mem else (if x = 29 then K_case_29 fu a mem else (if x = 30 then K_case_30 fu a mem else (if x = 31 then K_case_31 fu a mem else (if x = 32 then K_case_32 fu a mem else (if x = 33 then K_case_33 fu a mem else (if x = 34 then K_case_34 fu a mem else (if x = 35 then K_case_35 fu a mem else (if x = 36 then K_case_36 fu a mem else (if x = 37 then K_case_37 fu a mem else (if x = 38 then K_case_38 fu a mem else (if x = 39 then K_case_39 fu a mem else (if x = 40 then K_case_40 fu a mem else (if x = 41 then K_case_41 fu a mem else (if x = 42 then K_case_42 fu a mem else (if x = 43 then K_case_43 fu a mem else some mem))))))))))))))))))))))))))))))))))))))))))))
def K_call (fu : Nat) (a : Nat → Int32) (mem : Mem) : Option Mem := K_sw fu a (a 0 &&& 63) mem
set_option maxHeartbeats 4000000 in
set_option maxRecDepth 100000 in
theorem lc_all (hl : l.stackTraces = false) (hZ : ZOK Z) (hX : ZX Z) {tO : Nat} {sK sV : Nat → Nat} (hO : ZO Z tO sK sV) (fu : Nat) (X : CX D (tyL ca) 279 ad Z p s m args meth c cL_law 7 "PawnRaceLaw" ret) {b L : Nat} {xs a : Nat → Int32} {x4 x : Int32} (HX : LX b L xs s (AA 279 ad s.heap.size) x4 a) (hcap : cells + 3 ≤ room_1.cells ∧ slots + 18 ≤ room_1.slots) {mem mem2 : Mem} (hF : K_sw fu a x mem = some mem2) (kk : WW D 279 ad (cW ca ad) p l e room_1 s m args below meth c 7 (cells + 3) (slots + 18) Q mem2 2582 [(4, .int x4), (3, .ref (ad 255)), (2, .ref (ad 256)), (1, .ref (ad 0)), (0, .ref b)] []) : WW D 279 ad (cW ca ad) p l e room_1 s m args below meth c 7 cells slots Q mem 40 [(4, .int x4), (3, .ref (ad 255)), (2, .ref (ad 256)), (1, .ref (ad 0)), (0, .ref b)] [.int x] := by
  rw [K_sw] at hF
  refine w_case (v := 0) hF (fun h_0 hF => ?_) (fun h_0 hF => ?_)
  · exact w_tin X 232 dL_law_40 h_0 (by decide) (by decide) rfl (by decide) (lc_0 hl hZ hX hO fu X HX hcap hF kk)
  refine w_case (v := 1) hF (fun h_1 hF => ?_) (fun h_1 hF => ?_)
  · exact w_tin X 336 dL_law_40 h_1 (by decide) (by decide) rfl (by decide) (lc_1 hl hZ hX hO fu X HX hcap hF kk)
  refine w_case (v := 2) hF (fun h_2 hF => ?_) (fun h_2 hF => ?_)
  · exact w_tin X 392 dL_law_40 h_2 (by decide) (by decide) rfl (by decide) (lc_2 hl hZ hX hO fu X HX hcap hF kk)
  refine w_case (v := 3) hF (fun h_3 hF => ?_) (fun h_3 hF => ?_)
  · exact w_tin X 436 dL_law_40 h_3 (by decide) (by decide) rfl (by decide) (lc_3 hl hZ hX hO fu X HX hcap hF kk)
  refine w_case (v := 4) hF (fun h_4 hF => ?_) (fun h_4 hF => ?_)
  · exact w_tin X 480 dL_law_40 h_4 (by decide) (by decide) rfl (by decide) (lc_4 hl hZ hX hO fu X HX hcap hF kk)
  refine w_case (v := 5) hF (fun h_5 hF => ?_) (fun h_5 hF => ?_)
  · exact w_tin X 493 dL_law_40 h_5 (by decide) (by decide) rfl (by decide) (lc_5 hl hZ hX hO fu X HX hcap hF kk)
  refine w_case (v := 6) hF (fun h_6 hF => ?_) (fun h_6 hF => ?_)
  · exact w_tin X 506 dL_law_40 h_6 (by decide) (by decide) rfl (by decide) (lc_6 hl hZ hX hO fu X HX hcap hF kk)
  refine w_case (v := 7) hF (fun h_7 hF => ?_) (fun h_7 hF => ?_)
  · exact w_tin X 562 dL_law_40 h_7 (by decide) (by decide) rfl (by decide) (lc_7 hl hZ hX hO fu X HX hcap hF kk)
  refine w_case (v := 8) hF (fun h_8 hF => ?_) (fun h_8 hF => ?_)
  · exact w_tin X 630 dL_law_40 h_8 (by decide) (by decide) rfl (by decide) (lc_8 hl hZ hX hO fu X HX hcap hF kk)
  refine w_case (v := 9) hF (fun h_9 hF => ?_) (fun h_9 hF => ?_)
  · exact w_tin X 643 dL_law_40 h_9 (by decide) (by decide) rfl (by decide) (lc_9 hl hZ hX hO fu X HX hcap hF kk)
  refine w_case (v := 10) hF (fun h_10 hF => ?_) (fun h_10 hF => ?_)
  · exact w_tin X 656 dL_law_40 h_10 (by decide) (by decide) rfl (by decide) (lc_10 hl hZ hX hO fu X HX hcap hF kk)
  refine w_case (v := 11) hF (fun h_11 hF => ?_) (fun h_11 hF => ?_)
  · exact w_tin X 724 dL_law_40 h_11 (by decide) (by decide) rfl (by decide) (lc_11 hl hZ hX hO fu X HX hcap hF kk)
  refine w_case (v := 12) hF (fun h_12 hF => ?_) (fun h_12 hF => ?_)
  · exact w_tin X 749 dL_law_40 h_12 (by decide) (by decide) rfl (by decide) (lc_12 hl hZ hX hO fu X HX hcap hF kk)
  refine w_case (v := 13) hF (fun h_13 hF => ?_) (fun h_13 hF => ?_)
  · exact w_tin X 817 dL_law_40 h_13 (by decide) (by decide) rfl (by decide) (lc_13 hl hZ hX hO fu X HX hcap hF kk)
  refine w_case (v := 14) hF (fun h_14 hF => ?_) (fun h_14 hF => ?_)
  · exact w_tin X 904 dL_law_40 h_14 (by decide) (by decide) rfl (by decide) (lc_14 hl hZ hX hO fu X HX hcap hF kk)
  refine w_case (v := 15) hF (fun h_15 hF => ?_) (fun h_15 hF => ?_)
  · exact w_tin X 1007 dL_law_40 h_15 (by decide) (by decide) rfl (by decide) (lc_15 hl hZ hX hO fu X HX hcap hF kk)
  refine w_case (v := 16) hF (fun h_16 hF => ?_) (fun h_16 hF => ?_)
  · exact w_tin X 1020 dL_law_40 h_16 (by decide) (by decide) rfl (by decide) (lc_16 hl hZ hX hO fu X HX hcap hF kk)
  refine w_case (v := 17) hF (fun h_17 hF => ?_) (fun h_17 hF => ?_)
  · exact w_tin X 1033 dL_law_40 h_17 (by decide) (by decide) rfl (by decide) (lc_17 hl hZ hX hO fu X HX hcap hF kk)
  refine w_case (v := 18) hF (fun h_18 hF => ?_) (fun h_18 hF => ?_)
  · exact w_tin X 1108 dL_law_40 h_18 (by decide) (by decide) rfl (by decide) (lc_18 hl hZ hX hO fu X HX hcap hF kk)
  refine w_case (v := 19) hF (fun h_19 hF => ?_) (fun h_19 hF => ?_)
  · exact w_tin X 1183 dL_law_40 h_19 (by decide) (by decide) rfl (by decide) (lc_19 hl hZ hX hO fu X HX hcap hF kk)
  refine w_case (v := 20) hF (fun h_20 hF => ?_) (fun h_20 hF => ?_)
  · exact w_tin X 1239 dL_law_40 h_20 (by decide) (by decide) rfl (by decide) (lc_20 hl hZ hX hO fu X HX hcap hF kk)
  refine w_case (v := 21) hF (fun h_21 hF => ?_) (fun h_21 hF => ?_)
  · exact w_tin X 1295 dL_law_40 h_21 (by decide) (by decide) rfl (by decide) (lc_21 hl hZ hX hO fu X HX hcap hF kk)
  refine w_case (v := 22) hF (fun h_22 hF => ?_) (fun h_22 hF => ?_)
  · exact w_tin X 1375 dL_law_40 h_22 (by decide) (by decide) rfl (by decide) (lc_22 hl hZ hX hO fu X HX hcap hF kk)
  refine w_case (v := 23) hF (fun h_23 hF => ?_) (fun h_23 hF => ?_)
  · exact w_tin X 1431 dL_law_40 h_23 (by decide) (by decide) rfl (by decide) (lc_23 hl hZ hX hO fu X HX hcap hF kk)
  refine w_case (v := 24) hF (fun h_24 hF => ?_) (fun h_24 hF => ?_)
  · exact w_tin X 1487 dL_law_40 h_24 (by decide) (by decide) rfl (by decide) (lc_24 hl hZ hX hO fu X HX hcap hF kk)
  refine w_case (v := 25) hF (fun h_25 hF => ?_) (fun h_25 hF => ?_)
  · exact w_tin X 1543 dL_law_40 h_25 (by decide) (by decide) rfl (by decide) (lc_25 hl hZ hX hO fu X HX hcap hF kk)
  refine w_case (v := 26) hF (fun h_26 hF => ?_) (fun h_26 hF => ?_)
  · exact w_tin X 1630 dL_law_40 h_26 (by decide) (by decide) rfl (by decide) (lc_26 hl hZ hX hO fu X HX hcap hF kk)
  refine w_case (v := 27) hF (fun h_27 hF => ?_) (fun h_27 hF => ?_)
  · exact w_tin X 1686 dL_law_40 h_27 (by decide) (by decide) rfl (by decide) (lc_27 hl hZ hX hO fu X HX hcap hF kk)
  refine w_case (v := 28) hF (fun h_28 hF => ?_) (fun h_28 hF => ?_)
  · exact w_tin X 1754 dL_law_40 h_28 (by decide) (by decide) rfl (by decide) (lc_28 hl hZ hX hO fu X HX hcap hF kk)
  refine w_case (v := 29) hF (fun h_29 hF => ?_) (fun h_29 hF => ?_)
  · exact w_tin X 1810 dL_law_40 h_29 (by decide) (by decide) rfl (by decide) (lc_29 hl hZ hX hO fu X HX hcap hF kk)
  refine w_case (v := 30) hF (fun h_30 hF => ?_) (fun h_30 hF => ?_)
  · exact w_tin X 1823 dL_law_40 h_30 (by decide) (by decide) rfl (by decide) (lc_30 hl hZ hX hO fu X HX hcap hF kk)
  refine w_case (v := 31) hF (fun h_31 hF => ?_) (fun h_31 hF => ?_)
  · exact w_tin X 1879 dL_law_40 h_31 (by decide) (by decide) rfl (by decide) (lc_31 hl hZ hX hO fu X HX hcap hF kk)
  refine w_case (v := 32) hF (fun h_32 hF => ?_) (fun h_32 hF => ?_)
  · exact w_tin X 1935 dL_law_40 h_32 (by decide) (by decide) rfl (by decide) (lc_32 hl hZ hX hO fu X HX hcap hF kk)
  refine w_case (v := 33) hF (fun h_33 hF => ?_) (fun h_33 hF => ?_)
  · exact w_tin X 1991 dL_law_40 h_33 (by decide) (by decide) rfl (by decide) (lc_33 hl hZ hX hO fu X HX hcap hF kk)
  refine w_case (v := 34) hF (fun h_34 hF => ?_) (fun h_34 hF => ?_)
  · exact w_tin X 2099 dL_law_40 h_34 (by decide) (by decide) rfl (by decide) (lc_34 hl hZ hX hO fu X HX hcap hF kk)
  refine w_case (v := 35) hF (fun h_35 hF => ?_) (fun h_35 hF => ?_)
  · exact w_tin X 2179 dL_law_40 h_35 (by decide) (by decide) rfl (by decide) (lc_35 hl hZ hX hO fu X HX hcap hF kk)
  refine w_case (v := 36) hF (fun h_36 hF => ?_) (fun h_36 hF => ?_)
  · exact w_tin X 2235 dL_law_40 h_36 (by decide) (by decide) rfl (by decide) (lc_36 hl hZ hX hO fu X HX hcap hF kk)
  refine w_case (v := 37) hF (fun h_37 hF => ?_) (fun h_37 hF => ?_)
  · exact w_tin X 2331 dL_law_40 h_37 (by decide) (by decide) rfl (by decide) (lc_37 hl hZ hX hO fu X HX hcap hF kk)
  refine w_case (v := 38) hF (fun h_38 hF => ?_) (fun h_38 hF => ?_)
  · exact w_tin X 2375 dL_law_40 h_38 (by decide) (by decide) rfl (by decide) (lc_38 hl hZ hX hO fu X HX hcap hF kk)
  refine w_case (v := 39) hF (fun h_39 hF => ?_) (fun h_39 hF => ?_)
  · exact w_tin X 2443 dL_law_40 h_39 (by decide) (by decide) rfl (by decide) (lc_39 hl hZ hX hO fu X HX hcap hF kk)
  refine w_case (v := 40) hF (fun h_40 hF => ?_) (fun h_40 hF => ?_)
  · exact w_tin X 2456 dL_law_40 h_40 (by decide) (by decide) rfl (by decide) (lc_40 hl hZ hX hO fu X HX hcap hF kk)
  refine w_case (v := 41) hF (fun h_41 hF => ?_) (fun h_41 hF => ?_)
  · exact w_tin X 2512 dL_law_40 h_41 (by decide) (by decide) rfl (by decide) (lc_41 hl hZ hX hO fu X HX hcap hF kk)
  refine w_case (v := 42) hF (fun h_42 hF => ?_) (fun h_42 hF => ?_)
  · exact w_tin X 2525 dL_law_40 h_42 (by decide) (by decide) rfl (by decide) (lc_42 hl hZ hX hO fu X HX hcap hF kk)
  refine w_case (v := 43) hF (fun h_43 hF => ?_) (fun h_43 hF => ?_)
  · exact w_tin X 2538 dL_law_40 h_43 (by decide) (by decide) rfl (by decide) (lc_43 hl hZ hX hO fu X HX hcap hF kk)
  refine w_tout X 2582 dL_law_40 (by have := lv_neT h_0 (show (0 : Int32).toInt = 0 from rfl); have := lv_neT h_1 (show (1 : Int32).toInt = 1 from rfl); have := lv_neT h_2 (show (2 : Int32).toInt = 2 from rfl); have := lv_neT h_3 (show (3 : Int32).toInt = 3 from rfl); have := lv_neT h_4 (show (4 : Int32).toInt = 4 from rfl); have := lv_neT h_5 (show (5 : Int32).toInt = 5 from rfl); have := lv_neT h_6 (show (6 : Int32).toInt = 6 from rfl); have := lv_neT h_7 (show (7 : Int32).toInt = 7 from rfl); have := lv_neT h_8 (show (8 : Int32).toInt = 8 from rfl); have := lv_neT h_9 (show (9 : Int32).toInt = 9 from rfl); have := lv_neT h_10 (show (10 : Int32).toInt = 10 from rfl); have := lv_neT h_11 (show (11 : Int32).toInt = 11 from rfl); have := lv_neT h_12 (show (12 : Int32).toInt = 12 from rfl); have := lv_neT h_13 (show (13 : Int32).toInt = 13 from rfl); have := lv_neT h_14 (show (14 : Int32).toInt = 14 from rfl); have := lv_neT h_15 (show (15 : Int32).toInt = 15 from rfl); have := lv_neT h_16 (show (16 : Int32).toInt = 16 from rfl); have := lv_neT h_17 (show (17 : Int32).toInt = 17 from rfl); have := lv_neT h_18 (show (18 : Int32).toInt = 18 from rfl); have := lv_neT h_19 (show (19 : Int32).toInt = 19 from rfl); have := lv_neT h_20 (show (20 : Int32).toInt = 20 from rfl); have := lv_neT h_21 (show (21 : Int32).toInt = 21 from rfl); have := lv_neT h_22 (show (22 : Int32).toInt = 22 from rfl); have := lv_neT h_23 (show (23 : Int32).toInt = 23 from rfl); have := lv_neT h_24 (show (24 : Int32).toInt = 24 from rfl); have := lv_neT h_25 (show (25 : Int32).toInt = 25 from rfl); have := lv_neT h_26 (show (26 : Int32).toInt = 26 from rfl); have := lv_neT h_27 (show (27 : Int32).toInt = 27 from rfl); have := lv_neT h_28 (show (28 : Int32).toInt = 28 from rfl); have := lv_neT h_29 (show (29 : Int32).toInt = 29 from rfl); have := lv_neT h_30 (show (30 : Int32).toInt = 30 from rfl); have := lv_neT h_31 (show (31 : Int32).toInt = 31 from rfl); have := lv_neT h_32 (show (32 : Int32).toInt = 32 from rfl); have := lv_neT h_33 (show (33 : Int32).toInt = 33 from rfl); have := lv_neT h_34 (show (34 : Int32).toInt = 34 from rfl); have := lv_neT h_35 (show (35 : Int32).toInt = 35 from rfl); have := lv_neT h_36 (show (36 : Int32).toInt = 36 from rfl); have := lv_neT h_37 (show (37 : Int32).toInt = 37 from rfl); have := lv_neT h_38 (show (38 : Int32).toInt = 38 from rfl); have := lv_neT h_39 (show (39 : Int32).toInt = 39 from rfl); have := lv_neT h_40 (show (40 : Int32).toInt = 40 from rfl); have := lv_neT h_41 (show (41 : Int32).toInt = 41 from rfl); have := lv_neT h_42 (show (42 : Int32).toInt = 42 from rfl); have := lv_neT h_43 (show (43 : Int32).toInt = 43 from rfl); omega) (by decide) ?_
  refine w_widen (Nat.le_add_right _ 3) (Nat.le_add_right _ 18) ?_
  have e9 := o_inj hF
  subst e9
  exact kk
theorem lp_ix {t L j : Nat} (hL : L ≤ 3072) (h : 6 * t + 6 ≤ L) (hj : j < 6) : vp_in (nI (6 * t) + nI j) L ∧ Int32.toNatClampNeg (nI (6 * t) + nI j) = 6 * t + j := by
  rw [nI_add]
  exact ⟨vp_in_nI (by omega) (by omega), nI_clamp (by omega)⟩
set_option maxHeartbeats 4000000 in
set_option maxRecDepth 100000 in
/-- the law's loop: calls one behind the other, an invariant between them -/
theorem law_loop (hl : l.stackTraces = false) (hZ : ZOK Z) (hX : ZX Z) {tO : Nat} {sK sV : Nat → Nat} (hO : ZO Z tO sK sV) (fu : Nat) (X : CX D (tyL ca) 279 ad Z p s m args meth c cL_law 7 "PawnRaceLaw" ret) {b L : Nat} {xs : Nat → Int32} (hL : L ≤ 3072) (hXs : va_X b L xs s s.heap) (hbl : b < s.heap.size) (hbA : ¬ AA 279 ad s.heap.size b) (J : Nat → Mem → Prop)
    (hstep : ∀ (t : Nat) (mem : Mem), 6 * t + 6 ≤ L → J t mem → ∃ mem2, K_call fu (fun j => xs (6 * t + j)) mem = some mem2 ∧ J (t + 1) mem2) {C0 S0 : Nat} (hC0 : C0 + 1600 ≤ room_1.cells ∧ S0 + 9600 ≤ room_1.slots)
    (hend : ∀ (mem : Mem) (x4 : Int32), WW D 279 ad (cW ca ad) p l e room_1 s m args below meth c 7 (C0 + 1600) (S0 + 9600) Q mem 2588 [(4, .int x4), (3, .ref (ad 255)), (2, .ref (ad 256)), (1, .ref (ad 0)), (0, .ref b)] []) : ∀ (k t : Nat) (mem : Mem), t + k = 513 → 6 * t ≤ L → J t mem → WW D 279 ad (cW ca ad) p l e room_1 s m args below meth c 7 (C0 + 3 * t) (S0 + 18 * t) Q mem 23 [(4, .int (nI (6 * t))), (3, .ref (ad 255)), (2, .ref (ad 256)), (1, .ref (ad 0)), (0, .ref b)] [] := by
  intro k
  induction k with
  | zero =>
    intro t mem h1 h2 h3
    omega
  | succ k ih =>
    intro t mem h1 h2 h3
    refine w_iload X 0 dL_law_23 rfl 25 rfl ?_
    refine w_aload_n X 4 dL_law_25 rfl rfl 26 rfl ?_
    refine w_slen X hXs hbl hbA dL_law_26 27 rfl ?_
    refine w_bipush X 6 dL_law_27 rfl 29 rfl ?_
    refine w_isub X dL_law_29 30 rfl ?_
    have hlen : Int32.ofNat L - 6 < nI (6 * t) ↔ L < 6 * t + 6 := by
      rw [Int32.lt_iff_toInt_lt, nI_toInt (by omega)]
      have : (Int32.ofNat L - 6).toInt = (L : Int) - 6 := by
        rw [Int32.toInt_sub, show (Int32.ofNat L).toInt = (L : Int) from nI_toInt (by omega), show (6 : Int32).toInt = 6 from rfl]
        rw [Int.bmod_eq_of_le (by omega) (by omega)]
      rw [this]
      omega
    intro H locs ls hP hS hlv
    refine lv_icmp_gt (tgt := 2588) X.1.1 X.1.2.1 dL_law_30 (by decide) (fun c1 => ?_) (fun c1 => ?_)
    · exact (w_widen (k := C0 + 1600) (k2 := S0 + 9600) (by omega) (by omega) (hend mem _)) H locs ls hP hS hlv
    · have hle : 6 * t + 6 ≤ L := by
        have hq : ¬ L < 6 * t + 6 := fun q => c1 (hlen.mpr q)
        omega
      obtain ⟨mem2, hK, hJ⟩ := hstep t mem hle h3
      have hi := fun (j : Nat) (hj : j < 6) => lp_ix (t := t) hL hle hj
      refine (?_ : WW D 279 ad (cW ca ad) p l e room_1 s m args below meth c 7 (C0 + 3 * t) (S0 + 18 * t) Q mem 33 [(4, .int (nI (6 * t))), (3, .ref (ad 255)), (2, .ref (ad 256)), (1, .ref (ad 0)), (0, .ref b)] []) H locs ls hP hS hlv
      refine w_aload_n X 4 dL_law_33 rfl rfl 34 rfl ?_
      refine w_iload X 0 dL_law_34 rfl 36 rfl ?_
      refine w_sld X hXs hbl hbA (vp_in_nI (by omega) (by omega)) (xs (6 * t)) (by rw [nI_clamp (by omega)]) dL_law_36 37 rfl ?_
      refine w_bipush X 63 dL_law_37 rfl 39 rfl ?_
      refine w_iand X dL_law_39 40 rfl ?_
      have ar : ∀ j, j < 6 → vp_in (nI (6 * t) + nI j) L ∧ xs (Int32.toNatClampNeg (nI (6 * t) + nI j)) = (fun j => xs (6 * t + j)) j := fun j hj => ⟨(hi j hj).1, by rw [(hi j hj).2]⟩
      refine lc_all hl hZ hX hO fu X (a := fun j => xs (6 * t + j)) ⟨hXs, hbl, hbA, ar 1 (by decide), ar 2 (by decide), ar 3 (by decide), ar 4 (by decide), ar 5 (by decide)⟩ ⟨by omega, by omega⟩ hK ?_
      refine w_iinc X 0 (nI (6 * (t + 1))) [(4, .int (nI (6 * (t + 1)))), (3, .ref (ad 255)), (2, .ref (ad 256)), (1, .ref (ad 0)), (0, .ref b)] dL_law_2582 rfl (by rw [show Int32.ofInt 6 = nI 6 from rfl, nI_add, Nat.mul_add]) (by decide) rfl 2585 rfl ?_
      refine w_goto X 23 dL_law_2585 (by decide) ?_
      have := ih (t + 1) mem2 (by omega) (by omega) hJ
      rw [Nat.mul_add, Nat.mul_add, Nat.mul_add] at this
      exact this
end LLOOP
