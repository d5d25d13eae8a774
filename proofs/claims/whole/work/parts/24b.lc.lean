section LC1
variable {D : va_G} {ca ad : Nat → Nat} {Z : (Nat → Prop) → State → Heap → Prop} {p : Program} {l : Launch} {e : Env} {s : State} {m : MethodId} {args : Array Value} {below : List Frame} {meth : Method} {c : Code} {ret : Option FieldType} {cells slots : Nat} {Q : State → Prop}
def K_case_15 (fu : Nat) (a : Nat → Int32) (mem : Mem) : Option Mem := bd (K_X11_admissible fu mem) (fun p_1 => bd (K_X12_admissible fu (fun j => (mset 0 255 mem p_1.2) (256 + j))) (fun p_2 => (if p_1.1 = p_2.1 then some (mset 256 23 (mset 0 255 mem p_1.2) p_2.2) else none)))
set_option maxHeartbeats 4000000 in
set_option maxRecDepth 100000 in
theorem lc_15 (hl : l.stackTraces = false) (hZ : ZOK Z) (hX : ZX Z) {tO : Nat} {sK sV : Nat → Nat} (hO : ZO Z tO sK sV) (fu : Nat) (X : CX D (tyL ca) 279 ad Z p s m args meth c cL_law 7 "PawnRaceLaw" ret) {b L : Nat} {xs a : Nat → Int32} {x4 : Int32} (HX : LX b L xs s (AA 279 ad s.heap.size) x4 a) (hcap : cells + 3 ≤ room_1.cells ∧ slots + 18 ≤ room_1.slots) {mem mem2 : Mem} (hF : K_case_15 fu a mem = some mem2) (kk : WW D 279 ad (cW ca ad) p l e room_1 s m args below meth c 7 (cells + 3) (slots + 18) Q mem2 2582 [(4, .int x4), (3, .ref (ad 255)), (2, .ref (ad 256)), (1, .ref (ad 0)), (0, .ref b)] []) : WW D 279 ad (cW ca ad) p l e room_1 s m args below meth c 7 cells slots Q mem 1007 [(4, .int x4), (3, .ref (ad 255)), (2, .ref (ad 256)), (1, .ref (ad 0)), (0, .ref b)] [] := by
  have hcap0 : cells ≤ room_1.cells ∧ slots ≤ room_1.slots := ⟨Nat.le_trans (Nat.le_add_right _ 3) hcap.1, Nat.le_trans (Nat.le_add_right _ 18) hcap.2⟩
  obtain ⟨hx, hbl, hbA, h1, h2, h3, h4, h5⟩ := HX
  rw [K_case_15] at hF
  refine w_aload_n X 3 dL_law_1007 rfl rfl 1008 rfl ?_
  refine w_ccall (fun x => x.1) (fun x => x.2) X hZ hF [] (q := ("PawnRace", TX11, 14)) rfl rfl rfl kB_X11_admissible kL_L_190 (fun res h => ct_X11_admissible l hZ hO fu  mem res h) rfl rfl rfl ⟨Nat.le_of_ble_eq_true rfl, Nat.le_of_ble_eq_true rfl⟩ (Nat.le_of_ble_eq_true rfl) hcap0 dL_law_1008 1011 rfl (fun p_1 hF => ?_)
  refine w_aload_n X 2 dL_law_1011 rfl rfl 1012 rfl ?_
  refine w_mcall (fun x => x.1) (fun x => x.2) X hZ hF [] (q := ("PawnRaceModel", TX12, 50)) rfl rfl rfl kB_X12_admissible kL_L_193 (fun res h => ct_X12_admissible l hZ fu  (fun j => (mset 0 255 mem p_1.2) (256 + j)) res h) rfl rfl rfl ⟨Nat.le_of_ble_eq_true rfl, Nat.le_of_ble_eq_true rfl⟩ (Nat.le_of_ble_eq_true rfl) hcap0 dL_law_1012 1015 rfl (fun p_2 hF => ?_)
  refine w_icmp_eq X hF 2582 1018 dL_law_1015 (by decide) rfl (fun hF => ?_) (fun hF => ?_)
  · refine w_keep [0, 1, 2, 3, 4] rfl ?_
    refine w_widen (Nat.le_add_right _ 3) (Nat.le_add_right _ 18) ?_
    have e9 := o_inj hF
    subst e9
    exact kk
  · refine w_iconst X 0 dL_law_1018 rfl 1019 rfl ?_
    exact no_none hF

def K_case_16 (fu : Nat) (a : Nat → Int32) (mem : Mem) : Option Mem := bd (K_X11_regions fu mem) (fun p_1 => bd (K_X12_regions fu (fun j => (mset 0 255 mem p_1.2) (256 + j))) (fun p_2 => (if p_1.1 = p_2.1 then some (mset 256 23 (mset 0 255 mem p_1.2) p_2.2) else none)))
set_option maxHeartbeats 4000000 in
set_option maxRecDepth 100000 in
theorem lc_16 (hl : l.stackTraces = false) (hZ : ZOK Z) (hX : ZX Z) {tO : Nat} {sK sV : Nat → Nat} (hO : ZO Z tO sK sV) (fu : Nat) (X : CX D (tyL ca) 279 ad Z p s m args meth c cL_law 7 "PawnRaceLaw" ret) {b L : Nat} {xs a : Nat → Int32} {x4 : Int32} (HX : LX b L xs s (AA 279 ad s.heap.size) x4 a) (hcap : cells + 3 ≤ room_1.cells ∧ slots + 18 ≤ room_1.slots) {mem mem2 : Mem} (hF : K_case_16 fu a mem = some mem2) (kk : WW D 279 ad (cW ca ad) p l e room_1 s m args below meth c 7 (cells + 3) (slots + 18) Q mem2 2582 [(4, .int x4), (3, .ref (ad 255)), (2, .ref (ad 256)), (1, .ref (ad 0)), (0, .ref b)] []) : WW D 279 ad (cW ca ad) p l e room_1 s m args below meth c 7 cells slots Q mem 1020 [(4, .int x4), (3, .ref (ad 255)), (2, .ref (ad 256)), (1, .ref (ad 0)), (0, .ref b)] [] := by
  have hcap0 : cells ≤ room_1.cells ∧ slots ≤ room_1.slots := ⟨Nat.le_trans (Nat.le_add_right _ 3) hcap.1, Nat.le_trans (Nat.le_add_right _ 18) hcap.2⟩
  obtain ⟨hx, hbl, hbA, h1, h2, h3, h4, h5⟩ := HX
  rw [K_case_16] at hF
  refine w_aload_n X 3 dL_law_1020 rfl rfl 1021 rfl ?_
  refine w_ccall (fun x => x.1) (fun x => x.2) X hZ hF [] (q := ("PawnRace", TX11, 14)) rfl rfl rfl kB_X11_regions kL_L_194 (fun res h => ct_X11_regions l hZ hO fu  mem res h) rfl rfl rfl ⟨Nat.le_of_ble_eq_true rfl, Nat.le_of_ble_eq_true rfl⟩ (Nat.le_of_ble_eq_true rfl) hcap0 dL_law_1021 1024 rfl (fun p_1 hF => ?_)
  refine w_aload_n X 2 dL_law_1024 rfl rfl 1025 rfl ?_
  refine w_mcall (fun x => x.1) (fun x => x.2) X hZ hF [] (q := ("PawnRaceModel", TX12, 50)) rfl rfl rfl kB_X12_regions kL_L_197 (fun res h => ct_X12_regions l hZ fu  (fun j => (mset 0 255 mem p_1.2) (256 + j)) res h) rfl rfl rfl ⟨Nat.le_of_ble_eq_true rfl, Nat.le_of_ble_eq_true rfl⟩ (Nat.le_of_ble_eq_true rfl) hcap0 dL_law_1025 1028 rfl (fun p_2 hF => ?_)
  refine w_icmp_eq X hF 2582 1031 dL_law_1028 (by decide) rfl (fun hF => ?_) (fun hF => ?_)
  · refine w_keep [0, 1, 2, 3, 4] rfl ?_
    refine w_widen (Nat.le_add_right _ 3) (Nat.le_add_right _ 18) ?_
    have e9 := o_inj hF
    subst e9
    exact kk
  · refine w_iconst X 0 dL_law_1031 rfl 1032 rfl ?_
    exact no_none hF

def K_case_17 (fu : Nat) (a : Nat → Int32) (mem : Mem) : Option Mem := bd (K_L_canStep fu (a 1) (a 2) mem) (fun p_1 => bd (K_X12_canStep fu (a 1) (a 2) (fun j => (mset 0 256 mem p_1.2) (256 + j))) (fun p_2 => bd (K_X12_thrown fu (fun j => (mset 256 23 (mset 0 256 mem p_1.2) p_2.2) (256 + j))) (fun x_3 => (if x_3 = p_1.1 then (if p_1.1 = 0 then (if p_2.1 = 0 then (if (lg_cmp (rl (mset 256 23 (mset 256 23 (mset 0 256 mem p_1.2) p_2.2) (fun j => (mset 256 23 (mset 0 256 mem p_1.2) p_2.2) (256 + j))) 255 (Int32.toNatClampNeg 0)) 0) = 0 then some (mset 256 23 (mset 256 23 (mset 0 256 mem p_1.2) p_2.2) (fun j => (mset 256 23 (mset 0 256 mem p_1.2) p_2.2) (256 + j))) else none) else (if (lg_cmp (rl (mset 256 23 (mset 256 23 (mset 0 256 mem p_1.2) p_2.2) (fun j => (mset 256 23 (mset 0 256 mem p_1.2) p_2.2) (256 + j))) 255 (Int32.toNatClampNeg 0)) 1) = 0 then some (mset 256 23 (mset 256 23 (mset 0 256 mem p_1.2) p_2.2) (fun j => (mset 256 23 (mset 0 256 mem p_1.2) p_2.2) (256 + j))) else none)) else some (mset 256 23 (mset 256 23 (mset 0 256 mem p_1.2) p_2.2) (fun j => (mset 256 23 (mset 0 256 mem p_1.2) p_2.2) (256 + j)))) else none))))
set_option maxHeartbeats 4000000 in
set_option maxRecDepth 100000 in
theorem lc_17 (hl : l.stackTraces = false) (hZ : ZOK Z) (hX : ZX Z) {tO : Nat} {sK sV : Nat → Nat} (hO : ZO Z tO sK sV) (fu : Nat) (X : CX D (tyL ca) 279 ad Z p s m args meth c cL_law 7 "PawnRaceLaw" ret) {b L : Nat} {xs a : Nat → Int32} {x4 : Int32} (HX : LX b L xs s (AA 279 ad s.heap.size) x4 a) (hcap : cells + 3 ≤ room_1.cells ∧ slots + 18 ≤ room_1.slots) {mem mem2 : Mem} (hF : K_case_17 fu a mem = some mem2) (kk : WW D 279 ad (cW ca ad) p l e room_1 s m args below meth c 7 (cells + 3) (slots + 18) Q mem2 2582 [(4, .int x4), (3, .ref (ad 255)), (2, .ref (ad 256)), (1, .ref (ad 0)), (0, .ref b)] []) : WW D 279 ad (cW ca ad) p l e room_1 s m args below meth c 7 cells slots Q mem 1033 [(4, .int x4), (3, .ref (ad 255)), (2, .ref (ad 256)), (1, .ref (ad 0)), (0, .ref b)] [] := by
  have hcap0 : cells ≤ room_1.cells ∧ slots ≤ room_1.slots := ⟨Nat.le_trans (Nat.le_add_right _ 3) hcap.1, Nat.le_trans (Nat.le_add_right _ 18) hcap.2⟩
  obtain ⟨hx, hbl, hbA, h1, h2, h3, h4, h5⟩ := HX
  rw [K_case_17] at hF
  refine w_aload_n X 3 dL_law_1033 rfl rfl 1034 rfl ?_
  refine w_aload_n X 4 dL_law_1034 rfl rfl 1035 rfl ?_
  refine w_iload X 0 dL_law_1035 rfl 1037 rfl ?_
  refine w_iconst X 1 dL_law_1037 rfl 1038 rfl ?_
  refine w_iadd X dL_law_1038 1039 rfl ?_
  refine w_sld X hx hbl hbA h1.1 (a 1) h1.2 dL_law_1039 1040 rfl ?_
  refine w_aload_n X 4 dL_law_1040 rfl rfl 1041 rfl ?_
  refine w_iload X 0 dL_law_1041 rfl 1043 rfl ?_
  refine w_iconst X 2 dL_law_1043 rfl 1044 rfl ?_
  refine w_iadd X dL_law_1044 1045 rfl ?_
  refine w_sld X hx hbl hbA h2.1 (a 2) h2.2 dL_law_1045 1046 rfl ?_
  refine w_aload_n X 1 dL_law_1046 rfl rfl 1047 rfl ?_
  refine w_wcall X hZ hF [.ref (ad 0), .int (a 1), .int (a 2), .ref (ad 255)] rfl kB_L_canStep kL_L_198 (fun res h => ct_L_canStep l hl hZ hX hO fu (a 1) (a 2) mem res h) rfl rfl rfl ⟨Nat.le_of_ble_eq_true rfl, Nat.le_of_ble_eq_true rfl⟩ (Nat.le_of_ble_eq_true rfl) hcap dL_law_1047 1050 rfl (fun p_1 hF => ?_)
  refine w_istore X [(5, .int p_1.1), (4, .int x4), (3, .ref (ad 255)), (2, .ref (ad 256)), (1, .ref (ad 0)), (0, .ref b)] dL_law_1050 (by decide) rfl 1052 rfl ?_
  refine w_aload_n X 3 dL_law_1052 rfl rfl 1053 rfl ?_
  refine w_aload_n X 5 dL_law_1053 rfl rfl 1054 rfl ?_
  refine w_iload X 1 dL_law_1054 rfl 1056 rfl ?_
  refine w_iconst X 1 dL_law_1056 rfl 1057 rfl ?_
  refine w_iadd X dL_law_1057 1058 rfl ?_
  refine w_sld X hx hbl hbA h1.1 (a 1) h1.2 dL_law_1058 1059 rfl ?_
  refine w_aload_n X 5 dL_law_1059 rfl rfl 1060 rfl ?_
  refine w_iload X 1 dL_law_1060 rfl 1062 rfl ?_
  refine w_iconst X 2 dL_law_1062 rfl 1063 rfl ?_
  refine w_iadd X dL_law_1063 1064 rfl ?_
  refine w_sld X hx hbl hbA h2.1 (a 2) h2.2 dL_law_1064 1065 rfl ?_
  refine w_mcall (fun x => x.1) (fun x => x.2) X hZ hF [.int (a 1), .int (a 2)] (q := ("PawnRaceModel", TX12, 50)) rfl rfl rfl kB_X12_canStep kL_L_200 (fun res h => ct_X12_canStep l hZ fu (a 1) (a 2) (fun j => (mset 0 256 mem p_1.2) (256 + j)) res h) rfl rfl rfl ⟨Nat.le_of_ble_eq_true rfl, Nat.le_of_ble_eq_true rfl⟩ (Nat.le_of_ble_eq_true rfl) hcap dL_law_1065 1068 rfl (fun p_2 hF => ?_)
  refine w_istore X [(6, .int p_2.1), (5, .int p_1.1), (4, .int x4), (3, .ref (ad 255)), (2, .ref (ad 256)), (1, .ref (ad 0)), (0, .ref b)] dL_law_1068 (by decide) rfl 1070 rfl ?_
  refine w_aload_n X 4 dL_law_1070 rfl rfl 1071 rfl ?_
  refine w_mcall (fun x => x) (fun _ => (fun j => (mset 256 23 (mset 0 256 mem p_1.2) p_2.2) (256 + j))) X hZ hF [] (q := ("PawnRaceModel", TX12, 50)) rfl rfl rfl kB_X12_thrown kL_L_134 (fun res h => ct_X12_thrown l hZ fu  (fun j => (mset 256 23 (mset 0 256 mem p_1.2) p_2.2) (256 + j)) res h) rfl rfl rfl ⟨Nat.le_of_ble_eq_true rfl, Nat.le_of_ble_eq_true rfl⟩ (Nat.le_of_ble_eq_true rfl) hcap dL_law_1071 1074 rfl (fun x_3 hF => ?_)
  refine w_iload X 1 dL_law_1074 rfl 1076 rfl ?_
  refine w_icmp_eq X hF 1081 1079 dL_law_1076 (by decide) rfl (fun hF => ?_) (fun hF => ?_)
  · refine w_iload X 1 dL_law_1081 rfl 1083 rfl ?_
    refine w_if_ne X hF 1105 1086 dL_law_1083 (by decide) rfl (fun hF => ?_) (fun hF => ?_)
    · refine w_aload_n X 3 dL_law_1086 rfl rfl 1087 rfl ?_
      refine w_iconst X 0 dL_law_1087 rfl 1088 rfl ?_
      refine w_lal X 255 lt279_255 ko_W255 (t0 := 5) rfl vin01 dL_law_1088 1089 rfl ?_
      refine w_iload X 0 dL_law_1089 rfl 1091 rfl ?_
      refine w_if_eq X hF 1098 1094 dL_law_1091 (by decide) rfl (fun hF => ?_) (fun hF => ?_)
      · refine w_lconst X 0 dL_law_1098 rfl 1099 rfl ?_
        refine w_lcmp X dL_law_1099 1100 rfl ?_
        refine w_if_eq X hF 1105 1103 dL_law_1100 (by decide) rfl (fun hF => ?_) (fun hF => ?_)
        · refine w_goto X 2582 dL_law_1105 (by decide) ?_
          refine w_keep [2, 3, 4, 5, 6] rfl ?_
          have e9 := o_inj hF
          subst e9
          exact kk
        · refine w_iconst X 0 dL_law_1103 rfl 1104 rfl ?_
          exact no_none hF
      · refine w_lconst X 1 dL_law_1094 rfl 1095 rfl ?_
        refine w_goto X 1099 dL_law_1095 (by decide) ?_
        refine w_lcmp X dL_law_1099 1100 rfl ?_
        refine w_if_eq X hF 1105 1103 dL_law_1100 (by decide) rfl (fun hF => ?_) (fun hF => ?_)
        · refine w_goto X 2582 dL_law_1105 (by decide) ?_
          refine w_keep [2, 3, 4, 5, 6] rfl ?_
          have e9 := o_inj hF
          subst e9
          exact kk
        · refine w_iconst X 0 dL_law_1103 rfl 1104 rfl ?_
          exact no_none hF
    · refine w_goto X 2582 dL_law_1105 (by decide) ?_
      refine w_keep [2, 3, 4, 5, 6] rfl ?_
      have e9 := o_inj hF
      subst e9
      exact kk
  · refine w_iconst X 0 dL_law_1079 rfl 1080 rfl ?_
    exact no_none hF

def K_case_18 (fu : Nat) (a : Nat → Int32) (mem : Mem) : Option Mem := bd (K_L_isBanned fu (a 1) (a 2) mem) (fun p_1 => bd (K_X12_isBanned fu (a 1) (a 2) (fun j => (mset 0 256 mem p_1.2) (256 + j))) (fun p_2 => bd (K_X12_thrown fu (fun j => (mset 256 23 (mset 0 256 mem p_1.2) p_2.2) (256 + j))) (fun x_3 => (if x_3 = p_1.1 then (if p_1.1 = 0 then (if p_2.1 = 0 then (if (lg_cmp (rl (mset 256 23 (mset 256 23 (mset 0 256 mem p_1.2) p_2.2) (fun j => (mset 256 23 (mset 0 256 mem p_1.2) p_2.2) (256 + j))) 255 (Int32.toNatClampNeg 0)) 0) = 0 then some (mset 256 23 (mset 256 23 (mset 0 256 mem p_1.2) p_2.2) (fun j => (mset 256 23 (mset 0 256 mem p_1.2) p_2.2) (256 + j))) else none) else (if (lg_cmp (rl (mset 256 23 (mset 256 23 (mset 0 256 mem p_1.2) p_2.2) (fun j => (mset 256 23 (mset 0 256 mem p_1.2) p_2.2) (256 + j))) 255 (Int32.toNatClampNeg 0)) 1) = 0 then some (mset 256 23 (mset 256 23 (mset 0 256 mem p_1.2) p_2.2) (fun j => (mset 256 23 (mset 0 256 mem p_1.2) p_2.2) (256 + j))) else none)) else some (mset 256 23 (mset 256 23 (mset 0 256 mem p_1.2) p_2.2) (fun j => (mset 256 23 (mset 0 256 mem p_1.2) p_2.2) (256 + j)))) else none))))
set_option maxHeartbeats 4000000 in
set_option maxRecDepth 100000 in
theorem lc_18 (hl : l.stackTraces = false) (hZ : ZOK Z) (hX : ZX Z) {tO : Nat} {sK sV : Nat → Nat} (hO : ZO Z tO sK sV) (fu : Nat) (X : CX D (tyL ca) 279 ad Z p s m args meth c cL_law 7 "PawnRaceLaw" ret) {b L : Nat} {xs a : Nat → Int32} {x4 : Int32} (HX : LX b L xs s (AA 279 ad s.heap.size) x4 a) (hcap : cells + 3 ≤ room_1.cells ∧ slots + 18 ≤ room_1.slots) {mem mem2 : Mem} (hF : K_case_18 fu a mem = some mem2) (kk : WW D 279 ad (cW ca ad) p l e room_1 s m args below meth c 7 (cells + 3) (slots + 18) Q mem2 2582 [(4, .int x4), (3, .ref (ad 255)), (2, .ref (ad 256)), (1, .ref (ad 0)), (0, .ref b)] []) : WW D 279 ad (cW ca ad) p l e room_1 s m args below meth c 7 cells slots Q mem 1108 [(4, .int x4), (3, .ref (ad 255)), (2, .ref (ad 256)), (1, .ref (ad 0)), (0, .ref b)] [] := by
  have hcap0 : cells ≤ room_1.cells ∧ slots ≤ room_1.slots := ⟨Nat.le_trans (Nat.le_add_right _ 3) hcap.1, Nat.le_trans (Nat.le_add_right _ 18) hcap.2⟩
  obtain ⟨hx, hbl, hbA, h1, h2, h3, h4, h5⟩ := HX
  rw [K_case_18] at hF
  refine w_aload_n X 3 dL_law_1108 rfl rfl 1109 rfl ?_
  refine w_aload_n X 4 dL_law_1109 rfl rfl 1110 rfl ?_
  refine w_iload X 0 dL_law_1110 rfl 1112 rfl ?_
  refine w_iconst X 1 dL_law_1112 rfl 1113 rfl ?_
  refine w_iadd X dL_law_1113 1114 rfl ?_
  refine w_sld X hx hbl hbA h1.1 (a 1) h1.2 dL_law_1114 1115 rfl ?_
  refine w_aload_n X 4 dL_law_1115 rfl rfl 1116 rfl ?_
  refine w_iload X 0 dL_law_1116 rfl 1118 rfl ?_
  refine w_iconst X 2 dL_law_1118 rfl 1119 rfl ?_
  refine w_iadd X dL_law_1119 1120 rfl ?_
  refine w_sld X hx hbl hbA h2.1 (a 2) h2.2 dL_law_1120 1121 rfl ?_
  refine w_aload_n X 1 dL_law_1121 rfl rfl 1122 rfl ?_
  refine w_wcall X hZ hF [.ref (ad 0), .int (a 1), .int (a 2), .ref (ad 255)] rfl kB_L_isBanned kL_L_201 (fun res h => ct_L_isBanned l hl hZ hX hO fu (a 1) (a 2) mem res h) rfl rfl rfl ⟨Nat.le_of_ble_eq_true rfl, Nat.le_of_ble_eq_true rfl⟩ (Nat.le_of_ble_eq_true rfl) hcap dL_law_1122 1125 rfl (fun p_1 hF => ?_)
  refine w_istore X [(5, .int p_1.1), (4, .int x4), (3, .ref (ad 255)), (2, .ref (ad 256)), (1, .ref (ad 0)), (0, .ref b)] dL_law_1125 (by decide) rfl 1127 rfl ?_
  refine w_aload_n X 3 dL_law_1127 rfl rfl 1128 rfl ?_
  refine w_aload_n X 5 dL_law_1128 rfl rfl 1129 rfl ?_
  refine w_iload X 1 dL_law_1129 rfl 1131 rfl ?_
  refine w_iconst X 1 dL_law_1131 rfl 1132 rfl ?_
  refine w_iadd X dL_law_1132 1133 rfl ?_
  refine w_sld X hx hbl hbA h1.1 (a 1) h1.2 dL_law_1133 1134 rfl ?_
  refine w_aload_n X 5 dL_law_1134 rfl rfl 1135 rfl ?_
  refine w_iload X 1 dL_law_1135 rfl 1137 rfl ?_
  refine w_iconst X 2 dL_law_1137 rfl 1138 rfl ?_
  refine w_iadd X dL_law_1138 1139 rfl ?_
  refine w_sld X hx hbl hbA h2.1 (a 2) h2.2 dL_law_1139 1140 rfl ?_
  refine w_mcall (fun x => x.1) (fun x => x.2) X hZ hF [.int (a 1), .int (a 2)] (q := ("PawnRaceModel", TX12, 50)) rfl rfl rfl kB_X12_isBanned kL_L_203 (fun res h => ct_X12_isBanned l hZ fu (a 1) (a 2) (fun j => (mset 0 256 mem p_1.2) (256 + j)) res h) rfl rfl rfl ⟨Nat.le_of_ble_eq_true rfl, Nat.le_of_ble_eq_true rfl⟩ (Nat.le_of_ble_eq_true rfl) hcap dL_law_1140 1143 rfl (fun p_2 hF => ?_)
  refine w_istore X [(6, .int p_2.1), (5, .int p_1.1), (4, .int x4), (3, .ref (ad 255)), (2, .ref (ad 256)), (1, .ref (ad 0)), (0, .ref b)] dL_law_1143 (by decide) rfl 1145 rfl ?_
  refine w_aload_n X 4 dL_law_1145 rfl rfl 1146 rfl ?_
  refine w_mcall (fun x => x) (fun _ => (fun j => (mset 256 23 (mset 0 256 mem p_1.2) p_2.2) (256 + j))) X hZ hF [] (q := ("PawnRaceModel", TX12, 50)) rfl rfl rfl kB_X12_thrown kL_L_134 (fun res h => ct_X12_thrown l hZ fu  (fun j => (mset 256 23 (mset 0 256 mem p_1.2) p_2.2) (256 + j)) res h) rfl rfl rfl ⟨Nat.le_of_ble_eq_true rfl, Nat.le_of_ble_eq_true rfl⟩ (Nat.le_of_ble_eq_true rfl) hcap dL_law_1146 1149 rfl (fun x_3 hF => ?_)
  refine w_iload X 1 dL_law_1149 rfl 1151 rfl ?_
  refine w_icmp_eq X hF 1156 1154 dL_law_1151 (by decide) rfl (fun hF => ?_) (fun hF => ?_)
  · refine w_iload X 1 dL_law_1156 rfl 1158 rfl ?_
    refine w_if_ne X hF 1180 1161 dL_law_1158 (by decide) rfl (fun hF => ?_) (fun hF => ?_)
    · refine w_aload_n X 3 dL_law_1161 rfl rfl 1162 rfl ?_
      refine w_iconst X 0 dL_law_1162 rfl 1163 rfl ?_
      refine w_lal X 255 lt279_255 ko_W255 (t0 := 5) rfl vin01 dL_law_1163 1164 rfl ?_
      refine w_iload X 0 dL_law_1164 rfl 1166 rfl ?_
      refine w_if_eq X hF 1173 1169 dL_law_1166 (by decide) rfl (fun hF => ?_) (fun hF => ?_)
      · refine w_lconst X 0 dL_law_1173 rfl 1174 rfl ?_
        refine w_lcmp X dL_law_1174 1175 rfl ?_
        refine w_if_eq X hF 1180 1178 dL_law_1175 (by decide) rfl (fun hF => ?_) (fun hF => ?_)
        · refine w_goto X 2582 dL_law_1180 (by decide) ?_
          refine w_keep [2, 3, 4, 5, 6] rfl ?_
          have e9 := o_inj hF
          subst e9
          exact kk
        · refine w_iconst X 0 dL_law_1178 rfl 1179 rfl ?_
          exact no_none hF
      · refine w_lconst X 1 dL_law_1169 rfl 1170 rfl ?_
        refine w_goto X 1174 dL_law_1170 (by decide) ?_
        refine w_lcmp X dL_law_1174 1175 rfl ?_
        refine w_if_eq X hF 1180 1178 dL_law_1175 (by decide) rfl (fun hF => ?_) (fun hF => ?_)
        · refine w_goto X 2582 dL_law_1180 (by decide) ?_
          refine w_keep [2, 3, 4, 5, 6] rfl ?_
          have e9 := o_inj hF
          subst e9
          exact kk
        · refine w_iconst X 0 dL_law_1178 rfl 1179 rfl ?_
          exact no_none hF
    · refine w_goto X 2582 dL_law_1180 (by decide) ?_
      refine w_keep [2, 3, 4, 5, 6] rfl ?_
      have e9 := o_inj hF
      subst e9
      exact kk
  · refine w_iconst X 0 dL_law_1154 rfl 1155 rfl ?_
    exact no_none hF

def K_case_19 (fu : Nat) (a : Nat → Int32) (mem : Mem) : Option Mem := bd (K_L_steps fu (a 1) mem) (fun p_1 => bd (K_X12_steps fu (a 1) (fun j => (mset 0 256 mem p_1.2) (256 + j))) (fun p_2 => bd (K_X12_thrown fu (fun j => (mset 256 23 (mset 0 256 mem p_1.2) p_2.2) (256 + j))) (fun x_3 => (if x_3 = p_1.1 then (if p_1.1 = 0 then (if (lg_cmp (rl (mset 256 23 (mset 256 23 (mset 0 256 mem p_1.2) p_2.2) (fun j => (mset 256 23 (mset 0 256 mem p_1.2) p_2.2) (256 + j))) 255 (Int32.toNatClampNeg 0)) (Int32.toInt64 p_2.1)) = 0 then some (mset 256 23 (mset 256 23 (mset 0 256 mem p_1.2) p_2.2) (fun j => (mset 256 23 (mset 0 256 mem p_1.2) p_2.2) (256 + j))) else none) else some (mset 256 23 (mset 256 23 (mset 0 256 mem p_1.2) p_2.2) (fun j => (mset 256 23 (mset 0 256 mem p_1.2) p_2.2) (256 + j)))) else none))))
set_option maxHeartbeats 4000000 in
set_option maxRecDepth 100000 in
theorem lc_19 (hl : l.stackTraces = false) (hZ : ZOK Z) (hX : ZX Z) {tO : Nat} {sK sV : Nat → Nat} (hO : ZO Z tO sK sV) (fu : Nat) (X : CX D (tyL ca) 279 ad Z p s m args meth c cL_law 7 "PawnRaceLaw" ret) {b L : Nat} {xs a : Nat → Int32} {x4 : Int32} (HX : LX b L xs s (AA 279 ad s.heap.size) x4 a) (hcap : cells + 3 ≤ room_1.cells ∧ slots + 18 ≤ room_1.slots) {mem mem2 : Mem} (hF : K_case_19 fu a mem = some mem2) (kk : WW D 279 ad (cW ca ad) p l e room_1 s m args below meth c 7 (cells + 3) (slots + 18) Q mem2 2582 [(4, .int x4), (3, .ref (ad 255)), (2, .ref (ad 256)), (1, .ref (ad 0)), (0, .ref b)] []) : WW D 279 ad (cW ca ad) p l e room_1 s m args below meth c 7 cells slots Q mem 1183 [(4, .int x4), (3, .ref (ad 255)), (2, .ref (ad 256)), (1, .ref (ad 0)), (0, .ref b)] [] := by
  have hcap0 : cells ≤ room_1.cells ∧ slots ≤ room_1.slots := ⟨Nat.le_trans (Nat.le_add_right _ 3) hcap.1, Nat.le_trans (Nat.le_add_right _ 18) hcap.2⟩
  obtain ⟨hx, hbl, hbA, h1, h2, h3, h4, h5⟩ := HX
  rw [K_case_19] at hF
  refine w_aload_n X 3 dL_law_1183 rfl rfl 1184 rfl ?_
  refine w_aload_n X 4 dL_law_1184 rfl rfl 1185 rfl ?_
  refine w_iload X 0 dL_law_1185 rfl 1187 rfl ?_
  refine w_iconst X 1 dL_law_1187 rfl 1188 rfl ?_
  refine w_iadd X dL_law_1188 1189 rfl ?_
  refine w_sld X hx hbl hbA h1.1 (a 1) h1.2 dL_law_1189 1190 rfl ?_
  refine w_aload_n X 1 dL_law_1190 rfl rfl 1191 rfl ?_
  refine w_wcall X hZ hF [.ref (ad 0), .int (a 1), .ref (ad 255)] rfl kB_L_steps kL_L_204 (fun res h => ct_L_steps l hl hZ hX hO fu (a 1) mem res h) rfl rfl rfl ⟨Nat.le_of_ble_eq_true rfl, Nat.le_of_ble_eq_true rfl⟩ (Nat.le_of_ble_eq_true rfl) hcap dL_law_1191 1194 rfl (fun p_1 hF => ?_)
  refine w_istore X [(5, .int p_1.1), (4, .int x4), (3, .ref (ad 255)), (2, .ref (ad 256)), (1, .ref (ad 0)), (0, .ref b)] dL_law_1194 (by decide) rfl 1196 rfl ?_
  refine w_aload_n X 3 dL_law_1196 rfl rfl 1197 rfl ?_
  refine w_aload_n X 5 dL_law_1197 rfl rfl 1198 rfl ?_
  refine w_iload X 1 dL_law_1198 rfl 1200 rfl ?_
  refine w_iconst X 1 dL_law_1200 rfl 1201 rfl ?_
  refine w_iadd X dL_law_1201 1202 rfl ?_
  refine w_sld X hx hbl hbA h1.1 (a 1) h1.2 dL_law_1202 1203 rfl ?_
  refine w_mcall (fun x => x.1) (fun x => x.2) X hZ hF [.int (a 1)] (q := ("PawnRaceModel", TX12, 50)) rfl rfl rfl kB_X12_steps kL_L_206 (fun res h => ct_X12_steps l hZ fu (a 1) (fun j => (mset 0 256 mem p_1.2) (256 + j)) res h) rfl rfl rfl ⟨Nat.le_of_ble_eq_true rfl, Nat.le_of_ble_eq_true rfl⟩ (Nat.le_of_ble_eq_true rfl) hcap dL_law_1203 1206 rfl (fun p_2 hF => ?_)
  refine w_istore X [(6, .int p_2.1), (5, .int p_1.1), (4, .int x4), (3, .ref (ad 255)), (2, .ref (ad 256)), (1, .ref (ad 0)), (0, .ref b)] dL_law_1206 (by decide) rfl 1208 rfl ?_
  refine w_aload_n X 4 dL_law_1208 rfl rfl 1209 rfl ?_
  refine w_mcall (fun x => x) (fun _ => (fun j => (mset 256 23 (mset 0 256 mem p_1.2) p_2.2) (256 + j))) X hZ hF [] (q := ("PawnRaceModel", TX12, 50)) rfl rfl rfl kB_X12_thrown kL_L_134 (fun res h => ct_X12_thrown l hZ fu  (fun j => (mset 256 23 (mset 0 256 mem p_1.2) p_2.2) (256 + j)) res h) rfl rfl rfl ⟨Nat.le_of_ble_eq_true rfl, Nat.le_of_ble_eq_true rfl⟩ (Nat.le_of_ble_eq_true rfl) hcap dL_law_1209 1212 rfl (fun x_3 hF => ?_)
  refine w_iload X 1 dL_law_1212 rfl 1214 rfl ?_
  refine w_icmp_eq X hF 1219 1217 dL_law_1214 (by decide) rfl (fun hF => ?_) (fun hF => ?_)
  · refine w_iload X 1 dL_law_1219 rfl 1221 rfl ?_
    refine w_if_ne X hF 1236 1224 dL_law_1221 (by decide) rfl (fun hF => ?_) (fun hF => ?_)
    · refine w_aload_n X 3 dL_law_1224 rfl rfl 1225 rfl ?_
      refine w_iconst X 0 dL_law_1225 rfl 1226 rfl ?_
      refine w_lal X 255 lt279_255 ko_W255 (t0 := 5) rfl vin01 dL_law_1226 1227 rfl ?_
      refine w_iload X 0 dL_law_1227 rfl 1229 rfl ?_
      refine w_i2l X dL_law_1229 1230 rfl ?_
      refine w_lcmp X dL_law_1230 1231 rfl ?_
      refine w_if_eq X hF 1236 1234 dL_law_1231 (by decide) rfl (fun hF => ?_) (fun hF => ?_)
      · refine w_goto X 2582 dL_law_1236 (by decide) ?_
        refine w_keep [2, 3, 4, 5, 6] rfl ?_
        have e9 := o_inj hF
        subst e9
        exact kk
      · refine w_iconst X 0 dL_law_1234 rfl 1235 rfl ?_
        exact no_none hF
    · refine w_goto X 2582 dL_law_1236 (by decide) ?_
      refine w_keep [2, 3, 4, 5, 6] rfl ?_
      have e9 := o_inj hF
      subst e9
      exact kk
  · refine w_iconst X 0 dL_law_1217 rfl 1218 rfl ?_
    exact no_none hF

def K_case_20 (fu : Nat) (a : Nat → Int32) (mem : Mem) : Option Mem := bd (K_L_distance fu (a 1) mem) (fun p_1 => bd (K_X12_distance fu (a 1) (fun j => (mset 0 256 mem p_1.2) (256 + j))) (fun p_2 => bd (K_X12_thrown fu (fun j => (mset 256 23 (mset 0 256 mem p_1.2) p_2.2) (256 + j))) (fun x_3 => (if x_3 = p_1.1 then (if p_1.1 = 0 then (if (lg_cmp (rl (mset 256 23 (mset 256 23 (mset 0 256 mem p_1.2) p_2.2) (fun j => (mset 256 23 (mset 0 256 mem p_1.2) p_2.2) (256 + j))) 255 (Int32.toNatClampNeg 0)) (Int32.toInt64 p_2.1)) = 0 then some (mset 256 23 (mset 256 23 (mset 0 256 mem p_1.2) p_2.2) (fun j => (mset 256 23 (mset 0 256 mem p_1.2) p_2.2) (256 + j))) else none) else some (mset 256 23 (mset 256 23 (mset 0 256 mem p_1.2) p_2.2) (fun j => (mset 256 23 (mset 0 256 mem p_1.2) p_2.2) (256 + j)))) else none))))
set_option maxHeartbeats 4000000 in
set_option maxRecDepth 100000 in
theorem lc_20 (hl : l.stackTraces = false) (hZ : ZOK Z) (hX : ZX Z) {tO : Nat} {sK sV : Nat → Nat} (hO : ZO Z tO sK sV) (fu : Nat) (X : CX D (tyL ca) 279 ad Z p s m args meth c cL_law 7 "PawnRaceLaw" ret) {b L : Nat} {xs a : Nat → Int32} {x4 : Int32} (HX : LX b L xs s (AA 279 ad s.heap.size) x4 a) (hcap : cells + 3 ≤ room_1.cells ∧ slots + 18 ≤ room_1.slots) {mem mem2 : Mem} (hF : K_case_20 fu a mem = some mem2) (kk : WW D 279 ad (cW ca ad) p l e room_1 s m args below meth c 7 (cells + 3) (slots + 18) Q mem2 2582 [(4, .int x4), (3, .ref (ad 255)), (2, .ref (ad 256)), (1, .ref (ad 0)), (0, .ref b)] []) : WW D 279 ad (cW ca ad) p l e room_1 s m args below meth c 7 cells slots Q mem 1239 [(4, .int x4), (3, .ref (ad 255)), (2, .ref (ad 256)), (1, .ref (ad 0)), (0, .ref b)] [] := by
  have hcap0 : cells ≤ room_1.cells ∧ slots ≤ room_1.slots := ⟨Nat.le_trans (Nat.le_add_right _ 3) hcap.1, Nat.le_trans (Nat.le_add_right _ 18) hcap.2⟩
  obtain ⟨hx, hbl, hbA, h1, h2, h3, h4, h5⟩ := HX
  rw [K_case_20] at hF
  refine w_aload_n X 3 dL_law_1239 rfl rfl 1240 rfl ?_
  refine w_aload_n X 4 dL_law_1240 rfl rfl 1241 rfl ?_
  refine w_iload X 0 dL_law_1241 rfl 1243 rfl ?_
  refine w_iconst X 1 dL_law_1243 rfl 1244 rfl ?_
  refine w_iadd X dL_law_1244 1245 rfl ?_
  refine w_sld X hx hbl hbA h1.1 (a 1) h1.2 dL_law_1245 1246 rfl ?_
  refine w_aload_n X 1 dL_law_1246 rfl rfl 1247 rfl ?_
  refine w_wcall X hZ hF [.ref (ad 0), .int (a 1), .ref (ad 255)] rfl kB_L_distance kL_L_207 (fun res h => ct_L_distance l hl hZ hX hO fu (a 1) mem res h) rfl rfl rfl ⟨Nat.le_of_ble_eq_true rfl, Nat.le_of_ble_eq_true rfl⟩ (Nat.le_of_ble_eq_true rfl) hcap dL_law_1247 1250 rfl (fun p_1 hF => ?_)
  refine w_istore X [(5, .int p_1.1), (4, .int x4), (3, .ref (ad 255)), (2, .ref (ad 256)), (1, .ref (ad 0)), (0, .ref b)] dL_law_1250 (by decide) rfl 1252 rfl ?_
  refine w_aload_n X 3 dL_law_1252 rfl rfl 1253 rfl ?_
  refine w_aload_n X 5 dL_law_1253 rfl rfl 1254 rfl ?_
  refine w_iload X 1 dL_law_1254 rfl 1256 rfl ?_
  refine w_iconst X 1 dL_law_1256 rfl 1257 rfl ?_
  refine w_iadd X dL_law_1257 1258 rfl ?_
  refine w_sld X hx hbl hbA h1.1 (a 1) h1.2 dL_law_1258 1259 rfl ?_
  refine w_mcall (fun x => x.1) (fun x => x.2) X hZ hF [.int (a 1)] (q := ("PawnRaceModel", TX12, 50)) rfl rfl rfl kB_X12_distance kL_L_209 (fun res h => ct_X12_distance l hZ fu (a 1) (fun j => (mset 0 256 mem p_1.2) (256 + j)) res h) rfl rfl rfl ⟨Nat.le_of_ble_eq_true rfl, Nat.le_of_ble_eq_true rfl⟩ (Nat.le_of_ble_eq_true rfl) hcap dL_law_1259 1262 rfl (fun p_2 hF => ?_)
  refine w_istore X [(6, .int p_2.1), (5, .int p_1.1), (4, .int x4), (3, .ref (ad 255)), (2, .ref (ad 256)), (1, .ref (ad 0)), (0, .ref b)] dL_law_1262 (by decide) rfl 1264 rfl ?_
  refine w_aload_n X 4 dL_law_1264 rfl rfl 1265 rfl ?_
  refine w_mcall (fun x => x) (fun _ => (fun j => (mset 256 23 (mset 0 256 mem p_1.2) p_2.2) (256 + j))) X hZ hF [] (q := ("PawnRaceModel", TX12, 50)) rfl rfl rfl kB_X12_thrown kL_L_134 (fun res h => ct_X12_thrown l hZ fu  (fun j => (mset 256 23 (mset 0 256 mem p_1.2) p_2.2) (256 + j)) res h) rfl rfl rfl ⟨Nat.le_of_ble_eq_true rfl, Nat.le_of_ble_eq_true rfl⟩ (Nat.le_of_ble_eq_true rfl) hcap dL_law_1265 1268 rfl (fun x_3 hF => ?_)
  refine w_iload X 1 dL_law_1268 rfl 1270 rfl ?_
  refine w_icmp_eq X hF 1275 1273 dL_law_1270 (by decide) rfl (fun hF => ?_) (fun hF => ?_)
  · refine w_iload X 1 dL_law_1275 rfl 1277 rfl ?_
    refine w_if_ne X hF 1292 1280 dL_law_1277 (by decide) rfl (fun hF => ?_) (fun hF => ?_)
    · refine w_aload_n X 3 dL_law_1280 rfl rfl 1281 rfl ?_
      refine w_iconst X 0 dL_law_1281 rfl 1282 rfl ?_
      refine w_lal X 255 lt279_255 ko_W255 (t0 := 5) rfl vin01 dL_law_1282 1283 rfl ?_
      refine w_iload X 0 dL_law_1283 rfl 1285 rfl ?_
      refine w_i2l X dL_law_1285 1286 rfl ?_
      refine w_lcmp X dL_law_1286 1287 rfl ?_
      refine w_if_eq X hF 1292 1290 dL_law_1287 (by decide) rfl (fun hF => ?_) (fun hF => ?_)
      · refine w_goto X 2582 dL_law_1292 (by decide) ?_
        refine w_keep [2, 3, 4, 5, 6] rfl ?_
        have e9 := o_inj hF
        subst e9
        exact kk
      · refine w_iconst X 0 dL_law_1290 rfl 1291 rfl ?_
        exact no_none hF
    · refine w_goto X 2582 dL_law_1292 (by decide) ?_
      refine w_keep [2, 3, 4, 5, 6] rfl ?_
      have e9 := o_inj hF
      subst e9
      exact kk
  · refine w_iconst X 0 dL_law_1273 rfl 1274 rfl ?_
    exact no_none hF

def K_case_21 (fu : Nat) (a : Nat → Int32) (mem : Mem) : Option Mem := bd (K_L_distanceFrom fu (a 1) (a 2) (a 3) mem) (fun p_1 => bd (K_X12_distanceFrom fu (a 1) (a 2) (a 3) (fun j => (mset 0 256 mem p_1.2) (256 + j))) (fun p_2 => bd (K_X12_thrown fu (fun j => (mset 256 23 (mset 0 256 mem p_1.2) p_2.2) (256 + j))) (fun x_3 => (if x_3 = p_1.1 then (if p_1.1 = 0 then (if (lg_cmp (rl (mset 256 23 (mset 256 23 (mset 0 256 mem p_1.2) p_2.2) (fun j => (mset 256 23 (mset 0 256 mem p_1.2) p_2.2) (256 + j))) 255 (Int32.toNatClampNeg 0)) (Int32.toInt64 p_2.1)) = 0 then some (mset 256 23 (mset 256 23 (mset 0 256 mem p_1.2) p_2.2) (fun j => (mset 256 23 (mset 0 256 mem p_1.2) p_2.2) (256 + j))) else none) else some (mset 256 23 (mset 256 23 (mset 0 256 mem p_1.2) p_2.2) (fun j => (mset 256 23 (mset 0 256 mem p_1.2) p_2.2) (256 + j)))) else none))))
set_option maxHeartbeats 4000000 in
set_option maxRecDepth 100000 in
theorem lc_21 (hl : l.stackTraces = false) (hZ : ZOK Z) (hX : ZX Z) {tO : Nat} {sK sV : Nat → Nat} (hO : ZO Z tO sK sV) (fu : Nat) (X : CX D (tyL ca) 279 ad Z p s m args meth c cL_law 7 "PawnRaceLaw" ret) {b L : Nat} {xs a : Nat → Int32} {x4 : Int32} (HX : LX b L xs s (AA 279 ad s.heap.size) x4 a) (hcap : cells + 3 ≤ room_1.cells ∧ slots + 18 ≤ room_1.slots) {mem mem2 : Mem} (hF : K_case_21 fu a mem = some mem2) (kk : WW D 279 ad (cW ca ad) p l e room_1 s m args below meth c 7 (cells + 3) (slots + 18) Q mem2 2582 [(4, .int x4), (3, .ref (ad 255)), (2, .ref (ad 256)), (1, .ref (ad 0)), (0, .ref b)] []) : WW D 279 ad (cW ca ad) p l e room_1 s m args below meth c 7 cells slots Q mem 1295 [(4, .int x4), (3, .ref (ad 255)), (2, .ref (ad 256)), (1, .ref (ad 0)), (0, .ref b)] [] := by
  have hcap0 : cells ≤ room_1.cells ∧ slots ≤ room_1.slots := ⟨Nat.le_trans (Nat.le_add_right _ 3) hcap.1, Nat.le_trans (Nat.le_add_right _ 18) hcap.2⟩
  obtain ⟨hx, hbl, hbA, h1, h2, h3, h4, h5⟩ := HX
  rw [K_case_21] at hF
  refine w_aload_n X 3 dL_law_1295 rfl rfl 1296 rfl ?_
  refine w_aload_n X 4 dL_law_1296 rfl rfl 1297 rfl ?_
  refine w_iload X 0 dL_law_1297 rfl 1299 rfl ?_
  refine w_iconst X 1 dL_law_1299 rfl 1300 rfl ?_
  refine w_iadd X dL_law_1300 1301 rfl ?_
  refine w_sld X hx hbl hbA h1.1 (a 1) h1.2 dL_law_1301 1302 rfl ?_
  refine w_aload_n X 4 dL_law_1302 rfl rfl 1303 rfl ?_
  refine w_iload X 0 dL_law_1303 rfl 1305 rfl ?_
  refine w_iconst X 2 dL_law_1305 rfl 1306 rfl ?_
  refine w_iadd X dL_law_1306 1307 rfl ?_
  refine w_sld X hx hbl hbA h2.1 (a 2) h2.2 dL_law_1307 1308 rfl ?_
  refine w_aload_n X 4 dL_law_1308 rfl rfl 1309 rfl ?_
  refine w_iload X 0 dL_law_1309 rfl 1311 rfl ?_
  refine w_iconst X 3 dL_law_1311 rfl 1312 rfl ?_
  refine w_iadd X dL_law_1312 1313 rfl ?_
  refine w_sld X hx hbl hbA h3.1 (a 3) h3.2 dL_law_1313 1314 rfl ?_
  refine w_aload_n X 1 dL_law_1314 rfl rfl 1315 rfl ?_
  refine w_wcall X hZ hF [.ref (ad 0), .int (a 1), .int (a 2), .int (a 3), .ref (ad 255)] rfl kB_L_distanceFrom kL_L_210 (fun res h => ct_L_distanceFrom l hl hZ hX hO fu (a 1) (a 2) (a 3) mem res h) rfl rfl rfl ⟨Nat.le_of_ble_eq_true rfl, Nat.le_of_ble_eq_true rfl⟩ (Nat.le_of_ble_eq_true rfl) hcap dL_law_1315 1318 rfl (fun p_1 hF => ?_)
  refine w_istore X [(5, .int p_1.1), (4, .int x4), (3, .ref (ad 255)), (2, .ref (ad 256)), (1, .ref (ad 0)), (0, .ref b)] dL_law_1318 (by decide) rfl 1320 rfl ?_
  refine w_aload_n X 3 dL_law_1320 rfl rfl 1321 rfl ?_
  refine w_aload_n X 5 dL_law_1321 rfl rfl 1322 rfl ?_
  refine w_iload X 1 dL_law_1322 rfl 1324 rfl ?_
  refine w_iconst X 1 dL_law_1324 rfl 1325 rfl ?_
  refine w_iadd X dL_law_1325 1326 rfl ?_
  refine w_sld X hx hbl hbA h1.1 (a 1) h1.2 dL_law_1326 1327 rfl ?_
  refine w_aload_n X 5 dL_law_1327 rfl rfl 1328 rfl ?_
  refine w_iload X 1 dL_law_1328 rfl 1330 rfl ?_
  refine w_iconst X 2 dL_law_1330 rfl 1331 rfl ?_
  refine w_iadd X dL_law_1331 1332 rfl ?_
  refine w_sld X hx hbl hbA h2.1 (a 2) h2.2 dL_law_1332 1333 rfl ?_
  refine w_aload_n X 5 dL_law_1333 rfl rfl 1334 rfl ?_
  refine w_iload X 1 dL_law_1334 rfl 1336 rfl ?_
  refine w_iconst X 3 dL_law_1336 rfl 1337 rfl ?_
  refine w_iadd X dL_law_1337 1338 rfl ?_
  refine w_sld X hx hbl hbA h3.1 (a 3) h3.2 dL_law_1338 1339 rfl ?_
  refine w_mcall (fun x => x.1) (fun x => x.2) X hZ hF [.int (a 1), .int (a 2), .int (a 3)] (q := ("PawnRaceModel", TX12, 50)) rfl rfl rfl kB_X12_distanceFrom kL_L_212 (fun res h => ct_X12_distanceFrom l hZ fu (a 1) (a 2) (a 3) (fun j => (mset 0 256 mem p_1.2) (256 + j)) res h) rfl rfl rfl ⟨Nat.le_of_ble_eq_true rfl, Nat.le_of_ble_eq_true rfl⟩ (Nat.le_of_ble_eq_true rfl) hcap dL_law_1339 1342 rfl (fun p_2 hF => ?_)
  refine w_istore X [(6, .int p_2.1), (5, .int p_1.1), (4, .int x4), (3, .ref (ad 255)), (2, .ref (ad 256)), (1, .ref (ad 0)), (0, .ref b)] dL_law_1342 (by decide) rfl 1344 rfl ?_
  refine w_aload_n X 4 dL_law_1344 rfl rfl 1345 rfl ?_
  refine w_mcall (fun x => x) (fun _ => (fun j => (mset 256 23 (mset 0 256 mem p_1.2) p_2.2) (256 + j))) X hZ hF [] (q := ("PawnRaceModel", TX12, 50)) rfl rfl rfl kB_X12_thrown kL_L_134 (fun res h => ct_X12_thrown l hZ fu  (fun j => (mset 256 23 (mset 0 256 mem p_1.2) p_2.2) (256 + j)) res h) rfl rfl rfl ⟨Nat.le_of_ble_eq_true rfl, Nat.le_of_ble_eq_true rfl⟩ (Nat.le_of_ble_eq_true rfl) hcap dL_law_1345 1348 rfl (fun x_3 hF => ?_)
  refine w_iload X 1 dL_law_1348 rfl 1350 rfl ?_
  refine w_icmp_eq X hF 1355 1353 dL_law_1350 (by decide) rfl (fun hF => ?_) (fun hF => ?_)
  · refine w_iload X 1 dL_law_1355 rfl 1357 rfl ?_
    refine w_if_ne X hF 1372 1360 dL_law_1357 (by decide) rfl (fun hF => ?_) (fun hF => ?_)
    · refine w_aload_n X 3 dL_law_1360 rfl rfl 1361 rfl ?_
      refine w_iconst X 0 dL_law_1361 rfl 1362 rfl ?_
      refine w_lal X 255 lt279_255 ko_W255 (t0 := 5) rfl vin01 dL_law_1362 1363 rfl ?_
      refine w_iload X 0 dL_law_1363 rfl 1365 rfl ?_
      refine w_i2l X dL_law_1365 1366 rfl ?_
      refine w_lcmp X dL_law_1366 1367 rfl ?_
      refine w_if_eq X hF 1372 1370 dL_law_1367 (by decide) rfl (fun hF => ?_) (fun hF => ?_)
      · refine w_goto X 2582 dL_law_1372 (by decide) ?_
        refine w_keep [2, 3, 4, 5, 6] rfl ?_
        have e9 := o_inj hF
        subst e9
        exact kk
      · refine w_iconst X 0 dL_law_1370 rfl 1371 rfl ?_
        exact no_none hF
    · refine w_goto X 2582 dL_law_1372 (by decide) ?_
      refine w_keep [2, 3, 4, 5, 6] rfl ?_
      have e9 := o_inj hF
      subst e9
      exact kk
  · refine w_iconst X 0 dL_law_1353 rfl 1354 rfl ?_
    exact no_none hF

def K_case_22 (fu : Nat) (a : Nat → Int32) (mem : Mem) : Option Mem := bd (K_L_ways fu (a 1) mem) (fun p_1 => bd (K_X12_ways fu (a 1) (fun j => (mset 0 256 mem p_1.2) (256 + j))) (fun p_2 => bd (K_X12_thrown fu (fun j => (mset 256 23 (mset 0 256 mem p_1.2) p_2.2) (256 + j))) (fun x_3 => (if x_3 = p_1.1 then (if p_1.1 = 0 then (if (lg_cmp (rl (mset 256 23 (mset 256 23 (mset 0 256 mem p_1.2) p_2.2) (fun j => (mset 256 23 (mset 0 256 mem p_1.2) p_2.2) (256 + j))) 255 (Int32.toNatClampNeg 0)) (Int32.toInt64 p_2.1)) = 0 then some (mset 256 23 (mset 256 23 (mset 0 256 mem p_1.2) p_2.2) (fun j => (mset 256 23 (mset 0 256 mem p_1.2) p_2.2) (256 + j))) else none) else some (mset 256 23 (mset 256 23 (mset 0 256 mem p_1.2) p_2.2) (fun j => (mset 256 23 (mset 0 256 mem p_1.2) p_2.2) (256 + j)))) else none))))
set_option maxHeartbeats 4000000 in
set_option maxRecDepth 100000 in
theorem lc_22 (hl : l.stackTraces = false) (hZ : ZOK Z) (hX : ZX Z) {tO : Nat} {sK sV : Nat → Nat} (hO : ZO Z tO sK sV) (fu : Nat) (X : CX D (tyL ca) 279 ad Z p s m args meth c cL_law 7 "PawnRaceLaw" ret) {b L : Nat} {xs a : Nat → Int32} {x4 : Int32} (HX : LX b L xs s (AA 279 ad s.heap.size) x4 a) (hcap : cells + 3 ≤ room_1.cells ∧ slots + 18 ≤ room_1.slots) {mem mem2 : Mem} (hF : K_case_22 fu a mem = some mem2) (kk : WW D 279 ad (cW ca ad) p l e room_1 s m args below meth c 7 (cells + 3) (slots + 18) Q mem2 2582 [(4, .int x4), (3, .ref (ad 255)), (2, .ref (ad 256)), (1, .ref (ad 0)), (0, .ref b)] []) : WW D 279 ad (cW ca ad) p l e room_1 s m args below meth c 7 cells slots Q mem 1375 [(4, .int x4), (3, .ref (ad 255)), (2, .ref (ad 256)), (1, .ref (ad 0)), (0, .ref b)] [] := by
  have hcap0 : cells ≤ room_1.cells ∧ slots ≤ room_1.slots := ⟨Nat.le_trans (Nat.le_add_right _ 3) hcap.1, Nat.le_trans (Nat.le_add_right _ 18) hcap.2⟩
  obtain ⟨hx, hbl, hbA, h1, h2, h3, h4, h5⟩ := HX
  rw [K_case_22] at hF
  refine w_aload_n X 3 dL_law_1375 rfl rfl 1376 rfl ?_
  refine w_aload_n X 4 dL_law_1376 rfl rfl 1377 rfl ?_
  refine w_iload X 0 dL_law_1377 rfl 1379 rfl ?_
  refine w_iconst X 1 dL_law_1379 rfl 1380 rfl ?_
  refine w_iadd X dL_law_1380 1381 rfl ?_
  refine w_sld X hx hbl hbA h1.1 (a 1) h1.2 dL_law_1381 1382 rfl ?_
  refine w_aload_n X 1 dL_law_1382 rfl rfl 1383 rfl ?_
  refine w_wcall X hZ hF [.ref (ad 0), .int (a 1), .ref (ad 255)] rfl kB_L_ways kL_L_213 (fun res h => ct_L_ways l hl hZ hX hO fu (a 1) mem res h) rfl rfl rfl ⟨Nat.le_of_ble_eq_true rfl, Nat.le_of_ble_eq_true rfl⟩ (Nat.le_of_ble_eq_true rfl) hcap dL_law_1383 1386 rfl (fun p_1 hF => ?_)
  refine w_istore X [(5, .int p_1.1), (4, .int x4), (3, .ref (ad 255)), (2, .ref (ad 256)), (1, .ref (ad 0)), (0, .ref b)] dL_law_1386 (by decide) rfl 1388 rfl ?_
  refine w_aload_n X 3 dL_law_1388 rfl rfl 1389 rfl ?_
  refine w_aload_n X 5 dL_law_1389 rfl rfl 1390 rfl ?_
  refine w_iload X 1 dL_law_1390 rfl 1392 rfl ?_
  refine w_iconst X 1 dL_law_1392 rfl 1393 rfl ?_
  refine w_iadd X dL_law_1393 1394 rfl ?_
  refine w_sld X hx hbl hbA h1.1 (a 1) h1.2 dL_law_1394 1395 rfl ?_
  refine w_mcall (fun x => x.1) (fun x => x.2) X hZ hF [.int (a 1)] (q := ("PawnRaceModel", TX12, 50)) rfl rfl rfl kB_X12_ways kL_L_215 (fun res h => ct_X12_ways l hZ fu (a 1) (fun j => (mset 0 256 mem p_1.2) (256 + j)) res h) rfl rfl rfl ⟨Nat.le_of_ble_eq_true rfl, Nat.le_of_ble_eq_true rfl⟩ (Nat.le_of_ble_eq_true rfl) hcap dL_law_1395 1398 rfl (fun p_2 hF => ?_)
  refine w_istore X [(6, .int p_2.1), (5, .int p_1.1), (4, .int x4), (3, .ref (ad 255)), (2, .ref (ad 256)), (1, .ref (ad 0)), (0, .ref b)] dL_law_1398 (by decide) rfl 1400 rfl ?_
  refine w_aload_n X 4 dL_law_1400 rfl rfl 1401 rfl ?_
  refine w_mcall (fun x => x) (fun _ => (fun j => (mset 256 23 (mset 0 256 mem p_1.2) p_2.2) (256 + j))) X hZ hF [] (q := ("PawnRaceModel", TX12, 50)) rfl rfl rfl kB_X12_thrown kL_L_134 (fun res h => ct_X12_thrown l hZ fu  (fun j => (mset 256 23 (mset 0 256 mem p_1.2) p_2.2) (256 + j)) res h) rfl rfl rfl ⟨Nat.le_of_ble_eq_true rfl, Nat.le_of_ble_eq_true rfl⟩ (Nat.le_of_ble_eq_true rfl) hcap dL_law_1401 1404 rfl (fun x_3 hF => ?_)
  refine w_iload X 1 dL_law_1404 rfl 1406 rfl ?_
  refine w_icmp_eq X hF 1411 1409 dL_law_1406 (by decide) rfl (fun hF => ?_) (fun hF => ?_)
  · refine w_iload X 1 dL_law_1411 rfl 1413 rfl ?_
    refine w_if_ne X hF 1428 1416 dL_law_1413 (by decide) rfl (fun hF => ?_) (fun hF => ?_)
    · refine w_aload_n X 3 dL_law_1416 rfl rfl 1417 rfl ?_
      refine w_iconst X 0 dL_law_1417 rfl 1418 rfl ?_
      refine w_lal X 255 lt279_255 ko_W255 (t0 := 5) rfl vin01 dL_law_1418 1419 rfl ?_
      refine w_iload X 0 dL_law_1419 rfl 1421 rfl ?_
      refine w_i2l X dL_law_1421 1422 rfl ?_
      refine w_lcmp X dL_law_1422 1423 rfl ?_
      refine w_if_eq X hF 1428 1426 dL_law_1423 (by decide) rfl (fun hF => ?_) (fun hF => ?_)
      · refine w_goto X 2582 dL_law_1428 (by decide) ?_
        refine w_keep [2, 3, 4, 5, 6] rfl ?_
        have e9 := o_inj hF
        subst e9
        exact kk
      · refine w_iconst X 0 dL_law_1426 rfl 1427 rfl ?_
        exact no_none hF
    · refine w_goto X 2582 dL_law_1428 (by decide) ?_
      refine w_keep [2, 3, 4, 5, 6] rfl ?_
      have e9 := o_inj hF
      subst e9
      exact kk
  · refine w_iconst X 0 dL_law_1409 rfl 1410 rfl ?_
    exact no_none hF

def K_case_23 (fu : Nat) (a : Nat → Int32) (mem : Mem) : Option Mem := bd (K_L_onWays fu (a 1) mem) (fun p_1 => bd (K_X12_onWays fu (a 1) (fun j => (mset 0 256 mem p_1.2) (256 + j))) (fun p_2 => bd (K_X12_thrown fu (fun j => (mset 256 23 (mset 0 256 mem p_1.2) p_2.2) (256 + j))) (fun x_3 => (if x_3 = p_1.1 then (if p_1.1 = 0 then (if (lg_cmp (rl (mset 256 23 (mset 256 23 (mset 0 256 mem p_1.2) p_2.2) (fun j => (mset 256 23 (mset 0 256 mem p_1.2) p_2.2) (256 + j))) 255 (Int32.toNatClampNeg 0)) (Int32.toInt64 p_2.1)) = 0 then some (mset 256 23 (mset 256 23 (mset 0 256 mem p_1.2) p_2.2) (fun j => (mset 256 23 (mset 0 256 mem p_1.2) p_2.2) (256 + j))) else none) else some (mset 256 23 (mset 256 23 (mset 0 256 mem p_1.2) p_2.2) (fun j => (mset 256 23 (mset 0 256 mem p_1.2) p_2.2) (256 + j)))) else none))))
set_option maxHeartbeats 4000000 in
set_option maxRecDepth 100000 in
theorem lc_23 (hl : l.stackTraces = false) (hZ : ZOK Z) (hX : ZX Z) {tO : Nat} {sK sV : Nat → Nat} (hO : ZO Z tO sK sV) (fu : Nat) (X : CX D (tyL ca) 279 ad Z p s m args meth c cL_law 7 "PawnRaceLaw" ret) {b L : Nat} {xs a : Nat → Int32} {x4 : Int32} (HX : LX b L xs s (AA 279 ad s.heap.size) x4 a) (hcap : cells + 3 ≤ room_1.cells ∧ slots + 18 ≤ room_1.slots) {mem mem2 : Mem} (hF : K_case_23 fu a mem = some mem2) (kk : WW D 279 ad (cW ca ad) p l e room_1 s m args below meth c 7 (cells + 3) (slots + 18) Q mem2 2582 [(4, .int x4), (3, .ref (ad 255)), (2, .ref (ad 256)), (1, .ref (ad 0)), (0, .ref b)] []) : WW D 279 ad (cW ca ad) p l e room_1 s m args below meth c 7 cells slots Q mem 1431 [(4, .int x4), (3, .ref (ad 255)), (2, .ref (ad 256)), (1, .ref (ad 0)), (0, .ref b)] [] := by
  have hcap0 : cells ≤ room_1.cells ∧ slots ≤ room_1.slots := ⟨Nat.le_trans (Nat.le_add_right _ 3) hcap.1, Nat.le_trans (Nat.le_add_right _ 18) hcap.2⟩
  obtain ⟨hx, hbl, hbA, h1, h2, h3, h4, h5⟩ := HX
  rw [K_case_23] at hF
  refine w_aload_n X 3 dL_law_1431 rfl rfl 1432 rfl ?_
  refine w_aload_n X 4 dL_law_1432 rfl rfl 1433 rfl ?_
  refine w_iload X 0 dL_law_1433 rfl 1435 rfl ?_
  refine w_iconst X 1 dL_law_1435 rfl 1436 rfl ?_
  refine w_iadd X dL_law_1436 1437 rfl ?_
  refine w_sld X hx hbl hbA h1.1 (a 1) h1.2 dL_law_1437 1438 rfl ?_
  refine w_aload_n X 1 dL_law_1438 rfl rfl 1439 rfl ?_
  refine w_wcall X hZ hF [.ref (ad 0), .int (a 1), .ref (ad 255)] rfl kB_L_onWays kL_L_216 (fun res h => ct_L_onWays l hl hZ hX hO fu (a 1) mem res h) rfl rfl rfl ⟨Nat.le_of_ble_eq_true rfl, Nat.le_of_ble_eq_true rfl⟩ (Nat.le_of_ble_eq_true rfl) hcap dL_law_1439 1442 rfl (fun p_1 hF => ?_)
  refine w_istore X [(5, .int p_1.1), (4, .int x4), (3, .ref (ad 255)), (2, .ref (ad 256)), (1, .ref (ad 0)), (0, .ref b)] dL_law_1442 (by decide) rfl 1444 rfl ?_
  refine w_aload_n X 3 dL_law_1444 rfl rfl 1445 rfl ?_
  refine w_aload_n X 5 dL_law_1445 rfl rfl 1446 rfl ?_
  refine w_iload X 1 dL_law_1446 rfl 1448 rfl ?_
  refine w_iconst X 1 dL_law_1448 rfl 1449 rfl ?_
  refine w_iadd X dL_law_1449 1450 rfl ?_
  refine w_sld X hx hbl hbA h1.1 (a 1) h1.2 dL_law_1450 1451 rfl ?_
  refine w_mcall (fun x => x.1) (fun x => x.2) X hZ hF [.int (a 1)] (q := ("PawnRaceModel", TX12, 50)) rfl rfl rfl kB_X12_onWays kL_L_218 (fun res h => ct_X12_onWays l hZ fu (a 1) (fun j => (mset 0 256 mem p_1.2) (256 + j)) res h) rfl rfl rfl ⟨Nat.le_of_ble_eq_true rfl, Nat.le_of_ble_eq_true rfl⟩ (Nat.le_of_ble_eq_true rfl) hcap dL_law_1451 1454 rfl (fun p_2 hF => ?_)
  refine w_istore X [(6, .int p_2.1), (5, .int p_1.1), (4, .int x4), (3, .ref (ad 255)), (2, .ref (ad 256)), (1, .ref (ad 0)), (0, .ref b)] dL_law_1454 (by decide) rfl 1456 rfl ?_
  refine w_aload_n X 4 dL_law_1456 rfl rfl 1457 rfl ?_
  refine w_mcall (fun x => x) (fun _ => (fun j => (mset 256 23 (mset 0 256 mem p_1.2) p_2.2) (256 + j))) X hZ hF [] (q := ("PawnRaceModel", TX12, 50)) rfl rfl rfl kB_X12_thrown kL_L_134 (fun res h => ct_X12_thrown l hZ fu  (fun j => (mset 256 23 (mset 0 256 mem p_1.2) p_2.2) (256 + j)) res h) rfl rfl rfl ⟨Nat.le_of_ble_eq_true rfl, Nat.le_of_ble_eq_true rfl⟩ (Nat.le_of_ble_eq_true rfl) hcap dL_law_1457 1460 rfl (fun x_3 hF => ?_)
  refine w_iload X 1 dL_law_1460 rfl 1462 rfl ?_
  refine w_icmp_eq X hF 1467 1465 dL_law_1462 (by decide) rfl (fun hF => ?_) (fun hF => ?_)
  · refine w_iload X 1 dL_law_1467 rfl 1469 rfl ?_
    refine w_if_ne X hF 1484 1472 dL_law_1469 (by decide) rfl (fun hF => ?_) (fun hF => ?_)
    · refine w_aload_n X 3 dL_law_1472 rfl rfl 1473 rfl ?_
      refine w_iconst X 0 dL_law_1473 rfl 1474 rfl ?_
      refine w_lal X 255 lt279_255 ko_W255 (t0 := 5) rfl vin01 dL_law_1474 1475 rfl ?_
      refine w_iload X 0 dL_law_1475 rfl 1477 rfl ?_
      refine w_i2l X dL_law_1477 1478 rfl ?_
      refine w_lcmp X dL_law_1478 1479 rfl ?_
      refine w_if_eq X hF 1484 1482 dL_law_1479 (by decide) rfl (fun hF => ?_) (fun hF => ?_)
      · refine w_goto X 2582 dL_law_1484 (by decide) ?_
        refine w_keep [2, 3, 4, 5, 6] rfl ?_
        have e9 := o_inj hF
        subst e9
        exact kk
      · refine w_iconst X 0 dL_law_1482 rfl 1483 rfl ?_
        exact no_none hF
    · refine w_goto X 2582 dL_law_1484 (by decide) ?_
      refine w_keep [2, 3, 4, 5, 6] rfl ?_
      have e9 := o_inj hF
      subst e9
      exact kk
  · refine w_iconst X 0 dL_law_1465 rfl 1466 rfl ?_
    exact no_none hF

def K_case_24 (fu : Nat) (a : Nat → Int32) (mem : Mem) : Option Mem := bd (K_L_gates fu (a 1) mem) (fun p_1 => bd (K_X12_gates fu (a 1) (fun j => (mset 0 256 mem p_1.2) (256 + j))) (fun p_2 => bd (K_X12_thrown fu (fun j => (mset 256 23 (mset 0 256 mem p_1.2) p_2.2) (256 + j))) (fun x_3 => (if x_3 = p_1.1 then (if p_1.1 = 0 then (if (lg_cmp (rl (mset 256 23 (mset 256 23 (mset 0 256 mem p_1.2) p_2.2) (fun j => (mset 256 23 (mset 0 256 mem p_1.2) p_2.2) (256 + j))) 255 (Int32.toNatClampNeg 0)) (Int32.toInt64 p_2.1)) = 0 then some (mset 256 23 (mset 256 23 (mset 0 256 mem p_1.2) p_2.2) (fun j => (mset 256 23 (mset 0 256 mem p_1.2) p_2.2) (256 + j))) else none) else some (mset 256 23 (mset 256 23 (mset 0 256 mem p_1.2) p_2.2) (fun j => (mset 256 23 (mset 0 256 mem p_1.2) p_2.2) (256 + j)))) else none))))
set_option maxHeartbeats 4000000 in
set_option maxRecDepth 100000 in
theorem lc_24 (hl : l.stackTraces = false) (hZ : ZOK Z) (hX : ZX Z) {tO : Nat} {sK sV : Nat → Nat} (hO : ZO Z tO sK sV) (fu : Nat) (X : CX D (tyL ca) 279 ad Z p s m args meth c cL_law 7 "PawnRaceLaw" ret) {b L : Nat} {xs a : Nat → Int32} {x4 : Int32} (HX : LX b L xs s (AA 279 ad s.heap.size) x4 a) (hcap : cells + 3 ≤ room_1.cells ∧ slots + 18 ≤ room_1.slots) {mem mem2 : Mem} (hF : K_case_24 fu a mem = some mem2) (kk : WW D 279 ad (cW ca ad) p l e room_1 s m args below meth c 7 (cells + 3) (slots + 18) Q mem2 2582 [(4, .int x4), (3, .ref (ad 255)), (2, .ref (ad 256)), (1, .ref (ad 0)), (0, .ref b)] []) : WW D 279 ad (cW ca ad) p l e room_1 s m args below meth c 7 cells slots Q mem 1487 [(4, .int x4), (3, .ref (ad 255)), (2, .ref (ad 256)), (1, .ref (ad 0)), (0, .ref b)] [] := by
  have hcap0 : cells ≤ room_1.cells ∧ slots ≤ room_1.slots := ⟨Nat.le_trans (Nat.le_add_right _ 3) hcap.1, Nat.le_trans (Nat.le_add_right _ 18) hcap.2⟩
  obtain ⟨hx, hbl, hbA, h1, h2, h3, h4, h5⟩ := HX
  rw [K_case_24] at hF
  refine w_aload_n X 3 dL_law_1487 rfl rfl 1488 rfl ?_
  refine w_aload_n X 4 dL_law_1488 rfl rfl 1489 rfl ?_
  refine w_iload X 0 dL_law_1489 rfl 1491 rfl ?_
  refine w_iconst X 1 dL_law_1491 rfl 1492 rfl ?_
  refine w_iadd X dL_law_1492 1493 rfl ?_
  refine w_sld X hx hbl hbA h1.1 (a 1) h1.2 dL_law_1493 1494 rfl ?_
  refine w_aload_n X 1 dL_law_1494 rfl rfl 1495 rfl ?_
  refine w_wcall X hZ hF [.ref (ad 0), .int (a 1), .ref (ad 255)] rfl kB_L_gates kL_L_219 (fun res h => ct_L_gates l hl hZ hX hO fu (a 1) mem res h) rfl rfl rfl ⟨Nat.le_of_ble_eq_true rfl, Nat.le_of_ble_eq_true rfl⟩ (Nat.le_of_ble_eq_true rfl) hcap dL_law_1495 1498 rfl (fun p_1 hF => ?_)
  refine w_istore X [(5, .int p_1.1), (4, .int x4), (3, .ref (ad 255)), (2, .ref (ad 256)), (1, .ref (ad 0)), (0, .ref b)] dL_law_1498 (by decide) rfl 1500 rfl ?_
  refine w_aload_n X 3 dL_law_1500 rfl rfl 1501 rfl ?_
  refine w_aload_n X 5 dL_law_1501 rfl rfl 1502 rfl ?_
  refine w_iload X 1 dL_law_1502 rfl 1504 rfl ?_
  refine w_iconst X 1 dL_law_1504 rfl 1505 rfl ?_
  refine w_iadd X dL_law_1505 1506 rfl ?_
  refine w_sld X hx hbl hbA h1.1 (a 1) h1.2 dL_law_1506 1507 rfl ?_
  refine w_mcall (fun x => x.1) (fun x => x.2) X hZ hF [.int (a 1)] (q := ("PawnRaceModel", TX12, 50)) rfl rfl rfl kB_X12_gates kL_L_221 (fun res h => ct_X12_gates l hZ fu (a 1) (fun j => (mset 0 256 mem p_1.2) (256 + j)) res h) rfl rfl rfl ⟨Nat.le_of_ble_eq_true rfl, Nat.le_of_ble_eq_true rfl⟩ (Nat.le_of_ble_eq_true rfl) hcap dL_law_1507 1510 rfl (fun p_2 hF => ?_)
  refine w_istore X [(6, .int p_2.1), (5, .int p_1.1), (4, .int x4), (3, .ref (ad 255)), (2, .ref (ad 256)), (1, .ref (ad 0)), (0, .ref b)] dL_law_1510 (by decide) rfl 1512 rfl ?_
  refine w_aload_n X 4 dL_law_1512 rfl rfl 1513 rfl ?_
  refine w_mcall (fun x => x) (fun _ => (fun j => (mset 256 23 (mset 0 256 mem p_1.2) p_2.2) (256 + j))) X hZ hF [] (q := ("PawnRaceModel", TX12, 50)) rfl rfl rfl kB_X12_thrown kL_L_134 (fun res h => ct_X12_thrown l hZ fu  (fun j => (mset 256 23 (mset 0 256 mem p_1.2) p_2.2) (256 + j)) res h) rfl rfl rfl ⟨Nat.le_of_ble_eq_true rfl, Nat.le_of_ble_eq_true rfl⟩ (Nat.le_of_ble_eq_true rfl) hcap dL_law_1513 1516 rfl (fun x_3 hF => ?_)
  refine w_iload X 1 dL_law_1516 rfl 1518 rfl ?_
  refine w_icmp_eq X hF 1523 1521 dL_law_1518 (by decide) rfl (fun hF => ?_) (fun hF => ?_)
  · refine w_iload X 1 dL_law_1523 rfl 1525 rfl ?_
    refine w_if_ne X hF 1540 1528 dL_law_1525 (by decide) rfl (fun hF => ?_) (fun hF => ?_)
    · refine w_aload_n X 3 dL_law_1528 rfl rfl 1529 rfl ?_
      refine w_iconst X 0 dL_law_1529 rfl 1530 rfl ?_
      refine w_lal X 255 lt279_255 ko_W255 (t0 := 5) rfl vin01 dL_law_1530 1531 rfl ?_
      refine w_iload X 0 dL_law_1531 rfl 1533 rfl ?_
      refine w_i2l X dL_law_1533 1534 rfl ?_
      refine w_lcmp X dL_law_1534 1535 rfl ?_
      refine w_if_eq X hF 1540 1538 dL_law_1535 (by decide) rfl (fun hF => ?_) (fun hF => ?_)
      · refine w_goto X 2582 dL_law_1540 (by decide) ?_
        refine w_keep [2, 3, 4, 5, 6] rfl ?_
        have e9 := o_inj hF
        subst e9
        exact kk
      · refine w_iconst X 0 dL_law_1538 rfl 1539 rfl ?_
        exact no_none hF
    · refine w_goto X 2582 dL_law_1540 (by decide) ?_
      refine w_keep [2, 3, 4, 5, 6] rfl ?_
      have e9 := o_inj hF
      subst e9
      exact kk
  · refine w_iconst X 0 dL_law_1521 rfl 1522 rfl ?_
    exact no_none hF

def K_case_25 (fu : Nat) (a : Nat → Int32) (mem : Mem) : Option Mem := bd (K_L_isGate fu (a 1) (a 2) (a 3) mem) (fun p_1 => bd (K_X12_isGate fu (a 1) (a 2) (a 3) (fun j => (mset 0 256 mem p_1.2) (256 + j))) (fun p_2 => bd (K_X12_thrown fu (fun j => (mset 256 23 (mset 0 256 mem p_1.2) p_2.2) (256 + j))) (fun x_3 => (if x_3 = p_1.1 then (if p_1.1 = 0 then (if p_2.1 = 0 then (if (lg_cmp (rl (mset 256 23 (mset 256 23 (mset 0 256 mem p_1.2) p_2.2) (fun j => (mset 256 23 (mset 0 256 mem p_1.2) p_2.2) (256 + j))) 255 (Int32.toNatClampNeg 0)) 0) = 0 then some (mset 256 23 (mset 256 23 (mset 0 256 mem p_1.2) p_2.2) (fun j => (mset 256 23 (mset 0 256 mem p_1.2) p_2.2) (256 + j))) else none) else (if (lg_cmp (rl (mset 256 23 (mset 256 23 (mset 0 256 mem p_1.2) p_2.2) (fun j => (mset 256 23 (mset 0 256 mem p_1.2) p_2.2) (256 + j))) 255 (Int32.toNatClampNeg 0)) 1) = 0 then some (mset 256 23 (mset 256 23 (mset 0 256 mem p_1.2) p_2.2) (fun j => (mset 256 23 (mset 0 256 mem p_1.2) p_2.2) (256 + j))) else none)) else some (mset 256 23 (mset 256 23 (mset 0 256 mem p_1.2) p_2.2) (fun j => (mset 256 23 (mset 0 256 mem p_1.2) p_2.2) (256 + j)))) else none))))
set_option maxHeartbeats 4000000 in
set_option maxRecDepth 100000 in
theorem lc_25 (hl : l.stackTraces = false) (hZ : ZOK Z) (hX : ZX Z) {tO : Nat} {sK sV : Nat → Nat} (hO : ZO Z tO sK sV) (fu : Nat) (X : CX D (tyL ca) 279 ad Z p s m args meth c cL_law 7 "PawnRaceLaw" ret) {b L : Nat} {xs a : Nat → Int32} {x4 : Int32} (HX : LX b L xs s (AA 279 ad s.heap.size) x4 a) (hcap : cells + 3 ≤ room_1.cells ∧ slots + 18 ≤ room_1.slots) {mem mem2 : Mem} (hF : K_case_25 fu a mem = some mem2) (kk : WW D 279 ad (cW ca ad) p l e room_1 s m args below meth c 7 (cells + 3) (slots + 18) Q mem2 2582 [(4, .int x4), (3, .ref (ad 255)), (2, .ref (ad 256)), (1, .ref (ad 0)), (0, .ref b)] []) : WW D 279 ad (cW ca ad) p l e room_1 s m args below meth c 7 cells slots Q mem 1543 [(4, .int x4), (3, .ref (ad 255)), (2, .ref (ad 256)), (1, .ref (ad 0)), (0, .ref b)] [] := by
  have hcap0 : cells ≤ room_1.cells ∧ slots ≤ room_1.slots := ⟨Nat.le_trans (Nat.le_add_right _ 3) hcap.1, Nat.le_trans (Nat.le_add_right _ 18) hcap.2⟩
  obtain ⟨hx, hbl, hbA, h1, h2, h3, h4, h5⟩ := HX
  rw [K_case_25] at hF
  refine w_aload_n X 3 dL_law_1543 rfl rfl 1544 rfl ?_
  refine w_aload_n X 4 dL_law_1544 rfl rfl 1545 rfl ?_
  refine w_iload X 0 dL_law_1545 rfl 1547 rfl ?_
  refine w_iconst X 1 dL_law_1547 rfl 1548 rfl ?_
  refine w_iadd X dL_law_1548 1549 rfl ?_
  refine w_sld X hx hbl hbA h1.1 (a 1) h1.2 dL_law_1549 1550 rfl ?_
  refine w_aload_n X 4 dL_law_1550 rfl rfl 1551 rfl ?_
  refine w_iload X 0 dL_law_1551 rfl 1553 rfl ?_
  refine w_iconst X 2 dL_law_1553 rfl 1554 rfl ?_
  refine w_iadd X dL_law_1554 1555 rfl ?_
  refine w_sld X hx hbl hbA h2.1 (a 2) h2.2 dL_law_1555 1556 rfl ?_
  refine w_aload_n X 4 dL_law_1556 rfl rfl 1557 rfl ?_
  refine w_iload X 0 dL_law_1557 rfl 1559 rfl ?_
  refine w_iconst X 3 dL_law_1559 rfl 1560 rfl ?_
  refine w_iadd X dL_law_1560 1561 rfl ?_
  refine w_sld X hx hbl hbA h3.1 (a 3) h3.2 dL_law_1561 1562 rfl ?_
  refine w_aload_n X 1 dL_law_1562 rfl rfl 1563 rfl ?_
  refine w_wcall X hZ hF [.ref (ad 0), .int (a 1), .int (a 2), .int (a 3), .ref (ad 255)] rfl kB_L_isGate kL_L_222 (fun res h => ct_L_isGate l hl hZ hX hO fu (a 1) (a 2) (a 3) mem res h) rfl rfl rfl ⟨Nat.le_of_ble_eq_true rfl, Nat.le_of_ble_eq_true rfl⟩ (Nat.le_of_ble_eq_true rfl) hcap dL_law_1563 1566 rfl (fun p_1 hF => ?_)
  refine w_istore X [(5, .int p_1.1), (4, .int x4), (3, .ref (ad 255)), (2, .ref (ad 256)), (1, .ref (ad 0)), (0, .ref b)] dL_law_1566 (by decide) rfl 1568 rfl ?_
  refine w_aload_n X 3 dL_law_1568 rfl rfl 1569 rfl ?_
  refine w_aload_n X 5 dL_law_1569 rfl rfl 1570 rfl ?_
  refine w_iload X 1 dL_law_1570 rfl 1572 rfl ?_
  refine w_iconst X 1 dL_law_1572 rfl 1573 rfl ?_
  refine w_iadd X dL_law_1573 1574 rfl ?_
  refine w_sld X hx hbl hbA h1.1 (a 1) h1.2 dL_law_1574 1575 rfl ?_
  refine w_aload_n X 5 dL_law_1575 rfl rfl 1576 rfl ?_
  refine w_iload X 1 dL_law_1576 rfl 1578 rfl ?_
  refine w_iconst X 2 dL_law_1578 rfl 1579 rfl ?_
  refine w_iadd X dL_law_1579 1580 rfl ?_
  refine w_sld X hx hbl hbA h2.1 (a 2) h2.2 dL_law_1580 1581 rfl ?_
  refine w_aload_n X 5 dL_law_1581 rfl rfl 1582 rfl ?_
  refine w_iload X 1 dL_law_1582 rfl 1584 rfl ?_
  refine w_iconst X 3 dL_law_1584 rfl 1585 rfl ?_
  refine w_iadd X dL_law_1585 1586 rfl ?_
  refine w_sld X hx hbl hbA h3.1 (a 3) h3.2 dL_law_1586 1587 rfl ?_
  refine w_mcall (fun x => x.1) (fun x => x.2) X hZ hF [.int (a 1), .int (a 2), .int (a 3)] (q := ("PawnRaceModel", TX12, 50)) rfl rfl rfl kB_X12_isGate kL_L_224 (fun res h => ct_X12_isGate l hZ fu (a 1) (a 2) (a 3) (fun j => (mset 0 256 mem p_1.2) (256 + j)) res h) rfl rfl rfl ⟨Nat.le_of_ble_eq_true rfl, Nat.le_of_ble_eq_true rfl⟩ (Nat.le_of_ble_eq_true rfl) hcap dL_law_1587 1590 rfl (fun p_2 hF => ?_)
  refine w_istore X [(6, .int p_2.1), (5, .int p_1.1), (4, .int x4), (3, .ref (ad 255)), (2, .ref (ad 256)), (1, .ref (ad 0)), (0, .ref b)] dL_law_1590 (by decide) rfl 1592 rfl ?_
  refine w_aload_n X 4 dL_law_1592 rfl rfl 1593 rfl ?_
  refine w_mcall (fun x => x) (fun _ => (fun j => (mset 256 23 (mset 0 256 mem p_1.2) p_2.2) (256 + j))) X hZ hF [] (q := ("PawnRaceModel", TX12, 50)) rfl rfl rfl kB_X12_thrown kL_L_134 (fun res h => ct_X12_thrown l hZ fu  (fun j => (mset 256 23 (mset 0 256 mem p_1.2) p_2.2) (256 + j)) res h) rfl rfl rfl ⟨Nat.le_of_ble_eq_true rfl, Nat.le_of_ble_eq_true rfl⟩ (Nat.le_of_ble_eq_true rfl) hcap dL_law_1593 1596 rfl (fun x_3 hF => ?_)
  refine w_iload X 1 dL_law_1596 rfl 1598 rfl ?_
  refine w_icmp_eq X hF 1603 1601 dL_law_1598 (by decide) rfl (fun hF => ?_) (fun hF => ?_)
  · refine w_iload X 1 dL_law_1603 rfl 1605 rfl ?_
    refine w_if_ne X hF 1627 1608 dL_law_1605 (by decide) rfl (fun hF => ?_) (fun hF => ?_)
    · refine w_aload_n X 3 dL_law_1608 rfl rfl 1609 rfl ?_
      refine w_iconst X 0 dL_law_1609 rfl 1610 rfl ?_
      refine w_lal X 255 lt279_255 ko_W255 (t0 := 5) rfl vin01 dL_law_1610 1611 rfl ?_
      refine w_iload X 0 dL_law_1611 rfl 1613 rfl ?_
      refine w_if_eq X hF 1620 1616 dL_law_1613 (by decide) rfl (fun hF => ?_) (fun hF => ?_)
      · refine w_lconst X 0 dL_law_1620 rfl 1621 rfl ?_
        refine w_lcmp X dL_law_1621 1622 rfl ?_
        refine w_if_eq X hF 1627 1625 dL_law_1622 (by decide) rfl (fun hF => ?_) (fun hF => ?_)
        · refine w_goto X 2582 dL_law_1627 (by decide) ?_
          refine w_keep [2, 3, 4, 5, 6] rfl ?_
          have e9 := o_inj hF
          subst e9
          exact kk
        · refine w_iconst X 0 dL_law_1625 rfl 1626 rfl ?_
          exact no_none hF
      · refine w_lconst X 1 dL_law_1616 rfl 1617 rfl ?_
        refine w_goto X 1621 dL_law_1617 (by decide) ?_
        refine w_lcmp X dL_law_1621 1622 rfl ?_
        refine w_if_eq X hF 1627 1625 dL_law_1622 (by decide) rfl (fun hF => ?_) (fun hF => ?_)
        · refine w_goto X 2582 dL_law_1627 (by decide) ?_
          refine w_keep [2, 3, 4, 5, 6] rfl ?_
          have e9 := o_inj hF
          subst e9
          exact kk
        · refine w_iconst X 0 dL_law_1625 rfl 1626 rfl ?_
          exact no_none hF
    · refine w_goto X 2582 dL_law_1627 (by decide) ?_
      refine w_keep [2, 3, 4, 5, 6] rfl ?_
      have e9 := o_inj hF
      subst e9
      exact kk
  · refine w_iconst X 0 dL_law_1601 rfl 1602 rfl ?_
    exact no_none hF

def K_case_26 (fu : Nat) (a : Nat → Int32) (mem : Mem) : Option Mem := bd (K_L_stepsWithBans fu (a 1) mem) (fun p_1 => bd (K_X12_stepsWithBans fu (a 1) (fun j => (mset 0 256 mem p_1.2) (256 + j))) (fun p_2 => bd (K_X12_thrown fu (fun j => (mset 256 23 (mset 0 256 mem p_1.2) p_2.2) (256 + j))) (fun x_3 => (if x_3 = p_1.1 then (if p_1.1 = 0 then (if (lg_cmp (rl (mset 256 23 (mset 256 23 (mset 0 256 mem p_1.2) p_2.2) (fun j => (mset 256 23 (mset 0 256 mem p_1.2) p_2.2) (256 + j))) 255 (Int32.toNatClampNeg 0)) (Int32.toInt64 p_2.1)) = 0 then some (mset 256 23 (mset 256 23 (mset 0 256 mem p_1.2) p_2.2) (fun j => (mset 256 23 (mset 0 256 mem p_1.2) p_2.2) (256 + j))) else none) else some (mset 256 23 (mset 256 23 (mset 0 256 mem p_1.2) p_2.2) (fun j => (mset 256 23 (mset 0 256 mem p_1.2) p_2.2) (256 + j)))) else none))))
set_option maxHeartbeats 4000000 in
set_option maxRecDepth 100000 in
theorem lc_26 (hl : l.stackTraces = false) (hZ : ZOK Z) (hX : ZX Z) {tO : Nat} {sK sV : Nat → Nat} (hO : ZO Z tO sK sV) (fu : Nat) (X : CX D (tyL ca) 279 ad Z p s m args meth c cL_law 7 "PawnRaceLaw" ret) {b L : Nat} {xs a : Nat → Int32} {x4 : Int32} (HX : LX b L xs s (AA 279 ad s.heap.size) x4 a) (hcap : cells + 3 ≤ room_1.cells ∧ slots + 18 ≤ room_1.slots) {mem mem2 : Mem} (hF : K_case_26 fu a mem = some mem2) (kk : WW D 279 ad (cW ca ad) p l e room_1 s m args below meth c 7 (cells + 3) (slots + 18) Q mem2 2582 [(4, .int x4), (3, .ref (ad 255)), (2, .ref (ad 256)), (1, .ref (ad 0)), (0, .ref b)] []) : WW D 279 ad (cW ca ad) p l e room_1 s m args below meth c 7 cells slots Q mem 1630 [(4, .int x4), (3, .ref (ad 255)), (2, .ref (ad 256)), (1, .ref (ad 0)), (0, .ref b)] [] := by
  have hcap0 : cells ≤ room_1.cells ∧ slots ≤ room_1.slots := ⟨Nat.le_trans (Nat.le_add_right _ 3) hcap.1, Nat.le_trans (Nat.le_add_right _ 18) hcap.2⟩
  obtain ⟨hx, hbl, hbA, h1, h2, h3, h4, h5⟩ := HX
  rw [K_case_26] at hF
  refine w_aload_n X 3 dL_law_1630 rfl rfl 1631 rfl ?_
  refine w_aload_n X 4 dL_law_1631 rfl rfl 1632 rfl ?_
  refine w_iload X 0 dL_law_1632 rfl 1634 rfl ?_
  refine w_iconst X 1 dL_law_1634 rfl 1635 rfl ?_
  refine w_iadd X dL_law_1635 1636 rfl ?_
  refine w_sld X hx hbl hbA h1.1 (a 1) h1.2 dL_law_1636 1637 rfl ?_
  refine w_aload_n X 1 dL_law_1637 rfl rfl 1638 rfl ?_
  refine w_wcall X hZ hF [.ref (ad 0), .int (a 1), .ref (ad 255)] rfl kB_L_stepsWithBans kL_L_225 (fun res h => ct_L_stepsWithBans l hl hZ hX hO fu (a 1) mem res h) rfl rfl rfl ⟨Nat.le_of_ble_eq_true rfl, Nat.le_of_ble_eq_true rfl⟩ (Nat.le_of_ble_eq_true rfl) hcap dL_law_1638 1641 rfl (fun p_1 hF => ?_)
  refine w_istore X [(5, .int p_1.1), (4, .int x4), (3, .ref (ad 255)), (2, .ref (ad 256)), (1, .ref (ad 0)), (0, .ref b)] dL_law_1641 (by decide) rfl 1643 rfl ?_
  refine w_aload_n X 3 dL_law_1643 rfl rfl 1644 rfl ?_
  refine w_aload_n X 5 dL_law_1644 rfl rfl 1645 rfl ?_
  refine w_iload X 1 dL_law_1645 rfl 1647 rfl ?_
  refine w_iconst X 1 dL_law_1647 rfl 1648 rfl ?_
  refine w_iadd X dL_law_1648 1649 rfl ?_
  refine w_sld X hx hbl hbA h1.1 (a 1) h1.2 dL_law_1649 1650 rfl ?_
  refine w_mcall (fun x => x.1) (fun x => x.2) X hZ hF [.int (a 1)] (q := ("PawnRaceModel", TX12, 50)) rfl rfl rfl kB_X12_stepsWithBans kL_L_227 (fun res h => ct_X12_stepsWithBans l hZ fu (a 1) (fun j => (mset 0 256 mem p_1.2) (256 + j)) res h) rfl rfl rfl ⟨Nat.le_of_ble_eq_true rfl, Nat.le_of_ble_eq_true rfl⟩ (Nat.le_of_ble_eq_true rfl) hcap dL_law_1650 1653 rfl (fun p_2 hF => ?_)
  refine w_istore X [(6, .int p_2.1), (5, .int p_1.1), (4, .int x4), (3, .ref (ad 255)), (2, .ref (ad 256)), (1, .ref (ad 0)), (0, .ref b)] dL_law_1653 (by decide) rfl 1655 rfl ?_
  refine w_aload_n X 4 dL_law_1655 rfl rfl 1656 rfl ?_
  refine w_mcall (fun x => x) (fun _ => (fun j => (mset 256 23 (mset 0 256 mem p_1.2) p_2.2) (256 + j))) X hZ hF [] (q := ("PawnRaceModel", TX12, 50)) rfl rfl rfl kB_X12_thrown kL_L_134 (fun res h => ct_X12_thrown l hZ fu  (fun j => (mset 256 23 (mset 0 256 mem p_1.2) p_2.2) (256 + j)) res h) rfl rfl rfl ⟨Nat.le_of_ble_eq_true rfl, Nat.le_of_ble_eq_true rfl⟩ (Nat.le_of_ble_eq_true rfl) hcap dL_law_1656 1659 rfl (fun x_3 hF => ?_)
  refine w_iload X 1 dL_law_1659 rfl 1661 rfl ?_
  refine w_icmp_eq X hF 1666 1664 dL_law_1661 (by decide) rfl (fun hF => ?_) (fun hF => ?_)
  · refine w_iload X 1 dL_law_1666 rfl 1668 rfl ?_
    refine w_if_ne X hF 1683 1671 dL_law_1668 (by decide) rfl (fun hF => ?_) (fun hF => ?_)
    · refine w_aload_n X 3 dL_law_1671 rfl rfl 1672 rfl ?_
      refine w_iconst X 0 dL_law_1672 rfl 1673 rfl ?_
      refine w_lal X 255 lt279_255 ko_W255 (t0 := 5) rfl vin01 dL_law_1673 1674 rfl ?_
      refine w_iload X 0 dL_law_1674 rfl 1676 rfl ?_
      refine w_i2l X dL_law_1676 1677 rfl ?_
      refine w_lcmp X dL_law_1677 1678 rfl ?_
      refine w_if_eq X hF 1683 1681 dL_law_1678 (by decide) rfl (fun hF => ?_) (fun hF => ?_)
      · refine w_goto X 2582 dL_law_1683 (by decide) ?_
        refine w_keep [2, 3, 4, 5, 6] rfl ?_
        have e9 := o_inj hF
        subst e9
        exact kk
      · refine w_iconst X 0 dL_law_1681 rfl 1682 rfl ?_
        exact no_none hF
    · refine w_goto X 2582 dL_law_1683 (by decide) ?_
      refine w_keep [2, 3, 4, 5, 6] rfl ?_
      have e9 := o_inj hF
      subst e9
      exact kk
  · refine w_iconst X 0 dL_law_1664 rfl 1665 rfl ?_
    exact no_none hF

def K_case_27 (fu : Nat) (a : Nat → Int32) (mem : Mem) : Option Mem := bd (K_L_waysWithBans fu (a 1) (a 2) mem) (fun p_1 => bd (K_X12_waysWithBans fu (a 1) (a 2) (fun j => (mset 0 256 mem p_1.2) (256 + j))) (fun p_2 => bd (K_X12_thrown fu (fun j => (mset 256 23 (mset 0 256 mem p_1.2) p_2.2) (256 + j))) (fun x_3 => (if x_3 = p_1.1 then (if p_1.1 = 0 then (if (lg_cmp (rl (mset 256 23 (mset 256 23 (mset 0 256 mem p_1.2) p_2.2) (fun j => (mset 256 23 (mset 0 256 mem p_1.2) p_2.2) (256 + j))) 255 (Int32.toNatClampNeg 0)) (Int32.toInt64 p_2.1)) = 0 then some (mset 256 23 (mset 256 23 (mset 0 256 mem p_1.2) p_2.2) (fun j => (mset 256 23 (mset 0 256 mem p_1.2) p_2.2) (256 + j))) else none) else some (mset 256 23 (mset 256 23 (mset 0 256 mem p_1.2) p_2.2) (fun j => (mset 256 23 (mset 0 256 mem p_1.2) p_2.2) (256 + j)))) else none))))
set_option maxHeartbeats 4000000 in
set_option maxRecDepth 100000 in
theorem lc_27 (hl : l.stackTraces = false) (hZ : ZOK Z) (hX : ZX Z) {tO : Nat} {sK sV : Nat → Nat} (hO : ZO Z tO sK sV) (fu : Nat) (X : CX D (tyL ca) 279 ad Z p s m args meth c cL_law 7 "PawnRaceLaw" ret) {b L : Nat} {xs a : Nat → Int32} {x4 : Int32} (HX : LX b L xs s (AA 279 ad s.heap.size) x4 a) (hcap : cells + 3 ≤ room_1.cells ∧ slots + 18 ≤ room_1.slots) {mem mem2 : Mem} (hF : K_case_27 fu a mem = some mem2) (kk : WW D 279 ad (cW ca ad) p l e room_1 s m args below meth c 7 (cells + 3) (slots + 18) Q mem2 2582 [(4, .int x4), (3, .ref (ad 255)), (2, .ref (ad 256)), (1, .ref (ad 0)), (0, .ref b)] []) : WW D 279 ad (cW ca ad) p l e room_1 s m args below meth c 7 cells slots Q mem 1686 [(4, .int x4), (3, .ref (ad 255)), (2, .ref (ad 256)), (1, .ref (ad 0)), (0, .ref b)] [] := by
  have hcap0 : cells ≤ room_1.cells ∧ slots ≤ room_1.slots := ⟨Nat.le_trans (Nat.le_add_right _ 3) hcap.1, Nat.le_trans (Nat.le_add_right _ 18) hcap.2⟩
  obtain ⟨hx, hbl, hbA, h1, h2, h3, h4, h5⟩ := HX
  rw [K_case_27] at hF
  refine w_aload_n X 3 dL_law_1686 rfl rfl 1687 rfl ?_
  refine w_aload_n X 4 dL_law_1687 rfl rfl 1688 rfl ?_
  refine w_iload X 0 dL_law_1688 rfl 1690 rfl ?_
  refine w_iconst X 1 dL_law_1690 rfl 1691 rfl ?_
  refine w_iadd X dL_law_1691 1692 rfl ?_
  refine w_sld X hx hbl hbA h1.1 (a 1) h1.2 dL_law_1692 1693 rfl ?_
  refine w_aload_n X 4 dL_law_1693 rfl rfl 1694 rfl ?_
  refine w_iload X 0 dL_law_1694 rfl 1696 rfl ?_
  refine w_iconst X 2 dL_law_1696 rfl 1697 rfl ?_
  refine w_iadd X dL_law_1697 1698 rfl ?_
  refine w_sld X hx hbl hbA h2.1 (a 2) h2.2 dL_law_1698 1699 rfl ?_
  refine w_aload_n X 1 dL_law_1699 rfl rfl 1700 rfl ?_
  refine w_wcall X hZ hF [.ref (ad 0), .int (a 1), .int (a 2), .ref (ad 255)] rfl kB_L_waysWithBans kL_L_228 (fun res h => ct_L_waysWithBans l hl hZ hX hO fu (a 1) (a 2) mem res h) rfl rfl rfl ⟨Nat.le_of_ble_eq_true rfl, Nat.le_of_ble_eq_true rfl⟩ (Nat.le_of_ble_eq_true rfl) hcap dL_law_1700 1703 rfl (fun p_1 hF => ?_)
  refine w_istore X [(5, .int p_1.1), (4, .int x4), (3, .ref (ad 255)), (2, .ref (ad 256)), (1, .ref (ad 0)), (0, .ref b)] dL_law_1703 (by decide) rfl 1705 rfl ?_
  refine w_aload_n X 3 dL_law_1705 rfl rfl 1706 rfl ?_
  refine w_aload_n X 5 dL_law_1706 rfl rfl 1707 rfl ?_
  refine w_iload X 1 dL_law_1707 rfl 1709 rfl ?_
  refine w_iconst X 1 dL_law_1709 rfl 1710 rfl ?_
  refine w_iadd X dL_law_1710 1711 rfl ?_
  refine w_sld X hx hbl hbA h1.1 (a 1) h1.2 dL_law_1711 1712 rfl ?_
  refine w_aload_n X 5 dL_law_1712 rfl rfl 1713 rfl ?_
  refine w_iload X 1 dL_law_1713 rfl 1715 rfl ?_
  refine w_iconst X 2 dL_law_1715 rfl 1716 rfl ?_
  refine w_iadd X dL_law_1716 1717 rfl ?_
  refine w_sld X hx hbl hbA h2.1 (a 2) h2.2 dL_law_1717 1718 rfl ?_
  refine w_mcall (fun x => x.1) (fun x => x.2) X hZ hF [.int (a 1), .int (a 2)] (q := ("PawnRaceModel", TX12, 50)) rfl rfl rfl kB_X12_waysWithBans kL_L_230 (fun res h => ct_X12_waysWithBans l hZ fu (a 1) (a 2) (fun j => (mset 0 256 mem p_1.2) (256 + j)) res h) rfl rfl rfl ⟨Nat.le_of_ble_eq_true rfl, Nat.le_of_ble_eq_true rfl⟩ (Nat.le_of_ble_eq_true rfl) hcap dL_law_1718 1721 rfl (fun p_2 hF => ?_)
  refine w_istore X [(6, .int p_2.1), (5, .int p_1.1), (4, .int x4), (3, .ref (ad 255)), (2, .ref (ad 256)), (1, .ref (ad 0)), (0, .ref b)] dL_law_1721 (by decide) rfl 1723 rfl ?_
  refine w_aload_n X 4 dL_law_1723 rfl rfl 1724 rfl ?_
  refine w_mcall (fun x => x) (fun _ => (fun j => (mset 256 23 (mset 0 256 mem p_1.2) p_2.2) (256 + j))) X hZ hF [] (q := ("PawnRaceModel", TX12, 50)) rfl rfl rfl kB_X12_thrown kL_L_134 (fun res h => ct_X12_thrown l hZ fu  (fun j => (mset 256 23 (mset 0 256 mem p_1.2) p_2.2) (256 + j)) res h) rfl rfl rfl ⟨Nat.le_of_ble_eq_true rfl, Nat.le_of_ble_eq_true rfl⟩ (Nat.le_of_ble_eq_true rfl) hcap dL_law_1724 1727 rfl (fun x_3 hF => ?_)
  refine w_iload X 1 dL_law_1727 rfl 1729 rfl ?_
  refine w_icmp_eq X hF 1734 1732 dL_law_1729 (by decide) rfl (fun hF => ?_) (fun hF => ?_)
  · refine w_iload X 1 dL_law_1734 rfl 1736 rfl ?_
    refine w_if_ne X hF 1751 1739 dL_law_1736 (by decide) rfl (fun hF => ?_) (fun hF => ?_)
    · refine w_aload_n X 3 dL_law_1739 rfl rfl 1740 rfl ?_
      refine w_iconst X 0 dL_law_1740 rfl 1741 rfl ?_
      refine w_lal X 255 lt279_255 ko_W255 (t0 := 5) rfl vin01 dL_law_1741 1742 rfl ?_
      refine w_iload X 0 dL_law_1742 rfl 1744 rfl ?_
      refine w_i2l X dL_law_1744 1745 rfl ?_
      refine w_lcmp X dL_law_1745 1746 rfl ?_
      refine w_if_eq X hF 1751 1749 dL_law_1746 (by decide) rfl (fun hF => ?_) (fun hF => ?_)
      · refine w_goto X 2582 dL_law_1751 (by decide) ?_
        refine w_keep [2, 3, 4, 5, 6] rfl ?_
        have e9 := o_inj hF
        subst e9
        exact kk
      · refine w_iconst X 0 dL_law_1749 rfl 1750 rfl ?_
        exact no_none hF
    · refine w_goto X 2582 dL_law_1751 (by decide) ?_
      refine w_keep [2, 3, 4, 5, 6] rfl ?_
      have e9 := o_inj hF
      subst e9
      exact kk
  · refine w_iconst X 0 dL_law_1732 rfl 1733 rfl ?_
    exact no_none hF

def K_case_28 (fu : Nat) (a : Nat → Int32) (mem : Mem) : Option Mem := bd (K_L_detour fu (a 1) mem) (fun p_1 => bd (K_X12_detour fu (a 1) (fun j => (mset 0 256 mem p_1.2) (256 + j))) (fun p_2 => bd (K_X12_thrown fu (fun j => (mset 256 23 (mset 0 256 mem p_1.2) p_2.2) (256 + j))) (fun x_3 => (if x_3 = p_1.1 then (if p_1.1 = 0 then (if (lg_cmp (rl (mset 256 23 (mset 256 23 (mset 0 256 mem p_1.2) p_2.2) (fun j => (mset 256 23 (mset 0 256 mem p_1.2) p_2.2) (256 + j))) 255 (Int32.toNatClampNeg 0)) (Int32.toInt64 p_2.1)) = 0 then some (mset 256 23 (mset 256 23 (mset 0 256 mem p_1.2) p_2.2) (fun j => (mset 256 23 (mset 0 256 mem p_1.2) p_2.2) (256 + j))) else none) else some (mset 256 23 (mset 256 23 (mset 0 256 mem p_1.2) p_2.2) (fun j => (mset 256 23 (mset 0 256 mem p_1.2) p_2.2) (256 + j)))) else none))))
set_option maxHeartbeats 4000000 in
set_option maxRecDepth 100000 in
theorem lc_28 (hl : l.stackTraces = false) (hZ : ZOK Z) (hX : ZX Z) {tO : Nat} {sK sV : Nat → Nat} (hO : ZO Z tO sK sV) (fu : Nat) (X : CX D (tyL ca) 279 ad Z p s m args meth c cL_law 7 "PawnRaceLaw" ret) {b L : Nat} {xs a : Nat → Int32} {x4 : Int32} (HX : LX b L xs s (AA 279 ad s.heap.size) x4 a) (hcap : cells + 3 ≤ room_1.cells ∧ slots + 18 ≤ room_1.slots) {mem mem2 : Mem} (hF : K_case_28 fu a mem = some mem2) (kk : WW D 279 ad (cW ca ad) p l e room_1 s m args below meth c 7 (cells + 3) (slots + 18) Q mem2 2582 [(4, .int x4), (3, .ref (ad 255)), (2, .ref (ad 256)), (1, .ref (ad 0)), (0, .ref b)] []) : WW D 279 ad (cW ca ad) p l e room_1 s m args below meth c 7 cells slots Q mem 1754 [(4, .int x4), (3, .ref (ad 255)), (2, .ref (ad 256)), (1, .ref (ad 0)), (0, .ref b)] [] := by
  have hcap0 : cells ≤ room_1.cells ∧ slots ≤ room_1.slots := ⟨Nat.le_trans (Nat.le_add_right _ 3) hcap.1, Nat.le_trans (Nat.le_add_right _ 18) hcap.2⟩
  obtain ⟨hx, hbl, hbA, h1, h2, h3, h4, h5⟩ := HX
  rw [K_case_28] at hF
  refine w_aload_n X 3 dL_law_1754 rfl rfl 1755 rfl ?_
  refine w_aload_n X 4 dL_law_1755 rfl rfl 1756 rfl ?_
  refine w_iload X 0 dL_law_1756 rfl 1758 rfl ?_
  refine w_iconst X 1 dL_law_1758 rfl 1759 rfl ?_
  refine w_iadd X dL_law_1759 1760 rfl ?_
  refine w_sld X hx hbl hbA h1.1 (a 1) h1.2 dL_law_1760 1761 rfl ?_
  refine w_aload_n X 1 dL_law_1761 rfl rfl 1762 rfl ?_
  refine w_wcall X hZ hF [.ref (ad 0), .int (a 1), .ref (ad 255)] rfl kB_L_detour kL_L_231 (fun res h => ct_L_detour l hl hZ hX hO fu (a 1) mem res h) rfl rfl rfl ⟨Nat.le_of_ble_eq_true rfl, Nat.le_of_ble_eq_true rfl⟩ (Nat.le_of_ble_eq_true rfl) hcap dL_law_1762 1765 rfl (fun p_1 hF => ?_)
  refine w_istore X [(5, .int p_1.1), (4, .int x4), (3, .ref (ad 255)), (2, .ref (ad 256)), (1, .ref (ad 0)), (0, .ref b)] dL_law_1765 (by decide) rfl 1767 rfl ?_
  refine w_aload_n X 3 dL_law_1767 rfl rfl 1768 rfl ?_
  refine w_aload_n X 5 dL_law_1768 rfl rfl 1769 rfl ?_
  refine w_iload X 1 dL_law_1769 rfl 1771 rfl ?_
  refine w_iconst X 1 dL_law_1771 rfl 1772 rfl ?_
  refine w_iadd X dL_law_1772 1773 rfl ?_
  refine w_sld X hx hbl hbA h1.1 (a 1) h1.2 dL_law_1773 1774 rfl ?_
  refine w_mcall (fun x => x.1) (fun x => x.2) X hZ hF [.int (a 1)] (q := ("PawnRaceModel", TX12, 50)) rfl rfl rfl kB_X12_detour kL_L_233 (fun res h => ct_X12_detour l hZ fu (a 1) (fun j => (mset 0 256 mem p_1.2) (256 + j)) res h) rfl rfl rfl ⟨Nat.le_of_ble_eq_true rfl, Nat.le_of_ble_eq_true rfl⟩ (Nat.le_of_ble_eq_true rfl) hcap dL_law_1774 1777 rfl (fun p_2 hF => ?_)
  refine w_istore X [(6, .int p_2.1), (5, .int p_1.1), (4, .int x4), (3, .ref (ad 255)), (2, .ref (ad 256)), (1, .ref (ad 0)), (0, .ref b)] dL_law_1777 (by decide) rfl 1779 rfl ?_
  refine w_aload_n X 4 dL_law_1779 rfl rfl 1780 rfl ?_
  refine w_mcall (fun x => x) (fun _ => (fun j => (mset 256 23 (mset 0 256 mem p_1.2) p_2.2) (256 + j))) X hZ hF [] (q := ("PawnRaceModel", TX12, 50)) rfl rfl rfl kB_X12_thrown kL_L_134 (fun res h => ct_X12_thrown l hZ fu  (fun j => (mset 256 23 (mset 0 256 mem p_1.2) p_2.2) (256 + j)) res h) rfl rfl rfl ⟨Nat.le_of_ble_eq_true rfl, Nat.le_of_ble_eq_true rfl⟩ (Nat.le_of_ble_eq_true rfl) hcap dL_law_1780 1783 rfl (fun x_3 hF => ?_)
  refine w_iload X 1 dL_law_1783 rfl 1785 rfl ?_
  refine w_icmp_eq X hF 1790 1788 dL_law_1785 (by decide) rfl (fun hF => ?_) (fun hF => ?_)
  · refine w_iload X 1 dL_law_1790 rfl 1792 rfl ?_
    refine w_if_ne X hF 1807 1795 dL_law_1792 (by decide) rfl (fun hF => ?_) (fun hF => ?_)
    · refine w_aload_n X 3 dL_law_1795 rfl rfl 1796 rfl ?_
      refine w_iconst X 0 dL_law_1796 rfl 1797 rfl ?_
      refine w_lal X 255 lt279_255 ko_W255 (t0 := 5) rfl vin01 dL_law_1797 1798 rfl ?_
      refine w_iload X 0 dL_law_1798 rfl 1800 rfl ?_
      refine w_i2l X dL_law_1800 1801 rfl ?_
      refine w_lcmp X dL_law_1801 1802 rfl ?_
      refine w_if_eq X hF 1807 1805 dL_law_1802 (by decide) rfl (fun hF => ?_) (fun hF => ?_)
      · refine w_goto X 2582 dL_law_1807 (by decide) ?_
        refine w_keep [2, 3, 4, 5, 6] rfl ?_
        have e9 := o_inj hF
        subst e9
        exact kk
      · refine w_iconst X 0 dL_law_1805 rfl 1806 rfl ?_
        exact no_none hF
    · refine w_goto X 2582 dL_law_1807 (by decide) ?_
      refine w_keep [2, 3, 4, 5, 6] rfl ?_
      have e9 := o_inj hF
      subst e9
      exact kk
  · refine w_iconst X 0 dL_law_1788 rfl 1789 rfl ?_
    exact no_none hF

def K_case_29 (fu : Nat) (a : Nat → Int32) (mem : Mem) : Option Mem := bd (K_X11_leader fu mem) (fun p_1 => bd (K_X12_leader fu (fun j => (mset 0 255 mem p_1.2) (256 + j))) (fun p_2 => (if p_1.1 = p_2.1 then some (mset 256 23 (mset 0 255 mem p_1.2) p_2.2) else none)))
set_option maxHeartbeats 4000000 in
set_option maxRecDepth 100000 in
theorem lc_29 (hl : l.stackTraces = false) (hZ : ZOK Z) (hX : ZX Z) {tO : Nat} {sK sV : Nat → Nat} (hO : ZO Z tO sK sV) (fu : Nat) (X : CX D (tyL ca) 279 ad Z p s m args meth c cL_law 7 "PawnRaceLaw" ret) {b L : Nat} {xs a : Nat → Int32} {x4 : Int32} (HX : LX b L xs s (AA 279 ad s.heap.size) x4 a) (hcap : cells + 3 ≤ room_1.cells ∧ slots + 18 ≤ room_1.slots) {mem mem2 : Mem} (hF : K_case_29 fu a mem = some mem2) (kk : WW D 279 ad (cW ca ad) p l e room_1 s m args below meth c 7 (cells + 3) (slots + 18) Q mem2 2582 [(4, .int x4), (3, .ref (ad 255)), (2, .ref (ad 256)), (1, .ref (ad 0)), (0, .ref b)] []) : WW D 279 ad (cW ca ad) p l e room_1 s m args below meth c 7 cells slots Q mem 1810 [(4, .int x4), (3, .ref (ad 255)), (2, .ref (ad 256)), (1, .ref (ad 0)), (0, .ref b)] [] := by
  have hcap0 : cells ≤ room_1.cells ∧ slots ≤ room_1.slots := ⟨Nat.le_trans (Nat.le_add_right _ 3) hcap.1, Nat.le_trans (Nat.le_add_right _ 18) hcap.2⟩
  obtain ⟨hx, hbl, hbA, h1, h2, h3, h4, h5⟩ := HX
  rw [K_case_29] at hF
  refine w_aload_n X 3 dL_law_1810 rfl rfl 1811 rfl ?_
  refine w_ccall (fun x => x.1) (fun x => x.2) X hZ hF [] (q := ("PawnRace", TX11, 14)) rfl rfl rfl kB_X11_leader kL_L_234 (fun res h => ct_X11_leader l hZ hO fu  mem res h) rfl rfl rfl ⟨Nat.le_of_ble_eq_true rfl, Nat.le_of_ble_eq_true rfl⟩ (Nat.le_of_ble_eq_true rfl) hcap0 dL_law_1811 1814 rfl (fun p_1 hF => ?_)
  refine w_aload_n X 2 dL_law_1814 rfl rfl 1815 rfl ?_
  refine w_mcall (fun x => x.1) (fun x => x.2) X hZ hF [] (q := ("PawnRaceModel", TX12, 50)) rfl rfl rfl kB_X12_leader kL_L_237 (fun res h => ct_X12_leader l hZ fu  (fun j => (mset 0 255 mem p_1.2) (256 + j)) res h) rfl rfl rfl ⟨Nat.le_of_ble_eq_true rfl, Nat.le_of_ble_eq_true rfl⟩ (Nat.le_of_ble_eq_true rfl) hcap0 dL_law_1815 1818 rfl (fun p_2 hF => ?_)
  refine w_icmp_eq X hF 2582 1821 dL_law_1818 (by decide) rfl (fun hF => ?_) (fun hF => ?_)
  · refine w_keep [0, 1, 2, 3, 4] rfl ?_
    refine w_widen (Nat.le_add_right _ 3) (Nat.le_add_right _ 18) ?_
    have e9 := o_inj hF
    subst e9
    exact kk
  · refine w_iconst X 0 dL_law_1821 rfl 1822 rfl ?_
    exact no_none hF
end LC1
