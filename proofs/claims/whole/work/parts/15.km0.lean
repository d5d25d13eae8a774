section Km0
def K_X12_across (fu : Nat) (x0 : Int32) (mem : Mem) : Option Int32 := (if x0 = 1 then some 1 else (if x0 = 3 then some (-1) else some 0))
def rm_X12_across : Room := { frames := 0, cells := 0, slots := 0, locals := 0 }
set_option maxHeartbeats 4000000 in
set_option maxRecDepth 100000 in
theorem ct_X12_across (l : Launch) {D : va_G} {ca ad : Nat → Nat} {Z : (Nat → Prop) → State → Heap → Prop} (hZ : ZOK Z) (fu : Nat) (x0 : Int32) (mem : Mem) (res : Int32) (hF : K_X12_across fu x0 mem = some res) : CI l D (tyL ca) 23 ad (cM ca ad) Z yX12_across cX12_across 1 .int rm_X12_across [.int x0] mem res mem := by
  refine start_i (own := RX12) rfl (by decide) (Nat.le_of_ble_eq_true rfl) ?_
  intro p e s m args below meth c Q hQ X
  rw [K_X12_across] at hF
  revert hF
  intro hF
  refine w_iload_n X 0 dX12_across_0 rfl rfl 1 rfl ?_
  refine w_iconst X 1 dX12_across_1 rfl 2 rfl ?_
  refine w_icmp_ne X hF 9 5 dX12_across_2 (by decide) rfl (fun hF => ?_) (fun hF => ?_)
  · refine w_iconst X 1 dX12_across_5 rfl 6 rfl ?_
    refine w_goto X 19 dX12_across_6 (by decide) ?_
    exact w_iret X hQ (o_inj hF) rfl rfl dX12_across_19
  · refine w_iload_n X 0 dX12_across_9 rfl rfl 10 rfl ?_
    refine w_iconst X 3 dX12_across_10 rfl 11 rfl ?_
    refine w_icmp_ne X hF 18 14 dX12_across_11 (by decide) rfl (fun hF => ?_) (fun hF => ?_)
    · refine w_iconst X (-1) dX12_across_14 rfl 15 rfl ?_
      refine w_goto X 19 dX12_across_15 (by decide) ?_
      exact w_iret X hQ (o_inj hF) rfl rfl dX12_across_19
    · refine w_iconst X 0 dX12_across_18 rfl 19 rfl ?_
      exact w_iret X hQ (o_inj hF) rfl rfl dX12_across_19

def K_X12_isIn (fu : Nat) (x0 : Int64) (x2 : Int64) (x4 : Int64) (mem : Mem) : Option Int32 := (if (lg_cmp x0 x2) < 0 then some 0 else (if 0 < (lg_cmp x0 x4) then some 0 else some 1))
def rm_X12_isIn : Room := { frames := 0, cells := 0, slots := 0, locals := 0 }
set_option maxHeartbeats 4000000 in
set_option maxRecDepth 100000 in
theorem ct_X12_isIn (l : Launch) {D : va_G} {ca ad : Nat → Nat} {Z : (Nat → Prop) → State → Heap → Prop} (hZ : ZOK Z) (fu : Nat) (x0 : Int64) (x2 : Int64) (x4 : Int64) (mem : Mem) (res : Int32) (hF : K_X12_isIn fu x0 x2 x4 mem = some res) : CI l D (tyL ca) 23 ad (cM ca ad) Z yX12_isIn cX12_isIn 6 .boolean rm_X12_isIn [.long x0, .long x2, .long x4] mem res mem := by
  refine start_i (own := RX12) rfl (by decide) (Nat.le_of_ble_eq_true rfl) ?_
  intro p e s m args below meth c Q hQ X
  rw [K_X12_isIn] at hF
  revert hF
  intro hF
  refine w_lload_n X 0 dX12_isIn_0 rfl rfl 1 rfl ?_
  refine w_lload_n X 1 dX12_isIn_1 rfl rfl 2 rfl ?_
  refine w_lcmp X dX12_isIn_2 3 rfl ?_
  refine w_if_lt X hF 17 6 dX12_isIn_3 (by decide) rfl (fun hF => ?_) (fun hF => ?_)
  · refine w_iconst X 0 dX12_isIn_17 rfl 18 rfl ?_
    exact w_iret X hQ (o_inj hF) rfl rfl dX12_isIn_18
  · refine w_lload_n X 0 dX12_isIn_6 rfl rfl 7 rfl ?_
    refine w_lload X 2 dX12_isIn_7 rfl 9 rfl ?_
    refine w_lcmp X dX12_isIn_9 10 rfl ?_
    refine w_if_gt X hF 17 13 dX12_isIn_10 (by decide) rfl (fun hF => ?_) (fun hF => ?_)
    · refine w_iconst X 0 dX12_isIn_17 rfl 18 rfl ?_
      exact w_iret X hQ (o_inj hF) rfl rfl dX12_isIn_18
    · refine w_iconst X 1 dX12_isIn_13 rfl 14 rfl ?_
      refine w_goto X 18 dX12_isIn_14 (by decide) ?_
      exact w_iret X hQ (o_inj hF) rfl rfl dX12_isIn_18

def K_X12_isPlace (fu : Nat) (x1 : Int32) (x2 : Int32) (mem : Mem) : Option Int32 := gi 0 184 (bd (K_X12_isIn fu (Int32.toInt64 x1) 0 ((((rd mem 2 (Int32.toNatClampNeg 0)) - 2)).toInt64) mem) (fun x_2 => (if x_2 = 0 then some 0 else gi 1 184 (bd (K_X12_isIn fu (Int32.toInt64 x2) 0 ((((rd mem 2 (Int32.toNatClampNeg 1)) - 2)).toInt64) mem) (fun x_4 => (if x_4 = 0 then some 0 else some 1))))))
def rm_X12_isPlace : Room := { frames := 1, cells := 0, slots := 0, locals := 25 }
set_option maxHeartbeats 4000000 in
set_option maxRecDepth 100000 in
theorem ct_X12_isPlace (l : Launch) {D : va_G} {ca ad : Nat → Nat} {Z : (Nat → Prop) → State → Heap → Prop} (hZ : ZOK Z) (fu : Nat) (x1 : Int32) (x2 : Int32) (mem : Mem) (res : Int32) (hF : K_X12_isPlace fu x1 x2 mem = some res) : CI l D (tyL ca) 23 ad (cM ca ad) Z yX12_isPlace cX12_isPlace 3 .boolean rm_X12_isPlace [.ref (ad 0), .int x1, .int x2] mem res mem := by
  refine start_i (own := RX12) rfl (by decide) (Nat.le_of_ble_eq_true rfl) ?_
  intro p e s m args below meth c Q hQ X
  rw [K_X12_isPlace] at hF
  revert hF
  intro hF
  refine w_iload_n X 1 dX12_isPlace_0 rfl rfl 1 rfl ?_
  refine w_i2l X dX12_isPlace_1 2 rfl ?_
  refine w_lconst X 0 dX12_isPlace_2 rfl 3 rfl ?_
  refine w_aload_n X 0 dX12_isPlace_3 rfl rfl 4 rfl ?_
  refine w_getV (v := .ref (ad 2)) X 0 ml_0 mo_0 (T := TX12) (N := 50) rfl in_X12 13 (by decide) kF_X12_20 rfl rfl dX12_isPlace_4 7 rfl ?_
  refine w_iconst X 0 dX12_isPlace_7 rfl 8 rfl ?_
  refine w_gi hF (fun h_1 hF => ?_)
  refine w_ial X 2 ml_2 mo_2 (t0 := 0) rfl h_1 dX12_isPlace_8 9 rfl ?_
  refine w_iconst X 2 dX12_isPlace_9 rfl 10 rfl ?_
  refine w_isub X dX12_isPlace_10 11 rfl ?_
  refine w_i2l X dX12_isPlace_11 12 rfl ?_
  refine w_callSi (fun x => x) (fun _ => mem) X hZ hF [.long (Int32.toInt64 x1), .long 0, .long ((((rd mem 2 (Int32.toNatClampNeg 0)) - 2)).toInt64)] rfl kB_X12_isIn kL_X12_106 (fun res h => ct_X12_isIn l hZ fu (Int32.toInt64 x1) 0 ((((rd mem 2 (Int32.toNatClampNeg 0)) - 2)).toInt64) mem res h) rfl rfl rfl ⟨Nat.le_of_ble_eq_true rfl, Nat.le_of_ble_eq_true rfl⟩ (Nat.le_of_ble_eq_true rfl) ⟨Nat.zero_le _, Nat.zero_le _⟩ dX12_isPlace_12 15 rfl (fun x_2 hF => ?_)
  refine w_if_eq X hF 40 18 dX12_isPlace_15 (by decide) rfl (fun hF => ?_) (fun hF => ?_)
  · refine w_iconst X 0 dX12_isPlace_40 rfl 41 rfl ?_
    exact w_iret X hQ (o_inj hF) rfl rfl dX12_isPlace_41
  · refine w_iload_n X 2 dX12_isPlace_18 rfl rfl 19 rfl ?_
    refine w_i2l X dX12_isPlace_19 20 rfl ?_
    refine w_lconst X 0 dX12_isPlace_20 rfl 21 rfl ?_
    refine w_aload_n X 0 dX12_isPlace_21 rfl rfl 22 rfl ?_
    refine w_getV (v := .ref (ad 2)) X 0 ml_0 mo_0 (T := TX12) (N := 50) rfl in_X12 13 (by decide) kF_X12_20 rfl rfl dX12_isPlace_22 25 rfl ?_
    refine w_iconst X 1 dX12_isPlace_25 rfl 26 rfl ?_
    refine w_gi hF (fun h_3 hF => ?_)
    refine w_ial X 2 ml_2 mo_2 (t0 := 0) rfl h_3 dX12_isPlace_26 27 rfl ?_
    refine w_iconst X 2 dX12_isPlace_27 rfl 28 rfl ?_
    refine w_isub X dX12_isPlace_28 29 rfl ?_
    refine w_i2l X dX12_isPlace_29 30 rfl ?_
    refine w_callSi (fun x => x) (fun _ => mem) X hZ hF [.long (Int32.toInt64 x2), .long 0, .long ((((rd mem 2 (Int32.toNatClampNeg 1)) - 2)).toInt64)] rfl kB_X12_isIn kL_X12_106 (fun res h => ct_X12_isIn l hZ fu (Int32.toInt64 x2) 0 ((((rd mem 2 (Int32.toNatClampNeg 1)) - 2)).toInt64) mem res h) rfl rfl rfl ⟨Nat.le_of_ble_eq_true rfl, Nat.le_of_ble_eq_true rfl⟩ (Nat.le_of_ble_eq_true rfl) ⟨Nat.zero_le _, Nat.zero_le _⟩ dX12_isPlace_30 33 rfl (fun x_4 hF => ?_)
    refine w_if_eq X hF 40 36 dX12_isPlace_33 (by decide) rfl (fun hF => ?_) (fun hF => ?_)
    · refine w_iconst X 0 dX12_isPlace_40 rfl 41 rfl ?_
      exact w_iret X hQ (o_inj hF) rfl rfl dX12_isPlace_41
    · refine w_iconst X 1 dX12_isPlace_36 rfl 37 rfl ?_
      refine w_goto X 41 dX12_isPlace_37 (by decide) ?_
      exact w_iret X hQ (o_inj hF) rfl rfl dX12_isPlace_41

def K_X12_wall (fu : Nat) (x1 : Int32) (x2 : Int32) (mem : Mem) : Option Int32 := bd (K_X12_isPlace fu x1 x2 mem) (fun x_1 => (if x_1 = 0 then some 0 else gi ((120 + (8 * x2)) + x1) 184 (some (rd mem 2 (Int32.toNatClampNeg ((120 + (8 * x2)) + x1))))))
def rm_X12_wall : Room := { frames := 2, cells := 0, slots := 0, locals := 47 }
set_option maxHeartbeats 4000000 in
set_option maxRecDepth 100000 in
theorem ct_X12_wall (l : Launch) {D : va_G} {ca ad : Nat → Nat} {Z : (Nat → Prop) → State → Heap → Prop} (hZ : ZOK Z) (fu : Nat) (x1 : Int32) (x2 : Int32) (mem : Mem) (res : Int32) (hF : K_X12_wall fu x1 x2 mem = some res) : CI l D (tyL ca) 23 ad (cM ca ad) Z yX12_wall cX12_wall 3 .int rm_X12_wall [.ref (ad 0), .int x1, .int x2] mem res mem := by
  refine start_i (own := RX12) rfl (by decide) (Nat.le_of_ble_eq_true rfl) ?_
  intro p e s m args below meth c Q hQ X
  rw [K_X12_wall] at hF
  revert hF
  intro hF
  refine w_aload_n X 0 dX12_wall_0 rfl rfl 1 rfl ?_
  refine w_iload_n X 1 dX12_wall_1 rfl rfl 2 rfl ?_
  refine w_iload_n X 2 dX12_wall_2 rfl rfl 3 rfl ?_
  refine w_callVi (fun x => x) (fun _ => mem) X hZ hF [.int x1, .int x2] 0 ml_0 mo_0 rfl rfl rfl kB_X12_isPlace kL_X12_177 (fun res h => ct_X12_isPlace l hZ fu x1 x2 mem res h) rfl rfl rfl ⟨Nat.le_of_ble_eq_true rfl, Nat.le_of_ble_eq_true rfl⟩ (Nat.le_of_ble_eq_true rfl) ⟨Nat.zero_le _, Nat.zero_le _⟩ dX12_wall_3 6 rfl (fun x_1 hF => ?_)
  refine w_if_eq X hF 26 9 dX12_wall_6 (by decide) rfl (fun hF => ?_) (fun hF => ?_)
  · refine w_iconst X 0 dX12_wall_26 rfl 27 rfl ?_
    exact w_iret X hQ (o_inj hF) rfl rfl dX12_wall_27
  · refine w_aload_n X 0 dX12_wall_9 rfl rfl 10 rfl ?_
    refine w_getV (v := .ref (ad 2)) X 0 ml_0 mo_0 (T := TX12) (N := 50) rfl in_X12 13 (by decide) kF_X12_20 rfl rfl dX12_wall_10 13 rfl ?_
    refine w_bipush X 120 dX12_wall_13 rfl 15 rfl ?_
    refine w_bipush X 8 dX12_wall_15 rfl 17 rfl ?_
    refine w_iload_n X 2 dX12_wall_17 rfl rfl 18 rfl ?_
    refine w_imul X dX12_wall_18 19 rfl ?_
    refine w_iadd X dX12_wall_19 20 rfl ?_
    refine w_iload_n X 1 dX12_wall_20 rfl rfl 21 rfl ?_
    refine w_iadd X dX12_wall_21 22 rfl ?_
    refine w_gi hF (fun h_2 hF => ?_)
    refine w_ial X 2 ml_2 mo_2 (t0 := 0) rfl h_2 dX12_wall_22 23 rfl ?_
    refine w_goto X 27 dX12_wall_23 (by decide) ?_
    exact w_iret X hQ (o_inj hF) rfl rfl dX12_wall_27

def K_X12_hasRoom_44 (fu : Nat) (mem : Mem) : Option Int32 := some 0
def K_X12_hasRoom (fu : Nat) (x1 : Int32) (x2 : Int32) (x3 : Int32) (mem : Mem) : Option Int32 := bd (K_X12_wall fu x1 x2 mem) (fun x_1 => (if x_1 = 0 then (if x3 = 1 then bd (K_X12_wall fu (x1 - 1) x2 mem) (fun x_2 => (if x_2 = 1 then (K_X12_hasRoom_44 fu mem ) else bd (K_X12_wall fu (x1 + 1) x2 mem) (fun x_3 => (if x_3 = 1 then (K_X12_hasRoom_44 fu mem ) else some 1)))) else bd (K_X12_wall fu x1 (x2 - 1) mem) (fun x_4 => (if x_4 = 2 then some 0 else bd (K_X12_wall fu x1 (x2 + 1) mem) (fun x_5 => (if x_5 = 2 then some 0 else some 1))))) else some 0))
def rm_X12_hasRoom : Room := { frames := 3, cells := 0, slots := 0, locals := 69 }
set_option maxHeartbeats 4000000 in
set_option maxRecDepth 100000 in
theorem ct_X12_hasRoom (l : Launch) {D : va_G} {ca ad : Nat → Nat} {Z : (Nat → Prop) → State → Heap → Prop} (hZ : ZOK Z) (fu : Nat) (x1 : Int32) (x2 : Int32) (x3 : Int32) (mem : Mem) (res : Int32) (hF : K_X12_hasRoom fu x1 x2 x3 mem = some res) : CI l D (tyL ca) 23 ad (cM ca ad) Z yX12_hasRoom cX12_hasRoom 4 .boolean rm_X12_hasRoom [.ref (ad 0), .int x1, .int x2, .int x3] mem res mem := by
  refine start_i (own := RX12) rfl (by decide) (Nat.le_of_ble_eq_true rfl) ?_
  intro p e s m args below meth c Q hQ X
  rw [K_X12_hasRoom] at hF
  revert hF
  have w_44 : K_X12_hasRoom_44 fu mem = some res → WW D 23 ad (cM ca ad) p l e rm_X12_hasRoom s m args below meth c 4 0 0 Q mem 44 [] [] := by
    intro hF
    rw [K_X12_hasRoom_44] at hF
    refine w_iconst X 0 dX12_hasRoom_44 rfl 45 rfl ?_
    refine w_goto X 77 dX12_hasRoom_45 (by decide) ?_
    exact w_iret X hQ (o_inj hF) rfl rfl dX12_hasRoom_77
  intro hF
  refine w_aload_n X 0 dX12_hasRoom_0 rfl rfl 1 rfl ?_
  refine w_iload_n X 1 dX12_hasRoom_1 rfl rfl 2 rfl ?_
  refine w_iload_n X 2 dX12_hasRoom_2 rfl rfl 3 rfl ?_
  refine w_callVi (fun x => x) (fun _ => mem) X hZ hF [.int x1, .int x2] 0 ml_0 mo_0 rfl rfl rfl kB_X12_wall kL_X12_193 (fun res h => ct_X12_wall l hZ fu x1 x2 mem res h) rfl rfl rfl ⟨Nat.le_of_ble_eq_true rfl, Nat.le_of_ble_eq_true rfl⟩ (Nat.le_of_ble_eq_true rfl) ⟨Nat.zero_le _, Nat.zero_le _⟩ dX12_hasRoom_3 6 rfl (fun x_1 hF => ?_)
  refine w_if_eq X hF 11 9 dX12_hasRoom_6 (by decide) rfl (fun hF => ?_) (fun hF => ?_)
  · refine w_iload_n X 3 dX12_hasRoom_11 rfl rfl 12 rfl ?_
    refine w_iconst X 1 dX12_hasRoom_12 rfl 13 rfl ?_
    refine w_icmp_ne X hF 48 16 dX12_hasRoom_13 (by decide) rfl (fun hF => ?_) (fun hF => ?_)
    · refine w_aload_n X 0 dX12_hasRoom_16 rfl rfl 17 rfl ?_
      refine w_iload_n X 1 dX12_hasRoom_17 rfl rfl 18 rfl ?_
      refine w_iconst X 1 dX12_hasRoom_18 rfl 19 rfl ?_
      refine w_isub X dX12_hasRoom_19 20 rfl ?_
      refine w_iload_n X 2 dX12_hasRoom_20 rfl rfl 21 rfl ?_
      refine w_callVi (fun x => x) (fun _ => mem) X hZ hF [.int (x1 - 1), .int x2] 0 ml_0 mo_0 rfl rfl rfl kB_X12_wall kL_X12_193 (fun res h => ct_X12_wall l hZ fu (x1 - 1) x2 mem res h) rfl rfl rfl ⟨Nat.le_of_ble_eq_true rfl, Nat.le_of_ble_eq_true rfl⟩ (Nat.le_of_ble_eq_true rfl) ⟨Nat.zero_le _, Nat.zero_le _⟩ dX12_hasRoom_21 24 rfl (fun x_2 hF => ?_)
      refine w_iconst X 1 dX12_hasRoom_24 rfl 25 rfl ?_
      refine w_icmp_eq X hF 44 28 dX12_hasRoom_25 (by decide) rfl (fun hF => ?_) (fun hF => ?_)
      · refine w_keep [] rfl ?_
        exact w_44  hF
      · refine w_aload_n X 0 dX12_hasRoom_28 rfl rfl 29 rfl ?_
        refine w_iload_n X 1 dX12_hasRoom_29 rfl rfl 30 rfl ?_
        refine w_iconst X 1 dX12_hasRoom_30 rfl 31 rfl ?_
        refine w_iadd X dX12_hasRoom_31 32 rfl ?_
        refine w_iload_n X 2 dX12_hasRoom_32 rfl rfl 33 rfl ?_
        refine w_callVi (fun x => x) (fun _ => mem) X hZ hF [.int (x1 + 1), .int x2] 0 ml_0 mo_0 rfl rfl rfl kB_X12_wall kL_X12_193 (fun res h => ct_X12_wall l hZ fu (x1 + 1) x2 mem res h) rfl rfl rfl ⟨Nat.le_of_ble_eq_true rfl, Nat.le_of_ble_eq_true rfl⟩ (Nat.le_of_ble_eq_true rfl) ⟨Nat.zero_le _, Nat.zero_le _⟩ dX12_hasRoom_33 36 rfl (fun x_3 hF => ?_)
        refine w_iconst X 1 dX12_hasRoom_36 rfl 37 rfl ?_
        refine w_icmp_eq X hF 44 40 dX12_hasRoom_37 (by decide) rfl (fun hF => ?_) (fun hF => ?_)
        · refine w_keep [] rfl ?_
          exact w_44  hF
        · refine w_iconst X 1 dX12_hasRoom_40 rfl 41 rfl ?_
          refine w_goto X 77 dX12_hasRoom_41 (by decide) ?_
          exact w_iret X hQ (o_inj hF) rfl rfl dX12_hasRoom_77
    · refine w_aload_n X 0 dX12_hasRoom_48 rfl rfl 49 rfl ?_
      refine w_iload_n X 1 dX12_hasRoom_49 rfl rfl 50 rfl ?_
      refine w_iload_n X 2 dX12_hasRoom_50 rfl rfl 51 rfl ?_
      refine w_iconst X 1 dX12_hasRoom_51 rfl 52 rfl ?_
      refine w_isub X dX12_hasRoom_52 53 rfl ?_
      refine w_callVi (fun x => x) (fun _ => mem) X hZ hF [.int x1, .int (x2 - 1)] 0 ml_0 mo_0 rfl rfl rfl kB_X12_wall kL_X12_193 (fun res h => ct_X12_wall l hZ fu x1 (x2 - 1) mem res h) rfl rfl rfl ⟨Nat.le_of_ble_eq_true rfl, Nat.le_of_ble_eq_true rfl⟩ (Nat.le_of_ble_eq_true rfl) ⟨Nat.zero_le _, Nat.zero_le _⟩ dX12_hasRoom_53 56 rfl (fun x_4 hF => ?_)
      refine w_iconst X 2 dX12_hasRoom_56 rfl 57 rfl ?_
      refine w_icmp_eq X hF 76 60 dX12_hasRoom_57 (by decide) rfl (fun hF => ?_) (fun hF => ?_)
      · refine w_iconst X 0 dX12_hasRoom_76 rfl 77 rfl ?_
        exact w_iret X hQ (o_inj hF) rfl rfl dX12_hasRoom_77
      · refine w_aload_n X 0 dX12_hasRoom_60 rfl rfl 61 rfl ?_
        refine w_iload_n X 1 dX12_hasRoom_61 rfl rfl 62 rfl ?_
        refine w_iload_n X 2 dX12_hasRoom_62 rfl rfl 63 rfl ?_
        refine w_iconst X 1 dX12_hasRoom_63 rfl 64 rfl ?_
        refine w_iadd X dX12_hasRoom_64 65 rfl ?_
        refine w_callVi (fun x => x) (fun _ => mem) X hZ hF [.int x1, .int (x2 + 1)] 0 ml_0 mo_0 rfl rfl rfl kB_X12_wall kL_X12_193 (fun res h => ct_X12_wall l hZ fu x1 (x2 + 1) mem res h) rfl rfl rfl ⟨Nat.le_of_ble_eq_true rfl, Nat.le_of_ble_eq_true rfl⟩ (Nat.le_of_ble_eq_true rfl) ⟨Nat.zero_le _, Nat.zero_le _⟩ dX12_hasRoom_65 68 rfl (fun x_5 hF => ?_)
        refine w_iconst X 2 dX12_hasRoom_68 rfl 69 rfl ?_
        refine w_icmp_eq X hF 76 72 dX12_hasRoom_69 (by decide) rfl (fun hF => ?_) (fun hF => ?_)
        · refine w_iconst X 0 dX12_hasRoom_76 rfl 77 rfl ?_
          exact w_iret X hQ (o_inj hF) rfl rfl dX12_hasRoom_77
        · refine w_iconst X 1 dX12_hasRoom_72 rfl 73 rfl ?_
          refine w_goto X 77 dX12_hasRoom_73 (by decide) ?_
          exact w_iret X hQ (o_inj hF) rfl rfl dX12_hasRoom_77
  · refine w_iconst X 0 dX12_hasRoom_9 rfl 10 rfl ?_
    exact w_iret X hQ (o_inj hF) rfl rfl dX12_hasRoom_10

def K_X12_of (fu : Nat) (x1 : Int32) (x2 : Int32) (mem : Mem) : Option Int32 := gi ((8 + (7 * x1)) + x2) 184 (some (rd mem 2 (Int32.toNatClampNeg ((8 + (7 * x1)) + x2))))
def rm_X12_of : Room := { frames := 0, cells := 0, slots := 0, locals := 0 }
set_option maxHeartbeats 4000000 in
set_option maxRecDepth 100000 in
theorem ct_X12_of (l : Launch) {D : va_G} {ca ad : Nat → Nat} {Z : (Nat → Prop) → State → Heap → Prop} (hZ : ZOK Z) (fu : Nat) (x1 : Int32) (x2 : Int32) (mem : Mem) (res : Int32) (hF : K_X12_of fu x1 x2 mem = some res) : CI l D (tyL ca) 23 ad (cM ca ad) Z yX12_of cX12_of 3 .int rm_X12_of [.ref (ad 0), .int x1, .int x2] mem res mem := by
  refine start_i (own := RX12) rfl (by decide) (Nat.le_of_ble_eq_true rfl) ?_
  intro p e s m args below meth c Q hQ X
  rw [K_X12_of] at hF
  revert hF
  intro hF
  refine w_aload_n X 0 dX12_of_0 rfl rfl 1 rfl ?_
  refine w_getV (v := .ref (ad 2)) X 0 ml_0 mo_0 (T := TX12) (N := 50) rfl in_X12 13 (by decide) kF_X12_20 rfl rfl dX12_of_1 4 rfl ?_
  refine w_bipush X 8 dX12_of_4 rfl 6 rfl ?_
  refine w_bipush X 7 dX12_of_6 rfl 8 rfl ?_
  refine w_iload_n X 1 dX12_of_8 rfl rfl 9 rfl ?_
  refine w_imul X dX12_of_9 10 rfl ?_
  refine w_iadd X dX12_of_10 11 rfl ?_
  refine w_iload_n X 2 dX12_of_11 rfl rfl 12 rfl ?_
  refine w_iadd X dX12_of_12 13 rfl ?_
  refine w_gi hF (fun h_1 hF => ?_)
  refine w_ial X 2 ml_2 mo_2 (t0 := 0) rfl h_1 dX12_of_13 14 rfl ?_
  exact w_iret X hQ (o_inj hF) rfl rfl dX12_of_14

def K_X12_hasFinished (fu : Nat) (x1 : Int32) (mem : Mem) : Option Int32 := bd (K_X12_of fu x1 6 mem) (fun x_1 => (if 0 < x_1 then some 1 else some 0))
def rm_X12_hasFinished : Room := { frames := 1, cells := 0, slots := 0, locals := 22 }
set_option maxHeartbeats 4000000 in
set_option maxRecDepth 100000 in
theorem ct_X12_hasFinished (l : Launch) {D : va_G} {ca ad : Nat → Nat} {Z : (Nat → Prop) → State → Heap → Prop} (hZ : ZOK Z) (fu : Nat) (x1 : Int32) (mem : Mem) (res : Int32) (hF : K_X12_hasFinished fu x1 mem = some res) : CI l D (tyL ca) 23 ad (cM ca ad) Z yX12_hasFinished cX12_hasFinished 2 .boolean rm_X12_hasFinished [.ref (ad 0), .int x1] mem res mem := by
  refine start_i (own := RX12) rfl (by decide) (Nat.le_of_ble_eq_true rfl) ?_
  intro p e s m args below meth c Q hQ X
  rw [K_X12_hasFinished] at hF
  revert hF
  intro hF
  refine w_aload_n X 0 dX12_hasFinished_0 rfl rfl 1 rfl ?_
  refine w_iload_n X 1 dX12_hasFinished_1 rfl rfl 2 rfl ?_
  refine w_bipush X 6 dX12_hasFinished_2 rfl 4 rfl ?_
  refine w_callVi (fun x => x) (fun _ => mem) X hZ hF [.int x1, .int 6] 0 ml_0 mo_0 rfl rfl rfl kB_X12_of kL_X12_174 (fun res h => ct_X12_of l hZ fu x1 6 mem res h) rfl rfl rfl ⟨Nat.le_of_ble_eq_true rfl, Nat.le_of_ble_eq_true rfl⟩ (Nat.le_of_ble_eq_true rfl) ⟨Nat.zero_le _, Nat.zero_le _⟩ dX12_hasFinished_4 7 rfl (fun x_1 hF => ?_)
  refine w_if_le X hF 14 10 dX12_hasFinished_7 (by decide) rfl (fun hF => ?_) (fun hF => ?_)
  · refine w_iconst X 1 dX12_hasFinished_10 rfl 11 rfl ?_
    refine w_goto X 15 dX12_hasFinished_11 (by decide) ?_
    exact w_iret X hQ (o_inj hF) rfl rfl dX12_hasFinished_15
  · refine w_iconst X 0 dX12_hasFinished_14 rfl 15 rfl ?_
    exact w_iret X hQ (o_inj hF) rfl rfl dX12_hasFinished_15

def K_X12_isAtSide (fu : Nat) (x1 : Int32) (x2 : Int32) (x3 : Int32) (mem : Mem) : Option Int32 := (if x3 = 0 then gi 1 184 ((if x2 = ((rd mem 2 (Int32.toNatClampNeg 1)) - 1) then some 1 else some 0)) else (if x3 = 1 then gi 0 184 ((if x1 = ((rd mem 2 (Int32.toNatClampNeg 0)) - 1) then some 1 else some 0)) else (if x3 = 2 then (if x2 = 0 then some 1 else some 0) else (if x1 = 0 then some 1 else some 0))))
def rm_X12_isAtSide : Room := { frames := 0, cells := 0, slots := 0, locals := 0 }
set_option maxHeartbeats 4000000 in
set_option maxRecDepth 100000 in
theorem ct_X12_isAtSide (l : Launch) {D : va_G} {ca ad : Nat → Nat} {Z : (Nat → Prop) → State → Heap → Prop} (hZ : ZOK Z) (fu : Nat) (x1 : Int32) (x2 : Int32) (x3 : Int32) (mem : Mem) (res : Int32) (hF : K_X12_isAtSide fu x1 x2 x3 mem = some res) : CI l D (tyL ca) 23 ad (cM ca ad) Z yX12_isAtSide cX12_isAtSide 4 .boolean rm_X12_isAtSide [.ref (ad 0), .int x1, .int x2, .int x3] mem res mem := by
  refine start_i (own := RX12) rfl (by decide) (Nat.le_of_ble_eq_true rfl) ?_
  intro p e s m args below meth c Q hQ X
  rw [K_X12_isAtSide] at hF
  revert hF
  intro hF
  refine w_iload_n X 3 dX12_isAtSide_0 rfl rfl 1 rfl ?_
  refine w_if_ne X hF 24 4 dX12_isAtSide_1 (by decide) rfl (fun hF => ?_) (fun hF => ?_)
  · refine w_iload_n X 2 dX12_isAtSide_4 rfl rfl 5 rfl ?_
    refine w_aload_n X 0 dX12_isAtSide_5 rfl rfl 6 rfl ?_
    refine w_getV (v := .ref (ad 2)) X 0 ml_0 mo_0 (T := TX12) (N := 50) rfl in_X12 13 (by decide) kF_X12_20 rfl rfl dX12_isAtSide_6 9 rfl ?_
    refine w_iconst X 1 dX12_isAtSide_9 rfl 10 rfl ?_
    refine w_gi hF (fun h_1 hF => ?_)
    refine w_ial X 2 ml_2 mo_2 (t0 := 0) rfl h_1 dX12_isAtSide_10 11 rfl ?_
    refine w_iconst X 1 dX12_isAtSide_11 rfl 12 rfl ?_
    refine w_isub X dX12_isAtSide_12 13 rfl ?_
    refine w_icmp_ne X hF 20 16 dX12_isAtSide_13 (by decide) rfl (fun hF => ?_) (fun hF => ?_)
    · refine w_iconst X 1 dX12_isAtSide_16 rfl 17 rfl ?_
      refine w_goto X 75 dX12_isAtSide_17 (by decide) ?_
      exact w_iret X hQ (o_inj hF) rfl rfl dX12_isAtSide_75
    · refine w_iconst X 0 dX12_isAtSide_20 rfl 21 rfl ?_
      refine w_goto X 75 dX12_isAtSide_21 (by decide) ?_
      exact w_iret X hQ (o_inj hF) rfl rfl dX12_isAtSide_75
  · refine w_iload_n X 3 dX12_isAtSide_24 rfl rfl 25 rfl ?_
    refine w_iconst X 1 dX12_isAtSide_25 rfl 26 rfl ?_
    refine w_icmp_ne X hF 49 29 dX12_isAtSide_26 (by decide) rfl (fun hF => ?_) (fun hF => ?_)
    · refine w_iload_n X 1 dX12_isAtSide_29 rfl rfl 30 rfl ?_
      refine w_aload_n X 0 dX12_isAtSide_30 rfl rfl 31 rfl ?_
      refine w_getV (v := .ref (ad 2)) X 0 ml_0 mo_0 (T := TX12) (N := 50) rfl in_X12 13 (by decide) kF_X12_20 rfl rfl dX12_isAtSide_31 34 rfl ?_
      refine w_iconst X 0 dX12_isAtSide_34 rfl 35 rfl ?_
      refine w_gi hF (fun h_2 hF => ?_)
      refine w_ial X 2 ml_2 mo_2 (t0 := 0) rfl h_2 dX12_isAtSide_35 36 rfl ?_
      refine w_iconst X 1 dX12_isAtSide_36 rfl 37 rfl ?_
      refine w_isub X dX12_isAtSide_37 38 rfl ?_
      refine w_icmp_ne X hF 45 41 dX12_isAtSide_38 (by decide) rfl (fun hF => ?_) (fun hF => ?_)
      · refine w_iconst X 1 dX12_isAtSide_41 rfl 42 rfl ?_
        refine w_goto X 75 dX12_isAtSide_42 (by decide) ?_
        exact w_iret X hQ (o_inj hF) rfl rfl dX12_isAtSide_75
      · refine w_iconst X 0 dX12_isAtSide_45 rfl 46 rfl ?_
        refine w_goto X 75 dX12_isAtSide_46 (by decide) ?_
        exact w_iret X hQ (o_inj hF) rfl rfl dX12_isAtSide_75
    · refine w_iload_n X 3 dX12_isAtSide_49 rfl rfl 50 rfl ?_
      refine w_iconst X 2 dX12_isAtSide_50 rfl 51 rfl ?_
      refine w_icmp_ne X hF 66 54 dX12_isAtSide_51 (by decide) rfl (fun hF => ?_) (fun hF => ?_)
      · refine w_iload_n X 2 dX12_isAtSide_54 rfl rfl 55 rfl ?_
        refine w_if_ne X hF 62 58 dX12_isAtSide_55 (by decide) rfl (fun hF => ?_) (fun hF => ?_)
        · refine w_iconst X 1 dX12_isAtSide_58 rfl 59 rfl ?_
          refine w_goto X 75 dX12_isAtSide_59 (by decide) ?_
          exact w_iret X hQ (o_inj hF) rfl rfl dX12_isAtSide_75
        · refine w_iconst X 0 dX12_isAtSide_62 rfl 63 rfl ?_
          refine w_goto X 75 dX12_isAtSide_63 (by decide) ?_
          exact w_iret X hQ (o_inj hF) rfl rfl dX12_isAtSide_75
      · refine w_iload_n X 1 dX12_isAtSide_66 rfl rfl 67 rfl ?_
        refine w_if_ne X hF 74 70 dX12_isAtSide_67 (by decide) rfl (fun hF => ?_) (fun hF => ?_)
        · refine w_iconst X 1 dX12_isAtSide_70 rfl 71 rfl ?_
          refine w_goto X 75 dX12_isAtSide_71 (by decide) ?_
          exact w_iret X hQ (o_inj hF) rfl rfl dX12_isAtSide_75
        · refine w_iconst X 0 dX12_isAtSide_74 rfl 75 rfl ?_
          exact w_iret X hQ (o_inj hF) rfl rfl dX12_isAtSide_75

def K_X12_comesInto (fu : Nat) (x1 : Int32) (x2 : Int32) (x3 : Int32) (mem : Mem) : Option Mem := gi ((9 * x2) + x1) 81 ((if (rd mem 7 (Int32.toNatClampNeg ((9 * x2) + x1))) = (-1) then gi ((9 * x2) + x1) 81 (lt_ (mw mem 7 (Int32.toNatClampNeg ((9 * x2) + x1)) x3) (fun m_3 => gi (rd m_3 0 22) 81 (lt_ (mw m_3 8 (Int32.toNatClampNeg (rd m_3 0 22)) ((9 * x2) + x1)) (fun m_5 => lt_ (mw m_5 0 22 ((rd m_5 0 22) + 1)) (fun m_6 => some m_6))))) else some mem))
def rm_X12_comesInto : Room := { frames := 0, cells := 0, slots := 0, locals := 0 }
set_option maxHeartbeats 4000000 in
set_option maxRecDepth 100000 in
theorem ct_X12_comesInto (l : Launch) {D : va_G} {ca ad : Nat → Nat} {Z : (Nat → Prop) → State → Heap → Prop} (hZ : ZOK Z) (fu : Nat) (x1 : Int32) (x2 : Int32) (x3 : Int32) (mem : Mem) (res : Mem) (hF : K_X12_comesInto fu x1 x2 x3 mem = some res) : CV l D (tyL ca) 23 ad (cM ca ad) Z yX12_comesInto cX12_comesInto 4 rm_X12_comesInto [.ref (ad 0), .int x1, .int x2, .int x3] mem res := by
  refine start_v (own := RX12) rfl (by decide) (Nat.le_of_ble_eq_true rfl) ?_
  intro p e s m args below meth c Q hQ X
  rw [K_X12_comesInto] at hF
  revert hF
  intro hF
  refine w_aload_n X 0 dX12_comesInto_0 rfl rfl 1 rfl ?_
  refine w_getV (v := .ref (ad 7)) X 0 ml_0 mo_0 (T := TX12) (N := 50) rfl in_X12 20 (by decide) kF_X12_35 rfl rfl dX12_comesInto_1 4 rfl ?_
  refine w_bipush X 9 dX12_comesInto_4 rfl 6 rfl ?_
  refine w_iload_n X 2 dX12_comesInto_6 rfl rfl 7 rfl ?_
  refine w_imul X dX12_comesInto_7 8 rfl ?_
  refine w_iload_n X 1 dX12_comesInto_8 rfl rfl 9 rfl ?_
  refine w_iadd X dX12_comesInto_9 10 rfl ?_
  refine w_gi hF (fun h_1 hF => ?_)
  refine w_ial X 7 ml_7 mo_7 (t0 := 0) rfl h_1 dX12_comesInto_10 11 rfl ?_
  refine w_iconst X (-1) dX12_comesInto_11 rfl 12 rfl ?_
  refine w_icmp_eq X hF 16 15 dX12_comesInto_12 (by decide) rfl (fun hF => ?_) (fun hF => ?_)
  · refine w_aload_n X 0 dX12_comesInto_16 rfl rfl 17 rfl ?_
    refine w_getV (v := .ref (ad 7)) X 0 ml_0 mo_0 (T := TX12) (N := 50) rfl in_X12 20 (by decide) kF_X12_35 rfl rfl dX12_comesInto_17 20 rfl ?_
    refine w_bipush X 9 dX12_comesInto_20 rfl 22 rfl ?_
    refine w_iload_n X 2 dX12_comesInto_22 rfl rfl 23 rfl ?_
    refine w_imul X dX12_comesInto_23 24 rfl ?_
    refine w_iload_n X 1 dX12_comesInto_24 rfl rfl 25 rfl ?_
    refine w_iadd X dX12_comesInto_25 26 rfl ?_
    refine w_iload_n X 3 dX12_comesInto_26 rfl rfl 27 rfl ?_
    refine w_gi hF (fun h_2 hF => ?_)
    refine w_ias X 7 ml_7 mo_7 (t0 := 0) rfl h_2 dX12_comesInto_27 28 rfl ?_
    refine w_letm hF (fun m_3 hF => ?_)
    refine w_aload_n X 0 dX12_comesInto_28 rfl rfl 29 rfl ?_
    refine w_getV (v := .ref (ad 8)) X 0 ml_0 mo_0 (T := TX12) (N := 50) rfl in_X12 21 (by decide) kF_X12_38 rfl rfl dX12_comesInto_29 32 rfl ?_
    refine w_aload_n X 0 dX12_comesInto_32 rfl rfl 33 rfl ?_
    refine w_getV (v := .int (rd m_3 0 22)) X 0 ml_0 mo_0 (T := TX12) (N := 50) rfl in_X12 22 (by decide) kF_X12_196 rfl rfl dX12_comesInto_33 36 rfl ?_
    refine w_bipush X 9 dX12_comesInto_36 rfl 38 rfl ?_
    refine w_iload_n X 2 dX12_comesInto_38 rfl rfl 39 rfl ?_
    refine w_imul X dX12_comesInto_39 40 rfl ?_
    refine w_iload_n X 1 dX12_comesInto_40 rfl rfl 41 rfl ?_
    refine w_iadd X dX12_comesInto_41 42 rfl ?_
    refine w_gi hF (fun h_4 hF => ?_)
    refine w_ias X 8 ml_8 mo_8 (t0 := 0) rfl h_4 dX12_comesInto_42 43 rfl ?_
    refine w_letm hF (fun m_5 hF => ?_)
    refine w_aload_n X 0 dX12_comesInto_43 rfl rfl 44 rfl ?_
    refine w_dup X dX12_comesInto_44 rfl 45 rfl ?_
    refine w_getV (v := .int (rd m_5 0 22)) X 0 ml_0 mo_0 (T := TX12) (N := 50) rfl in_X12 22 (by decide) kF_X12_196 rfl rfl dX12_comesInto_45 48 rfl ?_
    refine w_iconst X 1 dX12_comesInto_48 rfl 49 rfl ?_
    refine w_iadd X dX12_comesInto_49 50 rfl ?_
    refine w_putI X 0 ml_0 mo_0 (T := TX12) (N := 50) rfl in_X12 tyX12 tyX12_ok nmX12 22 (by decide) kF_X12_196 rfl rfl rfl rfl (Nat.le_of_ble_eq_true rfl) rfl dX12_comesInto_50 53 rfl ?_
    refine w_letm hF (fun m_6 hF => ?_)
    exact w_vret X hQ (o_inj hF) dX12_comesInto_53
  · exact w_vret X hQ (o_inj hF) dX12_comesInto_15

def K_X12_up (fu : Nat) (x0 : Int32) (mem : Mem) : Option Int32 := (if x0 = 0 then some 1 else (if x0 = 2 then some (-1) else some 0))
def rm_X12_up : Room := { frames := 0, cells := 0, slots := 0, locals := 0 }
set_option maxHeartbeats 4000000 in
set_option maxRecDepth 100000 in
theorem ct_X12_up (l : Launch) {D : va_G} {ca ad : Nat → Nat} {Z : (Nat → Prop) → State → Heap → Prop} (hZ : ZOK Z) (fu : Nat) (x0 : Int32) (mem : Mem) (res : Int32) (hF : K_X12_up fu x0 mem = some res) : CI l D (tyL ca) 23 ad (cM ca ad) Z yX12_up cX12_up 1 .int rm_X12_up [.int x0] mem res mem := by
  refine start_i (own := RX12) rfl (by decide) (Nat.le_of_ble_eq_true rfl) ?_
  intro p e s m args below meth c Q hQ X
  rw [K_X12_up] at hF
  revert hF
  intro hF
  refine w_iload_n X 0 dX12_up_0 rfl rfl 1 rfl ?_
  refine w_if_ne X hF 8 4 dX12_up_1 (by decide) rfl (fun hF => ?_) (fun hF => ?_)
  · refine w_iconst X 1 dX12_up_4 rfl 5 rfl ?_
    refine w_goto X 18 dX12_up_5 (by decide) ?_
    exact w_iret X hQ (o_inj hF) rfl rfl dX12_up_18
  · refine w_iload_n X 0 dX12_up_8 rfl rfl 9 rfl ?_
    refine w_iconst X 2 dX12_up_9 rfl 10 rfl ?_
    refine w_icmp_ne X hF 17 13 dX12_up_10 (by decide) rfl (fun hF => ?_) (fun hF => ?_)
    · refine w_iconst X (-1) dX12_up_13 rfl 14 rfl ?_
      refine w_goto X 18 dX12_up_14 (by decide) ?_
      exact w_iret X hQ (o_inj hF) rfl rfl dX12_up_18
    · refine w_iconst X 0 dX12_up_17 rfl 18 rfl ?_
      exact w_iret X hQ (o_inj hF) rfl rfl dX12_up_18

def K_X12_isCell (fu : Nat) (x1 : Int32) (x2 : Int32) (mem : Mem) : Option Int32 := gi 0 184 (bd (K_X12_isIn fu (Int32.toInt64 x1) 0 ((((rd mem 2 (Int32.toNatClampNeg 0)) - 1)).toInt64) mem) (fun x_2 => (if x_2 = 0 then some 0 else gi 1 184 (bd (K_X12_isIn fu (Int32.toInt64 x2) 0 ((((rd mem 2 (Int32.toNatClampNeg 1)) - 1)).toInt64) mem) (fun x_4 => (if x_4 = 0 then some 0 else some 1))))))
def rm_X12_isCell : Room := { frames := 1, cells := 0, slots := 0, locals := 25 }
set_option maxHeartbeats 4000000 in
set_option maxRecDepth 100000 in
theorem ct_X12_isCell (l : Launch) {D : va_G} {ca ad : Nat → Nat} {Z : (Nat → Prop) → State → Heap → Prop} (hZ : ZOK Z) (fu : Nat) (x1 : Int32) (x2 : Int32) (mem : Mem) (res : Int32) (hF : K_X12_isCell fu x1 x2 mem = some res) : CI l D (tyL ca) 23 ad (cM ca ad) Z yX12_isCell cX12_isCell 3 .boolean rm_X12_isCell [.ref (ad 0), .int x1, .int x2] mem res mem := by
  refine start_i (own := RX12) rfl (by decide) (Nat.le_of_ble_eq_true rfl) ?_
  intro p e s m args below meth c Q hQ X
  rw [K_X12_isCell] at hF
  revert hF
  intro hF
  refine w_iload_n X 1 dX12_isCell_0 rfl rfl 1 rfl ?_
  refine w_i2l X dX12_isCell_1 2 rfl ?_
  refine w_lconst X 0 dX12_isCell_2 rfl 3 rfl ?_
  refine w_aload_n X 0 dX12_isCell_3 rfl rfl 4 rfl ?_
  refine w_getV (v := .ref (ad 2)) X 0 ml_0 mo_0 (T := TX12) (N := 50) rfl in_X12 13 (by decide) kF_X12_20 rfl rfl dX12_isCell_4 7 rfl ?_
  refine w_iconst X 0 dX12_isCell_7 rfl 8 rfl ?_
  refine w_gi hF (fun h_1 hF => ?_)
  refine w_ial X 2 ml_2 mo_2 (t0 := 0) rfl h_1 dX12_isCell_8 9 rfl ?_
  refine w_iconst X 1 dX12_isCell_9 rfl 10 rfl ?_
  refine w_isub X dX12_isCell_10 11 rfl ?_
  refine w_i2l X dX12_isCell_11 12 rfl ?_
  refine w_callSi (fun x => x) (fun _ => mem) X hZ hF [.long (Int32.toInt64 x1), .long 0, .long ((((rd mem 2 (Int32.toNatClampNeg 0)) - 1)).toInt64)] rfl kB_X12_isIn kL_X12_106 (fun res h => ct_X12_isIn l hZ fu (Int32.toInt64 x1) 0 ((((rd mem 2 (Int32.toNatClampNeg 0)) - 1)).toInt64) mem res h) rfl rfl rfl ⟨Nat.le_of_ble_eq_true rfl, Nat.le_of_ble_eq_true rfl⟩ (Nat.le_of_ble_eq_true rfl) ⟨Nat.zero_le _, Nat.zero_le _⟩ dX12_isCell_12 15 rfl (fun x_2 hF => ?_)
  refine w_if_eq X hF 40 18 dX12_isCell_15 (by decide) rfl (fun hF => ?_) (fun hF => ?_)
  · refine w_iconst X 0 dX12_isCell_40 rfl 41 rfl ?_
    exact w_iret X hQ (o_inj hF) rfl rfl dX12_isCell_41
  · refine w_iload_n X 2 dX12_isCell_18 rfl rfl 19 rfl ?_
    refine w_i2l X dX12_isCell_19 20 rfl ?_
    refine w_lconst X 0 dX12_isCell_20 rfl 21 rfl ?_
    refine w_aload_n X 0 dX12_isCell_21 rfl rfl 22 rfl ?_
    refine w_getV (v := .ref (ad 2)) X 0 ml_0 mo_0 (T := TX12) (N := 50) rfl in_X12 13 (by decide) kF_X12_20 rfl rfl dX12_isCell_22 25 rfl ?_
    refine w_iconst X 1 dX12_isCell_25 rfl 26 rfl ?_
    refine w_gi hF (fun h_3 hF => ?_)
    refine w_ial X 2 ml_2 mo_2 (t0 := 0) rfl h_3 dX12_isCell_26 27 rfl ?_
    refine w_iconst X 1 dX12_isCell_27 rfl 28 rfl ?_
    refine w_isub X dX12_isCell_28 29 rfl ?_
    refine w_i2l X dX12_isCell_29 30 rfl ?_
    refine w_callSi (fun x => x) (fun _ => mem) X hZ hF [.long (Int32.toInt64 x2), .long 0, .long ((((rd mem 2 (Int32.toNatClampNeg 1)) - 1)).toInt64)] rfl kB_X12_isIn kL_X12_106 (fun res h => ct_X12_isIn l hZ fu (Int32.toInt64 x2) 0 ((((rd mem 2 (Int32.toNatClampNeg 1)) - 1)).toInt64) mem res h) rfl rfl rfl ⟨Nat.le_of_ble_eq_true rfl, Nat.le_of_ble_eq_true rfl⟩ (Nat.le_of_ble_eq_true rfl) ⟨Nat.zero_le _, Nat.zero_le _⟩ dX12_isCell_30 33 rfl (fun x_4 hF => ?_)
    refine w_if_eq X hF 40 36 dX12_isCell_33 (by decide) rfl (fun hF => ?_) (fun hF => ?_)
    · refine w_iconst X 0 dX12_isCell_40 rfl 41 rfl ?_
      exact w_iret X hQ (o_inj hF) rfl rfl dX12_isCell_41
    · refine w_iconst X 1 dX12_isCell_36 rfl 37 rfl ?_
      refine w_goto X 41 dX12_isCell_37 (by decide) ?_
      exact w_iret X hQ (o_inj hF) rfl rfl dX12_isCell_41

def K_X12_less (fu : Nat) (x0 : Int32) (x1 : Int32) (mem : Mem) : Option Int32 := (if x0 < x1 then some x0 else some x1)
def rm_X12_less : Room := { frames := 0, cells := 0, slots := 0, locals := 0 }
set_option maxHeartbeats 4000000 in
set_option maxRecDepth 100000 in
theorem ct_X12_less (l : Launch) {D : va_G} {ca ad : Nat → Nat} {Z : (Nat → Prop) → State → Heap → Prop} (hZ : ZOK Z) (fu : Nat) (x0 : Int32) (x1 : Int32) (mem : Mem) (res : Int32) (hF : K_X12_less fu x0 x1 mem = some res) : CI l D (tyL ca) 23 ad (cM ca ad) Z yX12_less cX12_less 2 .int rm_X12_less [.int x0, .int x1] mem res mem := by
  refine start_i (own := RX12) rfl (by decide) (Nat.le_of_ble_eq_true rfl) ?_
  intro p e s m args below meth c Q hQ X
  rw [K_X12_less] at hF
  revert hF
  intro hF
  refine w_iload_n X 0 dX12_less_0 rfl rfl 1 rfl ?_
  refine w_iload_n X 1 dX12_less_1 rfl rfl 2 rfl ?_
  refine w_icmp_ge X hF 9 5 dX12_less_2 (by decide) rfl (fun hF => ?_) (fun hF => ?_)
  · refine w_iload_n X 0 dX12_less_5 rfl rfl 6 rfl ?_
    refine w_goto X 10 dX12_less_6 (by decide) ?_
    exact w_iret X hQ (o_inj hF) rfl rfl dX12_less_10
  · refine w_iload_n X 1 dX12_less_9 rfl rfl 10 rfl ?_
    exact w_iret X hQ (o_inj hF) rfl rfl dX12_less_10

def K_X12_blocks_105 (fu : Nat) (mem : Mem) : Option Int32 := some 1
def K_X12_blocks_75 (fu : Nat) (mem : Mem) : Option Int32 := some 1
def K_X12_blocks (fu : Nat) (x1 : Int32) (x2 : Int32) (x3 : Int32) (mem : Mem) : Option Int32 := bd (K_X12_across fu x3 mem) (fun x_1 => lt_ (x1 + x_1) (fun x_2 => bd (K_X12_up fu x3 mem) (fun x_3 => lt_ (x2 + x_3) (fun x_4 => bd (K_X12_isCell fu x_2 x_4 mem) (fun x_5 => (if x_5 = 0 then some 1 else bd (K_X12_less fu x1 x_2 mem) (fun x_6 => bd (K_X12_less fu x2 x_4 mem) (fun x_7 => (if x_2 = x1 then bd (K_X12_wall fu x1 x_7 mem) (fun x_8 => (if x_8 = 1 then (K_X12_blocks_75 fu mem ) else bd (K_X12_wall fu (x1 - 1) x_7 mem) (fun x_9 => (if x_9 = 1 then (K_X12_blocks_75 fu mem ) else some 0)))) else bd (K_X12_wall fu x_6 x2 mem) (fun x_10 => (if x_10 = 2 then (K_X12_blocks_105 fu mem ) else bd (K_X12_wall fu x_6 (x2 - 1) mem) (fun x_11 => (if x_11 = 2 then (K_X12_blocks_105 fu mem ) else some 0)))))))))))))
def rm_X12_blocks : Room := { frames := 3, cells := 0, slots := 0, locals := 69 }
set_option maxHeartbeats 4000000 in
set_option maxRecDepth 100000 in
theorem ct_X12_blocks (l : Launch) {D : va_G} {ca ad : Nat → Nat} {Z : (Nat → Prop) → State → Heap → Prop} (hZ : ZOK Z) (fu : Nat) (x1 : Int32) (x2 : Int32) (x3 : Int32) (mem : Mem) (res : Int32) (hF : K_X12_blocks fu x1 x2 x3 mem = some res) : CI l D (tyL ca) 23 ad (cM ca ad) Z yX12_blocks cX12_blocks 8 .boolean rm_X12_blocks [.ref (ad 0), .int x1, .int x2, .int x3] mem res mem := by
  refine start_i (own := RX12) rfl (by decide) (Nat.le_of_ble_eq_true rfl) ?_
  intro p e s m args below meth c Q hQ X
  rw [K_X12_blocks] at hF
  revert hF
  have w_105 : K_X12_blocks_105 fu mem = some res → WW D 23 ad (cM ca ad) p l e rm_X12_blocks s m args below meth c 8 0 0 Q mem 105 [] [] := by
    intro hF
    rw [K_X12_blocks_105] at hF
    refine w_iconst X 1 dX12_blocks_105 rfl 106 rfl ?_
    refine w_goto X 110 dX12_blocks_106 (by decide) ?_
    exact w_iret X hQ (o_inj hF) rfl rfl dX12_blocks_110
  have w_75 : K_X12_blocks_75 fu mem = some res → WW D 23 ad (cM ca ad) p l e rm_X12_blocks s m args below meth c 8 0 0 Q mem 75 [] [] := by
    intro hF
    rw [K_X12_blocks_75] at hF
    refine w_iconst X 1 dX12_blocks_75 rfl 76 rfl ?_
    refine w_goto X 80 dX12_blocks_76 (by decide) ?_
    exact w_iret X hQ (o_inj hF) rfl rfl dX12_blocks_80
  intro hF
  refine w_iload_n X 1 dX12_blocks_0 rfl rfl 1 rfl ?_
  refine w_iload_n X 3 dX12_blocks_1 rfl rfl 2 rfl ?_
  refine w_callSi (fun x => x) (fun _ => mem) X hZ hF [.int x3] rfl kB_X12_across kL_X12_181 (fun res h => ct_X12_across l hZ fu x3 mem res h) rfl rfl rfl ⟨Nat.le_of_ble_eq_true rfl, Nat.le_of_ble_eq_true rfl⟩ (Nat.le_of_ble_eq_true rfl) ⟨Nat.zero_le _, Nat.zero_le _⟩ dX12_blocks_2 5 rfl (fun x_1 hF => ?_)
  refine w_iadd X dX12_blocks_5 6 rfl ?_
  refine w_let hF (fun x_2 hF => ?_)
  refine w_istore X [(4, .int x_2), (0, .ref (ad 0)), (1, .int x1), (2, .int x2), (3, .int x3)] dX12_blocks_6 (by decide) rfl 8 rfl ?_
  refine w_iload_n X 3 dX12_blocks_8 rfl rfl 9 rfl ?_
  refine w_iload_n X 4 dX12_blocks_9 rfl rfl 10 rfl ?_
  refine w_callSi (fun x => x) (fun _ => mem) X hZ hF [.int x3] rfl kB_X12_up kL_X12_184 (fun res h => ct_X12_up l hZ fu x3 mem res h) rfl rfl rfl ⟨Nat.le_of_ble_eq_true rfl, Nat.le_of_ble_eq_true rfl⟩ (Nat.le_of_ble_eq_true rfl) ⟨Nat.zero_le _, Nat.zero_le _⟩ dX12_blocks_10 13 rfl (fun x_3 hF => ?_)
  refine w_iadd X dX12_blocks_13 14 rfl ?_
  refine w_let hF (fun x_4 hF => ?_)
  refine w_istore X [(5, .int x_4), (4, .int x_2), (0, .ref (ad 0)), (1, .int x1), (2, .int x2), (3, .int x3)] dX12_blocks_14 (by decide) rfl 16 rfl ?_
  refine w_aload_n X 2 dX12_blocks_16 rfl rfl 17 rfl ?_
  refine w_iload X 1 dX12_blocks_17 rfl 19 rfl ?_
  refine w_iload X 0 dX12_blocks_19 rfl 21 rfl ?_
  refine w_callVi (fun x => x) (fun _ => mem) X hZ hF [.int x_2, .int x_4] 0 ml_0 mo_0 rfl rfl rfl kB_X12_isCell kL_X12_187 (fun res h => ct_X12_isCell l hZ fu x_2 x_4 mem res h) rfl rfl rfl ⟨Nat.le_of_ble_eq_true rfl, Nat.le_of_ble_eq_true rfl⟩ (Nat.le_of_ble_eq_true rfl) ⟨Nat.zero_le _, Nat.zero_le _⟩ dX12_blocks_21 24 rfl (fun x_5 hF => ?_)
  refine w_if_ne X hF 29 27 dX12_blocks_24 (by decide) rfl (fun hF => ?_) (fun hF => ?_)
  · refine w_iconst X 1 dX12_blocks_27 rfl 28 rfl ?_
    exact w_iret X hQ (o_inj hF) rfl rfl dX12_blocks_28
  · refine w_iload_n X 3 dX12_blocks_29 rfl rfl 30 rfl ?_
    refine w_iload X 1 dX12_blocks_30 rfl 32 rfl ?_
    refine w_callSi (fun x => x) (fun _ => mem) X hZ hF [.int x1, .int x_2] rfl kB_X12_less kL_X12_190 (fun res h => ct_X12_less l hZ fu x1 x_2 mem res h) rfl rfl rfl ⟨Nat.le_of_ble_eq_true rfl, Nat.le_of_ble_eq_true rfl⟩ (Nat.le_of_ble_eq_true rfl) ⟨Nat.zero_le _, Nat.zero_le _⟩ dX12_blocks_32 35 rfl (fun x_6 hF => ?_)
    refine w_istore X [(6, .int x_6), (5, .int x_4), (4, .int x_2), (0, .ref (ad 0)), (1, .int x1), (2, .int x2), (3, .int x3)] dX12_blocks_35 (by decide) rfl 37 rfl ?_
    refine w_iload_n X 5 dX12_blocks_37 rfl rfl 38 rfl ?_
    refine w_iload X 1 dX12_blocks_38 rfl 40 rfl ?_
    refine w_callSi (fun x => x) (fun _ => mem) X hZ hF [.int x2, .int x_4] rfl kB_X12_less kL_X12_190 (fun res h => ct_X12_less l hZ fu x2 x_4 mem res h) rfl rfl rfl ⟨Nat.le_of_ble_eq_true rfl, Nat.le_of_ble_eq_true rfl⟩ (Nat.le_of_ble_eq_true rfl) ⟨Nat.zero_le _, Nat.zero_le _⟩ dX12_blocks_40 43 rfl (fun x_7 hF => ?_)
    refine w_istore X [(7, .int x_7), (6, .int x_6), (5, .int x_4), (4, .int x_2), (0, .ref (ad 0)), (1, .int x1), (2, .int x2), (3, .int x3)] dX12_blocks_43 (by decide) rfl 45 rfl ?_
    refine w_iload X 3 dX12_blocks_45 rfl 47 rfl ?_
    refine w_iload_n X 5 dX12_blocks_47 rfl rfl 48 rfl ?_
    refine w_icmp_ne X hF 81 51 dX12_blocks_48 (by decide) rfl (fun hF => ?_) (fun hF => ?_)
    · refine w_aload_n X 4 dX12_blocks_51 rfl rfl 52 rfl ?_
      refine w_iload_n X 5 dX12_blocks_52 rfl rfl 53 rfl ?_
      refine w_iload X 0 dX12_blocks_53 rfl 55 rfl ?_
      refine w_callVi (fun x => x) (fun _ => mem) X hZ hF [.int x1, .int x_7] 0 ml_0 mo_0 rfl rfl rfl kB_X12_wall kL_X12_193 (fun res h => ct_X12_wall l hZ fu x1 x_7 mem res h) rfl rfl rfl ⟨Nat.le_of_ble_eq_true rfl, Nat.le_of_ble_eq_true rfl⟩ (Nat.le_of_ble_eq_true rfl) ⟨Nat.zero_le _, Nat.zero_le _⟩ dX12_blocks_55 58 rfl (fun x_8 hF => ?_)
      refine w_iconst X 1 dX12_blocks_58 rfl 59 rfl ?_
      refine w_icmp_eq X hF 75 62 dX12_blocks_59 (by decide) rfl (fun hF => ?_) (fun hF => ?_)
      · refine w_keep [] rfl ?_
        exact w_75  hF
      · refine w_aload_n X 4 dX12_blocks_62 rfl rfl 63 rfl ?_
        refine w_iload_n X 5 dX12_blocks_63 rfl rfl 64 rfl ?_
        refine w_iconst X 1 dX12_blocks_64 rfl 65 rfl ?_
        refine w_isub X dX12_blocks_65 66 rfl ?_
        refine w_iload X 0 dX12_blocks_66 rfl 68 rfl ?_
        refine w_callVi (fun x => x) (fun _ => mem) X hZ hF [.int (x1 - 1), .int x_7] 0 ml_0 mo_0 rfl rfl rfl kB_X12_wall kL_X12_193 (fun res h => ct_X12_wall l hZ fu (x1 - 1) x_7 mem res h) rfl rfl rfl ⟨Nat.le_of_ble_eq_true rfl, Nat.le_of_ble_eq_true rfl⟩ (Nat.le_of_ble_eq_true rfl) ⟨Nat.zero_le _, Nat.zero_le _⟩ dX12_blocks_68 71 rfl (fun x_9 hF => ?_)
        refine w_iconst X 1 dX12_blocks_71 rfl 72 rfl ?_
        refine w_icmp_ne X hF 79 75 dX12_blocks_72 (by decide) rfl (fun hF => ?_) (fun hF => ?_)
        · refine w_keep [] rfl ?_
          exact w_75  hF
        · refine w_iconst X 0 dX12_blocks_79 rfl 80 rfl ?_
          exact w_iret X hQ (o_inj hF) rfl rfl dX12_blocks_80
    · refine w_aload_n X 4 dX12_blocks_81 rfl rfl 82 rfl ?_
      refine w_iload X 1 dX12_blocks_82 rfl 84 rfl ?_
      refine w_iload_n X 6 dX12_blocks_84 rfl rfl 85 rfl ?_
      refine w_callVi (fun x => x) (fun _ => mem) X hZ hF [.int x_6, .int x2] 0 ml_0 mo_0 rfl rfl rfl kB_X12_wall kL_X12_193 (fun res h => ct_X12_wall l hZ fu x_6 x2 mem res h) rfl rfl rfl ⟨Nat.le_of_ble_eq_true rfl, Nat.le_of_ble_eq_true rfl⟩ (Nat.le_of_ble_eq_true rfl) ⟨Nat.zero_le _, Nat.zero_le _⟩ dX12_blocks_85 88 rfl (fun x_10 hF => ?_)
      refine w_iconst X 2 dX12_blocks_88 rfl 89 rfl ?_
      refine w_icmp_eq X hF 105 92 dX12_blocks_89 (by decide) rfl (fun hF => ?_) (fun hF => ?_)
      · refine w_keep [] rfl ?_
        exact w_105  hF
      · refine w_aload_n X 4 dX12_blocks_92 rfl rfl 93 rfl ?_
        refine w_iload X 1 dX12_blocks_93 rfl 95 rfl ?_
        refine w_iload_n X 6 dX12_blocks_95 rfl rfl 96 rfl ?_
        refine w_iconst X 1 dX12_blocks_96 rfl 97 rfl ?_
        refine w_isub X dX12_blocks_97 98 rfl ?_
        refine w_callVi (fun x => x) (fun _ => mem) X hZ hF [.int x_6, .int (x2 - 1)] 0 ml_0 mo_0 rfl rfl rfl kB_X12_wall kL_X12_193 (fun res h => ct_X12_wall l hZ fu x_6 (x2 - 1) mem res h) rfl rfl rfl ⟨Nat.le_of_ble_eq_true rfl, Nat.le_of_ble_eq_true rfl⟩ (Nat.le_of_ble_eq_true rfl) ⟨Nat.zero_le _, Nat.zero_le _⟩ dX12_blocks_98 101 rfl (fun x_11 hF => ?_)
        refine w_iconst X 2 dX12_blocks_101 rfl 102 rfl ?_
        refine w_icmp_ne X hF 109 105 dX12_blocks_102 (by decide) rfl (fun hF => ?_) (fun hF => ?_)
        · refine w_keep [] rfl ?_
          exact w_105  hF
        · refine w_iconst X 0 dX12_blocks_109 rfl 110 rfl ?_
          exact w_iret X hQ (o_inj hF) rfl rfl dX12_blocks_110

def K_X12_goesAround_13 (fu : Nat) : Nat → Int32 → Int32 → Int32 → Int32 → Mem → Option Mem
  | 0, _, _, _, _, _ => none
  | n + 1, x1, x2, x3, x4, mem => (if x4 < 4 then bd (K_X12_blocks fu x2 x3 x4 mem) (fun x_3 => (if x_3 = 0 then bd (K_X12_across fu x4 mem) (fun x_4 => bd (K_X12_up fu x4 mem) (fun x_5 => gi x1 81 (bd (K_X12_comesInto fu (x2 + x_4) (x3 + x_5) ((rd mem 7 (Int32.toNatClampNeg x1)) + 1) mem) (fun m_7 => (K_X12_goesAround_13 fu n x1 x2 x3 (x4 + 1) m_7))))) else (K_X12_goesAround_13 fu n x1 x2 x3 (x4 + 1) mem))) else some mem)
def K_X12_goesAround (fu : Nat) (x1 : Int32) (mem : Mem) : Option Mem := lt_ (x1 - x1 / 9 * 9) (fun x_1 => lt_ (x1 / 9) (fun x_2 => (K_X12_goesAround_13 fu fu x1 x_1 x_2 0 mem)))
def rm_X12_goesAround : Room := { frames := 4, cells := 0, slots := 0, locals := 96 }
set_option maxHeartbeats 4000000 in
set_option maxRecDepth 100000 in
theorem ct_X12_goesAround (l : Launch) {D : va_G} {ca ad : Nat → Nat} {Z : (Nat → Prop) → State → Heap → Prop} (hZ : ZOK Z) (fu : Nat) (x1 : Int32) (mem : Mem) (res : Mem) (hF : K_X12_goesAround fu x1 mem = some res) : CV l D (tyL ca) 23 ad (cM ca ad) Z yX12_goesAround cX12_goesAround 5 rm_X12_goesAround [.ref (ad 0), .int x1] mem res := by
  refine start_v (own := RX12) rfl (by decide) (Nat.le_of_ble_eq_true rfl) ?_
  intro p e s m args below meth c Q hQ X
  rw [K_X12_goesAround] at hF
  revert hF
  have w_13 : ∀ (n : Nat) (x1 : Int32) (x2 : Int32) (x3 : Int32) (x4 : Int32) (mem : Mem), K_X12_goesAround_13 fu n x1 x2 x3 x4 mem = some res → WW D 23 ad (cM ca ad) p l e rm_X12_goesAround s m args below meth c 5 0 0 Q mem 13 [(0, .ref (ad 0)), (1, .int x1), (2, .int x2), (3, .int x3), (4, .int x4)] [] := by
    intro n
    induction n with
    | zero => intro x1 x2 x3 x4 mem hF; exact no_none (show (none : Option Mem) = some res from hF)
    | succ n ih =>
      intro x1 x2 x3 x4 mem hF
      rw [K_X12_goesAround_13] at hF
      refine w_iload X 4 dX12_goesAround_13 rfl 15 rfl ?_
      refine w_iconst X 4 dX12_goesAround_15 rfl 16 rfl ?_
      refine w_icmp_ge X hF 62 19 dX12_goesAround_16 (by decide) rfl (fun hF => ?_) (fun hF => ?_)
      · refine w_aload_n X 0 dX12_goesAround_19 rfl rfl 20 rfl ?_
        refine w_iload_n X 2 dX12_goesAround_20 rfl rfl 21 rfl ?_
        refine w_iload_n X 3 dX12_goesAround_21 rfl rfl 22 rfl ?_
        refine w_iload X 4 dX12_goesAround_22 rfl 24 rfl ?_
        refine w_callVi (fun x => x) (fun _ => mem) X hZ hF [.int x2, .int x3, .int x4] 0 ml_0 mo_0 rfl rfl rfl kB_X12_blocks kL_X12_210 (fun res h => ct_X12_blocks l hZ fu x2 x3 x4 mem res h) rfl rfl rfl ⟨Nat.le_of_ble_eq_true rfl, Nat.le_of_ble_eq_true rfl⟩ (Nat.le_of_ble_eq_true rfl) ⟨Nat.zero_le _, Nat.zero_le _⟩ dX12_goesAround_24 27 rfl (fun x_3 hF => ?_)
        refine w_if_ne X hF 56 30 dX12_goesAround_27 (by decide) rfl (fun hF => ?_) (fun hF => ?_)
        · refine w_aload_n X 0 dX12_goesAround_30 rfl rfl 31 rfl ?_
          refine w_iload_n X 2 dX12_goesAround_31 rfl rfl 32 rfl ?_
          refine w_iload X 4 dX12_goesAround_32 rfl 34 rfl ?_
          refine w_callSi (fun x => x) (fun _ => mem) X hZ hF [.int x4] rfl kB_X12_across kL_X12_181 (fun res h => ct_X12_across l hZ fu x4 mem res h) rfl rfl rfl ⟨Nat.le_of_ble_eq_true rfl, Nat.le_of_ble_eq_true rfl⟩ (Nat.le_of_ble_eq_true rfl) ⟨Nat.zero_le _, Nat.zero_le _⟩ dX12_goesAround_34 37 rfl (fun x_4 hF => ?_)
          refine w_iadd X dX12_goesAround_37 38 rfl ?_
          refine w_iload_n X 3 dX12_goesAround_38 rfl rfl 39 rfl ?_
          refine w_iload X 4 dX12_goesAround_39 rfl 41 rfl ?_
          refine w_callSi (fun x => x) (fun _ => mem) X hZ hF [.int x4] rfl kB_X12_up kL_X12_184 (fun res h => ct_X12_up l hZ fu x4 mem res h) rfl rfl rfl ⟨Nat.le_of_ble_eq_true rfl, Nat.le_of_ble_eq_true rfl⟩ (Nat.le_of_ble_eq_true rfl) ⟨Nat.zero_le _, Nat.zero_le _⟩ dX12_goesAround_41 44 rfl (fun x_5 hF => ?_)
          refine w_iadd X dX12_goesAround_44 45 rfl ?_
          refine w_aload_n X 0 dX12_goesAround_45 rfl rfl 46 rfl ?_
          refine w_getV (v := .ref (ad 7)) X 0 ml_0 mo_0 (T := TX12) (N := 50) rfl in_X12 20 (by decide) kF_X12_35 rfl rfl dX12_goesAround_46 49 rfl ?_
          refine w_iload_n X 1 dX12_goesAround_49 rfl rfl 50 rfl ?_
          refine w_gi hF (fun h_6 hF => ?_)
          refine w_ial X 7 ml_7 mo_7 (t0 := 0) rfl h_6 dX12_goesAround_50 51 rfl ?_
          refine w_iconst X 1 dX12_goesAround_51 rfl 52 rfl ?_
          refine w_iadd X dX12_goesAround_52 53 rfl ?_
          refine w_callVv (fun m => m) X hZ hF [.int (x2 + x_4), .int (x3 + x_5), .int ((rd mem 7 (Int32.toNatClampNeg x1)) + 1)] 0 ml_0 mo_0 rfl rfl rfl kB_X12_comesInto kL_X12_203 (fun res h => ct_X12_comesInto l hZ fu (x2 + x_4) (x3 + x_5) ((rd mem 7 (Int32.toNatClampNeg x1)) + 1) mem res h) rfl rfl rfl ⟨Nat.le_of_ble_eq_true rfl, Nat.le_of_ble_eq_true rfl⟩ (Nat.le_of_ble_eq_true rfl) ⟨Nat.zero_le _, Nat.zero_le _⟩ dX12_goesAround_53 56 rfl (fun m_7 hF => ?_)
          refine w_iinc X 4 (x4 + 1) [(4, .int (x4 + 1)), (0, .ref (ad 0)), (1, .int x1), (2, .int x2), (3, .int x3)] dX12_goesAround_56 rfl rfl (by decide) rfl 59 rfl ?_
          refine w_goto X 13 dX12_goesAround_59 (by decide) ?_
          refine w_keep [1, 2, 3, 4, 0] rfl ?_
          exact ih x1 x2 x3 (x4 + 1) m_7 hF
        · refine w_iinc X 4 (x4 + 1) [(4, .int (x4 + 1)), (0, .ref (ad 0)), (1, .int x1), (2, .int x2), (3, .int x3)] dX12_goesAround_56 rfl rfl (by decide) rfl 59 rfl ?_
          refine w_goto X 13 dX12_goesAround_59 (by decide) ?_
          refine w_keep [1, 2, 3, 4, 0] rfl ?_
          exact ih x1 x2 x3 (x4 + 1) mem hF
      · exact w_vret X hQ (o_inj hF) dX12_goesAround_62
  intro hF
  refine w_iload_n X 1 dX12_goesAround_0 rfl rfl 1 rfl ?_
  refine w_bipush X 9 dX12_goesAround_1 rfl 3 rfl ?_
  refine w_irem X (by decide) dX12_goesAround_3 4 rfl ?_
  refine w_let hF (fun x_1 hF => ?_)
  refine w_istore_n X [(2, .int x_1), (0, .ref (ad 0)), (1, .int x1)] dX12_goesAround_4 rfl (by decide) rfl 5 rfl ?_
  refine w_iload_n X 2 dX12_goesAround_5 rfl rfl 6 rfl ?_
  refine w_bipush X 9 dX12_goesAround_6 rfl 8 rfl ?_
  refine w_idiv X (by decide) dX12_goesAround_8 9 rfl ?_
  refine w_let hF (fun x_2 hF => ?_)
  refine w_istore_n X [(3, .int x_2), (2, .int x_1), (0, .ref (ad 0)), (1, .int x1)] dX12_goesAround_9 rfl (by decide) rfl 10 rfl ?_
  refine w_iconst X 0 dX12_goesAround_10 rfl 11 rfl ?_
  refine w_istore X [(4, .int 0), (3, .int x_2), (2, .int x_1), (0, .ref (ad 0)), (1, .int x1)] dX12_goesAround_11 (by decide) rfl 13 rfl ?_
  refine w_keep [3, 4, 2, 1, 0] rfl ?_
  exact w_13 fu x1 x_1 x_2 0 mem hF

def K_X12_lays_81 (fu : Nat) : Nat → Int32 → Mem → Option Mem
  | 0, _, _ => none
  | n + 1, x2, mem => (if x2 < (rd mem 0 22) then gi x2 81 (bd (K_X12_goesAround fu (rd mem 8 (Int32.toNatClampNeg x2)) mem) (fun m_9 => (K_X12_lays_81 fu n (x2 + 1) m_9))) else some mem)
def K_X12_lays_40 (fu : Nat) (k_28 : Int32 → Int32 → Mem → Option Mem) : Nat → Int32 → Int32 → Int32 → Mem → Option Mem
  | 0, _, _, _, _ => none
  | n + 1, x1, x2, x3, mem => gi 0 184 ((if x3 < (rd mem 2 (Int32.toNatClampNeg 0)) then bd (K_X12_isAtSide fu x3 x2 x1 mem) (fun x_6 => (if x_6 = 0 then (K_X12_lays_40 fu k_28 n x1 x2 (x3 + 1) mem) else bd (K_X12_comesInto fu x3 x2 0 mem) (fun m_7 => (K_X12_lays_40 fu k_28 n x1 x2 (x3 + 1) m_7)))) else (k_28 x1 (x2 + 1) mem)))
def K_X12_lays_28 (fu : Nat) : Nat → Int32 → Int32 → Mem → Option Mem
  | 0, _, _, _ => none
  | n + 1, x1, x2, mem => gi 1 184 ((if x2 < (rd mem 2 (Int32.toNatClampNeg 1)) then (K_X12_lays_40 fu (K_X12_lays_28 fu n) fu x1 x2 0 mem) else (K_X12_lays_81 fu fu 0 mem)))
def K_X12_lays_7 (fu : Nat) : Nat → Int32 → Int32 → Mem → Option Mem
  | 0, _, _, _ => none
  | n + 1, x1, x2, mem => (if x2 < 81 then gi x2 81 (lt_ (mw mem 7 (Int32.toNatClampNeg x2) (-1)) (fun m_3 => (K_X12_lays_7 fu n x1 (x2 + 1) m_3))) else (K_X12_lays_28 fu fu x1 0 mem))
def K_X12_lays (fu : Nat) (x1 : Int32) (mem : Mem) : Option Mem := lt_ (mw mem 0 22 0) (fun m_1 => (K_X12_lays_7 fu fu x1 0 m_1))
def rm_X12_lays : Room := { frames := 5, cells := 0, slots := 0, locals := 120 }
set_option maxHeartbeats 4000000 in
set_option maxRecDepth 100000 in
theorem ct_X12_lays (l : Launch) {D : va_G} {ca ad : Nat → Nat} {Z : (Nat → Prop) → State → Heap → Prop} (hZ : ZOK Z) (fu : Nat) (x1 : Int32) (mem : Mem) (res : Mem) (hF : K_X12_lays fu x1 mem = some res) : CV l D (tyL ca) 23 ad (cM ca ad) Z yX12_lays cX12_lays 4 rm_X12_lays [.ref (ad 0), .int x1] mem res := by
  refine start_v (own := RX12) rfl (by decide) (Nat.le_of_ble_eq_true rfl) ?_
  intro p e s m args below meth c Q hQ X
  rw [K_X12_lays] at hF
  revert hF
  have w_81 : ∀ (n : Nat) (x2 : Int32) (mem : Mem), K_X12_lays_81 fu n x2 mem = some res → WW D 23 ad (cM ca ad) p l e rm_X12_lays s m args below meth c 4 0 0 Q mem 81 [(0, .ref (ad 0)), (2, .int x2)] [] := by
    intro n
    induction n with
    | zero => intro x2 mem hF; exact no_none (show (none : Option Mem) = some res from hF)
    | succ n ih =>
      intro x2 mem hF
      rw [K_X12_lays_81] at hF
      refine w_iload_n X 1 dX12_lays_81 rfl rfl 82 rfl ?_
      refine w_aload_n X 0 dX12_lays_82 rfl rfl 83 rfl ?_
      refine w_getV (v := .int (rd mem 0 22)) X 0 ml_0 mo_0 (T := TX12) (N := 50) rfl in_X12 22 (by decide) kF_X12_196 rfl rfl dX12_lays_83 86 rfl ?_
      refine w_icmp_ge X hF 105 89 dX12_lays_86 (by decide) rfl (fun hF => ?_) (fun hF => ?_)
      · refine w_aload_n X 0 dX12_lays_89 rfl rfl 90 rfl ?_
        refine w_aload_n X 0 dX12_lays_90 rfl rfl 91 rfl ?_
        refine w_getV (v := .ref (ad 8)) X 0 ml_0 mo_0 (T := TX12) (N := 50) rfl in_X12 21 (by decide) kF_X12_38 rfl rfl dX12_lays_91 94 rfl ?_
        refine w_iload_n X 1 dX12_lays_94 rfl rfl 95 rfl ?_
        refine w_gi hF (fun h_8 hF => ?_)
        refine w_ial X 8 ml_8 mo_8 (t0 := 0) rfl h_8 dX12_lays_95 96 rfl ?_
        refine w_callVv (fun m => m) X hZ hF [.int (rd mem 8 (Int32.toNatClampNeg x2))] 0 ml_0 mo_0 rfl rfl rfl kB_X12_goesAround kL_X12_207 (fun res h => ct_X12_goesAround l hZ fu (rd mem 8 (Int32.toNatClampNeg x2)) mem res h) rfl rfl rfl ⟨Nat.le_of_ble_eq_true rfl, Nat.le_of_ble_eq_true rfl⟩ (Nat.le_of_ble_eq_true rfl) ⟨Nat.zero_le _, Nat.zero_le _⟩ dX12_lays_96 99 rfl (fun m_9 hF => ?_)
        refine w_iinc X 1 (x2 + 1) [(2, .int (x2 + 1)), (0, .ref (ad 0))] dX12_lays_99 rfl rfl (by decide) rfl 102 rfl ?_
        refine w_goto X 81 dX12_lays_102 (by decide) ?_
        refine w_keep [1, 0] rfl ?_
        exact ih (x2 + 1) m_9 hF
      · exact w_vret X hQ (o_inj hF) dX12_lays_105
  have w_40 : ∀ (k_28 : Int32 → Int32 → Mem → Option Mem) (hk_28 : ∀ (x1 : Int32) (x2 : Int32) (mem : Mem), k_28 x1 x2 mem = some res → WW D 23 ad (cM ca ad) p l e rm_X12_lays s m args below meth c 4 0 0 Q mem 28 [(0, .ref (ad 0)), (1, .int x1), (2, .int x2)] []) (n : Nat) (x1 : Int32) (x2 : Int32) (x3 : Int32) (mem : Mem), K_X12_lays_40 fu k_28 n x1 x2 x3 mem = some res → WW D 23 ad (cM ca ad) p l e rm_X12_lays s m args below meth c 4 0 0 Q mem 40 [(0, .ref (ad 0)), (1, .int x1), (2, .int x2), (3, .int x3)] [] := by
    intro k_28 hk_28 n
    induction n with
    | zero => intro x1 x2 x3 mem hF; exact no_none (show (none : Option Mem) = some res from hF)
    | succ n ih =>
      intro x1 x2 x3 mem hF
      rw [K_X12_lays_40] at hF
      refine w_iload_n X 3 dX12_lays_40 rfl rfl 41 rfl ?_
      refine w_aload_n X 0 dX12_lays_41 rfl rfl 42 rfl ?_
      refine w_getV (v := .ref (ad 2)) X 0 ml_0 mo_0 (T := TX12) (N := 50) rfl in_X12 13 (by decide) kF_X12_20 rfl rfl dX12_lays_42 45 rfl ?_
      refine w_iconst X 0 dX12_lays_45 rfl 46 rfl ?_
      refine w_gi hF (fun h_5 hF => ?_)
      refine w_ial X 2 ml_2 mo_2 (t0 := 0) rfl h_5 dX12_lays_46 47 rfl ?_
      refine w_icmp_ge X hF 73 50 dX12_lays_47 (by decide) rfl (fun hF => ?_) (fun hF => ?_)
      · refine w_aload_n X 0 dX12_lays_50 rfl rfl 51 rfl ?_
        refine w_iload_n X 3 dX12_lays_51 rfl rfl 52 rfl ?_
        refine w_iload_n X 2 dX12_lays_52 rfl rfl 53 rfl ?_
        refine w_iload_n X 1 dX12_lays_53 rfl rfl 54 rfl ?_
        refine w_callVi (fun x => x) (fun _ => mem) X hZ hF [.int x3, .int x2, .int x1] 0 ml_0 mo_0 rfl rfl rfl kB_X12_isAtSide kL_X12_199 (fun res h => ct_X12_isAtSide l hZ fu x3 x2 x1 mem res h) rfl rfl rfl ⟨Nat.le_of_ble_eq_true rfl, Nat.le_of_ble_eq_true rfl⟩ (Nat.le_of_ble_eq_true rfl) ⟨Nat.zero_le _, Nat.zero_le _⟩ dX12_lays_54 57 rfl (fun x_6 hF => ?_)
        refine w_if_eq X hF 67 60 dX12_lays_57 (by decide) rfl (fun hF => ?_) (fun hF => ?_)
        · refine w_iinc X 3 (x3 + 1) [(3, .int (x3 + 1)), (0, .ref (ad 0)), (1, .int x1), (2, .int x2)] dX12_lays_67 rfl rfl (by decide) rfl 70 rfl ?_
          refine w_goto X 40 dX12_lays_70 (by decide) ?_
          refine w_keep [1, 2, 3, 0] rfl ?_
          exact ih x1 x2 (x3 + 1) mem hF
        · refine w_aload_n X 0 dX12_lays_60 rfl rfl 61 rfl ?_
          refine w_iload_n X 3 dX12_lays_61 rfl rfl 62 rfl ?_
          refine w_iload_n X 2 dX12_lays_62 rfl rfl 63 rfl ?_
          refine w_iconst X 0 dX12_lays_63 rfl 64 rfl ?_
          refine w_callVv (fun m => m) X hZ hF [.int x3, .int x2, .int 0] 0 ml_0 mo_0 rfl rfl rfl kB_X12_comesInto kL_X12_203 (fun res h => ct_X12_comesInto l hZ fu x3 x2 0 mem res h) rfl rfl rfl ⟨Nat.le_of_ble_eq_true rfl, Nat.le_of_ble_eq_true rfl⟩ (Nat.le_of_ble_eq_true rfl) ⟨Nat.zero_le _, Nat.zero_le _⟩ dX12_lays_64 67 rfl (fun m_7 hF => ?_)
          refine w_iinc X 3 (x3 + 1) [(3, .int (x3 + 1)), (0, .ref (ad 0)), (1, .int x1), (2, .int x2)] dX12_lays_67 rfl rfl (by decide) rfl 70 rfl ?_
          refine w_goto X 40 dX12_lays_70 (by decide) ?_
          refine w_keep [1, 2, 3, 0] rfl ?_
          exact ih x1 x2 (x3 + 1) m_7 hF
      · refine w_iinc X 2 (x2 + 1) [(2, .int (x2 + 1)), (0, .ref (ad 0)), (1, .int x1), (3, .int x3)] dX12_lays_73 rfl rfl (by decide) rfl 76 rfl ?_
        refine w_goto X 28 dX12_lays_76 (by decide) ?_
        refine w_keep [1, 2, 0] rfl ?_
        exact hk_28 x1 (x2 + 1) mem hF
  have w_28 : ∀ (n : Nat) (x1 : Int32) (x2 : Int32) (mem : Mem), K_X12_lays_28 fu n x1 x2 mem = some res → WW D 23 ad (cM ca ad) p l e rm_X12_lays s m args below meth c 4 0 0 Q mem 28 [(0, .ref (ad 0)), (1, .int x1), (2, .int x2)] [] := by
    intro n
    induction n with
    | zero => intro x1 x2 mem hF; exact no_none (show (none : Option Mem) = some res from hF)
    | succ n ih =>
      intro x1 x2 mem hF
      rw [K_X12_lays_28] at hF
      refine w_iload_n X 2 dX12_lays_28 rfl rfl 29 rfl ?_
      refine w_aload_n X 0 dX12_lays_29 rfl rfl 30 rfl ?_
      refine w_getV (v := .ref (ad 2)) X 0 ml_0 mo_0 (T := TX12) (N := 50) rfl in_X12 13 (by decide) kF_X12_20 rfl rfl dX12_lays_30 33 rfl ?_
      refine w_iconst X 1 dX12_lays_33 rfl 34 rfl ?_
      refine w_gi hF (fun h_4 hF => ?_)
      refine w_ial X 2 ml_2 mo_2 (t0 := 0) rfl h_4 dX12_lays_34 35 rfl ?_
      refine w_icmp_ge X hF 79 38 dX12_lays_35 (by decide) rfl (fun hF => ?_) (fun hF => ?_)
      · refine w_iconst X 0 dX12_lays_38 rfl 39 rfl ?_
        refine w_istore_n X [(3, .int 0), (0, .ref (ad 0)), (1, .int x1), (2, .int x2)] dX12_lays_39 rfl (by decide) rfl 40 rfl ?_
        refine w_keep [1, 2, 3, 0] rfl ?_
        exact w_40 (K_X12_lays_28 fu n) ih fu x1 x2 0 mem hF
      · refine w_iconst X 0 dX12_lays_79 rfl 80 rfl ?_
        refine w_istore_n X [(2, .int 0), (0, .ref (ad 0)), (1, .int x1)] dX12_lays_80 rfl (by decide) rfl 81 rfl ?_
        refine w_keep [1, 0] rfl ?_
        exact w_81 fu 0 mem hF
  have w_7 : ∀ (n : Nat) (x1 : Int32) (x2 : Int32) (mem : Mem), K_X12_lays_7 fu n x1 x2 mem = some res → WW D 23 ad (cM ca ad) p l e rm_X12_lays s m args below meth c 4 0 0 Q mem 7 [(0, .ref (ad 0)), (1, .int x1), (2, .int x2)] [] := by
    intro n
    induction n with
    | zero => intro x1 x2 mem hF; exact no_none (show (none : Option Mem) = some res from hF)
    | succ n ih =>
      intro x1 x2 mem hF
      rw [K_X12_lays_7] at hF
      refine w_iload_n X 2 dX12_lays_7 rfl rfl 8 rfl ?_
      refine w_bipush X 81 dX12_lays_8 rfl 10 rfl ?_
      refine w_icmp_ge X hF 26 13 dX12_lays_10 (by decide) rfl (fun hF => ?_) (fun hF => ?_)
      · refine w_aload_n X 0 dX12_lays_13 rfl rfl 14 rfl ?_
        refine w_getV (v := .ref (ad 7)) X 0 ml_0 mo_0 (T := TX12) (N := 50) rfl in_X12 20 (by decide) kF_X12_35 rfl rfl dX12_lays_14 17 rfl ?_
        refine w_iload_n X 2 dX12_lays_17 rfl rfl 18 rfl ?_
        refine w_iconst X (-1) dX12_lays_18 rfl 19 rfl ?_
        refine w_gi hF (fun h_2 hF => ?_)
        refine w_ias X 7 ml_7 mo_7 (t0 := 0) rfl h_2 dX12_lays_19 20 rfl ?_
        refine w_letm hF (fun m_3 hF => ?_)
        refine w_iinc X 2 (x2 + 1) [(2, .int (x2 + 1)), (0, .ref (ad 0)), (1, .int x1)] dX12_lays_20 rfl rfl (by decide) rfl 23 rfl ?_
        refine w_goto X 7 dX12_lays_23 (by decide) ?_
        refine w_keep [1, 2, 0] rfl ?_
        exact ih x1 (x2 + 1) m_3 hF
      · refine w_iconst X 0 dX12_lays_26 rfl 27 rfl ?_
        refine w_istore_n X [(2, .int 0), (0, .ref (ad 0)), (1, .int x1)] dX12_lays_27 rfl (by decide) rfl 28 rfl ?_
        refine w_keep [1, 2, 0] rfl ?_
        exact w_28 fu x1 0 mem hF
  intro hF
  refine w_aload_n X 0 dX12_lays_0 rfl rfl 1 rfl ?_
  refine w_iconst X 0 dX12_lays_1 rfl 2 rfl ?_
  refine w_putI X 0 ml_0 mo_0 (T := TX12) (N := 50) rfl in_X12 tyX12 tyX12_ok nmX12 22 (by decide) kF_X12_196 rfl rfl rfl rfl (Nat.le_of_ble_eq_true rfl) rfl dX12_lays_2 5 rfl ?_
  refine w_letm hF (fun m_1 hF => ?_)
  refine w_iconst X 0 dX12_lays_5 rfl 6 rfl ?_
  refine w_istore_n X [(2, .int 0), (0, .ref (ad 0)), (1, .int x1)] dX12_lays_6 rfl (by decide) rfl 7 rfl ?_
  refine w_keep [1, 2, 0] rfl ?_
  exact w_7 fu x1 0 m_1 hF

def K_X12_cellOf (fu : Nat) (x1 : Int32) (mem : Mem) : Option Int32 := bd (K_X12_of fu x1 1 mem) (fun x_1 => bd (K_X12_of fu x1 0 mem) (fun x_2 => some ((9 * x_1) + x_2)))
def rm_X12_cellOf : Room := { frames := 1, cells := 0, slots := 0, locals := 22 }
set_option maxHeartbeats 4000000 in
set_option maxRecDepth 100000 in
theorem ct_X12_cellOf (l : Launch) {D : va_G} {ca ad : Nat → Nat} {Z : (Nat → Prop) → State → Heap → Prop} (hZ : ZOK Z) (fu : Nat) (x1 : Int32) (mem : Mem) (res : Int32) (hF : K_X12_cellOf fu x1 mem = some res) : CI l D (tyL ca) 23 ad (cM ca ad) Z yX12_cellOf cX12_cellOf 2 .int rm_X12_cellOf [.ref (ad 0), .int x1] mem res mem := by
  refine start_i (own := RX12) rfl (by decide) (Nat.le_of_ble_eq_true rfl) ?_
  intro p e s m args below meth c Q hQ X
  rw [K_X12_cellOf] at hF
  revert hF
  intro hF
  refine w_bipush X 9 dX12_cellOf_0 rfl 2 rfl ?_
  refine w_aload_n X 0 dX12_cellOf_2 rfl rfl 3 rfl ?_
  refine w_iload_n X 1 dX12_cellOf_3 rfl rfl 4 rfl ?_
  refine w_iconst X 1 dX12_cellOf_4 rfl 5 rfl ?_
  refine w_callVi (fun x => x) (fun _ => mem) X hZ hF [.int x1, .int 1] 0 ml_0 mo_0 rfl rfl rfl kB_X12_of kL_X12_174 (fun res h => ct_X12_of l hZ fu x1 1 mem res h) rfl rfl rfl ⟨Nat.le_of_ble_eq_true rfl, Nat.le_of_ble_eq_true rfl⟩ (Nat.le_of_ble_eq_true rfl) ⟨Nat.zero_le _, Nat.zero_le _⟩ dX12_cellOf_5 8 rfl (fun x_1 hF => ?_)
  refine w_imul X dX12_cellOf_8 9 rfl ?_
  refine w_aload_n X 0 dX12_cellOf_9 rfl rfl 10 rfl ?_
  refine w_iload_n X 1 dX12_cellOf_10 rfl rfl 11 rfl ?_
  refine w_iconst X 0 dX12_cellOf_11 rfl 12 rfl ?_
  refine w_callVi (fun x => x) (fun _ => mem) X hZ hF [.int x1, .int 0] 0 ml_0 mo_0 rfl rfl rfl kB_X12_of kL_X12_174 (fun res h => ct_X12_of l hZ fu x1 0 mem res h) rfl rfl rfl ⟨Nat.le_of_ble_eq_true rfl, Nat.le_of_ble_eq_true rfl⟩ (Nat.le_of_ble_eq_true rfl) ⟨Nat.zero_le _, Nat.zero_le _⟩ dX12_cellOf_12 15 rfl (fun x_2 hF => ?_)
  refine w_iadd X dX12_cellOf_15 16 rfl ?_
  exact w_iret X hQ (o_inj hF) rfl rfl dX12_cellOf_16

def K_X12_distanceOf (fu : Nat) (x1 : Int32) (mem : Mem) : Option (Int32 × Mem) := bd (K_X12_hasFinished fu x1 mem) (fun x_1 => (if x_1 = 0 then bd (K_X12_of fu x1 2 mem) (fun x_2 => bd (K_X12_lays fu x_2 mem) (fun m_3 => bd (K_X12_cellOf fu x1 m_3) (fun x_4 => gi x_4 81 (some ((rd m_3 7 (Int32.toNatClampNeg x_4)), m_3))))) else some (0, mem)))
def rm_X12_distanceOf : Room := { frames := 6, cells := 0, slots := 0, locals := 143 }
set_option maxHeartbeats 4000000 in
set_option maxRecDepth 100000 in
theorem ct_X12_distanceOf (l : Launch) {D : va_G} {ca ad : Nat → Nat} {Z : (Nat → Prop) → State → Heap → Prop} (hZ : ZOK Z) (fu : Nat) (x1 : Int32) (mem : Mem) (res : (Int32 × Mem)) (hF : K_X12_distanceOf fu x1 mem = some res) : CI l D (tyL ca) 23 ad (cM ca ad) Z yX12_distanceOf cX12_distanceOf 2 .int rm_X12_distanceOf [.ref (ad 0), .int x1] mem res.1 res.2 := by
  refine start_i (own := RX12) rfl (by decide) (Nat.le_of_ble_eq_true rfl) ?_
  intro p e s m args below meth c Q hQ X
  rw [K_X12_distanceOf] at hF
  revert hF
  intro hF
  refine w_aload_n X 0 dX12_distanceOf_0 rfl rfl 1 rfl ?_
  refine w_iload_n X 1 dX12_distanceOf_1 rfl rfl 2 rfl ?_
  refine w_callVi (fun x => x) (fun _ => mem) X hZ hF [.int x1] 0 ml_0 mo_0 rfl rfl rfl kB_X12_hasFinished kL_X12_213 (fun res h => ct_X12_hasFinished l hZ fu x1 mem res h) rfl rfl rfl ⟨Nat.le_of_ble_eq_true rfl, Nat.le_of_ble_eq_true rfl⟩ (Nat.le_of_ble_eq_true rfl) ⟨Nat.zero_le _, Nat.zero_le _⟩ dX12_distanceOf_2 5 rfl (fun x_1 hF => ?_)
  refine w_if_eq X hF 10 8 dX12_distanceOf_5 (by decide) rfl (fun hF => ?_) (fun hF => ?_)
  · refine w_aload_n X 0 dX12_distanceOf_10 rfl rfl 11 rfl ?_
    refine w_aload_n X 0 dX12_distanceOf_11 rfl rfl 12 rfl ?_
    refine w_iload_n X 1 dX12_distanceOf_12 rfl rfl 13 rfl ?_
    refine w_iconst X 2 dX12_distanceOf_13 rfl 14 rfl ?_
    refine w_callVi (fun x => x) (fun _ => mem) X hZ hF [.int x1, .int 2] 0 ml_0 mo_0 rfl rfl rfl kB_X12_of kL_X12_174 (fun res h => ct_X12_of l hZ fu x1 2 mem res h) rfl rfl rfl ⟨Nat.le_of_ble_eq_true rfl, Nat.le_of_ble_eq_true rfl⟩ (Nat.le_of_ble_eq_true rfl) ⟨Nat.zero_le _, Nat.zero_le _⟩ dX12_distanceOf_14 17 rfl (fun x_2 hF => ?_)
    refine w_callVv (fun m => m) X hZ hF [.int x_2] 0 ml_0 mo_0 rfl rfl rfl kB_X12_lays kL_X12_216 (fun res h => ct_X12_lays l hZ fu x_2 mem res h) rfl rfl rfl ⟨Nat.le_of_ble_eq_true rfl, Nat.le_of_ble_eq_true rfl⟩ (Nat.le_of_ble_eq_true rfl) ⟨Nat.zero_le _, Nat.zero_le _⟩ dX12_distanceOf_17 20 rfl (fun m_3 hF => ?_)
    refine w_aload_n X 0 dX12_distanceOf_20 rfl rfl 21 rfl ?_
    refine w_getV (v := .ref (ad 7)) X 0 ml_0 mo_0 (T := TX12) (N := 50) rfl in_X12 20 (by decide) kF_X12_35 rfl rfl dX12_distanceOf_21 24 rfl ?_
    refine w_aload_n X 0 dX12_distanceOf_24 rfl rfl 25 rfl ?_
    refine w_iload_n X 1 dX12_distanceOf_25 rfl rfl 26 rfl ?_
    refine w_callVi (fun x => x) (fun _ => m_3) X hZ hF [.int x1] 0 ml_0 mo_0 rfl rfl rfl kB_X12_cellOf kL_X12_219 (fun res h => ct_X12_cellOf l hZ fu x1 m_3 res h) rfl rfl rfl ⟨Nat.le_of_ble_eq_true rfl, Nat.le_of_ble_eq_true rfl⟩ (Nat.le_of_ble_eq_true rfl) ⟨Nat.zero_le _, Nat.zero_le _⟩ dX12_distanceOf_26 29 rfl (fun x_4 hF => ?_)
    refine w_gi hF (fun h_5 hF => ?_)
    refine w_ial X 7 ml_7 mo_7 (t0 := 0) rfl h_5 dX12_distanceOf_29 30 rfl ?_
    exact w_iret X hQ (o_inj1 hF) (o_inj2 hF) rfl dX12_distanceOf_30
  · refine w_iconst X 0 dX12_distanceOf_8 rfl 9 rfl ?_
    exact w_iret X hQ (o_inj1 hF) (o_inj2 hF) rfl dX12_distanceOf_9

def K_X12_haveWays_4 (fu : Nat) : Nat → Int32 → Int32 → Mem → Option (Int32 × Mem)
  | 0, _, _, _ => none
  | n + 1, x1, x2, mem => gi 2 184 ((if x2 < (rd mem 2 (Int32.toNatClampNeg 2)) then (if x1 = 0 then gb x1 (some (x1, mem)) else bd (K_X12_distanceOf fu x2 mem) (fun p_3 => (if p_3.1 = (-1) then (K_X12_haveWays_4 fu n 0 (x2 + 1) p_3.2) else (K_X12_haveWays_4 fu n 1 (x2 + 1) p_3.2)))) else gb x1 (some (x1, mem))))
def K_X12_haveWays (fu : Nat) (mem : Mem) : Option (Int32 × Mem) := (K_X12_haveWays_4 fu fu 1 0 mem)
def rm_X12_haveWays : Room := { frames := 7, cells := 0, slots := 0, locals := 164 }
set_option maxHeartbeats 4000000 in
set_option maxRecDepth 100000 in
theorem ct_X12_haveWays (l : Launch) {D : va_G} {ca ad : Nat → Nat} {Z : (Nat → Prop) → State → Heap → Prop} (hZ : ZOK Z) (fu : Nat) (mem : Mem) (res : (Int32 × Mem)) (hF : K_X12_haveWays fu mem = some res) : CI l D (tyL ca) 23 ad (cM ca ad) Z yX12_haveWays cX12_haveWays 3 .boolean rm_X12_haveWays [.ref (ad 0)] mem res.1 res.2 := by
  refine start_i (own := RX12) rfl (by decide) (Nat.le_of_ble_eq_true rfl) ?_
  intro p e s m args below meth c Q hQ X
  rw [K_X12_haveWays] at hF
  revert hF
  have w_4 : ∀ (n : Nat) (x1 : Int32) (x2 : Int32) (mem : Mem), K_X12_haveWays_4 fu n x1 x2 mem = some res → WW D 23 ad (cM ca ad) p l e rm_X12_haveWays s m args below meth c 3 0 0 Q mem 4 [(0, .ref (ad 0)), (1, .int x1), (2, .int x2)] [] := by
    intro n
    induction n with
    | zero => intro x1 x2 mem hF; exact no_none (show (none : Option (Int32 × Mem)) = some res from hF)
    | succ n ih =>
      intro x1 x2 mem hF
      rw [K_X12_haveWays_4] at hF
      refine w_iload_n X 2 dX12_haveWays_4 rfl rfl 5 rfl ?_
      refine w_aload_n X 0 dX12_haveWays_5 rfl rfl 6 rfl ?_
      refine w_getV (v := .ref (ad 2)) X 0 ml_0 mo_0 (T := TX12) (N := 50) rfl in_X12 13 (by decide) kF_X12_20 rfl rfl dX12_haveWays_6 9 rfl ?_
      refine w_iconst X 2 dX12_haveWays_9 rfl 10 rfl ?_
      refine w_gi hF (fun h_1 hF => ?_)
      refine w_ial X 2 ml_2 mo_2 (t0 := 0) rfl h_1 dX12_haveWays_10 11 rfl ?_
      refine w_icmp_ge X hF 39 14 dX12_haveWays_11 (by decide) rfl (fun hF => ?_) (fun hF => ?_)
      · refine w_iload_n X 1 dX12_haveWays_14 rfl rfl 15 rfl ?_
        refine w_if_eq X hF 39 18 dX12_haveWays_15 (by decide) rfl (fun hF => ?_) (fun hF => ?_)
        · refine w_iload_n X 1 dX12_haveWays_39 rfl rfl 40 rfl ?_
          refine w_gb hF (fun h_2 hF => ?_)
          exact w_iret X hQ (o_inj1 hF) (o_inj2 hF) (bool_nar h_2) dX12_haveWays_40
        · refine w_aload_n X 0 dX12_haveWays_18 rfl rfl 19 rfl ?_
          refine w_iload_n X 2 dX12_haveWays_19 rfl rfl 20 rfl ?_
          refine w_callVi (fun x => x.1) (fun x => x.2) X hZ hF [.int x2] 0 ml_0 mo_0 rfl rfl rfl kB_X12_distanceOf kL_X12_222 (fun res h => ct_X12_distanceOf l hZ fu x2 mem res h) rfl rfl rfl ⟨Nat.le_of_ble_eq_true rfl, Nat.le_of_ble_eq_true rfl⟩ (Nat.le_of_ble_eq_true rfl) ⟨Nat.zero_le _, Nat.zero_le _⟩ dX12_haveWays_20 23 rfl (fun p_3 hF => ?_)
          refine w_iconst X (-1) dX12_haveWays_23 rfl 24 rfl ?_
          refine w_icmp_eq X hF 31 27 dX12_haveWays_24 (by decide) rfl (fun hF => ?_) (fun hF => ?_)
          · refine w_iconst X 0 dX12_haveWays_31 rfl 32 rfl ?_
            refine w_istore_n X [(1, .int 0), (0, .ref (ad 0)), (2, .int x2)] dX12_haveWays_32 rfl (by decide) rfl 33 rfl ?_
            refine w_iinc X 2 (x2 + 1) [(2, .int (x2 + 1)), (1, .int 0), (0, .ref (ad 0))] dX12_haveWays_33 rfl rfl (by decide) rfl 36 rfl ?_
            refine w_goto X 4 dX12_haveWays_36 (by decide) ?_
            refine w_keep [2, 1, 0] rfl ?_
            exact ih 0 (x2 + 1) p_3.2 hF
          · refine w_iconst X 1 dX12_haveWays_27 rfl 28 rfl ?_
            refine w_goto X 32 dX12_haveWays_28 (by decide) ?_
            refine w_istore_n X [(1, .int 1), (0, .ref (ad 0)), (2, .int x2)] dX12_haveWays_32 rfl (by decide) rfl 33 rfl ?_
            refine w_iinc X 2 (x2 + 1) [(2, .int (x2 + 1)), (1, .int 1), (0, .ref (ad 0))] dX12_haveWays_33 rfl rfl (by decide) rfl 36 rfl ?_
            refine w_goto X 4 dX12_haveWays_36 (by decide) ?_
            refine w_keep [2, 1, 0] rfl ?_
            exact ih 1 (x2 + 1) p_3.2 hF
      · refine w_iload_n X 1 dX12_haveWays_39 rfl rfl 40 rfl ?_
        refine w_gb hF (fun h_4 hF => ?_)
        exact w_iret X hQ (o_inj1 hF) (o_inj2 hF) (bool_nar h_4) dX12_haveWays_40
  intro hF
  refine w_iconst X 1 dX12_haveWays_0 rfl 1 rfl ?_
  refine w_istore_n X [(1, .int 1), (0, .ref (ad 0))] dX12_haveWays_1 rfl (by decide) rfl 2 rfl ?_
  refine w_iconst X 0 dX12_haveWays_2 rfl 3 rfl ?_
  refine w_istore_n X [(2, .int 0), (1, .int 1), (0, .ref (ad 0))] dX12_haveWays_3 rfl (by decide) rfl 4 rfl ?_
  refine w_keep [2, 1, 0] rfl ?_
  exact w_4 fu 1 0 mem hF

def K_X12_admits (fu : Nat) (x1 : Int32) (x2 : Int32) (x3 : Int32) (mem : Mem) : Option (Int32 × Mem) := bd (K_X12_hasRoom fu x1 x2 x3 mem) (fun x_1 => (if x_1 = 0 then some (0, mem) else gi ((120 + (8 * x2)) + x1) 184 (lt_ (mw mem 2 (Int32.toNatClampNeg ((120 + (8 * x2)) + x1)) x3) (fun m_3 => bd (K_X12_haveWays fu m_3) (fun p_4 => lt_ p_4.1 (fun x_5 => gi ((120 + (8 * x2)) + x1) 184 (lt_ (mw p_4.2 2 (Int32.toNatClampNeg ((120 + (8 * x2)) + x1)) 0) (fun m_7 => gb x_5 (some (x_5, m_7))))))))))
def rm_X12_admits : Room := { frames := 8, cells := 0, slots := 0, locals := 186 }
set_option maxHeartbeats 4000000 in
set_option maxRecDepth 100000 in
theorem ct_X12_admits (l : Launch) {D : va_G} {ca ad : Nat → Nat} {Z : (Nat → Prop) → State → Heap → Prop} (hZ : ZOK Z) (fu : Nat) (x1 : Int32) (x2 : Int32) (x3 : Int32) (mem : Mem) (res : (Int32 × Mem)) (hF : K_X12_admits fu x1 x2 x3 mem = some res) : CI l D (tyL ca) 23 ad (cM ca ad) Z yX12_admits cX12_admits 5 .boolean rm_X12_admits [.ref (ad 0), .int x1, .int x2, .int x3] mem res.1 res.2 := by
  refine start_i (own := RX12) rfl (by decide) (Nat.le_of_ble_eq_true rfl) ?_
  intro p e s m args below meth c Q hQ X
  rw [K_X12_admits] at hF
  revert hF
  intro hF
  refine w_aload_n X 0 dX12_admits_0 rfl rfl 1 rfl ?_
  refine w_iload_n X 1 dX12_admits_1 rfl rfl 2 rfl ?_
  refine w_iload_n X 2 dX12_admits_2 rfl rfl 3 rfl ?_
  refine w_iload_n X 3 dX12_admits_3 rfl rfl 4 rfl ?_
  refine w_callVi (fun x => x) (fun _ => mem) X hZ hF [.int x1, .int x2, .int x3] 0 ml_0 mo_0 rfl rfl rfl kB_X12_hasRoom kL_X12_225 (fun res h => ct_X12_hasRoom l hZ fu x1 x2 x3 mem res h) rfl rfl rfl ⟨Nat.le_of_ble_eq_true rfl, Nat.le_of_ble_eq_true rfl⟩ (Nat.le_of_ble_eq_true rfl) ⟨Nat.zero_le _, Nat.zero_le _⟩ dX12_admits_4 7 rfl (fun x_1 hF => ?_)
  refine w_if_ne X hF 12 10 dX12_admits_7 (by decide) rfl (fun hF => ?_) (fun hF => ?_)
  · refine w_iconst X 0 dX12_admits_10 rfl 11 rfl ?_
    exact w_iret X hQ (o_inj1 hF) (o_inj2 hF) rfl dX12_admits_11
  · refine w_aload_n X 0 dX12_admits_12 rfl rfl 13 rfl ?_
    refine w_getV (v := .ref (ad 2)) X 0 ml_0 mo_0 (T := TX12) (N := 50) rfl in_X12 13 (by decide) kF_X12_20 rfl rfl dX12_admits_13 16 rfl ?_
    refine w_bipush X 120 dX12_admits_16 rfl 18 rfl ?_
    refine w_bipush X 8 dX12_admits_18 rfl 20 rfl ?_
    refine w_iload_n X 2 dX12_admits_20 rfl rfl 21 rfl ?_
    refine w_imul X dX12_admits_21 22 rfl ?_
    refine w_iadd X dX12_admits_22 23 rfl ?_
    refine w_iload_n X 1 dX12_admits_23 rfl rfl 24 rfl ?_
    refine w_iadd X dX12_admits_24 25 rfl ?_
    refine w_iload_n X 3 dX12_admits_25 rfl rfl 26 rfl ?_
    refine w_gi hF (fun h_2 hF => ?_)
    refine w_ias X 2 ml_2 mo_2 (t0 := 0) rfl h_2 dX12_admits_26 27 rfl ?_
    refine w_letm hF (fun m_3 hF => ?_)
    refine w_aload_n X 0 dX12_admits_27 rfl rfl 28 rfl ?_
    refine w_callVi (fun x => x.1) (fun x => x.2) X hZ hF [] 0 ml_0 mo_0 rfl rfl rfl kB_X12_haveWays kL_X12_228 (fun res h => ct_X12_haveWays l hZ fu m_3 res h) rfl rfl rfl ⟨Nat.le_of_ble_eq_true rfl, Nat.le_of_ble_eq_true rfl⟩ (Nat.le_of_ble_eq_true rfl) ⟨Nat.zero_le _, Nat.zero_le _⟩ dX12_admits_28 31 rfl (fun p_4 hF => ?_)
    refine w_let hF (fun x_5 hF => ?_)
    refine w_istore X [(4, .int x_5), (0, .ref (ad 0)), (1, .int x1), (2, .int x2), (3, .int x3)] dX12_admits_31 (by decide) rfl 33 rfl ?_
    refine w_aload_n X 1 dX12_admits_33 rfl rfl 34 rfl ?_
    refine w_getV (v := .ref (ad 2)) X 0 ml_0 mo_0 (T := TX12) (N := 50) rfl in_X12 13 (by decide) kF_X12_20 rfl rfl dX12_admits_34 37 rfl ?_
    refine w_bipush X 120 dX12_admits_37 rfl 39 rfl ?_
    refine w_bipush X 8 dX12_admits_39 rfl 41 rfl ?_
    refine w_iload_n X 3 dX12_admits_41 rfl rfl 42 rfl ?_
    refine w_imul X dX12_admits_42 43 rfl ?_
    refine w_iadd X dX12_admits_43 44 rfl ?_
    refine w_iload_n X 2 dX12_admits_44 rfl rfl 45 rfl ?_
    refine w_iadd X dX12_admits_45 46 rfl ?_
    refine w_iconst X 0 dX12_admits_46 rfl 47 rfl ?_
    refine w_gi hF (fun h_6 hF => ?_)
    refine w_ias X 2 ml_2 mo_2 (t0 := 0) rfl h_6 dX12_admits_47 48 rfl ?_
    refine w_letm hF (fun m_7 hF => ?_)
    refine w_iload X 0 dX12_admits_48 rfl 50 rfl ?_
    refine w_gb hF (fun h_8 hF => ?_)
    exact w_iret X hQ (o_inj1 hF) (o_inj2 hF) (bool_nar h_8) dX12_admits_50

def K_X12_truth (fu : Nat) (x0 : Int32) (mem : Mem) : Option Int32 := (if x0 = 0 then some 0 else some 1)
def rm_X12_truth : Room := { frames := 0, cells := 0, slots := 0, locals := 0 }
set_option maxHeartbeats 4000000 in
set_option maxRecDepth 100000 in
theorem ct_X12_truth (l : Launch) {D : va_G} {ca ad : Nat → Nat} {Z : (Nat → Prop) → State → Heap → Prop} (hZ : ZOK Z) (fu : Nat) (x0 : Int32) (mem : Mem) (res : Int32) (hF : K_X12_truth fu x0 mem = some res) : CI l D (tyL ca) 23 ad (cM ca ad) Z yX12_truth cX12_truth 1 .int rm_X12_truth [.int x0] mem res mem := by
  refine start_i (own := RX12) rfl (by decide) (Nat.le_of_ble_eq_true rfl) ?_
  intro p e s m args below meth c Q hQ X
  rw [K_X12_truth] at hF
  revert hF
  intro hF
  refine w_iload_n X 0 dX12_truth_0 rfl rfl 1 rfl ?_
  refine w_if_eq X hF 8 4 dX12_truth_1 (by decide) rfl (fun hF => ?_) (fun hF => ?_)
  · refine w_iconst X 0 dX12_truth_8 rfl 9 rfl ?_
    exact w_iret X hQ (o_inj hF) rfl rfl dX12_truth_9
  · refine w_iconst X 1 dX12_truth_4 rfl 5 rfl ?_
    refine w_goto X 9 dX12_truth_5 (by decide) ?_
    exact w_iret X hQ (o_inj hF) rfl rfl dX12_truth_9

def K_X12_admissible_38 (fu : Nat) (k_9 : Int32 → Int32 → Mem → Option (Int32 × Mem)) (k_23 : Int32 → Int32 → Int32 → Mem → Option (Int32 × Mem)) : Nat → Int32 → Int32 → Int32 → Int32 → Mem → Option (Int32 × Mem)
  | 0, _, _, _, _, _ => none
  | n + 1, x1, x2, x3, x4, mem => (if 2 < x4 then (k_23 x1 x2 (x3 + 1) mem) else bd (K_X12_admits fu x3 x2 x4 mem) (fun p_4 => bd (K_X12_truth fu p_4.1 p_4.2) (fun x_5 => lt_ (x1 + x_5) (fun x_6 => (K_X12_admissible_38 fu k_9 k_23 n x_6 x2 x3 (x4 + 1) p_4.2)))))
def K_X12_admissible_23 (fu : Nat) (k_9 : Int32 → Int32 → Mem → Option (Int32 × Mem)) : Nat → Int32 → Int32 → Int32 → Mem → Option (Int32 × Mem)
  | 0, _, _, _, _ => none
  | n + 1, x1, x2, x3, mem => gi 0 184 ((if x3 < ((rd mem 2 (Int32.toNatClampNeg 0)) - 1) then (K_X12_admissible_38 fu k_9 (K_X12_admissible_23 fu k_9 n) fu x1 x2 x3 1 mem) else (k_9 x1 (x2 + 1) mem)))
def K_X12_admissible_9 (fu : Nat) : Nat → Int32 → Int32 → Mem → Option (Int32 × Mem)
  | 0, _, _, _ => none
  | n + 1, x1, x2, mem => gi 1 184 ((if x2 < ((rd mem 2 (Int32.toNatClampNeg 1)) - 1) then (K_X12_admissible_23 fu (K_X12_admissible_9 fu n) fu x1 x2 0 mem) else some (x1, mem)))
def K_X12_admissible (fu : Nat) (mem : Mem) : Option (Int32 × Mem) := lt_ (mw mem 0 0 0) (fun m_1 => (K_X12_admissible_9 fu fu 0 0 m_1))
def rm_X12_admissible : Room := { frames := 9, cells := 0, slots := 0, locals := 210 }
set_option maxHeartbeats 4000000 in
set_option maxRecDepth 100000 in
theorem ct_X12_admissible (l : Launch) {D : va_G} {ca ad : Nat → Nat} {Z : (Nat → Prop) → State → Heap → Prop} (hZ : ZOK Z) (fu : Nat) (mem : Mem) (res : (Int32 × Mem)) (hF : K_X12_admissible fu mem = some res) : CI l D (tyL ca) 23 ad (cM ca ad) Z yX12_admissible cX12_admissible 5 .int rm_X12_admissible [.ref (ad 0)] mem res.1 res.2 := by
  refine start_i (own := RX12) rfl (by decide) (Nat.le_of_ble_eq_true rfl) ?_
  intro p e s m args below meth c Q hQ X
  rw [K_X12_admissible] at hF
  revert hF
  have w_38 : ∀ (k_9 : Int32 → Int32 → Mem → Option (Int32 × Mem)) (hk_9 : ∀ (x1 : Int32) (x2 : Int32) (mem : Mem), k_9 x1 x2 mem = some res → WW D 23 ad (cM ca ad) p l e rm_X12_admissible s m args below meth c 5 0 0 Q mem 9 [(0, .ref (ad 0)), (1, .int x1), (2, .int x2)] []) (k_23 : Int32 → Int32 → Int32 → Mem → Option (Int32 × Mem)) (hk_23 : ∀ (x1 : Int32) (x2 : Int32) (x3 : Int32) (mem : Mem), k_23 x1 x2 x3 mem = some res → WW D 23 ad (cM ca ad) p l e rm_X12_admissible s m args below meth c 5 0 0 Q mem 23 [(0, .ref (ad 0)), (1, .int x1), (2, .int x2), (3, .int x3)] []) (n : Nat) (x1 : Int32) (x2 : Int32) (x3 : Int32) (x4 : Int32) (mem : Mem), K_X12_admissible_38 fu k_9 k_23 n x1 x2 x3 x4 mem = some res → WW D 23 ad (cM ca ad) p l e rm_X12_admissible s m args below meth c 5 0 0 Q mem 38 [(0, .ref (ad 0)), (1, .int x1), (2, .int x2), (3, .int x3), (4, .int x4)] [] := by
    intro k_9 hk_9 k_23 hk_23 n
    induction n with
    | zero => intro x1 x2 x3 x4 mem hF; exact no_none (show (none : Option (Int32 × Mem)) = some res from hF)
    | succ n ih =>
      intro x1 x2 x3 x4 mem hF
      rw [K_X12_admissible_38] at hF
      refine w_iload X 4 dX12_admissible_38 rfl 40 rfl ?_
      refine w_iconst X 2 dX12_admissible_40 rfl 41 rfl ?_
      refine w_icmp_gt X hF 64 44 dX12_admissible_41 (by decide) rfl (fun hF => ?_) (fun hF => ?_)
      · refine w_iinc X 3 (x3 + 1) [(3, .int (x3 + 1)), (0, .ref (ad 0)), (1, .int x1), (2, .int x2), (4, .int x4)] dX12_admissible_64 rfl rfl (by decide) rfl 67 rfl ?_
        refine w_goto X 23 dX12_admissible_67 (by decide) ?_
        refine w_keep [1, 2, 3, 0] rfl ?_
        exact hk_23 x1 x2 (x3 + 1) mem hF
      · refine w_iload_n X 1 dX12_admissible_44 rfl rfl 45 rfl ?_
        refine w_aload_n X 0 dX12_admissible_45 rfl rfl 46 rfl ?_
        refine w_iload_n X 3 dX12_admissible_46 rfl rfl 47 rfl ?_
        refine w_iload_n X 2 dX12_admissible_47 rfl rfl 48 rfl ?_
        refine w_iload X 4 dX12_admissible_48 rfl 50 rfl ?_
        refine w_callVi (fun x => x.1) (fun x => x.2) X hZ hF [.int x3, .int x2, .int x4] 0 ml_0 mo_0 rfl rfl rfl kB_X12_admits kL_X12_293 (fun res h => ct_X12_admits l hZ fu x3 x2 x4 mem res h) rfl rfl rfl ⟨Nat.le_of_ble_eq_true rfl, Nat.le_of_ble_eq_true rfl⟩ (Nat.le_of_ble_eq_true rfl) ⟨Nat.zero_le _, Nat.zero_le _⟩ dX12_admissible_50 53 rfl (fun p_4 hF => ?_)
        refine w_callSi (fun x => x) (fun _ => p_4.2) X hZ hF [.int p_4.1] rfl kB_X12_truth kL_X12_91 (fun res h => ct_X12_truth l hZ fu p_4.1 p_4.2 res h) rfl rfl rfl ⟨Nat.le_of_ble_eq_true rfl, Nat.le_of_ble_eq_true rfl⟩ (Nat.le_of_ble_eq_true rfl) ⟨Nat.zero_le _, Nat.zero_le _⟩ dX12_admissible_53 56 rfl (fun x_5 hF => ?_)
        refine w_iadd X dX12_admissible_56 57 rfl ?_
        refine w_let hF (fun x_6 hF => ?_)
        refine w_istore_n X [(1, .int x_6), (0, .ref (ad 0)), (2, .int x2), (3, .int x3), (4, .int x4)] dX12_admissible_57 rfl (by decide) rfl 58 rfl ?_
        refine w_iinc X 4 (x4 + 1) [(4, .int (x4 + 1)), (1, .int x_6), (0, .ref (ad 0)), (2, .int x2), (3, .int x3)] dX12_admissible_58 rfl rfl (by decide) rfl 61 rfl ?_
        refine w_goto X 38 dX12_admissible_61 (by decide) ?_
        refine w_keep [2, 1, 3, 4, 0] rfl ?_
        exact ih x_6 x2 x3 (x4 + 1) p_4.2 hF
  have w_23 : ∀ (k_9 : Int32 → Int32 → Mem → Option (Int32 × Mem)) (hk_9 : ∀ (x1 : Int32) (x2 : Int32) (mem : Mem), k_9 x1 x2 mem = some res → WW D 23 ad (cM ca ad) p l e rm_X12_admissible s m args below meth c 5 0 0 Q mem 9 [(0, .ref (ad 0)), (1, .int x1), (2, .int x2)] []) (n : Nat) (x1 : Int32) (x2 : Int32) (x3 : Int32) (mem : Mem), K_X12_admissible_23 fu k_9 n x1 x2 x3 mem = some res → WW D 23 ad (cM ca ad) p l e rm_X12_admissible s m args below meth c 5 0 0 Q mem 23 [(0, .ref (ad 0)), (1, .int x1), (2, .int x2), (3, .int x3)] [] := by
    intro k_9 hk_9 n
    induction n with
    | zero => intro x1 x2 x3 mem hF; exact no_none (show (none : Option (Int32 × Mem)) = some res from hF)
    | succ n ih =>
      intro x1 x2 x3 mem hF
      rw [K_X12_admissible_23] at hF
      refine w_iload_n X 3 dX12_admissible_23 rfl rfl 24 rfl ?_
      refine w_aload_n X 0 dX12_admissible_24 rfl rfl 25 rfl ?_
      refine w_getV (v := .ref (ad 2)) X 0 ml_0 mo_0 (T := TX12) (N := 50) rfl in_X12 13 (by decide) kF_X12_20 rfl rfl dX12_admissible_25 28 rfl ?_
      refine w_iconst X 0 dX12_admissible_28 rfl 29 rfl ?_
      refine w_gi hF (fun h_3 hF => ?_)
      refine w_ial X 2 ml_2 mo_2 (t0 := 0) rfl h_3 dX12_admissible_29 30 rfl ?_
      refine w_iconst X 1 dX12_admissible_30 rfl 31 rfl ?_
      refine w_isub X dX12_admissible_31 32 rfl ?_
      refine w_icmp_ge X hF 70 35 dX12_admissible_32 (by decide) rfl (fun hF => ?_) (fun hF => ?_)
      · refine w_iconst X 1 dX12_admissible_35 rfl 36 rfl ?_
        refine w_istore X [(4, .int 1), (0, .ref (ad 0)), (1, .int x1), (2, .int x2), (3, .int x3)] dX12_admissible_36 (by decide) rfl 38 rfl ?_
        refine w_keep [1, 2, 3, 4, 0] rfl ?_
        exact w_38 k_9 hk_9 (K_X12_admissible_23 fu k_9 n) ih fu x1 x2 x3 1 mem hF
      · refine w_iinc X 2 (x2 + 1) [(2, .int (x2 + 1)), (0, .ref (ad 0)), (1, .int x1), (3, .int x3)] dX12_admissible_70 rfl rfl (by decide) rfl 73 rfl ?_
        refine w_goto X 9 dX12_admissible_73 (by decide) ?_
        refine w_keep [1, 2, 0] rfl ?_
        exact hk_9 x1 (x2 + 1) mem hF
  have w_9 : ∀ (n : Nat) (x1 : Int32) (x2 : Int32) (mem : Mem), K_X12_admissible_9 fu n x1 x2 mem = some res → WW D 23 ad (cM ca ad) p l e rm_X12_admissible s m args below meth c 5 0 0 Q mem 9 [(0, .ref (ad 0)), (1, .int x1), (2, .int x2)] [] := by
    intro n
    induction n with
    | zero => intro x1 x2 mem hF; exact no_none (show (none : Option (Int32 × Mem)) = some res from hF)
    | succ n ih =>
      intro x1 x2 mem hF
      rw [K_X12_admissible_9] at hF
      refine w_iload_n X 2 dX12_admissible_9 rfl rfl 10 rfl ?_
      refine w_aload_n X 0 dX12_admissible_10 rfl rfl 11 rfl ?_
      refine w_getV (v := .ref (ad 2)) X 0 ml_0 mo_0 (T := TX12) (N := 50) rfl in_X12 13 (by decide) kF_X12_20 rfl rfl dX12_admissible_11 14 rfl ?_
      refine w_iconst X 1 dX12_admissible_14 rfl 15 rfl ?_
      refine w_gi hF (fun h_2 hF => ?_)
      refine w_ial X 2 ml_2 mo_2 (t0 := 0) rfl h_2 dX12_admissible_15 16 rfl ?_
      refine w_iconst X 1 dX12_admissible_16 rfl 17 rfl ?_
      refine w_isub X dX12_admissible_17 18 rfl ?_
      refine w_icmp_ge X hF 76 21 dX12_admissible_18 (by decide) rfl (fun hF => ?_) (fun hF => ?_)
      · refine w_iconst X 0 dX12_admissible_21 rfl 22 rfl ?_
        refine w_istore_n X [(3, .int 0), (0, .ref (ad 0)), (1, .int x1), (2, .int x2)] dX12_admissible_22 rfl (by decide) rfl 23 rfl ?_
        refine w_keep [1, 2, 3, 0] rfl ?_
        exact w_23 (K_X12_admissible_9 fu n) ih fu x1 x2 0 mem hF
      · refine w_iload_n X 1 dX12_admissible_76 rfl rfl 77 rfl ?_
        exact w_iret X hQ (o_inj1 hF) (o_inj2 hF) rfl dX12_admissible_77
  intro hF
  refine w_aload_n X 0 dX12_admissible_0 rfl rfl 1 rfl ?_
  refine w_iconst X 0 dX12_admissible_1 rfl 2 rfl ?_
  refine w_putI X 0 ml_0 mo_0 (T := TX12) (N := 50) rfl in_X12 tyX12 tyX12_ok nmX12 0 (by decide) kF_X12_88 rfl rfl rfl rfl (Nat.le_of_ble_eq_true rfl) rfl dX12_admissible_2 5 rfl ?_
  refine w_letm hF (fun m_1 hF => ?_)
  refine w_iconst X 0 dX12_admissible_5 rfl 6 rfl ?_
  refine w_istore_n X [(1, .int 0), (0, .ref (ad 0))] dX12_admissible_6 rfl (by decide) rfl 7 rfl ?_
  refine w_iconst X 0 dX12_admissible_7 rfl 8 rfl ?_
  refine w_istore_n X [(2, .int 0), (1, .int 0), (0, .ref (ad 0))] dX12_admissible_8 rfl (by decide) rfl 9 rfl ?_
  refine w_keep [2, 1, 0] rfl ?_
  exact w_9 fu 0 0 m_1 hF

def K_X12_isPawn (fu : Nat) (x1 : Int32) (mem : Mem) : Option Int32 := gi 2 184 (bd (K_X12_isIn fu (Int32.toInt64 x1) 0 ((((rd mem 2 (Int32.toNatClampNeg 2)) - 1)).toInt64) mem) (fun x_2 => gb x_2 (some x_2)))
def rm_X12_isPawn : Room := { frames := 1, cells := 0, slots := 0, locals := 25 }
set_option maxHeartbeats 4000000 in
set_option maxRecDepth 100000 in
theorem ct_X12_isPawn (l : Launch) {D : va_G} {ca ad : Nat → Nat} {Z : (Nat → Prop) → State → Heap → Prop} (hZ : ZOK Z) (fu : Nat) (x1 : Int32) (mem : Mem) (res : Int32) (hF : K_X12_isPawn fu x1 mem = some res) : CI l D (tyL ca) 23 ad (cM ca ad) Z yX12_isPawn cX12_isPawn 2 .boolean rm_X12_isPawn [.ref (ad 0), .int x1] mem res mem := by
  refine start_i (own := RX12) rfl (by decide) (Nat.le_of_ble_eq_true rfl) ?_
  intro p e s m args below meth c Q hQ X
  rw [K_X12_isPawn] at hF
  revert hF
  intro hF
  refine w_iload_n X 1 dX12_isPawn_0 rfl rfl 1 rfl ?_
  refine w_i2l X dX12_isPawn_1 2 rfl ?_
  refine w_lconst X 0 dX12_isPawn_2 rfl 3 rfl ?_
  refine w_aload_n X 0 dX12_isPawn_3 rfl rfl 4 rfl ?_
  refine w_getV (v := .ref (ad 2)) X 0 ml_0 mo_0 (T := TX12) (N := 50) rfl in_X12 13 (by decide) kF_X12_20 rfl rfl dX12_isPawn_4 7 rfl ?_
  refine w_iconst X 2 dX12_isPawn_7 rfl 8 rfl ?_
  refine w_gi hF (fun h_1 hF => ?_)
  refine w_ial X 2 ml_2 mo_2 (t0 := 0) rfl h_1 dX12_isPawn_8 9 rfl ?_
  refine w_iconst X 1 dX12_isPawn_9 rfl 10 rfl ?_
  refine w_isub X dX12_isPawn_10 11 rfl ?_
  refine w_i2l X dX12_isPawn_11 12 rfl ?_
  refine w_callSi (fun x => x) (fun _ => mem) X hZ hF [.long (Int32.toInt64 x1), .long 0, .long ((((rd mem 2 (Int32.toNatClampNeg 2)) - 1)).toInt64)] rfl kB_X12_isIn kL_X12_106 (fun res h => ct_X12_isIn l hZ fu (Int32.toInt64 x1) 0 ((((rd mem 2 (Int32.toNatClampNeg 2)) - 1)).toInt64) mem res h) rfl rfl rfl ⟨Nat.le_of_ble_eq_true rfl, Nat.le_of_ble_eq_true rfl⟩ (Nat.le_of_ble_eq_true rfl) ⟨Nat.zero_le _, Nat.zero_le _⟩ dX12_isPawn_12 15 rfl (fun x_2 hF => ?_)
  refine w_gb hF (fun h_3 hF => ?_)
  exact w_iret X hQ (o_inj hF) rfl (bool_nar h_3) dX12_isPawn_15

def K_X12_goes_10 (fu : Nat) (x1 : Int32) (xs0 : Int32) (mem : Mem) : Option (Int32 × Mem) := bd (K_X12_truth fu xs0 mem) (fun x_1 => lt_ (mw mem 0 0 x_1) (fun m_2 => gb x1 (some (x1, m_2))))
def K_X12_goes (fu : Nat) (x1 : Int32) (mem : Mem) : Option (Int32 × Mem) := (if x1 = 0 then (K_X12_goes_10 fu x1 1 mem) else (K_X12_goes_10 fu x1 0 mem))
def rm_X12_goes : Room := { frames := 1, cells := 0, slots := 0, locals := 20 }
set_option maxHeartbeats 4000000 in
set_option maxRecDepth 100000 in
theorem ct_X12_goes (l : Launch) {D : va_G} {ca ad : Nat → Nat} {Z : (Nat → Prop) → State → Heap → Prop} (hZ : ZOK Z) (fu : Nat) (x1 : Int32) (mem : Mem) (res : (Int32 × Mem)) (hF : K_X12_goes fu x1 mem = some res) : CI l D (tyL ca) 23 ad (cM ca ad) Z yX12_goes cX12_goes 2 .boolean rm_X12_goes [.ref (ad 0), .int x1] mem res.1 res.2 := by
  refine start_i (own := RX12) rfl (by decide) (Nat.le_of_ble_eq_true rfl) ?_
  intro p e s m args below meth c Q hQ X
  rw [K_X12_goes] at hF
  revert hF
  have w_10 : ∀ (x1 : Int32) (xs0 : Int32) (mem : Mem), K_X12_goes_10 fu x1 xs0 mem = some res → WW D 23 ad (cM ca ad) p l e rm_X12_goes s m args below meth c 2 0 0 Q mem 10 [(1, .int x1)] [.int xs0, .ref (ad 0)] := by
    intro x1 xs0 mem hF
    rw [K_X12_goes_10] at hF
    refine w_callSi (fun x => x) (fun _ => mem) X hZ hF [.int xs0] rfl kB_X12_truth kL_X12_91 (fun res h => ct_X12_truth l hZ fu xs0 mem res h) rfl rfl rfl ⟨Nat.le_of_ble_eq_true rfl, Nat.le_of_ble_eq_true rfl⟩ (Nat.le_of_ble_eq_true rfl) ⟨Nat.zero_le _, Nat.zero_le _⟩ dX12_goes_10 13 rfl (fun x_1 hF => ?_)
    refine w_putI X 0 ml_0 mo_0 (T := TX12) (N := 50) rfl in_X12 tyX12 tyX12_ok nmX12 0 (by decide) kF_X12_88 rfl rfl rfl rfl (Nat.le_of_ble_eq_true rfl) rfl dX12_goes_13 16 rfl ?_
    refine w_letm hF (fun m_2 hF => ?_)
    refine w_iload_n X 0 dX12_goes_16 rfl rfl 17 rfl ?_
    refine w_gb hF (fun h_3 hF => ?_)
    exact w_iret X hQ (o_inj1 hF) (o_inj2 hF) (bool_nar h_3) dX12_goes_17
  intro hF
  refine w_aload_n X 0 dX12_goes_0 rfl rfl 1 rfl ?_
  refine w_iload_n X 1 dX12_goes_1 rfl rfl 2 rfl ?_
  refine w_if_ne X hF 9 5 dX12_goes_2 (by decide) rfl (fun hF => ?_) (fun hF => ?_)
  · refine w_iconst X 1 dX12_goes_5 rfl 6 rfl ?_
    refine w_goto X 10 dX12_goes_6 (by decide) ?_
    refine w_keep [1] rfl ?_
    exact w_10 x1 1 mem hF
  · refine w_iconst X 0 dX12_goes_9 rfl 10 rfl ?_
    refine w_keep [1] rfl ?_
    exact w_10 x1 0 mem hF

def K_X12_over_29 (fu : Nat) (mem : Mem) : Option Int32 := some 1
def K_X12_over (fu : Nat) (mem : Mem) : Option Int32 := gi 2 184 (gi 5 184 ((if ((rd mem 2 (Int32.toNatClampNeg 2)) - (rd mem 2 (Int32.toNatClampNeg 5))) < 2 then (K_X12_over_29 fu mem ) else gi 4 184 ((if (rd mem 2 (Int32.toNatClampNeg 4)) < 200 then some 0 else (K_X12_over_29 fu mem ))))))
def rm_X12_over : Room := { frames := 0, cells := 0, slots := 0, locals := 0 }
set_option maxHeartbeats 4000000 in
set_option maxRecDepth 100000 in
theorem ct_X12_over (l : Launch) {D : va_G} {ca ad : Nat → Nat} {Z : (Nat → Prop) → State → Heap → Prop} (hZ : ZOK Z) (fu : Nat) (mem : Mem) (res : Int32) (hF : K_X12_over fu mem = some res) : CI l D (tyL ca) 23 ad (cM ca ad) Z yX12_over cX12_over 1 .boolean rm_X12_over [.ref (ad 0)] mem res mem := by
  refine start_i (own := RX12) rfl (by decide) (Nat.le_of_ble_eq_true rfl) ?_
  intro p e s m args below meth c Q hQ X
  rw [K_X12_over] at hF
  revert hF
  have w_29 : K_X12_over_29 fu mem = some res → WW D 23 ad (cM ca ad) p l e rm_X12_over s m args below meth c 1 0 0 Q mem 29 [] [] := by
    intro hF
    rw [K_X12_over_29] at hF
    refine w_iconst X 1 dX12_over_29 rfl 30 rfl ?_
    refine w_goto X 34 dX12_over_30 (by decide) ?_
    exact w_iret X hQ (o_inj hF) rfl rfl dX12_over_34
  intro hF
  refine w_aload_n X 0 dX12_over_0 rfl rfl 1 rfl ?_
  refine w_getV (v := .ref (ad 2)) X 0 ml_0 mo_0 (T := TX12) (N := 50) rfl in_X12 13 (by decide) kF_X12_20 rfl rfl dX12_over_1 4 rfl ?_
  refine w_iconst X 2 dX12_over_4 rfl 5 rfl ?_
  refine w_gi hF (fun h_1 hF => ?_)
  refine w_ial X 2 ml_2 mo_2 (t0 := 0) rfl h_1 dX12_over_5 6 rfl ?_
  refine w_aload_n X 0 dX12_over_6 rfl rfl 7 rfl ?_
  refine w_getV (v := .ref (ad 2)) X 0 ml_0 mo_0 (T := TX12) (N := 50) rfl in_X12 13 (by decide) kF_X12_20 rfl rfl dX12_over_7 10 rfl ?_
  refine w_iconst X 5 dX12_over_10 rfl 11 rfl ?_
  refine w_gi hF (fun h_2 hF => ?_)
  refine w_ial X 2 ml_2 mo_2 (t0 := 0) rfl h_2 dX12_over_11 12 rfl ?_
  refine w_isub X dX12_over_12 13 rfl ?_
  refine w_iconst X 2 dX12_over_13 rfl 14 rfl ?_
  refine w_icmp_lt X hF 29 17 dX12_over_14 (by decide) rfl (fun hF => ?_) (fun hF => ?_)
  · refine w_keep [] rfl ?_
    exact w_29  hF
  · refine w_aload_n X 0 dX12_over_17 rfl rfl 18 rfl ?_
    refine w_getV (v := .ref (ad 2)) X 0 ml_0 mo_0 (T := TX12) (N := 50) rfl in_X12 13 (by decide) kF_X12_20 rfl rfl dX12_over_18 21 rfl ?_
    refine w_iconst X 4 dX12_over_21 rfl 22 rfl ?_
    refine w_gi hF (fun h_3 hF => ?_)
    refine w_ial X 2 ml_2 mo_2 (t0 := 0) rfl h_3 dX12_over_22 23 rfl ?_
    refine w_sipush X 200 dX12_over_23 rfl 26 rfl ?_
    refine w_icmp_lt X hF 33 29 dX12_over_26 (by decide) rfl (fun hF => ?_) (fun hF => ?_)
    · refine w_iconst X 0 dX12_over_33 rfl 34 rfl ?_
      exact w_iret X hQ (o_inj hF) rfl rfl dX12_over_34
    · refine w_keep [] rfl ?_
      exact w_29  hF

def K_X12_more (fu : Nat) (x0 : Int32) (x1 : Int32) (mem : Mem) : Option Int32 := (if x1 < x0 then some x0 else some x1)
def rm_X12_more : Room := { frames := 0, cells := 0, slots := 0, locals := 0 }
set_option maxHeartbeats 4000000 in
set_option maxRecDepth 100000 in
theorem ct_X12_more (l : Launch) {D : va_G} {ca ad : Nat → Nat} {Z : (Nat → Prop) → State → Heap → Prop} (hZ : ZOK Z) (fu : Nat) (x0 : Int32) (x1 : Int32) (mem : Mem) (res : Int32) (hF : K_X12_more fu x0 x1 mem = some res) : CI l D (tyL ca) 23 ad (cM ca ad) Z yX12_more cX12_more 2 .int rm_X12_more [.int x0, .int x1] mem res mem := by
  refine start_i (own := RX12) rfl (by decide) (Nat.le_of_ble_eq_true rfl) ?_
  intro p e s m args below meth c Q hQ X
  rw [K_X12_more] at hF
  revert hF
  intro hF
  refine w_iload_n X 0 dX12_more_0 rfl rfl 1 rfl ?_
  refine w_iload_n X 1 dX12_more_1 rfl rfl 2 rfl ?_
  refine w_icmp_le X hF 9 5 dX12_more_2 (by decide) rfl (fun hF => ?_) (fun hF => ?_)
  · refine w_iload_n X 0 dX12_more_5 rfl rfl 6 rfl ?_
    refine w_goto X 10 dX12_more_6 (by decide) ?_
    exact w_iret X hQ (o_inj hF) rfl rfl dX12_more_10
  · refine w_iload_n X 1 dX12_more_9 rfl rfl 10 rfl ?_
    exact w_iret X hQ (o_inj hF) rfl rfl dX12_more_10

def K_X12_forbids (fu : Nat) (x1 : Int32) (x2 : Int32) (x3 : Int32) (x4 : Int32) (x5 : Int32) (x6 : Int32) (mem : Mem) : Option Int32 := lt_ (36 + (7 * x1)) (fun x_1 => gi (x_1 + 1) 184 (lt_ (rd mem 2 (Int32.toNatClampNeg (x_1 + 1))) (fun x_3 => (if x_3 = 0 then (if x4 = (-1) then some 0 else lt_ ((x4 + 2) - (x4 + 2) / 4 * 4) (fun x_6 => (if x6 = x_6 then some 1 else some 0))) else (if x_3 = 1 then (if x6 = x4 then some 1 else some 0) else (if x_3 = 2 then gi (x_1 + 2) 184 ((if x6 = (rd mem 2 (Int32.toNatClampNeg (x_1 + 2))) then gi (x_1 + 3) 184 (gz (rd mem 2 (Int32.toNatClampNeg (x_1 + 3))) (lt_ (x5 - x5 / (rd mem 2 (Int32.toNatClampNeg (x_1 + 3))) * (rd mem 2 (Int32.toNatClampNeg (x_1 + 3)))) (fun x_12 => gi (x_1 + 4) 184 ((if x_12 = (rd mem 2 (Int32.toNatClampNeg (x_1 + 4))) then some 1 else some 0))))) else some 0)) else gi (x_1 + 2) 184 ((if x6 = (rd mem 2 (Int32.toNatClampNeg (x_1 + 2))) then gi (x_1 + 3) 184 (gi (x_1 + 5) 184 (bd (K_X12_less fu (rd mem 2 (Int32.toNatClampNeg (x_1 + 3))) (rd mem 2 (Int32.toNatClampNeg (x_1 + 5))) mem) (fun x_17 => gi (x_1 + 3) 184 (gi (x_1 + 5) 184 (bd (K_X12_more fu (rd mem 2 (Int32.toNatClampNeg (x_1 + 3))) (rd mem 2 (Int32.toNatClampNeg (x_1 + 5))) mem) (fun x_20 => bd (K_X12_isIn fu (Int32.toInt64 x2) (Int32.toInt64 x_17) (Int32.toInt64 x_20) mem) (fun x_21 => (if x_21 = 0 then some 0 else gi (x_1 + 4) 184 (gi (x_1 + 6) 184 (bd (K_X12_less fu (rd mem 2 (Int32.toNatClampNeg (x_1 + 4))) (rd mem 2 (Int32.toNatClampNeg (x_1 + 6))) mem) (fun x_24 => gi (x_1 + 4) 184 (gi (x_1 + 6) 184 (bd (K_X12_more fu (rd mem 2 (Int32.toNatClampNeg (x_1 + 4))) (rd mem 2 (Int32.toNatClampNeg (x_1 + 6))) mem) (fun x_27 => bd (K_X12_isIn fu (Int32.toInt64 x3) (Int32.toInt64 x_24) (Int32.toInt64 x_27) mem) (fun x_28 => (if x_28 = 0 then some 0 else some 1)))))))))))))))) else some 0))))))))
def rm_X12_forbids : Room := { frames := 1, cells := 0, slots := 0, locals := 25 }
set_option maxHeartbeats 4000000 in
set_option maxRecDepth 100000 in
theorem ct_X12_forbids (l : Launch) {D : va_G} {ca ad : Nat → Nat} {Z : (Nat → Prop) → State → Heap → Prop} (hZ : ZOK Z) (fu : Nat) (x1 : Int32) (x2 : Int32) (x3 : Int32) (x4 : Int32) (x5 : Int32) (x6 : Int32) (mem : Mem) (res : Int32) (hF : K_X12_forbids fu x1 x2 x3 x4 x5 x6 mem = some res) : CI l D (tyL ca) 23 ad (cM ca ad) Z yX12_forbids cX12_forbids 8 .boolean rm_X12_forbids [.ref (ad 0), .int x1, .int x2, .int x3, .int x4, .int x5, .int x6] mem res mem := by
  refine start_i (own := RX12) rfl (by decide) (Nat.le_of_ble_eq_true rfl) ?_
  intro p e s m args below meth c Q hQ X
  rw [K_X12_forbids] at hF
  revert hF
  intro hF
  refine w_bipush X 36 dX12_forbids_0 rfl 2 rfl ?_
  refine w_bipush X 7 dX12_forbids_2 rfl 4 rfl ?_
  refine w_iload_n X 1 dX12_forbids_4 rfl rfl 5 rfl ?_
  refine w_imul X dX12_forbids_5 6 rfl ?_
  refine w_iadd X dX12_forbids_6 7 rfl ?_
  refine w_let hF (fun x_1 hF => ?_)
  refine w_istore X [(7, .int x_1), (0, .ref (ad 0)), (1, .int x1), (2, .int x2), (3, .int x3), (4, .int x4), (5, .int x5), (6, .int x6)] dX12_forbids_7 (by decide) rfl 9 rfl ?_
  refine w_aload_n X 1 dX12_forbids_9 rfl rfl 10 rfl ?_
  refine w_getV (v := .ref (ad 2)) X 0 ml_0 mo_0 (T := TX12) (N := 50) rfl in_X12 13 (by decide) kF_X12_20 rfl rfl dX12_forbids_10 13 rfl ?_
  refine w_iload X 0 dX12_forbids_13 rfl 15 rfl ?_
  refine w_iconst X 1 dX12_forbids_15 rfl 16 rfl ?_
  refine w_iadd X dX12_forbids_16 17 rfl ?_
  refine w_gi hF (fun h_2 hF => ?_)
  refine w_ial X 2 ml_2 mo_2 (t0 := 0) rfl h_2 dX12_forbids_17 18 rfl ?_
  refine w_let hF (fun x_3 hF => ?_)
  refine w_case (v := 0) hF (fun h_4 hF => ?_) (fun h_4 hF => ?_)
  · refine w_tin X 44 dX12_forbids_18 h_4 (by decide) (by decide) rfl (by decide) ?_
    refine w_iload X 5 dX12_forbids_44 rfl 46 rfl ?_
    refine w_iconst X (-1) dX12_forbids_46 rfl 47 rfl ?_
    refine w_icmp_eq X hF 65 50 dX12_forbids_47 (by decide) rfl (fun hF => ?_) (fun hF => ?_)
    · refine w_iconst X 0 dX12_forbids_65 rfl 66 rfl ?_
      exact w_iret X hQ (o_inj hF) rfl rfl dX12_forbids_66
    · refine w_iload X 7 dX12_forbids_50 rfl 52 rfl ?_
      refine w_iload X 5 dX12_forbids_52 rfl 54 rfl ?_
      refine w_iconst X 2 dX12_forbids_54 rfl 55 rfl ?_
      refine w_iadd X dX12_forbids_55 56 rfl ?_
      refine w_iconst X 4 dX12_forbids_56 rfl 57 rfl ?_
      refine w_irem X (by decide) dX12_forbids_57 58 rfl ?_
      refine w_let hF (fun x_6 hF => ?_)
      refine w_icmp_ne X hF 65 61 dX12_forbids_58 (by decide) rfl (fun hF => ?_) (fun hF => ?_)
      · refine w_iconst X 1 dX12_forbids_61 rfl 62 rfl ?_
        refine w_goto X 66 dX12_forbids_62 (by decide) ?_
        exact w_iret X hQ (o_inj hF) rfl rfl dX12_forbids_66
      · refine w_iconst X 0 dX12_forbids_65 rfl 66 rfl ?_
        exact w_iret X hQ (o_inj hF) rfl rfl dX12_forbids_66
  refine w_case (v := 1) hF (fun h_7 hF => ?_) (fun h_7 hF => ?_)
  · refine w_tin X 67 dX12_forbids_18 h_7 (by decide) (by decide) rfl (by decide) ?_
    refine w_iload X 7 dX12_forbids_67 rfl 69 rfl ?_
    refine w_iload X 5 dX12_forbids_69 rfl 71 rfl ?_
    refine w_icmp_ne X hF 78 74 dX12_forbids_71 (by decide) rfl (fun hF => ?_) (fun hF => ?_)
    · refine w_iconst X 1 dX12_forbids_74 rfl 75 rfl ?_
      refine w_goto X 79 dX12_forbids_75 (by decide) ?_
      exact w_iret X hQ (o_inj hF) rfl rfl dX12_forbids_79
    · refine w_iconst X 0 dX12_forbids_78 rfl 79 rfl ?_
      exact w_iret X hQ (o_inj hF) rfl rfl dX12_forbids_79
  refine w_case (v := 2) hF (fun h_8 hF => ?_) (fun h_8 hF => ?_)
  · refine w_tin X 80 dX12_forbids_18 h_8 (by decide) (by decide) rfl (by decide) ?_
    refine w_iload X 7 dX12_forbids_80 rfl 82 rfl ?_
    refine w_aload_n X 1 dX12_forbids_82 rfl rfl 83 rfl ?_
    refine w_getV (v := .ref (ad 2)) X 0 ml_0 mo_0 (T := TX12) (N := 50) rfl in_X12 13 (by decide) kF_X12_20 rfl rfl dX12_forbids_83 86 rfl ?_
    refine w_iload X 0 dX12_forbids_86 rfl 88 rfl ?_
    refine w_iconst X 2 dX12_forbids_88 rfl 89 rfl ?_
    refine w_iadd X dX12_forbids_89 90 rfl ?_
    refine w_gi hF (fun h_9 hF => ?_)
    refine w_ial X 2 ml_2 mo_2 (t0 := 0) rfl h_9 dX12_forbids_90 91 rfl ?_
    refine w_icmp_ne X hF 122 94 dX12_forbids_91 (by decide) rfl (fun hF => ?_) (fun hF => ?_)
    · refine w_iload X 6 dX12_forbids_94 rfl 96 rfl ?_
      refine w_aload_n X 1 dX12_forbids_96 rfl rfl 97 rfl ?_
      refine w_getV (v := .ref (ad 2)) X 0 ml_0 mo_0 (T := TX12) (N := 50) rfl in_X12 13 (by decide) kF_X12_20 rfl rfl dX12_forbids_97 100 rfl ?_
      refine w_iload X 0 dX12_forbids_100 rfl 102 rfl ?_
      refine w_iconst X 3 dX12_forbids_102 rfl 103 rfl ?_
      refine w_iadd X dX12_forbids_103 104 rfl ?_
      refine w_gi hF (fun h_10 hF => ?_)
      refine w_ial X 2 ml_2 mo_2 (t0 := 0) rfl h_10 dX12_forbids_104 105 rfl ?_
      refine w_gz hF (fun h_11 hF => ?_)
      refine w_irem X h_11 dX12_forbids_105 106 rfl ?_
      refine w_let hF (fun x_12 hF => ?_)
      refine w_aload_n X 1 dX12_forbids_106 rfl rfl 107 rfl ?_
      refine w_getV (v := .ref (ad 2)) X 0 ml_0 mo_0 (T := TX12) (N := 50) rfl in_X12 13 (by decide) kF_X12_20 rfl rfl dX12_forbids_107 110 rfl ?_
      refine w_iload X 0 dX12_forbids_110 rfl 112 rfl ?_
      refine w_iconst X 4 dX12_forbids_112 rfl 113 rfl ?_
      refine w_iadd X dX12_forbids_113 114 rfl ?_
      refine w_gi hF (fun h_13 hF => ?_)
      refine w_ial X 2 ml_2 mo_2 (t0 := 0) rfl h_13 dX12_forbids_114 115 rfl ?_
      refine w_icmp_ne X hF 122 118 dX12_forbids_115 (by decide) rfl (fun hF => ?_) (fun hF => ?_)
      · refine w_iconst X 1 dX12_forbids_118 rfl 119 rfl ?_
        refine w_goto X 123 dX12_forbids_119 (by decide) ?_
        exact w_iret X hQ (o_inj hF) rfl rfl dX12_forbids_123
      · refine w_iconst X 0 dX12_forbids_122 rfl 123 rfl ?_
        exact w_iret X hQ (o_inj hF) rfl rfl dX12_forbids_123
    · refine w_iconst X 0 dX12_forbids_122 rfl 123 rfl ?_
      exact w_iret X hQ (o_inj hF) rfl rfl dX12_forbids_123
  refine w_tout X 124 dX12_forbids_18 (by have := lv_neT h_4 (show (0 : Int32).toInt = 0 from rfl); have := lv_neT h_7 (show (1 : Int32).toInt = 1 from rfl); have := lv_neT h_8 (show (2 : Int32).toInt = 2 from rfl); omega) (by decide) ?_
  refine w_iload X 7 dX12_forbids_124 rfl 126 rfl ?_
  refine w_aload_n X 1 dX12_forbids_126 rfl rfl 127 rfl ?_
  refine w_getV (v := .ref (ad 2)) X 0 ml_0 mo_0 (T := TX12) (N := 50) rfl in_X12 13 (by decide) kF_X12_20 rfl rfl dX12_forbids_127 130 rfl ?_
  refine w_iload X 0 dX12_forbids_130 rfl 132 rfl ?_
  refine w_iconst X 2 dX12_forbids_132 rfl 133 rfl ?_
  refine w_iadd X dX12_forbids_133 134 rfl ?_
  refine w_gi hF (fun h_14 hF => ?_)
  refine w_ial X 2 ml_2 mo_2 (t0 := 0) rfl h_14 dX12_forbids_134 135 rfl ?_
  refine w_icmp_ne X hF 248 138 dX12_forbids_135 (by decide) rfl (fun hF => ?_) (fun hF => ?_)
  · refine w_iload_n X 3 dX12_forbids_138 rfl rfl 139 rfl ?_
    refine w_i2l X dX12_forbids_139 140 rfl ?_
    refine w_aload_n X 1 dX12_forbids_140 rfl rfl 141 rfl ?_
    refine w_getV (v := .ref (ad 2)) X 0 ml_0 mo_0 (T := TX12) (N := 50) rfl in_X12 13 (by decide) kF_X12_20 rfl rfl dX12_forbids_141 144 rfl ?_
    refine w_iload X 0 dX12_forbids_144 rfl 146 rfl ?_
    refine w_iconst X 3 dX12_forbids_146 rfl 147 rfl ?_
    refine w_iadd X dX12_forbids_147 148 rfl ?_
    refine w_gi hF (fun h_15 hF => ?_)
    refine w_ial X 2 ml_2 mo_2 (t0 := 0) rfl h_15 dX12_forbids_148 149 rfl ?_
    refine w_aload_n X 1 dX12_forbids_149 rfl rfl 150 rfl ?_
    refine w_getV (v := .ref (ad 2)) X 0 ml_0 mo_0 (T := TX12) (N := 50) rfl in_X12 13 (by decide) kF_X12_20 rfl rfl dX12_forbids_150 153 rfl ?_
    refine w_iload X 0 dX12_forbids_153 rfl 155 rfl ?_
    refine w_iconst X 5 dX12_forbids_155 rfl 156 rfl ?_
    refine w_iadd X dX12_forbids_156 157 rfl ?_
    refine w_gi hF (fun h_16 hF => ?_)
    refine w_ial X 2 ml_2 mo_2 (t0 := 0) rfl h_16 dX12_forbids_157 158 rfl ?_
    refine w_callSi (fun x => x) (fun _ => mem) X hZ hF [.int (rd mem 2 (Int32.toNatClampNeg (x_1 + 3))), .int (rd mem 2 (Int32.toNatClampNeg (x_1 + 5)))] rfl kB_X12_less kL_X12_190 (fun res h => ct_X12_less l hZ fu (rd mem 2 (Int32.toNatClampNeg (x_1 + 3))) (rd mem 2 (Int32.toNatClampNeg (x_1 + 5))) mem res h) rfl rfl rfl ⟨Nat.le_of_ble_eq_true rfl, Nat.le_of_ble_eq_true rfl⟩ (Nat.le_of_ble_eq_true rfl) ⟨Nat.zero_le _, Nat.zero_le _⟩ dX12_forbids_158 161 rfl (fun x_17 hF => ?_)
    refine w_i2l X dX12_forbids_161 162 rfl ?_
    refine w_aload_n X 1 dX12_forbids_162 rfl rfl 163 rfl ?_
    refine w_getV (v := .ref (ad 2)) X 0 ml_0 mo_0 (T := TX12) (N := 50) rfl in_X12 13 (by decide) kF_X12_20 rfl rfl dX12_forbids_163 166 rfl ?_
    refine w_iload X 0 dX12_forbids_166 rfl 168 rfl ?_
    refine w_iconst X 3 dX12_forbids_168 rfl 169 rfl ?_
    refine w_iadd X dX12_forbids_169 170 rfl ?_
    refine w_gi hF (fun h_18 hF => ?_)
    refine w_ial X 2 ml_2 mo_2 (t0 := 0) rfl h_18 dX12_forbids_170 171 rfl ?_
    refine w_aload_n X 1 dX12_forbids_171 rfl rfl 172 rfl ?_
    refine w_getV (v := .ref (ad 2)) X 0 ml_0 mo_0 (T := TX12) (N := 50) rfl in_X12 13 (by decide) kF_X12_20 rfl rfl dX12_forbids_172 175 rfl ?_
    refine w_iload X 0 dX12_forbids_175 rfl 177 rfl ?_
    refine w_iconst X 5 dX12_forbids_177 rfl 178 rfl ?_
    refine w_iadd X dX12_forbids_178 179 rfl ?_
    refine w_gi hF (fun h_19 hF => ?_)
    refine w_ial X 2 ml_2 mo_2 (t0 := 0) rfl h_19 dX12_forbids_179 180 rfl ?_
    refine w_callSi (fun x => x) (fun _ => mem) X hZ hF [.int (rd mem 2 (Int32.toNatClampNeg (x_1 + 3))), .int (rd mem 2 (Int32.toNatClampNeg (x_1 + 5)))] rfl kB_X12_more kL_X12_362 (fun res h => ct_X12_more l hZ fu (rd mem 2 (Int32.toNatClampNeg (x_1 + 3))) (rd mem 2 (Int32.toNatClampNeg (x_1 + 5))) mem res h) rfl rfl rfl ⟨Nat.le_of_ble_eq_true rfl, Nat.le_of_ble_eq_true rfl⟩ (Nat.le_of_ble_eq_true rfl) ⟨Nat.zero_le _, Nat.zero_le _⟩ dX12_forbids_180 183 rfl (fun x_20 hF => ?_)
    refine w_i2l X dX12_forbids_183 184 rfl ?_
    refine w_callSi (fun x => x) (fun _ => mem) X hZ hF [.long (Int32.toInt64 x2), .long (Int32.toInt64 x_17), .long (Int32.toInt64 x_20)] rfl kB_X12_isIn kL_X12_106 (fun res h => ct_X12_isIn l hZ fu (Int32.toInt64 x2) (Int32.toInt64 x_17) (Int32.toInt64 x_20) mem res h) rfl rfl rfl ⟨Nat.le_of_ble_eq_true rfl, Nat.le_of_ble_eq_true rfl⟩ (Nat.le_of_ble_eq_true rfl) ⟨Nat.zero_le _, Nat.zero_le _⟩ dX12_forbids_184 187 rfl (fun x_21 hF => ?_)
    refine w_if_eq X hF 248 190 dX12_forbids_187 (by decide) rfl (fun hF => ?_) (fun hF => ?_)
    · refine w_iconst X 0 dX12_forbids_248 rfl 249 rfl ?_
      exact w_iret X hQ (o_inj hF) rfl rfl dX12_forbids_249
    · refine w_iload_n X 4 dX12_forbids_190 rfl rfl 191 rfl ?_
      refine w_i2l X dX12_forbids_191 192 rfl ?_
      refine w_aload_n X 1 dX12_forbids_192 rfl rfl 193 rfl ?_
      refine w_getV (v := .ref (ad 2)) X 0 ml_0 mo_0 (T := TX12) (N := 50) rfl in_X12 13 (by decide) kF_X12_20 rfl rfl dX12_forbids_193 196 rfl ?_
      refine w_iload X 0 dX12_forbids_196 rfl 198 rfl ?_
      refine w_iconst X 4 dX12_forbids_198 rfl 199 rfl ?_
      refine w_iadd X dX12_forbids_199 200 rfl ?_
      refine w_gi hF (fun h_22 hF => ?_)
      refine w_ial X 2 ml_2 mo_2 (t0 := 0) rfl h_22 dX12_forbids_200 201 rfl ?_
      refine w_aload_n X 1 dX12_forbids_201 rfl rfl 202 rfl ?_
      refine w_getV (v := .ref (ad 2)) X 0 ml_0 mo_0 (T := TX12) (N := 50) rfl in_X12 13 (by decide) kF_X12_20 rfl rfl dX12_forbids_202 205 rfl ?_
      refine w_iload X 0 dX12_forbids_205 rfl 207 rfl ?_
      refine w_bipush X 6 dX12_forbids_207 rfl 209 rfl ?_
      refine w_iadd X dX12_forbids_209 210 rfl ?_
      refine w_gi hF (fun h_23 hF => ?_)
      refine w_ial X 2 ml_2 mo_2 (t0 := 0) rfl h_23 dX12_forbids_210 211 rfl ?_
      refine w_callSi (fun x => x) (fun _ => mem) X hZ hF [.int (rd mem 2 (Int32.toNatClampNeg (x_1 + 4))), .int (rd mem 2 (Int32.toNatClampNeg (x_1 + 6)))] rfl kB_X12_less kL_X12_190 (fun res h => ct_X12_less l hZ fu (rd mem 2 (Int32.toNatClampNeg (x_1 + 4))) (rd mem 2 (Int32.toNatClampNeg (x_1 + 6))) mem res h) rfl rfl rfl ⟨Nat.le_of_ble_eq_true rfl, Nat.le_of_ble_eq_true rfl⟩ (Nat.le_of_ble_eq_true rfl) ⟨Nat.zero_le _, Nat.zero_le _⟩ dX12_forbids_211 214 rfl (fun x_24 hF => ?_)
      refine w_i2l X dX12_forbids_214 215 rfl ?_
      refine w_aload_n X 1 dX12_forbids_215 rfl rfl 216 rfl ?_
      refine w_getV (v := .ref (ad 2)) X 0 ml_0 mo_0 (T := TX12) (N := 50) rfl in_X12 13 (by decide) kF_X12_20 rfl rfl dX12_forbids_216 219 rfl ?_
      refine w_iload X 0 dX12_forbids_219 rfl 221 rfl ?_
      refine w_iconst X 4 dX12_forbids_221 rfl 222 rfl ?_
      refine w_iadd X dX12_forbids_222 223 rfl ?_
      refine w_gi hF (fun h_25 hF => ?_)
      refine w_ial X 2 ml_2 mo_2 (t0 := 0) rfl h_25 dX12_forbids_223 224 rfl ?_
      refine w_aload_n X 1 dX12_forbids_224 rfl rfl 225 rfl ?_
      refine w_getV (v := .ref (ad 2)) X 0 ml_0 mo_0 (T := TX12) (N := 50) rfl in_X12 13 (by decide) kF_X12_20 rfl rfl dX12_forbids_225 228 rfl ?_
      refine w_iload X 0 dX12_forbids_228 rfl 230 rfl ?_
      refine w_bipush X 6 dX12_forbids_230 rfl 232 rfl ?_
      refine w_iadd X dX12_forbids_232 233 rfl ?_
      refine w_gi hF (fun h_26 hF => ?_)
      refine w_ial X 2 ml_2 mo_2 (t0 := 0) rfl h_26 dX12_forbids_233 234 rfl ?_
      refine w_callSi (fun x => x) (fun _ => mem) X hZ hF [.int (rd mem 2 (Int32.toNatClampNeg (x_1 + 4))), .int (rd mem 2 (Int32.toNatClampNeg (x_1 + 6)))] rfl kB_X12_more kL_X12_362 (fun res h => ct_X12_more l hZ fu (rd mem 2 (Int32.toNatClampNeg (x_1 + 4))) (rd mem 2 (Int32.toNatClampNeg (x_1 + 6))) mem res h) rfl rfl rfl ⟨Nat.le_of_ble_eq_true rfl, Nat.le_of_ble_eq_true rfl⟩ (Nat.le_of_ble_eq_true rfl) ⟨Nat.zero_le _, Nat.zero_le _⟩ dX12_forbids_234 237 rfl (fun x_27 hF => ?_)
      refine w_i2l X dX12_forbids_237 238 rfl ?_
      refine w_callSi (fun x => x) (fun _ => mem) X hZ hF [.long (Int32.toInt64 x3), .long (Int32.toInt64 x_24), .long (Int32.toInt64 x_27)] rfl kB_X12_isIn kL_X12_106 (fun res h => ct_X12_isIn l hZ fu (Int32.toInt64 x3) (Int32.toInt64 x_24) (Int32.toInt64 x_27) mem res h) rfl rfl rfl ⟨Nat.le_of_ble_eq_true rfl, Nat.le_of_ble_eq_true rfl⟩ (Nat.le_of_ble_eq_true rfl) ⟨Nat.zero_le _, Nat.zero_le _⟩ dX12_forbids_238 241 rfl (fun x_28 hF => ?_)
      refine w_if_eq X hF 248 244 dX12_forbids_241 (by decide) rfl (fun hF => ?_) (fun hF => ?_)
      · refine w_iconst X 0 dX12_forbids_248 rfl 249 rfl ?_
        exact w_iret X hQ (o_inj hF) rfl rfl dX12_forbids_249
      · refine w_iconst X 1 dX12_forbids_244 rfl 245 rfl ?_
        refine w_goto X 249 dX12_forbids_245 (by decide) ?_
        exact w_iret X hQ (o_inj hF) rfl rfl dX12_forbids_249
  · refine w_iconst X 0 dX12_forbids_248 rfl 249 rfl ?_
    exact w_iret X hQ (o_inj hF) rfl rfl dX12_forbids_249

def K_X12_isForbidden_6 (fu : Nat) (mem : Mem) : Nat → Int32 → Int32 → Int32 → Int32 → Int32 → Int32 → Int32 → Option Int32
  | 0, _, _, _, _, _, _, _ => none
  | n + 1, x1, x2, x3, x4, x5, x6, x7 => gi 6 184 ((if x7 < (rd mem 2 (Int32.toNatClampNeg 6)) then (if x6 = 0 then gi (36 + (7 * x7)) 184 ((if (rd mem 2 (Int32.toNatClampNeg (36 + (7 * x7)))) = (rd mem 0 27) then bd (K_X12_forbids fu x7 x1 x2 x3 x4 x5 mem) (fun x_3 => (if x_3 = 0 then (K_X12_isForbidden_6 fu mem n x1 x2 x3 x4 x5 0 (x7 + 1) ) else (K_X12_isForbidden_6 fu mem n x1 x2 x3 x4 x5 1 (x7 + 1) ))) else (K_X12_isForbidden_6 fu mem n x1 x2 x3 x4 x5 0 (x7 + 1) ))) else gb x6 (some x6)) else gb x6 (some x6)))
def K_X12_isForbidden (fu : Nat) (x1 : Int32) (x2 : Int32) (x3 : Int32) (x4 : Int32) (x5 : Int32) (mem : Mem) : Option Int32 := (K_X12_isForbidden_6 fu mem fu x1 x2 x3 x4 x5 0 0 )
def rm_X12_isForbidden : Room := { frames := 2, cells := 0, slots := 0, locals := 52 }
set_option maxHeartbeats 4000000 in
set_option maxRecDepth 100000 in
theorem ct_X12_isForbidden (l : Launch) {D : va_G} {ca ad : Nat → Nat} {Z : (Nat → Prop) → State → Heap → Prop} (hZ : ZOK Z) (fu : Nat) (x1 : Int32) (x2 : Int32) (x3 : Int32) (x4 : Int32) (x5 : Int32) (mem : Mem) (res : Int32) (hF : K_X12_isForbidden fu x1 x2 x3 x4 x5 mem = some res) : CI l D (tyL ca) 23 ad (cM ca ad) Z yX12_isForbidden cX12_isForbidden 8 .boolean rm_X12_isForbidden [.ref (ad 0), .int x1, .int x2, .int x3, .int x4, .int x5] mem res mem := by
  refine start_i (own := RX12) rfl (by decide) (Nat.le_of_ble_eq_true rfl) ?_
  intro p e s m args below meth c Q hQ X
  rw [K_X12_isForbidden] at hF
  revert hF
  have w_6 : ∀ (n : Nat) (x1 : Int32) (x2 : Int32) (x3 : Int32) (x4 : Int32) (x5 : Int32) (x6 : Int32) (x7 : Int32), K_X12_isForbidden_6 fu mem n x1 x2 x3 x4 x5 x6 x7 = some res → WW D 23 ad (cM ca ad) p l e rm_X12_isForbidden s m args below meth c 8 0 0 Q mem 6 [(0, .ref (ad 0)), (1, .int x1), (2, .int x2), (3, .int x3), (4, .int x4), (5, .int x5), (6, .int x6), (7, .int x7)] [] := by
    intro n
    induction n with
    | zero => intro x1 x2 x3 x4 x5 x6 x7 hF; exact no_none (show (none : Option Int32) = some res from hF)
    | succ n ih =>
      intro x1 x2 x3 x4 x5 x6 x7 hF
      rw [K_X12_isForbidden_6] at hF
      refine w_iload X 7 dX12_isForbidden_6 rfl 8 rfl ?_
      refine w_aload_n X 0 dX12_isForbidden_8 rfl rfl 9 rfl ?_
      refine w_getV (v := .ref (ad 2)) X 0 ml_0 mo_0 (T := TX12) (N := 50) rfl in_X12 13 (by decide) kF_X12_20 rfl rfl dX12_isForbidden_9 12 rfl ?_
      refine w_bipush X 6 dX12_isForbidden_12 rfl 14 rfl ?_
      refine w_gi hF (fun h_1 hF => ?_)
      refine w_ial X 2 ml_2 mo_2 (t0 := 0) rfl h_1 dX12_isForbidden_14 15 rfl ?_
      refine w_icmp_ge X hF 72 18 dX12_isForbidden_15 (by decide) rfl (fun hF => ?_) (fun hF => ?_)
      · refine w_iload X 6 dX12_isForbidden_18 rfl 20 rfl ?_
        refine w_if_ne X hF 72 23 dX12_isForbidden_20 (by decide) rfl (fun hF => ?_) (fun hF => ?_)
        · refine w_aload_n X 0 dX12_isForbidden_23 rfl rfl 24 rfl ?_
          refine w_getV (v := .ref (ad 2)) X 0 ml_0 mo_0 (T := TX12) (N := 50) rfl in_X12 13 (by decide) kF_X12_20 rfl rfl dX12_isForbidden_24 27 rfl ?_
          refine w_bipush X 36 dX12_isForbidden_27 rfl 29 rfl ?_
          refine w_bipush X 7 dX12_isForbidden_29 rfl 31 rfl ?_
          refine w_iload X 7 dX12_isForbidden_31 rfl 33 rfl ?_
          refine w_imul X dX12_isForbidden_33 34 rfl ?_
          refine w_iadd X dX12_isForbidden_34 35 rfl ?_
          refine w_gi hF (fun h_2 hF => ?_)
          refine w_ial X 2 ml_2 mo_2 (t0 := 0) rfl h_2 dX12_isForbidden_35 36 rfl ?_
          refine w_aload_n X 0 dX12_isForbidden_36 rfl rfl 37 rfl ?_
          refine w_getV (v := .int (rd mem 0 27)) X 0 ml_0 mo_0 (T := TX12) (N := 50) rfl in_X12 27 (by decide) kF_X12_365 rfl rfl dX12_isForbidden_37 40 rfl ?_
          refine w_icmp_ne X hF 63 43 dX12_isForbidden_40 (by decide) rfl (fun hF => ?_) (fun hF => ?_)
          · refine w_aload_n X 0 dX12_isForbidden_43 rfl rfl 44 rfl ?_
            refine w_iload X 7 dX12_isForbidden_44 rfl 46 rfl ?_
            refine w_iload_n X 1 dX12_isForbidden_46 rfl rfl 47 rfl ?_
            refine w_iload_n X 2 dX12_isForbidden_47 rfl rfl 48 rfl ?_
            refine w_iload_n X 3 dX12_isForbidden_48 rfl rfl 49 rfl ?_
            refine w_iload X 4 dX12_isForbidden_49 rfl 51 rfl ?_
            refine w_iload X 5 dX12_isForbidden_51 rfl 53 rfl ?_
            refine w_callVi (fun x => x) (fun _ => mem) X hZ hF [.int x7, .int x1, .int x2, .int x3, .int x4, .int x5] 0 ml_0 mo_0 rfl rfl rfl kB_X12_forbids kL_X12_368 (fun res h => ct_X12_forbids l hZ fu x7 x1 x2 x3 x4 x5 mem res h) rfl rfl rfl ⟨Nat.le_of_ble_eq_true rfl, Nat.le_of_ble_eq_true rfl⟩ (Nat.le_of_ble_eq_true rfl) ⟨Nat.zero_le _, Nat.zero_le _⟩ dX12_isForbidden_53 56 rfl (fun x_3 hF => ?_)
            refine w_if_eq X hF 63 59 dX12_isForbidden_56 (by decide) rfl (fun hF => ?_) (fun hF => ?_)
            · refine w_iconst X 0 dX12_isForbidden_63 rfl 64 rfl ?_
              refine w_istore X [(6, .int 0), (0, .ref (ad 0)), (1, .int x1), (2, .int x2), (3, .int x3), (4, .int x4), (5, .int x5), (7, .int x7)] dX12_isForbidden_64 (by decide) rfl 66 rfl ?_
              refine w_iinc X 7 (x7 + 1) [(7, .int (x7 + 1)), (6, .int 0), (0, .ref (ad 0)), (1, .int x1), (2, .int x2), (3, .int x3), (4, .int x4), (5, .int x5)] dX12_isForbidden_66 rfl rfl (by decide) rfl 69 rfl ?_
              refine w_goto X 6 dX12_isForbidden_69 (by decide) ?_
              refine w_keep [2, 3, 4, 5, 6, 7, 1, 0] rfl ?_
              exact ih x1 x2 x3 x4 x5 0 (x7 + 1)  hF
            · refine w_iconst X 1 dX12_isForbidden_59 rfl 60 rfl ?_
              refine w_goto X 64 dX12_isForbidden_60 (by decide) ?_
              refine w_istore X [(6, .int 1), (0, .ref (ad 0)), (1, .int x1), (2, .int x2), (3, .int x3), (4, .int x4), (5, .int x5), (7, .int x7)] dX12_isForbidden_64 (by decide) rfl 66 rfl ?_
              refine w_iinc X 7 (x7 + 1) [(7, .int (x7 + 1)), (6, .int 1), (0, .ref (ad 0)), (1, .int x1), (2, .int x2), (3, .int x3), (4, .int x4), (5, .int x5)] dX12_isForbidden_66 rfl rfl (by decide) rfl 69 rfl ?_
              refine w_goto X 6 dX12_isForbidden_69 (by decide) ?_
              refine w_keep [2, 3, 4, 5, 6, 7, 1, 0] rfl ?_
              exact ih x1 x2 x3 x4 x5 1 (x7 + 1)  hF
          · refine w_iconst X 0 dX12_isForbidden_63 rfl 64 rfl ?_
            refine w_istore X [(6, .int 0), (0, .ref (ad 0)), (1, .int x1), (2, .int x2), (3, .int x3), (4, .int x4), (5, .int x5), (7, .int x7)] dX12_isForbidden_64 (by decide) rfl 66 rfl ?_
            refine w_iinc X 7 (x7 + 1) [(7, .int (x7 + 1)), (6, .int 0), (0, .ref (ad 0)), (1, .int x1), (2, .int x2), (3, .int x3), (4, .int x4), (5, .int x5)] dX12_isForbidden_66 rfl rfl (by decide) rfl 69 rfl ?_
            refine w_goto X 6 dX12_isForbidden_69 (by decide) ?_
            refine w_keep [2, 3, 4, 5, 6, 7, 1, 0] rfl ?_
            exact ih x1 x2 x3 x4 x5 0 (x7 + 1)  hF
        · refine w_iload X 6 dX12_isForbidden_72 rfl 74 rfl ?_
          refine w_gb hF (fun h_4 hF => ?_)
          exact w_iret X hQ (o_inj hF) rfl (bool_nar h_4) dX12_isForbidden_74
      · refine w_iload X 6 dX12_isForbidden_72 rfl 74 rfl ?_
        refine w_gb hF (fun h_5 hF => ?_)
        exact w_iret X hQ (o_inj hF) rfl (bool_nar h_5) dX12_isForbidden_74
  intro hF
  refine w_iconst X 0 dX12_isForbidden_0 rfl 1 rfl ?_
  refine w_istore X [(6, .int 0), (0, .ref (ad 0)), (1, .int x1), (2, .int x2), (3, .int x3), (4, .int x4), (5, .int x5)] dX12_isForbidden_1 (by decide) rfl 3 rfl ?_
  refine w_iconst X 0 dX12_isForbidden_3 rfl 4 rfl ?_
  refine w_istore X [(7, .int 0), (6, .int 0), (0, .ref (ad 0)), (1, .int x1), (2, .int x2), (3, .int x3), (4, .int x4), (5, .int x5)] dX12_isForbidden_4 (by decide) rfl 6 rfl ?_
  refine w_keep [2, 3, 4, 5, 6, 7, 1, 0] rfl ?_
  exact w_6 fu x1 x2 x3 x4 x5 0 0  hF

def K_X12_bans (fu : Nat) (x1 : Int32) (x2 : Int32) (mem : Mem) : Option (Int32 × Mem) := lt_ (mw mem 0 27 x1) (fun m_1 => bd (K_X12_of fu x1 0 m_1) (fun x_2 => bd (K_X12_of fu x1 1 m_1) (fun x_3 => bd (K_X12_of fu x1 5 m_1) (fun x_4 => bd (K_X12_of fu x1 4 m_1) (fun x_5 => bd (K_X12_isForbidden fu x_2 x_3 x_4 x_5 x2 m_1) (fun x_6 => gb x_6 (some (x_6, m_1))))))))
def rm_X12_bans : Room := { frames := 3, cells := 0, slots := 0, locals := 79 }
set_option maxHeartbeats 4000000 in
set_option maxRecDepth 100000 in
theorem ct_X12_bans (l : Launch) {D : va_G} {ca ad : Nat → Nat} {Z : (Nat → Prop) → State → Heap → Prop} (hZ : ZOK Z) (fu : Nat) (x1 : Int32) (x2 : Int32) (mem : Mem) (res : (Int32 × Mem)) (hF : K_X12_bans fu x1 x2 mem = some res) : CI l D (tyL ca) 23 ad (cM ca ad) Z yX12_bans cX12_bans 3 .boolean rm_X12_bans [.ref (ad 0), .int x1, .int x2] mem res.1 res.2 := by
  refine start_i (own := RX12) rfl (by decide) (Nat.le_of_ble_eq_true rfl) ?_
  intro p e s m args below meth c Q hQ X
  rw [K_X12_bans] at hF
  revert hF
  intro hF
  refine w_aload_n X 0 dX12_bans_0 rfl rfl 1 rfl ?_
  refine w_iload_n X 1 dX12_bans_1 rfl rfl 2 rfl ?_
  refine w_putI X 0 ml_0 mo_0 (T := TX12) (N := 50) rfl in_X12 tyX12 tyX12_ok nmX12 27 (by decide) kF_X12_365 rfl rfl rfl rfl (Nat.le_of_ble_eq_true rfl) rfl dX12_bans_2 5 rfl ?_
  refine w_letm hF (fun m_1 hF => ?_)
  refine w_aload_n X 0 dX12_bans_5 rfl rfl 6 rfl ?_
  refine w_aload_n X 0 dX12_bans_6 rfl rfl 7 rfl ?_
  refine w_iload_n X 1 dX12_bans_7 rfl rfl 8 rfl ?_
  refine w_iconst X 0 dX12_bans_8 rfl 9 rfl ?_
  refine w_callVi (fun x => x) (fun _ => m_1) X hZ hF [.int x1, .int 0] 0 ml_0 mo_0 rfl rfl rfl kB_X12_of kL_X12_174 (fun res h => ct_X12_of l hZ fu x1 0 m_1 res h) rfl rfl rfl ⟨Nat.le_of_ble_eq_true rfl, Nat.le_of_ble_eq_true rfl⟩ (Nat.le_of_ble_eq_true rfl) ⟨Nat.zero_le _, Nat.zero_le _⟩ dX12_bans_9 12 rfl (fun x_2 hF => ?_)
  refine w_aload_n X 0 dX12_bans_12 rfl rfl 13 rfl ?_
  refine w_iload_n X 1 dX12_bans_13 rfl rfl 14 rfl ?_
  refine w_iconst X 1 dX12_bans_14 rfl 15 rfl ?_
  refine w_callVi (fun x => x) (fun _ => m_1) X hZ hF [.int x1, .int 1] 0 ml_0 mo_0 rfl rfl rfl kB_X12_of kL_X12_174 (fun res h => ct_X12_of l hZ fu x1 1 m_1 res h) rfl rfl rfl ⟨Nat.le_of_ble_eq_true rfl, Nat.le_of_ble_eq_true rfl⟩ (Nat.le_of_ble_eq_true rfl) ⟨Nat.zero_le _, Nat.zero_le _⟩ dX12_bans_15 18 rfl (fun x_3 hF => ?_)
  refine w_aload_n X 0 dX12_bans_18 rfl rfl 19 rfl ?_
  refine w_iload_n X 1 dX12_bans_19 rfl rfl 20 rfl ?_
  refine w_iconst X 5 dX12_bans_20 rfl 21 rfl ?_
  refine w_callVi (fun x => x) (fun _ => m_1) X hZ hF [.int x1, .int 5] 0 ml_0 mo_0 rfl rfl rfl kB_X12_of kL_X12_174 (fun res h => ct_X12_of l hZ fu x1 5 m_1 res h) rfl rfl rfl ⟨Nat.le_of_ble_eq_true rfl, Nat.le_of_ble_eq_true rfl⟩ (Nat.le_of_ble_eq_true rfl) ⟨Nat.zero_le _, Nat.zero_le _⟩ dX12_bans_21 24 rfl (fun x_4 hF => ?_)
  refine w_aload_n X 0 dX12_bans_24 rfl rfl 25 rfl ?_
  refine w_iload_n X 1 dX12_bans_25 rfl rfl 26 rfl ?_
  refine w_iconst X 4 dX12_bans_26 rfl 27 rfl ?_
  refine w_callVi (fun x => x) (fun _ => m_1) X hZ hF [.int x1, .int 4] 0 ml_0 mo_0 rfl rfl rfl kB_X12_of kL_X12_174 (fun res h => ct_X12_of l hZ fu x1 4 m_1 res h) rfl rfl rfl ⟨Nat.le_of_ble_eq_true rfl, Nat.le_of_ble_eq_true rfl⟩ (Nat.le_of_ble_eq_true rfl) ⟨Nat.zero_le _, Nat.zero_le _⟩ dX12_bans_27 30 rfl (fun x_5 hF => ?_)
  refine w_iload_n X 2 dX12_bans_30 rfl rfl 31 rfl ?_
  refine w_callVi (fun x => x) (fun _ => m_1) X hZ hF [.int x_2, .int x_3, .int x_4, .int x_5, .int x2] 0 ml_0 mo_0 rfl rfl rfl kB_X12_isForbidden kL_X12_372 (fun res h => ct_X12_isForbidden l hZ fu x_2 x_3 x_4 x_5 x2 m_1 res h) rfl rfl rfl ⟨Nat.le_of_ble_eq_true rfl, Nat.le_of_ble_eq_true rfl⟩ (Nat.le_of_ble_eq_true rfl) ⟨Nat.zero_le _, Nat.zero_le _⟩ dX12_bans_31 34 rfl (fun x_6 hF => ?_)
  refine w_gb hF (fun h_7 hF => ?_)
  exact w_iret X hQ (o_inj1 hF) (o_inj2 hF) (bool_nar h_7) dX12_bans_34

def K_X12_pawnIn_5 (fu : Nat) (mem : Mem) : Nat → Int32 → Int32 → Int32 → Int32 → Option Int32
  | 0, _, _, _, _ => none
  | n + 1, x1, x2, x3, x4 => gi 2 184 ((if x4 < (rd mem 2 (Int32.toNatClampNeg 2)) then bd (K_X12_hasFinished fu x4 mem) (fun x_2 => (if x_2 = 0 then bd (K_X12_of fu x4 0 mem) (fun x_3 => (if x_3 = x1 then bd (K_X12_of fu x4 1 mem) (fun x_4 => (if x_4 = x2 then (K_X12_pawnIn_5 fu mem n x1 x2 x4 (x4 + 1) ) else (K_X12_pawnIn_5 fu mem n x1 x2 x3 (x4 + 1) ))) else (K_X12_pawnIn_5 fu mem n x1 x2 x3 (x4 + 1) ))) else (K_X12_pawnIn_5 fu mem n x1 x2 x3 (x4 + 1) ))) else some x3))
def K_X12_pawnIn (fu : Nat) (x1 : Int32) (x2 : Int32) (mem : Mem) : Option Int32 := (K_X12_pawnIn_5 fu mem fu x1 x2 (-1) 0 )
def rm_X12_pawnIn : Room := { frames := 2, cells := 0, slots := 0, locals := 43 }
set_option maxHeartbeats 4000000 in
set_option maxRecDepth 100000 in
theorem ct_X12_pawnIn (l : Launch) {D : va_G} {ca ad : Nat → Nat} {Z : (Nat → Prop) → State → Heap → Prop} (hZ : ZOK Z) (fu : Nat) (x1 : Int32) (x2 : Int32) (mem : Mem) (res : Int32) (hF : K_X12_pawnIn fu x1 x2 mem = some res) : CI l D (tyL ca) 23 ad (cM ca ad) Z yX12_pawnIn cX12_pawnIn 5 .int rm_X12_pawnIn [.ref (ad 0), .int x1, .int x2] mem res mem := by
  refine start_i (own := RX12) rfl (by decide) (Nat.le_of_ble_eq_true rfl) ?_
  intro p e s m args below meth c Q hQ X
  rw [K_X12_pawnIn] at hF
  revert hF
  have w_5 : ∀ (n : Nat) (x1 : Int32) (x2 : Int32) (x3 : Int32) (x4 : Int32), K_X12_pawnIn_5 fu mem n x1 x2 x3 x4 = some res → WW D 23 ad (cM ca ad) p l e rm_X12_pawnIn s m args below meth c 5 0 0 Q mem 5 [(0, .ref (ad 0)), (1, .int x1), (2, .int x2), (3, .int x3), (4, .int x4)] [] := by
    intro n
    induction n with
    | zero => intro x1 x2 x3 x4 hF; exact no_none (show (none : Option Int32) = some res from hF)
    | succ n ih =>
      intro x1 x2 x3 x4 hF
      rw [K_X12_pawnIn_5] at hF
      refine w_iload X 4 dX12_pawnIn_5 rfl 7 rfl ?_
      refine w_aload_n X 0 dX12_pawnIn_7 rfl rfl 8 rfl ?_
      refine w_getV (v := .ref (ad 2)) X 0 ml_0 mo_0 (T := TX12) (N := 50) rfl in_X12 13 (by decide) kF_X12_20 rfl rfl dX12_pawnIn_8 11 rfl ?_
      refine w_iconst X 2 dX12_pawnIn_11 rfl 12 rfl ?_
      refine w_gi hF (fun h_1 hF => ?_)
      refine w_ial X 2 ml_2 mo_2 (t0 := 0) rfl h_1 dX12_pawnIn_12 13 rfl ?_
      refine w_icmp_ge X hF 60 16 dX12_pawnIn_13 (by decide) rfl (fun hF => ?_) (fun hF => ?_)
      · refine w_aload_n X 0 dX12_pawnIn_16 rfl rfl 17 rfl ?_
        refine w_iload X 4 dX12_pawnIn_17 rfl 19 rfl ?_
        refine w_callVi (fun x => x) (fun _ => mem) X hZ hF [.int x4] 0 ml_0 mo_0 rfl rfl rfl kB_X12_hasFinished kL_X12_213 (fun res h => ct_X12_hasFinished l hZ fu x4 mem res h) rfl rfl rfl ⟨Nat.le_of_ble_eq_true rfl, Nat.le_of_ble_eq_true rfl⟩ (Nat.le_of_ble_eq_true rfl) ⟨Nat.zero_le _, Nat.zero_le _⟩ dX12_pawnIn_19 22 rfl (fun x_2 hF => ?_)
        refine w_if_ne X hF 52 25 dX12_pawnIn_22 (by decide) rfl (fun hF => ?_) (fun hF => ?_)
        · refine w_aload_n X 0 dX12_pawnIn_25 rfl rfl 26 rfl ?_
          refine w_iload X 4 dX12_pawnIn_26 rfl 28 rfl ?_
          refine w_iconst X 0 dX12_pawnIn_28 rfl 29 rfl ?_
          refine w_callVi (fun x => x) (fun _ => mem) X hZ hF [.int x4, .int 0] 0 ml_0 mo_0 rfl rfl rfl kB_X12_of kL_X12_174 (fun res h => ct_X12_of l hZ fu x4 0 mem res h) rfl rfl rfl ⟨Nat.le_of_ble_eq_true rfl, Nat.le_of_ble_eq_true rfl⟩ (Nat.le_of_ble_eq_true rfl) ⟨Nat.zero_le _, Nat.zero_le _⟩ dX12_pawnIn_29 32 rfl (fun x_3 hF => ?_)
          refine w_iload_n X 1 dX12_pawnIn_32 rfl rfl 33 rfl ?_
          refine w_icmp_ne X hF 52 36 dX12_pawnIn_33 (by decide) rfl (fun hF => ?_) (fun hF => ?_)
          · refine w_aload_n X 0 dX12_pawnIn_36 rfl rfl 37 rfl ?_
            refine w_iload X 4 dX12_pawnIn_37 rfl 39 rfl ?_
            refine w_iconst X 1 dX12_pawnIn_39 rfl 40 rfl ?_
            refine w_callVi (fun x => x) (fun _ => mem) X hZ hF [.int x4, .int 1] 0 ml_0 mo_0 rfl rfl rfl kB_X12_of kL_X12_174 (fun res h => ct_X12_of l hZ fu x4 1 mem res h) rfl rfl rfl ⟨Nat.le_of_ble_eq_true rfl, Nat.le_of_ble_eq_true rfl⟩ (Nat.le_of_ble_eq_true rfl) ⟨Nat.zero_le _, Nat.zero_le _⟩ dX12_pawnIn_40 43 rfl (fun x_4 hF => ?_)
            refine w_iload_n X 2 dX12_pawnIn_43 rfl rfl 44 rfl ?_
            refine w_icmp_ne X hF 52 47 dX12_pawnIn_44 (by decide) rfl (fun hF => ?_) (fun hF => ?_)
            · refine w_iload X 4 dX12_pawnIn_47 rfl 49 rfl ?_
              refine w_goto X 53 dX12_pawnIn_49 (by decide) ?_
              refine w_istore_n X [(3, .int x4), (0, .ref (ad 0)), (1, .int x1), (2, .int x2), (4, .int x4)] dX12_pawnIn_53 rfl (by decide) rfl 54 rfl ?_
              refine w_iinc X 4 (x4 + 1) [(4, .int (x4 + 1)), (3, .int x4), (0, .ref (ad 0)), (1, .int x1), (2, .int x2)] dX12_pawnIn_54 rfl rfl (by decide) rfl 57 rfl ?_
              refine w_goto X 5 dX12_pawnIn_57 (by decide) ?_
              refine w_keep [2, 3, 4, 1, 0] rfl ?_
              exact ih x1 x2 x4 (x4 + 1)  hF
            · refine w_iload_n X 3 dX12_pawnIn_52 rfl rfl 53 rfl ?_
              refine w_istore_n X [(3, .int x3), (0, .ref (ad 0)), (1, .int x1), (2, .int x2), (4, .int x4)] dX12_pawnIn_53 rfl (by decide) rfl 54 rfl ?_
              refine w_iinc X 4 (x4 + 1) [(4, .int (x4 + 1)), (3, .int x3), (0, .ref (ad 0)), (1, .int x1), (2, .int x2)] dX12_pawnIn_54 rfl rfl (by decide) rfl 57 rfl ?_
              refine w_goto X 5 dX12_pawnIn_57 (by decide) ?_
              refine w_keep [2, 3, 4, 1, 0] rfl ?_
              exact ih x1 x2 x3 (x4 + 1)  hF
          · refine w_iload_n X 3 dX12_pawnIn_52 rfl rfl 53 rfl ?_
            refine w_istore_n X [(3, .int x3), (0, .ref (ad 0)), (1, .int x1), (2, .int x2), (4, .int x4)] dX12_pawnIn_53 rfl (by decide) rfl 54 rfl ?_
            refine w_iinc X 4 (x4 + 1) [(4, .int (x4 + 1)), (3, .int x3), (0, .ref (ad 0)), (1, .int x1), (2, .int x2)] dX12_pawnIn_54 rfl rfl (by decide) rfl 57 rfl ?_
            refine w_goto X 5 dX12_pawnIn_57 (by decide) ?_
            refine w_keep [2, 3, 4, 1, 0] rfl ?_
            exact ih x1 x2 x3 (x4 + 1)  hF
        · refine w_iload_n X 3 dX12_pawnIn_52 rfl rfl 53 rfl ?_
          refine w_istore_n X [(3, .int x3), (0, .ref (ad 0)), (1, .int x1), (2, .int x2), (4, .int x4)] dX12_pawnIn_53 rfl (by decide) rfl 54 rfl ?_
          refine w_iinc X 4 (x4 + 1) [(4, .int (x4 + 1)), (3, .int x3), (0, .ref (ad 0)), (1, .int x1), (2, .int x2)] dX12_pawnIn_54 rfl rfl (by decide) rfl 57 rfl ?_
          refine w_goto X 5 dX12_pawnIn_57 (by decide) ?_
          refine w_keep [2, 3, 4, 1, 0] rfl ?_
          exact ih x1 x2 x3 (x4 + 1)  hF
      · refine w_iload_n X 3 dX12_pawnIn_60 rfl rfl 61 rfl ?_
        exact w_iret X hQ (o_inj hF) rfl rfl dX12_pawnIn_61
  intro hF
  refine w_iconst X (-1) dX12_pawnIn_0 rfl 1 rfl ?_
  refine w_istore_n X [(3, .int (-1)), (0, .ref (ad 0)), (1, .int x1), (2, .int x2)] dX12_pawnIn_1 rfl (by decide) rfl 2 rfl ?_
  refine w_iconst X 0 dX12_pawnIn_2 rfl 3 rfl ?_
  refine w_istore X [(4, .int 0), (3, .int (-1)), (0, .ref (ad 0)), (1, .int x1), (2, .int x2)] dX12_pawnIn_3 (by decide) rfl 5 rfl ?_
  refine w_keep [2, 3, 4, 1, 0] rfl ?_
  exact w_5 fu x1 x2 (-1) 0  hF

def K_X12_goesBy (fu : Nat) (x1 : Int32) (x2 : Int32) (mem : Mem) : Option (Int32 × Mem) := bd (K_X12_hasFinished fu x1 mem) (fun x_1 => (if x_1 = 0 then bd (K_X12_over fu mem) (fun x_2 => (if x_2 = 0 then bd (K_X12_bans fu x1 x2 mem) (fun p_3 => (if p_3.1 = 0 then bd (K_X12_of fu x1 0 p_3.2) (fun x_4 => bd (K_X12_of fu x1 1 p_3.2) (fun x_5 => bd (K_X12_blocks fu x_4 x_5 x2 p_3.2) (fun x_6 => (if x_6 = 0 then bd (K_X12_across fu x2 p_3.2) (fun x_7 => lt_ (x_4 + x_7) (fun x_8 => bd (K_X12_up fu x2 p_3.2) (fun x_9 => lt_ (x_5 + x_9) (fun x_10 => bd (K_X12_pawnIn fu x_8 x_10 p_3.2) (fun x_11 => (if x_11 = (-1) then some (1, p_3.2) else bd (K_X12_blocks fu x_8 x_10 x2 p_3.2) (fun x_12 => (if x_12 = 0 then bd (K_X12_across fu x2 p_3.2) (fun x_13 => bd (K_X12_up fu x2 p_3.2) (fun x_14 => bd (K_X12_pawnIn fu (x_8 + x_13) (x_10 + x_14) p_3.2) (fun x_15 => (if x_15 = (-1) then some (2, p_3.2) else some (0, p_3.2))))) else some (0, p_3.2))))))))) else some (0, p_3.2))))) else some (0, p_3.2))) else some (0, mem))) else some (0, mem)))
def rm_X12_goesBy : Room := { frames := 4, cells := 0, slots := 0, locals := 101 }
set_option maxHeartbeats 4000000 in
set_option maxRecDepth 100000 in
theorem ct_X12_goesBy (l : Launch) {D : va_G} {ca ad : Nat → Nat} {Z : (Nat → Prop) → State → Heap → Prop} (hZ : ZOK Z) (fu : Nat) (x1 : Int32) (x2 : Int32) (mem : Mem) (res : (Int32 × Mem)) (hF : K_X12_goesBy fu x1 x2 mem = some res) : CI l D (tyL ca) 23 ad (cM ca ad) Z yX12_goesBy cX12_goesBy 5 .int rm_X12_goesBy [.ref (ad 0), .int x1, .int x2] mem res.1 res.2 := by
  refine start_i (own := RX12) rfl (by decide) (Nat.le_of_ble_eq_true rfl) ?_
  intro p e s m args below meth c Q hQ X
  rw [K_X12_goesBy] at hF
  revert hF
  intro hF
  refine w_aload_n X 0 dX12_goesBy_0 rfl rfl 1 rfl ?_
  refine w_iload_n X 1 dX12_goesBy_1 rfl rfl 2 rfl ?_
  refine w_callVi (fun x => x) (fun _ => mem) X hZ hF [.int x1] 0 ml_0 mo_0 rfl rfl rfl kB_X12_hasFinished kL_X12_213 (fun res h => ct_X12_hasFinished l hZ fu x1 mem res h) rfl rfl rfl ⟨Nat.le_of_ble_eq_true rfl, Nat.le_of_ble_eq_true rfl⟩ (Nat.le_of_ble_eq_true rfl) ⟨Nat.zero_le _, Nat.zero_le _⟩ dX12_goesBy_2 5 rfl (fun x_1 hF => ?_)
  refine w_if_ne X hF 24 8 dX12_goesBy_5 (by decide) rfl (fun hF => ?_) (fun hF => ?_)
  · refine w_aload_n X 0 dX12_goesBy_8 rfl rfl 9 rfl ?_
    refine w_callVi (fun x => x) (fun _ => mem) X hZ hF [] 0 ml_0 mo_0 rfl rfl rfl kB_X12_over kL_X12_351 (fun res h => ct_X12_over l hZ fu mem res h) rfl rfl rfl ⟨Nat.le_of_ble_eq_true rfl, Nat.le_of_ble_eq_true rfl⟩ (Nat.le_of_ble_eq_true rfl) ⟨Nat.zero_le _, Nat.zero_le _⟩ dX12_goesBy_9 12 rfl (fun x_2 hF => ?_)
    refine w_if_ne X hF 24 15 dX12_goesBy_12 (by decide) rfl (fun hF => ?_) (fun hF => ?_)
    · refine w_aload_n X 0 dX12_goesBy_15 rfl rfl 16 rfl ?_
      refine w_iload_n X 1 dX12_goesBy_16 rfl rfl 17 rfl ?_
      refine w_iload_n X 2 dX12_goesBy_17 rfl rfl 18 rfl ?_
      refine w_callVi (fun x => x.1) (fun x => x.2) X hZ hF [.int x1, .int x2] 0 ml_0 mo_0 rfl rfl rfl kB_X12_bans kL_X12_376 (fun res h => ct_X12_bans l hZ fu x1 x2 mem res h) rfl rfl rfl ⟨Nat.le_of_ble_eq_true rfl, Nat.le_of_ble_eq_true rfl⟩ (Nat.le_of_ble_eq_true rfl) ⟨Nat.zero_le _, Nat.zero_le _⟩ dX12_goesBy_18 21 rfl (fun p_3 hF => ?_)
      refine w_if_eq X hF 26 24 dX12_goesBy_21 (by decide) rfl (fun hF => ?_) (fun hF => ?_)
      · refine w_aload_n X 0 dX12_goesBy_26 rfl rfl 27 rfl ?_
        refine w_iload_n X 1 dX12_goesBy_27 rfl rfl 28 rfl ?_
        refine w_iconst X 0 dX12_goesBy_28 rfl 29 rfl ?_
        refine w_callVi (fun x => x) (fun _ => p_3.2) X hZ hF [.int x1, .int 0] 0 ml_0 mo_0 rfl rfl rfl kB_X12_of kL_X12_174 (fun res h => ct_X12_of l hZ fu x1 0 p_3.2 res h) rfl rfl rfl ⟨Nat.le_of_ble_eq_true rfl, Nat.le_of_ble_eq_true rfl⟩ (Nat.le_of_ble_eq_true rfl) ⟨Nat.zero_le _, Nat.zero_le _⟩ dX12_goesBy_29 32 rfl (fun x_4 hF => ?_)
        refine w_istore_n X [(3, .int x_4), (0, .ref (ad 0)), (1, .int x1), (2, .int x2)] dX12_goesBy_32 rfl (by decide) rfl 33 rfl ?_
        refine w_aload_n X 1 dX12_goesBy_33 rfl rfl 34 rfl ?_
        refine w_iload_n X 2 dX12_goesBy_34 rfl rfl 35 rfl ?_
        refine w_iconst X 1 dX12_goesBy_35 rfl 36 rfl ?_
        refine w_callVi (fun x => x) (fun _ => p_3.2) X hZ hF [.int x1, .int 1] 0 ml_0 mo_0 rfl rfl rfl kB_X12_of kL_X12_174 (fun res h => ct_X12_of l hZ fu x1 1 p_3.2 res h) rfl rfl rfl ⟨Nat.le_of_ble_eq_true rfl, Nat.le_of_ble_eq_true rfl⟩ (Nat.le_of_ble_eq_true rfl) ⟨Nat.zero_le _, Nat.zero_le _⟩ dX12_goesBy_36 39 rfl (fun x_5 hF => ?_)
        refine w_istore X [(4, .int x_5), (3, .int x_4), (0, .ref (ad 0)), (1, .int x1), (2, .int x2)] dX12_goesBy_39 (by decide) rfl 41 rfl ?_
        refine w_aload_n X 2 dX12_goesBy_41 rfl rfl 42 rfl ?_
        refine w_iload_n X 1 dX12_goesBy_42 rfl rfl 43 rfl ?_
        refine w_iload X 0 dX12_goesBy_43 rfl 45 rfl ?_
        refine w_iload_n X 4 dX12_goesBy_45 rfl rfl 46 rfl ?_
        refine w_callVi (fun x => x) (fun _ => p_3.2) X hZ hF [.int x_4, .int x_5, .int x2] 0 ml_0 mo_0 rfl rfl rfl kB_X12_blocks kL_X12_210 (fun res h => ct_X12_blocks l hZ fu x_4 x_5 x2 p_3.2 res h) rfl rfl rfl ⟨Nat.le_of_ble_eq_true rfl, Nat.le_of_ble_eq_true rfl⟩ (Nat.le_of_ble_eq_true rfl) ⟨Nat.zero_le _, Nat.zero_le _⟩ dX12_goesBy_46 49 rfl (fun x_6 hF => ?_)
        refine w_if_eq X hF 54 52 dX12_goesBy_49 (by decide) rfl (fun hF => ?_) (fun hF => ?_)
        · refine w_iload_n X 1 dX12_goesBy_54 rfl rfl 55 rfl ?_
          refine w_iload_n X 4 dX12_goesBy_55 rfl rfl 56 rfl ?_
          refine w_callSi (fun x => x) (fun _ => p_3.2) X hZ hF [.int x2] rfl kB_X12_across kL_X12_181 (fun res h => ct_X12_across l hZ fu x2 p_3.2 res h) rfl rfl rfl ⟨Nat.le_of_ble_eq_true rfl, Nat.le_of_ble_eq_true rfl⟩ (Nat.le_of_ble_eq_true rfl) ⟨Nat.zero_le _, Nat.zero_le _⟩ dX12_goesBy_56 59 rfl (fun x_7 hF => ?_)
          refine w_iadd X dX12_goesBy_59 60 rfl ?_
          refine w_let hF (fun x_8 hF => ?_)
          refine w_istore_n X [(3, .int x_8), (4, .int x_5), (0, .ref (ad 0)), (1, .int x1), (2, .int x2)] dX12_goesBy_60 rfl (by decide) rfl 61 rfl ?_
          refine w_iload X 1 dX12_goesBy_61 rfl 63 rfl ?_
          refine w_iload_n X 4 dX12_goesBy_63 rfl rfl 64 rfl ?_
          refine w_callSi (fun x => x) (fun _ => p_3.2) X hZ hF [.int x2] rfl kB_X12_up kL_X12_184 (fun res h => ct_X12_up l hZ fu x2 p_3.2 res h) rfl rfl rfl ⟨Nat.le_of_ble_eq_true rfl, Nat.le_of_ble_eq_true rfl⟩ (Nat.le_of_ble_eq_true rfl) ⟨Nat.zero_le _, Nat.zero_le _⟩ dX12_goesBy_64 67 rfl (fun x_9 hF => ?_)
          refine w_iadd X dX12_goesBy_67 68 rfl ?_
          refine w_let hF (fun x_10 hF => ?_)
          refine w_istore X [(4, .int x_10), (3, .int x_8), (0, .ref (ad 0)), (1, .int x1), (2, .int x2)] dX12_goesBy_68 (by decide) rfl 70 rfl ?_
          refine w_aload_n X 2 dX12_goesBy_70 rfl rfl 71 rfl ?_
          refine w_iload_n X 1 dX12_goesBy_71 rfl rfl 72 rfl ?_
          refine w_iload X 0 dX12_goesBy_72 rfl 74 rfl ?_
          refine w_callVi (fun x => x) (fun _ => p_3.2) X hZ hF [.int x_8, .int x_10] 0 ml_0 mo_0 rfl rfl rfl kB_X12_pawnIn kL_X12_259 (fun res h => ct_X12_pawnIn l hZ fu x_8 x_10 p_3.2 res h) rfl rfl rfl ⟨Nat.le_of_ble_eq_true rfl, Nat.le_of_ble_eq_true rfl⟩ (Nat.le_of_ble_eq_true rfl) ⟨Nat.zero_le _, Nat.zero_le _⟩ dX12_goesBy_74 77 rfl (fun x_11 hF => ?_)
          refine w_iconst X (-1) dX12_goesBy_77 rfl 78 rfl ?_
          refine w_icmp_ne X hF 83 81 dX12_goesBy_78 (by decide) rfl (fun hF => ?_) (fun hF => ?_)
          · refine w_iconst X 1 dX12_goesBy_81 rfl 82 rfl ?_
            exact w_iret X hQ (o_inj1 hF) (o_inj2 hF) rfl dX12_goesBy_82
          · refine w_aload_n X 2 dX12_goesBy_83 rfl rfl 84 rfl ?_
            refine w_iload_n X 1 dX12_goesBy_84 rfl rfl 85 rfl ?_
            refine w_iload X 0 dX12_goesBy_85 rfl 87 rfl ?_
            refine w_iload_n X 4 dX12_goesBy_87 rfl rfl 88 rfl ?_
            refine w_callVi (fun x => x) (fun _ => p_3.2) X hZ hF [.int x_8, .int x_10, .int x2] 0 ml_0 mo_0 rfl rfl rfl kB_X12_blocks kL_X12_210 (fun res h => ct_X12_blocks l hZ fu x_8 x_10 x2 p_3.2 res h) rfl rfl rfl ⟨Nat.le_of_ble_eq_true rfl, Nat.le_of_ble_eq_true rfl⟩ (Nat.le_of_ble_eq_true rfl) ⟨Nat.zero_le _, Nat.zero_le _⟩ dX12_goesBy_88 91 rfl (fun x_12 hF => ?_)
            refine w_if_eq X hF 96 94 dX12_goesBy_91 (by decide) rfl (fun hF => ?_) (fun hF => ?_)
            · refine w_aload_n X 2 dX12_goesBy_96 rfl rfl 97 rfl ?_
              refine w_iload_n X 1 dX12_goesBy_97 rfl rfl 98 rfl ?_
              refine w_iload_n X 4 dX12_goesBy_98 rfl rfl 99 rfl ?_
              refine w_callSi (fun x => x) (fun _ => p_3.2) X hZ hF [.int x2] rfl kB_X12_across kL_X12_181 (fun res h => ct_X12_across l hZ fu x2 p_3.2 res h) rfl rfl rfl ⟨Nat.le_of_ble_eq_true rfl, Nat.le_of_ble_eq_true rfl⟩ (Nat.le_of_ble_eq_true rfl) ⟨Nat.zero_le _, Nat.zero_le _⟩ dX12_goesBy_99 102 rfl (fun x_13 hF => ?_)
              refine w_iadd X dX12_goesBy_102 103 rfl ?_
              refine w_iload X 0 dX12_goesBy_103 rfl 105 rfl ?_
              refine w_iload_n X 4 dX12_goesBy_105 rfl rfl 106 rfl ?_
              refine w_callSi (fun x => x) (fun _ => p_3.2) X hZ hF [.int x2] rfl kB_X12_up kL_X12_184 (fun res h => ct_X12_up l hZ fu x2 p_3.2 res h) rfl rfl rfl ⟨Nat.le_of_ble_eq_true rfl, Nat.le_of_ble_eq_true rfl⟩ (Nat.le_of_ble_eq_true rfl) ⟨Nat.zero_le _, Nat.zero_le _⟩ dX12_goesBy_106 109 rfl (fun x_14 hF => ?_)
              refine w_iadd X dX12_goesBy_109 110 rfl ?_
              refine w_callVi (fun x => x) (fun _ => p_3.2) X hZ hF [.int (x_8 + x_13), .int (x_10 + x_14)] 0 ml_0 mo_0 rfl rfl rfl kB_X12_pawnIn kL_X12_259 (fun res h => ct_X12_pawnIn l hZ fu (x_8 + x_13) (x_10 + x_14) p_3.2 res h) rfl rfl rfl ⟨Nat.le_of_ble_eq_true rfl, Nat.le_of_ble_eq_true rfl⟩ (Nat.le_of_ble_eq_true rfl) ⟨Nat.zero_le _, Nat.zero_le _⟩ dX12_goesBy_110 113 rfl (fun x_15 hF => ?_)
              refine w_iconst X (-1) dX12_goesBy_113 rfl 114 rfl ?_
              refine w_icmp_ne X hF 121 117 dX12_goesBy_114 (by decide) rfl (fun hF => ?_) (fun hF => ?_)
              · refine w_iconst X 2 dX12_goesBy_117 rfl 118 rfl ?_
                refine w_goto X 122 dX12_goesBy_118 (by decide) ?_
                exact w_iret X hQ (o_inj1 hF) (o_inj2 hF) rfl dX12_goesBy_122
              · refine w_iconst X 0 dX12_goesBy_121 rfl 122 rfl ?_
                exact w_iret X hQ (o_inj1 hF) (o_inj2 hF) rfl dX12_goesBy_122
            · refine w_iconst X 0 dX12_goesBy_94 rfl 95 rfl ?_
              exact w_iret X hQ (o_inj1 hF) (o_inj2 hF) rfl dX12_goesBy_95
        · refine w_iconst X 0 dX12_goesBy_52 rfl 53 rfl ?_
          exact w_iret X hQ (o_inj1 hF) (o_inj2 hF) rfl dX12_goesBy_53
      · refine w_iconst X 0 dX12_goesBy_24 rfl 25 rfl ?_
        exact w_iret X hQ (o_inj1 hF) (o_inj2 hF) rfl dX12_goesBy_25
    · refine w_iconst X 0 dX12_goesBy_24 rfl 25 rfl ?_
      exact w_iret X hQ (o_inj1 hF) (o_inj2 hF) rfl dX12_goesBy_25
  · refine w_iconst X 0 dX12_goesBy_24 rfl 25 rfl ?_
    exact w_iret X hQ (o_inj1 hF) (o_inj2 hF) rfl dX12_goesBy_25

def K_X12_advises_84 (fu : Nat) (k_17 : Int32 → Int32 → Int32 → Int32 → Mem → Option (Int32 × Mem)) (x1 : Int32) (x4 : Int32) (x6 : Int32) (mem : Mem) : Option (Int32 × Mem) := (k_17 x1 x4 x6 (x4 + 1) mem)
def K_X12_advises_17 (fu : Nat) : Nat → Int32 → Int32 → Int32 → Int32 → Mem → Option (Int32 × Mem)
  | 0, _, _, _, _, _ => none
  | n + 1, x1, x2, x3, x4, mem => (if x4 < 4 then bd (K_X12_goesBy fu x1 x4 mem) (fun p_3 => lt_ p_3.1 (fun x_4 => (if x_4 = 0 then (K_X12_advises_17 fu n x1 x2 x3 (x4 + 1) p_3.2) else bd (K_X12_cellOf fu x1 p_3.2) (fun x_5 => bd (K_X12_up fu x4 p_3.2) (fun x_6 => bd (K_X12_across fu x4 p_3.2) (fun x_7 => gi (x_5 + (x_4 * ((9 * x_6) + x_7))) 81 (lt_ (rd p_3.2 7 (Int32.toNatClampNeg (x_5 + (x_4 * ((9 * x_6) + x_7))))) (fun x_9 => (if x2 = (-1) then (K_X12_advises_84 fu (K_X12_advises_17 fu n) x1 x4 x_9 p_3.2) else (if x_9 < x3 then (K_X12_advises_84 fu (K_X12_advises_17 fu n) x1 x4 x_9 p_3.2) else (K_X12_advises_17 fu n x1 x2 x3 (x4 + 1) p_3.2))))))))))) else some (x2, mem))
def K_X12_advises (fu : Nat) (x1 : Int32) (mem : Mem) : Option (Int32 × Mem) := bd (K_X12_of fu x1 2 mem) (fun x_1 => bd (K_X12_lays fu x_1 mem) (fun m_2 => (K_X12_advises_17 fu fu x1 (-1) 0 0 m_2)))
def rm_X12_advises : Room := { frames := 6, cells := 0, slots := 0, locals := 143 }
set_option maxHeartbeats 4000000 in
set_option maxRecDepth 100000 in
theorem ct_X12_advises (l : Launch) {D : va_G} {ca ad : Nat → Nat} {Z : (Nat → Prop) → State → Heap → Prop} (hZ : ZOK Z) (fu : Nat) (x1 : Int32) (mem : Mem) (res : (Int32 × Mem)) (hF : K_X12_advises fu x1 mem = some res) : CI l D (tyL ca) 23 ad (cM ca ad) Z yX12_advises cX12_advises 7 .int rm_X12_advises [.ref (ad 0), .int x1] mem res.1 res.2 := by
  refine start_i (own := RX12) rfl (by decide) (Nat.le_of_ble_eq_true rfl) ?_
  intro p e s m args below meth c Q hQ X
  rw [K_X12_advises] at hF
  revert hF
  have w_84 : ∀ (k_17 : Int32 → Int32 → Int32 → Int32 → Mem → Option (Int32 × Mem)) (hk_17 : ∀ (x1 : Int32) (x2 : Int32) (x3 : Int32) (x4 : Int32) (mem : Mem), k_17 x1 x2 x3 x4 mem = some res → WW D 23 ad (cM ca ad) p l e rm_X12_advises s m args below meth c 7 0 0 Q mem 17 [(0, .ref (ad 0)), (1, .int x1), (2, .int x2), (3, .int x3), (4, .int x4)] []) (x1 : Int32) (x4 : Int32) (x6 : Int32) (mem : Mem), K_X12_advises_84 fu k_17 x1 x4 x6 mem = some res → WW D 23 ad (cM ca ad) p l e rm_X12_advises s m args below meth c 7 0 0 Q mem 84 [(0, .ref (ad 0)), (1, .int x1), (4, .int x4), (6, .int x6)] [] := by
    intro k_17 hk_17 x1 x4 x6 mem hF
    rw [K_X12_advises_84] at hF
    refine w_iload X 2 dX12_advises_84 rfl 86 rfl ?_
    refine w_istore_n X [(2, .int x4), (0, .ref (ad 0)), (1, .int x1), (4, .int x4), (6, .int x6)] dX12_advises_86 rfl (by decide) rfl 87 rfl ?_
    refine w_iload X 4 dX12_advises_87 rfl 89 rfl ?_
    refine w_istore_n X [(3, .int x6), (2, .int x4), (0, .ref (ad 0)), (1, .int x1), (4, .int x4), (6, .int x6)] dX12_advises_89 rfl (by decide) rfl 90 rfl ?_
    refine w_iinc X 4 (x4 + 1) [(4, .int (x4 + 1)), (3, .int x6), (2, .int x4), (0, .ref (ad 0)), (1, .int x1), (6, .int x6)] dX12_advises_90 rfl rfl (by decide) rfl 93 rfl ?_
    refine w_goto X 17 dX12_advises_93 (by decide) ?_
    refine w_keep [3, 4, 2, 1, 0] rfl ?_
    exact hk_17 x1 x4 x6 (x4 + 1) mem hF
  have w_17 : ∀ (n : Nat) (x1 : Int32) (x2 : Int32) (x3 : Int32) (x4 : Int32) (mem : Mem), K_X12_advises_17 fu n x1 x2 x3 x4 mem = some res → WW D 23 ad (cM ca ad) p l e rm_X12_advises s m args below meth c 7 0 0 Q mem 17 [(0, .ref (ad 0)), (1, .int x1), (2, .int x2), (3, .int x3), (4, .int x4)] [] := by
    intro n
    induction n with
    | zero => intro x1 x2 x3 x4 mem hF; exact no_none (show (none : Option (Int32 × Mem)) = some res from hF)
    | succ n ih =>
      intro x1 x2 x3 x4 mem hF
      rw [K_X12_advises_17] at hF
      refine w_iload X 4 dX12_advises_17 rfl 19 rfl ?_
      refine w_iconst X 4 dX12_advises_19 rfl 20 rfl ?_
      refine w_icmp_ge X hF 96 23 dX12_advises_20 (by decide) rfl (fun hF => ?_) (fun hF => ?_)
      · refine w_aload_n X 0 dX12_advises_23 rfl rfl 24 rfl ?_
        refine w_iload_n X 1 dX12_advises_24 rfl rfl 25 rfl ?_
        refine w_iload X 4 dX12_advises_25 rfl 27 rfl ?_
        refine w_callVi (fun x => x.1) (fun x => x.2) X hZ hF [.int x1, .int x4] 0 ml_0 mo_0 rfl rfl rfl kB_X12_goesBy kL_X12_379 (fun res h => ct_X12_goesBy l hZ fu x1 x4 mem res h) rfl rfl rfl ⟨Nat.le_of_ble_eq_true rfl, Nat.le_of_ble_eq_true rfl⟩ (Nat.le_of_ble_eq_true rfl) ⟨Nat.zero_le _, Nat.zero_le _⟩ dX12_advises_27 30 rfl (fun p_3 hF => ?_)
        refine w_let hF (fun x_4 hF => ?_)
        refine w_istore X [(5, .int x_4), (0, .ref (ad 0)), (1, .int x1), (2, .int x2), (3, .int x3), (4, .int x4)] dX12_advises_30 (by decide) rfl 32 rfl ?_
        refine w_iload X 0 dX12_advises_32 rfl 34 rfl ?_
        refine w_if_ne X hF 40 37 dX12_advises_34 (by decide) rfl (fun hF => ?_) (fun hF => ?_)
        · refine w_goto X 90 dX12_advises_37 (by decide) ?_
          refine w_iinc X 5 (x4 + 1) [(4, .int (x4 + 1)), (5, .int x_4), (0, .ref (ad 0)), (1, .int x1), (2, .int x2), (3, .int x3)] dX12_advises_90 rfl rfl (by decide) rfl 93 rfl ?_
          refine w_goto X 17 dX12_advises_93 (by decide) ?_
          refine w_keep [2, 3, 4, 5, 0] rfl ?_
          exact ih x1 x2 x3 (x4 + 1) p_3.2 hF
        · refine w_aload_n X 1 dX12_advises_40 rfl rfl 41 rfl ?_
          refine w_getV (v := .ref (ad 7)) X 0 ml_0 mo_0 (T := TX12) (N := 50) rfl in_X12 20 (by decide) kF_X12_35 rfl rfl dX12_advises_41 44 rfl ?_
          refine w_aload_n X 1 dX12_advises_44 rfl rfl 45 rfl ?_
          refine w_iload_n X 2 dX12_advises_45 rfl rfl 46 rfl ?_
          refine w_callVi (fun x => x) (fun _ => p_3.2) X hZ hF [.int x1] 0 ml_0 mo_0 rfl rfl rfl kB_X12_cellOf kL_X12_219 (fun res h => ct_X12_cellOf l hZ fu x1 p_3.2 res h) rfl rfl rfl ⟨Nat.le_of_ble_eq_true rfl, Nat.le_of_ble_eq_true rfl⟩ (Nat.le_of_ble_eq_true rfl) ⟨Nat.zero_le _, Nat.zero_le _⟩ dX12_advises_46 49 rfl (fun x_5 hF => ?_)
          refine w_iload X 0 dX12_advises_49 rfl 51 rfl ?_
          refine w_bipush X 9 dX12_advises_51 rfl 53 rfl ?_
          refine w_iload X 5 dX12_advises_53 rfl 55 rfl ?_
          refine w_callSi (fun x => x) (fun _ => p_3.2) X hZ hF [.int x4] rfl kB_X12_up kL_X12_184 (fun res h => ct_X12_up l hZ fu x4 p_3.2 res h) rfl rfl rfl ⟨Nat.le_of_ble_eq_true rfl, Nat.le_of_ble_eq_true rfl⟩ (Nat.le_of_ble_eq_true rfl) ⟨Nat.zero_le _, Nat.zero_le _⟩ dX12_advises_55 58 rfl (fun x_6 hF => ?_)
          refine w_imul X dX12_advises_58 59 rfl ?_
          refine w_iload X 5 dX12_advises_59 rfl 61 rfl ?_
          refine w_callSi (fun x => x) (fun _ => p_3.2) X hZ hF [.int x4] rfl kB_X12_across kL_X12_181 (fun res h => ct_X12_across l hZ fu x4 p_3.2 res h) rfl rfl rfl ⟨Nat.le_of_ble_eq_true rfl, Nat.le_of_ble_eq_true rfl⟩ (Nat.le_of_ble_eq_true rfl) ⟨Nat.zero_le _, Nat.zero_le _⟩ dX12_advises_61 64 rfl (fun x_7 hF => ?_)
          refine w_iadd X dX12_advises_64 65 rfl ?_
          refine w_imul X dX12_advises_65 66 rfl ?_
          refine w_iadd X dX12_advises_66 67 rfl ?_
          refine w_gi hF (fun h_8 hF => ?_)
          refine w_ial X 7 ml_7 mo_7 (t0 := 0) rfl h_8 dX12_advises_67 68 rfl ?_
          refine w_let hF (fun x_9 hF => ?_)
          refine w_istore X [(6, .int x_9), (5, .int x_4), (0, .ref (ad 0)), (1, .int x1), (2, .int x2), (3, .int x3), (4, .int x4)] dX12_advises_68 (by decide) rfl 70 rfl ?_
          refine w_iload_n X 4 dX12_advises_70 rfl rfl 71 rfl ?_
          refine w_iconst X (-1) dX12_advises_71 rfl 72 rfl ?_
          refine w_icmp_eq X hF 84 75 dX12_advises_72 (by decide) rfl (fun hF => ?_) (fun hF => ?_)
          · refine w_keep [2, 3, 6, 0] rfl ?_
            exact w_84 (K_X12_advises_17 fu n) ih x1 x4 x_9 p_3.2 hF
          · refine w_iload X 0 dX12_advises_75 rfl 77 rfl ?_
            refine w_iload_n X 5 dX12_advises_77 rfl rfl 78 rfl ?_
            refine w_icmp_lt X hF 84 81 dX12_advises_78 (by decide) rfl (fun hF => ?_) (fun hF => ?_)
            · refine w_keep [2, 3, 6, 0] rfl ?_
              exact w_84 (K_X12_advises_17 fu n) ih x1 x4 x_9 p_3.2 hF
            · refine w_goto X 90 dX12_advises_81 (by decide) ?_
              refine w_iinc X 6 (x4 + 1) [(4, .int (x4 + 1)), (6, .int x_9), (5, .int x_4), (0, .ref (ad 0)), (1, .int x1), (2, .int x2), (3, .int x3)] dX12_advises_90 rfl rfl (by decide) rfl 93 rfl ?_
              refine w_goto X 17 dX12_advises_93 (by decide) ?_
              refine w_keep [3, 4, 5, 6, 0] rfl ?_
              exact ih x1 x2 x3 (x4 + 1) p_3.2 hF
      · refine w_iload_n X 2 dX12_advises_96 rfl rfl 97 rfl ?_
        exact w_iret X hQ (o_inj1 hF) (o_inj2 hF) rfl dX12_advises_97
  intro hF
  refine w_iconst X (-1) dX12_advises_0 rfl 1 rfl ?_
  refine w_istore_n X [(2, .int (-1)), (0, .ref (ad 0)), (1, .int x1)] dX12_advises_1 rfl (by decide) rfl 2 rfl ?_
  refine w_iconst X 0 dX12_advises_2 rfl 3 rfl ?_
  refine w_istore_n X [(3, .int 0), (2, .int (-1)), (0, .ref (ad 0)), (1, .int x1)] dX12_advises_3 rfl (by decide) rfl 4 rfl ?_
  refine w_aload_n X 2 dX12_advises_4 rfl rfl 5 rfl ?_
  refine w_aload_n X 2 dX12_advises_5 rfl rfl 6 rfl ?_
  refine w_iload_n X 3 dX12_advises_6 rfl rfl 7 rfl ?_
  refine w_iconst X 2 dX12_advises_7 rfl 8 rfl ?_
  refine w_callVi (fun x => x) (fun _ => mem) X hZ hF [.int x1, .int 2] 0 ml_0 mo_0 rfl rfl rfl kB_X12_of kL_X12_174 (fun res h => ct_X12_of l hZ fu x1 2 mem res h) rfl rfl rfl ⟨Nat.le_of_ble_eq_true rfl, Nat.le_of_ble_eq_true rfl⟩ (Nat.le_of_ble_eq_true rfl) ⟨Nat.zero_le _, Nat.zero_le _⟩ dX12_advises_8 11 rfl (fun x_1 hF => ?_)
  refine w_callVv (fun m => m) X hZ hF [.int x_1] 0 ml_0 mo_0 rfl rfl rfl kB_X12_lays kL_X12_216 (fun res h => ct_X12_lays l hZ fu x_1 mem res h) rfl rfl rfl ⟨Nat.le_of_ble_eq_true rfl, Nat.le_of_ble_eq_true rfl⟩ (Nat.le_of_ble_eq_true rfl) ⟨Nat.zero_le _, Nat.zero_le _⟩ dX12_advises_11 14 rfl (fun m_2 hF => ?_)
  refine w_iconst X 0 dX12_advises_14 rfl 15 rfl ?_
  refine w_istore X [(4, .int 0), (3, .int 0), (2, .int (-1)), (0, .ref (ad 0)), (1, .int x1)] dX12_advises_15 (by decide) rfl 17 rfl ?_
  refine w_keep [3, 4, 2, 1, 0] rfl ?_
  exact w_17 fu x1 (-1) 0 0 m_2 hF

def K_X12_advised (fu : Nat) (x1 : Int32) (mem : Mem) : Option (Int32 × Mem) := bd (K_X12_isPawn fu x1 mem) (fun x_1 => bd (K_X12_goes fu x_1 mem) (fun p_2 => (if p_2.1 = 0 then some (0, p_2.2) else bd (K_X12_advises fu x1 p_2.2) (fun p_3 => some (p_3.1, p_3.2)))))
def rm_X12_advised : Room := { frames := 7, cells := 0, slots := 0, locals := 169 }
set_option maxHeartbeats 4000000 in
set_option maxRecDepth 100000 in
theorem ct_X12_advised (l : Launch) {D : va_G} {ca ad : Nat → Nat} {Z : (Nat → Prop) → State → Heap → Prop} (hZ : ZOK Z) (fu : Nat) (x1 : Int32) (mem : Mem) (res : (Int32 × Mem)) (hF : K_X12_advised fu x1 mem = some res) : CI l D (tyL ca) 23 ad (cM ca ad) Z yX12_advised cX12_advised 2 .int rm_X12_advised [.ref (ad 0), .int x1] mem res.1 res.2 := by
  refine start_i (own := RX12) rfl (by decide) (Nat.le_of_ble_eq_true rfl) ?_
  intro p e s m args below meth c Q hQ X
  rw [K_X12_advised] at hF
  revert hF
  intro hF
  refine w_aload_n X 0 dX12_advised_0 rfl rfl 1 rfl ?_
  refine w_aload_n X 0 dX12_advised_1 rfl rfl 2 rfl ?_
  refine w_iload_n X 1 dX12_advised_2 rfl rfl 3 rfl ?_
  refine w_callVi (fun x => x) (fun _ => mem) X hZ hF [.int x1] 0 ml_0 mo_0 rfl rfl rfl kB_X12_isPawn kL_X12_339 (fun res h => ct_X12_isPawn l hZ fu x1 mem res h) rfl rfl rfl ⟨Nat.le_of_ble_eq_true rfl, Nat.le_of_ble_eq_true rfl⟩ (Nat.le_of_ble_eq_true rfl) ⟨Nat.zero_le _, Nat.zero_le _⟩ dX12_advised_3 6 rfl (fun x_1 hF => ?_)
  refine w_callVi (fun x => x.1) (fun x => x.2) X hZ hF [.int x_1] 0 ml_0 mo_0 rfl rfl rfl kB_X12_goes kL_X12_98 (fun res h => ct_X12_goes l hZ fu x_1 mem res h) rfl rfl rfl ⟨Nat.le_of_ble_eq_true rfl, Nat.le_of_ble_eq_true rfl⟩ (Nat.le_of_ble_eq_true rfl) ⟨Nat.zero_le _, Nat.zero_le _⟩ dX12_advised_6 9 rfl (fun p_2 hF => ?_)
  refine w_if_eq X hF 20 12 dX12_advised_9 (by decide) rfl (fun hF => ?_) (fun hF => ?_)
  · refine w_iconst X 0 dX12_advised_20 rfl 21 rfl ?_
    exact w_iret X hQ (o_inj1 hF) (o_inj2 hF) rfl dX12_advised_21
  · refine w_aload_n X 0 dX12_advised_12 rfl rfl 13 rfl ?_
    refine w_iload_n X 1 dX12_advised_13 rfl rfl 14 rfl ?_
    refine w_callVi (fun x => x.1) (fun x => x.2) X hZ hF [.int x1] 0 ml_0 mo_0 rfl rfl rfl kB_X12_advises kL_X12_420 (fun res h => ct_X12_advises l hZ fu x1 p_2.2 res h) rfl rfl rfl ⟨Nat.le_of_ble_eq_true rfl, Nat.le_of_ble_eq_true rfl⟩ (Nat.le_of_ble_eq_true rfl) ⟨Nat.zero_le _, Nat.zero_le _⟩ dX12_advised_14 17 rfl (fun p_3 hF => ?_)
    refine w_goto X 21 dX12_advised_17 (by decide) ?_
    exact w_iret X hQ (o_inj1 hF) (o_inj2 hF) rfl dX12_advised_21

def K_X12_bansOf_37 (fu : Nat) (mem : Mem) (k_4 : Int32 → Int32 → Int32 → Option Int32) (x1 : Int32) (x3 : Int32) (xs0 : Int32) (xs1 : Int32) : Option Int32 := bd (K_X12_truth fu xs0 mem) (fun x_3 => lt_ (xs1 + x_3) (fun x_4 => (k_4 x1 x_4 (x3 + 1) )))
def K_X12_bansOf_4 (fu : Nat) (mem : Mem) : Nat → Int32 → Int32 → Int32 → Option Int32
  | 0, _, _, _ => none
  | n + 1, x1, x2, x3 => gi 6 184 ((if x3 < (rd mem 2 (Int32.toNatClampNeg 6)) then gi (36 + (7 * x3)) 184 ((if (rd mem 2 (Int32.toNatClampNeg (36 + (7 * x3)))) = x1 then (K_X12_bansOf_37 fu mem (K_X12_bansOf_4 fu mem n) x1 x3 1 x2 ) else (K_X12_bansOf_37 fu mem (K_X12_bansOf_4 fu mem n) x1 x3 0 x2 ))) else some x2))
def K_X12_bansOf (fu : Nat) (x1 : Int32) (mem : Mem) : Option Int32 := (K_X12_bansOf_4 fu mem fu x1 0 0 )
def rm_X12_bansOf : Room := { frames := 1, cells := 0, slots := 0, locals := 20 }
set_option maxHeartbeats 4000000 in
set_option maxRecDepth 100000 in
theorem ct_X12_bansOf (l : Launch) {D : va_G} {ca ad : Nat → Nat} {Z : (Nat → Prop) → State → Heap → Prop} (hZ : ZOK Z) (fu : Nat) (x1 : Int32) (mem : Mem) (res : Int32) (hF : K_X12_bansOf fu x1 mem = some res) : CI l D (tyL ca) 23 ad (cM ca ad) Z yX12_bansOf cX12_bansOf 4 .int rm_X12_bansOf [.ref (ad 0), .int x1] mem res mem := by
  refine start_i (own := RX12) rfl (by decide) (Nat.le_of_ble_eq_true rfl) ?_
  intro p e s m args below meth c Q hQ X
  rw [K_X12_bansOf] at hF
  revert hF
  have w_37 : ∀ (k_4 : Int32 → Int32 → Int32 → Option Int32) (hk_4 : ∀ (x1 : Int32) (x2 : Int32) (x3 : Int32), k_4 x1 x2 x3 = some res → WW D 23 ad (cM ca ad) p l e rm_X12_bansOf s m args below meth c 4 0 0 Q mem 4 [(0, .ref (ad 0)), (1, .int x1), (2, .int x2), (3, .int x3)] []) (x1 : Int32) (x3 : Int32) (xs0 : Int32) (xs1 : Int32), K_X12_bansOf_37 fu mem k_4 x1 x3 xs0 xs1 = some res → WW D 23 ad (cM ca ad) p l e rm_X12_bansOf s m args below meth c 4 0 0 Q mem 37 [(0, .ref (ad 0)), (1, .int x1), (3, .int x3)] [.int xs0, .int xs1] := by
    intro k_4 hk_4 x1 x3 xs0 xs1 hF
    rw [K_X12_bansOf_37] at hF
    refine w_callSi (fun x => x) (fun _ => mem) X hZ hF [.int xs0] rfl kB_X12_truth kL_X12_91 (fun res h => ct_X12_truth l hZ fu xs0 mem res h) rfl rfl rfl ⟨Nat.le_of_ble_eq_true rfl, Nat.le_of_ble_eq_true rfl⟩ (Nat.le_of_ble_eq_true rfl) ⟨Nat.zero_le _, Nat.zero_le _⟩ dX12_bansOf_37 40 rfl (fun x_3 hF => ?_)
    refine w_iadd X dX12_bansOf_40 41 rfl ?_
    refine w_let hF (fun x_4 hF => ?_)
    refine w_istore_n X [(2, .int x_4), (0, .ref (ad 0)), (1, .int x1), (3, .int x3)] dX12_bansOf_41 rfl (by decide) rfl 42 rfl ?_
    refine w_iinc X 3 (x3 + 1) [(3, .int (x3 + 1)), (2, .int x_4), (0, .ref (ad 0)), (1, .int x1)] dX12_bansOf_42 rfl rfl (by decide) rfl 45 rfl ?_
    refine w_goto X 4 dX12_bansOf_45 (by decide) ?_
    refine w_keep [2, 3, 1, 0] rfl ?_
    exact hk_4 x1 x_4 (x3 + 1)  hF
  have w_4 : ∀ (n : Nat) (x1 : Int32) (x2 : Int32) (x3 : Int32), K_X12_bansOf_4 fu mem n x1 x2 x3 = some res → WW D 23 ad (cM ca ad) p l e rm_X12_bansOf s m args below meth c 4 0 0 Q mem 4 [(0, .ref (ad 0)), (1, .int x1), (2, .int x2), (3, .int x3)] [] := by
    intro n
    induction n with
    | zero => intro x1 x2 x3 hF; exact no_none (show (none : Option Int32) = some res from hF)
    | succ n ih =>
      intro x1 x2 x3 hF
      rw [K_X12_bansOf_4] at hF
      refine w_iload_n X 3 dX12_bansOf_4 rfl rfl 5 rfl ?_
      refine w_aload_n X 0 dX12_bansOf_5 rfl rfl 6 rfl ?_
      refine w_getV (v := .ref (ad 2)) X 0 ml_0 mo_0 (T := TX12) (N := 50) rfl in_X12 13 (by decide) kF_X12_20 rfl rfl dX12_bansOf_6 9 rfl ?_
      refine w_bipush X 6 dX12_bansOf_9 rfl 11 rfl ?_
      refine w_gi hF (fun h_1 hF => ?_)
      refine w_ial X 2 ml_2 mo_2 (t0 := 0) rfl h_1 dX12_bansOf_11 12 rfl ?_
      refine w_icmp_ge X hF 48 15 dX12_bansOf_12 (by decide) rfl (fun hF => ?_) (fun hF => ?_)
      · refine w_iload_n X 2 dX12_bansOf_15 rfl rfl 16 rfl ?_
        refine w_aload_n X 0 dX12_bansOf_16 rfl rfl 17 rfl ?_
        refine w_getV (v := .ref (ad 2)) X 0 ml_0 mo_0 (T := TX12) (N := 50) rfl in_X12 13 (by decide) kF_X12_20 rfl rfl dX12_bansOf_17 20 rfl ?_
        refine w_bipush X 36 dX12_bansOf_20 rfl 22 rfl ?_
        refine w_bipush X 7 dX12_bansOf_22 rfl 24 rfl ?_
        refine w_iload_n X 3 dX12_bansOf_24 rfl rfl 25 rfl ?_
        refine w_imul X dX12_bansOf_25 26 rfl ?_
        refine w_iadd X dX12_bansOf_26 27 rfl ?_
        refine w_gi hF (fun h_2 hF => ?_)
        refine w_ial X 2 ml_2 mo_2 (t0 := 0) rfl h_2 dX12_bansOf_27 28 rfl ?_
        refine w_iload_n X 1 dX12_bansOf_28 rfl rfl 29 rfl ?_
        refine w_icmp_ne X hF 36 32 dX12_bansOf_29 (by decide) rfl (fun hF => ?_) (fun hF => ?_)
        · refine w_iconst X 1 dX12_bansOf_32 rfl 33 rfl ?_
          refine w_goto X 37 dX12_bansOf_33 (by decide) ?_
          refine w_keep [0, 1, 3] rfl ?_
          exact w_37 (K_X12_bansOf_4 fu mem n) ih x1 x3 1 x2  hF
        · refine w_iconst X 0 dX12_bansOf_36 rfl 37 rfl ?_
          refine w_keep [0, 1, 3] rfl ?_
          exact w_37 (K_X12_bansOf_4 fu mem n) ih x1 x3 0 x2  hF
      · refine w_iload_n X 2 dX12_bansOf_48 rfl rfl 49 rfl ?_
        exact w_iret X hQ (o_inj hF) rfl rfl dX12_bansOf_49
  intro hF
  refine w_iconst X 0 dX12_bansOf_0 rfl 1 rfl ?_
  refine w_istore_n X [(2, .int 0), (0, .ref (ad 0)), (1, .int x1)] dX12_bansOf_1 rfl (by decide) rfl 2 rfl ?_
  refine w_iconst X 0 dX12_bansOf_2 rfl 3 rfl ?_
  refine w_istore_n X [(3, .int 0), (2, .int 0), (0, .ref (ad 0)), (1, .int x1)] dX12_bansOf_3 rfl (by decide) rfl 4 rfl ?_
  refine w_keep [2, 3, 1, 0] rfl ?_
  exact w_4 fu x1 0 0  hF
end Km0
